section
variable {l : Launch} {D : va_G} {cA : Nat → ClassId} {h0 : Nat} {ad : Ad_} {sh : Sh_} {P : Px_} {σ : St_}
theorem dJ0_coder_7d493_0 : decode cJ0_coder_7d493 0 = .ok (.getstatic 38, 3) := by decide +kernel
theorem dJ0_coder_7d493_3 : decode cJ0_coder_7d493 3 = .ok (.ifCond .eq 10, 3) := by decide +kernel
theorem dJ0_coder_7d493_6 : decode cJ0_coder_7d493 6 = .ok (.aload_n 0, 1) := by decide +kernel
theorem dJ0_coder_7d493_7 : decode cJ0_coder_7d493 7 = .ok (.getfield 15, 3) := by decide +kernel
theorem dJ0_coder_7d493_10 : decode cJ0_coder_7d493 10 = .ok (.goto 4, 3) := by decide +kernel
theorem dJ0_coder_7d493_13 : decode cJ0_coder_7d493 13 = .ok (.iconst 1, 1) := by decide +kernel
theorem dJ0_coder_7d493_14 : decode cJ0_coder_7d493 14 = .ok (.ireturn, 1) := by decide +kernel
theorem wl_RJ0_38 : Cond.fieldLink RJ0 38 "java/lang/String" "COMPACT_STRINGS" "Z" ∈ TB := tbm 712 (by decide +kernel) (by decide +kernel)
theorem wl_RJ0_15 : Cond.fieldLink RJ0 15 "java/lang/String" "coder" "B" ∈ TB := tbm 2202 (by decide +kernel) (by decide +kernel)
def mJ0_coder_7d493 (t : Nat) (σ : St_) : Option Int32 :=
 (if (1 : Int32) = 0 then
 (if isY (1 : Int32) = true then some (1 : Int32) else none)
 else (if isY (0 : Int32) = true then some (0 : Int32) else none))
set_option maxHeartbeats 4000000 in
theorem rJ0_coder_7d493 (t : Nat) (hT : t < 2) : Rj l D cA h0 ad yJ0_coder_7d493 cJ0_coder_7d493 1 (some .byte) false 2 0 0 (fun b => (some (.int b), sh, P, σ)) [.ref (ad.1 t)] sh P σ (mJ0_coder_7d493 t σ) := by
  rw [mJ0_coder_7d493]
  refine Rj.of (by decide) (fun h => by cases h) (Nat.le_of_ble_eq_true rfl) ?_
  refine tj_lv0 (lv' := [(0, .ref (ad.1 t))]) rfl ?_
  refine tj_getCS (q := 3) wl_RJ0_38 dJ0_coder_7d493_0 rfl ?_
  refine tj_if_eq (tgt := 13) (q := 6) dJ0_coder_7d493_3 (by decide) rfl ?_ ?_
  · refine tj_iconst (q := 14) (v := 1) dJ0_coder_7d493_13 rfl (by decide) ?_
    exact tj_yret rfl rfl (Nat.le_of_ble_eq_true rfl) (Nat.le_of_ble_eq_true rfl) dJ0_coder_7d493_14
  · refine tj_aload_n (q := 7) dJ0_coder_7d493_6 rfl (i := 0) rfl (pl := 0) rfl ?_
    refine tj_getSC (q := 10) hT wl_RJ0_15 dJ0_coder_7d493_7 rfl ?_
    refine tj_goto (q := 14) dJ0_coder_7d493_10 (by decide) ?_
    exact tj_yret rfl rfl (Nat.le_of_ble_eq_true rfl) (Nat.le_of_ble_eq_true rfl) dJ0_coder_7d493_14

theorem dJ0_length_8abf5_0 : decode cJ0_length_8abf5 0 = .ok (.aload_n 0, 1) := by decide +kernel
theorem dJ0_length_8abf5_1 : decode cJ0_length_8abf5 1 = .ok (.getfield 9, 3) := by decide +kernel
theorem dJ0_length_8abf5_4 : decode cJ0_length_8abf5 4 = .ok (.arraylength, 1) := by decide +kernel
theorem dJ0_length_8abf5_5 : decode cJ0_length_8abf5 5 = .ok (.aload_n 0, 1) := by decide +kernel
theorem dJ0_length_8abf5_6 : decode cJ0_length_8abf5 6 = .ok (.invokevirtual 335, 3) := by decide +kernel
theorem dJ0_length_8abf5_9 : decode cJ0_length_8abf5 9 = .ok (.ishr, 1) := by decide +kernel
theorem dJ0_length_8abf5_10 : decode cJ0_length_8abf5 10 = .ok (.ireturn, 1) := by decide +kernel
theorem wl_RJ0_9 : Cond.fieldLink RJ0 9 "java/lang/String" "value" "[B" ∈ TB := tbm 2201 (by decide +kernel) (by decide +kernel)
theorem wm_J0_coder_7d493 : Cond.instanceMethod yJ0_coder_7d493 ∈ TB ∧ Cond.selects yJ0_coder_7d493.cls yJ0_coder_7d493 yJ0_coder_7d493 ∈ TB ∧ Cond.initialized yJ0_coder_7d493.cls ∈ TB ∧ Cond.code yJ0_coder_7d493 cJ0_coder_7d493 1 (some .byte) ∈ TB ∧ (yJ0_coder_7d493.cls ≠ "java/lang/invoke/MethodHandle" ∧ yJ0_coder_7d493.cls ≠ "java/lang/invoke/VarHandle" ∧ (parseMethodDescriptor yJ0_coder_7d493.desc).map (fun d => d.parameters.length) = some 0) ∧ 1 ≤ 21 := ⟨tbm 709 (by decide +kernel) (by decide +kernel), tbm 710 (by decide +kernel) (by decide +kernel), tbm 147 (by decide +kernel) (by decide +kernel), tbm 711 (by decide +kernel) (by decide +kernel), by decide +kernel, by decide⟩
theorem wi_RJ0_335 : Iv RJ0 335 yJ0_coder_7d493 cJ0_coder_7d493 1 (some .byte) 0 := ⟨tbm 708 (by decide +kernel) (by decide +kernel), wm_J0_coder_7d493⟩
def mJ0_length_8abf5 (t : Nat) (σ : St_) : Option Int32 :=
 ((mJ0_coder_7d493 t σ).bind fun r1 =>
 (some ((Int32.ofNat (SLEN.getD t 0)) >>> (r1 &&& 31))))
set_option maxHeartbeats 4000000 in
theorem rJ0_length_8abf5 (t : Nat) (hT : t < 2) : Rj l D cA h0 ad yJ0_length_8abf5 cJ0_length_8abf5 1 (some .int) false 3 0 0 (fun b => (some (.int b), sh, P, σ)) [.ref (ad.1 t)] sh P σ (mJ0_length_8abf5 t σ) := by
  rw [mJ0_length_8abf5]
  refine Rj.of (by decide) (fun h => by cases h) (Nat.le_of_ble_eq_true rfl) ?_
  refine tj_lv0 (lv' := [(0, .ref (ad.1 t))]) rfl ?_
  refine tj_aload_n (q := 1) dJ0_length_8abf5_0 rfl (i := 0) rfl (pl := 0) rfl ?_
  refine tj_getSV (q := 4) hT wl_RJ0_9 dJ0_length_8abf5_1 rfl ?_
  refine tj_bylen (q := 5) hT dJ0_length_8abf5_4 rfl ?_
  refine tj_aload_n (q := 6) dJ0_length_8abf5_5 rfl (i := 0) rfl (pl := 0) rfl ?_
  refine tj_callIp (q := 9) (kj_T (As := []) (rest := [.int (Int32.ofNat (SLEN.getD t 0))]) (i := t) wi_RJ0_335 hT rfl (rJ0_coder_7d493 t (hT)) rfl (Nat.le_of_ble_eq_true rfl) ⟨Nat.le_of_ble_eq_true rfl, Nat.le_of_ble_eq_true rfl⟩ (Nat.le_of_ble_eq_true rfl) dJ0_length_8abf5_6) rfl (fun r1 => ?_)
  refine tj_ishr (q := 10) dJ0_length_8abf5_9 rfl ?_
  exact tj_iret rfl rfl (Nat.le_of_ble_eq_true rfl) (Nat.le_of_ble_eq_true rfl) dJ0_length_8abf5_10

theorem dJ0_isLatin1_aae02_0 : decode cJ0_isLatin1_aae02 0 = .ok (.getstatic 38, 3) := by decide +kernel
theorem dJ0_isLatin1_aae02_3 : decode cJ0_isLatin1_aae02 3 = .ok (.ifCond .eq 14, 3) := by decide +kernel
theorem dJ0_isLatin1_aae02_6 : decode cJ0_isLatin1_aae02 6 = .ok (.aload_n 0, 1) := by decide +kernel
theorem dJ0_isLatin1_aae02_7 : decode cJ0_isLatin1_aae02 7 = .ok (.getfield 15, 3) := by decide +kernel
theorem dJ0_isLatin1_aae02_10 : decode cJ0_isLatin1_aae02 10 = .ok (.ifCond .ne 7, 3) := by decide +kernel
theorem dJ0_isLatin1_aae02_13 : decode cJ0_isLatin1_aae02 13 = .ok (.iconst 1, 1) := by decide +kernel
theorem dJ0_isLatin1_aae02_14 : decode cJ0_isLatin1_aae02 14 = .ok (.goto 4, 3) := by decide +kernel
theorem dJ0_isLatin1_aae02_17 : decode cJ0_isLatin1_aae02 17 = .ok (.iconst 0, 1) := by decide +kernel
theorem dJ0_isLatin1_aae02_18 : decode cJ0_isLatin1_aae02 18 = .ok (.ireturn, 1) := by decide +kernel
def mJ0_isLatin1_aae02 (t : Nat) (σ : St_) : Option Bool :=
 (if (1 : Int32) = 0 then
 (some false)
 else (if (0 : Int32) = 0 then
 (some true)
 else (some false)))
set_option maxHeartbeats 4000000 in
theorem rJ0_isLatin1_aae02 (t : Nat) (hT : t < 2) : Rj l D cA h0 ad yJ0_isLatin1_aae02 cJ0_isLatin1_aae02 1 (some .boolean) false 2 0 0 (fun b => (some (.int (b2i b)), sh, P, σ)) [.ref (ad.1 t)] sh P σ (mJ0_isLatin1_aae02 t σ) := by
  rw [mJ0_isLatin1_aae02]
  refine Rj.of (by decide) (fun h => by cases h) (Nat.le_of_ble_eq_true rfl) ?_
  refine tj_lv0 (lv' := [(0, .ref (ad.1 t))]) rfl ?_
  refine tj_getCS (q := 3) wl_RJ0_38 dJ0_isLatin1_aae02_0 rfl ?_
  refine tj_if_eq (tgt := 17) (q := 6) dJ0_isLatin1_aae02_3 (by decide) rfl ?_ ?_
  · refine tj_iconst (q := 18) (v := 0) dJ0_isLatin1_aae02_17 rfl (by decide) ?_
    exact tj_zret rfl (by decide) rfl (Nat.le_of_ble_eq_true rfl) (Nat.le_of_ble_eq_true rfl) dJ0_isLatin1_aae02_18
  · refine tj_aload_n (q := 7) dJ0_isLatin1_aae02_6 rfl (i := 0) rfl (pl := 0) rfl ?_
    refine tj_getSC (q := 10) hT wl_RJ0_15 dJ0_isLatin1_aae02_7 rfl ?_
    refine tj_if_ne (tgt := 17) (q := 13) dJ0_isLatin1_aae02_10 (by decide) rfl ?_ ?_
    · refine tj_iconst (q := 14) (v := 1) dJ0_isLatin1_aae02_13 rfl (by decide) ?_
      refine tj_goto (q := 18) dJ0_isLatin1_aae02_14 (by decide) ?_
      exact tj_zret rfl (by decide) rfl (Nat.le_of_ble_eq_true rfl) (Nat.le_of_ble_eq_true rfl) dJ0_isLatin1_aae02_18
    · refine tj_iconst (q := 18) (v := 0) dJ0_isLatin1_aae02_17 rfl (by decide) ?_
      exact tj_zret rfl (by decide) rfl (Nat.le_of_ble_eq_true rfl) (Nat.le_of_ble_eq_true rfl) dJ0_isLatin1_aae02_18

theorem dJ3_checkIndex_8e157_0 : decode cJ3_checkIndex_8e157 0 = .ok (.iload_n 0, 1) := by decide +kernel
theorem dJ3_checkIndex_8e157_1 : decode cJ3_checkIndex_8e157 1 = .ok (.ifCond .lt 8, 3) := by decide +kernel
theorem dJ3_checkIndex_8e157_4 : decode cJ3_checkIndex_8e157 4 = .ok (.iload_n 0, 1) := by decide +kernel
theorem dJ3_checkIndex_8e157_5 : decode cJ3_checkIndex_8e157 5 = .ok (.iload_n 1, 1) := by decide +kernel
theorem dJ3_checkIndex_8e157_6 : decode cJ3_checkIndex_8e157 6 = .ok (.if_icmp .lt 10, 3) := by decide +kernel
theorem dJ3_checkIndex_8e157_9 : decode cJ3_checkIndex_8e157 9 = .ok (.aload_n 2, 1) := by decide +kernel
theorem dJ3_checkIndex_8e157_10 : decode cJ3_checkIndex_8e157 10 = .ok (.iload_n 0, 1) := by decide +kernel
theorem dJ3_checkIndex_8e157_11 : decode cJ3_checkIndex_8e157 11 = .ok (.iload_n 1, 1) := by decide +kernel
theorem dJ3_checkIndex_8e157_12 : decode cJ3_checkIndex_8e157 12 = .ok (.invokestatic 95, 3) := by decide +kernel
theorem dJ3_checkIndex_8e157_16 : decode cJ3_checkIndex_8e157 16 = .ok (.iload_n 0, 1) := by decide +kernel
theorem dJ3_checkIndex_8e157_17 : decode cJ3_checkIndex_8e157 17 = .ok (.ireturn, 1) := by decide +kernel
def mJ3_checkIndex_8e157 (p1 : Int32) (p2 : Int32) (σ : St_) : Option Int32 :=
 (if p1 < 0 then
 none
 else (if p1 < p2 then
 (some p1)
 else none))
set_option maxHeartbeats 4000000 in
theorem rJ3_checkIndex_8e157 (p1 : Int32) (p2 : Int32) (p3 : Option Nat)  : Rj l D cA h0 ad yJ3_checkIndex_8e157 cJ3_checkIndex_8e157 3 (some .int) false 2 0 0 (fun b => (some (.int b), sh, P, σ)) [.int p1, .int p2, va_rf p3] sh P σ (mJ3_checkIndex_8e157 p1 p2 σ) := by
  cases p3 with
  | none =>
    rw [mJ3_checkIndex_8e157]
    refine Rj.of (by decide) (fun h => by cases h) (Nat.le_of_ble_eq_true rfl) ?_
    refine tj_lv0 (lv' := [(0, .int p1), (1, .int p2), (2, va_rf none)]) rfl ?_
    refine tj_iload_n (q := 1) dJ3_checkIndex_8e157_0 rfl (i := 0) rfl (pl := 0) rfl ?_
    refine tj_if_lt (tgt := 9) (q := 4) dJ3_checkIndex_8e157_1 (by decide) rfl ?_ ?_
    · exact tj_none
    · refine tj_iload_n (q := 5) dJ3_checkIndex_8e157_4 rfl (i := 0) rfl (pl := 0) rfl ?_
      refine tj_iload_n (q := 6) dJ3_checkIndex_8e157_5 rfl (i := 1) rfl (pl := 1) rfl ?_
      refine tj_icmp_lt (tgt := 16) (q := 9) dJ3_checkIndex_8e157_6 (by decide) rfl ?_ ?_
      · refine tj_iload_n (q := 17) dJ3_checkIndex_8e157_16 rfl (i := 0) rfl (pl := 0) rfl ?_
        exact tj_iret rfl rfl (Nat.le_of_ble_eq_true rfl) (Nat.le_of_ble_eq_true rfl) dJ3_checkIndex_8e157_17
      · exact tj_none
  | some p3 =>
    rw [mJ3_checkIndex_8e157]
    refine Rj.of (by decide) (fun h => by cases h) (Nat.le_of_ble_eq_true rfl) ?_
    refine tj_lv0 (lv' := [(0, .int p1), (1, .int p2), (2, va_rf (some p3))]) rfl ?_
    refine tj_iload_n (q := 1) dJ3_checkIndex_8e157_0 rfl (i := 0) rfl (pl := 0) rfl ?_
    refine tj_if_lt (tgt := 9) (q := 4) dJ3_checkIndex_8e157_1 (by decide) rfl ?_ ?_
    · exact tj_none
    · refine tj_iload_n (q := 5) dJ3_checkIndex_8e157_4 rfl (i := 0) rfl (pl := 0) rfl ?_
      refine tj_iload_n (q := 6) dJ3_checkIndex_8e157_5 rfl (i := 1) rfl (pl := 1) rfl ?_
      refine tj_icmp_lt (tgt := 16) (q := 9) dJ3_checkIndex_8e157_6 (by decide) rfl ?_ ?_
      · refine tj_iload_n (q := 17) dJ3_checkIndex_8e157_16 rfl (i := 0) rfl (pl := 0) rfl ?_
        exact tj_iret rfl rfl (Nat.le_of_ble_eq_true rfl) (Nat.le_of_ble_eq_true rfl) dJ3_checkIndex_8e157_17
      · exact tj_none

theorem dJ0_checkIndex_df160_0 : decode cJ0_checkIndex_df160 0 = .ok (.iload_n 0, 1) := by decide +kernel
theorem dJ0_checkIndex_df160_1 : decode cJ0_checkIndex_df160 1 = .ok (.iload_n 1, 1) := by decide +kernel
theorem dJ0_checkIndex_df160_2 : decode cJ0_checkIndex_df160 2 = .ok (.getstatic 1053, 3) := by decide +kernel
theorem dJ0_checkIndex_df160_5 : decode cJ0_checkIndex_df160 5 = .ok (.invokestatic 1059, 3) := by decide +kernel
theorem dJ0_checkIndex_df160_8 : decode cJ0_checkIndex_df160 8 = .ok (.pop, 1) := by decide +kernel
theorem dJ0_checkIndex_df160_9 : decode cJ0_checkIndex_df160 9 = .ok (.return_, 1) := by decide +kernel
theorem wl_RJ0_1053 : Cond.fieldLink RJ0 1053 "jdk/internal/util/Preconditions" "SIOOBE_FORMATTER" "Ljava/util/function/BiFunction;" ∈ TB := tbm 732 (by decide +kernel) (by decide +kernel)
theorem wm_J3_checkIndex_8e157 : Cond.static yJ3_checkIndex_8e157 ∈ TB ∧ Cond.initialized yJ3_checkIndex_8e157.cls ∈ TB ∧ Cond.code yJ3_checkIndex_8e157 cJ3_checkIndex_8e157 3 (some .int) ∈ TB ∧ (yJ3_checkIndex_8e157.cls ≠ "java/lang/invoke/MethodHandle" ∧ yJ3_checkIndex_8e157.cls ≠ "java/lang/invoke/VarHandle" ∧ (parseMethodDescriptor yJ3_checkIndex_8e157.desc).map (fun d => d.parameters.length) = some 3) ∧ 3 ≤ 21 := ⟨tbm 735 (by decide +kernel) (by decide +kernel), tbm 149 (by decide +kernel) (by decide +kernel), tbm 736 (by decide +kernel) (by decide +kernel), by decide +kernel, by decide⟩
theorem wi_RJ0_1059 : Is RJ0 1059 yJ3_checkIndex_8e157 cJ3_checkIndex_8e157 3 (some .int) 3 := ⟨tbm 734 (by decide +kernel) (by decide +kernel), wm_J3_checkIndex_8e157⟩
def mJ0_checkIndex_df160 (p1 : Int32) (p2 : Int32) (σ : St_) : Option Unit :=
 ((mJ3_checkIndex_8e157 p1 p2 σ).bind fun r2 =>
 (some ()))
set_option maxHeartbeats 4000000 in
theorem rJ0_checkIndex_df160 (p1 : Int32) (p2 : Int32)  : Rj l D cA h0 ad yJ0_checkIndex_df160 cJ0_checkIndex_df160 2 none false 3 0 0 (fun _ : Unit => (none, sh, P, σ)) [.int p1, .int p2] sh P σ (mJ0_checkIndex_df160 p1 p2 σ) := by
  rw [mJ0_checkIndex_df160]
  refine Rj.of (by decide) (fun h => by cases h) (Nat.le_of_ble_eq_true rfl) ?_
  refine tj_lv0 (lv' := [(0, .int p1), (1, .int p2)]) rfl ?_
  refine tj_iload_n (q := 1) dJ0_checkIndex_df160_0 rfl (i := 0) rfl (pl := 0) rfl ?_
  refine tj_iload_n (q := 2) dJ0_checkIndex_df160_1 rfl (i := 1) rfl (pl := 1) rfl ?_
  refine tj_getSF (q := 5) wl_RJ0_1053 dJ0_checkIndex_df160_2 rfl (fun v1 => ?_)
  refine tj_callIp (q := 8) (kj_S (As := [.int p1, .int p2, va_rf v1]) (rest := []) wi_RJ0_1059 (rJ3_checkIndex_8e157 p1 p2 v1) rfl (Nat.le_of_ble_eq_true rfl) ⟨Nat.le_of_ble_eq_true rfl, Nat.le_of_ble_eq_true rfl⟩ (Nat.le_of_ble_eq_true rfl) dJ0_checkIndex_df160_5) rfl (fun r2 => ?_)
  refine tj_pop (q := 9) dJ0_checkIndex_df160_8 rfl rfl ?_
  exact tj_vret rfl rfl (Nat.le_of_ble_eq_true rfl) (Nat.le_of_ble_eq_true rfl) dJ0_checkIndex_df160_9

theorem dJ1_charAt_3b067_0 : decode cJ1_charAt_3b067 0 = .ok (.iload_n 1, 1) := by decide +kernel
theorem dJ1_charAt_3b067_1 : decode cJ1_charAt_3b067 1 = .ok (.aload_n 0, 1) := by decide +kernel
theorem dJ1_charAt_3b067_2 : decode cJ1_charAt_3b067 2 = .ok (.arraylength, 1) := by decide +kernel
theorem dJ1_charAt_3b067_3 : decode cJ1_charAt_3b067 3 = .ok (.invokestatic 9, 3) := by decide +kernel
theorem dJ1_charAt_3b067_6 : decode cJ1_charAt_3b067 6 = .ok (.aload_n 0, 1) := by decide +kernel
theorem dJ1_charAt_3b067_7 : decode cJ1_charAt_3b067 7 = .ok (.iload_n 1, 1) := by decide +kernel
theorem dJ1_charAt_3b067_8 : decode cJ1_charAt_3b067 8 = .ok (.baload, 1) := by decide +kernel
theorem dJ1_charAt_3b067_9 : decode cJ1_charAt_3b067 9 = .ok (.sipush 255, 3) := by decide +kernel
theorem dJ1_charAt_3b067_12 : decode cJ1_charAt_3b067 12 = .ok (.iand, 1) := by decide +kernel
theorem dJ1_charAt_3b067_13 : decode cJ1_charAt_3b067 13 = .ok (.i2c, 1) := by decide +kernel
theorem dJ1_charAt_3b067_14 : decode cJ1_charAt_3b067 14 = .ok (.ireturn, 1) := by decide +kernel
theorem wm_J0_checkIndex_df160 : Cond.static yJ0_checkIndex_df160 ∈ TB ∧ Cond.initialized yJ0_checkIndex_df160.cls ∈ TB ∧ Cond.code yJ0_checkIndex_df160 cJ0_checkIndex_df160 2 none ∈ TB ∧ (yJ0_checkIndex_df160.cls ≠ "java/lang/invoke/MethodHandle" ∧ yJ0_checkIndex_df160.cls ≠ "java/lang/invoke/VarHandle" ∧ (parseMethodDescriptor yJ0_checkIndex_df160.desc).map (fun d => d.parameters.length) = some 2) ∧ 2 ≤ 21 := ⟨tbm 730 (by decide +kernel) (by decide +kernel), tbm 147 (by decide +kernel) (by decide +kernel), tbm 731 (by decide +kernel) (by decide +kernel), by decide +kernel, by decide⟩
theorem wi_RJ1_9 : Is RJ1 9 yJ0_checkIndex_df160 cJ0_checkIndex_df160 2 none 2 := ⟨tbm 729 (by decide +kernel) (by decide +kernel), wm_J0_checkIndex_df160⟩
def mJ1_charAt_3b067 (p1 : Nat) (p2 : Int32) (σ : St_) : Option Int32 :=
 ((mJ0_checkIndex_df160 p2 (Int32.ofNat (SLEN.getD p1 0)) σ).bind fun _ =>
 (if bin p2 (SLEN.getD p1 0) = true then bnd ((SBYT.getD p1 []).getD p2.toNatClampNeg 0) fun v1 =>
 (bnd (((v1 &&& (255 : Int32)).toUInt32 % 65536).toInt32) fun v2 =>
 (if isC v2 = true then some v2 else none))
 else none))
set_option maxHeartbeats 4000000 in
theorem rJ1_charAt_3b067 (p1 : Nat) (p2 : Int32) (hp1 : p1 < 2) : Rj l D cA h0 ad yJ1_charAt_3b067 cJ1_charAt_3b067 2 (some .char) false 4 0 0 (fun b => (some (.int b), sh, P, σ)) [.ref (ad.2 p1), .int p2] sh P σ (mJ1_charAt_3b067 p1 p2 σ) := by
  rw [mJ1_charAt_3b067]
  refine Rj.of (by decide) (fun h => by cases h) (Nat.le_of_ble_eq_true rfl) ?_
  refine tj_lv0 (lv' := [(0, .ref (ad.2 p1)), (1, .int p2)]) rfl ?_
  refine tj_iload_n (q := 1) dJ1_charAt_3b067_0 rfl (i := 1) rfl (pl := 1) rfl ?_
  refine tj_aload_n (q := 2) dJ1_charAt_3b067_1 rfl (i := 0) rfl (pl := 0) rfl ?_
  refine tj_bylen (q := 3) hp1 dJ1_charAt_3b067_2 rfl ?_
  refine tj_callU (q := 6) (kj_S (As := [.int p2, .int (Int32.ofNat (SLEN.getD p1 0))]) (rest := []) wi_RJ1_9 (rJ0_checkIndex_df160 p2 (Int32.ofNat (SLEN.getD p1 0))) rfl (Nat.le_of_ble_eq_true rfl) ⟨Nat.le_of_ble_eq_true rfl, Nat.le_of_ble_eq_true rfl⟩ (Nat.le_of_ble_eq_true rfl) dJ1_charAt_3b067_3) rfl ?_
  refine tj_aload_n (q := 7) dJ1_charAt_3b067_6 rfl (i := 0) rfl (pl := 0) rfl ?_
  refine tj_iload_n (q := 8) dJ1_charAt_3b067_7 rfl (i := 1) rfl (pl := 1) rfl ?_
  refine tj_byld (q := 9) hp1 dJ1_charAt_3b067_8 rfl ?_
  refine tj_topI (fun v1 => ?_)
  refine tj_sipush (q := 12) (v := 255) dJ1_charAt_3b067_9 rfl (by decide) ?_
  refine tj_iand (q := 13) dJ1_charAt_3b067_12 rfl ?_
  refine tj_i2c (q := 14) dJ1_charAt_3b067_13 rfl ?_
  refine tj_topI (fun v2 => ?_)
  exact tj_cret rfl rfl (Nat.le_of_ble_eq_true rfl) (Nat.le_of_ble_eq_true rfl) dJ1_charAt_3b067_14

theorem dJ0_charAt_5068e_0 : decode cJ0_charAt_5068e 0 = .ok (.aload_n 0, 1) := by decide +kernel
theorem dJ0_charAt_5068e_1 : decode cJ0_charAt_5068e 1 = .ok (.invokevirtual 492, 3) := by decide +kernel
theorem dJ0_charAt_5068e_4 : decode cJ0_charAt_5068e 4 = .ok (.ifCond .eq 12, 3) := by decide +kernel
theorem dJ0_charAt_5068e_7 : decode cJ0_charAt_5068e 7 = .ok (.aload_n 0, 1) := by decide +kernel
theorem dJ0_charAt_5068e_8 : decode cJ0_charAt_5068e 8 = .ok (.getfield 9, 3) := by decide +kernel
theorem dJ0_charAt_5068e_11 : decode cJ0_charAt_5068e 11 = .ok (.iload_n 1, 1) := by decide +kernel
theorem dJ0_charAt_5068e_12 : decode cJ0_charAt_5068e 12 = .ok (.invokestatic 495, 3) := by decide +kernel
theorem dJ0_charAt_5068e_15 : decode cJ0_charAt_5068e 15 = .ok (.ireturn, 1) := by decide +kernel
theorem dJ0_charAt_5068e_16 : decode cJ0_charAt_5068e 16 = .ok (.aload_n 0, 1) := by decide +kernel
theorem dJ0_charAt_5068e_17 : decode cJ0_charAt_5068e 17 = .ok (.getfield 9, 3) := by decide +kernel
theorem dJ0_charAt_5068e_20 : decode cJ0_charAt_5068e 20 = .ok (.iload_n 1, 1) := by decide +kernel
theorem dJ0_charAt_5068e_21 : decode cJ0_charAt_5068e 21 = .ok (.invokestatic 498, 3) := by decide +kernel
theorem wm_J0_isLatin1_aae02 : Cond.instanceMethod yJ0_isLatin1_aae02 ∈ TB ∧ Cond.selects yJ0_isLatin1_aae02.cls yJ0_isLatin1_aae02 yJ0_isLatin1_aae02 ∈ TB ∧ Cond.initialized yJ0_isLatin1_aae02.cls ∈ TB ∧ Cond.code yJ0_isLatin1_aae02 cJ0_isLatin1_aae02 1 (some .boolean) ∈ TB ∧ (yJ0_isLatin1_aae02.cls ≠ "java/lang/invoke/MethodHandle" ∧ yJ0_isLatin1_aae02.cls ≠ "java/lang/invoke/VarHandle" ∧ (parseMethodDescriptor yJ0_isLatin1_aae02.desc).map (fun d => d.parameters.length) = some 0) ∧ 1 ≤ 21 := ⟨tbm 723 (by decide +kernel) (by decide +kernel), tbm 724 (by decide +kernel) (by decide +kernel), tbm 147 (by decide +kernel) (by decide +kernel), tbm 725 (by decide +kernel) (by decide +kernel), by decide +kernel, by decide⟩
theorem wi_RJ0_492 : Iv RJ0 492 yJ0_isLatin1_aae02 cJ0_isLatin1_aae02 1 (some .boolean) 0 := ⟨tbm 722 (by decide +kernel) (by decide +kernel), wm_J0_isLatin1_aae02⟩
theorem wm_J1_charAt_3b067 : Cond.static yJ1_charAt_3b067 ∈ TB ∧ Cond.initialized yJ1_charAt_3b067.cls ∈ TB ∧ Cond.code yJ1_charAt_3b067 cJ1_charAt_3b067 2 (some .char) ∈ TB ∧ (yJ1_charAt_3b067.cls ≠ "java/lang/invoke/MethodHandle" ∧ yJ1_charAt_3b067.cls ≠ "java/lang/invoke/VarHandle" ∧ (parseMethodDescriptor yJ1_charAt_3b067.desc).map (fun d => d.parameters.length) = some 2) ∧ 2 ≤ 21 := ⟨tbm 727 (by decide +kernel) (by decide +kernel), tbm 148 (by decide +kernel) (by decide +kernel), tbm 728 (by decide +kernel) (by decide +kernel), by decide +kernel, by decide⟩
theorem wi_RJ0_495 : Is RJ0 495 yJ1_charAt_3b067 cJ1_charAt_3b067 2 (some .char) 2 := ⟨tbm 726 (by decide +kernel) (by decide +kernel), wm_J1_charAt_3b067⟩
def mJ0_charAt_5068e (t : Nat) (p1 : Int32) (σ : St_) : Option Int32 :=
 ((mJ0_isLatin1_aae02 t σ).bind fun r1 =>
 (if r1 = true then
 ((mJ1_charAt_3b067 t p1 σ).bind fun r2 =>
 (if isC r2 = true then some r2 else none))
 else none))
set_option maxHeartbeats 4000000 in
theorem rJ0_charAt_5068e (t : Nat) (p1 : Int32) (hT : t < 2) : Rj l D cA h0 ad yJ0_charAt_5068e cJ0_charAt_5068e 2 (some .char) false 5 0 0 (fun b => (some (.int b), sh, P, σ)) [.ref (ad.1 t), .int p1] sh P σ (mJ0_charAt_5068e t p1 σ) := by
  rw [mJ0_charAt_5068e]
  refine Rj.of (by decide) (fun h => by cases h) (Nat.le_of_ble_eq_true rfl) ?_
  refine tj_lv0 (lv' := [(0, .ref (ad.1 t)), (1, .int p1)]) rfl ?_
  refine tj_aload_n (q := 1) dJ0_charAt_5068e_0 rfl (i := 0) rfl (pl := 0) rfl ?_
  refine tj_callZp (q := 4) (kj_T (As := []) (rest := []) (i := t) wi_RJ0_492 hT rfl (rJ0_isLatin1_aae02 t (hT)) rfl (Nat.le_of_ble_eq_true rfl) ⟨Nat.le_of_ble_eq_true rfl, Nat.le_of_ble_eq_true rfl⟩ (Nat.le_of_ble_eq_true rfl) dJ0_charAt_5068e_1) rfl (fun r1 => ?_)
  refine tj_bz (tgt := 16) (q := 7) dJ0_charAt_5068e_4 (by decide) rfl ?_ ?_
  · refine tj_aload_n (q := 8) dJ0_charAt_5068e_7 rfl (i := 0) rfl (pl := 0) rfl ?_
    refine tj_getSV (q := 11) hT wl_RJ0_9 dJ0_charAt_5068e_8 rfl ?_
    refine tj_iload_n (q := 12) dJ0_charAt_5068e_11 rfl (i := 1) rfl (pl := 1) rfl ?_
    refine tj_callIp (q := 15) (kj_S (As := [.ref (ad.2 t), .int p1]) (rest := []) wi_RJ0_495 (rJ1_charAt_3b067 t p1 (hT)) rfl (Nat.le_of_ble_eq_true rfl) ⟨Nat.le_of_ble_eq_true rfl, Nat.le_of_ble_eq_true rfl⟩ (Nat.le_of_ble_eq_true rfl) dJ0_charAt_5068e_12) rfl (fun r2 => ?_)
    exact tj_cret rfl rfl (Nat.le_of_ble_eq_true rfl) (Nat.le_of_ble_eq_true rfl) dJ0_charAt_5068e_15
  · refine tj_aload_n (q := 17) dJ0_charAt_5068e_16 rfl (i := 0) rfl (pl := 0) rfl ?_
    refine tj_getSV (q := 20) hT wl_RJ0_9 dJ0_charAt_5068e_17 rfl ?_
    refine tj_iload_n (q := 21) dJ0_charAt_5068e_20 rfl (i := 1) rfl (pl := 1) rfl ?_
    exact tj_none

theorem dX10_fillsCell_0 : decode cX10_fillsCell 0 = .ok (.iconst 0, 1) := by decide +kernel
theorem dX10_fillsCell_1 : decode cX10_fillsCell 1 = .ok (.istore 4, 2) := by decide +kernel
theorem dX10_fillsCell_3 : decode cX10_fillsCell 3 = .ok (.iload 4, 2) := by decide +kernel
theorem dX10_fillsCell_5 : decode cX10_fillsCell 5 = .ok (.bipush 8, 2) := by decide +kernel
theorem dX10_fillsCell_7 : decode cX10_fillsCell 7 = .ok (.if_icmp .ge 49, 3) := by decide +kernel
theorem dX10_fillsCell_10 : decode cX10_fillsCell 10 = .ok (.iload_n 2, 1) := by decide +kernel
theorem dX10_fillsCell_11 : decode cX10_fillsCell 11 = .ok (.iload 4, 2) := by decide +kernel
theorem dX10_fillsCell_13 : decode cX10_fillsCell 13 = .ok (.iadd, 1) := by decide +kernel
theorem dX10_fillsCell_14 : decode cX10_fillsCell 14 = .ok (.iload_n 3, 1) := by decide +kernel
theorem dX10_fillsCell_15 : decode cX10_fillsCell 15 = .ok (.if_icmp .ge 15, 3) := by decide +kernel
theorem dX10_fillsCell_18 : decode cX10_fillsCell 18 = .ok (.aload_n 0, 1) := by decide +kernel
theorem dX10_fillsCell_19 : decode cX10_fillsCell 19 = .ok (.getfield 9, 3) := by decide +kernel
theorem dX10_fillsCell_22 : decode cX10_fillsCell 22 = .ok (.iload_n 2, 1) := by decide +kernel
theorem dX10_fillsCell_23 : decode cX10_fillsCell 23 = .ok (.iload 4, 2) := by decide +kernel
theorem dX10_fillsCell_25 : decode cX10_fillsCell 25 = .ok (.iadd, 1) := by decide +kernel
theorem dX10_fillsCell_26 : decode cX10_fillsCell 26 = .ok (.iaload, 1) := by decide +kernel
theorem dX10_fillsCell_27 : decode cX10_fillsCell 27 = .ok (.goto 5, 3) := by decide +kernel
theorem dX10_fillsCell_30 : decode cX10_fillsCell 30 = .ok (.bipush 32, 2) := by decide +kernel
theorem dX10_fillsCell_32 : decode cX10_fillsCell 32 = .ok (.istore 5, 2) := by decide +kernel
theorem dX10_fillsCell_34 : decode cX10_fillsCell 34 = .ok (.ldc 76, 2) := by decide +kernel
theorem dX10_fillsCell_36 : decode cX10_fillsCell 36 = .ok (.iload_n 1, 1) := by decide +kernel
theorem dX10_fillsCell_37 : decode cX10_fillsCell 37 = .ok (.iload 4, 2) := by decide +kernel
theorem dX10_fillsCell_39 : decode cX10_fillsCell 39 = .ok (.iadd, 1) := by decide +kernel
theorem dX10_fillsCell_40 : decode cX10_fillsCell 40 = .ok (.invokevirtual 85, 3) := by decide +kernel
theorem dX10_fillsCell_43 : decode cX10_fillsCell 43 = .ok (.iload 5, 2) := by decide +kernel
theorem dX10_fillsCell_45 : decode cX10_fillsCell 45 = .ok (.if_icmp .eq 5, 3) := by decide +kernel
theorem dX10_fillsCell_48 : decode cX10_fillsCell 48 = .ok (.iconst 0, 1) := by decide +kernel
theorem dX10_fillsCell_49 : decode cX10_fillsCell 49 = .ok (.ireturn, 1) := by decide +kernel
theorem dX10_fillsCell_50 : decode cX10_fillsCell 50 = .ok (.iinc 4 1, 3) := by decide +kernel
theorem dX10_fillsCell_53 : decode cX10_fillsCell 53 = .ok (.goto (-50), 3) := by decide +kernel
theorem dX10_fillsCell_56 : decode cX10_fillsCell 56 = .ok (.iconst 1, 1) := by decide +kernel
theorem dX10_fillsCell_57 : decode cX10_fillsCell 57 = .ok (.ireturn, 1) := by decide +kernel
theorem wm_J0_charAt_5068e : Cond.instanceMethod yJ0_charAt_5068e ∈ TB ∧ Cond.selects yJ0_charAt_5068e.cls yJ0_charAt_5068e yJ0_charAt_5068e ∈ TB ∧ Cond.initialized yJ0_charAt_5068e.cls ∈ TB ∧ Cond.code yJ0_charAt_5068e cJ0_charAt_5068e 2 (some .char) ∈ TB ∧ (yJ0_charAt_5068e.cls ≠ "java/lang/invoke/MethodHandle" ∧ yJ0_charAt_5068e.cls ≠ "java/lang/invoke/VarHandle" ∧ (parseMethodDescriptor yJ0_charAt_5068e.desc).map (fun d => d.parameters.length) = some 1) ∧ 2 ≤ 21 := ⟨tbm 719 (by decide +kernel) (by decide +kernel), tbm 720 (by decide +kernel) (by decide +kernel), tbm 147 (by decide +kernel) (by decide +kernel), tbm 721 (by decide +kernel) (by decide +kernel), by decide +kernel, by decide⟩
theorem wi_RX10_85 : Iv RX10 85 yJ0_charAt_5068e cJ0_charAt_5068e 2 (some .char) 1 := ⟨tbm 718 (by decide +kernel) (by decide +kernel), wm_J0_charAt_5068e⟩
def mX10_fillsCell_L3 (t : Nat) (σ : St_) (x1 : Int32) (x2 : Int32) (x3 : Int32) : Nat → Int32 → Option Bool
  | 0, _ => none
  | n + 1, x4 => (if (8 : Int32) ≤ x4 then
 (some true)
 else (bnd (fun (j1 : Int32) => ((mJ0_charAt_5068e 1 (x1 + x4) σ).bind fun r4 =>
 (if r4 = j1 then
 (mX10_fillsCell_L3 t σ x1 x2 x3 n (x4 + 1))
 else (some false)))) fun k2 =>
 (if x3 ≤ (x2 + x4) then
 (k2 (32 : Int32))
 else (bnd (x2 + x4) fun v5 =>
 (if bin v5 1700 = true then bnd (σ.1 (t + 1) v5.toNatClampNeg) fun v6 =>
 (k2 v6)
 else none)))))
def mX10_fillsCell (t : Nat) (p1 : Int32) (p2 : Int32) (p3 : Int32) (σ : St_) : Option Bool :=
 (mX10_fillsCell_L3 t σ p1 p2 p3 FU (0 : Int32))
set_option maxHeartbeats 4000000 in
theorem tmX10_fillsCell_L3 (σ : St_) (t : Nat) (hT : LY10 sh P t) (x1 : Int32) (x2 : Int32) (x3 : Int32) : ∀ (n : Nat) (x4 : Int32), Tj l D cA h0 ad RX10 cX10_fillsCell 6 (some .boolean) false 6 0 0 (fun b => (some (.int (b2i b)), sh, P, σ)) 0 0 sh P σ 3 [(0, .ref (h0 + t)), (1, .int x1), (2, .int x2), (3, .int x3), (4, .int x4)] [] (mX10_fillsCell_L3 t σ x1 x2 x3 n x4) := by
  intro n
  induction n with
  | zero => intros; exact tj_none
  | succ n ih =>
    intro x4
    rw [mX10_fillsCell_L3]
    refine tj_iload (q := 5) dX10_fillsCell_3 rfl (pl := 4) rfl ?_
    refine tj_bipush (q := 7) (v := 8) dX10_fillsCell_5 rfl (by decide) ?_
    refine tj_icmp_ge (tgt := 56) (q := 10) dX10_fillsCell_7 (by decide) rfl ?_ ?_
    · refine tj_iconst (q := 57) (v := 1) dX10_fillsCell_56 rfl (by decide) ?_
      exact tj_zret rfl (by decide) rfl (Nat.le_of_ble_eq_true rfl) (Nat.le_of_ble_eq_true rfl) dX10_fillsCell_57
    · refine tj_iload_n (q := 11) dX10_fillsCell_10 rfl (i := 2) rfl (pl := 2) rfl ?_
      refine tj_iload (q := 13) dX10_fillsCell_11 rfl (pl := 4) rfl ?_
      refine tj_iadd (q := 14) dX10_fillsCell_13 rfl ?_
      refine tj_iload_n (q := 15) dX10_fillsCell_14 rfl (i := 3) rfl (pl := 3) rfl ?_
      refine tj_bnd (fun k2 => ∀ (j1 : Int32), Tj l D cA h0 ad RX10 cX10_fillsCell 6 (some .boolean) false 6 0 0 (fun b => (some (.int (b2i b)), sh, P, σ)) 0 0 sh P σ 32 [(0, .ref (h0 + t)), (1, .int x1), (2, .int x2), (3, .int x3), (4, .int x4)] [.int j1] (k2 j1)) ?_ (fun k2 hk3 => ?_)
      · intro j1
        refine tj_istore (q := 34) dX10_fillsCell_32 rfl (by decide) rfl ?_
        refine tj_ldcS1 (q := 36) rfl dX10_fillsCell_34 rfl ?_
        refine tj_iload_n (q := 37) dX10_fillsCell_36 rfl (i := 1) rfl (pl := 2) rfl ?_
        refine tj_iload (q := 39) dX10_fillsCell_37 rfl (pl := 5) rfl ?_
        refine tj_iadd (q := 40) dX10_fillsCell_39 rfl ?_
        refine tj_callIp (q := 43) (kj_T (As := [.int (x1 + x4)]) (rest := []) (i := 1) wi_RX10_85 (by decide) rfl (rJ0_charAt_5068e 1 (x1 + x4) ((by decide))) rfl (Nat.le_of_ble_eq_true rfl) ⟨Nat.le_of_ble_eq_true rfl, Nat.le_of_ble_eq_true rfl⟩ (Nat.le_of_ble_eq_true rfl) dX10_fillsCell_40) rfl (fun r4 => ?_)
        refine tj_iload (q := 45) dX10_fillsCell_43 rfl (pl := 0) rfl ?_
        refine tj_icmp_eq (tgt := 50) (q := 48) dX10_fillsCell_45 (by decide) rfl ?_ ?_
        · refine tj_iinc (q := 53) (v := x4 + 1) dX10_fillsCell_50 rfl (pl := 5) rfl rfl (by decide) rfl ?_
          refine tj_goto (q := 3) dX10_fillsCell_53 (by decide) ?_
          refine tj_lv [2, 3, 4, 5, 0] rfl ?_
          exact ih (x4 + 1)
        · refine tj_iconst (q := 49) (v := 0) dX10_fillsCell_48 rfl (by decide) ?_
          exact tj_zret rfl (by decide) rfl (Nat.le_of_ble_eq_true rfl) (Nat.le_of_ble_eq_true rfl) dX10_fillsCell_49
      · refine tj_icmp_ge (tgt := 30) (q := 18) dX10_fillsCell_15 (by decide) rfl ?_ ?_
        · refine tj_bipush (q := 32) (v := 32) dX10_fillsCell_30 rfl (by decide) ?_
          exact hk3 (32 : Int32)
        · refine tj_aload_n (q := 19) dX10_fillsCell_18 rfl (i := 0) rfl (pl := 0) rfl ?_
          refine tj_getR (q := 22) (hT).s (hT).p_text fok_10_0 wl_RX10_9 dX10_fillsCell_19 rfl ?_
          refine tj_iload_n (q := 23) dX10_fillsCell_22 rfl (i := 2) rfl (pl := 2) rfl ?_
          refine tj_iload (q := 25) dX10_fillsCell_23 rfl (pl := 4) rfl ?_
          refine tj_iadd (q := 26) dX10_fillsCell_25 rfl ?_
          refine tj_topI (fun v5 => ?_)
          refine tj_iaload (q := 27) (hT).s_text dX10_fillsCell_26 rfl ?_
          refine tj_topI (fun v6 => ?_)
          refine tj_goto (q := 32) dX10_fillsCell_27 (by decide) ?_
          exact hk3 v6

set_option maxHeartbeats 4000000 in
theorem rX10_fillsCell (t : Nat) (p1 : Int32) (p2 : Int32) (p3 : Int32) (hT : LY10 sh P t) : Rj l D cA h0 ad yX10_fillsCell cX10_fillsCell 6 (some .boolean) false 6 0 0 (fun b => (some (.int (b2i b)), sh, P, σ)) [.ref (h0 + t), .int p1, .int p2, .int p3] sh P σ (mX10_fillsCell t p1 p2 p3 σ) := by
  rw [mX10_fillsCell]
  refine Rj.of (by decide) (fun h => by cases h) (Nat.le_of_ble_eq_true rfl) ?_
  refine tj_lv0 (lv' := [(0, .ref (h0 + t)), (1, .int p1), (2, .int p2), (3, .int p3)]) rfl ?_
  refine tj_iconst (q := 1) (v := 0) dX10_fillsCell_0 rfl (by decide) ?_
  refine tj_istore (q := 3) dX10_fillsCell_1 rfl (by decide) rfl ?_
  refine tj_lv [1, 2, 3, 4, 0] rfl ?_
  exact tmX10_fillsCell_L3 σ t hT p1 p2 p3 FU (0 : Int32)

theorem dX10_wordNumber_0 : decode cX10_wordNumber 0 = .ok (.iconst 0, 1) := by decide +kernel
theorem dX10_wordNumber_1 : decode cX10_wordNumber 1 = .ok (.istore_n 3, 1) := by decide +kernel
theorem dX10_wordNumber_2 : decode cX10_wordNumber 2 = .ok (.iload_n 3, 1) := by decide +kernel
theorem dX10_wordNumber_3 : decode cX10_wordNumber 3 = .ok (.iconst 1, 1) := by decide +kernel
theorem dX10_wordNumber_4 : decode cX10_wordNumber 4 = .ok (.iadd, 1) := by decide +kernel
theorem dX10_wordNumber_5 : decode cX10_wordNumber 5 = .ok (.bipush 8, 2) := by decide +kernel
theorem dX10_wordNumber_7 : decode cX10_wordNumber 7 = .ok (.imul, 1) := by decide +kernel
theorem dX10_wordNumber_8 : decode cX10_wordNumber 8 = .ok (.ldc 76, 2) := by decide +kernel
theorem dX10_wordNumber_10 : decode cX10_wordNumber 10 = .ok (.invokevirtual 78, 3) := by decide +kernel
theorem dX10_wordNumber_13 : decode cX10_wordNumber 13 = .ok (.if_icmp .gt 24, 3) := by decide +kernel
theorem dX10_wordNumber_16 : decode cX10_wordNumber 16 = .ok (.aload_n 0, 1) := by decide +kernel
theorem dX10_wordNumber_17 : decode cX10_wordNumber 17 = .ok (.iload_n 3, 1) := by decide +kernel
theorem dX10_wordNumber_18 : decode cX10_wordNumber 18 = .ok (.bipush 8, 2) := by decide +kernel
theorem dX10_wordNumber_20 : decode cX10_wordNumber 20 = .ok (.imul, 1) := by decide +kernel
theorem dX10_wordNumber_21 : decode cX10_wordNumber 21 = .ok (.iload_n 1, 1) := by decide +kernel
theorem dX10_wordNumber_22 : decode cX10_wordNumber 22 = .ok (.iload_n 2, 1) := by decide +kernel
theorem dX10_wordNumber_23 : decode cX10_wordNumber 23 = .ok (.invokevirtual 81, 3) := by decide +kernel
theorem dX10_wordNumber_26 : decode cX10_wordNumber 26 = .ok (.ifCond .eq 5, 3) := by decide +kernel
theorem dX10_wordNumber_29 : decode cX10_wordNumber 29 = .ok (.iload_n 3, 1) := by decide +kernel
theorem dX10_wordNumber_30 : decode cX10_wordNumber 30 = .ok (.ireturn, 1) := by decide +kernel
theorem dX10_wordNumber_31 : decode cX10_wordNumber 31 = .ok (.iinc 3 1, 3) := by decide +kernel
theorem dX10_wordNumber_34 : decode cX10_wordNumber 34 = .ok (.goto (-32), 3) := by decide +kernel
theorem dX10_wordNumber_37 : decode cX10_wordNumber 37 = .ok (.iconst (-1), 1) := by decide +kernel
theorem dX10_wordNumber_38 : decode cX10_wordNumber 38 = .ok (.ireturn, 1) := by decide +kernel
theorem wm_J0_length_8abf5 : Cond.instanceMethod yJ0_length_8abf5 ∈ TB ∧ Cond.selects yJ0_length_8abf5.cls yJ0_length_8abf5 yJ0_length_8abf5 ∈ TB ∧ Cond.initialized yJ0_length_8abf5.cls ∈ TB ∧ Cond.code yJ0_length_8abf5 cJ0_length_8abf5 1 (some .int) ∈ TB ∧ (yJ0_length_8abf5.cls ≠ "java/lang/invoke/MethodHandle" ∧ yJ0_length_8abf5.cls ≠ "java/lang/invoke/VarHandle" ∧ (parseMethodDescriptor yJ0_length_8abf5.desc).map (fun d => d.parameters.length) = some 0) ∧ 1 ≤ 21 := ⟨tbm 705 (by decide +kernel) (by decide +kernel), tbm 706 (by decide +kernel) (by decide +kernel), tbm 147 (by decide +kernel) (by decide +kernel), tbm 707 (by decide +kernel) (by decide +kernel), by decide +kernel, by decide⟩
theorem wi_RX10_78 : Iv RX10 78 yJ0_length_8abf5 cJ0_length_8abf5 1 (some .int) 0 := ⟨tbm 704 (by decide +kernel) (by decide +kernel), wm_J0_length_8abf5⟩
theorem wm_X10_fillsCell : Cond.instanceMethod yX10_fillsCell ∈ TB ∧ Cond.selects yX10_fillsCell.cls yX10_fillsCell yX10_fillsCell ∈ TB ∧ Cond.initialized yX10_fillsCell.cls ∈ TB ∧ Cond.code yX10_fillsCell cX10_fillsCell 6 (some .boolean) ∈ TB ∧ (yX10_fillsCell.cls ≠ "java/lang/invoke/MethodHandle" ∧ yX10_fillsCell.cls ≠ "java/lang/invoke/VarHandle" ∧ (parseMethodDescriptor yX10_fillsCell.desc).map (fun d => d.parameters.length) = some 3) ∧ 6 ≤ 21 := ⟨tbm 716 (by decide +kernel) (by decide +kernel), tbm 4 (by decide +kernel) (by decide +kernel), tbm 137 (by decide +kernel) (by decide +kernel), tbm 717 (by decide +kernel) (by decide +kernel), by decide +kernel, by decide⟩
theorem wi_RX10_81 : Iv RX10 81 yX10_fillsCell cX10_fillsCell 6 (some .boolean) 3 := ⟨tbm 714 (by decide +kernel) (by decide +kernel), wm_X10_fillsCell⟩
def mX10_wordNumber_L2 (t : Nat) (σ : St_) (x1 : Int32) (x2 : Int32) : Nat → Int32 → Option Int32
  | 0, _ => none
  | n + 1, x3 => ((mJ0_length_8abf5 1 σ).bind fun r1 =>
 (if r1 < ((x3 + (1 : Int32)) * (8 : Int32)) then
 (some (-1 : Int32))
 else ((mX10_fillsCell t (x3 * (8 : Int32)) x1 x2 σ).bind fun r2 =>
 (if r2 = true then
 (some x3)
 else (mX10_wordNumber_L2 t σ x1 x2 n (x3 + 1))))))
def mX10_wordNumber (t : Nat) (p1 : Int32) (p2 : Int32) (σ : St_) : Option Int32 :=
 (mX10_wordNumber_L2 t σ p1 p2 FU (0 : Int32))
set_option maxHeartbeats 4000000 in
theorem tmX10_wordNumber_L2 (σ : St_) (t : Nat) (hT : LY10 sh P t) (x1 : Int32) (x2 : Int32) : ∀ (n : Nat) (x3 : Int32), Tj l D cA h0 ad RX10 cX10_wordNumber 4 (some .int) false 7 0 0 (fun b => (some (.int b), sh, P, σ)) 0 0 sh P σ 2 [(0, .ref (h0 + t)), (1, .int x1), (2, .int x2), (3, .int x3)] [] (mX10_wordNumber_L2 t σ x1 x2 n x3) := by
  intro n
  induction n with
  | zero => intros; exact tj_none
  | succ n ih =>
    intro x3
    rw [mX10_wordNumber_L2]
    refine tj_iload_n (q := 3) dX10_wordNumber_2 rfl (i := 3) rfl (pl := 3) rfl ?_
    refine tj_iconst (q := 4) (v := 1) dX10_wordNumber_3 rfl (by decide) ?_
    refine tj_iadd (q := 5) dX10_wordNumber_4 rfl ?_
    refine tj_bipush (q := 7) (v := 8) dX10_wordNumber_5 rfl (by decide) ?_
    refine tj_imul (q := 8) dX10_wordNumber_7 rfl ?_
    refine tj_ldcS1 (q := 10) rfl dX10_wordNumber_8 rfl ?_
    refine tj_callIp (q := 13) (kj_T (As := []) (rest := [.int ((x3 + (1 : Int32)) * (8 : Int32))]) (i := 1) wi_RX10_78 (by decide) rfl (rJ0_length_8abf5 1 ((by decide))) rfl (Nat.le_of_ble_eq_true rfl) ⟨Nat.le_of_ble_eq_true rfl, Nat.le_of_ble_eq_true rfl⟩ (Nat.le_of_ble_eq_true rfl) dX10_wordNumber_10) rfl (fun r1 => ?_)
    refine tj_icmp_gt (tgt := 37) (q := 16) dX10_wordNumber_13 (by decide) rfl ?_ ?_
    · refine tj_iconst (q := 38) (v := (-1)) dX10_wordNumber_37 rfl (by decide) ?_
      exact tj_iret rfl rfl (Nat.le_of_ble_eq_true rfl) (Nat.le_of_ble_eq_true rfl) dX10_wordNumber_38
    · refine tj_aload_n (q := 17) dX10_wordNumber_16 rfl (i := 0) rfl (pl := 0) rfl ?_
      refine tj_iload_n (q := 18) dX10_wordNumber_17 rfl (i := 3) rfl (pl := 3) rfl ?_
      refine tj_bipush (q := 20) (v := 8) dX10_wordNumber_18 rfl (by decide) ?_
      refine tj_imul (q := 21) dX10_wordNumber_20 rfl ?_
      refine tj_iload_n (q := 22) dX10_wordNumber_21 rfl (i := 1) rfl (pl := 1) rfl ?_
      refine tj_iload_n (q := 23) dX10_wordNumber_22 rfl (i := 2) rfl (pl := 2) rfl ?_
      refine tj_callZp (q := 26) (kj_V (As := [.int (x3 * (8 : Int32)), .int x1, .int x2]) (rest := []) (t := t) wi_RX10_81 (hT).s rfl (rX10_fillsCell t (x3 * (8 : Int32)) x1 x2 (hT)) rfl (Nat.le_of_ble_eq_true rfl) ⟨Nat.le_of_ble_eq_true rfl, Nat.le_of_ble_eq_true rfl⟩ (Nat.le_of_ble_eq_true rfl) dX10_wordNumber_23) rfl (fun r2 => ?_)
      refine tj_bz (tgt := 31) (q := 29) dX10_wordNumber_26 (by decide) rfl ?_ ?_
      · refine tj_iload_n (q := 30) dX10_wordNumber_29 rfl (i := 3) rfl (pl := 3) rfl ?_
        exact tj_iret rfl rfl (Nat.le_of_ble_eq_true rfl) (Nat.le_of_ble_eq_true rfl) dX10_wordNumber_30
      · refine tj_iinc (q := 34) (v := x3 + 1) dX10_wordNumber_31 rfl (pl := 3) rfl rfl (by decide) rfl ?_
        refine tj_goto (q := 2) dX10_wordNumber_34 (by decide) ?_
        refine tj_lv [1, 2, 3, 0] rfl ?_
        exact ih (x3 + 1)

set_option maxHeartbeats 4000000 in
theorem rX10_wordNumber (t : Nat) (p1 : Int32) (p2 : Int32) (hT : LY10 sh P t) : Rj l D cA h0 ad yX10_wordNumber cX10_wordNumber 4 (some .int) false 7 0 0 (fun b => (some (.int b), sh, P, σ)) [.ref (h0 + t), .int p1, .int p2] sh P σ (mX10_wordNumber t p1 p2 σ) := by
  rw [mX10_wordNumber]
  refine Rj.of (by decide) (fun h => by cases h) (Nat.le_of_ble_eq_true rfl) ?_
  refine tj_lv0 (lv' := [(0, .ref (h0 + t)), (1, .int p1), (2, .int p2)]) rfl ?_
  refine tj_iconst (q := 1) (v := 0) dX10_wordNumber_0 rfl (by decide) ?_
  refine tj_istore_n (q := 2) dX10_wordNumber_1 rfl (i := 3) rfl (by decide) rfl ?_
  refine tj_lv [1, 2, 3, 0] rfl ?_
  exact tmX10_wordNumber_L2 σ t hT p1 p2 FU (0 : Int32)

theorem dX10_readWord_0 : decode cX10_readWord 0 = .ok (.iload_n 1, 1) := by decide +kernel
theorem dX10_readWord_1 : decode cX10_readWord 1 = .ok (.istore_n 2, 1) := by decide +kernel
theorem dX10_readWord_2 : decode cX10_readWord 2 = .ok (.lconst 0, 1) := by decide +kernel
theorem dX10_readWord_3 : decode cX10_readWord 3 = .ok (.lstore_n 3, 1) := by decide +kernel
theorem dX10_readWord_4 : decode cX10_readWord 4 = .ok (.iload_n 2, 1) := by decide +kernel
theorem dX10_readWord_5 : decode cX10_readWord 5 = .ok (.aload_n 0, 1) := by decide +kernel
theorem dX10_readWord_6 : decode cX10_readWord 6 = .ok (.getfield 15, 3) := by decide +kernel
theorem dX10_readWord_9 : decode cX10_readWord 9 = .ok (.if_icmp .ge 41, 3) := by decide +kernel
theorem dX10_readWord_12 : decode cX10_readWord 12 = .ok (.aload_n 0, 1) := by decide +kernel
theorem dX10_readWord_13 : decode cX10_readWord 13 = .ok (.getfield 9, 3) := by decide +kernel
theorem dX10_readWord_16 : decode cX10_readWord 16 = .ok (.iload_n 2, 1) := by decide +kernel
theorem dX10_readWord_17 : decode cX10_readWord 17 = .ok (.iaload, 1) := by decide +kernel
theorem dX10_readWord_18 : decode cX10_readWord 18 = .ok (.invokestatic 48, 3) := by decide +kernel
theorem dX10_readWord_21 : decode cX10_readWord 21 = .ok (.ifCond .eq 29, 3) := by decide +kernel
theorem dX10_readWord_24 : decode cX10_readWord 24 = .ok (.lload_n 3, 1) := by decide +kernel
theorem dX10_readWord_25 : decode cX10_readWord 25 = .ok (.ldc2_w 68, 3) := by decide +kernel
theorem dX10_readWord_28 : decode cX10_readWord 28 = .ok (.lmul, 1) := by decide +kernel
theorem dX10_readWord_29 : decode cX10_readWord 29 = .ok (.aload_n 0, 1) := by decide +kernel
theorem dX10_readWord_30 : decode cX10_readWord 30 = .ok (.getfield 9, 3) := by decide +kernel
theorem dX10_readWord_33 : decode cX10_readWord 33 = .ok (.iload_n 2, 1) := by decide +kernel
theorem dX10_readWord_34 : decode cX10_readWord 34 = .ok (.iaload, 1) := by decide +kernel
theorem dX10_readWord_35 : decode cX10_readWord 35 = .ok (.i2l, 1) := by decide +kernel
theorem dX10_readWord_36 : decode cX10_readWord 36 = .ok (.ladd, 1) := by decide +kernel
theorem dX10_readWord_37 : decode cX10_readWord 37 = .ok (.ldc2_w 70, 3) := by decide +kernel
theorem dX10_readWord_40 : decode cX10_readWord 40 = .ok (.lsub, 1) := by decide +kernel
theorem dX10_readWord_41 : decode cX10_readWord 41 = .ok (.lconst 1, 1) := by decide +kernel
theorem dX10_readWord_42 : decode cX10_readWord 42 = .ok (.ladd, 1) := by decide +kernel
theorem dX10_readWord_43 : decode cX10_readWord 43 = .ok (.lstore_n 3, 1) := by decide +kernel
theorem dX10_readWord_44 : decode cX10_readWord 44 = .ok (.iinc 2 1, 3) := by decide +kernel
theorem dX10_readWord_47 : decode cX10_readWord 47 = .ok (.goto (-43), 3) := by decide +kernel
theorem dX10_readWord_50 : decode cX10_readWord 50 = .ok (.aload_n 0, 1) := by decide +kernel
theorem dX10_readWord_51 : decode cX10_readWord 51 = .ok (.iload_n 1, 1) := by decide +kernel
theorem dX10_readWord_52 : decode cX10_readWord 52 = .ok (.iload_n 2, 1) := by decide +kernel
theorem dX10_readWord_53 : decode cX10_readWord 53 = .ok (.invokevirtual 72, 3) := by decide +kernel
theorem dX10_readWord_56 : decode cX10_readWord 56 = .ok (.istore 5, 2) := by decide +kernel
theorem dX10_readWord_58 : decode cX10_readWord 58 = .ok (.aload_n 0, 1) := by decide +kernel
theorem dX10_readWord_59 : decode cX10_readWord 59 = .ok (.getfield 25, 3) := by decide +kernel
theorem dX10_readWord_62 : decode cX10_readWord 62 = .ok (.aload_n 0, 1) := by decide +kernel
theorem dX10_readWord_63 : decode cX10_readWord 63 = .ok (.getfield 29, 3) := by decide +kernel
theorem dX10_readWord_66 : decode cX10_readWord 66 = .ok (.iload 5, 2) := by decide +kernel
theorem dX10_readWord_68 : decode cX10_readWord 68 = .ok (.iconst (-1), 1) := by decide +kernel
theorem dX10_readWord_69 : decode cX10_readWord 69 = .ok (.if_icmp .ne 7, 3) := by decide +kernel
theorem dX10_readWord_72 : decode cX10_readWord 72 = .ok (.lload_n 3, 1) := by decide +kernel
theorem dX10_readWord_73 : decode cX10_readWord 73 = .ok (.goto 6, 3) := by decide +kernel
theorem dX10_readWord_76 : decode cX10_readWord 76 = .ok (.iload 5, 2) := by decide +kernel
theorem dX10_readWord_78 : decode cX10_readWord 78 = .ok (.i2l, 1) := by decide +kernel
theorem dX10_readWord_79 : decode cX10_readWord 79 = .ok (.lastore, 1) := by decide +kernel
theorem dX10_readWord_80 : decode cX10_readWord 80 = .ok (.aload_n 0, 1) := by decide +kernel
theorem dX10_readWord_81 : decode cX10_readWord 81 = .ok (.getfield 22, 3) := by decide +kernel
theorem dX10_readWord_84 : decode cX10_readWord 84 = .ok (.aload_n 0, 1) := by decide +kernel
theorem dX10_readWord_85 : decode cX10_readWord 85 = .ok (.getfield 29, 3) := by decide +kernel
theorem dX10_readWord_88 : decode cX10_readWord 88 = .ok (.iload_n 2, 1) := by decide +kernel
theorem dX10_readWord_89 : decode cX10_readWord 89 = .ok (.iload_n 1, 1) := by decide +kernel
theorem dX10_readWord_90 : decode cX10_readWord 90 = .ok (.isub, 1) := by decide +kernel
theorem dX10_readWord_91 : decode cX10_readWord 91 = .ok (.bipush 8, 2) := by decide +kernel
theorem dX10_readWord_93 : decode cX10_readWord 93 = .ok (.if_icmp .le 7, 3) := by decide +kernel
theorem dX10_readWord_96 : decode cX10_readWord 96 = .ok (.iconst 1, 1) := by decide +kernel
theorem dX10_readWord_97 : decode cX10_readWord 97 = .ok (.goto 14, 3) := by decide +kernel
theorem dX10_readWord_100 : decode cX10_readWord 100 = .ok (.iload 5, 2) := by decide +kernel
theorem dX10_readWord_102 : decode cX10_readWord 102 = .ok (.iconst (-1), 1) := by decide +kernel
theorem dX10_readWord_103 : decode cX10_readWord 103 = .ok (.if_icmp .ne 7, 3) := by decide +kernel
theorem dX10_readWord_106 : decode cX10_readWord 106 = .ok (.iconst 2, 1) := by decide +kernel
theorem dX10_readWord_107 : decode cX10_readWord 107 = .ok (.goto 4, 3) := by decide +kernel
theorem dX10_readWord_110 : decode cX10_readWord 110 = .ok (.iconst 3, 1) := by decide +kernel
theorem dX10_readWord_111 : decode cX10_readWord 111 = .ok (.iastore, 1) := by decide +kernel
theorem dX10_readWord_112 : decode cX10_readWord 112 = .ok (.iload_n 2, 1) := by decide +kernel
theorem dX10_readWord_113 : decode cX10_readWord 113 = .ok (.ireturn, 1) := by decide +kernel
theorem wc_RX10_68 : Cond.constantLong RX10 68 27 ∈ TB := tbm 697 (by decide +kernel) (by decide +kernel)
theorem wc_RX10_70 : Cond.constantLong RX10 70 97 ∈ TB := tbm 698 (by decide +kernel) (by decide +kernel)
theorem wm_X10_wordNumber : Cond.instanceMethod yX10_wordNumber ∈ TB ∧ Cond.selects yX10_wordNumber.cls yX10_wordNumber yX10_wordNumber ∈ TB ∧ Cond.initialized yX10_wordNumber.cls ∈ TB ∧ Cond.code yX10_wordNumber cX10_wordNumber 4 (some .int) ∈ TB ∧ (yX10_wordNumber.cls ≠ "java/lang/invoke/MethodHandle" ∧ yX10_wordNumber.cls ≠ "java/lang/invoke/VarHandle" ∧ (parseMethodDescriptor yX10_wordNumber.desc).map (fun d => d.parameters.length) = some 2) ∧ 4 ≤ 21 := ⟨tbm 701 (by decide +kernel) (by decide +kernel), tbm 3 (by decide +kernel) (by decide +kernel), tbm 137 (by decide +kernel) (by decide +kernel), tbm 702 (by decide +kernel) (by decide +kernel), by decide +kernel, by decide⟩
theorem wi_RX10_72 : Iv RX10 72 yX10_wordNumber cX10_wordNumber 4 (some .int) 2 := ⟨tbm 699 (by decide +kernel) (by decide +kernel), wm_X10_wordNumber⟩
def mX10_readWord_L4 (t : Nat) (σ : St_) (x1 : Int32) (k50 : Int32 → Int64 → Option (Int32 × St_)) : Nat → Int32 → Int64 → Option (Int32 × St_)
  | 0, _, _ => none
  | n + 1, x2, x3 => (if (σ.1 t 1) ≤ x2 then
 (k50 x2 x3)
 else (if bin x2 1700 = true then bnd (σ.1 (t + 1) x2.toNatClampNeg) fun v1 =>
 ((mX10_isLetter v1 σ).bind fun r2 =>
 (if r2 = true then
 (if bin x2 1700 = true then bnd (σ.1 (t + 1) x2.toNatClampNeg) fun v3 =>
 (bnd ((((x3 * (27 : Int64)) + v3.toInt64) - (97 : Int64)) + (1 : Int64)) fun v4 =>
 (mX10_readWord_L4 t σ x1 k50 n (x2 + 1) v4))
 else none)
 else (k50 x2 x3)))
 else none))
def mX10_readWord (t : Nat) (p1 : Int32) (σ : St_) : Option (Int32 × St_) :=
 (mX10_readWord_L4 t σ p1
 (fun (y5 : Int32) (y6 : Int64) => ((mX10_wordNumber t p1 y5 σ).bind fun r7 =>
 (bnd (fun (j8 : Int64) => (bnd (σ.1 t 5) fun v11 =>
 (if bin v11 1701 = true then bnd (sL σ (t + 4) v11.toNatClampNeg j8) fun σ12 =>
 (bnd (fun (j13 : Int32) => (bnd (σ12.1 t 5) fun v16 =>
 (if bin v16 1701 = true then bnd (sI σ12 (t + 3) v16.toNatClampNeg j13) fun σ17 =>
 (some (y5, σ17))
 else none))) fun k14 =>
 (if (y5 - p1) ≤ (8 : Int32) then
 (if r7 = (-1 : Int32) then
 (k14 (2 : Int32))
 else (k14 (3 : Int32)))
 else (k14 (1 : Int32))))
 else none))) fun k9 =>
 (if r7 = (-1 : Int32) then
 (k9 y6)
 else (k9 r7.toInt64))))) FU p1 (0 : Int64))
set_option maxHeartbeats 4000000 in
theorem tmX10_readWord_L4 (σ : St_) (t : Nat) (hT : LY10 sh P t) (x1 : Int32) (k50 : Int32 → Int64 → Option (Int32 × St_)) (hk50 : ∀ (y2 : Int32) (y3 : Int64), Tj l D cA h0 ad RX10 cX10_readWord 6 (some .int) false 8 0 0 (fun b => (some (.int b.1), sh, P, b.2)) 0 0 sh P σ 50 [(0, .ref (h0 + t)), (1, .int x1), (2, .int y2), (3, .long y3)] [] (k50 y2 y3)) : ∀ (n : Nat) (x2 : Int32) (x3 : Int64), Tj l D cA h0 ad RX10 cX10_readWord 6 (some .int) false 8 0 0 (fun b => (some (.int b.1), sh, P, b.2)) 0 0 sh P σ 4 [(0, .ref (h0 + t)), (1, .int x1), (2, .int x2), (3, .long x3)] [] (mX10_readWord_L4 t σ x1 k50 n x2 x3) := by
  intro n
  induction n with
  | zero => intros; exact tj_none
  | succ n ih =>
    intro x2 x3
    rw [mX10_readWord_L4]
    refine tj_iload_n (q := 5) dX10_readWord_4 rfl (i := 2) rfl (pl := 2) rfl ?_
    refine tj_aload_n (q := 6) dX10_readWord_5 rfl (i := 0) rfl (pl := 0) rfl ?_
    refine tj_getI (q := 9) (hT).s fok_10_1 wl_RX10_15 dX10_readWord_6 rfl ?_
    refine tj_icmp_ge (tgt := 50) (q := 12) dX10_readWord_9 (by decide) rfl ?_ ?_
    · exact hk50 x2 x3
    · refine tj_aload_n (q := 13) dX10_readWord_12 rfl (i := 0) rfl (pl := 0) rfl ?_
      refine tj_getR (q := 16) (hT).s (hT).p_text fok_10_0 wl_RX10_9 dX10_readWord_13 rfl ?_
      refine tj_iload_n (q := 17) dX10_readWord_16 rfl (i := 2) rfl (pl := 2) rfl ?_
      refine tj_iaload (q := 18) (hT).s_text dX10_readWord_17 rfl ?_
      refine tj_topI (fun v1 => ?_)
      refine tj_callZp (q := 21) (kj_S (As := [.int v1]) (rest := []) wi_RX10_48 (rX10_isLetter v1) rfl (Nat.le_of_ble_eq_true rfl) ⟨Nat.le_of_ble_eq_true rfl, Nat.le_of_ble_eq_true rfl⟩ (Nat.le_of_ble_eq_true rfl) dX10_readWord_18) rfl (fun r2 => ?_)
      refine tj_bz (tgt := 50) (q := 24) dX10_readWord_21 (by decide) rfl ?_ ?_
      · refine tj_lload_n (q := 25) dX10_readWord_24 rfl (i := 3) rfl (pl := 3) rfl ?_
        refine tj_ldc2 (q := 28) (v := 27) dX10_readWord_25 rfl wc_RX10_68 ?_
        refine tj_lmul (q := 29) dX10_readWord_28 rfl ?_
        refine tj_aload_n (q := 30) dX10_readWord_29 rfl (i := 0) rfl (pl := 0) rfl ?_
        refine tj_getR (q := 33) (hT).s (hT).p_text fok_10_0 wl_RX10_9 dX10_readWord_30 rfl ?_
        refine tj_iload_n (q := 34) dX10_readWord_33 rfl (i := 2) rfl (pl := 2) rfl ?_
        refine tj_iaload (q := 35) (hT).s_text dX10_readWord_34 rfl ?_
        refine tj_topI (fun v3 => ?_)
        refine tj_i2l (q := 36) dX10_readWord_35 rfl ?_
        refine tj_ladd (q := 37) dX10_readWord_36 rfl ?_
        refine tj_ldc2 (q := 40) (v := 97) dX10_readWord_37 rfl wc_RX10_70 ?_
        refine tj_lsub (q := 41) dX10_readWord_40 rfl ?_
        refine tj_lconst (q := 42) (v := 1) dX10_readWord_41 rfl (by decide) ?_
        refine tj_ladd (q := 43) dX10_readWord_42 rfl ?_
        refine tj_topL (fun v4 => ?_)
        refine tj_lstore_n (q := 44) dX10_readWord_43 rfl (i := 3) rfl (by decide) rfl ?_
        refine tj_iinc (q := 47) (v := x2 + 1) dX10_readWord_44 rfl (pl := 3) rfl rfl (by decide) rfl ?_
        refine tj_goto (q := 4) dX10_readWord_47 (by decide) ?_
        refine tj_lv [2, 3, 0, 1] rfl ?_
        exact ih (x2 + 1) v4
      · exact hk50 x2 x3

set_option maxHeartbeats 4000000 in
theorem rX10_readWord (t : Nat) (p1 : Int32) (hT : LY10 sh P t) : Rj l D cA h0 ad yX10_readWord cX10_readWord 6 (some .int) false 8 0 0 (fun b => (some (.int b.1), sh, P, b.2)) [.ref (h0 + t), .int p1] sh P σ (mX10_readWord t p1 σ) := by
  rw [mX10_readWord]
  refine Rj.of (by decide) (fun h => by cases h) (Nat.le_of_ble_eq_true rfl) ?_
  refine tj_lv0 (lv' := [(0, .ref (h0 + t)), (1, .int p1)]) rfl ?_
  refine tj_iload_n (q := 1) dX10_readWord_0 rfl (i := 1) rfl (pl := 1) rfl ?_
  refine tj_istore_n (q := 2) dX10_readWord_1 rfl (i := 2) rfl (by decide) rfl ?_
  refine tj_lconst (q := 3) (v := 0) dX10_readWord_2 rfl (by decide) ?_
  refine tj_lstore_n (q := 4) dX10_readWord_3 rfl (i := 3) rfl (by decide) rfl ?_
  refine tj_lv [2, 3, 1, 0] rfl ?_
  refine tmX10_readWord_L4 σ t hT p1 _ ?_ FU p1 (0 : Int64)
  · intro y5 y6
    refine tj_aload_n (q := 51) dX10_readWord_50 rfl (i := 0) rfl (pl := 0) rfl ?_
    refine tj_iload_n (q := 52) dX10_readWord_51 rfl (i := 1) rfl (pl := 1) rfl ?_
    refine tj_iload_n (q := 53) dX10_readWord_52 rfl (i := 2) rfl (pl := 2) rfl ?_
    refine tj_callIp (q := 56) (kj_V (As := [.int p1, .int y5]) (rest := []) (t := t) wi_RX10_72 (hT).s rfl (rX10_wordNumber t p1 y5 (hT)) rfl (Nat.le_of_ble_eq_true rfl) ⟨Nat.le_of_ble_eq_true rfl, Nat.le_of_ble_eq_true rfl⟩ (Nat.le_of_ble_eq_true rfl) dX10_readWord_53) rfl (fun r7 => ?_)
    refine tj_istore (q := 58) dX10_readWord_56 rfl (by decide) rfl ?_
    refine tj_aload_n (q := 59) dX10_readWord_58 rfl (i := 0) rfl (pl := 1) rfl ?_
    refine tj_getR (q := 62) (hT).s (hT).p_values fok_10_4 wl_RX10_25 dX10_readWord_59 rfl ?_
    refine tj_aload_n (q := 63) dX10_readWord_62 rfl (i := 0) rfl (pl := 1) rfl ?_
    refine tj_getI (q := 66) (hT).s fok_10_5 wl_RX10_29 dX10_readWord_63 rfl ?_
    refine tj_iload (q := 68) dX10_readWord_66 rfl (pl := 0) rfl ?_
    refine tj_iconst (q := 69) (v := (-1)) dX10_readWord_68 rfl (by decide) ?_
    refine tj_bnd (fun k9 => ∀ (j8 : Int64), Tj l D cA h0 ad RX10 cX10_readWord 6 (some .int) false 8 0 0 (fun b => (some (.int b.1), sh, P, b.2)) 0 0 sh P σ 79 [(0, .ref (h0 + t)), (1, .int p1), (2, .int y5), (5, .int r7)] [.long j8, .int (σ.1 t 5), .ref (h0 + (t + 4))] (k9 j8)) ?_ (fun k9 hk10 => ?_)
    · intro j8
      refine tj_sndL (fun v11 => ?_)
      refine tj_lastore (q := 80) (hT).s_values dX10_readWord_79 rfl (fun σ12 => ?_)
      refine tj_aload_n (q := 81) dX10_readWord_80 rfl (i := 0) rfl (pl := 0) rfl ?_
      refine tj_getR (q := 84) (hT).s (hT).p_sorts fok_10_3 wl_RX10_22 dX10_readWord_81 rfl ?_
      refine tj_aload_n (q := 85) dX10_readWord_84 rfl (i := 0) rfl (pl := 0) rfl ?_
      refine tj_getI (q := 88) (hT).s fok_10_5 wl_RX10_29 dX10_readWord_85 rfl ?_
      refine tj_iload_n (q := 89) dX10_readWord_88 rfl (i := 2) rfl (pl := 2) rfl ?_
      refine tj_iload_n (q := 90) dX10_readWord_89 rfl (i := 1) rfl (pl := 1) rfl ?_
      refine tj_isub (q := 91) dX10_readWord_90 rfl ?_
      refine tj_bipush (q := 93) (v := 8) dX10_readWord_91 rfl (by decide) ?_
      refine tj_bnd (fun k14 => ∀ (j13 : Int32), Tj l D cA h0 ad RX10 cX10_readWord 6 (some .int) false 8 0 0 (fun b => (some (.int b.1), sh, P, b.2)) 0 0 sh P σ12 111 [(2, .int y5)] [.int j13, .int (σ12.1 t 5), .ref (h0 + (t + 3))] (k14 j13)) ?_ (fun k14 hk15 => ?_)
      · intro j13
        refine tj_sndI (fun v16 => ?_)
        refine tj_iastore (q := 112) (hT).s_sorts dX10_readWord_111 rfl (fun σ17 => ?_)
        refine tj_iload_n (q := 113) dX10_readWord_112 rfl (i := 2) rfl (pl := 0) rfl ?_
        exact tj_iret rfl rfl (Nat.le_of_ble_eq_true rfl) (Nat.le_of_ble_eq_true rfl) dX10_readWord_113
      · refine tj_icmp_le (tgt := 100) (q := 96) dX10_readWord_93 (by decide) rfl ?_ ?_
        · refine tj_iload (q := 102) dX10_readWord_100 rfl (pl := 3) rfl ?_
          refine tj_iconst (q := 103) (v := (-1)) dX10_readWord_102 rfl (by decide) ?_
          refine tj_icmp_ne (tgt := 110) (q := 106) dX10_readWord_103 (by decide) rfl ?_ ?_
          · refine tj_iconst (q := 107) (v := 2) dX10_readWord_106 rfl (by decide) ?_
            refine tj_goto (q := 111) dX10_readWord_107 (by decide) ?_
            refine tj_lv [2] rfl ?_
            exact hk15 (2 : Int32)
          · refine tj_iconst (q := 111) (v := 3) dX10_readWord_110 rfl (by decide) ?_
            refine tj_lv [2] rfl ?_
            exact hk15 (3 : Int32)
        · refine tj_iconst (q := 97) (v := 1) dX10_readWord_96 rfl (by decide) ?_
          refine tj_goto (q := 111) dX10_readWord_97 (by decide) ?_
          refine tj_lv [2] rfl ?_
          exact hk15 (1 : Int32)
    · refine tj_icmp_ne (tgt := 76) (q := 72) dX10_readWord_69 (by decide) rfl ?_ ?_
      · refine tj_lload_n (q := 73) dX10_readWord_72 rfl (i := 3) rfl (pl := 4) rfl ?_
        refine tj_goto (q := 79) dX10_readWord_73 (by decide) ?_
        refine tj_lv [1, 2, 3, 0] rfl ?_
        exact hk10 y6
      · refine tj_iload (q := 78) dX10_readWord_76 rfl (pl := 0) rfl ?_
        refine tj_i2l (q := 79) dX10_readWord_78 rfl ?_
        refine tj_lv [1, 2, 3, 0] rfl ?_
        exact hk10 r7.toInt64

theorem dJ1_canEncode_9a6ad_0 : decode cJ1_canEncode_9a6ad 0 = .ok (.iload_n 0, 1) := by decide +kernel
theorem dJ1_canEncode_9a6ad_1 : decode cJ1_canEncode_9a6ad 1 = .ok (.ifCond .lt 14, 3) := by decide +kernel
theorem dJ1_canEncode_9a6ad_4 : decode cJ1_canEncode_9a6ad 4 = .ok (.iload_n 0, 1) := by decide +kernel
theorem dJ1_canEncode_9a6ad_5 : decode cJ1_canEncode_9a6ad 5 = .ok (.sipush 255, 3) := by decide +kernel
theorem dJ1_canEncode_9a6ad_8 : decode cJ1_canEncode_9a6ad 8 = .ok (.if_icmp .gt 7, 3) := by decide +kernel
theorem dJ1_canEncode_9a6ad_11 : decode cJ1_canEncode_9a6ad 11 = .ok (.iconst 1, 1) := by decide +kernel
theorem dJ1_canEncode_9a6ad_12 : decode cJ1_canEncode_9a6ad 12 = .ok (.goto 4, 3) := by decide +kernel
theorem dJ1_canEncode_9a6ad_15 : decode cJ1_canEncode_9a6ad 15 = .ok (.iconst 0, 1) := by decide +kernel
theorem dJ1_canEncode_9a6ad_16 : decode cJ1_canEncode_9a6ad 16 = .ok (.ireturn, 1) := by decide +kernel
def mJ1_canEncode_9a6ad (p1 : Int32) (σ : St_) : Option Bool :=
 (if p1 < 0 then
 (some false)
 else (if (255 : Int32) < p1 then
 (some false)
 else (some true)))
set_option maxHeartbeats 4000000 in
theorem rJ1_canEncode_9a6ad (p1 : Int32)  : Rj l D cA h0 ad yJ1_canEncode_9a6ad cJ1_canEncode_9a6ad 1 (some .boolean) false 2 0 0 (fun b => (some (.int (b2i b)), sh, P, σ)) [.int p1] sh P σ (mJ1_canEncode_9a6ad p1 σ) := by
  rw [mJ1_canEncode_9a6ad]
  refine Rj.of (by decide) (fun h => by cases h) (Nat.le_of_ble_eq_true rfl) ?_
  refine tj_lv0 (lv' := [(0, .int p1)]) rfl ?_
  refine tj_iload_n (q := 1) dJ1_canEncode_9a6ad_0 rfl (i := 0) rfl (pl := 0) rfl ?_
  refine tj_if_lt (tgt := 15) (q := 4) dJ1_canEncode_9a6ad_1 (by decide) rfl ?_ ?_
  · refine tj_iconst (q := 16) (v := 0) dJ1_canEncode_9a6ad_15 rfl (by decide) ?_
    exact tj_zret rfl (by decide) rfl (Nat.le_of_ble_eq_true rfl) (Nat.le_of_ble_eq_true rfl) dJ1_canEncode_9a6ad_16
  · refine tj_iload_n (q := 5) dJ1_canEncode_9a6ad_4 rfl (i := 0) rfl (pl := 0) rfl ?_
    refine tj_sipush (q := 8) (v := 255) dJ1_canEncode_9a6ad_5 rfl (by decide) ?_
    refine tj_icmp_gt (tgt := 15) (q := 11) dJ1_canEncode_9a6ad_8 (by decide) rfl ?_ ?_
    · refine tj_iconst (q := 16) (v := 0) dJ1_canEncode_9a6ad_15 rfl (by decide) ?_
      exact tj_zret rfl (by decide) rfl (Nat.le_of_ble_eq_true rfl) (Nat.le_of_ble_eq_true rfl) dJ1_canEncode_9a6ad_16
    · refine tj_iconst (q := 12) (v := 1) dJ1_canEncode_9a6ad_11 rfl (by decide) ?_
      refine tj_goto (q := 16) dJ1_canEncode_9a6ad_12 (by decide) ?_
      exact tj_zret rfl (by decide) rfl (Nat.le_of_ble_eq_true rfl) (Nat.le_of_ble_eq_true rfl) dJ1_canEncode_9a6ad_16

theorem dJ1_indexOfChar_4cfef_0 : decode cJ1_indexOfChar_4cfef 0 = .ok (.iload_n 1, 1) := by decide +kernel
theorem dJ1_indexOfChar_4cfef_1 : decode cJ1_indexOfChar_4cfef 1 = .ok (.i2b, 1) := by decide +kernel
theorem dJ1_indexOfChar_4cfef_2 : decode cJ1_indexOfChar_4cfef 2 = .ok (.istore 4, 2) := by decide +kernel
theorem dJ1_indexOfChar_4cfef_4 : decode cJ1_indexOfChar_4cfef 4 = .ok (.iload_n 2, 1) := by decide +kernel
theorem dJ1_indexOfChar_4cfef_5 : decode cJ1_indexOfChar_4cfef 5 = .ok (.istore 5, 2) := by decide +kernel
theorem dJ1_indexOfChar_4cfef_7 : decode cJ1_indexOfChar_4cfef 7 = .ok (.iload 5, 2) := by decide +kernel
theorem dJ1_indexOfChar_4cfef_9 : decode cJ1_indexOfChar_4cfef 9 = .ok (.iload_n 3, 1) := by decide +kernel
theorem dJ1_indexOfChar_4cfef_10 : decode cJ1_indexOfChar_4cfef 10 = .ok (.if_icmp .ge 21, 3) := by decide +kernel
theorem dJ1_indexOfChar_4cfef_13 : decode cJ1_indexOfChar_4cfef 13 = .ok (.aload_n 0, 1) := by decide +kernel
theorem dJ1_indexOfChar_4cfef_14 : decode cJ1_indexOfChar_4cfef 14 = .ok (.iload 5, 2) := by decide +kernel
theorem dJ1_indexOfChar_4cfef_16 : decode cJ1_indexOfChar_4cfef 16 = .ok (.baload, 1) := by decide +kernel
theorem dJ1_indexOfChar_4cfef_17 : decode cJ1_indexOfChar_4cfef 17 = .ok (.iload 4, 2) := by decide +kernel
theorem dJ1_indexOfChar_4cfef_19 : decode cJ1_indexOfChar_4cfef 19 = .ok (.if_icmp .ne 6, 3) := by decide +kernel
theorem dJ1_indexOfChar_4cfef_22 : decode cJ1_indexOfChar_4cfef 22 = .ok (.iload 5, 2) := by decide +kernel
theorem dJ1_indexOfChar_4cfef_24 : decode cJ1_indexOfChar_4cfef 24 = .ok (.ireturn, 1) := by decide +kernel
theorem dJ1_indexOfChar_4cfef_25 : decode cJ1_indexOfChar_4cfef 25 = .ok (.iinc 5 1, 3) := by decide +kernel
theorem dJ1_indexOfChar_4cfef_28 : decode cJ1_indexOfChar_4cfef 28 = .ok (.goto (-21), 3) := by decide +kernel
theorem dJ1_indexOfChar_4cfef_31 : decode cJ1_indexOfChar_4cfef 31 = .ok (.iconst (-1), 1) := by decide +kernel
theorem dJ1_indexOfChar_4cfef_32 : decode cJ1_indexOfChar_4cfef 32 = .ok (.ireturn, 1) := by decide +kernel
def mJ1_indexOfChar_4cfef_L7 (p1 : Nat) (σ : St_) (x3 : Int32) (x4 : Int32) : Nat → Int32 → Option Int32
  | 0, _ => none
  | n + 1, x5 => (if x3 ≤ x5 then
 (some (-1 : Int32))
 else (if bin x5 (SLEN.getD p1 0) = true then bnd ((SBYT.getD p1 []).getD x5.toNatClampNeg 0) fun v2 =>
 (if v2 = x4 then
 (some x5)
 else (mJ1_indexOfChar_4cfef_L7 p1 σ x3 x4 n (x5 + 1)))
 else none))
def mJ1_indexOfChar_4cfef (p1 : Nat) (p2 : Int32) (p3 : Int32) (p4 : Int32) (σ : St_) : Option Int32 :=
 (bnd p2.toInt8.toInt32 fun v1 =>
 (mJ1_indexOfChar_4cfef_L7 p1 σ p4 v1 FU p3))
set_option maxHeartbeats 4000000 in
theorem tmJ1_indexOfChar_4cfef_L7 (σ : St_) (p1 : Nat) (hp1 : p1 < 2) (x3 : Int32) (x4 : Int32) : ∀ (n : Nat) (x5 : Int32), Tj l D cA h0 ad RJ1 cJ1_indexOfChar_4cfef 6 (some .int) false 2 0 0 (fun b => (some (.int b), sh, P, σ)) 0 0 sh P σ 7 [(0, .ref (ad.2 p1)), (3, .int x3), (4, .int x4), (5, .int x5)] [] (mJ1_indexOfChar_4cfef_L7 p1 σ x3 x4 n x5) := by
  intro n
  induction n with
  | zero => intros; exact tj_none
  | succ n ih =>
    intro x5
    rw [mJ1_indexOfChar_4cfef_L7]
    refine tj_iload (q := 9) dJ1_indexOfChar_4cfef_7 rfl (pl := 3) rfl ?_
    refine tj_iload_n (q := 10) dJ1_indexOfChar_4cfef_9 rfl (i := 3) rfl (pl := 1) rfl ?_
    refine tj_icmp_ge (tgt := 31) (q := 13) dJ1_indexOfChar_4cfef_10 (by decide) rfl ?_ ?_
    · refine tj_iconst (q := 32) (v := (-1)) dJ1_indexOfChar_4cfef_31 rfl (by decide) ?_
      exact tj_iret rfl rfl (Nat.le_of_ble_eq_true rfl) (Nat.le_of_ble_eq_true rfl) dJ1_indexOfChar_4cfef_32
    · refine tj_aload_n (q := 14) dJ1_indexOfChar_4cfef_13 rfl (i := 0) rfl (pl := 0) rfl ?_
      refine tj_iload (q := 16) dJ1_indexOfChar_4cfef_14 rfl (pl := 3) rfl ?_
      refine tj_byld (q := 17) hp1 dJ1_indexOfChar_4cfef_16 rfl ?_
      refine tj_topI (fun v2 => ?_)
      refine tj_iload (q := 19) dJ1_indexOfChar_4cfef_17 rfl (pl := 2) rfl ?_
      refine tj_icmp_ne (tgt := 25) (q := 22) dJ1_indexOfChar_4cfef_19 (by decide) rfl ?_ ?_
      · refine tj_iload (q := 24) dJ1_indexOfChar_4cfef_22 rfl (pl := 3) rfl ?_
        exact tj_iret rfl rfl (Nat.le_of_ble_eq_true rfl) (Nat.le_of_ble_eq_true rfl) dJ1_indexOfChar_4cfef_24
      · refine tj_iinc (q := 28) (v := x5 + 1) dJ1_indexOfChar_4cfef_25 rfl (pl := 3) rfl rfl (by decide) rfl ?_
        refine tj_goto (q := 7) dJ1_indexOfChar_4cfef_28 (by decide) ?_
        refine tj_lv [1, 2, 3, 0] rfl ?_
        exact ih (x5 + 1)

set_option maxHeartbeats 4000000 in
theorem rJ1_indexOfChar_4cfef (p1 : Nat) (p2 : Int32) (p3 : Int32) (p4 : Int32) (hp1 : p1 < 2) : Rj l D cA h0 ad yJ1_indexOfChar_4cfef cJ1_indexOfChar_4cfef 6 (some .int) false 2 0 0 (fun b => (some (.int b), sh, P, σ)) [.ref (ad.2 p1), .int p2, .int p3, .int p4] sh P σ (mJ1_indexOfChar_4cfef p1 p2 p3 p4 σ) := by
  rw [mJ1_indexOfChar_4cfef]
  refine Rj.of (by decide) (fun h => by cases h) (Nat.le_of_ble_eq_true rfl) ?_
  refine tj_lv0 (lv' := [(0, .ref (ad.2 p1)), (1, .int p2), (2, .int p3), (3, .int p4)]) rfl ?_
  refine tj_iload_n (q := 1) dJ1_indexOfChar_4cfef_0 rfl (i := 1) rfl (pl := 1) rfl ?_
  refine tj_i2b (q := 2) dJ1_indexOfChar_4cfef_1 rfl ?_
  refine tj_topI (fun v1 => ?_)
  refine tj_istore (q := 4) dJ1_indexOfChar_4cfef_2 rfl (by decide) rfl ?_
  refine tj_iload_n (q := 5) dJ1_indexOfChar_4cfef_4 rfl (i := 2) rfl (pl := 3) rfl ?_
  refine tj_istore (q := 7) dJ1_indexOfChar_4cfef_5 rfl (by decide) rfl ?_
  refine tj_lv [2, 5, 1, 0] rfl ?_
  exact tmJ1_indexOfChar_4cfef_L7 σ p1 hp1 p4 v1 FU p3

theorem dJ1_indexOf_4cfef_0 : decode cJ1_indexOf_4cfef 0 = .ok (.iload_n 1, 1) := by decide +kernel
theorem dJ1_indexOf_4cfef_1 : decode cJ1_indexOf_4cfef 1 = .ok (.invokestatic 88, 3) := by decide +kernel
theorem dJ1_indexOf_4cfef_4 : decode cJ1_indexOf_4cfef 4 = .ok (.ifCond .ne 5, 3) := by decide +kernel
theorem dJ1_indexOf_4cfef_7 : decode cJ1_indexOf_4cfef 7 = .ok (.iconst (-1), 1) := by decide +kernel
theorem dJ1_indexOf_4cfef_8 : decode cJ1_indexOf_4cfef 8 = .ok (.ireturn, 1) := by decide +kernel
theorem dJ1_indexOf_4cfef_9 : decode cJ1_indexOf_4cfef 9 = .ok (.iload_n 2, 1) := by decide +kernel
theorem dJ1_indexOf_4cfef_10 : decode cJ1_indexOf_4cfef 10 = .ok (.iconst 0, 1) := by decide +kernel
theorem dJ1_indexOf_4cfef_11 : decode cJ1_indexOf_4cfef 11 = .ok (.invokestatic 92, 3) := by decide +kernel
theorem dJ1_indexOf_4cfef_14 : decode cJ1_indexOf_4cfef 14 = .ok (.istore_n 2, 1) := by decide +kernel
theorem dJ1_indexOf_4cfef_15 : decode cJ1_indexOf_4cfef 15 = .ok (.iload_n 3, 1) := by decide +kernel
theorem dJ1_indexOf_4cfef_16 : decode cJ1_indexOf_4cfef 16 = .ok (.aload_n 0, 1) := by decide +kernel
theorem dJ1_indexOf_4cfef_17 : decode cJ1_indexOf_4cfef 17 = .ok (.arraylength, 1) := by decide +kernel
theorem dJ1_indexOf_4cfef_18 : decode cJ1_indexOf_4cfef 18 = .ok (.invokestatic 38, 3) := by decide +kernel
theorem dJ1_indexOf_4cfef_21 : decode cJ1_indexOf_4cfef 21 = .ok (.istore_n 3, 1) := by decide +kernel
theorem dJ1_indexOf_4cfef_22 : decode cJ1_indexOf_4cfef 22 = .ok (.iload_n 2, 1) := by decide +kernel
theorem dJ1_indexOf_4cfef_23 : decode cJ1_indexOf_4cfef 23 = .ok (.iload_n 3, 1) := by decide +kernel
theorem dJ1_indexOf_4cfef_24 : decode cJ1_indexOf_4cfef 24 = .ok (.if_icmp .lt 5, 3) := by decide +kernel
theorem dJ1_indexOf_4cfef_27 : decode cJ1_indexOf_4cfef 27 = .ok (.iconst (-1), 1) := by decide +kernel
theorem dJ1_indexOf_4cfef_28 : decode cJ1_indexOf_4cfef 28 = .ok (.ireturn, 1) := by decide +kernel
theorem dJ1_indexOf_4cfef_29 : decode cJ1_indexOf_4cfef 29 = .ok (.aload_n 0, 1) := by decide +kernel
theorem dJ1_indexOf_4cfef_30 : decode cJ1_indexOf_4cfef 30 = .ok (.iload_n 1, 1) := by decide +kernel
theorem dJ1_indexOf_4cfef_31 : decode cJ1_indexOf_4cfef 31 = .ok (.iload_n 2, 1) := by decide +kernel
theorem dJ1_indexOf_4cfef_32 : decode cJ1_indexOf_4cfef 32 = .ok (.iload_n 3, 1) := by decide +kernel
theorem dJ1_indexOf_4cfef_33 : decode cJ1_indexOf_4cfef 33 = .ok (.invokestatic 95, 3) := by decide +kernel
theorem dJ1_indexOf_4cfef_36 : decode cJ1_indexOf_4cfef 36 = .ok (.ireturn, 1) := by decide +kernel
theorem wm_J1_canEncode_9a6ad : Cond.static yJ1_canEncode_9a6ad ∈ TB ∧ Cond.initialized yJ1_canEncode_9a6ad.cls ∈ TB ∧ Cond.code yJ1_canEncode_9a6ad cJ1_canEncode_9a6ad 1 (some .boolean) ∈ TB ∧ (yJ1_canEncode_9a6ad.cls ≠ "java/lang/invoke/MethodHandle" ∧ yJ1_canEncode_9a6ad.cls ≠ "java/lang/invoke/VarHandle" ∧ (parseMethodDescriptor yJ1_canEncode_9a6ad.desc).map (fun d => d.parameters.length) = some 1) ∧ 1 ≤ 21 := ⟨tbm 777 (by decide +kernel) (by decide +kernel), tbm 148 (by decide +kernel) (by decide +kernel), tbm 778 (by decide +kernel) (by decide +kernel), by decide +kernel, by decide⟩
theorem wi_RJ1_88 : Is RJ1 88 yJ1_canEncode_9a6ad cJ1_canEncode_9a6ad 1 (some .boolean) 1 := ⟨tbm 776 (by decide +kernel) (by decide +kernel), wm_J1_canEncode_9a6ad⟩
theorem wj_RJ1_92 : Is RJ1 92 Lib.Math.max.name Lib.Math.max.code 2 (some .int) 2 := ⟨tbm 779 (by decide +kernel) (by decide +kernel), tbm 780 (by decide +kernel) (by decide +kernel), tbm 151 (by decide +kernel) (by decide +kernel), tbm 781 (by decide +kernel) (by decide +kernel), by decide +kernel, by decide⟩
theorem wj_RJ1_38 : Is RJ1 38 Lib.Math.min.name Lib.Math.min.code 2 (some .int) 2 := ⟨tbm 782 (by decide +kernel) (by decide +kernel), tbm 783 (by decide +kernel) (by decide +kernel), tbm 151 (by decide +kernel) (by decide +kernel), tbm 784 (by decide +kernel) (by decide +kernel), by decide +kernel, by decide⟩
theorem wm_J1_indexOfChar_4cfef : Cond.static yJ1_indexOfChar_4cfef ∈ TB ∧ Cond.initialized yJ1_indexOfChar_4cfef.cls ∈ TB ∧ Cond.code yJ1_indexOfChar_4cfef cJ1_indexOfChar_4cfef 6 (some .int) ∈ TB ∧ (yJ1_indexOfChar_4cfef.cls ≠ "java/lang/invoke/MethodHandle" ∧ yJ1_indexOfChar_4cfef.cls ≠ "java/lang/invoke/VarHandle" ∧ (parseMethodDescriptor yJ1_indexOfChar_4cfef.desc).map (fun d => d.parameters.length) = some 4) ∧ 6 ≤ 21 := ⟨tbm 786 (by decide +kernel) (by decide +kernel), tbm 148 (by decide +kernel) (by decide +kernel), tbm 787 (by decide +kernel) (by decide +kernel), by decide +kernel, by decide⟩
theorem wi_RJ1_95 : Is RJ1 95 yJ1_indexOfChar_4cfef cJ1_indexOfChar_4cfef 6 (some .int) 4 := ⟨tbm 785 (by decide +kernel) (by decide +kernel), wm_J1_indexOfChar_4cfef⟩
def mJ1_indexOf_4cfef (p1 : Nat) (p2 : Int32) (p3 : Int32) (p4 : Int32) (σ : St_) : Option Int32 :=
 ((mJ1_canEncode_9a6ad p2 σ).bind fun r1 =>
 (if r1 = true then
 (bnd (if p3 < (0 : Int32) then (0 : Int32) else p3) fun v2 =>
 (bnd (if (Int32.ofNat (SLEN.getD p1 0)) < p4 then (Int32.ofNat (SLEN.getD p1 0)) else p4) fun v3 =>
 (if v2 < v3 then
 ((mJ1_indexOfChar_4cfef p1 p2 v2 v3 σ).bind fun r4 =>
 (some r4))
 else (some (-1 : Int32)))))
 else (some (-1 : Int32))))
set_option maxHeartbeats 4000000 in
theorem rJ1_indexOf_4cfef (p1 : Nat) (p2 : Int32) (p3 : Int32) (p4 : Int32) (hp1 : p1 < 2) : Rj l D cA h0 ad yJ1_indexOf_4cfef cJ1_indexOf_4cfef 4 (some .int) false 3 0 0 (fun b => (some (.int b), sh, P, σ)) [.ref (ad.2 p1), .int p2, .int p3, .int p4] sh P σ (mJ1_indexOf_4cfef p1 p2 p3 p4 σ) := by
  rw [mJ1_indexOf_4cfef]
  refine Rj.of (by decide) (fun h => by cases h) (Nat.le_of_ble_eq_true rfl) ?_
  refine tj_lv0 (lv' := [(0, .ref (ad.2 p1)), (1, .int p2), (2, .int p3), (3, .int p4)]) rfl ?_
  refine tj_iload_n (q := 1) dJ1_indexOf_4cfef_0 rfl (i := 1) rfl (pl := 1) rfl ?_
  refine tj_callZp (q := 4) (kj_S (As := [.int p2]) (rest := []) wi_RJ1_88 (rJ1_canEncode_9a6ad p2) rfl (Nat.le_of_ble_eq_true rfl) ⟨Nat.le_of_ble_eq_true rfl, Nat.le_of_ble_eq_true rfl⟩ (Nat.le_of_ble_eq_true rfl) dJ1_indexOf_4cfef_1) rfl (fun r1 => ?_)
  refine tj_bnz (tgt := 9) (q := 7) dJ1_indexOf_4cfef_4 (by decide) rfl ?_ ?_
  · refine tj_iload_n (q := 10) dJ1_indexOf_4cfef_9 rfl (i := 2) rfl (pl := 2) rfl ?_
    refine tj_iconst (q := 11) (v := 0) dJ1_indexOf_4cfef_10 rfl (by decide) ?_
    refine tj_max (q := 14) wj_RJ1_92 dJ1_indexOf_4cfef_11 rfl (Nat.le_of_ble_eq_true rfl) (Nat.le_of_ble_eq_true rfl) ?_
    refine tj_topI (fun v2 => ?_)
    refine tj_istore_n (q := 15) dJ1_indexOf_4cfef_14 rfl (i := 2) rfl (by decide) rfl ?_
    refine tj_iload_n (q := 16) dJ1_indexOf_4cfef_15 rfl (i := 3) rfl (pl := 3) rfl ?_
    refine tj_aload_n (q := 17) dJ1_indexOf_4cfef_16 rfl (i := 0) rfl (pl := 1) rfl ?_
    refine tj_bylen (q := 18) hp1 dJ1_indexOf_4cfef_17 rfl ?_
    refine tj_min (q := 21) wj_RJ1_38 dJ1_indexOf_4cfef_18 rfl (Nat.le_of_ble_eq_true rfl) (Nat.le_of_ble_eq_true rfl) ?_
    refine tj_topI (fun v3 => ?_)
    refine tj_istore_n (q := 22) dJ1_indexOf_4cfef_21 rfl (i := 3) rfl (by decide) rfl ?_
    refine tj_iload_n (q := 23) dJ1_indexOf_4cfef_22 rfl (i := 2) rfl (pl := 1) rfl ?_
    refine tj_iload_n (q := 24) dJ1_indexOf_4cfef_23 rfl (i := 3) rfl (pl := 0) rfl ?_
    refine tj_icmp_lt (tgt := 29) (q := 27) dJ1_indexOf_4cfef_24 (by decide) rfl ?_ ?_
    · refine tj_aload_n (q := 30) dJ1_indexOf_4cfef_29 rfl (i := 0) rfl (pl := 2) rfl ?_
      refine tj_iload_n (q := 31) dJ1_indexOf_4cfef_30 rfl (i := 1) rfl (pl := 3) rfl ?_
      refine tj_iload_n (q := 32) dJ1_indexOf_4cfef_31 rfl (i := 2) rfl (pl := 1) rfl ?_
      refine tj_iload_n (q := 33) dJ1_indexOf_4cfef_32 rfl (i := 3) rfl (pl := 0) rfl ?_
      refine tj_callIp (q := 36) (kj_S (As := [.ref (ad.2 p1), .int p2, .int v2, .int v3]) (rest := []) wi_RJ1_95 (rJ1_indexOfChar_4cfef p1 p2 v2 v3 (hp1)) rfl (Nat.le_of_ble_eq_true rfl) ⟨Nat.le_of_ble_eq_true rfl, Nat.le_of_ble_eq_true rfl⟩ (Nat.le_of_ble_eq_true rfl) dJ1_indexOf_4cfef_33) rfl (fun r4 => ?_)
      exact tj_iret rfl rfl (Nat.le_of_ble_eq_true rfl) (Nat.le_of_ble_eq_true rfl) dJ1_indexOf_4cfef_36
    · refine tj_iconst (q := 28) (v := (-1)) dJ1_indexOf_4cfef_27 rfl (by decide) ?_
      exact tj_iret rfl rfl (Nat.le_of_ble_eq_true rfl) (Nat.le_of_ble_eq_true rfl) dJ1_indexOf_4cfef_28
  · refine tj_iconst (q := 8) (v := (-1)) dJ1_indexOf_4cfef_7 rfl (by decide) ?_
    exact tj_iret rfl rfl (Nat.le_of_ble_eq_true rfl) (Nat.le_of_ble_eq_true rfl) dJ1_indexOf_4cfef_8

theorem dJ0_indexOf_7cf53_0 : decode cJ0_indexOf_7cf53 0 = .ok (.aload_n 0, 1) := by decide +kernel
theorem dJ0_indexOf_7cf53_1 : decode cJ0_indexOf_7cf53 1 = .ok (.invokevirtual 492, 3) := by decide +kernel
theorem dJ0_indexOf_7cf53_4 : decode cJ0_indexOf_7cf53 4 = .ok (.ifCond .eq 19, 3) := by decide +kernel
theorem dJ0_indexOf_7cf53_7 : decode cJ0_indexOf_7cf53 7 = .ok (.aload_n 0, 1) := by decide +kernel
theorem dJ0_indexOf_7cf53_8 : decode cJ0_indexOf_7cf53 8 = .ok (.getfield 9, 3) := by decide +kernel
theorem dJ0_indexOf_7cf53_11 : decode cJ0_indexOf_7cf53 11 = .ok (.iload_n 1, 1) := by decide +kernel
theorem dJ0_indexOf_7cf53_12 : decode cJ0_indexOf_7cf53 12 = .ok (.iload_n 2, 1) := by decide +kernel
theorem dJ0_indexOf_7cf53_13 : decode cJ0_indexOf_7cf53 13 = .ok (.aload_n 0, 1) := by decide +kernel
theorem dJ0_indexOf_7cf53_14 : decode cJ0_indexOf_7cf53 14 = .ok (.invokevirtual 505, 3) := by decide +kernel
theorem dJ0_indexOf_7cf53_17 : decode cJ0_indexOf_7cf53 17 = .ok (.invokestatic 637, 3) := by decide +kernel
theorem dJ0_indexOf_7cf53_20 : decode cJ0_indexOf_7cf53 20 = .ok (.goto 16, 3) := by decide +kernel
theorem dJ0_indexOf_7cf53_23 : decode cJ0_indexOf_7cf53 23 = .ok (.aload_n 0, 1) := by decide +kernel
theorem dJ0_indexOf_7cf53_24 : decode cJ0_indexOf_7cf53 24 = .ok (.getfield 9, 3) := by decide +kernel
theorem dJ0_indexOf_7cf53_27 : decode cJ0_indexOf_7cf53 27 = .ok (.iload_n 1, 1) := by decide +kernel
theorem dJ0_indexOf_7cf53_28 : decode cJ0_indexOf_7cf53 28 = .ok (.iload_n 2, 1) := by decide +kernel
theorem dJ0_indexOf_7cf53_29 : decode cJ0_indexOf_7cf53 29 = .ok (.aload_n 0, 1) := by decide +kernel
theorem dJ0_indexOf_7cf53_30 : decode cJ0_indexOf_7cf53 30 = .ok (.invokevirtual 505, 3) := by decide +kernel
theorem dJ0_indexOf_7cf53_33 : decode cJ0_indexOf_7cf53 33 = .ok (.invokestatic 640, 3) := by decide +kernel
theorem dJ0_indexOf_7cf53_36 : decode cJ0_indexOf_7cf53 36 = .ok (.ireturn, 1) := by decide +kernel
theorem wi_RJ0_505 : Iv RJ0 505 yJ0_length_8abf5 cJ0_length_8abf5 1 (some .int) 0 := ⟨tbm 772 (by decide +kernel) (by decide +kernel), wm_J0_length_8abf5⟩
theorem wm_J1_indexOf_4cfef : Cond.static yJ1_indexOf_4cfef ∈ TB ∧ Cond.initialized yJ1_indexOf_4cfef.cls ∈ TB ∧ Cond.code yJ1_indexOf_4cfef cJ1_indexOf_4cfef 4 (some .int) ∈ TB ∧ (yJ1_indexOf_4cfef.cls ≠ "java/lang/invoke/MethodHandle" ∧ yJ1_indexOf_4cfef.cls ≠ "java/lang/invoke/VarHandle" ∧ (parseMethodDescriptor yJ1_indexOf_4cfef.desc).map (fun d => d.parameters.length) = some 4) ∧ 4 ≤ 21 := ⟨tbm 774 (by decide +kernel) (by decide +kernel), tbm 148 (by decide +kernel) (by decide +kernel), tbm 775 (by decide +kernel) (by decide +kernel), by decide +kernel, by decide⟩
theorem wi_RJ0_637 : Is RJ0 637 yJ1_indexOf_4cfef cJ1_indexOf_4cfef 4 (some .int) 4 := ⟨tbm 773 (by decide +kernel) (by decide +kernel), wm_J1_indexOf_4cfef⟩
def mJ0_indexOf_7cf53 (t : Nat) (p1 : Int32) (p2 : Int32) (σ : St_) : Option Int32 :=
 ((mJ0_isLatin1_aae02 t σ).bind fun r1 =>
 (if r1 = true then
 ((mJ0_length_8abf5 t σ).bind fun r2 =>
 ((mJ1_indexOf_4cfef t p1 p2 r2 σ).bind fun r3 =>
 (some r3)))
 else ((mJ0_length_8abf5 t σ).bind fun r4 =>
 none)))
set_option maxHeartbeats 4000000 in
theorem rJ0_indexOf_7cf53 (t : Nat) (p1 : Int32) (p2 : Int32) (hT : t < 2) : Rj l D cA h0 ad yJ0_indexOf_7cf53 cJ0_indexOf_7cf53 3 (some .int) false 4 0 0 (fun b => (some (.int b), sh, P, σ)) [.ref (ad.1 t), .int p1, .int p2] sh P σ (mJ0_indexOf_7cf53 t p1 p2 σ) := by
  rw [mJ0_indexOf_7cf53]
  refine Rj.of (by decide) (fun h => by cases h) (Nat.le_of_ble_eq_true rfl) ?_
  refine tj_lv0 (lv' := [(0, .ref (ad.1 t)), (1, .int p1), (2, .int p2)]) rfl ?_
  refine tj_aload_n (q := 1) dJ0_indexOf_7cf53_0 rfl (i := 0) rfl (pl := 0) rfl ?_
  refine tj_callZp (q := 4) (kj_T (As := []) (rest := []) (i := t) wi_RJ0_492 hT rfl (rJ0_isLatin1_aae02 t (hT)) rfl (Nat.le_of_ble_eq_true rfl) ⟨Nat.le_of_ble_eq_true rfl, Nat.le_of_ble_eq_true rfl⟩ (Nat.le_of_ble_eq_true rfl) dJ0_indexOf_7cf53_1) rfl (fun r1 => ?_)
  refine tj_bz (tgt := 23) (q := 7) dJ0_indexOf_7cf53_4 (by decide) rfl ?_ ?_
  · refine tj_aload_n (q := 8) dJ0_indexOf_7cf53_7 rfl (i := 0) rfl (pl := 0) rfl ?_
    refine tj_getSV (q := 11) hT wl_RJ0_9 dJ0_indexOf_7cf53_8 rfl ?_
    refine tj_iload_n (q := 12) dJ0_indexOf_7cf53_11 rfl (i := 1) rfl (pl := 1) rfl ?_
    refine tj_iload_n (q := 13) dJ0_indexOf_7cf53_12 rfl (i := 2) rfl (pl := 2) rfl ?_
    refine tj_aload_n (q := 14) dJ0_indexOf_7cf53_13 rfl (i := 0) rfl (pl := 0) rfl ?_
    refine tj_callIp (q := 17) (kj_T (As := []) (rest := [.int p2, .int p1, .ref (ad.2 t)]) (i := t) wi_RJ0_505 hT rfl (rJ0_length_8abf5 t (hT)) rfl (Nat.le_of_ble_eq_true rfl) ⟨Nat.le_of_ble_eq_true rfl, Nat.le_of_ble_eq_true rfl⟩ (Nat.le_of_ble_eq_true rfl) dJ0_indexOf_7cf53_14) rfl (fun r2 => ?_)
    refine tj_callIp (q := 20) (kj_S (As := [.ref (ad.2 t), .int p1, .int p2, .int r2]) (rest := []) wi_RJ0_637 (rJ1_indexOf_4cfef t p1 p2 r2 (hT)) rfl (Nat.le_of_ble_eq_true rfl) ⟨Nat.le_of_ble_eq_true rfl, Nat.le_of_ble_eq_true rfl⟩ (Nat.le_of_ble_eq_true rfl) dJ0_indexOf_7cf53_17) rfl (fun r3 => ?_)
    refine tj_goto (q := 36) dJ0_indexOf_7cf53_20 (by decide) ?_
    exact tj_iret rfl rfl (Nat.le_of_ble_eq_true rfl) (Nat.le_of_ble_eq_true rfl) dJ0_indexOf_7cf53_36
  · refine tj_aload_n (q := 24) dJ0_indexOf_7cf53_23 rfl (i := 0) rfl (pl := 0) rfl ?_
    refine tj_getSV (q := 27) hT wl_RJ0_9 dJ0_indexOf_7cf53_24 rfl ?_
    refine tj_iload_n (q := 28) dJ0_indexOf_7cf53_27 rfl (i := 1) rfl (pl := 1) rfl ?_
    refine tj_iload_n (q := 29) dJ0_indexOf_7cf53_28 rfl (i := 2) rfl (pl := 2) rfl ?_
    refine tj_aload_n (q := 30) dJ0_indexOf_7cf53_29 rfl (i := 0) rfl (pl := 0) rfl ?_
    refine tj_callIp (q := 33) (kj_T (As := []) (rest := [.int p2, .int p1, .ref (ad.2 t)]) (i := t) wi_RJ0_505 hT rfl (rJ0_length_8abf5 t (hT)) rfl (Nat.le_of_ble_eq_true rfl) ⟨Nat.le_of_ble_eq_true rfl, Nat.le_of_ble_eq_true rfl⟩ (Nat.le_of_ble_eq_true rfl) dJ0_indexOf_7cf53_30) rfl (fun r4 => ?_)
    exact tj_none

theorem dJ0_indexOf_0f7a4_0 : decode cJ0_indexOf_0f7a4 0 = .ok (.aload_n 0, 1) := by decide +kernel
theorem dJ0_indexOf_0f7a4_1 : decode cJ0_indexOf_0f7a4 1 = .ok (.iload_n 1, 1) := by decide +kernel
theorem dJ0_indexOf_0f7a4_2 : decode cJ0_indexOf_0f7a4 2 = .ok (.iconst 0, 1) := by decide +kernel
theorem dJ0_indexOf_0f7a4_3 : decode cJ0_indexOf_0f7a4 3 = .ok (.invokevirtual 633, 3) := by decide +kernel
theorem dJ0_indexOf_0f7a4_6 : decode cJ0_indexOf_0f7a4 6 = .ok (.ireturn, 1) := by decide +kernel
theorem wm_J0_indexOf_7cf53 : Cond.instanceMethod yJ0_indexOf_7cf53 ∈ TB ∧ Cond.selects yJ0_indexOf_7cf53.cls yJ0_indexOf_7cf53 yJ0_indexOf_7cf53 ∈ TB ∧ Cond.initialized yJ0_indexOf_7cf53.cls ∈ TB ∧ Cond.code yJ0_indexOf_7cf53 cJ0_indexOf_7cf53 3 (some .int) ∈ TB ∧ (yJ0_indexOf_7cf53.cls ≠ "java/lang/invoke/MethodHandle" ∧ yJ0_indexOf_7cf53.cls ≠ "java/lang/invoke/VarHandle" ∧ (parseMethodDescriptor yJ0_indexOf_7cf53.desc).map (fun d => d.parameters.length) = some 2) ∧ 3 ≤ 21 := ⟨tbm 769 (by decide +kernel) (by decide +kernel), tbm 770 (by decide +kernel) (by decide +kernel), tbm 147 (by decide +kernel) (by decide +kernel), tbm 771 (by decide +kernel) (by decide +kernel), by decide +kernel, by decide⟩
theorem wi_RJ0_633 : Iv RJ0 633 yJ0_indexOf_7cf53 cJ0_indexOf_7cf53 3 (some .int) 2 := ⟨tbm 768 (by decide +kernel) (by decide +kernel), wm_J0_indexOf_7cf53⟩
def mJ0_indexOf_0f7a4 (t : Nat) (p1 : Int32) (σ : St_) : Option Int32 :=
 ((mJ0_indexOf_7cf53 t p1 (0 : Int32) σ).bind fun r1 =>
 (some r1))
set_option maxHeartbeats 4000000 in
theorem rJ0_indexOf_0f7a4 (t : Nat) (p1 : Int32) (hT : t < 2) : Rj l D cA h0 ad yJ0_indexOf_0f7a4 cJ0_indexOf_0f7a4 2 (some .int) false 5 0 0 (fun b => (some (.int b), sh, P, σ)) [.ref (ad.1 t), .int p1] sh P σ (mJ0_indexOf_0f7a4 t p1 σ) := by
  rw [mJ0_indexOf_0f7a4]
  refine Rj.of (by decide) (fun h => by cases h) (Nat.le_of_ble_eq_true rfl) ?_
  refine tj_lv0 (lv' := [(0, .ref (ad.1 t)), (1, .int p1)]) rfl ?_
  refine tj_aload_n (q := 1) dJ0_indexOf_0f7a4_0 rfl (i := 0) rfl (pl := 0) rfl ?_
  refine tj_iload_n (q := 2) dJ0_indexOf_0f7a4_1 rfl (i := 1) rfl (pl := 1) rfl ?_
  refine tj_iconst (q := 3) (v := 0) dJ0_indexOf_0f7a4_2 rfl (by decide) ?_
  refine tj_callIp (q := 6) (kj_T (As := [.int p1, .int (0 : Int32)]) (rest := []) (i := t) wi_RJ0_633 hT rfl (rJ0_indexOf_7cf53 t p1 (0 : Int32) (hT)) rfl (Nat.le_of_ble_eq_true rfl) ⟨Nat.le_of_ble_eq_true rfl, Nat.le_of_ble_eq_true rfl⟩ (Nat.le_of_ble_eq_true rfl) dJ0_indexOf_0f7a4_3) rfl (fun r1 => ?_)
  exact tj_iret rfl rfl (Nat.le_of_ble_eq_true rfl) (Nat.le_of_ble_eq_true rfl) dJ0_indexOf_0f7a4_6

theorem dX10_readToken_0 : decode cX10_readToken 0 = .ok (.aload_n 0, 1) := by decide +kernel
theorem dX10_readToken_1 : decode cX10_readToken 1 = .ok (.getfield 19, 3) := by decide +kernel
theorem dX10_readToken_4 : decode cX10_readToken 4 = .ok (.aload_n 0, 1) := by decide +kernel
theorem dX10_readToken_5 : decode cX10_readToken 5 = .ok (.getfield 29, 3) := by decide +kernel
theorem dX10_readToken_8 : decode cX10_readToken 8 = .ok (.iload_n 1, 1) := by decide +kernel
theorem dX10_readToken_9 : decode cX10_readToken 9 = .ok (.iastore, 1) := by decide +kernel
theorem dX10_readToken_10 : decode cX10_readToken 10 = .ok (.aload_n 0, 1) := by decide +kernel
theorem dX10_readToken_11 : decode cX10_readToken 11 = .ok (.getfield 9, 3) := by decide +kernel
theorem dX10_readToken_14 : decode cX10_readToken 14 = .ok (.iload_n 1, 1) := by decide +kernel
theorem dX10_readToken_15 : decode cX10_readToken 15 = .ok (.iaload, 1) := by decide +kernel
theorem dX10_readToken_16 : decode cX10_readToken 16 = .ok (.invokestatic 48, 3) := by decide +kernel
theorem dX10_readToken_19 : decode cX10_readToken 19 = .ok (.ifCond .eq 9, 3) := by decide +kernel
theorem dX10_readToken_22 : decode cX10_readToken 22 = .ok (.aload_n 0, 1) := by decide +kernel
theorem dX10_readToken_23 : decode cX10_readToken 23 = .ok (.iload_n 1, 1) := by decide +kernel
theorem dX10_readToken_24 : decode cX10_readToken 24 = .ok (.invokevirtual 52, 3) := by decide +kernel
theorem dX10_readToken_27 : decode cX10_readToken 27 = .ok (.ireturn, 1) := by decide +kernel
theorem dX10_readToken_28 : decode cX10_readToken 28 = .ok (.aload_n 0, 1) := by decide +kernel
theorem dX10_readToken_29 : decode cX10_readToken 29 = .ok (.getfield 9, 3) := by decide +kernel
theorem dX10_readToken_32 : decode cX10_readToken 32 = .ok (.iload_n 1, 1) := by decide +kernel
theorem dX10_readToken_33 : decode cX10_readToken 33 = .ok (.iaload, 1) := by decide +kernel
theorem dX10_readToken_34 : decode cX10_readToken 34 = .ok (.invokestatic 55, 3) := by decide +kernel
theorem dX10_readToken_37 : decode cX10_readToken 37 = .ok (.ifCond .eq 9, 3) := by decide +kernel
theorem dX10_readToken_40 : decode cX10_readToken 40 = .ok (.aload_n 0, 1) := by decide +kernel
theorem dX10_readToken_41 : decode cX10_readToken 41 = .ok (.iload_n 1, 1) := by decide +kernel
theorem dX10_readToken_42 : decode cX10_readToken 42 = .ok (.invokevirtual 58, 3) := by decide +kernel
theorem dX10_readToken_45 : decode cX10_readToken 45 = .ok (.ireturn, 1) := by decide +kernel
theorem dX10_readToken_46 : decode cX10_readToken 46 = .ok (.aload_n 0, 1) := by decide +kernel
theorem dX10_readToken_47 : decode cX10_readToken 47 = .ok (.getfield 25, 3) := by decide +kernel
theorem dX10_readToken_50 : decode cX10_readToken 50 = .ok (.aload_n 0, 1) := by decide +kernel
theorem dX10_readToken_51 : decode cX10_readToken 51 = .ok (.getfield 29, 3) := by decide +kernel
theorem dX10_readToken_54 : decode cX10_readToken 54 = .ok (.aload_n 0, 1) := by decide +kernel
theorem dX10_readToken_55 : decode cX10_readToken 55 = .ok (.getfield 9, 3) := by decide +kernel
theorem dX10_readToken_58 : decode cX10_readToken 58 = .ok (.iload_n 1, 1) := by decide +kernel
theorem dX10_readToken_59 : decode cX10_readToken 59 = .ok (.iaload, 1) := by decide +kernel
theorem dX10_readToken_60 : decode cX10_readToken 60 = .ok (.i2l, 1) := by decide +kernel
theorem dX10_readToken_61 : decode cX10_readToken 61 = .ok (.lastore, 1) := by decide +kernel
theorem dX10_readToken_62 : decode cX10_readToken 62 = .ok (.aload_n 0, 1) := by decide +kernel
theorem dX10_readToken_63 : decode cX10_readToken 63 = .ok (.getfield 22, 3) := by decide +kernel
theorem dX10_readToken_66 : decode cX10_readToken 66 = .ok (.aload_n 0, 1) := by decide +kernel
theorem dX10_readToken_67 : decode cX10_readToken 67 = .ok (.getfield 29, 3) := by decide +kernel
theorem dX10_readToken_70 : decode cX10_readToken 70 = .ok (.ldc 61, 2) := by decide +kernel
theorem dX10_readToken_72 : decode cX10_readToken 72 = .ok (.aload_n 0, 1) := by decide +kernel
theorem dX10_readToken_73 : decode cX10_readToken 73 = .ok (.getfield 9, 3) := by decide +kernel
theorem dX10_readToken_76 : decode cX10_readToken 76 = .ok (.iload_n 1, 1) := by decide +kernel
theorem dX10_readToken_77 : decode cX10_readToken 77 = .ok (.iaload, 1) := by decide +kernel
theorem dX10_readToken_78 : decode cX10_readToken 78 = .ok (.i2c, 1) := by decide +kernel
theorem dX10_readToken_79 : decode cX10_readToken 79 = .ok (.invokevirtual 63, 3) := by decide +kernel
theorem dX10_readToken_82 : decode cX10_readToken 82 = .ok (.ifCond .ge 7, 3) := by decide +kernel
theorem dX10_readToken_85 : decode cX10_readToken 85 = .ok (.iconst 1, 1) := by decide +kernel
theorem dX10_readToken_86 : decode cX10_readToken 86 = .ok (.goto 4, 3) := by decide +kernel
theorem dX10_readToken_89 : decode cX10_readToken 89 = .ok (.iconst 5, 1) := by decide +kernel
theorem dX10_readToken_90 : decode cX10_readToken 90 = .ok (.iastore, 1) := by decide +kernel
theorem dX10_readToken_91 : decode cX10_readToken 91 = .ok (.iload_n 1, 1) := by decide +kernel
theorem dX10_readToken_92 : decode cX10_readToken 92 = .ok (.iconst 1, 1) := by decide +kernel
theorem dX10_readToken_93 : decode cX10_readToken 93 = .ok (.iadd, 1) := by decide +kernel
theorem dX10_readToken_94 : decode cX10_readToken 94 = .ok (.ireturn, 1) := by decide +kernel
theorem wm_X10_readWord : Cond.instanceMethod yX10_readWord ∈ TB ∧ Cond.selects yX10_readWord.cls yX10_readWord yX10_readWord ∈ TB ∧ Cond.initialized yX10_readWord.cls ∈ TB ∧ Cond.code yX10_readWord cX10_readWord 6 (some .int) ∈ TB ∧ (yX10_readWord.cls ≠ "java/lang/invoke/MethodHandle" ∧ yX10_readWord.cls ≠ "java/lang/invoke/VarHandle" ∧ (parseMethodDescriptor yX10_readWord.desc).map (fun d => d.parameters.length) = some 1) ∧ 6 ≤ 21 := ⟨tbm 695 (by decide +kernel) (by decide +kernel), tbm 2 (by decide +kernel) (by decide +kernel), tbm 137 (by decide +kernel) (by decide +kernel), tbm 696 (by decide +kernel) (by decide +kernel), by decide +kernel, by decide⟩
theorem wi_RX10_52 : Iv RX10 52 yX10_readWord cX10_readWord 6 (some .int) 1 := ⟨tbm 693 (by decide +kernel) (by decide +kernel), wm_X10_readWord⟩
theorem wm_X10_readDigits : Cond.instanceMethod yX10_readDigits ∈ TB ∧ Cond.selects yX10_readDigits.cls yX10_readDigits yX10_readDigits ∈ TB ∧ Cond.initialized yX10_readDigits.cls ∈ TB ∧ Cond.code yX10_readDigits cX10_readDigits 5 (some .int) ∈ TB ∧ (yX10_readDigits.cls ≠ "java/lang/invoke/MethodHandle" ∧ yX10_readDigits.cls ≠ "java/lang/invoke/VarHandle" ∧ (parseMethodDescriptor yX10_readDigits.desc).map (fun d => d.parameters.length) = some 1) ∧ 5 ≤ 21 := ⟨tbm 761 (by decide +kernel) (by decide +kernel), tbm 5 (by decide +kernel) (by decide +kernel), tbm 137 (by decide +kernel) (by decide +kernel), tbm 762 (by decide +kernel) (by decide +kernel), by decide +kernel, by decide⟩
theorem wi_RX10_58 : Iv RX10 58 yX10_readDigits cX10_readDigits 5 (some .int) 1 := ⟨tbm 759 (by decide +kernel) (by decide +kernel), wm_X10_readDigits⟩
theorem wm_J0_indexOf_0f7a4 : Cond.instanceMethod yJ0_indexOf_0f7a4 ∈ TB ∧ Cond.selects yJ0_indexOf_0f7a4.cls yJ0_indexOf_0f7a4 yJ0_indexOf_0f7a4 ∈ TB ∧ Cond.initialized yJ0_indexOf_0f7a4.cls ∈ TB ∧ Cond.code yJ0_indexOf_0f7a4 cJ0_indexOf_0f7a4 2 (some .int) ∈ TB ∧ (yJ0_indexOf_0f7a4.cls ≠ "java/lang/invoke/MethodHandle" ∧ yJ0_indexOf_0f7a4.cls ≠ "java/lang/invoke/VarHandle" ∧ (parseMethodDescriptor yJ0_indexOf_0f7a4.desc).map (fun d => d.parameters.length) = some 1) ∧ 2 ≤ 21 := ⟨tbm 765 (by decide +kernel) (by decide +kernel), tbm 766 (by decide +kernel) (by decide +kernel), tbm 147 (by decide +kernel) (by decide +kernel), tbm 767 (by decide +kernel) (by decide +kernel), by decide +kernel, by decide⟩
theorem wi_RX10_63 : Iv RX10 63 yJ0_indexOf_0f7a4 cJ0_indexOf_0f7a4 2 (some .int) 1 := ⟨tbm 764 (by decide +kernel) (by decide +kernel), wm_J0_indexOf_0f7a4⟩
def mX10_readToken (t : Nat) (p1 : Int32) (σ : St_) : Option (Int32 × St_) :=
 (bnd (σ.1 t 5) fun v1 =>
 (if bin v1 1701 = true then bnd (sI σ (t + 2) v1.toNatClampNeg p1) fun σ2 =>
 (if bin p1 1700 = true then bnd (σ2.1 (t + 1) p1.toNatClampNeg) fun v3 =>
 ((mX10_isLetter v3 σ2).bind fun r4 =>
 (if r4 = true then
 ((mX10_readWord t p1 σ2).bind fun r5 =>
 (some (r5.1, r5.2)))
 else (if bin p1 1700 = true then bnd (σ2.1 (t + 1) p1.toNatClampNeg) fun v6 =>
 ((mX10_isDigit v6 σ2).bind fun r7 =>
 (if r7 = true then
 ((mX10_readDigits t p1 σ2).bind fun r8 =>
 (some (r8.1, r8.2)))
 else (if bin p1 1700 = true then bnd (σ2.1 (t + 1) p1.toNatClampNeg) fun v9 =>
 (bnd (σ2.1 t 5) fun v10 =>
 (if bin v10 1701 = true then bnd (sL σ2 (t + 4) v10.toNatClampNeg v9.toInt64) fun σ11 =>
 (if bin p1 1700 = true then bnd (σ11.1 (t + 1) p1.toNatClampNeg) fun v12 =>
 ((mJ0_indexOf_0f7a4 0 ((v12.toUInt32 % 65536).toInt32) σ11).bind fun r13 =>
 (bnd (fun (j14 : Int32) => (bnd (σ11.1 t 5) fun v17 =>
 (if bin v17 1701 = true then bnd (sI σ11 (t + 3) v17.toNatClampNeg j14) fun σ18 =>
 (some ((p1 + (1 : Int32)), σ18))
 else none))) fun k15 =>
 (if 0 ≤ r13 then
 (k15 (5 : Int32))
 else (k15 (1 : Int32)))))
 else none)
 else none))
 else none)))
 else none)))
 else none)
 else none))
set_option maxHeartbeats 4000000 in
theorem rX10_readToken (t : Nat) (p1 : Int32) (hT : LY10 sh P t) : Rj l D cA h0 ad yX10_readToken cX10_readToken 2 (some .int) false 9 0 0 (fun b => (some (.int b.1), sh, P, b.2)) [.ref (h0 + t), .int p1] sh P σ (mX10_readToken t p1 σ) := by
  rw [mX10_readToken]
  refine Rj.of (by decide) (fun h => by cases h) (Nat.le_of_ble_eq_true rfl) ?_
  refine tj_lv0 (lv' := [(0, .ref (h0 + t)), (1, .int p1)]) rfl ?_
  refine tj_aload_n (q := 1) dX10_readToken_0 rfl (i := 0) rfl (pl := 0) rfl ?_
  refine tj_getR (q := 4) (hT).s (hT).p_starts fok_10_2 wl_RX10_19 dX10_readToken_1 rfl ?_
  refine tj_aload_n (q := 5) dX10_readToken_4 rfl (i := 0) rfl (pl := 0) rfl ?_
  refine tj_getI (q := 8) (hT).s fok_10_5 wl_RX10_29 dX10_readToken_5 rfl ?_
  refine tj_iload_n (q := 9) dX10_readToken_8 rfl (i := 1) rfl (pl := 1) rfl ?_
  refine tj_sndI (fun v1 => ?_)
  refine tj_iastore (q := 10) (hT).s_starts dX10_readToken_9 rfl (fun σ2 => ?_)
  refine tj_aload_n (q := 11) dX10_readToken_10 rfl (i := 0) rfl (pl := 0) rfl ?_
  refine tj_getR (q := 14) (hT).s (hT).p_text fok_10_0 wl_RX10_9 dX10_readToken_11 rfl ?_
  refine tj_iload_n (q := 15) dX10_readToken_14 rfl (i := 1) rfl (pl := 1) rfl ?_
  refine tj_iaload (q := 16) (hT).s_text dX10_readToken_15 rfl ?_
  refine tj_topI (fun v3 => ?_)
  refine tj_callZp (q := 19) (kj_S (As := [.int v3]) (rest := []) wi_RX10_48 (rX10_isLetter v3) rfl (Nat.le_of_ble_eq_true rfl) ⟨Nat.le_of_ble_eq_true rfl, Nat.le_of_ble_eq_true rfl⟩ (Nat.le_of_ble_eq_true rfl) dX10_readToken_16) rfl (fun r4 => ?_)
  refine tj_bz (tgt := 28) (q := 22) dX10_readToken_19 (by decide) rfl ?_ ?_
  · refine tj_aload_n (q := 23) dX10_readToken_22 rfl (i := 0) rfl (pl := 0) rfl ?_
    refine tj_iload_n (q := 24) dX10_readToken_23 rfl (i := 1) rfl (pl := 1) rfl ?_
    refine tj_callI (q := 27) (kj_V (As := [.int p1]) (rest := []) (t := t) wi_RX10_52 (hT).s rfl (rX10_readWord t p1 (hT)) rfl (Nat.le_of_ble_eq_true rfl) ⟨Nat.le_of_ble_eq_true rfl, Nat.le_of_ble_eq_true rfl⟩ (Nat.le_of_ble_eq_true rfl) dX10_readToken_24) rfl (fun r5 => ?_)
    exact tj_iret rfl rfl (Nat.le_of_ble_eq_true rfl) (Nat.le_of_ble_eq_true rfl) dX10_readToken_27
  · refine tj_aload_n (q := 29) dX10_readToken_28 rfl (i := 0) rfl (pl := 0) rfl ?_
    refine tj_getR (q := 32) (hT).s (hT).p_text fok_10_0 wl_RX10_9 dX10_readToken_29 rfl ?_
    refine tj_iload_n (q := 33) dX10_readToken_32 rfl (i := 1) rfl (pl := 1) rfl ?_
    refine tj_iaload (q := 34) (hT).s_text dX10_readToken_33 rfl ?_
    refine tj_topI (fun v6 => ?_)
    refine tj_callZp (q := 37) (kj_S (As := [.int v6]) (rest := []) wi_RX10_55 (rX10_isDigit v6) rfl (Nat.le_of_ble_eq_true rfl) ⟨Nat.le_of_ble_eq_true rfl, Nat.le_of_ble_eq_true rfl⟩ (Nat.le_of_ble_eq_true rfl) dX10_readToken_34) rfl (fun r7 => ?_)
    refine tj_bz (tgt := 46) (q := 40) dX10_readToken_37 (by decide) rfl ?_ ?_
    · refine tj_aload_n (q := 41) dX10_readToken_40 rfl (i := 0) rfl (pl := 0) rfl ?_
      refine tj_iload_n (q := 42) dX10_readToken_41 rfl (i := 1) rfl (pl := 1) rfl ?_
      refine tj_callI (q := 45) (kj_V (As := [.int p1]) (rest := []) (t := t) wi_RX10_58 (hT).s rfl (rX10_readDigits t p1 (hT)) rfl (Nat.le_of_ble_eq_true rfl) ⟨Nat.le_of_ble_eq_true rfl, Nat.le_of_ble_eq_true rfl⟩ (Nat.le_of_ble_eq_true rfl) dX10_readToken_42) rfl (fun r8 => ?_)
      exact tj_iret rfl rfl (Nat.le_of_ble_eq_true rfl) (Nat.le_of_ble_eq_true rfl) dX10_readToken_45
    · refine tj_aload_n (q := 47) dX10_readToken_46 rfl (i := 0) rfl (pl := 0) rfl ?_
      refine tj_getR (q := 50) (hT).s (hT).p_values fok_10_4 wl_RX10_25 dX10_readToken_47 rfl ?_
      refine tj_aload_n (q := 51) dX10_readToken_50 rfl (i := 0) rfl (pl := 0) rfl ?_
      refine tj_getI (q := 54) (hT).s fok_10_5 wl_RX10_29 dX10_readToken_51 rfl ?_
      refine tj_aload_n (q := 55) dX10_readToken_54 rfl (i := 0) rfl (pl := 0) rfl ?_
      refine tj_getR (q := 58) (hT).s (hT).p_text fok_10_0 wl_RX10_9 dX10_readToken_55 rfl ?_
      refine tj_iload_n (q := 59) dX10_readToken_58 rfl (i := 1) rfl (pl := 1) rfl ?_
      refine tj_iaload (q := 60) (hT).s_text dX10_readToken_59 rfl ?_
      refine tj_topI (fun v9 => ?_)
      refine tj_i2l (q := 61) dX10_readToken_60 rfl ?_
      refine tj_sndL (fun v10 => ?_)
      refine tj_lastore (q := 62) (hT).s_values dX10_readToken_61 rfl (fun σ11 => ?_)
      refine tj_aload_n (q := 63) dX10_readToken_62 rfl (i := 0) rfl (pl := 0) rfl ?_
      refine tj_getR (q := 66) (hT).s (hT).p_sorts fok_10_3 wl_RX10_22 dX10_readToken_63 rfl ?_
      refine tj_aload_n (q := 67) dX10_readToken_66 rfl (i := 0) rfl (pl := 0) rfl ?_
      refine tj_getI (q := 70) (hT).s fok_10_5 wl_RX10_29 dX10_readToken_67 rfl ?_
      refine tj_ldcS0 (q := 72) rfl dX10_readToken_70 rfl ?_
      refine tj_aload_n (q := 73) dX10_readToken_72 rfl (i := 0) rfl (pl := 0) rfl ?_
      refine tj_getR (q := 76) (hT).s (hT).p_text fok_10_0 wl_RX10_9 dX10_readToken_73 rfl ?_
      refine tj_iload_n (q := 77) dX10_readToken_76 rfl (i := 1) rfl (pl := 1) rfl ?_
      refine tj_iaload (q := 78) (hT).s_text dX10_readToken_77 rfl ?_
      refine tj_topI (fun v12 => ?_)
      refine tj_i2c (q := 79) dX10_readToken_78 rfl ?_
      refine tj_callIp (q := 82) (kj_T (As := [.int ((v12.toUInt32 % 65536).toInt32)]) (rest := [.int (σ11.1 t 5), .ref (h0 + (t + 3))]) (i := 0) wi_RX10_63 (by decide) rfl (rJ0_indexOf_0f7a4 0 ((v12.toUInt32 % 65536).toInt32) ((by decide))) rfl (Nat.le_of_ble_eq_true rfl) ⟨Nat.le_of_ble_eq_true rfl, Nat.le_of_ble_eq_true rfl⟩ (Nat.le_of_ble_eq_true rfl) dX10_readToken_79) rfl (fun r13 => ?_)
      refine tj_bnd (fun k15 => ∀ (j14 : Int32), Tj l D cA h0 ad RX10 cX10_readToken 2 (some .int) false 9 0 0 (fun b => (some (.int b.1), sh, P, b.2)) 0 0 sh P σ11 90 [(1, .int p1)] [.int j14, .int (σ11.1 t 5), .ref (h0 + (t + 3))] (k15 j14)) ?_ (fun k15 hk16 => ?_)
      · intro j14
        refine tj_sndI (fun v17 => ?_)
        refine tj_iastore (q := 91) (hT).s_sorts dX10_readToken_90 rfl (fun σ18 => ?_)
        refine tj_iload_n (q := 92) dX10_readToken_91 rfl (i := 1) rfl (pl := 0) rfl ?_
        refine tj_iconst (q := 93) (v := 1) dX10_readToken_92 rfl (by decide) ?_
        refine tj_iadd (q := 94) dX10_readToken_93 rfl ?_
        exact tj_iret rfl rfl (Nat.le_of_ble_eq_true rfl) (Nat.le_of_ble_eq_true rfl) dX10_readToken_94
      · refine tj_if_ge (tgt := 89) (q := 85) dX10_readToken_82 (by decide) rfl ?_ ?_
        · refine tj_iconst (q := 90) (v := 5) dX10_readToken_89 rfl (by decide) ?_
          refine tj_lv [1] rfl ?_
          exact hk16 (5 : Int32)
        · refine tj_iconst (q := 86) (v := 1) dX10_readToken_85 rfl (by decide) ?_
          refine tj_goto (q := 90) dX10_readToken_86 (by decide) ?_
          refine tj_lv [1] rfl ?_
          exact hk16 (1 : Int32)

theorem dX10_split_0 : decode cX10_split 0 = .ok (.aload_n 0, 1) := by decide +kernel
theorem dX10_split_1 : decode cX10_split 1 = .ok (.iconst 0, 1) := by decide +kernel
theorem dX10_split_2 : decode cX10_split 2 = .ok (.putfield 29, 3) := by decide +kernel
theorem dX10_split_5 : decode cX10_split 5 = .ok (.aload_n 0, 1) := by decide +kernel
theorem dX10_split_6 : decode cX10_split 6 = .ok (.iconst 0, 1) := by decide +kernel
theorem dX10_split_7 : decode cX10_split 7 = .ok (.putfield 32, 3) := by decide +kernel
theorem dX10_split_10 : decode cX10_split 10 = .ok (.aload_n 0, 1) := by decide +kernel
theorem dX10_split_11 : decode cX10_split 11 = .ok (.iconst 0, 1) := by decide +kernel
theorem dX10_split_12 : decode cX10_split 12 = .ok (.putfield 35, 3) := by decide +kernel
theorem dX10_split_15 : decode cX10_split 15 = .ok (.aload_n 0, 1) := by decide +kernel
theorem dX10_split_16 : decode cX10_split 16 = .ok (.iconst (-1), 1) := by decide +kernel
theorem dX10_split_17 : decode cX10_split 17 = .ok (.putfield 38, 3) := by decide +kernel
theorem dX10_split_20 : decode cX10_split 20 = .ok (.aload_n 0, 1) := by decide +kernel
theorem dX10_split_21 : decode cX10_split 21 = .ok (.iconst 0, 1) := by decide +kernel
theorem dX10_split_22 : decode cX10_split 22 = .ok (.invokevirtual 41, 3) := by decide +kernel
theorem dX10_split_25 : decode cX10_split 25 = .ok (.istore_n 1, 1) := by decide +kernel
theorem dX10_split_26 : decode cX10_split 26 = .ok (.iload_n 1, 1) := by decide +kernel
theorem dX10_split_27 : decode cX10_split 27 = .ok (.aload_n 0, 1) := by decide +kernel
theorem dX10_split_28 : decode cX10_split 28 = .ok (.getfield 15, 3) := by decide +kernel
theorem dX10_split_31 : decode cX10_split 31 = .ok (.if_icmp .ge 52, 3) := by decide +kernel
theorem dX10_split_34 : decode cX10_split 34 = .ok (.aload_n 0, 1) := by decide +kernel
theorem dX10_split_35 : decode cX10_split 35 = .ok (.getfield 29, 3) := by decide +kernel
theorem dX10_split_38 : decode cX10_split 38 = .ok (.sipush 1700, 3) := by decide +kernel
theorem dX10_split_41 : decode cX10_split 41 = .ok (.if_icmp .ge 42, 3) := by decide +kernel
theorem dX10_split_44 : decode cX10_split 44 = .ok (.aload_n 0, 1) := by decide +kernel
theorem dX10_split_45 : decode cX10_split 45 = .ok (.iload_n 1, 1) := by decide +kernel
theorem dX10_split_46 : decode cX10_split 46 = .ok (.invokevirtual 45, 3) := by decide +kernel
theorem dX10_split_49 : decode cX10_split 49 = .ok (.istore_n 2, 1) := by decide +kernel
theorem dX10_split_50 : decode cX10_split 50 = .ok (.aload_n 0, 1) := by decide +kernel
theorem dX10_split_51 : decode cX10_split 51 = .ok (.getfield 22, 3) := by decide +kernel
theorem dX10_split_54 : decode cX10_split 54 = .ok (.aload_n 0, 1) := by decide +kernel
theorem dX10_split_55 : decode cX10_split 55 = .ok (.getfield 29, 3) := by decide +kernel
theorem dX10_split_58 : decode cX10_split 58 = .ok (.iaload, 1) := by decide +kernel
theorem dX10_split_59 : decode cX10_split 59 = .ok (.iconst 1, 1) := by decide +kernel
theorem dX10_split_60 : decode cX10_split 60 = .ok (.if_icmp .ne 4, 3) := by decide +kernel
theorem dX10_split_63 : decode cX10_split 63 = .ok (.return_, 1) := by decide +kernel
theorem dX10_split_64 : decode cX10_split 64 = .ok (.aload_n 0, 1) := by decide +kernel
theorem dX10_split_65 : decode cX10_split 65 = .ok (.dup, 1) := by decide +kernel
theorem dX10_split_66 : decode cX10_split 66 = .ok (.getfield 29, 3) := by decide +kernel
theorem dX10_split_69 : decode cX10_split 69 = .ok (.iconst 1, 1) := by decide +kernel
theorem dX10_split_70 : decode cX10_split 70 = .ok (.iadd, 1) := by decide +kernel
theorem dX10_split_71 : decode cX10_split 71 = .ok (.putfield 29, 3) := by decide +kernel
theorem dX10_split_74 : decode cX10_split 74 = .ok (.aload_n 0, 1) := by decide +kernel
theorem dX10_split_75 : decode cX10_split 75 = .ok (.iload_n 2, 1) := by decide +kernel
theorem dX10_split_76 : decode cX10_split 76 = .ok (.invokevirtual 41, 3) := by decide +kernel
theorem dX10_split_79 : decode cX10_split 79 = .ok (.istore_n 1, 1) := by decide +kernel
theorem dX10_split_80 : decode cX10_split 80 = .ok (.goto (-54), 3) := by decide +kernel
theorem dX10_split_83 : decode cX10_split 83 = .ok (.aload_n 0, 1) := by decide +kernel
theorem dX10_split_84 : decode cX10_split 84 = .ok (.getfield 19, 3) := by decide +kernel
theorem dX10_split_87 : decode cX10_split 87 = .ok (.aload_n 0, 1) := by decide +kernel
theorem dX10_split_88 : decode cX10_split 88 = .ok (.getfield 29, 3) := by decide +kernel
theorem dX10_split_91 : decode cX10_split 91 = .ok (.aload_n 0, 1) := by decide +kernel
theorem dX10_split_92 : decode cX10_split 92 = .ok (.getfield 15, 3) := by decide +kernel
theorem dX10_split_95 : decode cX10_split 95 = .ok (.iastore, 1) := by decide +kernel
theorem dX10_split_96 : decode cX10_split 96 = .ok (.aload_n 0, 1) := by decide +kernel
theorem dX10_split_97 : decode cX10_split 97 = .ok (.getfield 22, 3) := by decide +kernel
theorem dX10_split_100 : decode cX10_split 100 = .ok (.aload_n 0, 1) := by decide +kernel
theorem dX10_split_101 : decode cX10_split 101 = .ok (.getfield 29, 3) := by decide +kernel
theorem dX10_split_104 : decode cX10_split 104 = .ok (.iconst 0, 1) := by decide +kernel
theorem dX10_split_105 : decode cX10_split 105 = .ok (.iastore, 1) := by decide +kernel
theorem dX10_split_106 : decode cX10_split 106 = .ok (.return_, 1) := by decide +kernel
theorem wm_X10_skipBlanks : Cond.instanceMethod yX10_skipBlanks ∈ TB ∧ Cond.selects yX10_skipBlanks.cls yX10_skipBlanks yX10_skipBlanks ∈ TB ∧ Cond.initialized yX10_skipBlanks.cls ∈ TB ∧ Cond.code yX10_skipBlanks cX10_skipBlanks 3 (some .int) ∈ TB ∧ (yX10_skipBlanks.cls ≠ "java/lang/invoke/MethodHandle" ∧ yX10_skipBlanks.cls ≠ "java/lang/invoke/VarHandle" ∧ (parseMethodDescriptor yX10_skipBlanks.desc).map (fun d => d.parameters.length) = some 1) ∧ 3 ≤ 21 := ⟨tbm 684 (by decide +kernel) (by decide +kernel), tbm 0 (by decide +kernel) (by decide +kernel), tbm 137 (by decide +kernel) (by decide +kernel), tbm 685 (by decide +kernel) (by decide +kernel), by decide +kernel, by decide⟩
theorem wi_RX10_41 : Iv RX10 41 yX10_skipBlanks cX10_skipBlanks 3 (some .int) 1 := ⟨tbm 682 (by decide +kernel) (by decide +kernel), wm_X10_skipBlanks⟩
theorem wm_X10_readToken : Cond.instanceMethod yX10_readToken ∈ TB ∧ Cond.selects yX10_readToken.cls yX10_readToken yX10_readToken ∈ TB ∧ Cond.initialized yX10_readToken.cls ∈ TB ∧ Cond.code yX10_readToken cX10_readToken 2 (some .int) ∈ TB ∧ (yX10_readToken.cls ≠ "java/lang/invoke/MethodHandle" ∧ yX10_readToken.cls ≠ "java/lang/invoke/VarHandle" ∧ (parseMethodDescriptor yX10_readToken.desc).map (fun d => d.parameters.length) = some 1) ∧ 2 ≤ 21 := ⟨tbm 688 (by decide +kernel) (by decide +kernel), tbm 1 (by decide +kernel) (by decide +kernel), tbm 137 (by decide +kernel) (by decide +kernel), tbm 689 (by decide +kernel) (by decide +kernel), by decide +kernel, by decide⟩
theorem wi_RX10_45 : Iv RX10 45 yX10_readToken cX10_readToken 2 (some .int) 1 := ⟨tbm 686 (by decide +kernel) (by decide +kernel), wm_X10_readToken⟩
def mX10_split_L26 (t : Nat) (k83 : St_ → Option St_) : Nat → Int32 → St_ → Option St_
  | 0, _, _ => none
  | n + 1, x1, σ => (if (σ.1 t 1) ≤ x1 then
 (k83 σ)
 else (if (1700 : Int32) ≤ (σ.1 t 5) then
 (k83 σ)
 else ((mX10_readToken t x1 σ).bind fun r6 =>
 (bnd (r6.2.1 t 5) fun v7 =>
 (if bin v7 1701 = true then bnd (r6.2.1 (t + 3) v7.toNatClampNeg) fun v8 =>
 (if v8 = (1 : Int32) then
 (some r6.2)
 else (bnd (sI r6.2 t 5 ((r6.2.1 t 5) + (1 : Int32))) fun σ9 =>
 ((mX10_skipBlanks t r6.1 σ9).bind fun r10 =>
 (mX10_split_L26 t k83 n r10 σ9))))
 else none)))))
def mX10_split (t : Nat) (σ : St_) : Option St_ :=
 (bnd (sI σ t 5 (0 : Int32)) fun σ1 =>
 (bnd (sI σ1 t 6 (0 : Int32)) fun σ2 =>
 (bnd (sI σ2 t 7 (0 : Int32)) fun σ3 =>
 (bnd (sI σ3 t 8 (-1 : Int32)) fun σ4 =>
 ((mX10_skipBlanks t (0 : Int32) σ4).bind fun r5 =>
 (mX10_split_L26 t
 (fun (σ11 : St_) => (bnd (σ11.1 t 5) fun v12 =>
 (if bin v12 1701 = true then bnd (sI σ11 (t + 2) v12.toNatClampNeg (σ11.1 t 1)) fun σ13 =>
 (bnd (σ13.1 t 5) fun v14 =>
 (if bin v14 1701 = true then bnd (sI σ13 (t + 3) v14.toNatClampNeg (0 : Int32)) fun σ15 =>
 (some σ15)
 else none))
 else none))) FU r5 σ4))))))
set_option maxHeartbeats 4000000 in
theorem tmX10_split_L26 (t : Nat) (hT : LY10 sh P t) (k83 : St_ → Option St_) (hk83 : ∀ (σ1 : St_), Tj l D cA h0 ad RX10 cX10_split 3 none false 10 0 0 (fun b => (none, sh, P, b)) 0 0 sh P σ1 83 [(0, .ref (h0 + t))] [] (k83 σ1)) : ∀ (n : Nat) (x1 : Int32) (σ : St_), Tj l D cA h0 ad RX10 cX10_split 3 none false 10 0 0 (fun b => (none, sh, P, b)) 0 0 sh P σ 26 [(0, .ref (h0 + t)), (1, .int x1)] [] (mX10_split_L26 t k83 n x1 σ) := by
  intro n
  induction n with
  | zero => intros; exact tj_none
  | succ n ih =>
    intro x1 σ
    rw [mX10_split_L26]
    refine tj_iload_n (q := 27) dX10_split_26 rfl (i := 1) rfl (pl := 1) rfl ?_
    refine tj_aload_n (q := 28) dX10_split_27 rfl (i := 0) rfl (pl := 0) rfl ?_
    refine tj_getI (q := 31) (hT).s fok_10_1 wl_RX10_15 dX10_split_28 rfl ?_
    refine tj_icmp_ge (tgt := 83) (q := 34) dX10_split_31 (by decide) rfl ?_ ?_
    · refine tj_lv [0] rfl ?_
      exact hk83 σ
    · refine tj_aload_n (q := 35) dX10_split_34 rfl (i := 0) rfl (pl := 0) rfl ?_
      refine tj_getI (q := 38) (hT).s fok_10_5 wl_RX10_29 dX10_split_35 rfl ?_
      refine tj_sipush (q := 41) (v := 1700) dX10_split_38 rfl (by decide) ?_
      refine tj_icmp_ge (tgt := 83) (q := 44) dX10_split_41 (by decide) rfl ?_ ?_
      · refine tj_lv [0] rfl ?_
        exact hk83 σ
      · refine tj_aload_n (q := 45) dX10_split_44 rfl (i := 0) rfl (pl := 0) rfl ?_
        refine tj_iload_n (q := 46) dX10_split_45 rfl (i := 1) rfl (pl := 1) rfl ?_
        refine tj_callI (q := 49) (kj_V (As := [.int x1]) (rest := []) (t := t) wi_RX10_45 (hT).s rfl (rX10_readToken t x1 (hT)) rfl (Nat.le_of_ble_eq_true rfl) ⟨Nat.le_of_ble_eq_true rfl, Nat.le_of_ble_eq_true rfl⟩ (Nat.le_of_ble_eq_true rfl) dX10_split_46) rfl (fun r6 => ?_)
        refine tj_istore_n (q := 50) dX10_split_49 rfl (i := 2) rfl (by decide) rfl ?_
        refine tj_aload_n (q := 51) dX10_split_50 rfl (i := 0) rfl (pl := 1) rfl ?_
        refine tj_getR (q := 54) (hT).s (hT).p_sorts fok_10_3 wl_RX10_22 dX10_split_51 rfl ?_
        refine tj_aload_n (q := 55) dX10_split_54 rfl (i := 0) rfl (pl := 1) rfl ?_
        refine tj_getI (q := 58) (hT).s fok_10_5 wl_RX10_29 dX10_split_55 rfl ?_
        refine tj_topI (fun v7 => ?_)
        refine tj_iaload (q := 59) (hT).s_sorts dX10_split_58 rfl ?_
        refine tj_topI (fun v8 => ?_)
        refine tj_iconst (q := 60) (v := 1) dX10_split_59 rfl (by decide) ?_
        refine tj_icmp_ne (tgt := 64) (q := 63) dX10_split_60 (by decide) rfl ?_ ?_
        · exact tj_vret rfl rfl (Nat.le_of_ble_eq_true rfl) (Nat.le_of_ble_eq_true rfl) dX10_split_63
        · refine tj_aload_n (q := 65) dX10_split_64 rfl (i := 0) rfl (pl := 1) rfl ?_
          refine tj_dup (q := 66) dX10_split_65 rfl rfl ?_
          refine tj_getI (q := 69) (hT).s fok_10_5 wl_RX10_29 dX10_split_66 rfl ?_
          refine tj_iconst (q := 70) (v := 1) dX10_split_69 rfl (by decide) ?_
          refine tj_iadd (q := 71) dX10_split_70 rfl ?_
          refine tj_putI (q := 74) (hT).s fok_10_5 tok_10 fpk_10_5 wl_RX10_29 dX10_split_71 rfl (fun σ9 => ?_)
          refine tj_aload_n (q := 75) dX10_split_74 rfl (i := 0) rfl (pl := 1) rfl ?_
          refine tj_iload_n (q := 76) dX10_split_75 rfl (i := 2) rfl (pl := 0) rfl ?_
          refine tj_callIp (q := 79) (kj_V (As := [.int r6.1]) (rest := []) (t := t) wi_RX10_41 (hT).s rfl (rX10_skipBlanks t r6.1 (hT)) rfl (Nat.le_of_ble_eq_true rfl) ⟨Nat.le_of_ble_eq_true rfl, Nat.le_of_ble_eq_true rfl⟩ (Nat.le_of_ble_eq_true rfl) dX10_split_76) rfl (fun r10 => ?_)
          refine tj_istore_n (q := 80) dX10_split_79 rfl (i := 1) rfl (by decide) rfl ?_
          refine tj_goto (q := 26) dX10_split_80 (by decide) ?_
          refine tj_lv [2, 0] rfl ?_
          exact ih r10 σ9

set_option maxHeartbeats 4000000 in
theorem rX10_split (t : Nat) (hT : LY10 sh P t) : Rj l D cA h0 ad yX10_split cX10_split 3 none false 10 0 0 (fun b => (none, sh, P, b)) [.ref (h0 + t)] sh P σ (mX10_split t σ) := by
  rw [mX10_split]
  refine Rj.of (by decide) (fun h => by cases h) (Nat.le_of_ble_eq_true rfl) ?_
  refine tj_lv0 (lv' := [(0, .ref (h0 + t))]) rfl ?_
  refine tj_aload_n (q := 1) dX10_split_0 rfl (i := 0) rfl (pl := 0) rfl ?_
  refine tj_iconst (q := 2) (v := 0) dX10_split_1 rfl (by decide) ?_
  refine tj_putI (q := 5) (hT).s fok_10_5 tok_10 fpk_10_5 wl_RX10_29 dX10_split_2 rfl (fun σ1 => ?_)
  refine tj_aload_n (q := 6) dX10_split_5 rfl (i := 0) rfl (pl := 0) rfl ?_
  refine tj_iconst (q := 7) (v := 0) dX10_split_6 rfl (by decide) ?_
  refine tj_putI (q := 10) (hT).s fok_10_6 tok_10 fpk_10_6 wl_RX10_32 dX10_split_7 rfl (fun σ2 => ?_)
  refine tj_aload_n (q := 11) dX10_split_10 rfl (i := 0) rfl (pl := 0) rfl ?_
  refine tj_iconst (q := 12) (v := 0) dX10_split_11 rfl (by decide) ?_
  refine tj_putI (q := 15) (hT).s fok_10_7 tok_10 fpk_10_7 wl_RX10_35 dX10_split_12 rfl (fun σ3 => ?_)
  refine tj_aload_n (q := 16) dX10_split_15 rfl (i := 0) rfl (pl := 0) rfl ?_
  refine tj_iconst (q := 17) (v := (-1)) dX10_split_16 rfl (by decide) ?_
  refine tj_putI (q := 20) (hT).s fok_10_8 tok_10 fpk_10_8 wl_RX10_38 dX10_split_17 rfl (fun σ4 => ?_)
  refine tj_aload_n (q := 21) dX10_split_20 rfl (i := 0) rfl (pl := 0) rfl ?_
  refine tj_iconst (q := 22) (v := 0) dX10_split_21 rfl (by decide) ?_
  refine tj_callIp (q := 25) (kj_V (As := [.int (0 : Int32)]) (rest := []) (t := t) wi_RX10_41 (hT).s rfl (rX10_skipBlanks t (0 : Int32) (hT)) rfl (Nat.le_of_ble_eq_true rfl) ⟨Nat.le_of_ble_eq_true rfl, Nat.le_of_ble_eq_true rfl⟩ (Nat.le_of_ble_eq_true rfl) dX10_split_22) rfl (fun r5 => ?_)
  refine tj_istore_n (q := 26) dX10_split_25 rfl (i := 1) rfl (by decide) rfl ?_
  refine tj_lv [1, 0] rfl ?_
  refine tmX10_split_L26 t hT _ ?_ FU r5 σ4
  · intro σ11
    refine tj_aload_n (q := 84) dX10_split_83 rfl (i := 0) rfl (pl := 0) rfl ?_
    refine tj_getR (q := 87) (hT).s (hT).p_starts fok_10_2 wl_RX10_19 dX10_split_84 rfl ?_
    refine tj_aload_n (q := 88) dX10_split_87 rfl (i := 0) rfl (pl := 0) rfl ?_
    refine tj_getI (q := 91) (hT).s fok_10_5 wl_RX10_29 dX10_split_88 rfl ?_
    refine tj_aload_n (q := 92) dX10_split_91 rfl (i := 0) rfl (pl := 0) rfl ?_
    refine tj_getI (q := 95) (hT).s fok_10_1 wl_RX10_15 dX10_split_92 rfl ?_
    refine tj_sndI (fun v12 => ?_)
    refine tj_iastore (q := 96) (hT).s_starts dX10_split_95 rfl (fun σ13 => ?_)
    refine tj_aload_n (q := 97) dX10_split_96 rfl (i := 0) rfl (pl := 0) rfl ?_
    refine tj_getR (q := 100) (hT).s (hT).p_sorts fok_10_3 wl_RX10_22 dX10_split_97 rfl ?_
    refine tj_aload_n (q := 101) dX10_split_100 rfl (i := 0) rfl (pl := 0) rfl ?_
    refine tj_getI (q := 104) (hT).s fok_10_5 wl_RX10_29 dX10_split_101 rfl ?_
    refine tj_iconst (q := 105) (v := 0) dX10_split_104 rfl (by decide) ?_
    refine tj_sndI (fun v14 => ?_)
    refine tj_iastore (q := 106) (hT).s_sorts dX10_split_105 rfl (fun σ15 => ?_)
    exact tj_vret rfl rfl (Nat.le_of_ble_eq_true rfl) (Nat.le_of_ble_eq_true rfl) dX10_split_106

end
