section
variable {l : Launch} {D : va_G} {cA : Nat → ClassId} {h0 : Nat} {ad : Ad_} {sh : Sh_} {P : Px_} {σ : St_}
theorem dX4_placeOf_0 : decode cX4_placeOf 0 = .ok (.iconst 0, 1) := by decide +kernel
theorem dX4_placeOf_1 : decode cX4_placeOf 1 = .ok (.istore_n 3, 1) := by decide +kernel
theorem dX4_placeOf_2 : decode cX4_placeOf 2 = .ok (.iload_n 3, 1) := by decide +kernel
theorem dX4_placeOf_3 : decode cX4_placeOf 3 = .ok (.iload_n 2, 1) := by decide +kernel
theorem dX4_placeOf_4 : decode cX4_placeOf 4 = .ok (.if_icmp .ge 39, 3) := by decide +kernel
theorem dX4_placeOf_7 : decode cX4_placeOf 7 = .ok (.iload_n 3, 1) := by decide +kernel
theorem dX4_placeOf_8 : decode cX4_placeOf 8 = .ok (.aload_n 1, 1) := by decide +kernel
theorem dX4_placeOf_9 : decode cX4_placeOf 9 = .ok (.arraylength, 1) := by decide +kernel
theorem dX4_placeOf_10 : decode cX4_placeOf 10 = .ok (.if_icmp .ge 33, 3) := by decide +kernel
theorem dX4_placeOf_13 : decode cX4_placeOf 13 = .ok (.aload_n 1, 1) := by decide +kernel
theorem dX4_placeOf_14 : decode cX4_placeOf 14 = .ok (.iload_n 3, 1) := by decide +kernel
theorem dX4_placeOf_15 : decode cX4_placeOf 15 = .ok (.laload, 1) := by decide +kernel
theorem dX4_placeOf_16 : decode cX4_placeOf 16 = .ok (.aload_n 0, 1) := by decide +kernel
theorem dX4_placeOf_17 : decode cX4_placeOf 17 = .ok (.getfield 22, 3) := by decide +kernel
theorem dX4_placeOf_20 : decode cX4_placeOf 20 = .ok (.getfield 199, 3) := by decide +kernel
theorem dX4_placeOf_23 : decode cX4_placeOf 23 = .ok (.aload_n 0, 1) := by decide +kernel
theorem dX4_placeOf_24 : decode cX4_placeOf 24 = .ok (.getfield 22, 3) := by decide +kernel
theorem dX4_placeOf_27 : decode cX4_placeOf 27 = .ok (.getfield 202, 3) := by decide +kernel
theorem dX4_placeOf_30 : decode cX4_placeOf 30 = .ok (.laload, 1) := by decide +kernel
theorem dX4_placeOf_31 : decode cX4_placeOf 31 = .ok (.lcmp, 1) := by decide +kernel
theorem dX4_placeOf_32 : decode cX4_placeOf 32 = .ok (.ifCond .ne 5, 3) := by decide +kernel
theorem dX4_placeOf_35 : decode cX4_placeOf 35 = .ok (.iload_n 3, 1) := by decide +kernel
theorem dX4_placeOf_36 : decode cX4_placeOf 36 = .ok (.ireturn, 1) := by decide +kernel
theorem dX4_placeOf_37 : decode cX4_placeOf 37 = .ok (.iinc 3 1, 3) := by decide +kernel
theorem dX4_placeOf_40 : decode cX4_placeOf 40 = .ok (.goto (-38), 3) := by decide +kernel
theorem dX4_placeOf_43 : decode cX4_placeOf 43 = .ok (.iconst (-1), 1) := by decide +kernel
theorem dX4_placeOf_44 : decode cX4_placeOf 44 = .ok (.ireturn, 1) := by decide +kernel
theorem wl_RX4_22 : Cond.fieldLink RX4 22 (TX4 1).1 (TX4 1).2.1 (TX4 1).2.2.1 ∈ TB := tbm 224 (by decide +kernel) (by decide +kernel)
theorem wl_RX4_199 : Cond.fieldLink RX4 199 (TX10 4).1 (TX10 4).2.1 (TX10 4).2.2.1 ∈ TB := tbm 188 (by decide +kernel) (by decide +kernel)
theorem wl_RX4_202 : Cond.fieldLink RX4 202 (TX10 6).1 (TX10 6).2.1 (TX10 6).2.2.1 ∈ TB := tbm 191 (by decide +kernel) (by decide +kernel)
def mX4_placeOf_L2 (t : Nat) (p1 : Nat) (p1n : Nat) (σ : St_) (x2 : Int32) : Nat → Int32 → Option Int32
  | 0, _ => none
  | n + 1, x3 => (if x2 ≤ x3 then
 (some (-1 : Int32))
 else (if (Int32.ofNat p1n) ≤ x3 then
 (some (-1 : Int32))
 else (if bin x3 p1n = true then bnd (σ.2 p1 x3.toNatClampNeg) fun v1 =>
 (bnd (σ.1 (t + 2) 6) fun v2 =>
 (if bin v2 1701 = true then bnd (σ.2 (t + 2 + 4) v2.toNatClampNeg) fun v3 =>
 (if (lg_cmp v1 v3) = 0 then
 (some x3)
 else (mX4_placeOf_L2 t p1 p1n σ x2 n (x3 + 1)))
 else none))
 else none)))
def mX4_placeOf (t : Nat) (p1 : Nat) (p1n : Nat) (p2 : Int32) (σ : St_) : Option Int32 :=
 (mX4_placeOf_L2 t p1 p1n σ p2 FU (0 : Int32))
set_option maxHeartbeats 4000000 in
theorem tmX4_placeOf_L2 (σ : St_) (t : Nat) (p1 : Nat) (p1n : Nat) (hT : LY4 sh P t) (hp1 : sh[p1]? = some (2, p1n)) (x2 : Int32) : ∀ (n : Nat) (x3 : Int32), Tj l D cA h0 ad RX4 cX4_placeOf 4 (some .int) false 2 0 0 (fun b => (some (.int b), sh, P, σ)) 0 0 sh P σ 2 [(0, .ref (h0 + t)), (1, .ref (h0 + p1)), (2, .int x2), (3, .int x3)] [] (mX4_placeOf_L2 t p1 p1n σ x2 n x3) := by
  intro n
  induction n with
  | zero => intros; exact tj_none
  | succ n ih =>
    intro x3
    rw [mX4_placeOf_L2]
    refine tj_iload_n (q := 3) dX4_placeOf_2 rfl (i := 3) rfl (pl := 3) rfl ?_
    refine tj_iload_n (q := 4) dX4_placeOf_3 rfl (i := 2) rfl (pl := 2) rfl ?_
    refine tj_icmp_ge (tgt := 43) (q := 7) dX4_placeOf_4 (by decide) rfl ?_ ?_
    · refine tj_iconst (q := 44) (v := (-1)) dX4_placeOf_43 rfl (by decide) ?_
      exact tj_iret rfl rfl (Nat.le_of_ble_eq_true rfl) (Nat.le_of_ble_eq_true rfl) dX4_placeOf_44
    · refine tj_iload_n (q := 8) dX4_placeOf_7 rfl (i := 3) rfl (pl := 3) rfl ?_
      refine tj_aload_n (q := 9) dX4_placeOf_8 rfl (i := 1) rfl (pl := 1) rfl ?_
      refine tj_alen2 (q := 10) (v := Int32.ofNat p1n) hp1 rfl dX4_placeOf_9 rfl ?_
      refine tj_icmp_ge (tgt := 43) (q := 13) dX4_placeOf_10 (by decide) rfl ?_ ?_
      · refine tj_iconst (q := 44) (v := (-1)) dX4_placeOf_43 rfl (by decide) ?_
        exact tj_iret rfl rfl (Nat.le_of_ble_eq_true rfl) (Nat.le_of_ble_eq_true rfl) dX4_placeOf_44
      · refine tj_aload_n (q := 14) dX4_placeOf_13 rfl (i := 1) rfl (pl := 1) rfl ?_
        refine tj_iload_n (q := 15) dX4_placeOf_14 rfl (i := 3) rfl (pl := 3) rfl ?_
        refine tj_laload (q := 16) hp1 dX4_placeOf_15 rfl ?_
        refine tj_topL (fun v1 => ?_)
        refine tj_aload_n (q := 17) dX4_placeOf_16 rfl (i := 0) rfl (pl := 0) rfl ?_
        refine tj_getR (q := 20) (hT).s (hT).p_tokens fok_4_1 wl_RX4_22 dX4_placeOf_17 rfl ?_
        refine tj_getR (q := 23) ((hT).o_tokens).s ((hT).o_tokens).p_values fok_10_4 wl_RX4_199 dX4_placeOf_20 rfl ?_
        refine tj_aload_n (q := 24) dX4_placeOf_23 rfl (i := 0) rfl (pl := 0) rfl ?_
        refine tj_getR (q := 27) (hT).s (hT).p_tokens fok_4_1 wl_RX4_22 dX4_placeOf_24 rfl ?_
        refine tj_getI (q := 30) ((hT).o_tokens).s fok_10_6 wl_RX4_202 dX4_placeOf_27 rfl ?_
        refine tj_topI (fun v2 => ?_)
        refine tj_laload (q := 31) ((hT).o_tokens).s_values dX4_placeOf_30 rfl ?_
        refine tj_topL (fun v3 => ?_)
        refine tj_lcmp (q := 32) dX4_placeOf_31 rfl ?_
        refine tj_if_ne (tgt := 37) (q := 35) dX4_placeOf_32 (by decide) rfl ?_ ?_
        · refine tj_iload_n (q := 36) dX4_placeOf_35 rfl (i := 3) rfl (pl := 3) rfl ?_
          exact tj_iret rfl rfl (Nat.le_of_ble_eq_true rfl) (Nat.le_of_ble_eq_true rfl) dX4_placeOf_36
        · refine tj_iinc (q := 40) (v := x3 + 1) dX4_placeOf_37 rfl (pl := 3) rfl rfl (by decide) rfl ?_
          refine tj_goto (q := 2) dX4_placeOf_40 (by decide) ?_
          refine tj_lv [1, 2, 3, 0] rfl ?_
          exact ih (x3 + 1)

set_option maxHeartbeats 4000000 in
theorem rX4_placeOf (t : Nat) (p1 : Nat) (p1n : Nat) (p2 : Int32) (hT : LY4 sh P t) (hp1 : sh[p1]? = some (2, p1n)) : Rj l D cA h0 ad yX4_placeOf cX4_placeOf 4 (some .int) false 2 0 0 (fun b => (some (.int b), sh, P, σ)) [.ref (h0 + t), .ref (h0 + p1), .int p2] sh P σ (mX4_placeOf t p1 p1n p2 σ) := by
  rw [mX4_placeOf]
  refine Rj.of (by decide) (fun h => by cases h) (Nat.le_of_ble_eq_true rfl) ?_
  refine tj_lv0 (lv' := [(0, .ref (h0 + t)), (1, .ref (h0 + p1)), (2, .int p2)]) rfl ?_
  refine tj_iconst (q := 1) (v := 0) dX4_placeOf_0 rfl (by decide) ?_
  refine tj_istore_n (q := 2) dX4_placeOf_1 rfl (i := 3) rfl (by decide) rfl ?_
  refine tj_lv [1, 2, 3, 0] rfl ?_
  exact tmX4_placeOf_L2 σ t p1 p1n hT hp1 p2 FU (0 : Int32)

theorem dX4_readNewName_0 : decode cX4_readNewName 0 = .ok (.aload_n 0, 1) := by decide +kernel
theorem dX4_readNewName_1 : decode cX4_readNewName 1 = .ok (.getfield 22, 3) := by decide +kernel
theorem dX4_readNewName_4 : decode cX4_readNewName 4 = .ok (.iconst 2, 1) := by decide +kernel
theorem dX4_readNewName_5 : decode cX4_readNewName 5 = .ok (.invokevirtual 57, 3) := by decide +kernel
theorem dX4_readNewName_8 : decode cX4_readNewName 8 = .ok (.ifCond .ne 11, 3) := by decide +kernel
theorem dX4_readNewName_11 : decode cX4_readNewName 11 = .ok (.aload_n 0, 1) := by decide +kernel
theorem dX4_readNewName_12 : decode cX4_readNewName 12 = .ok (.getfield 22, 3) := by decide +kernel
theorem dX4_readNewName_15 : decode cX4_readNewName 15 = .ok (.invokevirtual 71, 3) := by decide +kernel
theorem dX4_readNewName_18 : decode cX4_readNewName 18 = .ok (.ireturn, 1) := by decide +kernel
theorem dX4_readNewName_19 : decode cX4_readNewName 19 = .ok (.aload_n 0, 1) := by decide +kernel
theorem dX4_readNewName_20 : decode cX4_readNewName 20 = .ok (.aload_n 1, 1) := by decide +kernel
theorem dX4_readNewName_21 : decode cX4_readNewName 21 = .ok (.iload_n 2, 1) := by decide +kernel
theorem dX4_readNewName_22 : decode cX4_readNewName 22 = .ok (.invokevirtual 195, 3) := by decide +kernel
theorem dX4_readNewName_25 : decode cX4_readNewName 25 = .ok (.iconst (-1), 1) := by decide +kernel
theorem dX4_readNewName_26 : decode cX4_readNewName 26 = .ok (.if_icmp .eq 12, 3) := by decide +kernel
theorem dX4_readNewName_29 : decode cX4_readNewName 29 = .ok (.aload_n 0, 1) := by decide +kernel
theorem dX4_readNewName_30 : decode cX4_readNewName 30 = .ok (.getfield 22, 3) := by decide +kernel
theorem dX4_readNewName_33 : decode cX4_readNewName 33 = .ok (.iconst 3, 1) := by decide +kernel
theorem dX4_readNewName_34 : decode cX4_readNewName 34 = .ok (.invokevirtual 170, 3) := by decide +kernel
theorem dX4_readNewName_37 : decode cX4_readNewName 37 = .ok (.ireturn, 1) := by decide +kernel
theorem dX4_readNewName_38 : decode cX4_readNewName 38 = .ok (.iload_n 2, 1) := by decide +kernel
theorem dX4_readNewName_39 : decode cX4_readNewName 39 = .ok (.aload_n 1, 1) := by decide +kernel
theorem dX4_readNewName_40 : decode cX4_readNewName 40 = .ok (.arraylength, 1) := by decide +kernel
theorem dX4_readNewName_41 : decode cX4_readNewName 41 = .ok (.if_icmp .ge 21, 3) := by decide +kernel
theorem dX4_readNewName_44 : decode cX4_readNewName 44 = .ok (.aload_n 1, 1) := by decide +kernel
theorem dX4_readNewName_45 : decode cX4_readNewName 45 = .ok (.iload_n 2, 1) := by decide +kernel
theorem dX4_readNewName_46 : decode cX4_readNewName 46 = .ok (.aload_n 0, 1) := by decide +kernel
theorem dX4_readNewName_47 : decode cX4_readNewName 47 = .ok (.getfield 22, 3) := by decide +kernel
theorem dX4_readNewName_50 : decode cX4_readNewName 50 = .ok (.getfield 199, 3) := by decide +kernel
theorem dX4_readNewName_53 : decode cX4_readNewName 53 = .ok (.aload_n 0, 1) := by decide +kernel
theorem dX4_readNewName_54 : decode cX4_readNewName 54 = .ok (.getfield 22, 3) := by decide +kernel
theorem dX4_readNewName_57 : decode cX4_readNewName 57 = .ok (.getfield 202, 3) := by decide +kernel
theorem dX4_readNewName_60 : decode cX4_readNewName 60 = .ok (.laload, 1) := by decide +kernel
theorem dX4_readNewName_61 : decode cX4_readNewName 61 = .ok (.lastore, 1) := by decide +kernel
theorem dX4_readNewName_62 : decode cX4_readNewName 62 = .ok (.aload_n 0, 1) := by decide +kernel
theorem dX4_readNewName_63 : decode cX4_readNewName 63 = .ok (.getfield 22, 3) := by decide +kernel
theorem dX4_readNewName_66 : decode cX4_readNewName 66 = .ok (.invokevirtual 101, 3) := by decide +kernel
theorem dX4_readNewName_69 : decode cX4_readNewName 69 = .ok (.iconst 1, 1) := by decide +kernel
theorem dX4_readNewName_70 : decode cX4_readNewName 70 = .ok (.ireturn, 1) := by decide +kernel
theorem wi_RX4_57 : Iv RX4 57 yX10_isSort cX10_isSort 2 (some .boolean) 1 := ⟨tbm 838 (by decide +kernel) (by decide +kernel), wm_X10_isSort⟩
theorem wi_RX4_71 : Iv RX4 71 yX10_refuse cX10_refuse 1 (some .boolean) 0 := ⟨tbm 846 (by decide +kernel) (by decide +kernel), wm_X10_refuse⟩
theorem wm_X4_placeOf : Cond.instanceMethod yX4_placeOf ∈ TB ∧ Cond.selects yX4_placeOf.cls yX4_placeOf yX4_placeOf ∈ TB ∧ Cond.initialized yX4_placeOf.cls ∈ TB ∧ Cond.code yX4_placeOf cX4_placeOf 4 (some .int) ∈ TB ∧ (yX4_placeOf.cls ≠ "java/lang/invoke/MethodHandle" ∧ yX4_placeOf.cls ≠ "java/lang/invoke/VarHandle" ∧ (parseMethodDescriptor yX4_placeOf.desc).map (fun d => d.parameters.length) = some 2) ∧ 4 ≤ 21 := ⟨tbm 872 (by decide +kernel) (by decide +kernel), tbm 9 (by decide +kernel) (by decide +kernel), tbm 135 (by decide +kernel) (by decide +kernel), tbm 873 (by decide +kernel) (by decide +kernel), by decide +kernel, by decide⟩
theorem wi_RX4_195 : Iv RX4 195 yX4_placeOf cX4_placeOf 4 (some .int) 2 := ⟨tbm 870 (by decide +kernel) (by decide +kernel), wm_X4_placeOf⟩
theorem wi_RX4_170 : Iv RX4 170 yX10_fail cX10_fail 2 (some .boolean) 1 := ⟨tbm 874 (by decide +kernel) (by decide +kernel), wm_X10_fail⟩
theorem wi_RX4_101 : Iv RX4 101 yX10_next cX10_next 1 none 0 := ⟨tbm 862 (by decide +kernel) (by decide +kernel), wm_X10_next⟩
def mX4_readNewName (t : Nat) (p1 : Nat) (p1n : Nat) (p2 : Int32) (σ : St_) : Option (Bool × St_) :=
 ((mX10_isSort (t + 2) (2 : Int32) σ).bind fun r1 =>
 (if r1 = true then
 ((mX4_placeOf t p1 p1n p2 σ).bind fun r2 =>
 (if r2 = (-1 : Int32) then
 (bnd (fun (σ3 : St_) => ((mX10_next (t + 2) σ3).bind fun σ6 =>
 (some (true, σ6)))) fun k4 =>
 (if (Int32.ofNat p1n) ≤ p2 then
 (k4 σ)
 else (bnd (σ.1 (t + 2) 6) fun v7 =>
 (if bin v7 1701 = true then bnd (σ.2 (t + 2 + 4) v7.toNatClampNeg) fun v8 =>
 (if bin p2 p1n = true then bnd (sL σ p1 p2.toNatClampNeg v8) fun σ9 =>
 (k4 σ9)
 else none)
 else none))))
 else ((mX10_fail (t + 2) (3 : Int32) σ).bind fun r10 =>
 (some (r10.1, r10.2)))))
 else ((mX10_refuse (t + 2) σ).bind fun r11 =>
 (some (r11.1, r11.2)))))
set_option maxHeartbeats 4000000 in
theorem rX4_readNewName (t : Nat) (p1 : Nat) (p1n : Nat) (p2 : Int32) (hT : LY4 sh P t) (hp1 : sh[p1]? = some (2, p1n)) : Rj l D cA h0 ad yX4_readNewName cX4_readNewName 3 (some .boolean) false 4 0 0 (fun b => (some (.int (b2i b.1)), sh, P, b.2)) [.ref (h0 + t), .ref (h0 + p1), .int p2] sh P σ (mX4_readNewName t p1 p1n p2 σ) := by
  rw [mX4_readNewName]
  refine Rj.of (by decide) (fun h => by cases h) (Nat.le_of_ble_eq_true rfl) ?_
  refine tj_lv0 (lv' := [(0, .ref (h0 + t)), (1, .ref (h0 + p1)), (2, .int p2)]) rfl ?_
  refine tj_aload_n (q := 1) dX4_readNewName_0 rfl (i := 0) rfl (pl := 0) rfl ?_
  refine tj_getR (q := 4) (hT).s (hT).p_tokens fok_4_1 wl_RX4_22 dX4_readNewName_1 rfl ?_
  refine tj_iconst (q := 5) (v := 2) dX4_readNewName_4 rfl (by decide) ?_
  refine tj_callZp (q := 8) (kj_V (As := [.int (2 : Int32)]) (rest := []) (t := (t + 2)) wi_RX4_57 ((hT).o_tokens).s rfl (rX10_isSort (t + 2) (2 : Int32) ((hT).o_tokens)) rfl (Nat.le_of_ble_eq_true rfl) ⟨Nat.le_of_ble_eq_true rfl, Nat.le_of_ble_eq_true rfl⟩ (Nat.le_of_ble_eq_true rfl) dX4_readNewName_5) rfl (fun r1 => ?_)
  refine tj_bnz (tgt := 19) (q := 11) dX4_readNewName_8 (by decide) rfl ?_ ?_
  · refine tj_aload_n (q := 20) dX4_readNewName_19 rfl (i := 0) rfl (pl := 0) rfl ?_
    refine tj_aload_n (q := 21) dX4_readNewName_20 rfl (i := 1) rfl (pl := 1) rfl ?_
    refine tj_iload_n (q := 22) dX4_readNewName_21 rfl (i := 2) rfl (pl := 2) rfl ?_
    refine tj_callIp (q := 25) (kj_V (As := [.ref (h0 + p1), .int p2]) (rest := []) (t := t) wi_RX4_195 (hT).s rfl (rX4_placeOf t p1 p1n p2 (hT) (hp1)) rfl (Nat.le_of_ble_eq_true rfl) ⟨Nat.le_of_ble_eq_true rfl, Nat.le_of_ble_eq_true rfl⟩ (Nat.le_of_ble_eq_true rfl) dX4_readNewName_22) rfl (fun r2 => ?_)
    refine tj_iconst (q := 26) (v := (-1)) dX4_readNewName_25 rfl (by decide) ?_
    refine tj_icmp_eq (tgt := 38) (q := 29) dX4_readNewName_26 (by decide) rfl ?_ ?_
    · refine tj_iload_n (q := 39) dX4_readNewName_38 rfl (i := 2) rfl (pl := 2) rfl ?_
      refine tj_aload_n (q := 40) dX4_readNewName_39 rfl (i := 1) rfl (pl := 1) rfl ?_
      refine tj_alen2 (q := 41) (v := Int32.ofNat p1n) hp1 rfl dX4_readNewName_40 rfl ?_
      refine tj_bnd (fun k4 => ∀ (σ3 : St_), Tj l D cA h0 ad RX4 cX4_readNewName 3 (some .boolean) false 4 0 0 (fun b => (some (.int (b2i b.1)), sh, P, b.2)) 0 0 sh P σ3 62 [(0, .ref (h0 + t))] [] (k4 σ3)) ?_ (fun k4 hk5 => ?_)
      · intro σ3
        refine tj_aload_n (q := 63) dX4_readNewName_62 rfl (i := 0) rfl (pl := 0) rfl ?_
        refine tj_getR (q := 66) (hT).s (hT).p_tokens fok_4_1 wl_RX4_22 dX4_readNewName_63 rfl ?_
        refine tj_callV (q := 69) (kj_V (As := []) (rest := []) (t := (t + 2)) wi_RX4_101 ((hT).o_tokens).s rfl (rX10_next (t + 2) ((hT).o_tokens)) rfl (Nat.le_of_ble_eq_true rfl) ⟨Nat.le_of_ble_eq_true rfl, Nat.le_of_ble_eq_true rfl⟩ (Nat.le_of_ble_eq_true rfl) dX4_readNewName_66) rfl (fun σ6 => ?_)
        refine tj_iconst (q := 70) (v := 1) dX4_readNewName_69 rfl (by decide) ?_
        exact tj_zret rfl (by decide) rfl (Nat.le_of_ble_eq_true rfl) (Nat.le_of_ble_eq_true rfl) dX4_readNewName_70
      · refine tj_icmp_ge (tgt := 62) (q := 44) dX4_readNewName_41 (by decide) rfl ?_ ?_
        · refine tj_lv [0] rfl ?_
          exact hk5 σ
        · refine tj_aload_n (q := 45) dX4_readNewName_44 rfl (i := 1) rfl (pl := 1) rfl ?_
          refine tj_iload_n (q := 46) dX4_readNewName_45 rfl (i := 2) rfl (pl := 2) rfl ?_
          refine tj_aload_n (q := 47) dX4_readNewName_46 rfl (i := 0) rfl (pl := 0) rfl ?_
          refine tj_getR (q := 50) (hT).s (hT).p_tokens fok_4_1 wl_RX4_22 dX4_readNewName_47 rfl ?_
          refine tj_getR (q := 53) ((hT).o_tokens).s ((hT).o_tokens).p_values fok_10_4 wl_RX4_199 dX4_readNewName_50 rfl ?_
          refine tj_aload_n (q := 54) dX4_readNewName_53 rfl (i := 0) rfl (pl := 0) rfl ?_
          refine tj_getR (q := 57) (hT).s (hT).p_tokens fok_4_1 wl_RX4_22 dX4_readNewName_54 rfl ?_
          refine tj_getI (q := 60) ((hT).o_tokens).s fok_10_6 wl_RX4_202 dX4_readNewName_57 rfl ?_
          refine tj_topI (fun v7 => ?_)
          refine tj_laload (q := 61) ((hT).o_tokens).s_values dX4_readNewName_60 rfl ?_
          refine tj_topL (fun v8 => ?_)
          refine tj_lastore (q := 62) hp1 dX4_readNewName_61 rfl (fun σ9 => ?_)
          refine tj_lv [0] rfl ?_
          exact hk5 σ9
    · refine tj_aload_n (q := 30) dX4_readNewName_29 rfl (i := 0) rfl (pl := 0) rfl ?_
      refine tj_getR (q := 33) (hT).s (hT).p_tokens fok_4_1 wl_RX4_22 dX4_readNewName_30 rfl ?_
      refine tj_iconst (q := 34) (v := 3) dX4_readNewName_33 rfl (by decide) ?_
      refine tj_callZ (q := 37) (kj_V (As := [.int (3 : Int32)]) (rest := []) (t := (t + 2)) wi_RX4_170 ((hT).o_tokens).s rfl (rX10_fail (t + 2) (3 : Int32) ((hT).o_tokens)) rfl (Nat.le_of_ble_eq_true rfl) ⟨Nat.le_of_ble_eq_true rfl, Nat.le_of_ble_eq_true rfl⟩ (Nat.le_of_ble_eq_true rfl) dX4_readNewName_34) rfl (fun r10 => ?_)
      exact tj_zret rfl (nar_b2i _) rfl (Nat.le_of_ble_eq_true rfl) (Nat.le_of_ble_eq_true rfl) dX4_readNewName_37
  · refine tj_aload_n (q := 12) dX4_readNewName_11 rfl (i := 0) rfl (pl := 0) rfl ?_
    refine tj_getR (q := 15) (hT).s (hT).p_tokens fok_4_1 wl_RX4_22 dX4_readNewName_12 rfl ?_
    refine tj_callZ (q := 18) (kj_V (As := []) (rest := []) (t := (t + 2)) wi_RX4_71 ((hT).o_tokens).s rfl (rX10_refuse (t + 2) ((hT).o_tokens)) rfl (Nat.le_of_ble_eq_true rfl) ⟨Nat.le_of_ble_eq_true rfl, Nat.le_of_ble_eq_true rfl⟩ (Nat.le_of_ble_eq_true rfl) dX4_readNewName_15) rfl (fun r11 => ?_)
    exact tj_zret rfl (nar_b2i _) rfl (Nat.le_of_ble_eq_true rfl) (Nat.le_of_ble_eq_true rfl) dX4_readNewName_18

theorem dX4_readKind_0 : decode cX4_readKind 0 = .ok (.aload_n 1, 1) := by decide +kernel
theorem dX4_readKind_1 : decode cX4_readKind 1 = .ok (.getfield 111, 3) := by decide +kernel
theorem dX4_readKind_4 : decode cX4_readKind 4 = .ok (.bipush 6, 2) := by decide +kernel
theorem dX4_readKind_6 : decode cX4_readKind 6 = .ok (.if_icmp .lt 11, 3) := by decide +kernel
theorem dX4_readKind_9 : decode cX4_readKind 9 = .ok (.aload_n 0, 1) := by decide +kernel
theorem dX4_readKind_10 : decode cX4_readKind 10 = .ok (.getfield 22, 3) := by decide +kernel
theorem dX4_readKind_13 : decode cX4_readKind 13 = .ok (.invokevirtual 71, 3) := by decide +kernel
theorem dX4_readKind_16 : decode cX4_readKind 16 = .ok (.ireturn, 1) := by decide +kernel
theorem dX4_readKind_17 : decode cX4_readKind 17 = .ok (.aload_n 0, 1) := by decide +kernel
theorem dX4_readKind_18 : decode cX4_readKind 18 = .ok (.getfield 22, 3) := by decide +kernel
theorem dX4_readKind_21 : decode cX4_readKind 21 = .ok (.invokevirtual 101, 3) := by decide +kernel
theorem dX4_readKind_24 : decode cX4_readKind 24 = .ok (.aload_n 0, 1) := by decide +kernel
theorem dX4_readKind_25 : decode cX4_readKind 25 = .ok (.aload_n 0, 1) := by decide +kernel
theorem dX4_readKind_26 : decode cX4_readKind 26 = .ok (.getfield 23, 3) := by decide +kernel
theorem dX4_readKind_29 : decode cX4_readKind 29 = .ok (.aload_n 1, 1) := by decide +kernel
theorem dX4_readKind_30 : decode cX4_readKind 30 = .ok (.getfield 111, 3) := by decide +kernel
theorem dX4_readKind_33 : decode cX4_readKind 33 = .ok (.invokevirtual 114, 3) := by decide +kernel
theorem dX4_readKind_36 : decode cX4_readKind 36 = .ok (.ifCond .ne 5, 3) := by decide +kernel
theorem dX4_readKind_39 : decode cX4_readKind 39 = .ok (.iconst 0, 1) := by decide +kernel
theorem dX4_readKind_40 : decode cX4_readKind 40 = .ok (.ireturn, 1) := by decide +kernel
theorem dX4_readKind_41 : decode cX4_readKind 41 = .ok (.aload_n 1, 1) := by decide +kernel
theorem dX4_readKind_42 : decode cX4_readKind 42 = .ok (.dup, 1) := by decide +kernel
theorem dX4_readKind_43 : decode cX4_readKind 43 = .ok (.getfield 111, 3) := by decide +kernel
theorem dX4_readKind_46 : decode cX4_readKind 46 = .ok (.iconst 1, 1) := by decide +kernel
theorem dX4_readKind_47 : decode cX4_readKind 47 = .ok (.iadd, 1) := by decide +kernel
theorem dX4_readKind_48 : decode cX4_readKind 48 = .ok (.putfield 111, 3) := by decide +kernel
theorem dX4_readKind_51 : decode cX4_readKind 51 = .ok (.iconst 1, 1) := by decide +kernel
theorem dX4_readKind_52 : decode cX4_readKind 52 = .ok (.ireturn, 1) := by decide +kernel
theorem wl_RX4_111 : Cond.fieldLink RX4 111 (TX1 1).1 (TX1 1).2.1 (TX1 1).2.2.1 ∈ TB := tbm 294 (by decide +kernel) (by decide +kernel)
theorem wl_RX4_23 : Cond.fieldLink RX4 23 (TX4 2).1 (TX4 2).2.1 (TX4 2).2.2.1 ∈ TB := tbm 225 (by decide +kernel) (by decide +kernel)
theorem wm_X4_readNewName : Cond.instanceMethod yX4_readNewName ∈ TB ∧ Cond.selects yX4_readNewName.cls yX4_readNewName yX4_readNewName ∈ TB ∧ Cond.initialized yX4_readNewName.cls ∈ TB ∧ Cond.code yX4_readNewName cX4_readNewName 3 (some .boolean) ∈ TB ∧ (yX4_readNewName.cls ≠ "java/lang/invoke/MethodHandle" ∧ yX4_readNewName.cls ≠ "java/lang/invoke/VarHandle" ∧ (parseMethodDescriptor yX4_readNewName.desc).map (fun d => d.parameters.length) = some 2) ∧ 3 ≤ 21 := ⟨tbm 868 (by decide +kernel) (by decide +kernel), tbm 8 (by decide +kernel) (by decide +kernel), tbm 135 (by decide +kernel) (by decide +kernel), tbm 869 (by decide +kernel) (by decide +kernel), by decide +kernel, by decide⟩
theorem wi_RX4_114 : Iv RX4 114 yX4_readNewName cX4_readNewName 3 (some .boolean) 2 := ⟨tbm 866 (by decide +kernel) (by decide +kernel), wm_X4_readNewName⟩
def mX4_readKind (t : Nat) (p1 : Nat) (σ : St_) : Option (Bool × St_) :=
 (if (σ.1 p1 1) < (6 : Int32) then
 ((mX10_next (t + 2) σ).bind fun σ1 =>
 ((mX4_readNewName t (t + 7) 6 (σ1.1 p1 1) σ1).bind fun r2 =>
 (if r2.1 = true then
 (bnd (sI r2.2 p1 1 ((r2.2.1 p1 1) + (1 : Int32))) fun σ3 =>
 (some (true, σ3)))
 else (some (false, r2.2)))))
 else ((mX10_refuse (t + 2) σ).bind fun r4 =>
 (some (r4.1, r4.2))))
set_option maxHeartbeats 4000000 in
theorem rX4_readKind (t : Nat) (p1 : Nat) (hT : LY4 sh P t) (hp1 : LY1 sh P p1) : Rj l D cA h0 ad yX4_readKind cX4_readKind 2 (some .boolean) false 5 0 0 (fun b => (some (.int (b2i b.1)), sh, P, b.2)) [.ref (h0 + t), .ref (h0 + p1)] sh P σ (mX4_readKind t p1 σ) := by
  rw [mX4_readKind]
  refine Rj.of (by decide) (fun h => by cases h) (Nat.le_of_ble_eq_true rfl) ?_
  refine tj_lv0 (lv' := [(0, .ref (h0 + t)), (1, .ref (h0 + p1))]) rfl ?_
  refine tj_aload_n (q := 1) dX4_readKind_0 rfl (i := 1) rfl (pl := 1) rfl ?_
  refine tj_getI (q := 4) (hp1).s fok_1_1 wl_RX4_111 dX4_readKind_1 rfl ?_
  refine tj_bipush (q := 6) (v := 6) dX4_readKind_4 rfl (by decide) ?_
  refine tj_icmp_lt (tgt := 17) (q := 9) dX4_readKind_6 (by decide) rfl ?_ ?_
  · refine tj_aload_n (q := 18) dX4_readKind_17 rfl (i := 0) rfl (pl := 0) rfl ?_
    refine tj_getR (q := 21) (hT).s (hT).p_tokens fok_4_1 wl_RX4_22 dX4_readKind_18 rfl ?_
    refine tj_callV (q := 24) (kj_V (As := []) (rest := []) (t := (t + 2)) wi_RX4_101 ((hT).o_tokens).s rfl (rX10_next (t + 2) ((hT).o_tokens)) rfl (Nat.le_of_ble_eq_true rfl) ⟨Nat.le_of_ble_eq_true rfl, Nat.le_of_ble_eq_true rfl⟩ (Nat.le_of_ble_eq_true rfl) dX4_readKind_21) rfl (fun σ1 => ?_)
    refine tj_aload_n (q := 25) dX4_readKind_24 rfl (i := 0) rfl (pl := 0) rfl ?_
    refine tj_aload_n (q := 26) dX4_readKind_25 rfl (i := 0) rfl (pl := 0) rfl ?_
    refine tj_getR (q := 29) (hT).s (hT).p_kindNames fok_4_2 wl_RX4_23 dX4_readKind_26 rfl ?_
    refine tj_aload_n (q := 30) dX4_readKind_29 rfl (i := 1) rfl (pl := 1) rfl ?_
    refine tj_getI (q := 33) (hp1).s fok_1_1 wl_RX4_111 dX4_readKind_30 rfl ?_
    refine tj_callZ (q := 36) (kj_V (As := [.ref (h0 + (t + 7)), .int (σ1.1 p1 1)]) (rest := []) (t := t) wi_RX4_114 (hT).s rfl (rX4_readNewName t (t + 7) 6 (σ1.1 p1 1) (hT) ((hT).s_kindNames)) rfl (Nat.le_of_ble_eq_true rfl) ⟨Nat.le_of_ble_eq_true rfl, Nat.le_of_ble_eq_true rfl⟩ (Nat.le_of_ble_eq_true rfl) dX4_readKind_33) rfl (fun r2 => ?_)
    refine tj_bnz (tgt := 41) (q := 39) dX4_readKind_36 (by decide) rfl ?_ ?_
    · refine tj_aload_n (q := 42) dX4_readKind_41 rfl (i := 1) rfl (pl := 1) rfl ?_
      refine tj_dup (q := 43) dX4_readKind_42 rfl rfl ?_
      refine tj_getI (q := 46) (hp1).s fok_1_1 wl_RX4_111 dX4_readKind_43 rfl ?_
      refine tj_iconst (q := 47) (v := 1) dX4_readKind_46 rfl (by decide) ?_
      refine tj_iadd (q := 48) dX4_readKind_47 rfl ?_
      refine tj_putI (q := 51) (hp1).s fok_1_1 tok_1 fpk_1_1 wl_RX4_111 dX4_readKind_48 rfl (fun σ3 => ?_)
      refine tj_iconst (q := 52) (v := 1) dX4_readKind_51 rfl (by decide) ?_
      exact tj_zret rfl (by decide) rfl (Nat.le_of_ble_eq_true rfl) (Nat.le_of_ble_eq_true rfl) dX4_readKind_52
    · refine tj_iconst (q := 40) (v := 0) dX4_readKind_39 rfl (by decide) ?_
      exact tj_zret rfl (by decide) rfl (Nat.le_of_ble_eq_true rfl) (Nat.le_of_ble_eq_true rfl) dX4_readKind_40
  · refine tj_aload_n (q := 10) dX4_readKind_9 rfl (i := 0) rfl (pl := 0) rfl ?_
    refine tj_getR (q := 13) (hT).s (hT).p_tokens fok_4_1 wl_RX4_22 dX4_readKind_10 rfl ?_
    refine tj_callZ (q := 16) (kj_V (As := []) (rest := []) (t := (t + 2)) wi_RX4_71 ((hT).o_tokens).s rfl (rX10_refuse (t + 2) ((hT).o_tokens)) rfl (Nat.le_of_ble_eq_true rfl) ⟨Nat.le_of_ble_eq_true rfl, Nat.le_of_ble_eq_true rfl⟩ (Nat.le_of_ble_eq_true rfl) dX4_readKind_13) rfl (fun r4 => ?_)
    exact tj_zret rfl (nar_b2i _) rfl (Nat.le_of_ble_eq_true rfl) (Nat.le_of_ble_eq_true rfl) dX4_readKind_16

theorem dX4_readOldName_0 : decode cX4_readOldName 0 = .ok (.aload_n 0, 1) := by decide +kernel
theorem dX4_readOldName_1 : decode cX4_readOldName 1 = .ok (.getfield 22, 3) := by decide +kernel
theorem dX4_readOldName_4 : decode cX4_readOldName 4 = .ok (.iconst 2, 1) := by decide +kernel
theorem dX4_readOldName_5 : decode cX4_readOldName 5 = .ok (.invokevirtual 57, 3) := by decide +kernel
theorem dX4_readOldName_8 : decode cX4_readOldName 8 = .ok (.ifCond .ne 11, 3) := by decide +kernel
theorem dX4_readOldName_11 : decode cX4_readOldName 11 = .ok (.aload_n 0, 1) := by decide +kernel
theorem dX4_readOldName_12 : decode cX4_readOldName 12 = .ok (.getfield 22, 3) := by decide +kernel
theorem dX4_readOldName_15 : decode cX4_readOldName 15 = .ok (.invokevirtual 71, 3) := by decide +kernel
theorem dX4_readOldName_18 : decode cX4_readOldName 18 = .ok (.ireturn, 1) := by decide +kernel
theorem dX4_readOldName_19 : decode cX4_readOldName 19 = .ok (.aload_n 0, 1) := by decide +kernel
theorem dX4_readOldName_20 : decode cX4_readOldName 20 = .ok (.aload_n 0, 1) := by decide +kernel
theorem dX4_readOldName_21 : decode cX4_readOldName 21 = .ok (.aload_n 1, 1) := by decide +kernel
theorem dX4_readOldName_22 : decode cX4_readOldName 22 = .ok (.iload_n 2, 1) := by decide +kernel
theorem dX4_readOldName_23 : decode cX4_readOldName 23 = .ok (.invokevirtual 195, 3) := by decide +kernel
theorem dX4_readOldName_26 : decode cX4_readOldName 26 = .ok (.putfield 47, 3) := by decide +kernel
theorem dX4_readOldName_29 : decode cX4_readOldName 29 = .ok (.aload_n 0, 1) := by decide +kernel
theorem dX4_readOldName_30 : decode cX4_readOldName 30 = .ok (.getfield 47, 3) := by decide +kernel
theorem dX4_readOldName_33 : decode cX4_readOldName 33 = .ok (.iconst (-1), 1) := by decide +kernel
theorem dX4_readOldName_34 : decode cX4_readOldName 34 = .ok (.if_icmp .ne 14, 3) := by decide +kernel
theorem dX4_readOldName_37 : decode cX4_readOldName 37 = .ok (.aload_n 0, 1) := by decide +kernel
theorem dX4_readOldName_38 : decode cX4_readOldName 38 = .ok (.getfield 22, 3) := by decide +kernel
theorem dX4_readOldName_41 : decode cX4_readOldName 41 = .ok (.iconst 5, 1) := by decide +kernel
theorem dX4_readOldName_42 : decode cX4_readOldName 42 = .ok (.invokevirtual 170, 3) := by decide +kernel
theorem dX4_readOldName_45 : decode cX4_readOldName 45 = .ok (.ifCond .eq 7, 3) := by decide +kernel
theorem dX4_readOldName_48 : decode cX4_readOldName 48 = .ok (.iconst 1, 1) := by decide +kernel
theorem dX4_readOldName_49 : decode cX4_readOldName 49 = .ok (.goto 4, 3) := by decide +kernel
theorem dX4_readOldName_52 : decode cX4_readOldName 52 = .ok (.iconst 0, 1) := by decide +kernel
theorem dX4_readOldName_53 : decode cX4_readOldName 53 = .ok (.ireturn, 1) := by decide +kernel
theorem wl_RX4_47 : Cond.fieldLink RX4 47 (TX4 9).1 (TX4 9).2.1 (TX4 9).2.2.1 ∈ TB := tbm 232 (by decide +kernel) (by decide +kernel)
def mX4_readOldName (t : Nat) (p1 : Nat) (p1n : Nat) (p2 : Int32) (σ : St_) : Option (Bool × St_) :=
 ((mX10_isSort (t + 2) (2 : Int32) σ).bind fun r1 =>
 (if r1 = true then
 ((mX4_placeOf t p1 p1n p2 σ).bind fun r2 =>
 (bnd (sI σ t 9 r2) fun σ3 =>
 (if (σ3.1 t 9) = (-1 : Int32) then
 ((mX10_fail (t + 2) (5 : Int32) σ3).bind fun r4 =>
 (if r4.1 = true then
 (some (true, r4.2))
 else (some (false, r4.2))))
 else (some (true, σ3)))))
 else ((mX10_refuse (t + 2) σ).bind fun r5 =>
 (some (r5.1, r5.2)))))
set_option maxHeartbeats 4000000 in
theorem rX4_readOldName (t : Nat) (p1 : Nat) (p1n : Nat) (p2 : Int32) (hT : LY4 sh P t) (hp1 : sh[p1]? = some (2, p1n)) : Rj l D cA h0 ad yX4_readOldName cX4_readOldName 3 (some .boolean) false 4 0 0 (fun b => (some (.int (b2i b.1)), sh, P, b.2)) [.ref (h0 + t), .ref (h0 + p1), .int p2] sh P σ (mX4_readOldName t p1 p1n p2 σ) := by
  rw [mX4_readOldName]
  refine Rj.of (by decide) (fun h => by cases h) (Nat.le_of_ble_eq_true rfl) ?_
  refine tj_lv0 (lv' := [(0, .ref (h0 + t)), (1, .ref (h0 + p1)), (2, .int p2)]) rfl ?_
  refine tj_aload_n (q := 1) dX4_readOldName_0 rfl (i := 0) rfl (pl := 0) rfl ?_
  refine tj_getR (q := 4) (hT).s (hT).p_tokens fok_4_1 wl_RX4_22 dX4_readOldName_1 rfl ?_
  refine tj_iconst (q := 5) (v := 2) dX4_readOldName_4 rfl (by decide) ?_
  refine tj_callZp (q := 8) (kj_V (As := [.int (2 : Int32)]) (rest := []) (t := (t + 2)) wi_RX4_57 ((hT).o_tokens).s rfl (rX10_isSort (t + 2) (2 : Int32) ((hT).o_tokens)) rfl (Nat.le_of_ble_eq_true rfl) ⟨Nat.le_of_ble_eq_true rfl, Nat.le_of_ble_eq_true rfl⟩ (Nat.le_of_ble_eq_true rfl) dX4_readOldName_5) rfl (fun r1 => ?_)
  refine tj_bnz (tgt := 19) (q := 11) dX4_readOldName_8 (by decide) rfl ?_ ?_
  · refine tj_aload_n (q := 20) dX4_readOldName_19 rfl (i := 0) rfl (pl := 0) rfl ?_
    refine tj_aload_n (q := 21) dX4_readOldName_20 rfl (i := 0) rfl (pl := 0) rfl ?_
    refine tj_aload_n (q := 22) dX4_readOldName_21 rfl (i := 1) rfl (pl := 1) rfl ?_
    refine tj_iload_n (q := 23) dX4_readOldName_22 rfl (i := 2) rfl (pl := 2) rfl ?_
    refine tj_callIp (q := 26) (kj_V (As := [.ref (h0 + p1), .int p2]) (rest := [.ref (h0 + t)]) (t := t) wi_RX4_195 (hT).s rfl (rX4_placeOf t p1 p1n p2 (hT) (hp1)) rfl (Nat.le_of_ble_eq_true rfl) ⟨Nat.le_of_ble_eq_true rfl, Nat.le_of_ble_eq_true rfl⟩ (Nat.le_of_ble_eq_true rfl) dX4_readOldName_23) rfl (fun r2 => ?_)
    refine tj_putI (q := 29) (hT).s fok_4_9 tok_4 fpk_4_9 wl_RX4_47 dX4_readOldName_26 rfl (fun σ3 => ?_)
    refine tj_aload_n (q := 30) dX4_readOldName_29 rfl (i := 0) rfl (pl := 0) rfl ?_
    refine tj_getI (q := 33) (hT).s fok_4_9 wl_RX4_47 dX4_readOldName_30 rfl ?_
    refine tj_iconst (q := 34) (v := (-1)) dX4_readOldName_33 rfl (by decide) ?_
    refine tj_icmp_ne (tgt := 48) (q := 37) dX4_readOldName_34 (by decide) rfl ?_ ?_
    · refine tj_aload_n (q := 38) dX4_readOldName_37 rfl (i := 0) rfl (pl := 0) rfl ?_
      refine tj_getR (q := 41) (hT).s (hT).p_tokens fok_4_1 wl_RX4_22 dX4_readOldName_38 rfl ?_
      refine tj_iconst (q := 42) (v := 5) dX4_readOldName_41 rfl (by decide) ?_
      refine tj_callZ (q := 45) (kj_V (As := [.int (5 : Int32)]) (rest := []) (t := (t + 2)) wi_RX4_170 ((hT).o_tokens).s rfl (rX10_fail (t + 2) (5 : Int32) ((hT).o_tokens)) rfl (Nat.le_of_ble_eq_true rfl) ⟨Nat.le_of_ble_eq_true rfl, Nat.le_of_ble_eq_true rfl⟩ (Nat.le_of_ble_eq_true rfl) dX4_readOldName_42) rfl (fun r4 => ?_)
      refine tj_bz (tgt := 52) (q := 48) dX4_readOldName_45 (by decide) rfl ?_ ?_
      · refine tj_iconst (q := 49) (v := 1) dX4_readOldName_48 rfl (by decide) ?_
        refine tj_goto (q := 53) dX4_readOldName_49 (by decide) ?_
        exact tj_zret rfl (by decide) rfl (Nat.le_of_ble_eq_true rfl) (Nat.le_of_ble_eq_true rfl) dX4_readOldName_53
      · refine tj_iconst (q := 53) (v := 0) dX4_readOldName_52 rfl (by decide) ?_
        exact tj_zret rfl (by decide) rfl (Nat.le_of_ble_eq_true rfl) (Nat.le_of_ble_eq_true rfl) dX4_readOldName_53
    · refine tj_iconst (q := 49) (v := 1) dX4_readOldName_48 rfl (by decide) ?_
      refine tj_goto (q := 53) dX4_readOldName_49 (by decide) ?_
      exact tj_zret rfl (by decide) rfl (Nat.le_of_ble_eq_true rfl) (Nat.le_of_ble_eq_true rfl) dX4_readOldName_53
  · refine tj_aload_n (q := 12) dX4_readOldName_11 rfl (i := 0) rfl (pl := 0) rfl ?_
    refine tj_getR (q := 15) (hT).s (hT).p_tokens fok_4_1 wl_RX4_22 dX4_readOldName_12 rfl ?_
    refine tj_callZ (q := 18) (kj_V (As := []) (rest := []) (t := (t + 2)) wi_RX4_71 ((hT).o_tokens).s rfl (rX10_refuse (t + 2) ((hT).o_tokens)) rfl (Nat.le_of_ble_eq_true rfl) ⟨Nat.le_of_ble_eq_true rfl, Nat.le_of_ble_eq_true rfl⟩ (Nat.le_of_ble_eq_true rfl) dX4_readOldName_15) rfl (fun r5 => ?_)
    exact tj_zret rfl (nar_b2i _) rfl (Nat.le_of_ble_eq_true rfl) (Nat.le_of_ble_eq_true rfl) dX4_readOldName_18

theorem dX4_readNumber_0 : decode cX4_readNumber 0 = .ok (.aload_n 0, 1) := by decide +kernel
theorem dX4_readNumber_1 : decode cX4_readNumber 1 = .ok (.getfield 22, 3) := by decide +kernel
theorem dX4_readNumber_4 : decode cX4_readNumber 4 = .ok (.iconst 4, 1) := by decide +kernel
theorem dX4_readNumber_5 : decode cX4_readNumber 5 = .ok (.invokevirtual 57, 3) := by decide +kernel
theorem dX4_readNumber_8 : decode cX4_readNumber 8 = .ok (.ifCond .ne 11, 3) := by decide +kernel
theorem dX4_readNumber_11 : decode cX4_readNumber 11 = .ok (.aload_n 0, 1) := by decide +kernel
theorem dX4_readNumber_12 : decode cX4_readNumber 12 = .ok (.getfield 22, 3) := by decide +kernel
theorem dX4_readNumber_15 : decode cX4_readNumber 15 = .ok (.invokevirtual 71, 3) := by decide +kernel
theorem dX4_readNumber_18 : decode cX4_readNumber 18 = .ok (.ireturn, 1) := by decide +kernel
theorem dX4_readNumber_19 : decode cX4_readNumber 19 = .ok (.aload_n 0, 1) := by decide +kernel
theorem dX4_readNumber_20 : decode cX4_readNumber 20 = .ok (.aload_n 0, 1) := by decide +kernel
theorem dX4_readNumber_21 : decode cX4_readNumber 21 = .ok (.getfield 22, 3) := by decide +kernel
theorem dX4_readNumber_24 : decode cX4_readNumber 24 = .ok (.invokevirtual 75, 3) := by decide +kernel
theorem dX4_readNumber_27 : decode cX4_readNumber 27 = .ok (.putfield 47, 3) := by decide +kernel
theorem dX4_readNumber_30 : decode cX4_readNumber 30 = .ok (.aload_n 0, 1) := by decide +kernel
theorem dX4_readNumber_31 : decode cX4_readNumber 31 = .ok (.getfield 47, 3) := by decide +kernel
theorem dX4_readNumber_34 : decode cX4_readNumber 34 = .ok (.iload_n 1, 1) := by decide +kernel
theorem dX4_readNumber_35 : decode cX4_readNumber 35 = .ok (.if_icmp .lt 11, 3) := by decide +kernel
theorem dX4_readNumber_38 : decode cX4_readNumber 38 = .ok (.aload_n 0, 1) := by decide +kernel
theorem dX4_readNumber_39 : decode cX4_readNumber 39 = .ok (.getfield 47, 3) := by decide +kernel
theorem dX4_readNumber_42 : decode cX4_readNumber 42 = .ok (.iload_n 2, 1) := by decide +kernel
theorem dX4_readNumber_43 : decode cX4_readNumber 43 = .ok (.if_icmp .le 14, 3) := by decide +kernel
theorem dX4_readNumber_46 : decode cX4_readNumber 46 = .ok (.aload_n 0, 1) := by decide +kernel
theorem dX4_readNumber_47 : decode cX4_readNumber 47 = .ok (.getfield 22, 3) := by decide +kernel
theorem dX4_readNumber_50 : decode cX4_readNumber 50 = .ok (.iconst 4, 1) := by decide +kernel
theorem dX4_readNumber_51 : decode cX4_readNumber 51 = .ok (.invokevirtual 170, 3) := by decide +kernel
theorem dX4_readNumber_54 : decode cX4_readNumber 54 = .ok (.ifCond .eq 7, 3) := by decide +kernel
theorem dX4_readNumber_57 : decode cX4_readNumber 57 = .ok (.iconst 1, 1) := by decide +kernel
theorem dX4_readNumber_58 : decode cX4_readNumber 58 = .ok (.goto 4, 3) := by decide +kernel
theorem dX4_readNumber_61 : decode cX4_readNumber 61 = .ok (.iconst 0, 1) := by decide +kernel
theorem dX4_readNumber_62 : decode cX4_readNumber 62 = .ok (.ireturn, 1) := by decide +kernel
theorem wi_RX4_75 : Iv RX4 75 yX10_number cX10_number 1 (some .int) 0 := ⟨tbm 854 (by decide +kernel) (by decide +kernel), wm_X10_number⟩
def mX4_readNumber (t : Nat) (p1 : Int32) (p2 : Int32) (σ : St_) : Option (Bool × St_) :=
 ((mX10_isSort (t + 2) (4 : Int32) σ).bind fun r1 =>
 (if r1 = true then
 ((mX10_number (t + 2) σ).bind fun r2 =>
 (bnd (sI σ t 9 r2) fun σ3 =>
 (bnd ((mX10_fail (t + 2) (4 : Int32) σ3).bind fun r6 =>
 (if r6.1 = true then
 (some (true, r6.2))
 else (some (false, r6.2)))) fun k4 =>
 (if (σ3.1 t 9) < p1 then
 (k4)
 else (if (σ3.1 t 9) ≤ p2 then
 (some (true, σ3))
 else (k4))))))
 else ((mX10_refuse (t + 2) σ).bind fun r7 =>
 (some (r7.1, r7.2)))))
set_option maxHeartbeats 4000000 in
theorem rX4_readNumber (t : Nat) (p1 : Int32) (p2 : Int32) (hT : LY4 sh P t) : Rj l D cA h0 ad yX4_readNumber cX4_readNumber 3 (some .boolean) false 4 0 0 (fun b => (some (.int (b2i b.1)), sh, P, b.2)) [.ref (h0 + t), .int p1, .int p2] sh P σ (mX4_readNumber t p1 p2 σ) := by
  rw [mX4_readNumber]
  refine Rj.of (by decide) (fun h => by cases h) (Nat.le_of_ble_eq_true rfl) ?_
  refine tj_lv0 (lv' := [(0, .ref (h0 + t)), (1, .int p1), (2, .int p2)]) rfl ?_
  refine tj_aload_n (q := 1) dX4_readNumber_0 rfl (i := 0) rfl (pl := 0) rfl ?_
  refine tj_getR (q := 4) (hT).s (hT).p_tokens fok_4_1 wl_RX4_22 dX4_readNumber_1 rfl ?_
  refine tj_iconst (q := 5) (v := 4) dX4_readNumber_4 rfl (by decide) ?_
  refine tj_callZp (q := 8) (kj_V (As := [.int (4 : Int32)]) (rest := []) (t := (t + 2)) wi_RX4_57 ((hT).o_tokens).s rfl (rX10_isSort (t + 2) (4 : Int32) ((hT).o_tokens)) rfl (Nat.le_of_ble_eq_true rfl) ⟨Nat.le_of_ble_eq_true rfl, Nat.le_of_ble_eq_true rfl⟩ (Nat.le_of_ble_eq_true rfl) dX4_readNumber_5) rfl (fun r1 => ?_)
  refine tj_bnz (tgt := 19) (q := 11) dX4_readNumber_8 (by decide) rfl ?_ ?_
  · refine tj_aload_n (q := 20) dX4_readNumber_19 rfl (i := 0) rfl (pl := 0) rfl ?_
    refine tj_aload_n (q := 21) dX4_readNumber_20 rfl (i := 0) rfl (pl := 0) rfl ?_
    refine tj_getR (q := 24) (hT).s (hT).p_tokens fok_4_1 wl_RX4_22 dX4_readNumber_21 rfl ?_
    refine tj_callIp (q := 27) (kj_V (As := []) (rest := [.ref (h0 + t)]) (t := (t + 2)) wi_RX4_75 ((hT).o_tokens).s rfl (rX10_number (t + 2) ((hT).o_tokens)) rfl (Nat.le_of_ble_eq_true rfl) ⟨Nat.le_of_ble_eq_true rfl, Nat.le_of_ble_eq_true rfl⟩ (Nat.le_of_ble_eq_true rfl) dX4_readNumber_24) rfl (fun r2 => ?_)
    refine tj_putI (q := 30) (hT).s fok_4_9 tok_4 fpk_4_9 wl_RX4_47 dX4_readNumber_27 rfl (fun σ3 => ?_)
    refine tj_aload_n (q := 31) dX4_readNumber_30 rfl (i := 0) rfl (pl := 0) rfl ?_
    refine tj_getI (q := 34) (hT).s fok_4_9 wl_RX4_47 dX4_readNumber_31 rfl ?_
    refine tj_iload_n (q := 35) dX4_readNumber_34 rfl (i := 1) rfl (pl := 1) rfl ?_
    refine tj_bnd (fun k4 => Tj l D cA h0 ad RX4 cX4_readNumber 3 (some .boolean) false 4 0 0 (fun b => (some (.int (b2i b.1)), sh, P, b.2)) 0 0 sh P σ3 46 [(0, .ref (h0 + t))] [] k4) ?_ (fun k4 hk5 => ?_)
    · refine tj_aload_n (q := 47) dX4_readNumber_46 rfl (i := 0) rfl (pl := 0) rfl ?_
      refine tj_getR (q := 50) (hT).s (hT).p_tokens fok_4_1 wl_RX4_22 dX4_readNumber_47 rfl ?_
      refine tj_iconst (q := 51) (v := 4) dX4_readNumber_50 rfl (by decide) ?_
      refine tj_callZ (q := 54) (kj_V (As := [.int (4 : Int32)]) (rest := []) (t := (t + 2)) wi_RX4_170 ((hT).o_tokens).s rfl (rX10_fail (t + 2) (4 : Int32) ((hT).o_tokens)) rfl (Nat.le_of_ble_eq_true rfl) ⟨Nat.le_of_ble_eq_true rfl, Nat.le_of_ble_eq_true rfl⟩ (Nat.le_of_ble_eq_true rfl) dX4_readNumber_51) rfl (fun r6 => ?_)
      refine tj_bz (tgt := 61) (q := 57) dX4_readNumber_54 (by decide) rfl ?_ ?_
      · refine tj_iconst (q := 58) (v := 1) dX4_readNumber_57 rfl (by decide) ?_
        refine tj_goto (q := 62) dX4_readNumber_58 (by decide) ?_
        exact tj_zret rfl (by decide) rfl (Nat.le_of_ble_eq_true rfl) (Nat.le_of_ble_eq_true rfl) dX4_readNumber_62
      · refine tj_iconst (q := 62) (v := 0) dX4_readNumber_61 rfl (by decide) ?_
        exact tj_zret rfl (by decide) rfl (Nat.le_of_ble_eq_true rfl) (Nat.le_of_ble_eq_true rfl) dX4_readNumber_62
    · refine tj_icmp_lt (tgt := 46) (q := 38) dX4_readNumber_35 (by decide) rfl ?_ ?_
      · refine tj_lv [0] rfl ?_
        exact hk5
      · refine tj_aload_n (q := 39) dX4_readNumber_38 rfl (i := 0) rfl (pl := 0) rfl ?_
        refine tj_getI (q := 42) (hT).s fok_4_9 wl_RX4_47 dX4_readNumber_39 rfl ?_
        refine tj_iload_n (q := 43) dX4_readNumber_42 rfl (i := 2) rfl (pl := 2) rfl ?_
        refine tj_icmp_le (tgt := 57) (q := 46) dX4_readNumber_43 (by decide) rfl ?_ ?_
        · refine tj_iconst (q := 58) (v := 1) dX4_readNumber_57 rfl (by decide) ?_
          refine tj_goto (q := 62) dX4_readNumber_58 (by decide) ?_
          exact tj_zret rfl (by decide) rfl (Nat.le_of_ble_eq_true rfl) (Nat.le_of_ble_eq_true rfl) dX4_readNumber_62
        · refine tj_lv [0] rfl ?_
          exact hk5
  · refine tj_aload_n (q := 12) dX4_readNumber_11 rfl (i := 0) rfl (pl := 0) rfl ?_
    refine tj_getR (q := 15) (hT).s (hT).p_tokens fok_4_1 wl_RX4_22 dX4_readNumber_12 rfl ?_
    refine tj_callZ (q := 18) (kj_V (As := []) (rest := []) (t := (t + 2)) wi_RX4_71 ((hT).o_tokens).s rfl (rX10_refuse (t + 2) ((hT).o_tokens)) rfl (Nat.le_of_ble_eq_true rfl) ⟨Nat.le_of_ble_eq_true rfl, Nat.le_of_ble_eq_true rfl⟩ (Nat.le_of_ble_eq_true rfl) dX4_readNumber_15) rfl (fun r7 => ?_)
    exact tj_zret rfl (nar_b2i _) rfl (Nat.le_of_ble_eq_true rfl) (Nat.le_of_ble_eq_true rfl) dX4_readNumber_18

theorem dX4_readNumberOf_0 : decode cX4_readNumberOf 0 = .ok (.aload_n 0, 1) := by decide +kernel
theorem dX4_readNumberOf_1 : decode cX4_readNumberOf 1 = .ok (.getfield 22, 3) := by decide +kernel
theorem dX4_readNumberOf_4 : decode cX4_readNumberOf 4 = .ok (.iload_n 1, 1) := by decide +kernel
theorem dX4_readNumberOf_5 : decode cX4_readNumberOf 5 = .ok (.invokevirtual 121, 3) := by decide +kernel
theorem dX4_readNumberOf_8 : decode cX4_readNumberOf 8 = .ok (.ifCond .eq 12, 3) := by decide +kernel
theorem dX4_readNumberOf_11 : decode cX4_readNumberOf 11 = .ok (.aload_n 0, 1) := by decide +kernel
theorem dX4_readNumberOf_12 : decode cX4_readNumberOf 12 = .ok (.iconst 0, 1) := by decide +kernel
theorem dX4_readNumberOf_13 : decode cX4_readNumberOf 13 = .ok (.iload_n 2, 1) := by decide +kernel
theorem dX4_readNumberOf_14 : decode cX4_readNumberOf 14 = .ok (.invokevirtual 104, 3) := by decide +kernel
theorem dX4_readNumberOf_17 : decode cX4_readNumberOf 17 = .ok (.ifCond .ne 5, 3) := by decide +kernel
theorem dX4_readNumberOf_20 : decode cX4_readNumberOf 20 = .ok (.iconst 0, 1) := by decide +kernel
theorem dX4_readNumberOf_21 : decode cX4_readNumberOf 21 = .ok (.ireturn, 1) := by decide +kernel
theorem dX4_readNumberOf_22 : decode cX4_readNumberOf 22 = .ok (.aload_n 0, 1) := by decide +kernel
theorem dX4_readNumberOf_23 : decode cX4_readNumberOf 23 = .ok (.getfield 22, 3) := by decide +kernel
theorem dX4_readNumberOf_26 : decode cX4_readNumberOf 26 = .ok (.invokevirtual 101, 3) := by decide +kernel
theorem dX4_readNumberOf_29 : decode cX4_readNumberOf 29 = .ok (.iconst 1, 1) := by decide +kernel
theorem dX4_readNumberOf_30 : decode cX4_readNumberOf 30 = .ok (.ireturn, 1) := by decide +kernel
theorem wm_X10_takeWord : Cond.instanceMethod yX10_takeWord ∈ TB ∧ Cond.selects yX10_takeWord.cls yX10_takeWord yX10_takeWord ∈ TB ∧ Cond.initialized yX10_takeWord.cls ∈ TB ∧ Cond.code yX10_takeWord cX10_takeWord 2 (some .boolean) ∈ TB ∧ (yX10_takeWord.cls ≠ "java/lang/invoke/MethodHandle" ∧ yX10_takeWord.cls ≠ "java/lang/invoke/VarHandle" ∧ (parseMethodDescriptor yX10_takeWord.desc).map (fun d => d.parameters.length) = some 1) ∧ 2 ≤ 21 := ⟨tbm 880 (by decide +kernel) (by decide +kernel), tbm 881 (by decide +kernel) (by decide +kernel), tbm 137 (by decide +kernel) (by decide +kernel), tbm 882 (by decide +kernel) (by decide +kernel), by decide +kernel, by decide⟩
theorem wi_RX4_121 : Iv RX4 121 yX10_takeWord cX10_takeWord 2 (some .boolean) 1 := ⟨tbm 879 (by decide +kernel) (by decide +kernel), wm_X10_takeWord⟩
theorem wm_X4_readNumber : Cond.instanceMethod yX4_readNumber ∈ TB ∧ Cond.selects yX4_readNumber.cls yX4_readNumber yX4_readNumber ∈ TB ∧ Cond.initialized yX4_readNumber.cls ∈ TB ∧ Cond.code yX4_readNumber cX4_readNumber 3 (some .boolean) ∈ TB ∧ (yX4_readNumber.cls ≠ "java/lang/invoke/MethodHandle" ∧ yX4_readNumber.cls ≠ "java/lang/invoke/VarHandle" ∧ (parseMethodDescriptor yX4_readNumber.desc).map (fun d => d.parameters.length) = some 2) ∧ 3 ≤ 21 := ⟨tbm 899 (by decide +kernel) (by decide +kernel), tbm 13 (by decide +kernel) (by decide +kernel), tbm 135 (by decide +kernel) (by decide +kernel), tbm 900 (by decide +kernel) (by decide +kernel), by decide +kernel, by decide⟩
theorem wi_RX4_104 : Iv RX4 104 yX4_readNumber cX4_readNumber 3 (some .boolean) 2 := ⟨tbm 897 (by decide +kernel) (by decide +kernel), wm_X4_readNumber⟩
def mX4_readNumberOf (t : Nat) (p1 : Int32) (p2 : Int32) (σ : St_) : Option (Bool × St_) :=
 ((mX10_takeWord (t + 2) p1 σ).bind fun r1 =>
 (if r1.1 = true then
 ((mX4_readNumber t (0 : Int32) p2 r1.2).bind fun r2 =>
 (if r2.1 = true then
 ((mX10_next (t + 2) r2.2).bind fun σ3 =>
 (some (true, σ3)))
 else (some (false, r2.2))))
 else (some (false, r1.2))))
set_option maxHeartbeats 4000000 in
theorem rX4_readNumberOf (t : Nat) (p1 : Int32) (p2 : Int32) (hT : LY4 sh P t) : Rj l D cA h0 ad yX4_readNumberOf cX4_readNumberOf 3 (some .boolean) false 5 0 0 (fun b => (some (.int (b2i b.1)), sh, P, b.2)) [.ref (h0 + t), .int p1, .int p2] sh P σ (mX4_readNumberOf t p1 p2 σ) := by
  rw [mX4_readNumberOf]
  refine Rj.of (by decide) (fun h => by cases h) (Nat.le_of_ble_eq_true rfl) ?_
  refine tj_lv0 (lv' := [(0, .ref (h0 + t)), (1, .int p1), (2, .int p2)]) rfl ?_
  refine tj_aload_n (q := 1) dX4_readNumberOf_0 rfl (i := 0) rfl (pl := 0) rfl ?_
  refine tj_getR (q := 4) (hT).s (hT).p_tokens fok_4_1 wl_RX4_22 dX4_readNumberOf_1 rfl ?_
  refine tj_iload_n (q := 5) dX4_readNumberOf_4 rfl (i := 1) rfl (pl := 1) rfl ?_
  refine tj_callZ (q := 8) (kj_V (As := [.int p1]) (rest := []) (t := (t + 2)) wi_RX4_121 ((hT).o_tokens).s rfl (rX10_takeWord (t + 2) p1 ((hT).o_tokens)) rfl (Nat.le_of_ble_eq_true rfl) ⟨Nat.le_of_ble_eq_true rfl, Nat.le_of_ble_eq_true rfl⟩ (Nat.le_of_ble_eq_true rfl) dX4_readNumberOf_5) rfl (fun r1 => ?_)
  refine tj_bz (tgt := 20) (q := 11) dX4_readNumberOf_8 (by decide) rfl ?_ ?_
  · refine tj_aload_n (q := 12) dX4_readNumberOf_11 rfl (i := 0) rfl (pl := 0) rfl ?_
    refine tj_iconst (q := 13) (v := 0) dX4_readNumberOf_12 rfl (by decide) ?_
    refine tj_iload_n (q := 14) dX4_readNumberOf_13 rfl (i := 2) rfl (pl := 2) rfl ?_
    refine tj_callZ (q := 17) (kj_V (As := [.int (0 : Int32), .int p2]) (rest := []) (t := t) wi_RX4_104 (hT).s rfl (rX4_readNumber t (0 : Int32) p2 (hT)) rfl (Nat.le_of_ble_eq_true rfl) ⟨Nat.le_of_ble_eq_true rfl, Nat.le_of_ble_eq_true rfl⟩ (Nat.le_of_ble_eq_true rfl) dX4_readNumberOf_14) rfl (fun r2 => ?_)
    refine tj_bnz (tgt := 22) (q := 20) dX4_readNumberOf_17 (by decide) rfl ?_ ?_
    · refine tj_aload_n (q := 23) dX4_readNumberOf_22 rfl (i := 0) rfl (pl := 0) rfl ?_
      refine tj_getR (q := 26) (hT).s (hT).p_tokens fok_4_1 wl_RX4_22 dX4_readNumberOf_23 rfl ?_
      refine tj_callV (q := 29) (kj_V (As := []) (rest := []) (t := (t + 2)) wi_RX4_101 ((hT).o_tokens).s rfl (rX10_next (t + 2) ((hT).o_tokens)) rfl (Nat.le_of_ble_eq_true rfl) ⟨Nat.le_of_ble_eq_true rfl, Nat.le_of_ble_eq_true rfl⟩ (Nat.le_of_ble_eq_true rfl) dX4_readNumberOf_26) rfl (fun σ3 => ?_)
      refine tj_iconst (q := 30) (v := 1) dX4_readNumberOf_29 rfl (by decide) ?_
      exact tj_zret rfl (by decide) rfl (Nat.le_of_ble_eq_true rfl) (Nat.le_of_ble_eq_true rfl) dX4_readNumberOf_30
    · refine tj_iconst (q := 21) (v := 0) dX4_readNumberOf_20 rfl (by decide) ?_
      exact tj_zret rfl (by decide) rfl (Nat.le_of_ble_eq_true rfl) (Nat.le_of_ble_eq_true rfl) dX4_readNumberOf_21
  · refine tj_iconst (q := 21) (v := 0) dX4_readNumberOf_20 rfl (by decide) ?_
    exact tj_zret rfl (by decide) rfl (Nat.le_of_ble_eq_true rfl) (Nat.le_of_ble_eq_true rfl) dX4_readNumberOf_21

theorem dX4_readThing_0 : decode cX4_readThing 0 = .ok (.aload_n 1, 1) := by decide +kernel
theorem dX4_readThing_1 : decode cX4_readThing 1 = .ok (.getfield 118, 3) := by decide +kernel
theorem dX4_readThing_4 : decode cX4_readThing 4 = .ok (.istore_n 2, 1) := by decide +kernel
theorem dX4_readThing_5 : decode cX4_readThing 5 = .ok (.iload_n 2, 1) := by decide +kernel
theorem dX4_readThing_6 : decode cX4_readThing 6 = .ok (.bipush 10, 2) := by decide +kernel
theorem dX4_readThing_8 : decode cX4_readThing 8 = .ok (.if_icmp .lt 11, 3) := by decide +kernel
theorem dX4_readThing_11 : decode cX4_readThing 11 = .ok (.aload_n 0, 1) := by decide +kernel
theorem dX4_readThing_12 : decode cX4_readThing 12 = .ok (.getfield 22, 3) := by decide +kernel
theorem dX4_readThing_15 : decode cX4_readThing 15 = .ok (.invokevirtual 71, 3) := by decide +kernel
theorem dX4_readThing_18 : decode cX4_readThing 18 = .ok (.ireturn, 1) := by decide +kernel
theorem dX4_readThing_19 : decode cX4_readThing 19 = .ok (.aload_n 0, 1) := by decide +kernel
theorem dX4_readThing_20 : decode cX4_readThing 20 = .ok (.getfield 22, 3) := by decide +kernel
theorem dX4_readThing_23 : decode cX4_readThing 23 = .ok (.invokevirtual 101, 3) := by decide +kernel
theorem dX4_readThing_26 : decode cX4_readThing 26 = .ok (.aload_n 0, 1) := by decide +kernel
theorem dX4_readThing_27 : decode cX4_readThing 27 = .ok (.aload_n 0, 1) := by decide +kernel
theorem dX4_readThing_28 : decode cX4_readThing 28 = .ok (.getfield 27, 3) := by decide +kernel
theorem dX4_readThing_31 : decode cX4_readThing 31 = .ok (.iload_n 2, 1) := by decide +kernel
theorem dX4_readThing_32 : decode cX4_readThing 32 = .ok (.invokevirtual 114, 3) := by decide +kernel
theorem dX4_readThing_35 : decode cX4_readThing 35 = .ok (.ifCond .eq 30, 3) := by decide +kernel
theorem dX4_readThing_38 : decode cX4_readThing 38 = .ok (.aload_n 0, 1) := by decide +kernel
theorem dX4_readThing_39 : decode cX4_readThing 39 = .ok (.getfield 22, 3) := by decide +kernel
theorem dX4_readThing_42 : decode cX4_readThing 42 = .ok (.bipush 7, 2) := by decide +kernel
theorem dX4_readThing_44 : decode cX4_readThing 44 = .ok (.invokevirtual 121, 3) := by decide +kernel
theorem dX4_readThing_47 : decode cX4_readThing 47 = .ok (.ifCond .eq 18, 3) := by decide +kernel
theorem dX4_readThing_50 : decode cX4_readThing 50 = .ok (.aload_n 0, 1) := by decide +kernel
theorem dX4_readThing_51 : decode cX4_readThing 51 = .ok (.aload_n 0, 1) := by decide +kernel
theorem dX4_readThing_52 : decode cX4_readThing 52 = .ok (.getfield 23, 3) := by decide +kernel
theorem dX4_readThing_55 : decode cX4_readThing 55 = .ok (.aload_n 1, 1) := by decide +kernel
theorem dX4_readThing_56 : decode cX4_readThing 56 = .ok (.getfield 111, 3) := by decide +kernel
theorem dX4_readThing_59 : decode cX4_readThing 59 = .ok (.invokevirtual 124, 3) := by decide +kernel
theorem dX4_readThing_62 : decode cX4_readThing 62 = .ok (.ifCond .ne 5, 3) := by decide +kernel
theorem dX4_readThing_65 : decode cX4_readThing 65 = .ok (.iconst 0, 1) := by decide +kernel
theorem dX4_readThing_66 : decode cX4_readThing 66 = .ok (.ireturn, 1) := by decide +kernel
theorem dX4_readThing_67 : decode cX4_readThing 67 = .ok (.aload_n 1, 1) := by decide +kernel
theorem dX4_readThing_68 : decode cX4_readThing 68 = .ok (.getfield 127, 3) := by decide +kernel
theorem dX4_readThing_71 : decode cX4_readThing 71 = .ok (.iload_n 2, 1) := by decide +kernel
theorem dX4_readThing_72 : decode cX4_readThing 72 = .ok (.aload_n 0, 1) := by decide +kernel
theorem dX4_readThing_73 : decode cX4_readThing 73 = .ok (.getfield 47, 3) := by decide +kernel
theorem dX4_readThing_76 : decode cX4_readThing 76 = .ok (.iastore, 1) := by decide +kernel
theorem dX4_readThing_77 : decode cX4_readThing 77 = .ok (.aload_n 0, 1) := by decide +kernel
theorem dX4_readThing_78 : decode cX4_readThing 78 = .ok (.getfield 22, 3) := by decide +kernel
theorem dX4_readThing_81 : decode cX4_readThing 81 = .ok (.invokevirtual 101, 3) := by decide +kernel
theorem dX4_readThing_84 : decode cX4_readThing 84 = .ok (.aload_n 0, 1) := by decide +kernel
theorem dX4_readThing_85 : decode cX4_readThing 85 = .ok (.bipush 8, 2) := by decide +kernel
theorem dX4_readThing_87 : decode cX4_readThing 87 = .ok (.bipush 99, 2) := by decide +kernel
theorem dX4_readThing_89 : decode cX4_readThing 89 = .ok (.invokevirtual 130, 3) := by decide +kernel
theorem dX4_readThing_92 : decode cX4_readThing 92 = .ok (.ifCond .ne 5, 3) := by decide +kernel
theorem dX4_readThing_95 : decode cX4_readThing 95 = .ok (.iconst 0, 1) := by decide +kernel
theorem dX4_readThing_96 : decode cX4_readThing 96 = .ok (.ireturn, 1) := by decide +kernel
theorem dX4_readThing_97 : decode cX4_readThing 97 = .ok (.aload_n 1, 1) := by decide +kernel
theorem dX4_readThing_98 : decode cX4_readThing 98 = .ok (.getfield 133, 3) := by decide +kernel
theorem dX4_readThing_101 : decode cX4_readThing 101 = .ok (.iload_n 2, 1) := by decide +kernel
theorem dX4_readThing_102 : decode cX4_readThing 102 = .ok (.aload_n 0, 1) := by decide +kernel
theorem dX4_readThing_103 : decode cX4_readThing 103 = .ok (.getfield 47, 3) := by decide +kernel
theorem dX4_readThing_106 : decode cX4_readThing 106 = .ok (.iastore, 1) := by decide +kernel
theorem dX4_readThing_107 : decode cX4_readThing 107 = .ok (.aload_n 0, 1) := by decide +kernel
theorem dX4_readThing_108 : decode cX4_readThing 108 = .ok (.bipush 9, 2) := by decide +kernel
theorem dX4_readThing_110 : decode cX4_readThing 110 = .ok (.bipush 99, 2) := by decide +kernel
theorem dX4_readThing_112 : decode cX4_readThing 112 = .ok (.invokevirtual 130, 3) := by decide +kernel
theorem dX4_readThing_115 : decode cX4_readThing 115 = .ok (.ifCond .ne 5, 3) := by decide +kernel
theorem dX4_readThing_118 : decode cX4_readThing 118 = .ok (.iconst 0, 1) := by decide +kernel
theorem dX4_readThing_119 : decode cX4_readThing 119 = .ok (.ireturn, 1) := by decide +kernel
theorem dX4_readThing_120 : decode cX4_readThing 120 = .ok (.aload_n 1, 1) := by decide +kernel
theorem dX4_readThing_121 : decode cX4_readThing 121 = .ok (.getfield 136, 3) := by decide +kernel
theorem dX4_readThing_124 : decode cX4_readThing 124 = .ok (.iload_n 2, 1) := by decide +kernel
theorem dX4_readThing_125 : decode cX4_readThing 125 = .ok (.aload_n 0, 1) := by decide +kernel
theorem dX4_readThing_126 : decode cX4_readThing 126 = .ok (.getfield 47, 3) := by decide +kernel
theorem dX4_readThing_129 : decode cX4_readThing 129 = .ok (.iastore, 1) := by decide +kernel
theorem dX4_readThing_130 : decode cX4_readThing 130 = .ok (.aload_n 1, 1) := by decide +kernel
theorem dX4_readThing_131 : decode cX4_readThing 131 = .ok (.dup, 1) := by decide +kernel
theorem dX4_readThing_132 : decode cX4_readThing 132 = .ok (.getfield 118, 3) := by decide +kernel
theorem dX4_readThing_135 : decode cX4_readThing 135 = .ok (.iconst 1, 1) := by decide +kernel
theorem dX4_readThing_136 : decode cX4_readThing 136 = .ok (.iadd, 1) := by decide +kernel
theorem dX4_readThing_137 : decode cX4_readThing 137 = .ok (.putfield 118, 3) := by decide +kernel
theorem dX4_readThing_140 : decode cX4_readThing 140 = .ok (.iconst 1, 1) := by decide +kernel
theorem dX4_readThing_141 : decode cX4_readThing 141 = .ok (.ireturn, 1) := by decide +kernel
theorem wl_RX4_118 : Cond.fieldLink RX4 118 (TX1 2).1 (TX1 2).2.1 (TX1 2).2.2.1 ∈ TB := tbm 300 (by decide +kernel) (by decide +kernel)
theorem wl_RX4_27 : Cond.fieldLink RX4 27 (TX4 3).1 (TX4 3).2.1 (TX4 3).2.2.1 ∈ TB := tbm 226 (by decide +kernel) (by decide +kernel)
theorem wm_X4_readOldName : Cond.instanceMethod yX4_readOldName ∈ TB ∧ Cond.selects yX4_readOldName.cls yX4_readOldName yX4_readOldName ∈ TB ∧ Cond.initialized yX4_readOldName.cls ∈ TB ∧ Cond.code yX4_readOldName cX4_readOldName 3 (some .boolean) ∈ TB ∧ (yX4_readOldName.cls ≠ "java/lang/invoke/MethodHandle" ∧ yX4_readOldName.cls ≠ "java/lang/invoke/VarHandle" ∧ (parseMethodDescriptor yX4_readOldName.desc).map (fun d => d.parameters.length) = some 2) ∧ 3 ≤ 21 := ⟨tbm 891 (by decide +kernel) (by decide +kernel), tbm 11 (by decide +kernel) (by decide +kernel), tbm 135 (by decide +kernel) (by decide +kernel), tbm 892 (by decide +kernel) (by decide +kernel), by decide +kernel, by decide⟩
theorem wi_RX4_124 : Iv RX4 124 yX4_readOldName cX4_readOldName 3 (some .boolean) 2 := ⟨tbm 889 (by decide +kernel) (by decide +kernel), wm_X4_readOldName⟩
theorem wl_RX4_127 : Cond.fieldLink RX4 127 (TX1 5).1 (TX1 5).2.1 (TX1 5).2.2.1 ∈ TB := tbm 312 (by decide +kernel) (by decide +kernel)
theorem wm_X4_readNumberOf : Cond.instanceMethod yX4_readNumberOf ∈ TB ∧ Cond.selects yX4_readNumberOf.cls yX4_readNumberOf yX4_readNumberOf ∈ TB ∧ Cond.initialized yX4_readNumberOf.cls ∈ TB ∧ Cond.code yX4_readNumberOf cX4_readNumberOf 3 (some .boolean) ∈ TB ∧ (yX4_readNumberOf.cls ≠ "java/lang/invoke/MethodHandle" ∧ yX4_readNumberOf.cls ≠ "java/lang/invoke/VarHandle" ∧ (parseMethodDescriptor yX4_readNumberOf.desc).map (fun d => d.parameters.length) = some 2) ∧ 3 ≤ 21 := ⟨tbm 895 (by decide +kernel) (by decide +kernel), tbm 12 (by decide +kernel) (by decide +kernel), tbm 135 (by decide +kernel) (by decide +kernel), tbm 896 (by decide +kernel) (by decide +kernel), by decide +kernel, by decide⟩
theorem wi_RX4_130 : Iv RX4 130 yX4_readNumberOf cX4_readNumberOf 3 (some .boolean) 2 := ⟨tbm 893 (by decide +kernel) (by decide +kernel), wm_X4_readNumberOf⟩
theorem wl_RX4_133 : Cond.fieldLink RX4 133 (TX1 6).1 (TX1 6).2.1 (TX1 6).2.2.1 ∈ TB := tbm 316 (by decide +kernel) (by decide +kernel)
theorem wl_RX4_136 : Cond.fieldLink RX4 136 (TX1 7).1 (TX1 7).2.1 (TX1 7).2.2.1 ∈ TB := tbm 319 (by decide +kernel) (by decide +kernel)
def mX4_readThing (t : Nat) (p1 : Nat) (σ : St_) : Option (Bool × St_) :=
 (bnd (σ.1 p1 2) fun v1 =>
 (if v1 < (10 : Int32) then
 ((mX10_next (t + 2) σ).bind fun σ2 =>
 ((mX4_readNewName t (t + 8) 10 v1 σ2).bind fun r3 =>
 (if r3.1 = true then
 ((mX10_takeWord (t + 2) (7 : Int32) r3.2).bind fun r4 =>
 (if r4.1 = true then
 ((mX4_readOldName t (t + 7) 6 (r4.2.1 p1 1) r4.2).bind fun r5 =>
 (if r5.1 = true then
 (if bin v1 10 = true then bnd (sI r5.2 (p1 + 1) v1.toNatClampNeg (r5.2.1 t 9)) fun σ6 =>
 ((mX10_next (t + 2) σ6).bind fun σ7 =>
 ((mX4_readNumberOf t (8 : Int32) (99 : Int32) σ7).bind fun r8 =>
 (if r8.1 = true then
 (if bin v1 10 = true then bnd (sI r8.2 (p1 + 2) v1.toNatClampNeg (r8.2.1 t 9)) fun σ9 =>
 ((mX4_readNumberOf t (9 : Int32) (99 : Int32) σ9).bind fun r10 =>
 (if r10.1 = true then
 (if bin v1 10 = true then bnd (sI r10.2 (p1 + 3) v1.toNatClampNeg (r10.2.1 t 9)) fun σ11 =>
 (bnd (sI σ11 p1 2 ((σ11.1 p1 2) + (1 : Int32))) fun σ12 =>
 (some (true, σ12)))
 else none)
 else (some (false, r10.2))))
 else none)
 else (some (false, r8.2)))))
 else none)
 else (some (false, r5.2))))
 else (some (false, r4.2))))
 else (some (false, r3.2)))))
 else ((mX10_refuse (t + 2) σ).bind fun r13 =>
 (some (r13.1, r13.2)))))
set_option maxHeartbeats 4000000 in
theorem rX4_readThing (t : Nat) (p1 : Nat) (hT : LY4 sh P t) (hp1 : LY1 sh P p1) : Rj l D cA h0 ad yX4_readThing cX4_readThing 3 (some .boolean) false 6 0 0 (fun b => (some (.int (b2i b.1)), sh, P, b.2)) [.ref (h0 + t), .ref (h0 + p1)] sh P σ (mX4_readThing t p1 σ) := by
  rw [mX4_readThing]
  refine Rj.of (by decide) (fun h => by cases h) (Nat.le_of_ble_eq_true rfl) ?_
  refine tj_lv0 (lv' := [(0, .ref (h0 + t)), (1, .ref (h0 + p1))]) rfl ?_
  refine tj_aload_n (q := 1) dX4_readThing_0 rfl (i := 1) rfl (pl := 1) rfl ?_
  refine tj_getI (q := 4) (hp1).s fok_1_2 wl_RX4_118 dX4_readThing_1 rfl ?_
  refine tj_topI (fun v1 => ?_)
  refine tj_istore_n (q := 5) dX4_readThing_4 rfl (i := 2) rfl (by decide) rfl ?_
  refine tj_iload_n (q := 6) dX4_readThing_5 rfl (i := 2) rfl (pl := 0) rfl ?_
  refine tj_bipush (q := 8) (v := 10) dX4_readThing_6 rfl (by decide) ?_
  refine tj_icmp_lt (tgt := 19) (q := 11) dX4_readThing_8 (by decide) rfl ?_ ?_
  · refine tj_aload_n (q := 20) dX4_readThing_19 rfl (i := 0) rfl (pl := 1) rfl ?_
    refine tj_getR (q := 23) (hT).s (hT).p_tokens fok_4_1 wl_RX4_22 dX4_readThing_20 rfl ?_
    refine tj_callV (q := 26) (kj_V (As := []) (rest := []) (t := (t + 2)) wi_RX4_101 ((hT).o_tokens).s rfl (rX10_next (t + 2) ((hT).o_tokens)) rfl (Nat.le_of_ble_eq_true rfl) ⟨Nat.le_of_ble_eq_true rfl, Nat.le_of_ble_eq_true rfl⟩ (Nat.le_of_ble_eq_true rfl) dX4_readThing_23) rfl (fun σ2 => ?_)
    refine tj_aload_n (q := 27) dX4_readThing_26 rfl (i := 0) rfl (pl := 1) rfl ?_
    refine tj_aload_n (q := 28) dX4_readThing_27 rfl (i := 0) rfl (pl := 1) rfl ?_
    refine tj_getR (q := 31) (hT).s (hT).p_thingNames fok_4_3 wl_RX4_27 dX4_readThing_28 rfl ?_
    refine tj_iload_n (q := 32) dX4_readThing_31 rfl (i := 2) rfl (pl := 0) rfl ?_
    refine tj_callZ (q := 35) (kj_V (As := [.ref (h0 + (t + 8)), .int v1]) (rest := []) (t := t) wi_RX4_114 (hT).s rfl (rX4_readNewName t (t + 8) 10 v1 (hT) ((hT).s_thingNames)) rfl (Nat.le_of_ble_eq_true rfl) ⟨Nat.le_of_ble_eq_true rfl, Nat.le_of_ble_eq_true rfl⟩ (Nat.le_of_ble_eq_true rfl) dX4_readThing_32) rfl (fun r3 => ?_)
    refine tj_bz (tgt := 65) (q := 38) dX4_readThing_35 (by decide) rfl ?_ ?_
    · refine tj_aload_n (q := 39) dX4_readThing_38 rfl (i := 0) rfl (pl := 1) rfl ?_
      refine tj_getR (q := 42) (hT).s (hT).p_tokens fok_4_1 wl_RX4_22 dX4_readThing_39 rfl ?_
      refine tj_bipush (q := 44) (v := 7) dX4_readThing_42 rfl (by decide) ?_
      refine tj_callZ (q := 47) (kj_V (As := [.int (7 : Int32)]) (rest := []) (t := (t + 2)) wi_RX4_121 ((hT).o_tokens).s rfl (rX10_takeWord (t + 2) (7 : Int32) ((hT).o_tokens)) rfl (Nat.le_of_ble_eq_true rfl) ⟨Nat.le_of_ble_eq_true rfl, Nat.le_of_ble_eq_true rfl⟩ (Nat.le_of_ble_eq_true rfl) dX4_readThing_44) rfl (fun r4 => ?_)
      refine tj_bz (tgt := 65) (q := 50) dX4_readThing_47 (by decide) rfl ?_ ?_
      · refine tj_aload_n (q := 51) dX4_readThing_50 rfl (i := 0) rfl (pl := 1) rfl ?_
        refine tj_aload_n (q := 52) dX4_readThing_51 rfl (i := 0) rfl (pl := 1) rfl ?_
        refine tj_getR (q := 55) (hT).s (hT).p_kindNames fok_4_2 wl_RX4_23 dX4_readThing_52 rfl ?_
        refine tj_aload_n (q := 56) dX4_readThing_55 rfl (i := 1) rfl (pl := 2) rfl ?_
        refine tj_getI (q := 59) (hp1).s fok_1_1 wl_RX4_111 dX4_readThing_56 rfl ?_
        refine tj_callZ (q := 62) (kj_V (As := [.ref (h0 + (t + 7)), .int (r4.2.1 p1 1)]) (rest := []) (t := t) wi_RX4_124 (hT).s rfl (rX4_readOldName t (t + 7) 6 (r4.2.1 p1 1) (hT) ((hT).s_kindNames)) rfl (Nat.le_of_ble_eq_true rfl) ⟨Nat.le_of_ble_eq_true rfl, Nat.le_of_ble_eq_true rfl⟩ (Nat.le_of_ble_eq_true rfl) dX4_readThing_59) rfl (fun r5 => ?_)
        refine tj_bnz (tgt := 67) (q := 65) dX4_readThing_62 (by decide) rfl ?_ ?_
        · refine tj_aload_n (q := 68) dX4_readThing_67 rfl (i := 1) rfl (pl := 2) rfl ?_
          refine tj_getR (q := 71) (hp1).s (hp1).p_kindOf fok_1_5 wl_RX4_127 dX4_readThing_68 rfl ?_
          refine tj_iload_n (q := 72) dX4_readThing_71 rfl (i := 2) rfl (pl := 0) rfl ?_
          refine tj_aload_n (q := 73) dX4_readThing_72 rfl (i := 0) rfl (pl := 1) rfl ?_
          refine tj_getI (q := 76) (hT).s fok_4_9 wl_RX4_47 dX4_readThing_73 rfl ?_
          refine tj_iastore (q := 77) (hp1).s_kindOf dX4_readThing_76 rfl (fun σ6 => ?_)
          refine tj_aload_n (q := 78) dX4_readThing_77 rfl (i := 0) rfl (pl := 1) rfl ?_
          refine tj_getR (q := 81) (hT).s (hT).p_tokens fok_4_1 wl_RX4_22 dX4_readThing_78 rfl ?_
          refine tj_callV (q := 84) (kj_V (As := []) (rest := []) (t := (t + 2)) wi_RX4_101 ((hT).o_tokens).s rfl (rX10_next (t + 2) ((hT).o_tokens)) rfl (Nat.le_of_ble_eq_true rfl) ⟨Nat.le_of_ble_eq_true rfl, Nat.le_of_ble_eq_true rfl⟩ (Nat.le_of_ble_eq_true rfl) dX4_readThing_81) rfl (fun σ7 => ?_)
          refine tj_aload_n (q := 85) dX4_readThing_84 rfl (i := 0) rfl (pl := 1) rfl ?_
          refine tj_bipush (q := 87) (v := 8) dX4_readThing_85 rfl (by decide) ?_
          refine tj_bipush (q := 89) (v := 99) dX4_readThing_87 rfl (by decide) ?_
          refine tj_callZ (q := 92) (kj_V (As := [.int (8 : Int32), .int (99 : Int32)]) (rest := []) (t := t) wi_RX4_130 (hT).s rfl (rX4_readNumberOf t (8 : Int32) (99 : Int32) (hT)) rfl (Nat.le_of_ble_eq_true rfl) ⟨Nat.le_of_ble_eq_true rfl, Nat.le_of_ble_eq_true rfl⟩ (Nat.le_of_ble_eq_true rfl) dX4_readThing_89) rfl (fun r8 => ?_)
          refine tj_bnz (tgt := 97) (q := 95) dX4_readThing_92 (by decide) rfl ?_ ?_
          · refine tj_aload_n (q := 98) dX4_readThing_97 rfl (i := 1) rfl (pl := 2) rfl ?_
            refine tj_getR (q := 101) (hp1).s (hp1).p_weight fok_1_6 wl_RX4_133 dX4_readThing_98 rfl ?_
            refine tj_iload_n (q := 102) dX4_readThing_101 rfl (i := 2) rfl (pl := 0) rfl ?_
            refine tj_aload_n (q := 103) dX4_readThing_102 rfl (i := 0) rfl (pl := 1) rfl ?_
            refine tj_getI (q := 106) (hT).s fok_4_9 wl_RX4_47 dX4_readThing_103 rfl ?_
            refine tj_iastore (q := 107) (hp1).s_weight dX4_readThing_106 rfl (fun σ9 => ?_)
            refine tj_aload_n (q := 108) dX4_readThing_107 rfl (i := 0) rfl (pl := 1) rfl ?_
            refine tj_bipush (q := 110) (v := 9) dX4_readThing_108 rfl (by decide) ?_
            refine tj_bipush (q := 112) (v := 99) dX4_readThing_110 rfl (by decide) ?_
            refine tj_callZ (q := 115) (kj_V (As := [.int (9 : Int32), .int (99 : Int32)]) (rest := []) (t := t) wi_RX4_130 (hT).s rfl (rX4_readNumberOf t (9 : Int32) (99 : Int32) (hT)) rfl (Nat.le_of_ble_eq_true rfl) ⟨Nat.le_of_ble_eq_true rfl, Nat.le_of_ble_eq_true rfl⟩ (Nat.le_of_ble_eq_true rfl) dX4_readThing_112) rfl (fun r10 => ?_)
            refine tj_bnz (tgt := 120) (q := 118) dX4_readThing_115 (by decide) rfl ?_ ?_
            · refine tj_aload_n (q := 121) dX4_readThing_120 rfl (i := 1) rfl (pl := 2) rfl ?_
              refine tj_getR (q := 124) (hp1).s (hp1).p_price fok_1_7 wl_RX4_136 dX4_readThing_121 rfl ?_
              refine tj_iload_n (q := 125) dX4_readThing_124 rfl (i := 2) rfl (pl := 0) rfl ?_
              refine tj_aload_n (q := 126) dX4_readThing_125 rfl (i := 0) rfl (pl := 1) rfl ?_
              refine tj_getI (q := 129) (hT).s fok_4_9 wl_RX4_47 dX4_readThing_126 rfl ?_
              refine tj_iastore (q := 130) (hp1).s_price dX4_readThing_129 rfl (fun σ11 => ?_)
              refine tj_aload_n (q := 131) dX4_readThing_130 rfl (i := 1) rfl (pl := 2) rfl ?_
              refine tj_dup (q := 132) dX4_readThing_131 rfl rfl ?_
              refine tj_getI (q := 135) (hp1).s fok_1_2 wl_RX4_118 dX4_readThing_132 rfl ?_
              refine tj_iconst (q := 136) (v := 1) dX4_readThing_135 rfl (by decide) ?_
              refine tj_iadd (q := 137) dX4_readThing_136 rfl ?_
              refine tj_putI (q := 140) (hp1).s fok_1_2 tok_1 fpk_1_2 wl_RX4_118 dX4_readThing_137 rfl (fun σ12 => ?_)
              refine tj_iconst (q := 141) (v := 1) dX4_readThing_140 rfl (by decide) ?_
              exact tj_zret rfl (by decide) rfl (Nat.le_of_ble_eq_true rfl) (Nat.le_of_ble_eq_true rfl) dX4_readThing_141
            · refine tj_iconst (q := 119) (v := 0) dX4_readThing_118 rfl (by decide) ?_
              exact tj_zret rfl (by decide) rfl (Nat.le_of_ble_eq_true rfl) (Nat.le_of_ble_eq_true rfl) dX4_readThing_119
          · refine tj_iconst (q := 96) (v := 0) dX4_readThing_95 rfl (by decide) ?_
            exact tj_zret rfl (by decide) rfl (Nat.le_of_ble_eq_true rfl) (Nat.le_of_ble_eq_true rfl) dX4_readThing_96
        · refine tj_iconst (q := 66) (v := 0) dX4_readThing_65 rfl (by decide) ?_
          exact tj_zret rfl (by decide) rfl (Nat.le_of_ble_eq_true rfl) (Nat.le_of_ble_eq_true rfl) dX4_readThing_66
      · refine tj_iconst (q := 66) (v := 0) dX4_readThing_65 rfl (by decide) ?_
        exact tj_zret rfl (by decide) rfl (Nat.le_of_ble_eq_true rfl) (Nat.le_of_ble_eq_true rfl) dX4_readThing_66
    · refine tj_iconst (q := 66) (v := 0) dX4_readThing_65 rfl (by decide) ?_
      exact tj_zret rfl (by decide) rfl (Nat.le_of_ble_eq_true rfl) (Nat.le_of_ble_eq_true rfl) dX4_readThing_66
  · refine tj_aload_n (q := 12) dX4_readThing_11 rfl (i := 0) rfl (pl := 1) rfl ?_
    refine tj_getR (q := 15) (hT).s (hT).p_tokens fok_4_1 wl_RX4_22 dX4_readThing_12 rfl ?_
    refine tj_callZ (q := 18) (kj_V (As := []) (rest := []) (t := (t + 2)) wi_RX4_71 ((hT).o_tokens).s rfl (rX10_refuse (t + 2) ((hT).o_tokens)) rfl (Nat.le_of_ble_eq_true rfl) ⟨Nat.le_of_ble_eq_true rfl, Nat.le_of_ble_eq_true rfl⟩ (Nat.le_of_ble_eq_true rfl) dX4_readThing_15) rfl (fun r13 => ?_)
    exact tj_zret rfl (nar_b2i _) rfl (Nat.le_of_ble_eq_true rfl) (Nat.le_of_ble_eq_true rfl) dX4_readThing_18

theorem dX4_readHolder_0 : decode cX4_readHolder 0 = .ok (.aload_n 0, 1) := by decide +kernel
theorem dX4_readHolder_1 : decode cX4_readHolder 1 = .ok (.getfield 37, 3) := by decide +kernel
theorem dX4_readHolder_4 : decode cX4_readHolder 4 = .ok (.bipush 9, 2) := by decide +kernel
theorem dX4_readHolder_6 : decode cX4_readHolder 6 = .ok (.if_icmp .ge 18, 3) := by decide +kernel
theorem dX4_readHolder_9 : decode cX4_readHolder 9 = .ok (.aload_n 0, 1) := by decide +kernel
theorem dX4_readHolder_10 : decode cX4_readHolder 10 = .ok (.aload_n 0, 1) := by decide +kernel
theorem dX4_readHolder_11 : decode cX4_readHolder 11 = .ok (.getfield 30, 3) := by decide +kernel
theorem dX4_readHolder_14 : decode cX4_readHolder 14 = .ok (.aload_n 0, 1) := by decide +kernel
theorem dX4_readHolder_15 : decode cX4_readHolder 15 = .ok (.getfield 37, 3) := by decide +kernel
theorem dX4_readHolder_18 : decode cX4_readHolder 18 = .ok (.invokevirtual 114, 3) := by decide +kernel
theorem dX4_readHolder_21 : decode cX4_readHolder 21 = .ok (.ifCond .ne 5, 3) := by decide +kernel
theorem dX4_readHolder_24 : decode cX4_readHolder 24 = .ok (.iconst 0, 1) := by decide +kernel
theorem dX4_readHolder_25 : decode cX4_readHolder 25 = .ok (.ireturn, 1) := by decide +kernel
theorem dX4_readHolder_26 : decode cX4_readHolder 26 = .ok (.aload_n 0, 1) := by decide +kernel
theorem dX4_readHolder_27 : decode cX4_readHolder 27 = .ok (.getfield 33, 3) := by decide +kernel
theorem dX4_readHolder_30 : decode cX4_readHolder 30 = .ok (.aload_n 0, 1) := by decide +kernel
theorem dX4_readHolder_31 : decode cX4_readHolder 31 = .ok (.getfield 37, 3) := by decide +kernel
theorem dX4_readHolder_34 : decode cX4_readHolder 34 = .ok (.iload_n 1, 1) := by decide +kernel
theorem dX4_readHolder_35 : decode cX4_readHolder 35 = .ok (.iastore, 1) := by decide +kernel
theorem dX4_readHolder_36 : decode cX4_readHolder 36 = .ok (.aload_n 0, 1) := by decide +kernel
theorem dX4_readHolder_37 : decode cX4_readHolder 37 = .ok (.dup, 1) := by decide +kernel
theorem dX4_readHolder_38 : decode cX4_readHolder 38 = .ok (.getfield 37, 3) := by decide +kernel
theorem dX4_readHolder_41 : decode cX4_readHolder 41 = .ok (.iconst 1, 1) := by decide +kernel
theorem dX4_readHolder_42 : decode cX4_readHolder 42 = .ok (.iadd, 1) := by decide +kernel
theorem dX4_readHolder_43 : decode cX4_readHolder 43 = .ok (.putfield 37, 3) := by decide +kernel
theorem dX4_readHolder_46 : decode cX4_readHolder 46 = .ok (.iconst 1, 1) := by decide +kernel
theorem dX4_readHolder_47 : decode cX4_readHolder 47 = .ok (.ireturn, 1) := by decide +kernel
theorem wl_RX4_37 : Cond.fieldLink RX4 37 (TX4 6).1 (TX4 6).2.1 (TX4 6).2.2.1 ∈ TB := tbm 229 (by decide +kernel) (by decide +kernel)
theorem wl_RX4_30 : Cond.fieldLink RX4 30 (TX4 4).1 (TX4 4).2.1 (TX4 4).2.2.1 ∈ TB := tbm 227 (by decide +kernel) (by decide +kernel)
theorem wl_RX4_33 : Cond.fieldLink RX4 33 (TX4 5).1 (TX4 5).2.1 (TX4 5).2.2.1 ∈ TB := tbm 228 (by decide +kernel) (by decide +kernel)
def mX4_readHolder (t : Nat) (p1 : Int32) (σ : St_) : Option (Bool × St_) :=
 (if (9 : Int32) ≤ (σ.1 t 6) then
 (some (false, σ))
 else ((mX4_readNewName t (t + 9) 9 (σ.1 t 6) σ).bind fun r1 =>
 (if r1.1 = true then
 (bnd (r1.2.1 t 6) fun v2 =>
 (if bin v2 9 = true then bnd (sI r1.2 (t + 10) v2.toNatClampNeg p1) fun σ3 =>
 (bnd (sI σ3 t 6 ((σ3.1 t 6) + (1 : Int32))) fun σ4 =>
 (some (true, σ4)))
 else none))
 else (some (false, r1.2)))))
set_option maxHeartbeats 4000000 in
theorem rX4_readHolder (t : Nat) (p1 : Int32) (hT : LY4 sh P t) : Rj l D cA h0 ad yX4_readHolder cX4_readHolder 2 (some .boolean) false 5 0 0 (fun b => (some (.int (b2i b.1)), sh, P, b.2)) [.ref (h0 + t), .int p1] sh P σ (mX4_readHolder t p1 σ) := by
  rw [mX4_readHolder]
  refine Rj.of (by decide) (fun h => by cases h) (Nat.le_of_ble_eq_true rfl) ?_
  refine tj_lv0 (lv' := [(0, .ref (h0 + t)), (1, .int p1)]) rfl ?_
  refine tj_aload_n (q := 1) dX4_readHolder_0 rfl (i := 0) rfl (pl := 0) rfl ?_
  refine tj_getI (q := 4) (hT).s fok_4_6 wl_RX4_37 dX4_readHolder_1 rfl ?_
  refine tj_bipush (q := 6) (v := 9) dX4_readHolder_4 rfl (by decide) ?_
  refine tj_icmp_ge (tgt := 24) (q := 9) dX4_readHolder_6 (by decide) rfl ?_ ?_
  · refine tj_iconst (q := 25) (v := 0) dX4_readHolder_24 rfl (by decide) ?_
    exact tj_zret rfl (by decide) rfl (Nat.le_of_ble_eq_true rfl) (Nat.le_of_ble_eq_true rfl) dX4_readHolder_25
  · refine tj_aload_n (q := 10) dX4_readHolder_9 rfl (i := 0) rfl (pl := 0) rfl ?_
    refine tj_aload_n (q := 11) dX4_readHolder_10 rfl (i := 0) rfl (pl := 0) rfl ?_
    refine tj_getR (q := 14) (hT).s (hT).p_holderNames fok_4_4 wl_RX4_30 dX4_readHolder_11 rfl ?_
    refine tj_aload_n (q := 15) dX4_readHolder_14 rfl (i := 0) rfl (pl := 0) rfl ?_
    refine tj_getI (q := 18) (hT).s fok_4_6 wl_RX4_37 dX4_readHolder_15 rfl ?_
    refine tj_callZ (q := 21) (kj_V (As := [.ref (h0 + (t + 9)), .int (σ.1 t 6)]) (rest := []) (t := t) wi_RX4_114 (hT).s rfl (rX4_readNewName t (t + 9) 9 (σ.1 t 6) (hT) ((hT).s_holderNames)) rfl (Nat.le_of_ble_eq_true rfl) ⟨Nat.le_of_ble_eq_true rfl, Nat.le_of_ble_eq_true rfl⟩ (Nat.le_of_ble_eq_true rfl) dX4_readHolder_18) rfl (fun r1 => ?_)
    refine tj_bnz (tgt := 26) (q := 24) dX4_readHolder_21 (by decide) rfl ?_ ?_
    · refine tj_aload_n (q := 27) dX4_readHolder_26 rfl (i := 0) rfl (pl := 0) rfl ?_
      refine tj_getR (q := 30) (hT).s (hT).p_holderPlaces fok_4_5 wl_RX4_33 dX4_readHolder_27 rfl ?_
      refine tj_aload_n (q := 31) dX4_readHolder_30 rfl (i := 0) rfl (pl := 0) rfl ?_
      refine tj_getI (q := 34) (hT).s fok_4_6 wl_RX4_37 dX4_readHolder_31 rfl ?_
      refine tj_iload_n (q := 35) dX4_readHolder_34 rfl (i := 1) rfl (pl := 1) rfl ?_
      refine tj_sndI (fun v2 => ?_)
      refine tj_iastore (q := 36) (hT).s_holderPlaces dX4_readHolder_35 rfl (fun σ3 => ?_)
      refine tj_aload_n (q := 37) dX4_readHolder_36 rfl (i := 0) rfl (pl := 0) rfl ?_
      refine tj_dup (q := 38) dX4_readHolder_37 rfl rfl ?_
      refine tj_getI (q := 41) (hT).s fok_4_6 wl_RX4_37 dX4_readHolder_38 rfl ?_
      refine tj_iconst (q := 42) (v := 1) dX4_readHolder_41 rfl (by decide) ?_
      refine tj_iadd (q := 43) dX4_readHolder_42 rfl ?_
      refine tj_putI (q := 46) (hT).s fok_4_6 tok_4 fpk_4_6 wl_RX4_37 dX4_readHolder_43 rfl (fun σ4 => ?_)
      refine tj_iconst (q := 47) (v := 1) dX4_readHolder_46 rfl (by decide) ?_
      exact tj_zret rfl (by decide) rfl (Nat.le_of_ble_eq_true rfl) (Nat.le_of_ble_eq_true rfl) dX4_readHolder_47
    · refine tj_iconst (q := 25) (v := 0) dX4_readHolder_24 rfl (by decide) ?_
      exact tj_zret rfl (by decide) rfl (Nat.le_of_ble_eq_true rfl) (Nat.le_of_ble_eq_true rfl) dX4_readHolder_25

theorem dX4_readWatches_0 : decode cX4_readWatches 0 = .ok (.iconst 0, 1) := by decide +kernel
theorem dX4_readWatches_1 : decode cX4_readWatches 1 = .ok (.istore_n 3, 1) := by decide +kernel
theorem dX4_readWatches_2 : decode cX4_readWatches 2 = .ok (.iload_n 3, 1) := by decide +kernel
theorem dX4_readWatches_3 : decode cX4_readWatches 3 = .ok (.sipush 1700, 3) := by decide +kernel
theorem dX4_readWatches_6 : decode cX4_readWatches 6 = .ok (.if_icmp .ge 87, 3) := by decide +kernel
theorem dX4_readWatches_9 : decode cX4_readWatches 9 = .ok (.aload_n 0, 1) := by decide +kernel
theorem dX4_readWatches_10 : decode cX4_readWatches 10 = .ok (.getfield 22, 3) := by decide +kernel
theorem dX4_readWatches_13 : decode cX4_readWatches 13 = .ok (.bipush 11, 2) := by decide +kernel
theorem dX4_readWatches_15 : decode cX4_readWatches 15 = .ok (.invokevirtual 164, 3) := by decide +kernel
theorem dX4_readWatches_18 : decode cX4_readWatches 18 = .ok (.ifCond .eq 75, 3) := by decide +kernel
theorem dX4_readWatches_21 : decode cX4_readWatches 21 = .ok (.aload_n 0, 1) := by decide +kernel
theorem dX4_readWatches_22 : decode cX4_readWatches 22 = .ok (.getfield 22, 3) := by decide +kernel
theorem dX4_readWatches_25 : decode cX4_readWatches 25 = .ok (.invokevirtual 101, 3) := by decide +kernel
theorem dX4_readWatches_28 : decode cX4_readWatches 28 = .ok (.aload_n 0, 1) := by decide +kernel
theorem dX4_readWatches_29 : decode cX4_readWatches 29 = .ok (.iconst 0, 1) := by decide +kernel
theorem dX4_readWatches_30 : decode cX4_readWatches 30 = .ok (.aload_n 1, 1) := by decide +kernel
theorem dX4_readWatches_31 : decode cX4_readWatches 31 = .ok (.getfield 108, 3) := by decide +kernel
theorem dX4_readWatches_34 : decode cX4_readWatches 34 = .ok (.iconst 1, 1) := by decide +kernel
theorem dX4_readWatches_35 : decode cX4_readWatches 35 = .ok (.isub, 1) := by decide +kernel
theorem dX4_readWatches_36 : decode cX4_readWatches 36 = .ok (.invokevirtual 104, 3) := by decide +kernel
theorem dX4_readWatches_39 : decode cX4_readWatches 39 = .ok (.ifCond .ne 5, 3) := by decide +kernel
theorem dX4_readWatches_42 : decode cX4_readWatches 42 = .ok (.iconst 0, 1) := by decide +kernel
theorem dX4_readWatches_43 : decode cX4_readWatches 43 = .ok (.ireturn, 1) := by decide +kernel
theorem dX4_readWatches_44 : decode cX4_readWatches 44 = .ok (.aload_n 1, 1) := by decide +kernel
theorem dX4_readWatches_45 : decode cX4_readWatches 45 = .ok (.iload_n 2, 1) := by decide +kernel
theorem dX4_readWatches_46 : decode cX4_readWatches 46 = .ok (.aload_n 0, 1) := by decide +kernel
theorem dX4_readWatches_47 : decode cX4_readWatches 47 = .ok (.getfield 47, 3) := by decide +kernel
theorem dX4_readWatches_50 : decode cX4_readWatches 50 = .ok (.invokevirtual 167, 3) := by decide +kernel
theorem dX4_readWatches_53 : decode cX4_readWatches 53 = .ok (.ifCond .eq 12, 3) := by decide +kernel
theorem dX4_readWatches_56 : decode cX4_readWatches 56 = .ok (.aload_n 0, 1) := by decide +kernel
theorem dX4_readWatches_57 : decode cX4_readWatches 57 = .ok (.getfield 22, 3) := by decide +kernel
theorem dX4_readWatches_60 : decode cX4_readWatches 60 = .ok (.iconst 3, 1) := by decide +kernel
theorem dX4_readWatches_61 : decode cX4_readWatches 61 = .ok (.invokevirtual 170, 3) := by decide +kernel
theorem dX4_readWatches_64 : decode cX4_readWatches 64 = .ok (.ireturn, 1) := by decide +kernel
theorem dX4_readWatches_65 : decode cX4_readWatches 65 = .ok (.aload_n 1, 1) := by decide +kernel
theorem dX4_readWatches_66 : decode cX4_readWatches 66 = .ok (.getfield 173, 3) := by decide +kernel
theorem dX4_readWatches_69 : decode cX4_readWatches 69 = .ok (.iload_n 2, 1) := by decide +kernel
theorem dX4_readWatches_70 : decode cX4_readWatches 70 = .ok (.dup2, 1) := by decide +kernel
theorem dX4_readWatches_71 : decode cX4_readWatches 71 = .ok (.iaload, 1) := by decide +kernel
theorem dX4_readWatches_72 : decode cX4_readWatches 72 = .ok (.iconst 1, 1) := by decide +kernel
theorem dX4_readWatches_73 : decode cX4_readWatches 73 = .ok (.aload_n 0, 1) := by decide +kernel
theorem dX4_readWatches_74 : decode cX4_readWatches 74 = .ok (.getfield 47, 3) := by decide +kernel
theorem dX4_readWatches_77 : decode cX4_readWatches 77 = .ok (.ishl, 1) := by decide +kernel
theorem dX4_readWatches_78 : decode cX4_readWatches 78 = .ok (.ior, 1) := by decide +kernel
theorem dX4_readWatches_79 : decode cX4_readWatches 79 = .ok (.iastore, 1) := by decide +kernel
theorem dX4_readWatches_80 : decode cX4_readWatches 80 = .ok (.aload_n 0, 1) := by decide +kernel
theorem dX4_readWatches_81 : decode cX4_readWatches 81 = .ok (.getfield 22, 3) := by decide +kernel
theorem dX4_readWatches_84 : decode cX4_readWatches 84 = .ok (.invokevirtual 101, 3) := by decide +kernel
theorem dX4_readWatches_87 : decode cX4_readWatches 87 = .ok (.iinc 3 1, 3) := by decide +kernel
theorem dX4_readWatches_90 : decode cX4_readWatches 90 = .ok (.goto (-88), 3) := by decide +kernel
theorem dX4_readWatches_93 : decode cX4_readWatches 93 = .ok (.iconst 1, 1) := by decide +kernel
theorem dX4_readWatches_94 : decode cX4_readWatches 94 = .ok (.ireturn, 1) := by decide +kernel
theorem wi_RX4_164 : Iv RX4 164 yX10_isWord cX10_isWord 2 (some .boolean) 1 := ⟨tbm 913 (by decide +kernel) (by decide +kernel), wm_X10_isWord⟩
theorem wl_RX4_108 : Cond.fieldLink RX4 108 (TX1 0).1 (TX1 0).2.1 (TX1 0).2.2.1 ∈ TB := tbm 291 (by decide +kernel) (by decide +kernel)
theorem wi_RX4_167 : Iv RX4 167 yX1_isSeen cX1_isSeen 3 (some .boolean) 2 := ⟨tbm 914 (by decide +kernel) (by decide +kernel), wm_X1_isSeen⟩
theorem wl_RX4_173 : Cond.fieldLink RX4 173 (TX1 9).1 (TX1 9).2.1 (TX1 9).2.2.1 ∈ TB := tbm 323 (by decide +kernel) (by decide +kernel)
def mX4_readWatches_L2 (t : Nat) (p1 : Nat) (x2 : Int32) (k56 : St_ → Option (Bool × St_)) : Nat → Int32 → St_ → Option (Bool × St_)
  | 0, _, _ => none
  | n + 1, x3, σ => (if (1700 : Int32) ≤ x3 then
 (some (true, σ))
 else ((mX10_isWord (t + 2) (11 : Int32) σ).bind fun r1 =>
 (if r1 = true then
 ((mX10_next (t + 2) σ).bind fun σ2 =>
 ((mX4_readNumber t (0 : Int32) ((σ2.1 p1 0) - (1 : Int32)) σ2).bind fun r3 =>
 (if r3.1 = true then
 ((mX1_isSeen p1 x2 (r3.2.1 t 9) r3.2).bind fun r4 =>
 (if r4 = true then
 (k56 r3.2)
 else (if bin x2 5 = true then bnd (r3.2.1 (p1 + 5) x2.toNatClampNeg) fun v5 =>
 (if bin x2 5 = true then bnd (sI r3.2 (p1 + 5) x2.toNatClampNeg (v5 ||| ((1 : Int32) <<< ((r3.2.1 t 9) &&& 31)))) fun σ6 =>
 ((mX10_next (t + 2) σ6).bind fun σ7 =>
 (mX4_readWatches_L2 t p1 x2 k56 n (x3 + 1) σ7))
 else none)
 else none)))
 else (some (false, r3.2)))))
 else (some (true, σ)))))
def mX4_readWatches (t : Nat) (p1 : Nat) (p2 : Int32) (σ : St_) : Option (Bool × St_) :=
 (mX4_readWatches_L2 t p1 p2
 (fun (σ8 : St_) => ((mX10_fail (t + 2) (3 : Int32) σ8).bind fun r9 =>
 (some (r9.1, r9.2)))) FU (0 : Int32) σ)
set_option maxHeartbeats 4000000 in
theorem tmX4_readWatches_L2 (t : Nat) (p1 : Nat) (hT : LY4 sh P t) (hp1 : LY1 sh P p1) (x2 : Int32) (k56 : St_ → Option (Bool × St_)) (hk56 : ∀ (σ1 : St_), Tj l D cA h0 ad RX4 cX4_readWatches 4 (some .boolean) false 5 0 0 (fun b => (some (.int (b2i b.1)), sh, P, b.2)) 0 0 sh P σ1 56 [(0, .ref (h0 + t))] [] (k56 σ1)) : ∀ (n : Nat) (x3 : Int32) (σ : St_), Tj l D cA h0 ad RX4 cX4_readWatches 4 (some .boolean) false 5 0 0 (fun b => (some (.int (b2i b.1)), sh, P, b.2)) 0 0 sh P σ 2 [(0, .ref (h0 + t)), (1, .ref (h0 + p1)), (2, .int x2), (3, .int x3)] [] (mX4_readWatches_L2 t p1 x2 k56 n x3 σ) := by
  intro n
  induction n with
  | zero => intros; exact tj_none
  | succ n ih =>
    intro x3 σ
    rw [mX4_readWatches_L2]
    refine tj_iload_n (q := 3) dX4_readWatches_2 rfl (i := 3) rfl (pl := 3) rfl ?_
    refine tj_sipush (q := 6) (v := 1700) dX4_readWatches_3 rfl (by decide) ?_
    refine tj_icmp_ge (tgt := 93) (q := 9) dX4_readWatches_6 (by decide) rfl ?_ ?_
    · refine tj_iconst (q := 94) (v := 1) dX4_readWatches_93 rfl (by decide) ?_
      exact tj_zret rfl (by decide) rfl (Nat.le_of_ble_eq_true rfl) (Nat.le_of_ble_eq_true rfl) dX4_readWatches_94
    · refine tj_aload_n (q := 10) dX4_readWatches_9 rfl (i := 0) rfl (pl := 0) rfl ?_
      refine tj_getR (q := 13) (hT).s (hT).p_tokens fok_4_1 wl_RX4_22 dX4_readWatches_10 rfl ?_
      refine tj_bipush (q := 15) (v := 11) dX4_readWatches_13 rfl (by decide) ?_
      refine tj_callZp (q := 18) (kj_V (As := [.int (11 : Int32)]) (rest := []) (t := (t + 2)) wi_RX4_164 ((hT).o_tokens).s rfl (rX10_isWord (t + 2) (11 : Int32) ((hT).o_tokens)) rfl (Nat.le_of_ble_eq_true rfl) ⟨Nat.le_of_ble_eq_true rfl, Nat.le_of_ble_eq_true rfl⟩ (Nat.le_of_ble_eq_true rfl) dX4_readWatches_15) rfl (fun r1 => ?_)
      refine tj_bz (tgt := 93) (q := 21) dX4_readWatches_18 (by decide) rfl ?_ ?_
      · refine tj_aload_n (q := 22) dX4_readWatches_21 rfl (i := 0) rfl (pl := 0) rfl ?_
        refine tj_getR (q := 25) (hT).s (hT).p_tokens fok_4_1 wl_RX4_22 dX4_readWatches_22 rfl ?_
        refine tj_callV (q := 28) (kj_V (As := []) (rest := []) (t := (t + 2)) wi_RX4_101 ((hT).o_tokens).s rfl (rX10_next (t + 2) ((hT).o_tokens)) rfl (Nat.le_of_ble_eq_true rfl) ⟨Nat.le_of_ble_eq_true rfl, Nat.le_of_ble_eq_true rfl⟩ (Nat.le_of_ble_eq_true rfl) dX4_readWatches_25) rfl (fun σ2 => ?_)
        refine tj_aload_n (q := 29) dX4_readWatches_28 rfl (i := 0) rfl (pl := 0) rfl ?_
        refine tj_iconst (q := 30) (v := 0) dX4_readWatches_29 rfl (by decide) ?_
        refine tj_aload_n (q := 31) dX4_readWatches_30 rfl (i := 1) rfl (pl := 1) rfl ?_
        refine tj_getI (q := 34) (hp1).s fok_1_0 wl_RX4_108 dX4_readWatches_31 rfl ?_
        refine tj_iconst (q := 35) (v := 1) dX4_readWatches_34 rfl (by decide) ?_
        refine tj_isub (q := 36) dX4_readWatches_35 rfl ?_
        refine tj_callZ (q := 39) (kj_V (As := [.int (0 : Int32), .int ((σ2.1 p1 0) - (1 : Int32))]) (rest := []) (t := t) wi_RX4_104 (hT).s rfl (rX4_readNumber t (0 : Int32) ((σ2.1 p1 0) - (1 : Int32)) (hT)) rfl (Nat.le_of_ble_eq_true rfl) ⟨Nat.le_of_ble_eq_true rfl, Nat.le_of_ble_eq_true rfl⟩ (Nat.le_of_ble_eq_true rfl) dX4_readWatches_36) rfl (fun r3 => ?_)
        refine tj_bnz (tgt := 44) (q := 42) dX4_readWatches_39 (by decide) rfl ?_ ?_
        · refine tj_aload_n (q := 45) dX4_readWatches_44 rfl (i := 1) rfl (pl := 1) rfl ?_
          refine tj_iload_n (q := 46) dX4_readWatches_45 rfl (i := 2) rfl (pl := 2) rfl ?_
          refine tj_aload_n (q := 47) dX4_readWatches_46 rfl (i := 0) rfl (pl := 0) rfl ?_
          refine tj_getI (q := 50) (hT).s fok_4_9 wl_RX4_47 dX4_readWatches_47 rfl ?_
          refine tj_callZp (q := 53) (kj_V (As := [.int x2, .int (r3.2.1 t 9)]) (rest := []) (t := p1) wi_RX4_167 (hp1).s rfl (rX1_isSeen p1 x2 (r3.2.1 t 9) (hp1)) rfl (Nat.le_of_ble_eq_true rfl) ⟨Nat.le_of_ble_eq_true rfl, Nat.le_of_ble_eq_true rfl⟩ (Nat.le_of_ble_eq_true rfl) dX4_readWatches_50) rfl (fun r4 => ?_)
          refine tj_bz (tgt := 65) (q := 56) dX4_readWatches_53 (by decide) rfl ?_ ?_
          · refine tj_lv [0] rfl ?_
            exact hk56 r3.2
          · refine tj_aload_n (q := 66) dX4_readWatches_65 rfl (i := 1) rfl (pl := 1) rfl ?_
            refine tj_getR (q := 69) (hp1).s (hp1).p_watch fok_1_9 wl_RX4_173 dX4_readWatches_66 rfl ?_
            refine tj_iload_n (q := 70) dX4_readWatches_69 rfl (i := 2) rfl (pl := 2) rfl ?_
            refine tj_dup2 (q := 71) dX4_readWatches_70 rfl rfl rfl ?_
            refine tj_iaload (q := 72) (hp1).s_watch dX4_readWatches_71 rfl ?_
            refine tj_topI (fun v5 => ?_)
            refine tj_iconst (q := 73) (v := 1) dX4_readWatches_72 rfl (by decide) ?_
            refine tj_aload_n (q := 74) dX4_readWatches_73 rfl (i := 0) rfl (pl := 0) rfl ?_
            refine tj_getI (q := 77) (hT).s fok_4_9 wl_RX4_47 dX4_readWatches_74 rfl ?_
            refine tj_ishl (q := 78) dX4_readWatches_77 rfl ?_
            refine tj_ior (q := 79) dX4_readWatches_78 rfl ?_
            refine tj_iastore (q := 80) (hp1).s_watch dX4_readWatches_79 rfl (fun σ6 => ?_)
            refine tj_aload_n (q := 81) dX4_readWatches_80 rfl (i := 0) rfl (pl := 0) rfl ?_
            refine tj_getR (q := 84) (hT).s (hT).p_tokens fok_4_1 wl_RX4_22 dX4_readWatches_81 rfl ?_
            refine tj_callV (q := 87) (kj_V (As := []) (rest := []) (t := (t + 2)) wi_RX4_101 ((hT).o_tokens).s rfl (rX10_next (t + 2) ((hT).o_tokens)) rfl (Nat.le_of_ble_eq_true rfl) ⟨Nat.le_of_ble_eq_true rfl, Nat.le_of_ble_eq_true rfl⟩ (Nat.le_of_ble_eq_true rfl) dX4_readWatches_84) rfl (fun σ7 => ?_)
            refine tj_iinc (q := 90) (v := x3 + 1) dX4_readWatches_87 rfl (pl := 3) rfl rfl (by decide) rfl ?_
            refine tj_goto (q := 2) dX4_readWatches_90 (by decide) ?_
            refine tj_lv [1, 2, 3, 0] rfl ?_
            exact ih (x3 + 1) σ7
        · refine tj_iconst (q := 43) (v := 0) dX4_readWatches_42 rfl (by decide) ?_
          exact tj_zret rfl (by decide) rfl (Nat.le_of_ble_eq_true rfl) (Nat.le_of_ble_eq_true rfl) dX4_readWatches_43
      · refine tj_iconst (q := 94) (v := 1) dX4_readWatches_93 rfl (by decide) ?_
        exact tj_zret rfl (by decide) rfl (Nat.le_of_ble_eq_true rfl) (Nat.le_of_ble_eq_true rfl) dX4_readWatches_94

set_option maxHeartbeats 4000000 in
theorem rX4_readWatches (t : Nat) (p1 : Nat) (p2 : Int32) (hT : LY4 sh P t) (hp1 : LY1 sh P p1) : Rj l D cA h0 ad yX4_readWatches cX4_readWatches 4 (some .boolean) false 5 0 0 (fun b => (some (.int (b2i b.1)), sh, P, b.2)) [.ref (h0 + t), .ref (h0 + p1), .int p2] sh P σ (mX4_readWatches t p1 p2 σ) := by
  rw [mX4_readWatches]
  refine Rj.of (by decide) (fun h => by cases h) (Nat.le_of_ble_eq_true rfl) ?_
  refine tj_lv0 (lv' := [(0, .ref (h0 + t)), (1, .ref (h0 + p1)), (2, .int p2)]) rfl ?_
  refine tj_iconst (q := 1) (v := 0) dX4_readWatches_0 rfl (by decide) ?_
  refine tj_istore_n (q := 2) dX4_readWatches_1 rfl (i := 3) rfl (by decide) rfl ?_
  refine tj_lv [1, 2, 3, 0] rfl ?_
  refine tmX4_readWatches_L2 t p1 hT hp1 p2 _ ?_ FU (0 : Int32) σ
  · intro σ8
    refine tj_aload_n (q := 57) dX4_readWatches_56 rfl (i := 0) rfl (pl := 0) rfl ?_
    refine tj_getR (q := 60) (hT).s (hT).p_tokens fok_4_1 wl_RX4_22 dX4_readWatches_57 rfl ?_
    refine tj_iconst (q := 61) (v := 3) dX4_readWatches_60 rfl (by decide) ?_
    refine tj_callZ (q := 64) (kj_V (As := [.int (3 : Int32)]) (rest := []) (t := (t + 2)) wi_RX4_170 ((hT).o_tokens).s rfl (rX10_fail (t + 2) (3 : Int32) ((hT).o_tokens)) rfl (Nat.le_of_ble_eq_true rfl) ⟨Nat.le_of_ble_eq_true rfl, Nat.le_of_ble_eq_true rfl⟩ (Nat.le_of_ble_eq_true rfl) dX4_readWatches_61) rfl (fun r9 => ?_)
    exact tj_zret rfl (nar_b2i _) rfl (Nat.le_of_ble_eq_true rfl) (Nat.le_of_ble_eq_true rfl) dX4_readWatches_64

theorem dX4_readStock_0 : decode cX4_readStock 0 = .ok (.iconst 0, 1) := by decide +kernel
theorem dX4_readStock_1 : decode cX4_readStock 1 = .ok (.istore_n 3, 1) := by decide +kernel
theorem dX4_readStock_2 : decode cX4_readStock 2 = .ok (.iload_n 3, 1) := by decide +kernel
theorem dX4_readStock_3 : decode cX4_readStock 3 = .ok (.sipush 1700, 3) := by decide +kernel
theorem dX4_readStock_6 : decode cX4_readStock 6 = .ok (.if_icmp .ge 105, 3) := by decide +kernel
theorem dX4_readStock_9 : decode cX4_readStock 9 = .ok (.aload_n 0, 1) := by decide +kernel
theorem dX4_readStock_10 : decode cX4_readStock 10 = .ok (.getfield 22, 3) := by decide +kernel
theorem dX4_readStock_13 : decode cX4_readStock 13 = .ok (.bipush 12, 2) := by decide +kernel
theorem dX4_readStock_15 : decode cX4_readStock 15 = .ok (.invokevirtual 164, 3) := by decide +kernel
theorem dX4_readStock_18 : decode cX4_readStock 18 = .ok (.ifCond .eq 93, 3) := by decide +kernel
theorem dX4_readStock_21 : decode cX4_readStock 21 = .ok (.aload_n 0, 1) := by decide +kernel
theorem dX4_readStock_22 : decode cX4_readStock 22 = .ok (.getfield 22, 3) := by decide +kernel
theorem dX4_readStock_25 : decode cX4_readStock 25 = .ok (.invokevirtual 101, 3) := by decide +kernel
theorem dX4_readStock_28 : decode cX4_readStock 28 = .ok (.aload_n 0, 1) := by decide +kernel
theorem dX4_readStock_29 : decode cX4_readStock 29 = .ok (.aload_n 0, 1) := by decide +kernel
theorem dX4_readStock_30 : decode cX4_readStock 30 = .ok (.getfield 27, 3) := by decide +kernel
theorem dX4_readStock_33 : decode cX4_readStock 33 = .ok (.aload_n 1, 1) := by decide +kernel
theorem dX4_readStock_34 : decode cX4_readStock 34 = .ok (.getfield 118, 3) := by decide +kernel
theorem dX4_readStock_37 : decode cX4_readStock 37 = .ok (.invokevirtual 124, 3) := by decide +kernel
theorem dX4_readStock_40 : decode cX4_readStock 40 = .ok (.ifCond .ne 5, 3) := by decide +kernel
theorem dX4_readStock_43 : decode cX4_readStock 43 = .ok (.iconst 0, 1) := by decide +kernel
theorem dX4_readStock_44 : decode cX4_readStock 44 = .ok (.ireturn, 1) := by decide +kernel
theorem dX4_readStock_45 : decode cX4_readStock 45 = .ok (.aload_n 0, 1) := by decide +kernel
theorem dX4_readStock_46 : decode cX4_readStock 46 = .ok (.getfield 44, 3) := by decide +kernel
theorem dX4_readStock_49 : decode cX4_readStock 49 = .ok (.aload_n 0, 1) := by decide +kernel
theorem dX4_readStock_50 : decode cX4_readStock 50 = .ok (.getfield 47, 3) := by decide +kernel
theorem dX4_readStock_53 : decode cX4_readStock 53 = .ok (.ishr, 1) := by decide +kernel
theorem dX4_readStock_54 : decode cX4_readStock 54 = .ok (.iconst 1, 1) := by decide +kernel
theorem dX4_readStock_55 : decode cX4_readStock 55 = .ok (.iand, 1) := by decide +kernel
theorem dX4_readStock_56 : decode cX4_readStock 56 = .ok (.ifCond .eq 12, 3) := by decide +kernel
theorem dX4_readStock_59 : decode cX4_readStock 59 = .ok (.aload_n 0, 1) := by decide +kernel
theorem dX4_readStock_60 : decode cX4_readStock 60 = .ok (.getfield 22, 3) := by decide +kernel
theorem dX4_readStock_63 : decode cX4_readStock 63 = .ok (.iconst 3, 1) := by decide +kernel
theorem dX4_readStock_64 : decode cX4_readStock 64 = .ok (.invokevirtual 170, 3) := by decide +kernel
theorem dX4_readStock_67 : decode cX4_readStock 67 = .ok (.ireturn, 1) := by decide +kernel
theorem dX4_readStock_68 : decode cX4_readStock 68 = .ok (.aload_n 0, 1) := by decide +kernel
theorem dX4_readStock_69 : decode cX4_readStock 69 = .ok (.dup, 1) := by decide +kernel
theorem dX4_readStock_70 : decode cX4_readStock 70 = .ok (.getfield 44, 3) := by decide +kernel
theorem dX4_readStock_73 : decode cX4_readStock 73 = .ok (.iconst 1, 1) := by decide +kernel
theorem dX4_readStock_74 : decode cX4_readStock 74 = .ok (.aload_n 0, 1) := by decide +kernel
theorem dX4_readStock_75 : decode cX4_readStock 75 = .ok (.getfield 47, 3) := by decide +kernel
theorem dX4_readStock_78 : decode cX4_readStock 78 = .ok (.ishl, 1) := by decide +kernel
theorem dX4_readStock_79 : decode cX4_readStock 79 = .ok (.ior, 1) := by decide +kernel
theorem dX4_readStock_80 : decode cX4_readStock 80 = .ok (.putfield 44, 3) := by decide +kernel
theorem dX4_readStock_83 : decode cX4_readStock 83 = .ok (.aload_n 1, 1) := by decide +kernel
theorem dX4_readStock_84 : decode cX4_readStock 84 = .ok (.getfield 176, 3) := by decide +kernel
theorem dX4_readStock_87 : decode cX4_readStock 87 = .ok (.iload_n 2, 1) := by decide +kernel
theorem dX4_readStock_88 : decode cX4_readStock 88 = .ok (.dup2, 1) := by decide +kernel
theorem dX4_readStock_89 : decode cX4_readStock 89 = .ok (.iaload, 1) := by decide +kernel
theorem dX4_readStock_90 : decode cX4_readStock 90 = .ok (.iconst 1, 1) := by decide +kernel
theorem dX4_readStock_91 : decode cX4_readStock 91 = .ok (.aload_n 0, 1) := by decide +kernel
theorem dX4_readStock_92 : decode cX4_readStock 92 = .ok (.getfield 47, 3) := by decide +kernel
theorem dX4_readStock_95 : decode cX4_readStock 95 = .ok (.ishl, 1) := by decide +kernel
theorem dX4_readStock_96 : decode cX4_readStock 96 = .ok (.ior, 1) := by decide +kernel
theorem dX4_readStock_97 : decode cX4_readStock 97 = .ok (.iastore, 1) := by decide +kernel
theorem dX4_readStock_98 : decode cX4_readStock 98 = .ok (.aload_n 0, 1) := by decide +kernel
theorem dX4_readStock_99 : decode cX4_readStock 99 = .ok (.getfield 22, 3) := by decide +kernel
theorem dX4_readStock_102 : decode cX4_readStock 102 = .ok (.invokevirtual 101, 3) := by decide +kernel
theorem dX4_readStock_105 : decode cX4_readStock 105 = .ok (.iinc 3 1, 3) := by decide +kernel
theorem dX4_readStock_108 : decode cX4_readStock 108 = .ok (.goto (-106), 3) := by decide +kernel
theorem dX4_readStock_111 : decode cX4_readStock 111 = .ok (.iconst 1, 1) := by decide +kernel
theorem dX4_readStock_112 : decode cX4_readStock 112 = .ok (.ireturn, 1) := by decide +kernel
theorem wl_RX4_44 : Cond.fieldLink RX4 44 (TX4 8).1 (TX4 8).2.1 (TX4 8).2.2.1 ∈ TB := tbm 231 (by decide +kernel) (by decide +kernel)
theorem wl_RX4_176 : Cond.fieldLink RX4 176 (TX1 14).1 (TX1 14).2.1 (TX1 14).2.2.1 ∈ TB := tbm 336 (by decide +kernel) (by decide +kernel)
def mX4_readStock_L2 (t : Nat) (p1 : Nat) (x2 : Int32) (k59 : St_ → Option (Bool × St_)) : Nat → Int32 → St_ → Option (Bool × St_)
  | 0, _, _ => none
  | n + 1, x3, σ => (if (1700 : Int32) ≤ x3 then
 (some (true, σ))
 else ((mX10_isWord (t + 2) (12 : Int32) σ).bind fun r1 =>
 (if r1 = true then
 ((mX10_next (t + 2) σ).bind fun σ2 =>
 ((mX4_readOldName t (t + 8) 10 (σ2.1 p1 2) σ2).bind fun r3 =>
 (if r3.1 = true then
 (if (((r3.2.1 t 8) >>> ((r3.2.1 t 9) &&& 31)) &&& (1 : Int32)) = 0 then
 (bnd (sI r3.2 t 8 ((r3.2.1 t 8) ||| ((1 : Int32) <<< ((r3.2.1 t 9) &&& 31)))) fun σ4 =>
 (if bin x2 9 = true then bnd (σ4.1 (p1 + 10) x2.toNatClampNeg) fun v5 =>
 (if bin x2 9 = true then bnd (sI σ4 (p1 + 10) x2.toNatClampNeg (v5 ||| ((1 : Int32) <<< ((σ4.1 t 9) &&& 31)))) fun σ6 =>
 ((mX10_next (t + 2) σ6).bind fun σ7 =>
 (mX4_readStock_L2 t p1 x2 k59 n (x3 + 1) σ7))
 else none)
 else none))
 else (k59 r3.2))
 else (some (false, r3.2)))))
 else (some (true, σ)))))
def mX4_readStock (t : Nat) (p1 : Nat) (p2 : Int32) (σ : St_) : Option (Bool × St_) :=
 (mX4_readStock_L2 t p1 p2
 (fun (σ8 : St_) => ((mX10_fail (t + 2) (3 : Int32) σ8).bind fun r9 =>
 (some (r9.1, r9.2)))) FU (0 : Int32) σ)
set_option maxHeartbeats 4000000 in
theorem tmX4_readStock_L2 (t : Nat) (p1 : Nat) (hT : LY4 sh P t) (hp1 : LY1 sh P p1) (x2 : Int32) (k59 : St_ → Option (Bool × St_)) (hk59 : ∀ (σ1 : St_), Tj l D cA h0 ad RX4 cX4_readStock 4 (some .boolean) false 5 0 0 (fun b => (some (.int (b2i b.1)), sh, P, b.2)) 0 0 sh P σ1 59 [(0, .ref (h0 + t))] [] (k59 σ1)) : ∀ (n : Nat) (x3 : Int32) (σ : St_), Tj l D cA h0 ad RX4 cX4_readStock 4 (some .boolean) false 5 0 0 (fun b => (some (.int (b2i b.1)), sh, P, b.2)) 0 0 sh P σ 2 [(0, .ref (h0 + t)), (1, .ref (h0 + p1)), (2, .int x2), (3, .int x3)] [] (mX4_readStock_L2 t p1 x2 k59 n x3 σ) := by
  intro n
  induction n with
  | zero => intros; exact tj_none
  | succ n ih =>
    intro x3 σ
    rw [mX4_readStock_L2]
    refine tj_iload_n (q := 3) dX4_readStock_2 rfl (i := 3) rfl (pl := 3) rfl ?_
    refine tj_sipush (q := 6) (v := 1700) dX4_readStock_3 rfl (by decide) ?_
    refine tj_icmp_ge (tgt := 111) (q := 9) dX4_readStock_6 (by decide) rfl ?_ ?_
    · refine tj_iconst (q := 112) (v := 1) dX4_readStock_111 rfl (by decide) ?_
      exact tj_zret rfl (by decide) rfl (Nat.le_of_ble_eq_true rfl) (Nat.le_of_ble_eq_true rfl) dX4_readStock_112
    · refine tj_aload_n (q := 10) dX4_readStock_9 rfl (i := 0) rfl (pl := 0) rfl ?_
      refine tj_getR (q := 13) (hT).s (hT).p_tokens fok_4_1 wl_RX4_22 dX4_readStock_10 rfl ?_
      refine tj_bipush (q := 15) (v := 12) dX4_readStock_13 rfl (by decide) ?_
      refine tj_callZp (q := 18) (kj_V (As := [.int (12 : Int32)]) (rest := []) (t := (t + 2)) wi_RX4_164 ((hT).o_tokens).s rfl (rX10_isWord (t + 2) (12 : Int32) ((hT).o_tokens)) rfl (Nat.le_of_ble_eq_true rfl) ⟨Nat.le_of_ble_eq_true rfl, Nat.le_of_ble_eq_true rfl⟩ (Nat.le_of_ble_eq_true rfl) dX4_readStock_15) rfl (fun r1 => ?_)
      refine tj_bz (tgt := 111) (q := 21) dX4_readStock_18 (by decide) rfl ?_ ?_
      · refine tj_aload_n (q := 22) dX4_readStock_21 rfl (i := 0) rfl (pl := 0) rfl ?_
        refine tj_getR (q := 25) (hT).s (hT).p_tokens fok_4_1 wl_RX4_22 dX4_readStock_22 rfl ?_
        refine tj_callV (q := 28) (kj_V (As := []) (rest := []) (t := (t + 2)) wi_RX4_101 ((hT).o_tokens).s rfl (rX10_next (t + 2) ((hT).o_tokens)) rfl (Nat.le_of_ble_eq_true rfl) ⟨Nat.le_of_ble_eq_true rfl, Nat.le_of_ble_eq_true rfl⟩ (Nat.le_of_ble_eq_true rfl) dX4_readStock_25) rfl (fun σ2 => ?_)
        refine tj_aload_n (q := 29) dX4_readStock_28 rfl (i := 0) rfl (pl := 0) rfl ?_
        refine tj_aload_n (q := 30) dX4_readStock_29 rfl (i := 0) rfl (pl := 0) rfl ?_
        refine tj_getR (q := 33) (hT).s (hT).p_thingNames fok_4_3 wl_RX4_27 dX4_readStock_30 rfl ?_
        refine tj_aload_n (q := 34) dX4_readStock_33 rfl (i := 1) rfl (pl := 1) rfl ?_
        refine tj_getI (q := 37) (hp1).s fok_1_2 wl_RX4_118 dX4_readStock_34 rfl ?_
        refine tj_callZ (q := 40) (kj_V (As := [.ref (h0 + (t + 8)), .int (σ2.1 p1 2)]) (rest := []) (t := t) wi_RX4_124 (hT).s rfl (rX4_readOldName t (t + 8) 10 (σ2.1 p1 2) (hT) ((hT).s_thingNames)) rfl (Nat.le_of_ble_eq_true rfl) ⟨Nat.le_of_ble_eq_true rfl, Nat.le_of_ble_eq_true rfl⟩ (Nat.le_of_ble_eq_true rfl) dX4_readStock_37) rfl (fun r3 => ?_)
        refine tj_bnz (tgt := 45) (q := 43) dX4_readStock_40 (by decide) rfl ?_ ?_
        · refine tj_aload_n (q := 46) dX4_readStock_45 rfl (i := 0) rfl (pl := 0) rfl ?_
          refine tj_getI (q := 49) (hT).s fok_4_8 wl_RX4_44 dX4_readStock_46 rfl ?_
          refine tj_aload_n (q := 50) dX4_readStock_49 rfl (i := 0) rfl (pl := 0) rfl ?_
          refine tj_getI (q := 53) (hT).s fok_4_9 wl_RX4_47 dX4_readStock_50 rfl ?_
          refine tj_ishr (q := 54) dX4_readStock_53 rfl ?_
          refine tj_iconst (q := 55) (v := 1) dX4_readStock_54 rfl (by decide) ?_
          refine tj_iand (q := 56) dX4_readStock_55 rfl ?_
          refine tj_if_eq (tgt := 68) (q := 59) dX4_readStock_56 (by decide) rfl ?_ ?_
          · refine tj_aload_n (q := 69) dX4_readStock_68 rfl (i := 0) rfl (pl := 0) rfl ?_
            refine tj_dup (q := 70) dX4_readStock_69 rfl rfl ?_
            refine tj_getI (q := 73) (hT).s fok_4_8 wl_RX4_44 dX4_readStock_70 rfl ?_
            refine tj_iconst (q := 74) (v := 1) dX4_readStock_73 rfl (by decide) ?_
            refine tj_aload_n (q := 75) dX4_readStock_74 rfl (i := 0) rfl (pl := 0) rfl ?_
            refine tj_getI (q := 78) (hT).s fok_4_9 wl_RX4_47 dX4_readStock_75 rfl ?_
            refine tj_ishl (q := 79) dX4_readStock_78 rfl ?_
            refine tj_ior (q := 80) dX4_readStock_79 rfl ?_
            refine tj_putI (q := 83) (hT).s fok_4_8 tok_4 fpk_4_8 wl_RX4_44 dX4_readStock_80 rfl (fun σ4 => ?_)
            refine tj_aload_n (q := 84) dX4_readStock_83 rfl (i := 1) rfl (pl := 1) rfl ?_
            refine tj_getR (q := 87) (hp1).s (hp1).p_held fok_1_14 wl_RX4_176 dX4_readStock_84 rfl ?_
            refine tj_iload_n (q := 88) dX4_readStock_87 rfl (i := 2) rfl (pl := 2) rfl ?_
            refine tj_dup2 (q := 89) dX4_readStock_88 rfl rfl rfl ?_
            refine tj_iaload (q := 90) (hp1).s_held dX4_readStock_89 rfl ?_
            refine tj_topI (fun v5 => ?_)
            refine tj_iconst (q := 91) (v := 1) dX4_readStock_90 rfl (by decide) ?_
            refine tj_aload_n (q := 92) dX4_readStock_91 rfl (i := 0) rfl (pl := 0) rfl ?_
            refine tj_getI (q := 95) (hT).s fok_4_9 wl_RX4_47 dX4_readStock_92 rfl ?_
            refine tj_ishl (q := 96) dX4_readStock_95 rfl ?_
            refine tj_ior (q := 97) dX4_readStock_96 rfl ?_
            refine tj_iastore (q := 98) (hp1).s_held dX4_readStock_97 rfl (fun σ6 => ?_)
            refine tj_aload_n (q := 99) dX4_readStock_98 rfl (i := 0) rfl (pl := 0) rfl ?_
            refine tj_getR (q := 102) (hT).s (hT).p_tokens fok_4_1 wl_RX4_22 dX4_readStock_99 rfl ?_
            refine tj_callV (q := 105) (kj_V (As := []) (rest := []) (t := (t + 2)) wi_RX4_101 ((hT).o_tokens).s rfl (rX10_next (t + 2) ((hT).o_tokens)) rfl (Nat.le_of_ble_eq_true rfl) ⟨Nat.le_of_ble_eq_true rfl, Nat.le_of_ble_eq_true rfl⟩ (Nat.le_of_ble_eq_true rfl) dX4_readStock_102) rfl (fun σ7 => ?_)
            refine tj_iinc (q := 108) (v := x3 + 1) dX4_readStock_105 rfl (pl := 3) rfl rfl (by decide) rfl ?_
            refine tj_goto (q := 2) dX4_readStock_108 (by decide) ?_
            refine tj_lv [1, 2, 3, 0] rfl ?_
            exact ih (x3 + 1) σ7
          · refine tj_lv [0] rfl ?_
            exact hk59 r3.2
        · refine tj_iconst (q := 44) (v := 0) dX4_readStock_43 rfl (by decide) ?_
          exact tj_zret rfl (by decide) rfl (Nat.le_of_ble_eq_true rfl) (Nat.le_of_ble_eq_true rfl) dX4_readStock_44
      · refine tj_iconst (q := 112) (v := 1) dX4_readStock_111 rfl (by decide) ?_
        exact tj_zret rfl (by decide) rfl (Nat.le_of_ble_eq_true rfl) (Nat.le_of_ble_eq_true rfl) dX4_readStock_112

set_option maxHeartbeats 4000000 in
theorem rX4_readStock (t : Nat) (p1 : Nat) (p2 : Int32) (hT : LY4 sh P t) (hp1 : LY1 sh P p1) : Rj l D cA h0 ad yX4_readStock cX4_readStock 4 (some .boolean) false 5 0 0 (fun b => (some (.int (b2i b.1)), sh, P, b.2)) [.ref (h0 + t), .ref (h0 + p1), .int p2] sh P σ (mX4_readStock t p1 p2 σ) := by
  rw [mX4_readStock]
  refine Rj.of (by decide) (fun h => by cases h) (Nat.le_of_ble_eq_true rfl) ?_
  refine tj_lv0 (lv' := [(0, .ref (h0 + t)), (1, .ref (h0 + p1)), (2, .int p2)]) rfl ?_
  refine tj_iconst (q := 1) (v := 0) dX4_readStock_0 rfl (by decide) ?_
  refine tj_istore_n (q := 2) dX4_readStock_1 rfl (i := 3) rfl (by decide) rfl ?_
  refine tj_lv [1, 2, 3, 0] rfl ?_
  refine tmX4_readStock_L2 t p1 hT hp1 p2 _ ?_ FU (0 : Int32) σ
  · intro σ8
    refine tj_aload_n (q := 60) dX4_readStock_59 rfl (i := 0) rfl (pl := 0) rfl ?_
    refine tj_getR (q := 63) (hT).s (hT).p_tokens fok_4_1 wl_RX4_22 dX4_readStock_60 rfl ?_
    refine tj_iconst (q := 64) (v := 3) dX4_readStock_63 rfl (by decide) ?_
    refine tj_callZ (q := 67) (kj_V (As := [.int (3 : Int32)]) (rest := []) (t := (t + 2)) wi_RX4_170 ((hT).o_tokens).s rfl (rX10_fail (t + 2) (3 : Int32) ((hT).o_tokens)) rfl (Nat.le_of_ble_eq_true rfl) ⟨Nat.le_of_ble_eq_true rfl, Nat.le_of_ble_eq_true rfl⟩ (Nat.le_of_ble_eq_true rfl) dX4_readStock_64) rfl (fun r9 => ?_)
    exact tj_zret rfl (nar_b2i _) rfl (Nat.le_of_ble_eq_true rfl) (Nat.le_of_ble_eq_true rfl) dX4_readStock_67

theorem dX4_readHouse_0 : decode cX4_readHouse 0 = .ok (.aload_n 1, 1) := by decide +kernel
theorem dX4_readHouse_1 : decode cX4_readHouse 1 = .ok (.getfield 139, 3) := by decide +kernel
theorem dX4_readHouse_4 : decode cX4_readHouse 4 = .ok (.istore_n 2, 1) := by decide +kernel
theorem dX4_readHouse_5 : decode cX4_readHouse 5 = .ok (.iload_n 2, 1) := by decide +kernel
theorem dX4_readHouse_6 : decode cX4_readHouse 6 = .ok (.iconst 5, 1) := by decide +kernel
theorem dX4_readHouse_7 : decode cX4_readHouse 7 = .ok (.if_icmp .lt 11, 3) := by decide +kernel
theorem dX4_readHouse_10 : decode cX4_readHouse 10 = .ok (.aload_n 0, 1) := by decide +kernel
theorem dX4_readHouse_11 : decode cX4_readHouse 11 = .ok (.getfield 22, 3) := by decide +kernel
theorem dX4_readHouse_14 : decode cX4_readHouse 14 = .ok (.invokevirtual 71, 3) := by decide +kernel
theorem dX4_readHouse_17 : decode cX4_readHouse 17 = .ok (.ireturn, 1) := by decide +kernel
theorem dX4_readHouse_18 : decode cX4_readHouse 18 = .ok (.aload_n 0, 1) := by decide +kernel
theorem dX4_readHouse_19 : decode cX4_readHouse 19 = .ok (.getfield 22, 3) := by decide +kernel
theorem dX4_readHouse_22 : decode cX4_readHouse 22 = .ok (.invokevirtual 101, 3) := by decide +kernel
theorem dX4_readHouse_25 : decode cX4_readHouse 25 = .ok (.aload_n 0, 1) := by decide +kernel
theorem dX4_readHouse_26 : decode cX4_readHouse 26 = .ok (.iload_n 2, 1) := by decide +kernel
theorem dX4_readHouse_27 : decode cX4_readHouse 27 = .ok (.invokevirtual 142, 3) := by decide +kernel
theorem dX4_readHouse_30 : decode cX4_readHouse 30 = .ok (.ifCond .eq 14, 3) := by decide +kernel
theorem dX4_readHouse_33 : decode cX4_readHouse 33 = .ok (.aload_n 0, 1) := by decide +kernel
theorem dX4_readHouse_34 : decode cX4_readHouse 34 = .ok (.bipush 10, 2) := by decide +kernel
theorem dX4_readHouse_36 : decode cX4_readHouse 36 = .ok (.bipush 9, 2) := by decide +kernel
theorem dX4_readHouse_38 : decode cX4_readHouse 38 = .ok (.invokevirtual 130, 3) := by decide +kernel
theorem dX4_readHouse_41 : decode cX4_readHouse 41 = .ok (.ifCond .ne 5, 3) := by decide +kernel
theorem dX4_readHouse_44 : decode cX4_readHouse 44 = .ok (.iconst 0, 1) := by decide +kernel
theorem dX4_readHouse_45 : decode cX4_readHouse 45 = .ok (.ireturn, 1) := by decide +kernel
theorem dX4_readHouse_46 : decode cX4_readHouse 46 = .ok (.aload_n 1, 1) := by decide +kernel
theorem dX4_readHouse_47 : decode cX4_readHouse 47 = .ok (.getfield 145, 3) := by decide +kernel
theorem dX4_readHouse_50 : decode cX4_readHouse 50 = .ok (.iload_n 2, 1) := by decide +kernel
theorem dX4_readHouse_51 : decode cX4_readHouse 51 = .ok (.aload_n 0, 1) := by decide +kernel
theorem dX4_readHouse_52 : decode cX4_readHouse 52 = .ok (.getfield 47, 3) := by decide +kernel
theorem dX4_readHouse_55 : decode cX4_readHouse 55 = .ok (.iastore, 1) := by decide +kernel
theorem dX4_readHouse_56 : decode cX4_readHouse 56 = .ok (.aload_n 1, 1) := by decide +kernel
theorem dX4_readHouse_57 : decode cX4_readHouse 57 = .ok (.dup, 1) := by decide +kernel
theorem dX4_readHouse_58 : decode cX4_readHouse 58 = .ok (.getfield 139, 3) := by decide +kernel
theorem dX4_readHouse_61 : decode cX4_readHouse 61 = .ok (.iconst 1, 1) := by decide +kernel
theorem dX4_readHouse_62 : decode cX4_readHouse 62 = .ok (.iadd, 1) := by decide +kernel
theorem dX4_readHouse_63 : decode cX4_readHouse 63 = .ok (.putfield 139, 3) := by decide +kernel
theorem dX4_readHouse_66 : decode cX4_readHouse 66 = .ok (.aload_n 0, 1) := by decide +kernel
theorem dX4_readHouse_67 : decode cX4_readHouse 67 = .ok (.aload_n 1, 1) := by decide +kernel
theorem dX4_readHouse_68 : decode cX4_readHouse 68 = .ok (.iload_n 2, 1) := by decide +kernel
theorem dX4_readHouse_69 : decode cX4_readHouse 69 = .ok (.invokevirtual 148, 3) := by decide +kernel
theorem dX4_readHouse_72 : decode cX4_readHouse 72 = .ok (.ifCond .eq 16, 3) := by decide +kernel
theorem dX4_readHouse_75 : decode cX4_readHouse 75 = .ok (.aload_n 0, 1) := by decide +kernel
theorem dX4_readHouse_76 : decode cX4_readHouse 76 = .ok (.aload_n 1, 1) := by decide +kernel
theorem dX4_readHouse_77 : decode cX4_readHouse 77 = .ok (.iload_n 2, 1) := by decide +kernel
theorem dX4_readHouse_78 : decode cX4_readHouse 78 = .ok (.invokevirtual 152, 3) := by decide +kernel
theorem dX4_readHouse_81 : decode cX4_readHouse 81 = .ok (.ifCond .eq 7, 3) := by decide +kernel
theorem dX4_readHouse_84 : decode cX4_readHouse 84 = .ok (.iconst 1, 1) := by decide +kernel
theorem dX4_readHouse_85 : decode cX4_readHouse 85 = .ok (.goto 4, 3) := by decide +kernel
theorem dX4_readHouse_88 : decode cX4_readHouse 88 = .ok (.iconst 0, 1) := by decide +kernel
theorem dX4_readHouse_89 : decode cX4_readHouse 89 = .ok (.ireturn, 1) := by decide +kernel
theorem wl_RX4_139 : Cond.fieldLink RX4 139 (TX1 3).1 (TX1 3).2.1 (TX1 3).2.2.1 ∈ TB := tbm 304 (by decide +kernel) (by decide +kernel)
theorem wm_X4_readHolder : Cond.instanceMethod yX4_readHolder ∈ TB ∧ Cond.selects yX4_readHolder.cls yX4_readHolder yX4_readHolder ∈ TB ∧ Cond.initialized yX4_readHolder.cls ∈ TB ∧ Cond.code yX4_readHolder cX4_readHolder 2 (some .boolean) ∈ TB ∧ (yX4_readHolder.cls ≠ "java/lang/invoke/MethodHandle" ∧ yX4_readHolder.cls ≠ "java/lang/invoke/VarHandle" ∧ (parseMethodDescriptor yX4_readHolder.desc).map (fun d => d.parameters.length) = some 1) ∧ 2 ≤ 21 := ⟨tbm 907 (by decide +kernel) (by decide +kernel), tbm 15 (by decide +kernel) (by decide +kernel), tbm 135 (by decide +kernel) (by decide +kernel), tbm 908 (by decide +kernel) (by decide +kernel), by decide +kernel, by decide⟩
theorem wi_RX4_142 : Iv RX4 142 yX4_readHolder cX4_readHolder 2 (some .boolean) 1 := ⟨tbm 905 (by decide +kernel) (by decide +kernel), wm_X4_readHolder⟩
theorem wl_RX4_145 : Cond.fieldLink RX4 145 (TX1 8).1 (TX1 8).2.1 (TX1 8).2.2.1 ∈ TB := tbm 321 (by decide +kernel) (by decide +kernel)
theorem wm_X4_readWatches : Cond.instanceMethod yX4_readWatches ∈ TB ∧ Cond.selects yX4_readWatches.cls yX4_readWatches yX4_readWatches ∈ TB ∧ Cond.initialized yX4_readWatches.cls ∈ TB ∧ Cond.code yX4_readWatches cX4_readWatches 4 (some .boolean) ∈ TB ∧ (yX4_readWatches.cls ≠ "java/lang/invoke/MethodHandle" ∧ yX4_readWatches.cls ≠ "java/lang/invoke/VarHandle" ∧ (parseMethodDescriptor yX4_readWatches.desc).map (fun d => d.parameters.length) = some 2) ∧ 4 ≤ 21 := ⟨tbm 911 (by decide +kernel) (by decide +kernel), tbm 16 (by decide +kernel) (by decide +kernel), tbm 135 (by decide +kernel) (by decide +kernel), tbm 912 (by decide +kernel) (by decide +kernel), by decide +kernel, by decide⟩
theorem wi_RX4_148 : Iv RX4 148 yX4_readWatches cX4_readWatches 4 (some .boolean) 2 := ⟨tbm 909 (by decide +kernel) (by decide +kernel), wm_X4_readWatches⟩
theorem wm_X4_readStock : Cond.instanceMethod yX4_readStock ∈ TB ∧ Cond.selects yX4_readStock.cls yX4_readStock yX4_readStock ∈ TB ∧ Cond.initialized yX4_readStock.cls ∈ TB ∧ Cond.code yX4_readStock cX4_readStock 4 (some .boolean) ∈ TB ∧ (yX4_readStock.cls ≠ "java/lang/invoke/MethodHandle" ∧ yX4_readStock.cls ≠ "java/lang/invoke/VarHandle" ∧ (parseMethodDescriptor yX4_readStock.desc).map (fun d => d.parameters.length) = some 2) ∧ 4 ≤ 21 := ⟨tbm 920 (by decide +kernel) (by decide +kernel), tbm 17 (by decide +kernel) (by decide +kernel), tbm 135 (by decide +kernel) (by decide +kernel), tbm 921 (by decide +kernel) (by decide +kernel), by decide +kernel, by decide⟩
theorem wi_RX4_152 : Iv RX4 152 yX4_readStock cX4_readStock 4 (some .boolean) 2 := ⟨tbm 918 (by decide +kernel) (by decide +kernel), wm_X4_readStock⟩
def mX4_readHouse (t : Nat) (p1 : Nat) (σ : St_) : Option (Bool × St_) :=
 (bnd (σ.1 p1 3) fun v1 =>
 (if v1 < (5 : Int32) then
 ((mX10_next (t + 2) σ).bind fun σ2 =>
 ((mX4_readHolder t v1 σ2).bind fun r3 =>
 (if r3.1 = true then
 ((mX4_readNumberOf t (10 : Int32) (9 : Int32) r3.2).bind fun r4 =>
 (if r4.1 = true then
 (if bin v1 5 = true then bnd (sI r4.2 (p1 + 4) v1.toNatClampNeg (r4.2.1 t 9)) fun σ5 =>
 (bnd (sI σ5 p1 3 ((σ5.1 p1 3) + (1 : Int32))) fun σ6 =>
 ((mX4_readWatches t p1 v1 σ6).bind fun r7 =>
 (if r7.1 = true then
 ((mX4_readStock t p1 v1 r7.2).bind fun r8 =>
 (if r8.1 = true then
 (some (true, r8.2))
 else (some (false, r8.2))))
 else (some (false, r7.2)))))
 else none)
 else (some (false, r4.2))))
 else (some (false, r3.2)))))
 else ((mX10_refuse (t + 2) σ).bind fun r9 =>
 (some (r9.1, r9.2)))))
set_option maxHeartbeats 4000000 in
theorem rX4_readHouse (t : Nat) (p1 : Nat) (hT : LY4 sh P t) (hp1 : LY1 sh P p1) : Rj l D cA h0 ad yX4_readHouse cX4_readHouse 3 (some .boolean) false 6 0 0 (fun b => (some (.int (b2i b.1)), sh, P, b.2)) [.ref (h0 + t), .ref (h0 + p1)] sh P σ (mX4_readHouse t p1 σ) := by
  rw [mX4_readHouse]
  refine Rj.of (by decide) (fun h => by cases h) (Nat.le_of_ble_eq_true rfl) ?_
  refine tj_lv0 (lv' := [(0, .ref (h0 + t)), (1, .ref (h0 + p1))]) rfl ?_
  refine tj_aload_n (q := 1) dX4_readHouse_0 rfl (i := 1) rfl (pl := 1) rfl ?_
  refine tj_getI (q := 4) (hp1).s fok_1_3 wl_RX4_139 dX4_readHouse_1 rfl ?_
  refine tj_topI (fun v1 => ?_)
  refine tj_istore_n (q := 5) dX4_readHouse_4 rfl (i := 2) rfl (by decide) rfl ?_
  refine tj_iload_n (q := 6) dX4_readHouse_5 rfl (i := 2) rfl (pl := 0) rfl ?_
  refine tj_iconst (q := 7) (v := 5) dX4_readHouse_6 rfl (by decide) ?_
  refine tj_icmp_lt (tgt := 18) (q := 10) dX4_readHouse_7 (by decide) rfl ?_ ?_
  · refine tj_aload_n (q := 19) dX4_readHouse_18 rfl (i := 0) rfl (pl := 1) rfl ?_
    refine tj_getR (q := 22) (hT).s (hT).p_tokens fok_4_1 wl_RX4_22 dX4_readHouse_19 rfl ?_
    refine tj_callV (q := 25) (kj_V (As := []) (rest := []) (t := (t + 2)) wi_RX4_101 ((hT).o_tokens).s rfl (rX10_next (t + 2) ((hT).o_tokens)) rfl (Nat.le_of_ble_eq_true rfl) ⟨Nat.le_of_ble_eq_true rfl, Nat.le_of_ble_eq_true rfl⟩ (Nat.le_of_ble_eq_true rfl) dX4_readHouse_22) rfl (fun σ2 => ?_)
    refine tj_aload_n (q := 26) dX4_readHouse_25 rfl (i := 0) rfl (pl := 1) rfl ?_
    refine tj_iload_n (q := 27) dX4_readHouse_26 rfl (i := 2) rfl (pl := 0) rfl ?_
    refine tj_callZ (q := 30) (kj_V (As := [.int v1]) (rest := []) (t := t) wi_RX4_142 (hT).s rfl (rX4_readHolder t v1 (hT)) rfl (Nat.le_of_ble_eq_true rfl) ⟨Nat.le_of_ble_eq_true rfl, Nat.le_of_ble_eq_true rfl⟩ (Nat.le_of_ble_eq_true rfl) dX4_readHouse_27) rfl (fun r3 => ?_)
    refine tj_bz (tgt := 44) (q := 33) dX4_readHouse_30 (by decide) rfl ?_ ?_
    · refine tj_aload_n (q := 34) dX4_readHouse_33 rfl (i := 0) rfl (pl := 1) rfl ?_
      refine tj_bipush (q := 36) (v := 10) dX4_readHouse_34 rfl (by decide) ?_
      refine tj_bipush (q := 38) (v := 9) dX4_readHouse_36 rfl (by decide) ?_
      refine tj_callZ (q := 41) (kj_V (As := [.int (10 : Int32), .int (9 : Int32)]) (rest := []) (t := t) wi_RX4_130 (hT).s rfl (rX4_readNumberOf t (10 : Int32) (9 : Int32) (hT)) rfl (Nat.le_of_ble_eq_true rfl) ⟨Nat.le_of_ble_eq_true rfl, Nat.le_of_ble_eq_true rfl⟩ (Nat.le_of_ble_eq_true rfl) dX4_readHouse_38) rfl (fun r4 => ?_)
      refine tj_bnz (tgt := 46) (q := 44) dX4_readHouse_41 (by decide) rfl ?_ ?_
      · refine tj_aload_n (q := 47) dX4_readHouse_46 rfl (i := 1) rfl (pl := 2) rfl ?_
        refine tj_getR (q := 50) (hp1).s (hp1).p_lock fok_1_8 wl_RX4_145 dX4_readHouse_47 rfl ?_
        refine tj_iload_n (q := 51) dX4_readHouse_50 rfl (i := 2) rfl (pl := 0) rfl ?_
        refine tj_aload_n (q := 52) dX4_readHouse_51 rfl (i := 0) rfl (pl := 1) rfl ?_
        refine tj_getI (q := 55) (hT).s fok_4_9 wl_RX4_47 dX4_readHouse_52 rfl ?_
        refine tj_iastore (q := 56) (hp1).s_lock dX4_readHouse_55 rfl (fun σ5 => ?_)
        refine tj_aload_n (q := 57) dX4_readHouse_56 rfl (i := 1) rfl (pl := 2) rfl ?_
        refine tj_dup (q := 58) dX4_readHouse_57 rfl rfl ?_
        refine tj_getI (q := 61) (hp1).s fok_1_3 wl_RX4_139 dX4_readHouse_58 rfl ?_
        refine tj_iconst (q := 62) (v := 1) dX4_readHouse_61 rfl (by decide) ?_
        refine tj_iadd (q := 63) dX4_readHouse_62 rfl ?_
        refine tj_putI (q := 66) (hp1).s fok_1_3 tok_1 fpk_1_3 wl_RX4_139 dX4_readHouse_63 rfl (fun σ6 => ?_)
        refine tj_aload_n (q := 67) dX4_readHouse_66 rfl (i := 0) rfl (pl := 1) rfl ?_
        refine tj_aload_n (q := 68) dX4_readHouse_67 rfl (i := 1) rfl (pl := 2) rfl ?_
        refine tj_iload_n (q := 69) dX4_readHouse_68 rfl (i := 2) rfl (pl := 0) rfl ?_
        refine tj_callZ (q := 72) (kj_V (As := [.ref (h0 + p1), .int v1]) (rest := []) (t := t) wi_RX4_148 (hT).s rfl (rX4_readWatches t p1 v1 (hT) (hp1)) rfl (Nat.le_of_ble_eq_true rfl) ⟨Nat.le_of_ble_eq_true rfl, Nat.le_of_ble_eq_true rfl⟩ (Nat.le_of_ble_eq_true rfl) dX4_readHouse_69) rfl (fun r7 => ?_)
        refine tj_bz (tgt := 88) (q := 75) dX4_readHouse_72 (by decide) rfl ?_ ?_
        · refine tj_aload_n (q := 76) dX4_readHouse_75 rfl (i := 0) rfl (pl := 1) rfl ?_
          refine tj_aload_n (q := 77) dX4_readHouse_76 rfl (i := 1) rfl (pl := 2) rfl ?_
          refine tj_iload_n (q := 78) dX4_readHouse_77 rfl (i := 2) rfl (pl := 0) rfl ?_
          refine tj_callZ (q := 81) (kj_V (As := [.ref (h0 + p1), .int v1]) (rest := []) (t := t) wi_RX4_152 (hT).s rfl (rX4_readStock t p1 v1 (hT) (hp1)) rfl (Nat.le_of_ble_eq_true rfl) ⟨Nat.le_of_ble_eq_true rfl, Nat.le_of_ble_eq_true rfl⟩ (Nat.le_of_ble_eq_true rfl) dX4_readHouse_78) rfl (fun r8 => ?_)
          refine tj_bz (tgt := 88) (q := 84) dX4_readHouse_81 (by decide) rfl ?_ ?_
          · refine tj_iconst (q := 85) (v := 1) dX4_readHouse_84 rfl (by decide) ?_
            refine tj_goto (q := 89) dX4_readHouse_85 (by decide) ?_
            exact tj_zret rfl (by decide) rfl (Nat.le_of_ble_eq_true rfl) (Nat.le_of_ble_eq_true rfl) dX4_readHouse_89
          · refine tj_iconst (q := 89) (v := 0) dX4_readHouse_88 rfl (by decide) ?_
            exact tj_zret rfl (by decide) rfl (Nat.le_of_ble_eq_true rfl) (Nat.le_of_ble_eq_true rfl) dX4_readHouse_89
        · refine tj_iconst (q := 89) (v := 0) dX4_readHouse_88 rfl (by decide) ?_
          exact tj_zret rfl (by decide) rfl (Nat.le_of_ble_eq_true rfl) (Nat.le_of_ble_eq_true rfl) dX4_readHouse_89
      · refine tj_iconst (q := 45) (v := 0) dX4_readHouse_44 rfl (by decide) ?_
        exact tj_zret rfl (by decide) rfl (Nat.le_of_ble_eq_true rfl) (Nat.le_of_ble_eq_true rfl) dX4_readHouse_45
    · refine tj_iconst (q := 45) (v := 0) dX4_readHouse_44 rfl (by decide) ?_
      exact tj_zret rfl (by decide) rfl (Nat.le_of_ble_eq_true rfl) (Nat.le_of_ble_eq_true rfl) dX4_readHouse_45
  · refine tj_aload_n (q := 11) dX4_readHouse_10 rfl (i := 0) rfl (pl := 1) rfl ?_
    refine tj_getR (q := 14) (hT).s (hT).p_tokens fok_4_1 wl_RX4_22 dX4_readHouse_11 rfl ?_
    refine tj_callZ (q := 17) (kj_V (As := []) (rest := []) (t := (t + 2)) wi_RX4_71 ((hT).o_tokens).s rfl (rX10_refuse (t + 2) ((hT).o_tokens)) rfl (Nat.le_of_ble_eq_true rfl) ⟨Nat.le_of_ble_eq_true rfl, Nat.le_of_ble_eq_true rfl⟩ (Nat.le_of_ble_eq_true rfl) dX4_readHouse_14) rfl (fun r9 => ?_)
    exact tj_zret rfl (nar_b2i _) rfl (Nat.le_of_ble_eq_true rfl) (Nat.le_of_ble_eq_true rfl) dX4_readHouse_17

theorem dX4_readThief_0 : decode cX4_readThief 0 = .ok (.aload_n 1, 1) := by decide +kernel
theorem dX4_readThief_1 : decode cX4_readThief 1 = .ok (.getfield 155, 3) := by decide +kernel
theorem dX4_readThief_4 : decode cX4_readThief 4 = .ok (.istore_n 2, 1) := by decide +kernel
theorem dX4_readThief_5 : decode cX4_readThief 5 = .ok (.iload_n 2, 1) := by decide +kernel
theorem dX4_readThief_6 : decode cX4_readThief 6 = .ok (.iconst 4, 1) := by decide +kernel
theorem dX4_readThief_7 : decode cX4_readThief 7 = .ok (.if_icmp .lt 11, 3) := by decide +kernel
theorem dX4_readThief_10 : decode cX4_readThief 10 = .ok (.aload_n 0, 1) := by decide +kernel
theorem dX4_readThief_11 : decode cX4_readThief 11 = .ok (.getfield 22, 3) := by decide +kernel
theorem dX4_readThief_14 : decode cX4_readThief 14 = .ok (.invokevirtual 71, 3) := by decide +kernel
theorem dX4_readThief_17 : decode cX4_readThief 17 = .ok (.ireturn, 1) := by decide +kernel
theorem dX4_readThief_18 : decode cX4_readThief 18 = .ok (.aload_n 0, 1) := by decide +kernel
theorem dX4_readThief_19 : decode cX4_readThief 19 = .ok (.getfield 22, 3) := by decide +kernel
theorem dX4_readThief_22 : decode cX4_readThief 22 = .ok (.invokevirtual 101, 3) := by decide +kernel
theorem dX4_readThief_25 : decode cX4_readThief 25 = .ok (.aload_n 0, 1) := by decide +kernel
theorem dX4_readThief_26 : decode cX4_readThief 26 = .ok (.iconst 5, 1) := by decide +kernel
theorem dX4_readThief_27 : decode cX4_readThief 27 = .ok (.iload_n 2, 1) := by decide +kernel
theorem dX4_readThief_28 : decode cX4_readThief 28 = .ok (.iadd, 1) := by decide +kernel
theorem dX4_readThief_29 : decode cX4_readThief 29 = .ok (.invokevirtual 142, 3) := by decide +kernel
theorem dX4_readThief_32 : decode cX4_readThief 32 = .ok (.ifCond .eq 15, 3) := by decide +kernel
theorem dX4_readThief_35 : decode cX4_readThief 35 = .ok (.aload_n 0, 1) := by decide +kernel
theorem dX4_readThief_36 : decode cX4_readThief 36 = .ok (.bipush 13, 2) := by decide +kernel
theorem dX4_readThief_38 : decode cX4_readThief 38 = .ok (.sipush 999, 3) := by decide +kernel
theorem dX4_readThief_41 : decode cX4_readThief 41 = .ok (.invokevirtual 130, 3) := by decide +kernel
theorem dX4_readThief_44 : decode cX4_readThief 44 = .ok (.ifCond .ne 5, 3) := by decide +kernel
theorem dX4_readThief_47 : decode cX4_readThief 47 = .ok (.iconst 0, 1) := by decide +kernel
theorem dX4_readThief_48 : decode cX4_readThief 48 = .ok (.ireturn, 1) := by decide +kernel
theorem dX4_readThief_49 : decode cX4_readThief 49 = .ok (.aload_n 1, 1) := by decide +kernel
theorem dX4_readThief_50 : decode cX4_readThief 50 = .ok (.getfield 158, 3) := by decide +kernel
theorem dX4_readThief_53 : decode cX4_readThief 53 = .ok (.iload_n 2, 1) := by decide +kernel
theorem dX4_readThief_54 : decode cX4_readThief 54 = .ok (.aload_n 0, 1) := by decide +kernel
theorem dX4_readThief_55 : decode cX4_readThief 55 = .ok (.getfield 47, 3) := by decide +kernel
theorem dX4_readThief_58 : decode cX4_readThief 58 = .ok (.iastore, 1) := by decide +kernel
theorem dX4_readThief_59 : decode cX4_readThief 59 = .ok (.aload_n 0, 1) := by decide +kernel
theorem dX4_readThief_60 : decode cX4_readThief 60 = .ok (.bipush 24, 2) := by decide +kernel
theorem dX4_readThief_62 : decode cX4_readThief 62 = .ok (.bipush 9, 2) := by decide +kernel
theorem dX4_readThief_64 : decode cX4_readThief 64 = .ok (.invokevirtual 130, 3) := by decide +kernel
theorem dX4_readThief_67 : decode cX4_readThief 67 = .ok (.ifCond .ne 5, 3) := by decide +kernel
theorem dX4_readThief_70 : decode cX4_readThief 70 = .ok (.iconst 0, 1) := by decide +kernel
theorem dX4_readThief_71 : decode cX4_readThief 71 = .ok (.ireturn, 1) := by decide +kernel
theorem dX4_readThief_72 : decode cX4_readThief 72 = .ok (.aload_n 1, 1) := by decide +kernel
theorem dX4_readThief_73 : decode cX4_readThief 73 = .ok (.getfield 161, 3) := by decide +kernel
theorem dX4_readThief_76 : decode cX4_readThief 76 = .ok (.iload_n 2, 1) := by decide +kernel
theorem dX4_readThief_77 : decode cX4_readThief 77 = .ok (.aload_n 0, 1) := by decide +kernel
theorem dX4_readThief_78 : decode cX4_readThief 78 = .ok (.getfield 47, 3) := by decide +kernel
theorem dX4_readThief_81 : decode cX4_readThief 81 = .ok (.iastore, 1) := by decide +kernel
theorem dX4_readThief_82 : decode cX4_readThief 82 = .ok (.aload_n 1, 1) := by decide +kernel
theorem dX4_readThief_83 : decode cX4_readThief 83 = .ok (.dup, 1) := by decide +kernel
theorem dX4_readThief_84 : decode cX4_readThief 84 = .ok (.getfield 155, 3) := by decide +kernel
theorem dX4_readThief_87 : decode cX4_readThief 87 = .ok (.iconst 1, 1) := by decide +kernel
theorem dX4_readThief_88 : decode cX4_readThief 88 = .ok (.iadd, 1) := by decide +kernel
theorem dX4_readThief_89 : decode cX4_readThief 89 = .ok (.putfield 155, 3) := by decide +kernel
theorem dX4_readThief_92 : decode cX4_readThief 92 = .ok (.aload_n 0, 1) := by decide +kernel
theorem dX4_readThief_93 : decode cX4_readThief 93 = .ok (.aload_n 1, 1) := by decide +kernel
theorem dX4_readThief_94 : decode cX4_readThief 94 = .ok (.iconst 5, 1) := by decide +kernel
theorem dX4_readThief_95 : decode cX4_readThief 95 = .ok (.iload_n 2, 1) := by decide +kernel
theorem dX4_readThief_96 : decode cX4_readThief 96 = .ok (.iadd, 1) := by decide +kernel
theorem dX4_readThief_97 : decode cX4_readThief 97 = .ok (.invokevirtual 152, 3) := by decide +kernel
theorem dX4_readThief_100 : decode cX4_readThief 100 = .ok (.ireturn, 1) := by decide +kernel
theorem wl_RX4_155 : Cond.fieldLink RX4 155 (TX1 4).1 (TX1 4).2.1 (TX1 4).2.2.1 ∈ TB := tbm 308 (by decide +kernel) (by decide +kernel)
theorem wl_RX4_158 : Cond.fieldLink RX4 158 (TX1 10).1 (TX1 10).2.1 (TX1 10).2.2.1 ∈ TB := tbm 326 (by decide +kernel) (by decide +kernel)
theorem wl_RX4_161 : Cond.fieldLink RX4 161 (TX1 11).1 (TX1 11).2.1 (TX1 11).2.2.1 ∈ TB := tbm 329 (by decide +kernel) (by decide +kernel)
def mX4_readThief (t : Nat) (p1 : Nat) (σ : St_) : Option (Bool × St_) :=
 (bnd (σ.1 p1 4) fun v1 =>
 (if v1 < (4 : Int32) then
 ((mX10_next (t + 2) σ).bind fun σ2 =>
 ((mX4_readHolder t ((5 : Int32) + v1) σ2).bind fun r3 =>
 (if r3.1 = true then
 ((mX4_readNumberOf t (13 : Int32) (999 : Int32) r3.2).bind fun r4 =>
 (if r4.1 = true then
 (if bin v1 4 = true then bnd (sI r4.2 (p1 + 6) v1.toNatClampNeg (r4.2.1 t 9)) fun σ5 =>
 ((mX4_readNumberOf t (24 : Int32) (9 : Int32) σ5).bind fun r6 =>
 (if r6.1 = true then
 (if bin v1 4 = true then bnd (sI r6.2 (p1 + 7) v1.toNatClampNeg (r6.2.1 t 9)) fun σ7 =>
 (bnd (sI σ7 p1 4 ((σ7.1 p1 4) + (1 : Int32))) fun σ8 =>
 ((mX4_readStock t p1 ((5 : Int32) + v1) σ8).bind fun r9 =>
 (some (r9.1, r9.2))))
 else none)
 else (some (false, r6.2))))
 else none)
 else (some (false, r4.2))))
 else (some (false, r3.2)))))
 else ((mX10_refuse (t + 2) σ).bind fun r10 =>
 (some (r10.1, r10.2)))))
set_option maxHeartbeats 4000000 in
theorem rX4_readThief (t : Nat) (p1 : Nat) (hT : LY4 sh P t) (hp1 : LY1 sh P p1) : Rj l D cA h0 ad yX4_readThief cX4_readThief 3 (some .boolean) false 6 0 0 (fun b => (some (.int (b2i b.1)), sh, P, b.2)) [.ref (h0 + t), .ref (h0 + p1)] sh P σ (mX4_readThief t p1 σ) := by
  rw [mX4_readThief]
  refine Rj.of (by decide) (fun h => by cases h) (Nat.le_of_ble_eq_true rfl) ?_
  refine tj_lv0 (lv' := [(0, .ref (h0 + t)), (1, .ref (h0 + p1))]) rfl ?_
  refine tj_aload_n (q := 1) dX4_readThief_0 rfl (i := 1) rfl (pl := 1) rfl ?_
  refine tj_getI (q := 4) (hp1).s fok_1_4 wl_RX4_155 dX4_readThief_1 rfl ?_
  refine tj_topI (fun v1 => ?_)
  refine tj_istore_n (q := 5) dX4_readThief_4 rfl (i := 2) rfl (by decide) rfl ?_
  refine tj_iload_n (q := 6) dX4_readThief_5 rfl (i := 2) rfl (pl := 0) rfl ?_
  refine tj_iconst (q := 7) (v := 4) dX4_readThief_6 rfl (by decide) ?_
  refine tj_icmp_lt (tgt := 18) (q := 10) dX4_readThief_7 (by decide) rfl ?_ ?_
  · refine tj_aload_n (q := 19) dX4_readThief_18 rfl (i := 0) rfl (pl := 1) rfl ?_
    refine tj_getR (q := 22) (hT).s (hT).p_tokens fok_4_1 wl_RX4_22 dX4_readThief_19 rfl ?_
    refine tj_callV (q := 25) (kj_V (As := []) (rest := []) (t := (t + 2)) wi_RX4_101 ((hT).o_tokens).s rfl (rX10_next (t + 2) ((hT).o_tokens)) rfl (Nat.le_of_ble_eq_true rfl) ⟨Nat.le_of_ble_eq_true rfl, Nat.le_of_ble_eq_true rfl⟩ (Nat.le_of_ble_eq_true rfl) dX4_readThief_22) rfl (fun σ2 => ?_)
    refine tj_aload_n (q := 26) dX4_readThief_25 rfl (i := 0) rfl (pl := 1) rfl ?_
    refine tj_iconst (q := 27) (v := 5) dX4_readThief_26 rfl (by decide) ?_
    refine tj_iload_n (q := 28) dX4_readThief_27 rfl (i := 2) rfl (pl := 0) rfl ?_
    refine tj_iadd (q := 29) dX4_readThief_28 rfl ?_
    refine tj_callZ (q := 32) (kj_V (As := [.int ((5 : Int32) + v1)]) (rest := []) (t := t) wi_RX4_142 (hT).s rfl (rX4_readHolder t ((5 : Int32) + v1) (hT)) rfl (Nat.le_of_ble_eq_true rfl) ⟨Nat.le_of_ble_eq_true rfl, Nat.le_of_ble_eq_true rfl⟩ (Nat.le_of_ble_eq_true rfl) dX4_readThief_29) rfl (fun r3 => ?_)
    refine tj_bz (tgt := 47) (q := 35) dX4_readThief_32 (by decide) rfl ?_ ?_
    · refine tj_aload_n (q := 36) dX4_readThief_35 rfl (i := 0) rfl (pl := 1) rfl ?_
      refine tj_bipush (q := 38) (v := 13) dX4_readThief_36 rfl (by decide) ?_
      refine tj_sipush (q := 41) (v := 999) dX4_readThief_38 rfl (by decide) ?_
      refine tj_callZ (q := 44) (kj_V (As := [.int (13 : Int32), .int (999 : Int32)]) (rest := []) (t := t) wi_RX4_130 (hT).s rfl (rX4_readNumberOf t (13 : Int32) (999 : Int32) (hT)) rfl (Nat.le_of_ble_eq_true rfl) ⟨Nat.le_of_ble_eq_true rfl, Nat.le_of_ble_eq_true rfl⟩ (Nat.le_of_ble_eq_true rfl) dX4_readThief_41) rfl (fun r4 => ?_)
      refine tj_bnz (tgt := 49) (q := 47) dX4_readThief_44 (by decide) rfl ?_ ?_
      · refine tj_aload_n (q := 50) dX4_readThief_49 rfl (i := 1) rfl (pl := 2) rfl ?_
        refine tj_getR (q := 53) (hp1).s (hp1).p_sack fok_1_10 wl_RX4_158 dX4_readThief_50 rfl ?_
        refine tj_iload_n (q := 54) dX4_readThief_53 rfl (i := 2) rfl (pl := 0) rfl ?_
        refine tj_aload_n (q := 55) dX4_readThief_54 rfl (i := 0) rfl (pl := 1) rfl ?_
        refine tj_getI (q := 58) (hT).s fok_4_9 wl_RX4_47 dX4_readThief_55 rfl ?_
        refine tj_iastore (q := 59) (hp1).s_sack dX4_readThief_58 rfl (fun σ5 => ?_)
        refine tj_aload_n (q := 60) dX4_readThief_59 rfl (i := 0) rfl (pl := 1) rfl ?_
        refine tj_bipush (q := 62) (v := 24) dX4_readThief_60 rfl (by decide) ?_
        refine tj_bipush (q := 64) (v := 9) dX4_readThief_62 rfl (by decide) ?_
        refine tj_callZ (q := 67) (kj_V (As := [.int (24 : Int32), .int (9 : Int32)]) (rest := []) (t := t) wi_RX4_130 (hT).s rfl (rX4_readNumberOf t (24 : Int32) (9 : Int32) (hT)) rfl (Nat.le_of_ble_eq_true rfl) ⟨Nat.le_of_ble_eq_true rfl, Nat.le_of_ble_eq_true rfl⟩ (Nat.le_of_ble_eq_true rfl) dX4_readThief_64) rfl (fun r6 => ?_)
        refine tj_bnz (tgt := 72) (q := 70) dX4_readThief_67 (by decide) rfl ?_ ?_
        · refine tj_aload_n (q := 73) dX4_readThief_72 rfl (i := 1) rfl (pl := 2) rfl ?_
          refine tj_getR (q := 76) (hp1).s (hp1).p_skill fok_1_11 wl_RX4_161 dX4_readThief_73 rfl ?_
          refine tj_iload_n (q := 77) dX4_readThief_76 rfl (i := 2) rfl (pl := 0) rfl ?_
          refine tj_aload_n (q := 78) dX4_readThief_77 rfl (i := 0) rfl (pl := 1) rfl ?_
          refine tj_getI (q := 81) (hT).s fok_4_9 wl_RX4_47 dX4_readThief_78 rfl ?_
          refine tj_iastore (q := 82) (hp1).s_skill dX4_readThief_81 rfl (fun σ7 => ?_)
          refine tj_aload_n (q := 83) dX4_readThief_82 rfl (i := 1) rfl (pl := 2) rfl ?_
          refine tj_dup (q := 84) dX4_readThief_83 rfl rfl ?_
          refine tj_getI (q := 87) (hp1).s fok_1_4 wl_RX4_155 dX4_readThief_84 rfl ?_
          refine tj_iconst (q := 88) (v := 1) dX4_readThief_87 rfl (by decide) ?_
          refine tj_iadd (q := 89) dX4_readThief_88 rfl ?_
          refine tj_putI (q := 92) (hp1).s fok_1_4 tok_1 fpk_1_4 wl_RX4_155 dX4_readThief_89 rfl (fun σ8 => ?_)
          refine tj_aload_n (q := 93) dX4_readThief_92 rfl (i := 0) rfl (pl := 1) rfl ?_
          refine tj_aload_n (q := 94) dX4_readThief_93 rfl (i := 1) rfl (pl := 2) rfl ?_
          refine tj_iconst (q := 95) (v := 5) dX4_readThief_94 rfl (by decide) ?_
          refine tj_iload_n (q := 96) dX4_readThief_95 rfl (i := 2) rfl (pl := 0) rfl ?_
          refine tj_iadd (q := 97) dX4_readThief_96 rfl ?_
          refine tj_callZ (q := 100) (kj_V (As := [.ref (h0 + p1), .int ((5 : Int32) + v1)]) (rest := []) (t := t) wi_RX4_152 (hT).s rfl (rX4_readStock t p1 ((5 : Int32) + v1) (hT) (hp1)) rfl (Nat.le_of_ble_eq_true rfl) ⟨Nat.le_of_ble_eq_true rfl, Nat.le_of_ble_eq_true rfl⟩ (Nat.le_of_ble_eq_true rfl) dX4_readThief_97) rfl (fun r9 => ?_)
          exact tj_zret rfl (nar_b2i _) rfl (Nat.le_of_ble_eq_true rfl) (Nat.le_of_ble_eq_true rfl) dX4_readThief_100
        · refine tj_iconst (q := 71) (v := 0) dX4_readThief_70 rfl (by decide) ?_
          exact tj_zret rfl (by decide) rfl (Nat.le_of_ble_eq_true rfl) (Nat.le_of_ble_eq_true rfl) dX4_readThief_71
      · refine tj_iconst (q := 48) (v := 0) dX4_readThief_47 rfl (by decide) ?_
        exact tj_zret rfl (by decide) rfl (Nat.le_of_ble_eq_true rfl) (Nat.le_of_ble_eq_true rfl) dX4_readThief_48
    · refine tj_iconst (q := 48) (v := 0) dX4_readThief_47 rfl (by decide) ?_
      exact tj_zret rfl (by decide) rfl (Nat.le_of_ble_eq_true rfl) (Nat.le_of_ble_eq_true rfl) dX4_readThief_48
  · refine tj_aload_n (q := 11) dX4_readThief_10 rfl (i := 0) rfl (pl := 1) rfl ?_
    refine tj_getR (q := 14) (hT).s (hT).p_tokens fok_4_1 wl_RX4_22 dX4_readThief_11 rfl ?_
    refine tj_callZ (q := 17) (kj_V (As := []) (rest := []) (t := (t + 2)) wi_RX4_71 ((hT).o_tokens).s rfl (rX10_refuse (t + 2) ((hT).o_tokens)) rfl (Nat.le_of_ble_eq_true rfl) ⟨Nat.le_of_ble_eq_true rfl, Nat.le_of_ble_eq_true rfl⟩ (Nat.le_of_ble_eq_true rfl) dX4_readThief_14) rfl (fun r10 => ?_)
    exact tj_zret rfl (nar_b2i _) rfl (Nat.le_of_ble_eq_true rfl) (Nat.le_of_ble_eq_true rfl) dX4_readThief_17

theorem dX4_readDear_0 : decode cX4_readDear 0 = .ok (.aload_n 0, 1) := by decide +kernel
theorem dX4_readDear_1 : decode cX4_readDear 1 = .ok (.getfield 41, 3) := by decide +kernel
theorem dX4_readDear_4 : decode cX4_readDear 4 = .ok (.bipush 20, 2) := by decide +kernel
theorem dX4_readDear_6 : decode cX4_readDear 6 = .ok (.if_icmp .lt 11, 3) := by decide +kernel
theorem dX4_readDear_9 : decode cX4_readDear 9 = .ok (.aload_n 0, 1) := by decide +kernel
theorem dX4_readDear_10 : decode cX4_readDear 10 = .ok (.getfield 22, 3) := by decide +kernel
theorem dX4_readDear_13 : decode cX4_readDear 13 = .ok (.invokevirtual 71, 3) := by decide +kernel
theorem dX4_readDear_16 : decode cX4_readDear 16 = .ok (.ireturn, 1) := by decide +kernel
theorem dX4_readDear_17 : decode cX4_readDear 17 = .ok (.aload_n 0, 1) := by decide +kernel
theorem dX4_readDear_18 : decode cX4_readDear 18 = .ok (.getfield 22, 3) := by decide +kernel
theorem dX4_readDear_21 : decode cX4_readDear 21 = .ok (.invokevirtual 101, 3) := by decide +kernel
theorem dX4_readDear_24 : decode cX4_readDear 24 = .ok (.aload_n 0, 1) := by decide +kernel
theorem dX4_readDear_25 : decode cX4_readDear 25 = .ok (.aload_n 0, 1) := by decide +kernel
theorem dX4_readDear_26 : decode cX4_readDear 26 = .ok (.getfield 27, 3) := by decide +kernel
theorem dX4_readDear_29 : decode cX4_readDear 29 = .ok (.aload_n 1, 1) := by decide +kernel
theorem dX4_readDear_30 : decode cX4_readDear 30 = .ok (.getfield 118, 3) := by decide +kernel
theorem dX4_readDear_33 : decode cX4_readDear 33 = .ok (.invokevirtual 124, 3) := by decide +kernel
theorem dX4_readDear_36 : decode cX4_readDear 36 = .ok (.ifCond .ne 5, 3) := by decide +kernel
theorem dX4_readDear_39 : decode cX4_readDear 39 = .ok (.iconst 0, 1) := by decide +kernel
theorem dX4_readDear_40 : decode cX4_readDear 40 = .ok (.ireturn, 1) := by decide +kernel
theorem dX4_readDear_41 : decode cX4_readDear 41 = .ok (.aload_n 0, 1) := by decide +kernel
theorem dX4_readDear_42 : decode cX4_readDear 42 = .ok (.getfield 47, 3) := by decide +kernel
theorem dX4_readDear_45 : decode cX4_readDear 45 = .ok (.istore_n 2, 1) := by decide +kernel
theorem dX4_readDear_46 : decode cX4_readDear 46 = .ok (.aload_n 0, 1) := by decide +kernel
theorem dX4_readDear_47 : decode cX4_readDear 47 = .ok (.getfield 22, 3) := by decide +kernel
theorem dX4_readDear_50 : decode cX4_readDear 50 = .ok (.invokevirtual 101, 3) := by decide +kernel
theorem dX4_readDear_53 : decode cX4_readDear 53 = .ok (.aload_n 0, 1) := by decide +kernel
theorem dX4_readDear_54 : decode cX4_readDear 54 = .ok (.getfield 22, 3) := by decide +kernel
theorem dX4_readDear_57 : decode cX4_readDear 57 = .ok (.bipush 14, 2) := by decide +kernel
theorem dX4_readDear_59 : decode cX4_readDear 59 = .ok (.invokevirtual 121, 3) := by decide +kernel
theorem dX4_readDear_62 : decode cX4_readDear 62 = .ok (.ifCond .eq 18, 3) := by decide +kernel
theorem dX4_readDear_65 : decode cX4_readDear 65 = .ok (.aload_n 0, 1) := by decide +kernel
theorem dX4_readDear_66 : decode cX4_readDear 66 = .ok (.aload_n 0, 1) := by decide +kernel
theorem dX4_readDear_67 : decode cX4_readDear 67 = .ok (.getfield 30, 3) := by decide +kernel
theorem dX4_readDear_70 : decode cX4_readDear 70 = .ok (.aload_n 0, 1) := by decide +kernel
theorem dX4_readDear_71 : decode cX4_readDear 71 = .ok (.getfield 37, 3) := by decide +kernel
theorem dX4_readDear_74 : decode cX4_readDear 74 = .ok (.invokevirtual 124, 3) := by decide +kernel
theorem dX4_readDear_77 : decode cX4_readDear 77 = .ok (.ifCond .ne 5, 3) := by decide +kernel
theorem dX4_readDear_80 : decode cX4_readDear 80 = .ok (.iconst 0, 1) := by decide +kernel
theorem dX4_readDear_81 : decode cX4_readDear 81 = .ok (.ireturn, 1) := by decide +kernel
theorem dX4_readDear_82 : decode cX4_readDear 82 = .ok (.aload_n 0, 1) := by decide +kernel
theorem dX4_readDear_83 : decode cX4_readDear 83 = .ok (.getfield 33, 3) := by decide +kernel
theorem dX4_readDear_86 : decode cX4_readDear 86 = .ok (.aload_n 0, 1) := by decide +kernel
theorem dX4_readDear_87 : decode cX4_readDear 87 = .ok (.getfield 47, 3) := by decide +kernel
theorem dX4_readDear_90 : decode cX4_readDear 90 = .ok (.iaload, 1) := by decide +kernel
theorem dX4_readDear_91 : decode cX4_readDear 91 = .ok (.bipush 10, 2) := by decide +kernel
theorem dX4_readDear_93 : decode cX4_readDear 93 = .ok (.imul, 1) := by decide +kernel
theorem dX4_readDear_94 : decode cX4_readDear 94 = .ok (.iload_n 2, 1) := by decide +kernel
theorem dX4_readDear_95 : decode cX4_readDear 95 = .ok (.iadd, 1) := by decide +kernel
theorem dX4_readDear_96 : decode cX4_readDear 96 = .ok (.istore_n 3, 1) := by decide +kernel
theorem dX4_readDear_97 : decode cX4_readDear 97 = .ok (.aload_n 1, 1) := by decide +kernel
theorem dX4_readDear_98 : decode cX4_readDear 98 = .ok (.getfield 179, 3) := by decide +kernel
theorem dX4_readDear_101 : decode cX4_readDear 101 = .ok (.iload_n 3, 1) := by decide +kernel
theorem dX4_readDear_102 : decode cX4_readDear 102 = .ok (.iaload, 1) := by decide +kernel
theorem dX4_readDear_103 : decode cX4_readDear 103 = .ok (.iconst (-1), 1) := by decide +kernel
theorem dX4_readDear_104 : decode cX4_readDear 104 = .ok (.if_icmp .eq 12, 3) := by decide +kernel
theorem dX4_readDear_107 : decode cX4_readDear 107 = .ok (.aload_n 0, 1) := by decide +kernel
theorem dX4_readDear_108 : decode cX4_readDear 108 = .ok (.getfield 22, 3) := by decide +kernel
theorem dX4_readDear_111 : decode cX4_readDear 111 = .ok (.iconst 3, 1) := by decide +kernel
theorem dX4_readDear_112 : decode cX4_readDear 112 = .ok (.invokevirtual 170, 3) := by decide +kernel
theorem dX4_readDear_115 : decode cX4_readDear 115 = .ok (.ireturn, 1) := by decide +kernel
theorem dX4_readDear_116 : decode cX4_readDear 116 = .ok (.aload_n 0, 1) := by decide +kernel
theorem dX4_readDear_117 : decode cX4_readDear 117 = .ok (.getfield 22, 3) := by decide +kernel
theorem dX4_readDear_120 : decode cX4_readDear 120 = .ok (.invokevirtual 101, 3) := by decide +kernel
theorem dX4_readDear_123 : decode cX4_readDear 123 = .ok (.aload_n 0, 1) := by decide +kernel
theorem dX4_readDear_124 : decode cX4_readDear 124 = .ok (.iconst 0, 1) := by decide +kernel
theorem dX4_readDear_125 : decode cX4_readDear 125 = .ok (.bipush 99, 2) := by decide +kernel
theorem dX4_readDear_127 : decode cX4_readDear 127 = .ok (.invokevirtual 104, 3) := by decide +kernel
theorem dX4_readDear_130 : decode cX4_readDear 130 = .ok (.ifCond .ne 5, 3) := by decide +kernel
theorem dX4_readDear_133 : decode cX4_readDear 133 = .ok (.iconst 0, 1) := by decide +kernel
theorem dX4_readDear_134 : decode cX4_readDear 134 = .ok (.ireturn, 1) := by decide +kernel
theorem dX4_readDear_135 : decode cX4_readDear 135 = .ok (.aload_n 0, 1) := by decide +kernel
theorem dX4_readDear_136 : decode cX4_readDear 136 = .ok (.getfield 22, 3) := by decide +kernel
theorem dX4_readDear_139 : decode cX4_readDear 139 = .ok (.invokevirtual 101, 3) := by decide +kernel
theorem dX4_readDear_142 : decode cX4_readDear 142 = .ok (.aload_n 1, 1) := by decide +kernel
theorem dX4_readDear_143 : decode cX4_readDear 143 = .ok (.getfield 179, 3) := by decide +kernel
theorem dX4_readDear_146 : decode cX4_readDear 146 = .ok (.iload_n 3, 1) := by decide +kernel
theorem dX4_readDear_147 : decode cX4_readDear 147 = .ok (.aload_n 0, 1) := by decide +kernel
theorem dX4_readDear_148 : decode cX4_readDear 148 = .ok (.getfield 47, 3) := by decide +kernel
theorem dX4_readDear_151 : decode cX4_readDear 151 = .ok (.iastore, 1) := by decide +kernel
theorem dX4_readDear_152 : decode cX4_readDear 152 = .ok (.aload_n 0, 1) := by decide +kernel
theorem dX4_readDear_153 : decode cX4_readDear 153 = .ok (.dup, 1) := by decide +kernel
theorem dX4_readDear_154 : decode cX4_readDear 154 = .ok (.getfield 41, 3) := by decide +kernel
theorem dX4_readDear_157 : decode cX4_readDear 157 = .ok (.iconst 1, 1) := by decide +kernel
theorem dX4_readDear_158 : decode cX4_readDear 158 = .ok (.iadd, 1) := by decide +kernel
theorem dX4_readDear_159 : decode cX4_readDear 159 = .ok (.putfield 41, 3) := by decide +kernel
theorem dX4_readDear_162 : decode cX4_readDear 162 = .ok (.iconst 1, 1) := by decide +kernel
theorem dX4_readDear_163 : decode cX4_readDear 163 = .ok (.ireturn, 1) := by decide +kernel
theorem wl_RX4_41 : Cond.fieldLink RX4 41 (TX4 7).1 (TX4 7).2.1 (TX4 7).2.2.1 ∈ TB := tbm 230 (by decide +kernel) (by decide +kernel)
theorem wl_RX4_179 : Cond.fieldLink RX4 179 (TX1 12).1 (TX1 12).2.1 (TX1 12).2.2.1 ∈ TB := tbm 332 (by decide +kernel) (by decide +kernel)
def mX4_readDear (t : Nat) (p1 : Nat) (σ : St_) : Option (Bool × St_) :=
 (if (σ.1 t 7) < (20 : Int32) then
 ((mX10_next (t + 2) σ).bind fun σ1 =>
 ((mX4_readOldName t (t + 8) 10 (σ1.1 p1 2) σ1).bind fun r2 =>
 (if r2.1 = true then
 (bnd (r2.2.1 t 9) fun v3 =>
 ((mX10_next (t + 2) r2.2).bind fun σ4 =>
 ((mX10_takeWord (t + 2) (14 : Int32) σ4).bind fun r5 =>
 (if r5.1 = true then
 ((mX4_readOldName t (t + 9) 9 (r5.2.1 t 6) r5.2).bind fun r6 =>
 (if r6.1 = true then
 (bnd (r6.2.1 t 9) fun v7 =>
 (if bin v7 9 = true then bnd (r6.2.1 (t + 10) v7.toNatClampNeg) fun v8 =>
 (bnd ((v8 * (10 : Int32)) + v3) fun v9 =>
 (if bin v9 90 = true then bnd (r6.2.1 (p1 + 8) v9.toNatClampNeg) fun v10 =>
 (if v10 = (-1 : Int32) then
 ((mX10_next (t + 2) r6.2).bind fun σ11 =>
 ((mX4_readNumber t (0 : Int32) (99 : Int32) σ11).bind fun r12 =>
 (if r12.1 = true then
 ((mX10_next (t + 2) r12.2).bind fun σ13 =>
 (if bin v9 90 = true then bnd (sI σ13 (p1 + 8) v9.toNatClampNeg (σ13.1 t 9)) fun σ14 =>
 (bnd (sI σ14 t 7 ((σ14.1 t 7) + (1 : Int32))) fun σ15 =>
 (some (true, σ15)))
 else none))
 else (some (false, r12.2)))))
 else ((mX10_fail (t + 2) (3 : Int32) r6.2).bind fun r16 =>
 (some (r16.1, r16.2))))
 else none))
 else none))
 else (some (false, r6.2))))
 else (some (false, r5.2))))))
 else (some (false, r2.2)))))
 else ((mX10_refuse (t + 2) σ).bind fun r17 =>
 (some (r17.1, r17.2))))
set_option maxHeartbeats 4000000 in
theorem rX4_readDear (t : Nat) (p1 : Nat) (hT : LY4 sh P t) (hp1 : LY1 sh P p1) : Rj l D cA h0 ad yX4_readDear cX4_readDear 4 (some .boolean) false 5 0 0 (fun b => (some (.int (b2i b.1)), sh, P, b.2)) [.ref (h0 + t), .ref (h0 + p1)] sh P σ (mX4_readDear t p1 σ) := by
  rw [mX4_readDear]
  refine Rj.of (by decide) (fun h => by cases h) (Nat.le_of_ble_eq_true rfl) ?_
  refine tj_lv0 (lv' := [(0, .ref (h0 + t)), (1, .ref (h0 + p1))]) rfl ?_
  refine tj_aload_n (q := 1) dX4_readDear_0 rfl (i := 0) rfl (pl := 0) rfl ?_
  refine tj_getI (q := 4) (hT).s fok_4_7 wl_RX4_41 dX4_readDear_1 rfl ?_
  refine tj_bipush (q := 6) (v := 20) dX4_readDear_4 rfl (by decide) ?_
  refine tj_icmp_lt (tgt := 17) (q := 9) dX4_readDear_6 (by decide) rfl ?_ ?_
  · refine tj_aload_n (q := 18) dX4_readDear_17 rfl (i := 0) rfl (pl := 0) rfl ?_
    refine tj_getR (q := 21) (hT).s (hT).p_tokens fok_4_1 wl_RX4_22 dX4_readDear_18 rfl ?_
    refine tj_callV (q := 24) (kj_V (As := []) (rest := []) (t := (t + 2)) wi_RX4_101 ((hT).o_tokens).s rfl (rX10_next (t + 2) ((hT).o_tokens)) rfl (Nat.le_of_ble_eq_true rfl) ⟨Nat.le_of_ble_eq_true rfl, Nat.le_of_ble_eq_true rfl⟩ (Nat.le_of_ble_eq_true rfl) dX4_readDear_21) rfl (fun σ1 => ?_)
    refine tj_aload_n (q := 25) dX4_readDear_24 rfl (i := 0) rfl (pl := 0) rfl ?_
    refine tj_aload_n (q := 26) dX4_readDear_25 rfl (i := 0) rfl (pl := 0) rfl ?_
    refine tj_getR (q := 29) (hT).s (hT).p_thingNames fok_4_3 wl_RX4_27 dX4_readDear_26 rfl ?_
    refine tj_aload_n (q := 30) dX4_readDear_29 rfl (i := 1) rfl (pl := 1) rfl ?_
    refine tj_getI (q := 33) (hp1).s fok_1_2 wl_RX4_118 dX4_readDear_30 rfl ?_
    refine tj_callZ (q := 36) (kj_V (As := [.ref (h0 + (t + 8)), .int (σ1.1 p1 2)]) (rest := []) (t := t) wi_RX4_124 (hT).s rfl (rX4_readOldName t (t + 8) 10 (σ1.1 p1 2) (hT) ((hT).s_thingNames)) rfl (Nat.le_of_ble_eq_true rfl) ⟨Nat.le_of_ble_eq_true rfl, Nat.le_of_ble_eq_true rfl⟩ (Nat.le_of_ble_eq_true rfl) dX4_readDear_33) rfl (fun r2 => ?_)
    refine tj_bnz (tgt := 41) (q := 39) dX4_readDear_36 (by decide) rfl ?_ ?_
    · refine tj_aload_n (q := 42) dX4_readDear_41 rfl (i := 0) rfl (pl := 0) rfl ?_
      refine tj_getI (q := 45) (hT).s fok_4_9 wl_RX4_47 dX4_readDear_42 rfl ?_
      refine tj_topI (fun v3 => ?_)
      refine tj_istore_n (q := 46) dX4_readDear_45 rfl (i := 2) rfl (by decide) rfl ?_
      refine tj_aload_n (q := 47) dX4_readDear_46 rfl (i := 0) rfl (pl := 1) rfl ?_
      refine tj_getR (q := 50) (hT).s (hT).p_tokens fok_4_1 wl_RX4_22 dX4_readDear_47 rfl ?_
      refine tj_callV (q := 53) (kj_V (As := []) (rest := []) (t := (t + 2)) wi_RX4_101 ((hT).o_tokens).s rfl (rX10_next (t + 2) ((hT).o_tokens)) rfl (Nat.le_of_ble_eq_true rfl) ⟨Nat.le_of_ble_eq_true rfl, Nat.le_of_ble_eq_true rfl⟩ (Nat.le_of_ble_eq_true rfl) dX4_readDear_50) rfl (fun σ4 => ?_)
      refine tj_aload_n (q := 54) dX4_readDear_53 rfl (i := 0) rfl (pl := 1) rfl ?_
      refine tj_getR (q := 57) (hT).s (hT).p_tokens fok_4_1 wl_RX4_22 dX4_readDear_54 rfl ?_
      refine tj_bipush (q := 59) (v := 14) dX4_readDear_57 rfl (by decide) ?_
      refine tj_callZ (q := 62) (kj_V (As := [.int (14 : Int32)]) (rest := []) (t := (t + 2)) wi_RX4_121 ((hT).o_tokens).s rfl (rX10_takeWord (t + 2) (14 : Int32) ((hT).o_tokens)) rfl (Nat.le_of_ble_eq_true rfl) ⟨Nat.le_of_ble_eq_true rfl, Nat.le_of_ble_eq_true rfl⟩ (Nat.le_of_ble_eq_true rfl) dX4_readDear_59) rfl (fun r5 => ?_)
      refine tj_bz (tgt := 80) (q := 65) dX4_readDear_62 (by decide) rfl ?_ ?_
      · refine tj_aload_n (q := 66) dX4_readDear_65 rfl (i := 0) rfl (pl := 1) rfl ?_
        refine tj_aload_n (q := 67) dX4_readDear_66 rfl (i := 0) rfl (pl := 1) rfl ?_
        refine tj_getR (q := 70) (hT).s (hT).p_holderNames fok_4_4 wl_RX4_30 dX4_readDear_67 rfl ?_
        refine tj_aload_n (q := 71) dX4_readDear_70 rfl (i := 0) rfl (pl := 1) rfl ?_
        refine tj_getI (q := 74) (hT).s fok_4_6 wl_RX4_37 dX4_readDear_71 rfl ?_
        refine tj_callZ (q := 77) (kj_V (As := [.ref (h0 + (t + 9)), .int (r5.2.1 t 6)]) (rest := []) (t := t) wi_RX4_124 (hT).s rfl (rX4_readOldName t (t + 9) 9 (r5.2.1 t 6) (hT) ((hT).s_holderNames)) rfl (Nat.le_of_ble_eq_true rfl) ⟨Nat.le_of_ble_eq_true rfl, Nat.le_of_ble_eq_true rfl⟩ (Nat.le_of_ble_eq_true rfl) dX4_readDear_74) rfl (fun r6 => ?_)
        refine tj_bnz (tgt := 82) (q := 80) dX4_readDear_77 (by decide) rfl ?_ ?_
        · refine tj_aload_n (q := 83) dX4_readDear_82 rfl (i := 0) rfl (pl := 1) rfl ?_
          refine tj_getR (q := 86) (hT).s (hT).p_holderPlaces fok_4_5 wl_RX4_33 dX4_readDear_83 rfl ?_
          refine tj_aload_n (q := 87) dX4_readDear_86 rfl (i := 0) rfl (pl := 1) rfl ?_
          refine tj_getI (q := 90) (hT).s fok_4_9 wl_RX4_47 dX4_readDear_87 rfl ?_
          refine tj_topI (fun v7 => ?_)
          refine tj_iaload (q := 91) (hT).s_holderPlaces dX4_readDear_90 rfl ?_
          refine tj_topI (fun v8 => ?_)
          refine tj_bipush (q := 93) (v := 10) dX4_readDear_91 rfl (by decide) ?_
          refine tj_imul (q := 94) dX4_readDear_93 rfl ?_
          refine tj_iload_n (q := 95) dX4_readDear_94 rfl (i := 2) rfl (pl := 0) rfl ?_
          refine tj_iadd (q := 96) dX4_readDear_95 rfl ?_
          refine tj_topI (fun v9 => ?_)
          refine tj_istore_n (q := 97) dX4_readDear_96 rfl (i := 3) rfl (by decide) rfl ?_
          refine tj_aload_n (q := 98) dX4_readDear_97 rfl (i := 1) rfl (pl := 3) rfl ?_
          refine tj_getR (q := 101) (hp1).s (hp1).p_value fok_1_12 wl_RX4_179 dX4_readDear_98 rfl ?_
          refine tj_iload_n (q := 102) dX4_readDear_101 rfl (i := 3) rfl (pl := 0) rfl ?_
          refine tj_iaload (q := 103) (hp1).s_value dX4_readDear_102 rfl ?_
          refine tj_topI (fun v10 => ?_)
          refine tj_iconst (q := 104) (v := (-1)) dX4_readDear_103 rfl (by decide) ?_
          refine tj_icmp_eq (tgt := 116) (q := 107) dX4_readDear_104 (by decide) rfl ?_ ?_
          · refine tj_aload_n (q := 117) dX4_readDear_116 rfl (i := 0) rfl (pl := 2) rfl ?_
            refine tj_getR (q := 120) (hT).s (hT).p_tokens fok_4_1 wl_RX4_22 dX4_readDear_117 rfl ?_
            refine tj_callV (q := 123) (kj_V (As := []) (rest := []) (t := (t + 2)) wi_RX4_101 ((hT).o_tokens).s rfl (rX10_next (t + 2) ((hT).o_tokens)) rfl (Nat.le_of_ble_eq_true rfl) ⟨Nat.le_of_ble_eq_true rfl, Nat.le_of_ble_eq_true rfl⟩ (Nat.le_of_ble_eq_true rfl) dX4_readDear_120) rfl (fun σ11 => ?_)
            refine tj_aload_n (q := 124) dX4_readDear_123 rfl (i := 0) rfl (pl := 2) rfl ?_
            refine tj_iconst (q := 125) (v := 0) dX4_readDear_124 rfl (by decide) ?_
            refine tj_bipush (q := 127) (v := 99) dX4_readDear_125 rfl (by decide) ?_
            refine tj_callZ (q := 130) (kj_V (As := [.int (0 : Int32), .int (99 : Int32)]) (rest := []) (t := t) wi_RX4_104 (hT).s rfl (rX4_readNumber t (0 : Int32) (99 : Int32) (hT)) rfl (Nat.le_of_ble_eq_true rfl) ⟨Nat.le_of_ble_eq_true rfl, Nat.le_of_ble_eq_true rfl⟩ (Nat.le_of_ble_eq_true rfl) dX4_readDear_127) rfl (fun r12 => ?_)
            refine tj_bnz (tgt := 135) (q := 133) dX4_readDear_130 (by decide) rfl ?_ ?_
            · refine tj_aload_n (q := 136) dX4_readDear_135 rfl (i := 0) rfl (pl := 2) rfl ?_
              refine tj_getR (q := 139) (hT).s (hT).p_tokens fok_4_1 wl_RX4_22 dX4_readDear_136 rfl ?_
              refine tj_callV (q := 142) (kj_V (As := []) (rest := []) (t := (t + 2)) wi_RX4_101 ((hT).o_tokens).s rfl (rX10_next (t + 2) ((hT).o_tokens)) rfl (Nat.le_of_ble_eq_true rfl) ⟨Nat.le_of_ble_eq_true rfl, Nat.le_of_ble_eq_true rfl⟩ (Nat.le_of_ble_eq_true rfl) dX4_readDear_139) rfl (fun σ13 => ?_)
              refine tj_aload_n (q := 143) dX4_readDear_142 rfl (i := 1) rfl (pl := 3) rfl ?_
              refine tj_getR (q := 146) (hp1).s (hp1).p_value fok_1_12 wl_RX4_179 dX4_readDear_143 rfl ?_
              refine tj_iload_n (q := 147) dX4_readDear_146 rfl (i := 3) rfl (pl := 0) rfl ?_
              refine tj_aload_n (q := 148) dX4_readDear_147 rfl (i := 0) rfl (pl := 2) rfl ?_
              refine tj_getI (q := 151) (hT).s fok_4_9 wl_RX4_47 dX4_readDear_148 rfl ?_
              refine tj_iastore (q := 152) (hp1).s_value dX4_readDear_151 rfl (fun σ14 => ?_)
              refine tj_aload_n (q := 153) dX4_readDear_152 rfl (i := 0) rfl (pl := 2) rfl ?_
              refine tj_dup (q := 154) dX4_readDear_153 rfl rfl ?_
              refine tj_getI (q := 157) (hT).s fok_4_7 wl_RX4_41 dX4_readDear_154 rfl ?_
              refine tj_iconst (q := 158) (v := 1) dX4_readDear_157 rfl (by decide) ?_
              refine tj_iadd (q := 159) dX4_readDear_158 rfl ?_
              refine tj_putI (q := 162) (hT).s fok_4_7 tok_4 fpk_4_7 wl_RX4_41 dX4_readDear_159 rfl (fun σ15 => ?_)
              refine tj_iconst (q := 163) (v := 1) dX4_readDear_162 rfl (by decide) ?_
              exact tj_zret rfl (by decide) rfl (Nat.le_of_ble_eq_true rfl) (Nat.le_of_ble_eq_true rfl) dX4_readDear_163
            · refine tj_iconst (q := 134) (v := 0) dX4_readDear_133 rfl (by decide) ?_
              exact tj_zret rfl (by decide) rfl (Nat.le_of_ble_eq_true rfl) (Nat.le_of_ble_eq_true rfl) dX4_readDear_134
          · refine tj_aload_n (q := 108) dX4_readDear_107 rfl (i := 0) rfl (pl := 2) rfl ?_
            refine tj_getR (q := 111) (hT).s (hT).p_tokens fok_4_1 wl_RX4_22 dX4_readDear_108 rfl ?_
            refine tj_iconst (q := 112) (v := 3) dX4_readDear_111 rfl (by decide) ?_
            refine tj_callZ (q := 115) (kj_V (As := [.int (3 : Int32)]) (rest := []) (t := (t + 2)) wi_RX4_170 ((hT).o_tokens).s rfl (rX10_fail (t + 2) (3 : Int32) ((hT).o_tokens)) rfl (Nat.le_of_ble_eq_true rfl) ⟨Nat.le_of_ble_eq_true rfl, Nat.le_of_ble_eq_true rfl⟩ (Nat.le_of_ble_eq_true rfl) dX4_readDear_112) rfl (fun r16 => ?_)
            exact tj_zret rfl (nar_b2i _) rfl (Nat.le_of_ble_eq_true rfl) (Nat.le_of_ble_eq_true rfl) dX4_readDear_115
        · refine tj_iconst (q := 81) (v := 0) dX4_readDear_80 rfl (by decide) ?_
          exact tj_zret rfl (by decide) rfl (Nat.le_of_ble_eq_true rfl) (Nat.le_of_ble_eq_true rfl) dX4_readDear_81
      · refine tj_iconst (q := 81) (v := 0) dX4_readDear_80 rfl (by decide) ?_
        exact tj_zret rfl (by decide) rfl (Nat.le_of_ble_eq_true rfl) (Nat.le_of_ble_eq_true rfl) dX4_readDear_81
    · refine tj_iconst (q := 40) (v := 0) dX4_readDear_39 rfl (by decide) ?_
      exact tj_zret rfl (by decide) rfl (Nat.le_of_ble_eq_true rfl) (Nat.le_of_ble_eq_true rfl) dX4_readDear_40
  · refine tj_aload_n (q := 10) dX4_readDear_9 rfl (i := 0) rfl (pl := 0) rfl ?_
    refine tj_getR (q := 13) (hT).s (hT).p_tokens fok_4_1 wl_RX4_22 dX4_readDear_10 rfl ?_
    refine tj_callZ (q := 16) (kj_V (As := []) (rest := []) (t := (t + 2)) wi_RX4_71 ((hT).o_tokens).s rfl (rX10_refuse (t + 2) ((hT).o_tokens)) rfl (Nat.le_of_ble_eq_true rfl) ⟨Nat.le_of_ble_eq_true rfl, Nat.le_of_ble_eq_true rfl⟩ (Nat.le_of_ble_eq_true rfl) dX4_readDear_13) rfl (fun r17 => ?_)
    exact tj_zret rfl (nar_b2i _) rfl (Nat.le_of_ble_eq_true rfl) (Nat.le_of_ble_eq_true rfl) dX4_readDear_16

theorem dX4_readLaw_0 : decode cX4_readLaw 0 = .ok (.aload_n 1, 1) := by decide +kernel
theorem dX4_readLaw_1 : decode cX4_readLaw 1 = .ok (.getfield 182, 3) := by decide +kernel
theorem dX4_readLaw_4 : decode cX4_readLaw 4 = .ok (.getfield 186, 3) := by decide +kernel
theorem dX4_readLaw_7 : decode cX4_readLaw 7 = .ok (.ifCond .le 11, 3) := by decide +kernel
theorem dX4_readLaw_10 : decode cX4_readLaw 10 = .ok (.aload_n 0, 1) := by decide +kernel
theorem dX4_readLaw_11 : decode cX4_readLaw 11 = .ok (.getfield 22, 3) := by decide +kernel
theorem dX4_readLaw_14 : decode cX4_readLaw 14 = .ok (.invokevirtual 71, 3) := by decide +kernel
theorem dX4_readLaw_17 : decode cX4_readLaw 17 = .ok (.ireturn, 1) := by decide +kernel
theorem dX4_readLaw_18 : decode cX4_readLaw 18 = .ok (.aload_n 0, 1) := by decide +kernel
theorem dX4_readLaw_19 : decode cX4_readLaw 19 = .ok (.getfield 22, 3) := by decide +kernel
theorem dX4_readLaw_22 : decode cX4_readLaw 22 = .ok (.invokevirtual 101, 3) := by decide +kernel
theorem dX4_readLaw_25 : decode cX4_readLaw 25 = .ok (.aload_n 0, 1) := by decide +kernel
theorem dX4_readLaw_26 : decode cX4_readLaw 26 = .ok (.getfield 12, 3) := by decide +kernel
theorem dX4_readLaw_29 : decode cX4_readLaw 29 = .ok (.aload_n 1, 1) := by decide +kernel
theorem dX4_readLaw_30 : decode cX4_readLaw 30 = .ok (.getfield 182, 3) := by decide +kernel
theorem dX4_readLaw_33 : decode cX4_readLaw 33 = .ok (.iconst 0, 1) := by decide +kernel
theorem dX4_readLaw_34 : decode cX4_readLaw 34 = .ok (.invokevirtual 191, 3) := by decide +kernel
theorem dX4_readLaw_37 : decode cX4_readLaw 37 = .ok (.ireturn, 1) := by decide +kernel
theorem wl_RX4_182 : Cond.fieldLink RX4 182 (TX1 15).1 (TX1 15).2.1 (TX1 15).2.2.1 ∈ TB := tbm 338 (by decide +kernel) (by decide +kernel)
theorem wl_RX4_186 : Cond.fieldLink RX4 186 (TX3 4).1 (TX3 4).2.1 (TX3 4).2.2.1 ∈ TB := tbm 271 (by decide +kernel) (by decide +kernel)
theorem wl_RX4_12 : Cond.fieldLink RX4 12 (TX4 0).1 (TX4 0).2.1 (TX4 0).2.2.1 ∈ TB := tbm 222 (by decide +kernel) (by decide +kernel)
theorem wi_RX4_191 : In RX4 191 yX2_readEither "BetterThieves" cX2_readEither 4 (some .boolean) 2 := ⟨by decide +kernel, wm_X2_readEither⟩
def mX4_readLaw (t : Nat) (p1 : Nat) (σ : St_) : Option (Bool × St_) :=
 (if (σ.1 (p1 + 11) 4) ≤ 0 then
 ((mX10_next (t + 2) σ).bind fun σ1 =>
 ((mX2_rec 110 0 (t + 1) (p1 + 11) (0 : Int32) σ1).bind fun r2 =>
 (some (r2.1, r2.2))))
 else ((mX10_refuse (t + 2) σ).bind fun r3 =>
 (some (r3.1, r3.2))))
set_option maxHeartbeats 4000000 in
theorem rX4_readLaw (t : Nat) (p1 : Nat) (hT : LY4 sh P t) (hp1 : LY1 sh P p1) : Rj l D cA h0 ad yX4_readLaw cX4_readLaw 2 (some .boolean) false 117 0 0 (fun b => (some (.int (b2i b.1)), sh, P, b.2)) [.ref (h0 + t), .ref (h0 + p1)] sh P σ (mX4_readLaw t p1 σ) := by
  rw [mX4_readLaw]
  refine Rj.of (by decide) (fun h => by cases h) (Nat.le_of_ble_eq_true rfl) ?_
  refine tj_lv0 (lv' := [(0, .ref (h0 + t)), (1, .ref (h0 + p1))]) rfl ?_
  refine tj_aload_n (q := 1) dX4_readLaw_0 rfl (i := 1) rfl (pl := 1) rfl ?_
  refine tj_getR (q := 4) (hp1).s (hp1).p_law fok_1_15 wl_RX4_182 dX4_readLaw_1 rfl ?_
  refine tj_getI (q := 7) ((hp1).o_law).s fok_3_4 wl_RX4_186 dX4_readLaw_4 rfl ?_
  refine tj_if_le (tgt := 18) (q := 10) dX4_readLaw_7 (by decide) rfl ?_ ?_
  · refine tj_aload_n (q := 19) dX4_readLaw_18 rfl (i := 0) rfl (pl := 0) rfl ?_
    refine tj_getR (q := 22) (hT).s (hT).p_tokens fok_4_1 wl_RX4_22 dX4_readLaw_19 rfl ?_
    refine tj_callV (q := 25) (kj_V (As := []) (rest := []) (t := (t + 2)) wi_RX4_101 ((hT).o_tokens).s rfl (rX10_next (t + 2) ((hT).o_tokens)) rfl (Nat.le_of_ble_eq_true rfl) ⟨Nat.le_of_ble_eq_true rfl, Nat.le_of_ble_eq_true rfl⟩ (Nat.le_of_ble_eq_true rfl) dX4_readLaw_22) rfl (fun σ1 => ?_)
    refine tj_aload_n (q := 26) dX4_readLaw_25 rfl (i := 0) rfl (pl := 0) rfl ?_
    refine tj_getR (q := 29) (hT).s (hT).p_formula fok_4_0 wl_RX4_12 dX4_readLaw_26 rfl ?_
    refine tj_aload_n (q := 30) dX4_readLaw_29 rfl (i := 1) rfl (pl := 1) rfl ?_
    refine tj_getR (q := 33) (hp1).s (hp1).p_law fok_1_15 wl_RX4_182 dX4_readLaw_30 rfl ?_
    refine tj_iconst (q := 34) (v := 0) dX4_readLaw_33 rfl (by decide) ?_
    refine tj_callZ (q := 37) (kj_N (As := [.ref (h0 + (p1 + 11)), .int (0 : Int32)]) (rest := []) (t := (t + 1)) wi_RX4_191 ((hT).o_formula).s rfl ((rX2_rec 110).1 (t + 1) (p1 + 11) (0 : Int32) _ ((hT).o_formula) ((hp1).o_law)) rfl (Nat.le_of_ble_eq_true rfl) ⟨Nat.le_of_ble_eq_true rfl, Nat.le_of_ble_eq_true rfl⟩ (Nat.le_of_ble_eq_true rfl) dX4_readLaw_34) rfl (fun r2 => ?_)
    exact tj_zret rfl (nar_b2i _) rfl (Nat.le_of_ble_eq_true rfl) (Nat.le_of_ble_eq_true rfl) dX4_readLaw_37
  · refine tj_aload_n (q := 11) dX4_readLaw_10 rfl (i := 0) rfl (pl := 0) rfl ?_
    refine tj_getR (q := 14) (hT).s (hT).p_tokens fok_4_1 wl_RX4_22 dX4_readLaw_11 rfl ?_
    refine tj_callZ (q := 17) (kj_V (As := []) (rest := []) (t := (t + 2)) wi_RX4_71 ((hT).o_tokens).s rfl (rX10_refuse (t + 2) ((hT).o_tokens)) rfl (Nat.le_of_ble_eq_true rfl) ⟨Nat.le_of_ble_eq_true rfl, Nat.le_of_ble_eq_true rfl⟩ (Nat.le_of_ble_eq_true rfl) dX4_readLaw_14) rfl (fun r3 => ?_)
    exact tj_zret rfl (nar_b2i _) rfl (Nat.le_of_ble_eq_true rfl) (Nat.le_of_ble_eq_true rfl) dX4_readLaw_17

theorem dX4_readNight_0 : decode cX4_readNight 0 = .ok (.iload_n 1, 1) := by decide +kernel
theorem dX4_readNight_1 : decode cX4_readNight 1 = .ok (.ifCond .le 11, 3) := by decide +kernel
theorem dX4_readNight_4 : decode cX4_readNight 4 = .ok (.aload_n 0, 1) := by decide +kernel
theorem dX4_readNight_5 : decode cX4_readNight 5 = .ok (.getfield 22, 3) := by decide +kernel
theorem dX4_readNight_8 : decode cX4_readNight 8 = .ok (.invokevirtual 71, 3) := by decide +kernel
theorem dX4_readNight_11 : decode cX4_readNight 11 = .ok (.ireturn, 1) := by decide +kernel
theorem dX4_readNight_12 : decode cX4_readNight 12 = .ok (.aload_n 0, 1) := by decide +kernel
theorem dX4_readNight_13 : decode cX4_readNight 13 = .ok (.getfield 22, 3) := by decide +kernel
theorem dX4_readNight_16 : decode cX4_readNight 16 = .ok (.invokevirtual 101, 3) := by decide +kernel
theorem dX4_readNight_19 : decode cX4_readNight 19 = .ok (.aload_n 0, 1) := by decide +kernel
theorem dX4_readNight_20 : decode cX4_readNight 20 = .ok (.iconst 1, 1) := by decide +kernel
theorem dX4_readNight_21 : decode cX4_readNight 21 = .ok (.bipush 9, 2) := by decide +kernel
theorem dX4_readNight_23 : decode cX4_readNight 23 = .ok (.invokevirtual 104, 3) := by decide +kernel
theorem dX4_readNight_26 : decode cX4_readNight 26 = .ok (.ifCond .ne 5, 3) := by decide +kernel
theorem dX4_readNight_29 : decode cX4_readNight 29 = .ok (.iconst 0, 1) := by decide +kernel
theorem dX4_readNight_30 : decode cX4_readNight 30 = .ok (.ireturn, 1) := by decide +kernel
theorem dX4_readNight_31 : decode cX4_readNight 31 = .ok (.aload_n 0, 1) := by decide +kernel
theorem dX4_readNight_32 : decode cX4_readNight 32 = .ok (.getfield 22, 3) := by decide +kernel
theorem dX4_readNight_35 : decode cX4_readNight 35 = .ok (.invokevirtual 101, 3) := by decide +kernel
theorem dX4_readNight_38 : decode cX4_readNight 38 = .ok (.aload_n 2, 1) := by decide +kernel
theorem dX4_readNight_39 : decode cX4_readNight 39 = .ok (.aload_n 0, 1) := by decide +kernel
theorem dX4_readNight_40 : decode cX4_readNight 40 = .ok (.getfield 47, 3) := by decide +kernel
theorem dX4_readNight_43 : decode cX4_readNight 43 = .ok (.putfield 108, 3) := by decide +kernel
theorem dX4_readNight_46 : decode cX4_readNight 46 = .ok (.iconst 1, 1) := by decide +kernel
theorem dX4_readNight_47 : decode cX4_readNight 47 = .ok (.ireturn, 1) := by decide +kernel
def mX4_readNight (t : Nat) (p1 : Int32) (p2 : Nat) (σ : St_) : Option (Bool × St_) :=
 (if p1 ≤ 0 then
 ((mX10_next (t + 2) σ).bind fun σ1 =>
 ((mX4_readNumber t (1 : Int32) (9 : Int32) σ1).bind fun r2 =>
 (if r2.1 = true then
 ((mX10_next (t + 2) r2.2).bind fun σ3 =>
 (bnd (sI σ3 p2 0 (σ3.1 t 9)) fun σ4 =>
 (some (true, σ4))))
 else (some (false, r2.2)))))
 else ((mX10_refuse (t + 2) σ).bind fun r5 =>
 (some (r5.1, r5.2))))
set_option maxHeartbeats 4000000 in
theorem rX4_readNight (t : Nat) (p1 : Int32) (p2 : Nat) (hT : LY4 sh P t) (hp2 : LY1 sh P p2) : Rj l D cA h0 ad yX4_readNight cX4_readNight 3 (some .boolean) false 5 0 0 (fun b => (some (.int (b2i b.1)), sh, P, b.2)) [.ref (h0 + t), .int p1, .ref (h0 + p2)] sh P σ (mX4_readNight t p1 p2 σ) := by
  rw [mX4_readNight]
  refine Rj.of (by decide) (fun h => by cases h) (Nat.le_of_ble_eq_true rfl) ?_
  refine tj_lv0 (lv' := [(0, .ref (h0 + t)), (1, .int p1), (2, .ref (h0 + p2))]) rfl ?_
  refine tj_iload_n (q := 1) dX4_readNight_0 rfl (i := 1) rfl (pl := 1) rfl ?_
  refine tj_if_le (tgt := 12) (q := 4) dX4_readNight_1 (by decide) rfl ?_ ?_
  · refine tj_aload_n (q := 13) dX4_readNight_12 rfl (i := 0) rfl (pl := 0) rfl ?_
    refine tj_getR (q := 16) (hT).s (hT).p_tokens fok_4_1 wl_RX4_22 dX4_readNight_13 rfl ?_
    refine tj_callV (q := 19) (kj_V (As := []) (rest := []) (t := (t + 2)) wi_RX4_101 ((hT).o_tokens).s rfl (rX10_next (t + 2) ((hT).o_tokens)) rfl (Nat.le_of_ble_eq_true rfl) ⟨Nat.le_of_ble_eq_true rfl, Nat.le_of_ble_eq_true rfl⟩ (Nat.le_of_ble_eq_true rfl) dX4_readNight_16) rfl (fun σ1 => ?_)
    refine tj_aload_n (q := 20) dX4_readNight_19 rfl (i := 0) rfl (pl := 0) rfl ?_
    refine tj_iconst (q := 21) (v := 1) dX4_readNight_20 rfl (by decide) ?_
    refine tj_bipush (q := 23) (v := 9) dX4_readNight_21 rfl (by decide) ?_
    refine tj_callZ (q := 26) (kj_V (As := [.int (1 : Int32), .int (9 : Int32)]) (rest := []) (t := t) wi_RX4_104 (hT).s rfl (rX4_readNumber t (1 : Int32) (9 : Int32) (hT)) rfl (Nat.le_of_ble_eq_true rfl) ⟨Nat.le_of_ble_eq_true rfl, Nat.le_of_ble_eq_true rfl⟩ (Nat.le_of_ble_eq_true rfl) dX4_readNight_23) rfl (fun r2 => ?_)
    refine tj_bnz (tgt := 31) (q := 29) dX4_readNight_26 (by decide) rfl ?_ ?_
    · refine tj_aload_n (q := 32) dX4_readNight_31 rfl (i := 0) rfl (pl := 0) rfl ?_
      refine tj_getR (q := 35) (hT).s (hT).p_tokens fok_4_1 wl_RX4_22 dX4_readNight_32 rfl ?_
      refine tj_callV (q := 38) (kj_V (As := []) (rest := []) (t := (t + 2)) wi_RX4_101 ((hT).o_tokens).s rfl (rX10_next (t + 2) ((hT).o_tokens)) rfl (Nat.le_of_ble_eq_true rfl) ⟨Nat.le_of_ble_eq_true rfl, Nat.le_of_ble_eq_true rfl⟩ (Nat.le_of_ble_eq_true rfl) dX4_readNight_35) rfl (fun σ3 => ?_)
      refine tj_aload_n (q := 39) dX4_readNight_38 rfl (i := 2) rfl (pl := 2) rfl ?_
      refine tj_aload_n (q := 40) dX4_readNight_39 rfl (i := 0) rfl (pl := 0) rfl ?_
      refine tj_getI (q := 43) (hT).s fok_4_9 wl_RX4_47 dX4_readNight_40 rfl ?_
      refine tj_putI (q := 46) (hp2).s fok_1_0 tok_1 fpk_1_0 wl_RX4_108 dX4_readNight_43 rfl (fun σ4 => ?_)
      refine tj_iconst (q := 47) (v := 1) dX4_readNight_46 rfl (by decide) ?_
      exact tj_zret rfl (by decide) rfl (Nat.le_of_ble_eq_true rfl) (Nat.le_of_ble_eq_true rfl) dX4_readNight_47
    · refine tj_iconst (q := 30) (v := 0) dX4_readNight_29 rfl (by decide) ?_
      exact tj_zret rfl (by decide) rfl (Nat.le_of_ble_eq_true rfl) (Nat.le_of_ble_eq_true rfl) dX4_readNight_30
  · refine tj_aload_n (q := 5) dX4_readNight_4 rfl (i := 0) rfl (pl := 0) rfl ?_
    refine tj_getR (q := 8) (hT).s (hT).p_tokens fok_4_1 wl_RX4_22 dX4_readNight_5 rfl ?_
    refine tj_callZ (q := 11) (kj_V (As := []) (rest := []) (t := (t + 2)) wi_RX4_71 ((hT).o_tokens).s rfl (rX10_refuse (t + 2) ((hT).o_tokens)) rfl (Nat.le_of_ble_eq_true rfl) ⟨Nat.le_of_ble_eq_true rfl, Nat.le_of_ble_eq_true rfl⟩ (Nat.le_of_ble_eq_true rfl) dX4_readNight_8) rfl (fun r5 => ?_)
    exact tj_zret rfl (nar_b2i _) rfl (Nat.le_of_ble_eq_true rfl) (Nat.le_of_ble_eq_true rfl) dX4_readNight_11

theorem dX4_readLine_0 : decode cX4_readLine 0 = .ok (.aload_n 0, 1) := by decide +kernel
theorem dX4_readLine_1 : decode cX4_readLine 1 = .ok (.getfield 22, 3) := by decide +kernel
theorem dX4_readLine_4 : decode cX4_readLine 4 = .ok (.iconst 3, 1) := by decide +kernel
theorem dX4_readLine_5 : decode cX4_readLine 5 = .ok (.invokevirtual 57, 3) := by decide +kernel
theorem dX4_readLine_8 : decode cX4_readLine 8 = .ok (.ifCond .ne 11, 3) := by decide +kernel
theorem dX4_readLine_11 : decode cX4_readLine 11 = .ok (.aload_n 0, 1) := by decide +kernel
theorem dX4_readLine_12 : decode cX4_readLine 12 = .ok (.getfield 22, 3) := by decide +kernel
theorem dX4_readLine_15 : decode cX4_readLine 15 = .ok (.invokevirtual 71, 3) := by decide +kernel
theorem dX4_readLine_18 : decode cX4_readLine 18 = .ok (.ireturn, 1) := by decide +kernel
theorem dX4_readLine_19 : decode cX4_readLine 19 = .ok (.aload_n 0, 1) := by decide +kernel
theorem dX4_readLine_20 : decode cX4_readLine 20 = .ok (.getfield 22, 3) := by decide +kernel
theorem dX4_readLine_23 : decode cX4_readLine 23 = .ok (.invokevirtual 75, 3) := by decide +kernel
theorem dX4_readLine_26 : decode cX4_readLine 26 = .ok (.tableswitch 85 0 6 #[42, 48, 54, 60, 66, 72, 78], 42) := by decide +kernel
theorem dX4_readLine_68 : decode cX4_readLine 68 = .ok (.aload_n 0, 1) := by decide +kernel
theorem dX4_readLine_69 : decode cX4_readLine 69 = .ok (.aload_n 2, 1) := by decide +kernel
theorem dX4_readLine_70 : decode cX4_readLine 70 = .ok (.invokevirtual 79, 3) := by decide +kernel
theorem dX4_readLine_73 : decode cX4_readLine 73 = .ok (.ireturn, 1) := by decide +kernel
theorem dX4_readLine_74 : decode cX4_readLine 74 = .ok (.aload_n 0, 1) := by decide +kernel
theorem dX4_readLine_75 : decode cX4_readLine 75 = .ok (.aload_n 2, 1) := by decide +kernel
theorem dX4_readLine_76 : decode cX4_readLine 76 = .ok (.invokevirtual 83, 3) := by decide +kernel
theorem dX4_readLine_79 : decode cX4_readLine 79 = .ok (.ireturn, 1) := by decide +kernel
theorem dX4_readLine_80 : decode cX4_readLine 80 = .ok (.aload_n 0, 1) := by decide +kernel
theorem dX4_readLine_81 : decode cX4_readLine 81 = .ok (.aload_n 2, 1) := by decide +kernel
theorem dX4_readLine_82 : decode cX4_readLine 82 = .ok (.invokevirtual 86, 3) := by decide +kernel
theorem dX4_readLine_85 : decode cX4_readLine 85 = .ok (.ireturn, 1) := by decide +kernel
theorem dX4_readLine_86 : decode cX4_readLine 86 = .ok (.aload_n 0, 1) := by decide +kernel
theorem dX4_readLine_87 : decode cX4_readLine 87 = .ok (.aload_n 2, 1) := by decide +kernel
theorem dX4_readLine_88 : decode cX4_readLine 88 = .ok (.invokevirtual 89, 3) := by decide +kernel
theorem dX4_readLine_91 : decode cX4_readLine 91 = .ok (.ireturn, 1) := by decide +kernel
theorem dX4_readLine_92 : decode cX4_readLine 92 = .ok (.aload_n 0, 1) := by decide +kernel
theorem dX4_readLine_93 : decode cX4_readLine 93 = .ok (.aload_n 2, 1) := by decide +kernel
theorem dX4_readLine_94 : decode cX4_readLine 94 = .ok (.invokevirtual 92, 3) := by decide +kernel
theorem dX4_readLine_97 : decode cX4_readLine 97 = .ok (.ireturn, 1) := by decide +kernel
theorem dX4_readLine_98 : decode cX4_readLine 98 = .ok (.aload_n 0, 1) := by decide +kernel
theorem dX4_readLine_99 : decode cX4_readLine 99 = .ok (.aload_n 2, 1) := by decide +kernel
theorem dX4_readLine_100 : decode cX4_readLine 100 = .ok (.invokevirtual 95, 3) := by decide +kernel
theorem dX4_readLine_103 : decode cX4_readLine 103 = .ok (.ireturn, 1) := by decide +kernel
theorem dX4_readLine_104 : decode cX4_readLine 104 = .ok (.aload_n 0, 1) := by decide +kernel
theorem dX4_readLine_105 : decode cX4_readLine 105 = .ok (.iload_n 1, 1) := by decide +kernel
theorem dX4_readLine_106 : decode cX4_readLine 106 = .ok (.aload_n 2, 1) := by decide +kernel
theorem dX4_readLine_107 : decode cX4_readLine 107 = .ok (.invokevirtual 98, 3) := by decide +kernel
theorem dX4_readLine_110 : decode cX4_readLine 110 = .ok (.ireturn, 1) := by decide +kernel
theorem dX4_readLine_111 : decode cX4_readLine 111 = .ok (.aload_n 0, 1) := by decide +kernel
theorem dX4_readLine_112 : decode cX4_readLine 112 = .ok (.getfield 22, 3) := by decide +kernel
theorem dX4_readLine_115 : decode cX4_readLine 115 = .ok (.invokevirtual 71, 3) := by decide +kernel
theorem dX4_readLine_118 : decode cX4_readLine 118 = .ok (.ireturn, 1) := by decide +kernel
theorem wm_X4_readKind : Cond.instanceMethod yX4_readKind ∈ TB ∧ Cond.selects yX4_readKind.cls yX4_readKind yX4_readKind ∈ TB ∧ Cond.initialized yX4_readKind.cls ∈ TB ∧ Cond.code yX4_readKind cX4_readKind 2 (some .boolean) ∈ TB ∧ (yX4_readKind.cls ≠ "java/lang/invoke/MethodHandle" ∧ yX4_readKind.cls ≠ "java/lang/invoke/VarHandle" ∧ (parseMethodDescriptor yX4_readKind.desc).map (fun d => d.parameters.length) = some 1) ∧ 2 ≤ 21 := ⟨tbm 860 (by decide +kernel) (by decide +kernel), tbm 7 (by decide +kernel) (by decide +kernel), tbm 135 (by decide +kernel) (by decide +kernel), tbm 861 (by decide +kernel) (by decide +kernel), by decide +kernel, by decide⟩
theorem wi_RX4_79 : Iv RX4 79 yX4_readKind cX4_readKind 2 (some .boolean) 1 := ⟨tbm 858 (by decide +kernel) (by decide +kernel), wm_X4_readKind⟩
theorem wm_X4_readThing : Cond.instanceMethod yX4_readThing ∈ TB ∧ Cond.selects yX4_readThing.cls yX4_readThing yX4_readThing ∈ TB ∧ Cond.initialized yX4_readThing.cls ∈ TB ∧ Cond.code yX4_readThing cX4_readThing 3 (some .boolean) ∈ TB ∧ (yX4_readThing.cls ≠ "java/lang/invoke/MethodHandle" ∧ yX4_readThing.cls ≠ "java/lang/invoke/VarHandle" ∧ (parseMethodDescriptor yX4_readThing.desc).map (fun d => d.parameters.length) = some 1) ∧ 3 ≤ 21 := ⟨tbm 877 (by decide +kernel) (by decide +kernel), tbm 10 (by decide +kernel) (by decide +kernel), tbm 135 (by decide +kernel) (by decide +kernel), tbm 878 (by decide +kernel) (by decide +kernel), by decide +kernel, by decide⟩
theorem wi_RX4_83 : Iv RX4 83 yX4_readThing cX4_readThing 3 (some .boolean) 1 := ⟨tbm 875 (by decide +kernel) (by decide +kernel), wm_X4_readThing⟩
theorem wm_X4_readHouse : Cond.instanceMethod yX4_readHouse ∈ TB ∧ Cond.selects yX4_readHouse.cls yX4_readHouse yX4_readHouse ∈ TB ∧ Cond.initialized yX4_readHouse.cls ∈ TB ∧ Cond.code yX4_readHouse cX4_readHouse 3 (some .boolean) ∈ TB ∧ (yX4_readHouse.cls ≠ "java/lang/invoke/MethodHandle" ∧ yX4_readHouse.cls ≠ "java/lang/invoke/VarHandle" ∧ (parseMethodDescriptor yX4_readHouse.desc).map (fun d => d.parameters.length) = some 1) ∧ 3 ≤ 21 := ⟨tbm 903 (by decide +kernel) (by decide +kernel), tbm 14 (by decide +kernel) (by decide +kernel), tbm 135 (by decide +kernel) (by decide +kernel), tbm 904 (by decide +kernel) (by decide +kernel), by decide +kernel, by decide⟩
theorem wi_RX4_86 : Iv RX4 86 yX4_readHouse cX4_readHouse 3 (some .boolean) 1 := ⟨tbm 901 (by decide +kernel) (by decide +kernel), wm_X4_readHouse⟩
theorem wm_X4_readThief : Cond.instanceMethod yX4_readThief ∈ TB ∧ Cond.selects yX4_readThief.cls yX4_readThief yX4_readThief ∈ TB ∧ Cond.initialized yX4_readThief.cls ∈ TB ∧ Cond.code yX4_readThief cX4_readThief 3 (some .boolean) ∈ TB ∧ (yX4_readThief.cls ≠ "java/lang/invoke/MethodHandle" ∧ yX4_readThief.cls ≠ "java/lang/invoke/VarHandle" ∧ (parseMethodDescriptor yX4_readThief.desc).map (fun d => d.parameters.length) = some 1) ∧ 3 ≤ 21 := ⟨tbm 924 (by decide +kernel) (by decide +kernel), tbm 18 (by decide +kernel) (by decide +kernel), tbm 135 (by decide +kernel) (by decide +kernel), tbm 925 (by decide +kernel) (by decide +kernel), by decide +kernel, by decide⟩
theorem wi_RX4_89 : Iv RX4 89 yX4_readThief cX4_readThief 3 (some .boolean) 1 := ⟨tbm 922 (by decide +kernel) (by decide +kernel), wm_X4_readThief⟩
theorem wm_X4_readDear : Cond.instanceMethod yX4_readDear ∈ TB ∧ Cond.selects yX4_readDear.cls yX4_readDear yX4_readDear ∈ TB ∧ Cond.initialized yX4_readDear.cls ∈ TB ∧ Cond.code yX4_readDear cX4_readDear 4 (some .boolean) ∈ TB ∧ (yX4_readDear.cls ≠ "java/lang/invoke/MethodHandle" ∧ yX4_readDear.cls ≠ "java/lang/invoke/VarHandle" ∧ (parseMethodDescriptor yX4_readDear.desc).map (fun d => d.parameters.length) = some 1) ∧ 4 ≤ 21 := ⟨tbm 928 (by decide +kernel) (by decide +kernel), tbm 19 (by decide +kernel) (by decide +kernel), tbm 135 (by decide +kernel) (by decide +kernel), tbm 929 (by decide +kernel) (by decide +kernel), by decide +kernel, by decide⟩
theorem wi_RX4_92 : Iv RX4 92 yX4_readDear cX4_readDear 4 (some .boolean) 1 := ⟨tbm 926 (by decide +kernel) (by decide +kernel), wm_X4_readDear⟩
theorem wm_X4_readLaw : Cond.instanceMethod yX4_readLaw ∈ TB ∧ Cond.selects yX4_readLaw.cls yX4_readLaw yX4_readLaw ∈ TB ∧ Cond.initialized yX4_readLaw.cls ∈ TB ∧ Cond.code yX4_readLaw cX4_readLaw 2 (some .boolean) ∈ TB ∧ (yX4_readLaw.cls ≠ "java/lang/invoke/MethodHandle" ∧ yX4_readLaw.cls ≠ "java/lang/invoke/VarHandle" ∧ (parseMethodDescriptor yX4_readLaw.desc).map (fun d => d.parameters.length) = some 1) ∧ 2 ≤ 21 := ⟨tbm 932 (by decide +kernel) (by decide +kernel), tbm 20 (by decide +kernel) (by decide +kernel), tbm 135 (by decide +kernel) (by decide +kernel), tbm 933 (by decide +kernel) (by decide +kernel), by decide +kernel, by decide⟩
theorem wi_RX4_95 : Iv RX4 95 yX4_readLaw cX4_readLaw 2 (some .boolean) 1 := ⟨tbm 930 (by decide +kernel) (by decide +kernel), wm_X4_readLaw⟩
theorem wm_X4_readNight : Cond.instanceMethod yX4_readNight ∈ TB ∧ Cond.selects yX4_readNight.cls yX4_readNight yX4_readNight ∈ TB ∧ Cond.initialized yX4_readNight.cls ∈ TB ∧ Cond.code yX4_readNight cX4_readNight 3 (some .boolean) ∈ TB ∧ (yX4_readNight.cls ≠ "java/lang/invoke/MethodHandle" ∧ yX4_readNight.cls ≠ "java/lang/invoke/VarHandle" ∧ (parseMethodDescriptor yX4_readNight.desc).map (fun d => d.parameters.length) = some 2) ∧ 3 ≤ 21 := ⟨tbm 991 (by decide +kernel) (by decide +kernel), tbm 30 (by decide +kernel) (by decide +kernel), tbm 135 (by decide +kernel) (by decide +kernel), tbm 992 (by decide +kernel) (by decide +kernel), by decide +kernel, by decide⟩
theorem wi_RX4_98 : Iv RX4 98 yX4_readNight cX4_readNight 3 (some .boolean) 2 := ⟨tbm 989 (by decide +kernel) (by decide +kernel), wm_X4_readNight⟩
def mX4_readLine (t : Nat) (p1 : Int32) (p2 : Nat) (σ : St_) : Option (Bool × St_) :=
 ((mX10_isSort (t + 2) (3 : Int32) σ).bind fun r1 =>
 (if r1 = true then
 ((mX10_number (t + 2) σ).bind fun r2 =>
 (if r2 = 0 then ((mX4_readKind t p2 σ).bind fun r4 =>
 (some (r4.1, r4.2)))
 else (if r2 = 1 then ((mX4_readThing t p2 σ).bind fun r6 =>
 (some (r6.1, r6.2)))
 else (if r2 = 2 then ((mX4_readHouse t p2 σ).bind fun r8 =>
 (some (r8.1, r8.2)))
 else (if r2 = 3 then ((mX4_readThief t p2 σ).bind fun r10 =>
 (some (r10.1, r10.2)))
 else (if r2 = 4 then ((mX4_readDear t p2 σ).bind fun r12 =>
 (some (r12.1, r12.2)))
 else (if r2 = 5 then ((mX4_readLaw t p2 σ).bind fun r14 =>
 (some (r14.1, r14.2)))
 else (if r2 = 6 then ((mX4_readNight t p1 p2 σ).bind fun r16 =>
 (some (r16.1, r16.2)))
 else ((mX10_refuse (t + 2) σ).bind fun r17 =>
 (some (r17.1, r17.2)))))))))))
 else ((mX10_refuse (t + 2) σ).bind fun r19 =>
 (some (r19.1, r19.2)))))
set_option maxHeartbeats 4000000 in
theorem rX4_readLine (t : Nat) (p1 : Int32) (p2 : Nat) (hT : LY4 sh P t) (hp2 : LY1 sh P p2) : Rj l D cA h0 ad yX4_readLine cX4_readLine 3 (some .boolean) false 118 0 0 (fun b => (some (.int (b2i b.1)), sh, P, b.2)) [.ref (h0 + t), .int p1, .ref (h0 + p2)] sh P σ (mX4_readLine t p1 p2 σ) := by
  rw [mX4_readLine]
  refine Rj.of (by decide) (fun h => by cases h) (Nat.le_of_ble_eq_true rfl) ?_
  refine tj_lv0 (lv' := [(0, .ref (h0 + t)), (1, .int p1), (2, .ref (h0 + p2))]) rfl ?_
  refine tj_aload_n (q := 1) dX4_readLine_0 rfl (i := 0) rfl (pl := 0) rfl ?_
  refine tj_getR (q := 4) (hT).s (hT).p_tokens fok_4_1 wl_RX4_22 dX4_readLine_1 rfl ?_
  refine tj_iconst (q := 5) (v := 3) dX4_readLine_4 rfl (by decide) ?_
  refine tj_callZp (q := 8) (kj_V (As := [.int (3 : Int32)]) (rest := []) (t := (t + 2)) wi_RX4_57 ((hT).o_tokens).s rfl (rX10_isSort (t + 2) (3 : Int32) ((hT).o_tokens)) rfl (Nat.le_of_ble_eq_true rfl) ⟨Nat.le_of_ble_eq_true rfl, Nat.le_of_ble_eq_true rfl⟩ (Nat.le_of_ble_eq_true rfl) dX4_readLine_5) rfl (fun r1 => ?_)
  refine tj_bnz (tgt := 19) (q := 11) dX4_readLine_8 (by decide) rfl ?_ ?_
  · refine tj_aload_n (q := 20) dX4_readLine_19 rfl (i := 0) rfl (pl := 0) rfl ?_
    refine tj_getR (q := 23) (hT).s (hT).p_tokens fok_4_1 wl_RX4_22 dX4_readLine_20 rfl ?_
    refine tj_callIp (q := 26) (kj_V (As := []) (rest := []) (t := (t + 2)) wi_RX4_75 ((hT).o_tokens).s rfl (rX10_number (t + 2) ((hT).o_tokens)) rfl (Nat.le_of_ble_eq_true rfl) ⟨Nat.le_of_ble_eq_true rfl, Nat.le_of_ble_eq_true rfl⟩ (Nat.le_of_ble_eq_true rfl) dX4_readLine_23) rfl (fun r2 => ?_)
    refine tj_caseI (fun hc3 => ?_) (fun hc3 => ?_)
    · refine tj_tin (tgt := 68) (k := 0) (off := 42) dX4_readLine_26 hc3 (by decide) (by decide) (by decide) (by decide) ?_
      refine tj_aload_n (q := 69) dX4_readLine_68 rfl (i := 0) rfl (pl := 0) rfl ?_
      refine tj_aload_n (q := 70) dX4_readLine_69 rfl (i := 2) rfl (pl := 2) rfl ?_
      refine tj_callZ (q := 73) (kj_V (As := [.ref (h0 + p2)]) (rest := []) (t := t) wi_RX4_79 (hT).s rfl (rX4_readKind t p2 (hT) (hp2)) rfl (Nat.le_of_ble_eq_true rfl) ⟨Nat.le_of_ble_eq_true rfl, Nat.le_of_ble_eq_true rfl⟩ (Nat.le_of_ble_eq_true rfl) dX4_readLine_70) rfl (fun r4 => ?_)
      exact tj_zret rfl (nar_b2i _) rfl (Nat.le_of_ble_eq_true rfl) (Nat.le_of_ble_eq_true rfl) dX4_readLine_73
    · refine tj_caseI (fun hc5 => ?_) (fun hc5 => ?_)
      · refine tj_tin (tgt := 74) (k := 1) (off := 48) dX4_readLine_26 hc5 (by decide) (by decide) (by decide) (by decide) ?_
        refine tj_aload_n (q := 75) dX4_readLine_74 rfl (i := 0) rfl (pl := 0) rfl ?_
        refine tj_aload_n (q := 76) dX4_readLine_75 rfl (i := 2) rfl (pl := 2) rfl ?_
        refine tj_callZ (q := 79) (kj_V (As := [.ref (h0 + p2)]) (rest := []) (t := t) wi_RX4_83 (hT).s rfl (rX4_readThing t p2 (hT) (hp2)) rfl (Nat.le_of_ble_eq_true rfl) ⟨Nat.le_of_ble_eq_true rfl, Nat.le_of_ble_eq_true rfl⟩ (Nat.le_of_ble_eq_true rfl) dX4_readLine_76) rfl (fun r6 => ?_)
        exact tj_zret rfl (nar_b2i _) rfl (Nat.le_of_ble_eq_true rfl) (Nat.le_of_ble_eq_true rfl) dX4_readLine_79
      · refine tj_caseI (fun hc7 => ?_) (fun hc7 => ?_)
        · refine tj_tin (tgt := 80) (k := 2) (off := 54) dX4_readLine_26 hc7 (by decide) (by decide) (by decide) (by decide) ?_
          refine tj_aload_n (q := 81) dX4_readLine_80 rfl (i := 0) rfl (pl := 0) rfl ?_
          refine tj_aload_n (q := 82) dX4_readLine_81 rfl (i := 2) rfl (pl := 2) rfl ?_
          refine tj_callZ (q := 85) (kj_V (As := [.ref (h0 + p2)]) (rest := []) (t := t) wi_RX4_86 (hT).s rfl (rX4_readHouse t p2 (hT) (hp2)) rfl (Nat.le_of_ble_eq_true rfl) ⟨Nat.le_of_ble_eq_true rfl, Nat.le_of_ble_eq_true rfl⟩ (Nat.le_of_ble_eq_true rfl) dX4_readLine_82) rfl (fun r8 => ?_)
          exact tj_zret rfl (nar_b2i _) rfl (Nat.le_of_ble_eq_true rfl) (Nat.le_of_ble_eq_true rfl) dX4_readLine_85
        · refine tj_caseI (fun hc9 => ?_) (fun hc9 => ?_)
          · refine tj_tin (tgt := 86) (k := 3) (off := 60) dX4_readLine_26 hc9 (by decide) (by decide) (by decide) (by decide) ?_
            refine tj_aload_n (q := 87) dX4_readLine_86 rfl (i := 0) rfl (pl := 0) rfl ?_
            refine tj_aload_n (q := 88) dX4_readLine_87 rfl (i := 2) rfl (pl := 2) rfl ?_
            refine tj_callZ (q := 91) (kj_V (As := [.ref (h0 + p2)]) (rest := []) (t := t) wi_RX4_89 (hT).s rfl (rX4_readThief t p2 (hT) (hp2)) rfl (Nat.le_of_ble_eq_true rfl) ⟨Nat.le_of_ble_eq_true rfl, Nat.le_of_ble_eq_true rfl⟩ (Nat.le_of_ble_eq_true rfl) dX4_readLine_88) rfl (fun r10 => ?_)
            exact tj_zret rfl (nar_b2i _) rfl (Nat.le_of_ble_eq_true rfl) (Nat.le_of_ble_eq_true rfl) dX4_readLine_91
          · refine tj_caseI (fun hc11 => ?_) (fun hc11 => ?_)
            · refine tj_tin (tgt := 92) (k := 4) (off := 66) dX4_readLine_26 hc11 (by decide) (by decide) (by decide) (by decide) ?_
              refine tj_aload_n (q := 93) dX4_readLine_92 rfl (i := 0) rfl (pl := 0) rfl ?_
              refine tj_aload_n (q := 94) dX4_readLine_93 rfl (i := 2) rfl (pl := 2) rfl ?_
              refine tj_callZ (q := 97) (kj_V (As := [.ref (h0 + p2)]) (rest := []) (t := t) wi_RX4_92 (hT).s rfl (rX4_readDear t p2 (hT) (hp2)) rfl (Nat.le_of_ble_eq_true rfl) ⟨Nat.le_of_ble_eq_true rfl, Nat.le_of_ble_eq_true rfl⟩ (Nat.le_of_ble_eq_true rfl) dX4_readLine_94) rfl (fun r12 => ?_)
              exact tj_zret rfl (nar_b2i _) rfl (Nat.le_of_ble_eq_true rfl) (Nat.le_of_ble_eq_true rfl) dX4_readLine_97
            · refine tj_caseI (fun hc13 => ?_) (fun hc13 => ?_)
              · refine tj_tin (tgt := 98) (k := 5) (off := 72) dX4_readLine_26 hc13 (by decide) (by decide) (by decide) (by decide) ?_
                refine tj_aload_n (q := 99) dX4_readLine_98 rfl (i := 0) rfl (pl := 0) rfl ?_
                refine tj_aload_n (q := 100) dX4_readLine_99 rfl (i := 2) rfl (pl := 2) rfl ?_
                refine tj_callZ (q := 103) (kj_V (As := [.ref (h0 + p2)]) (rest := []) (t := t) wi_RX4_95 (hT).s rfl (rX4_readLaw t p2 (hT) (hp2)) rfl (Nat.le_of_ble_eq_true rfl) ⟨Nat.le_of_ble_eq_true rfl, Nat.le_of_ble_eq_true rfl⟩ (Nat.le_of_ble_eq_true rfl) dX4_readLine_100) rfl (fun r14 => ?_)
                exact tj_zret rfl (nar_b2i _) rfl (Nat.le_of_ble_eq_true rfl) (Nat.le_of_ble_eq_true rfl) dX4_readLine_103
              · refine tj_caseI (fun hc15 => ?_) (fun hc15 => ?_)
                · refine tj_tin (tgt := 104) (k := 6) (off := 78) dX4_readLine_26 hc15 (by decide) (by decide) (by decide) (by decide) ?_
                  refine tj_aload_n (q := 105) dX4_readLine_104 rfl (i := 0) rfl (pl := 0) rfl ?_
                  refine tj_iload_n (q := 106) dX4_readLine_105 rfl (i := 1) rfl (pl := 1) rfl ?_
                  refine tj_aload_n (q := 107) dX4_readLine_106 rfl (i := 2) rfl (pl := 2) rfl ?_
                  refine tj_callZ (q := 110) (kj_V (As := [.int p1, .ref (h0 + p2)]) (rest := []) (t := t) wi_RX4_98 (hT).s rfl (rX4_readNight t p1 p2 (hT) (hp2)) rfl (Nat.le_of_ble_eq_true rfl) ⟨Nat.le_of_ble_eq_true rfl, Nat.le_of_ble_eq_true rfl⟩ (Nat.le_of_ble_eq_true rfl) dX4_readLine_107) rfl (fun r16 => ?_)
                  exact tj_zret rfl (nar_b2i _) rfl (Nat.le_of_ble_eq_true rfl) (Nat.le_of_ble_eq_true rfl) dX4_readLine_110
                · refine tj_dflt (tgt := 111) ?_ (fun hD18 => ?_)
                  · refine tj_aload_n (q := 112) dX4_readLine_111 rfl (i := 0) rfl (pl := 0) rfl ?_
                    refine tj_getR (q := 115) (hT).s (hT).p_tokens fok_4_1 wl_RX4_22 dX4_readLine_112 rfl ?_
                    refine tj_callZ (q := 118) (kj_V (As := []) (rest := []) (t := (t + 2)) wi_RX4_71 ((hT).o_tokens).s rfl (rX10_refuse (t + 2) ((hT).o_tokens)) rfl (Nat.le_of_ble_eq_true rfl) ⟨Nat.le_of_ble_eq_true rfl, Nat.le_of_ble_eq_true rfl⟩ (Nat.le_of_ble_eq_true rfl) dX4_readLine_115) rfl (fun r17 => ?_)
                    exact tj_zret rfl (nar_b2i _) rfl (Nat.le_of_ble_eq_true rfl) (Nat.le_of_ble_eq_true rfl) dX4_readLine_118
                  · exact tj_tout (tgt := 111) dX4_readLine_26 (by have e0 := lv_neT (a := 0) hc3 (by decide); have e1 := lv_neT (a := 1) hc5 (by decide); have e2 := lv_neT (a := 2) hc7 (by decide); have e3 := lv_neT (a := 3) hc9 (by decide); have e4 := lv_neT (a := 4) hc11 (by decide); have e5 := lv_neT (a := 5) hc13 (by decide); have e6 := lv_neT (a := 6) hc15 (by decide); omega) (by decide) hD18
  · refine tj_aload_n (q := 12) dX4_readLine_11 rfl (i := 0) rfl (pl := 0) rfl ?_
    refine tj_getR (q := 15) (hT).s (hT).p_tokens fok_4_1 wl_RX4_22 dX4_readLine_12 rfl ?_
    refine tj_callZ (q := 18) (kj_V (As := []) (rest := []) (t := (t + 2)) wi_RX4_71 ((hT).o_tokens).s rfl (rX10_refuse (t + 2) ((hT).o_tokens)) rfl (Nat.le_of_ble_eq_true rfl) ⟨Nat.le_of_ble_eq_true rfl, Nat.le_of_ble_eq_true rfl⟩ (Nat.le_of_ble_eq_true rfl) dX4_readLine_15) rfl (fun r19 => ?_)
    exact tj_zret rfl (nar_b2i _) rfl (Nat.le_of_ble_eq_true rfl) (Nat.le_of_ble_eq_true rfl) dX4_readLine_18

theorem dX4_read_0 : decode cX4_read 0 = .ok (.aload_n 1, 1) := by decide +kernel
theorem dX4_read_1 : decode cX4_read 1 = .ok (.invokevirtual 50, 3) := by decide +kernel
theorem dX4_read_4 : decode cX4_read 4 = .ok (.aload_n 0, 1) := by decide +kernel
theorem dX4_read_5 : decode cX4_read 5 = .ok (.iconst 0, 1) := by decide +kernel
theorem dX4_read_6 : decode cX4_read 6 = .ok (.putfield 37, 3) := by decide +kernel
theorem dX4_read_9 : decode cX4_read 9 = .ok (.aload_n 0, 1) := by decide +kernel
theorem dX4_read_10 : decode cX4_read 10 = .ok (.iconst 0, 1) := by decide +kernel
theorem dX4_read_11 : decode cX4_read 11 = .ok (.putfield 41, 3) := by decide +kernel
theorem dX4_read_14 : decode cX4_read 14 = .ok (.aload_n 0, 1) := by decide +kernel
theorem dX4_read_15 : decode cX4_read 15 = .ok (.iconst 0, 1) := by decide +kernel
theorem dX4_read_16 : decode cX4_read 16 = .ok (.putfield 44, 3) := by decide +kernel
theorem dX4_read_19 : decode cX4_read 19 = .ok (.iconst 0, 1) := by decide +kernel
theorem dX4_read_20 : decode cX4_read 20 = .ok (.istore_n 2, 1) := by decide +kernel
theorem dX4_read_21 : decode cX4_read 21 = .ok (.iload_n 2, 1) := by decide +kernel
theorem dX4_read_22 : decode cX4_read 22 = .ok (.sipush 1700, 3) := by decide +kernel
theorem dX4_read_25 : decode cX4_read 25 = .ok (.if_icmp .ge 43, 3) := by decide +kernel
theorem dX4_read_28 : decode cX4_read 28 = .ok (.aload_n 0, 1) := by decide +kernel
theorem dX4_read_29 : decode cX4_read 29 = .ok (.getfield 22, 3) := by decide +kernel
theorem dX4_read_32 : decode cX4_read 32 = .ok (.iconst 0, 1) := by decide +kernel
theorem dX4_read_33 : decode cX4_read 33 = .ok (.invokevirtual 57, 3) := by decide +kernel
theorem dX4_read_36 : decode cX4_read 36 = .ok (.ifCond .ne 32, 3) := by decide +kernel
theorem dX4_read_39 : decode cX4_read 39 = .ok (.aload_n 0, 1) := by decide +kernel
theorem dX4_read_40 : decode cX4_read 40 = .ok (.iload_n 2, 1) := by decide +kernel
theorem dX4_read_41 : decode cX4_read 41 = .ok (.aload_n 1, 1) := by decide +kernel
theorem dX4_read_42 : decode cX4_read 42 = .ok (.invokevirtual 61, 3) := by decide +kernel
theorem dX4_read_45 : decode cX4_read 45 = .ok (.ifCond .eq 15, 3) := by decide +kernel
theorem dX4_read_48 : decode cX4_read 48 = .ok (.aload_n 0, 1) := by decide +kernel
theorem dX4_read_49 : decode cX4_read 49 = .ok (.getfield 22, 3) := by decide +kernel
theorem dX4_read_52 : decode cX4_read 52 = .ok (.bipush 59, 2) := by decide +kernel
theorem dX4_read_54 : decode cX4_read 54 = .ok (.invokevirtual 65, 3) := by decide +kernel
theorem dX4_read_57 : decode cX4_read 57 = .ok (.ifCond .ne 5, 3) := by decide +kernel
theorem dX4_read_60 : decode cX4_read 60 = .ok (.iconst 0, 1) := by decide +kernel
theorem dX4_read_61 : decode cX4_read 61 = .ok (.ireturn, 1) := by decide +kernel
theorem dX4_read_62 : decode cX4_read 62 = .ok (.iinc 2 1, 3) := by decide +kernel
theorem dX4_read_65 : decode cX4_read 65 = .ok (.goto (-44), 3) := by decide +kernel
theorem dX4_read_68 : decode cX4_read 68 = .ok (.aload_n 1, 1) := by decide +kernel
theorem dX4_read_69 : decode cX4_read 69 = .ok (.invokevirtual 68, 3) := by decide +kernel
theorem dX4_read_72 : decode cX4_read 72 = .ok (.iconst 1, 1) := by decide +kernel
theorem dX4_read_73 : decode cX4_read 73 = .ok (.ireturn, 1) := by decide +kernel
theorem wm_X1_clear : Cond.instanceMethod yX1_clear ∈ TB ∧ Cond.selects yX1_clear.cls yX1_clear yX1_clear ∈ TB ∧ Cond.initialized yX1_clear.cls ∈ TB ∧ Cond.code yX1_clear cX1_clear 1 none ∈ TB ∧ (yX1_clear.cls ≠ "java/lang/invoke/MethodHandle" ∧ yX1_clear.cls ≠ "java/lang/invoke/VarHandle" ∧ (parseMethodDescriptor yX1_clear.desc).map (fun d => d.parameters.length) = some 0) ∧ 1 ≤ 21 := ⟨tbm 828 (by decide +kernel) (by decide +kernel), tbm 829 (by decide +kernel) (by decide +kernel), tbm 138 (by decide +kernel) (by decide +kernel), tbm 830 (by decide +kernel) (by decide +kernel), by decide +kernel, by decide⟩
theorem wi_RX4_50 : Iv RX4 50 yX1_clear cX1_clear 1 none 0 := ⟨tbm 827 (by decide +kernel) (by decide +kernel), wm_X1_clear⟩
theorem wm_X4_readLine : Cond.instanceMethod yX4_readLine ∈ TB ∧ Cond.selects yX4_readLine.cls yX4_readLine yX4_readLine ∈ TB ∧ Cond.initialized yX4_readLine.cls ∈ TB ∧ Cond.code yX4_readLine cX4_readLine 3 (some .boolean) ∈ TB ∧ (yX4_readLine.cls ≠ "java/lang/invoke/MethodHandle" ∧ yX4_readLine.cls ≠ "java/lang/invoke/VarHandle" ∧ (parseMethodDescriptor yX4_readLine.desc).map (fun d => d.parameters.length) = some 2) ∧ 3 ≤ 21 := ⟨tbm 844 (by decide +kernel) (by decide +kernel), tbm 6 (by decide +kernel) (by decide +kernel), tbm 135 (by decide +kernel) (by decide +kernel), tbm 845 (by decide +kernel) (by decide +kernel), by decide +kernel, by decide⟩
theorem wi_RX4_61 : Iv RX4 61 yX4_readLine cX4_readLine 3 (some .boolean) 2 := ⟨tbm 842 (by decide +kernel) (by decide +kernel), wm_X4_readLine⟩
theorem wi_RX4_65 : Iv RX4 65 yX10_takeSign cX10_takeSign 2 (some .boolean) 1 := ⟨tbm 993 (by decide +kernel) (by decide +kernel), wm_X10_takeSign⟩
theorem wm_X1_settle : Cond.instanceMethod yX1_settle ∈ TB ∧ Cond.selects yX1_settle.cls yX1_settle yX1_settle ∈ TB ∧ Cond.initialized yX1_settle.cls ∈ TB ∧ Cond.code yX1_settle cX1_settle 2 none ∈ TB ∧ (yX1_settle.cls ≠ "java/lang/invoke/MethodHandle" ∧ yX1_settle.cls ≠ "java/lang/invoke/VarHandle" ∧ (parseMethodDescriptor yX1_settle.desc).map (fun d => d.parameters.length) = some 0) ∧ 2 ≤ 21 := ⟨tbm 995 (by decide +kernel) (by decide +kernel), tbm 996 (by decide +kernel) (by decide +kernel), tbm 138 (by decide +kernel) (by decide +kernel), tbm 997 (by decide +kernel) (by decide +kernel), by decide +kernel, by decide⟩
theorem wi_RX4_68 : Iv RX4 68 yX1_settle cX1_settle 2 none 0 := ⟨tbm 994 (by decide +kernel) (by decide +kernel), wm_X1_settle⟩
def mX4_read_L21 (t : Nat) (p1 : Nat) (k68 : St_ → Option (Bool × St_)) : Nat → Int32 → St_ → Option (Bool × St_)
  | 0, _, _ => none
  | n + 1, x2, σ => (if (1700 : Int32) ≤ x2 then
 (k68 σ)
 else ((mX10_isSort (t + 2) (0 : Int32) σ).bind fun r5 =>
 (if r5 = true then
 (k68 σ)
 else ((mX4_readLine t x2 p1 σ).bind fun r6 =>
 (if r6.1 = true then
 ((mX10_takeSign (t + 2) (59 : Int32) r6.2).bind fun r7 =>
 (if r7.1 = true then
 (mX4_read_L21 t p1 k68 n (x2 + 1) r7.2)
 else (some (false, r7.2))))
 else (some (false, r6.2)))))))
def mX4_read (t : Nat) (p1 : Nat) (σ : St_) : Option (Bool × St_) :=
 ((mX1_clear p1 σ).bind fun σ1 =>
 (bnd (sI σ1 t 6 (0 : Int32)) fun σ2 =>
 (bnd (sI σ2 t 7 (0 : Int32)) fun σ3 =>
 (bnd (sI σ3 t 8 (0 : Int32)) fun σ4 =>
 (mX4_read_L21 t p1
 (fun (σ8 : St_) => ((mX1_settle p1 σ8).bind fun σ9 =>
 (some (true, σ9)))) FU (0 : Int32) σ4)))))
set_option maxHeartbeats 4000000 in
theorem tmX4_read_L21 (t : Nat) (p1 : Nat) (hT : LY4 sh P t) (hp1 : LY1 sh P p1) (k68 : St_ → Option (Bool × St_)) (hk68 : ∀ (σ1 : St_), Tj l D cA h0 ad RX4 cX4_read 3 (some .boolean) false 119 0 0 (fun b => (some (.int (b2i b.1)), sh, P, b.2)) 0 0 sh P σ1 68 [(1, .ref (h0 + p1))] [] (k68 σ1)) : ∀ (n : Nat) (x2 : Int32) (σ : St_), Tj l D cA h0 ad RX4 cX4_read 3 (some .boolean) false 119 0 0 (fun b => (some (.int (b2i b.1)), sh, P, b.2)) 0 0 sh P σ 21 [(0, .ref (h0 + t)), (1, .ref (h0 + p1)), (2, .int x2)] [] (mX4_read_L21 t p1 k68 n x2 σ) := by
  intro n
  induction n with
  | zero => intros; exact tj_none
  | succ n ih =>
    intro x2 σ
    rw [mX4_read_L21]
    refine tj_iload_n (q := 22) dX4_read_21 rfl (i := 2) rfl (pl := 2) rfl ?_
    refine tj_sipush (q := 25) (v := 1700) dX4_read_22 rfl (by decide) ?_
    refine tj_icmp_ge (tgt := 68) (q := 28) dX4_read_25 (by decide) rfl ?_ ?_
    · refine tj_lv [1] rfl ?_
      exact hk68 σ
    · refine tj_aload_n (q := 29) dX4_read_28 rfl (i := 0) rfl (pl := 0) rfl ?_
      refine tj_getR (q := 32) (hT).s (hT).p_tokens fok_4_1 wl_RX4_22 dX4_read_29 rfl ?_
      refine tj_iconst (q := 33) (v := 0) dX4_read_32 rfl (by decide) ?_
      refine tj_callZp (q := 36) (kj_V (As := [.int (0 : Int32)]) (rest := []) (t := (t + 2)) wi_RX4_57 ((hT).o_tokens).s rfl (rX10_isSort (t + 2) (0 : Int32) ((hT).o_tokens)) rfl (Nat.le_of_ble_eq_true rfl) ⟨Nat.le_of_ble_eq_true rfl, Nat.le_of_ble_eq_true rfl⟩ (Nat.le_of_ble_eq_true rfl) dX4_read_33) rfl (fun r5 => ?_)
      refine tj_bnz (tgt := 68) (q := 39) dX4_read_36 (by decide) rfl ?_ ?_
      · refine tj_lv [1] rfl ?_
        exact hk68 σ
      · refine tj_aload_n (q := 40) dX4_read_39 rfl (i := 0) rfl (pl := 0) rfl ?_
        refine tj_iload_n (q := 41) dX4_read_40 rfl (i := 2) rfl (pl := 2) rfl ?_
        refine tj_aload_n (q := 42) dX4_read_41 rfl (i := 1) rfl (pl := 1) rfl ?_
        refine tj_callZ (q := 45) (kj_V (As := [.int x2, .ref (h0 + p1)]) (rest := []) (t := t) wi_RX4_61 (hT).s rfl (rX4_readLine t x2 p1 (hT) (hp1)) rfl (Nat.le_of_ble_eq_true rfl) ⟨Nat.le_of_ble_eq_true rfl, Nat.le_of_ble_eq_true rfl⟩ (Nat.le_of_ble_eq_true rfl) dX4_read_42) rfl (fun r6 => ?_)
        refine tj_bz (tgt := 60) (q := 48) dX4_read_45 (by decide) rfl ?_ ?_
        · refine tj_aload_n (q := 49) dX4_read_48 rfl (i := 0) rfl (pl := 0) rfl ?_
          refine tj_getR (q := 52) (hT).s (hT).p_tokens fok_4_1 wl_RX4_22 dX4_read_49 rfl ?_
          refine tj_bipush (q := 54) (v := 59) dX4_read_52 rfl (by decide) ?_
          refine tj_callZ (q := 57) (kj_V (As := [.int (59 : Int32)]) (rest := []) (t := (t + 2)) wi_RX4_65 ((hT).o_tokens).s rfl (rX10_takeSign (t + 2) (59 : Int32) ((hT).o_tokens)) rfl (Nat.le_of_ble_eq_true rfl) ⟨Nat.le_of_ble_eq_true rfl, Nat.le_of_ble_eq_true rfl⟩ (Nat.le_of_ble_eq_true rfl) dX4_read_54) rfl (fun r7 => ?_)
          refine tj_bnz (tgt := 62) (q := 60) dX4_read_57 (by decide) rfl ?_ ?_
          · refine tj_iinc (q := 65) (v := x2 + 1) dX4_read_62 rfl (pl := 2) rfl rfl (by decide) rfl ?_
            refine tj_goto (q := 21) dX4_read_65 (by decide) ?_
            refine tj_lv [1, 2, 0] rfl ?_
            exact ih (x2 + 1) r7.2
          · refine tj_iconst (q := 61) (v := 0) dX4_read_60 rfl (by decide) ?_
            exact tj_zret rfl (by decide) rfl (Nat.le_of_ble_eq_true rfl) (Nat.le_of_ble_eq_true rfl) dX4_read_61
        · refine tj_iconst (q := 61) (v := 0) dX4_read_60 rfl (by decide) ?_
          exact tj_zret rfl (by decide) rfl (Nat.le_of_ble_eq_true rfl) (Nat.le_of_ble_eq_true rfl) dX4_read_61

set_option maxHeartbeats 4000000 in
theorem rX4_read (t : Nat) (p1 : Nat) (hT : LY4 sh P t) (hp1 : LY1 sh P p1) : Rj l D cA h0 ad yX4_read cX4_read 3 (some .boolean) false 119 0 0 (fun b => (some (.int (b2i b.1)), sh, P, b.2)) [.ref (h0 + t), .ref (h0 + p1)] sh P σ (mX4_read t p1 σ) := by
  rw [mX4_read]
  refine Rj.of (by decide) (fun h => by cases h) (Nat.le_of_ble_eq_true rfl) ?_
  refine tj_lv0 (lv' := [(0, .ref (h0 + t)), (1, .ref (h0 + p1))]) rfl ?_
  refine tj_aload_n (q := 1) dX4_read_0 rfl (i := 1) rfl (pl := 1) rfl ?_
  refine tj_callV (q := 4) (kj_V (As := []) (rest := []) (t := p1) wi_RX4_50 (hp1).s rfl (rX1_clear p1 (hp1)) rfl (Nat.le_of_ble_eq_true rfl) ⟨Nat.le_of_ble_eq_true rfl, Nat.le_of_ble_eq_true rfl⟩ (Nat.le_of_ble_eq_true rfl) dX4_read_1) rfl (fun σ1 => ?_)
  refine tj_aload_n (q := 5) dX4_read_4 rfl (i := 0) rfl (pl := 0) rfl ?_
  refine tj_iconst (q := 6) (v := 0) dX4_read_5 rfl (by decide) ?_
  refine tj_putI (q := 9) (hT).s fok_4_6 tok_4 fpk_4_6 wl_RX4_37 dX4_read_6 rfl (fun σ2 => ?_)
  refine tj_aload_n (q := 10) dX4_read_9 rfl (i := 0) rfl (pl := 0) rfl ?_
  refine tj_iconst (q := 11) (v := 0) dX4_read_10 rfl (by decide) ?_
  refine tj_putI (q := 14) (hT).s fok_4_7 tok_4 fpk_4_7 wl_RX4_41 dX4_read_11 rfl (fun σ3 => ?_)
  refine tj_aload_n (q := 15) dX4_read_14 rfl (i := 0) rfl (pl := 0) rfl ?_
  refine tj_iconst (q := 16) (v := 0) dX4_read_15 rfl (by decide) ?_
  refine tj_putI (q := 19) (hT).s fok_4_8 tok_4 fpk_4_8 wl_RX4_44 dX4_read_16 rfl (fun σ4 => ?_)
  refine tj_iconst (q := 20) (v := 0) dX4_read_19 rfl (by decide) ?_
  refine tj_istore_n (q := 21) dX4_read_20 rfl (i := 2) rfl (by decide) rfl ?_
  refine tj_lv [1, 2, 0] rfl ?_
  refine tmX4_read_L21 t p1 hT hp1 _ ?_ FU (0 : Int32) σ4
  · intro σ8
    refine tj_aload_n (q := 69) dX4_read_68 rfl (i := 1) rfl (pl := 0) rfl ?_
    refine tj_callV (q := 72) (kj_V (As := []) (rest := []) (t := p1) wi_RX4_68 (hp1).s rfl (rX1_settle p1 (hp1)) rfl (Nat.le_of_ble_eq_true rfl) ⟨Nat.le_of_ble_eq_true rfl, Nat.le_of_ble_eq_true rfl⟩ (Nat.le_of_ble_eq_true rfl) dX4_read_69) rfl (fun σ9 => ?_)
    refine tj_iconst (q := 73) (v := 1) dX4_read_72 rfl (by decide) ?_
    exact tj_zret rfl (by decide) rfl (Nat.le_of_ble_eq_true rfl) (Nat.le_of_ble_eq_true rfl) dX4_read_73

end
