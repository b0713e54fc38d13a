section
variable {l : Launch} {D : va_G} {cA : Nat → ClassId} {h0 : Nat} {ad : Ad_} {sh : Sh_} {P : Px_} {σ : St_}
theorem dX12_four_0 : decode cX12_four 0 = .ok (.bipush 24, 2) := by decide +kernel
theorem dX12_four_2 : decode cX12_four 2 = .ok (.istore_n 2, 1) := by decide +kernel
theorem dX12_four_3 : decode cX12_four 3 = .ok (.iload_n 2, 1) := by decide +kernel
theorem dX12_four_4 : decode cX12_four 4 = .ok (.ifCond .lt 35, 3) := by decide +kernel
theorem dX12_four_7 : decode cX12_four 7 = .ok (.aload_n 0, 1) := by decide +kernel
theorem dX12_four_8 : decode cX12_four 8 = .ok (.getfield 7, 3) := by decide +kernel
theorem dX12_four_11 : decode cX12_four 11 = .ok (.aload_n 0, 1) := by decide +kernel
theorem dX12_four_12 : decode cX12_four 12 = .ok (.getfield 163, 3) := by decide +kernel
theorem dX12_four_15 : decode cX12_four 15 = .ok (.iload_n 1, 1) := by decide +kernel
theorem dX12_four_16 : decode cX12_four 16 = .ok (.iload_n 2, 1) := by decide +kernel
theorem dX12_four_17 : decode cX12_four 17 = .ok (.ishr, 1) := by decide +kernel
theorem dX12_four_18 : decode cX12_four 18 = .ok (.sipush 255, 3) := by decide +kernel
theorem dX12_four_21 : decode cX12_four 21 = .ok (.iand, 1) := by decide +kernel
theorem dX12_four_22 : decode cX12_four 22 = .ok (.iastore, 1) := by decide +kernel
theorem dX12_four_23 : decode cX12_four 23 = .ok (.aload_n 0, 1) := by decide +kernel
theorem dX12_four_24 : decode cX12_four 24 = .ok (.dup, 1) := by decide +kernel
theorem dX12_four_25 : decode cX12_four 25 = .ok (.getfield 163, 3) := by decide +kernel
theorem dX12_four_28 : decode cX12_four 28 = .ok (.iconst 1, 1) := by decide +kernel
theorem dX12_four_29 : decode cX12_four 29 = .ok (.iadd, 1) := by decide +kernel
theorem dX12_four_30 : decode cX12_four 30 = .ok (.putfield 163, 3) := by decide +kernel
theorem dX12_four_33 : decode cX12_four 33 = .ok (.iinc 2 (-8), 3) := by decide +kernel
theorem dX12_four_36 : decode cX12_four 36 = .ok (.goto (-33), 3) := by decide +kernel
theorem dX12_four_39 : decode cX12_four 39 = .ok (.return_, 1) := by decide +kernel
theorem wl_RX12_7 : Cond.fieldLink RX12 7 (TX12 0).1 (TX12 0).2.1 (TX12 0).2.2.1 ∈ TB := tbm 1415 (by decide +kernel) (by decide +kernel)
theorem wl_RX12_163 : Cond.fieldLink RX12 163 (TX12 1).1 (TX12 1).2.1 (TX12 1).2.2.1 ∈ TB := tbm 1416 (by decide +kernel) (by decide +kernel)
def mX12_four_L3 (t : Nat) (x1 : Int32) : Nat → Int32 → St_ → Option St_
  | 0, _, _ => none
  | n + 1, x2, σ => (if x2 < 0 then
 (some σ)
 else (bnd (σ.1 t 1) fun v1 =>
 (if bin v1 1700 = true then bnd (sI σ (t + 1) v1.toNatClampNeg ((x1 >>> (x2 &&& 31)) &&& (255 : Int32))) fun σ2 =>
 (bnd (sI σ2 t 1 ((σ2.1 t 1) + (1 : Int32))) fun σ3 =>
 (mX12_four_L3 t x1 n (x2 + (-8)) σ3))
 else none)))
def mX12_four (t : Nat) (p1 : Int32) (σ : St_) : Option St_ :=
 (mX12_four_L3 t p1 FU (24 : Int32) σ)
set_option maxHeartbeats 4000000 in
theorem tmX12_four_L3 (t : Nat) (hT : LY12 sh P t) (x1 : Int32) : ∀ (n : Nat) (x2 : Int32) (σ : St_), Tj l D cA h0 ad RX12 cX12_four 3 none false 2 0 0 (fun b => (none, sh, P, b)) 0 0 sh P σ 3 [(0, .ref (h0 + t)), (1, .int x1), (2, .int x2)] [] (mX12_four_L3 t x1 n x2 σ) := by
  intro n
  induction n with
  | zero => intros; exact tj_none
  | succ n ih =>
    intro x2 σ
    rw [mX12_four_L3]
    refine tj_iload_n (q := 4) dX12_four_3 rfl (i := 2) rfl (pl := 2) rfl ?_
    refine tj_if_lt (tgt := 39) (q := 7) dX12_four_4 (by decide) rfl ?_ ?_
    · exact tj_vret rfl rfl (Nat.le_of_ble_eq_true rfl) (Nat.le_of_ble_eq_true rfl) dX12_four_39
    · refine tj_aload_n (q := 8) dX12_four_7 rfl (i := 0) rfl (pl := 0) rfl ?_
      refine tj_getR (q := 11) (hT).s (hT).p_tape fok_12_0 wl_RX12_7 dX12_four_8 rfl ?_
      refine tj_aload_n (q := 12) dX12_four_11 rfl (i := 0) rfl (pl := 0) rfl ?_
      refine tj_getI (q := 15) (hT).s fok_12_1 wl_RX12_163 dX12_four_12 rfl ?_
      refine tj_iload_n (q := 16) dX12_four_15 rfl (i := 1) rfl (pl := 1) rfl ?_
      refine tj_iload_n (q := 17) dX12_four_16 rfl (i := 2) rfl (pl := 2) rfl ?_
      refine tj_ishr (q := 18) dX12_four_17 rfl ?_
      refine tj_sipush (q := 21) (v := 255) dX12_four_18 rfl (by decide) ?_
      refine tj_iand (q := 22) dX12_four_21 rfl ?_
      refine tj_sndI (fun v1 => ?_)
      refine tj_iastore (q := 23) (hT).s_tape dX12_four_22 rfl (fun σ2 => ?_)
      refine tj_aload_n (q := 24) dX12_four_23 rfl (i := 0) rfl (pl := 0) rfl ?_
      refine tj_dup (q := 25) dX12_four_24 rfl rfl ?_
      refine tj_getI (q := 28) (hT).s fok_12_1 wl_RX12_163 dX12_four_25 rfl ?_
      refine tj_iconst (q := 29) (v := 1) dX12_four_28 rfl (by decide) ?_
      refine tj_iadd (q := 30) dX12_four_29 rfl ?_
      refine tj_putI (q := 33) (hT).s fok_12_1 tok_12 fpk_12_1 wl_RX12_163 dX12_four_30 rfl (fun σ3 => ?_)
      refine tj_iinc (q := 36) (v := x2 + (-8)) dX12_four_33 rfl (pl := 2) rfl rfl (by decide) rfl ?_
      refine tj_goto (q := 3) dX12_four_36 (by decide) ?_
      refine tj_lv [1, 2, 0] rfl ?_
      exact ih (x2 + (-8)) σ3

set_option maxHeartbeats 4000000 in
theorem rX12_four (t : Nat) (p1 : Int32) (hT : LY12 sh P t) : Rj l D cA h0 ad yX12_four cX12_four 3 none false 2 0 0 (fun b => (none, sh, P, b)) [.ref (h0 + t), .int p1] sh P σ (mX12_four t p1 σ) := by
  rw [mX12_four]
  refine Rj.of (by decide) (fun h => by cases h) (Nat.le_of_ble_eq_true rfl) ?_
  refine tj_lv0 (lv' := [(0, .ref (h0 + t)), (1, .int p1)]) rfl ?_
  refine tj_bipush (q := 2) (v := 24) dX12_four_0 rfl (by decide) ?_
  refine tj_istore_n (q := 3) dX12_four_2 rfl (i := 2) rfl (by decide) rfl ?_
  refine tj_lv [1, 2, 0] rfl ?_
  exact tmX12_four_L3 t hT p1 FU (24 : Int32) σ

theorem dX12_feed_0 : decode cX12_feed 0 = .ok (.aload_n 0, 1) := by decide +kernel
theorem dX12_feed_1 : decode cX12_feed 1 = .ok (.getfield 163, 3) := by decide +kernel
theorem dX12_feed_4 : decode cX12_feed 4 = .ok (.bipush 20, 2) := by decide +kernel
theorem dX12_feed_6 : decode cX12_feed 6 = .ok (.iadd, 1) := by decide +kernel
theorem dX12_feed_7 : decode cX12_feed 7 = .ok (.sipush 1700, 3) := by decide +kernel
theorem dX12_feed_10 : decode cX12_feed 10 = .ok (.if_icmp .le 5, 3) := by decide +kernel
theorem dX12_feed_13 : decode cX12_feed 13 = .ok (.iconst (-1), 1) := by decide +kernel
theorem dX12_feed_14 : decode cX12_feed 14 = .ok (.ireturn, 1) := by decide +kernel
theorem dX12_feed_15 : decode cX12_feed 15 = .ok (.aload_n 0, 1) := by decide +kernel
theorem dX12_feed_16 : decode cX12_feed 16 = .ok (.iload_n 1, 1) := by decide +kernel
theorem dX12_feed_17 : decode cX12_feed 17 = .ok (.invokevirtual 166, 3) := by decide +kernel
theorem dX12_feed_20 : decode cX12_feed 20 = .ok (.aload_n 0, 1) := by decide +kernel
theorem dX12_feed_21 : decode cX12_feed 21 = .ok (.iload_n 2, 1) := by decide +kernel
theorem dX12_feed_22 : decode cX12_feed 22 = .ok (.invokevirtual 166, 3) := by decide +kernel
theorem dX12_feed_25 : decode cX12_feed 25 = .ok (.aload_n 0, 1) := by decide +kernel
theorem dX12_feed_26 : decode cX12_feed 26 = .ok (.iload_n 3, 1) := by decide +kernel
theorem dX12_feed_27 : decode cX12_feed 27 = .ok (.invokevirtual 166, 3) := by decide +kernel
theorem dX12_feed_30 : decode cX12_feed 30 = .ok (.aload_n 0, 1) := by decide +kernel
theorem dX12_feed_31 : decode cX12_feed 31 = .ok (.iload 4, 2) := by decide +kernel
theorem dX12_feed_33 : decode cX12_feed 33 = .ok (.invokevirtual 166, 3) := by decide +kernel
theorem dX12_feed_36 : decode cX12_feed 36 = .ok (.aload_n 0, 1) := by decide +kernel
theorem dX12_feed_37 : decode cX12_feed 37 = .ok (.iload 5, 2) := by decide +kernel
theorem dX12_feed_39 : decode cX12_feed 39 = .ok (.invokevirtual 166, 3) := by decide +kernel
theorem dX12_feed_42 : decode cX12_feed 42 = .ok (.aload_n 0, 1) := by decide +kernel
theorem dX12_feed_43 : decode cX12_feed 43 = .ok (.getfield 163, 3) := by decide +kernel
theorem dX12_feed_46 : decode cX12_feed 46 = .ok (.ireturn, 1) := by decide +kernel
theorem wm_X12_four : Cond.instanceMethod yX12_four ∈ TB ∧ Cond.selects yX12_four.cls yX12_four yX12_four ∈ TB ∧ Cond.initialized yX12_four.cls ∈ TB ∧ Cond.code yX12_four cX12_four 3 none ∈ TB ∧ (yX12_four.cls ≠ "java/lang/invoke/MethodHandle" ∧ yX12_four.cls ≠ "java/lang/invoke/VarHandle" ∧ (parseMethodDescriptor yX12_four.desc).map (fun d => d.parameters.length) = some 1) ∧ 3 ≤ 21 := ⟨tbm 1695 (by decide +kernel) (by decide +kernel), tbm 55 (by decide +kernel) (by decide +kernel), tbm 146 (by decide +kernel) (by decide +kernel), tbm 1696 (by decide +kernel) (by decide +kernel), by decide +kernel, by decide⟩
theorem wi_RX12_166 : Iv RX12 166 yX12_four cX12_four 3 none 1 := ⟨tbm 1693 (by decide +kernel) (by decide +kernel), wm_X12_four⟩
def mX12_feed (t : Nat) (p1 : Int32) (p2 : Int32) (p3 : Int32) (p4 : Int32) (p5 : Int32) (σ : St_) : Option (Int32 × St_) :=
 (if ((σ.1 t 1) + (20 : Int32)) ≤ (1700 : Int32) then
 ((mX12_four t p1 σ).bind fun σ1 =>
 ((mX12_four t p2 σ1).bind fun σ2 =>
 ((mX12_four t p3 σ2).bind fun σ3 =>
 ((mX12_four t p4 σ3).bind fun σ4 =>
 ((mX12_four t p5 σ4).bind fun σ5 =>
 (some ((σ5.1 t 1), σ5)))))))
 else (some ((-1 : Int32), σ)))
set_option maxHeartbeats 4000000 in
theorem rX12_feed (t : Nat) (p1 : Int32) (p2 : Int32) (p3 : Int32) (p4 : Int32) (p5 : Int32) (hT : LY12 sh P t) : Rj l D cA h0 ad yX12_feed cX12_feed 6 (some .int) false 3 0 0 (fun b => (some (.int b.1), sh, P, b.2)) [.ref (h0 + t), .int p1, .int p2, .int p3, .int p4, .int p5] sh P σ (mX12_feed t p1 p2 p3 p4 p5 σ) := by
  rw [mX12_feed]
  refine Rj.of (by decide) (fun h => by cases h) (Nat.le_of_ble_eq_true rfl) ?_
  refine tj_lv0 (lv' := [(0, .ref (h0 + t)), (1, .int p1), (2, .int p2), (3, .int p3), (4, .int p4), (5, .int p5)]) rfl ?_
  refine tj_aload_n (q := 1) dX12_feed_0 rfl (i := 0) rfl (pl := 0) rfl ?_
  refine tj_getI (q := 4) (hT).s fok_12_1 wl_RX12_163 dX12_feed_1 rfl ?_
  refine tj_bipush (q := 6) (v := 20) dX12_feed_4 rfl (by decide) ?_
  refine tj_iadd (q := 7) dX12_feed_6 rfl ?_
  refine tj_sipush (q := 10) (v := 1700) dX12_feed_7 rfl (by decide) ?_
  refine tj_icmp_le (tgt := 15) (q := 13) dX12_feed_10 (by decide) rfl ?_ ?_
  · refine tj_aload_n (q := 16) dX12_feed_15 rfl (i := 0) rfl (pl := 0) rfl ?_
    refine tj_iload_n (q := 17) dX12_feed_16 rfl (i := 1) rfl (pl := 1) rfl ?_
    refine tj_callV (q := 20) (kj_V (As := [.int p1]) (rest := []) (t := t) wi_RX12_166 (hT).s rfl (rX12_four t p1 (hT)) rfl (Nat.le_of_ble_eq_true rfl) ⟨Nat.le_of_ble_eq_true rfl, Nat.le_of_ble_eq_true rfl⟩ (Nat.le_of_ble_eq_true rfl) dX12_feed_17) rfl (fun σ1 => ?_)
    refine tj_aload_n (q := 21) dX12_feed_20 rfl (i := 0) rfl (pl := 0) rfl ?_
    refine tj_iload_n (q := 22) dX12_feed_21 rfl (i := 2) rfl (pl := 2) rfl ?_
    refine tj_callV (q := 25) (kj_V (As := [.int p2]) (rest := []) (t := t) wi_RX12_166 (hT).s rfl (rX12_four t p2 (hT)) rfl (Nat.le_of_ble_eq_true rfl) ⟨Nat.le_of_ble_eq_true rfl, Nat.le_of_ble_eq_true rfl⟩ (Nat.le_of_ble_eq_true rfl) dX12_feed_22) rfl (fun σ2 => ?_)
    refine tj_aload_n (q := 26) dX12_feed_25 rfl (i := 0) rfl (pl := 0) rfl ?_
    refine tj_iload_n (q := 27) dX12_feed_26 rfl (i := 3) rfl (pl := 3) rfl ?_
    refine tj_callV (q := 30) (kj_V (As := [.int p3]) (rest := []) (t := t) wi_RX12_166 (hT).s rfl (rX12_four t p3 (hT)) rfl (Nat.le_of_ble_eq_true rfl) ⟨Nat.le_of_ble_eq_true rfl, Nat.le_of_ble_eq_true rfl⟩ (Nat.le_of_ble_eq_true rfl) dX12_feed_27) rfl (fun σ3 => ?_)
    refine tj_aload_n (q := 31) dX12_feed_30 rfl (i := 0) rfl (pl := 0) rfl ?_
    refine tj_iload (q := 33) dX12_feed_31 rfl (pl := 4) rfl ?_
    refine tj_callV (q := 36) (kj_V (As := [.int p4]) (rest := []) (t := t) wi_RX12_166 (hT).s rfl (rX12_four t p4 (hT)) rfl (Nat.le_of_ble_eq_true rfl) ⟨Nat.le_of_ble_eq_true rfl, Nat.le_of_ble_eq_true rfl⟩ (Nat.le_of_ble_eq_true rfl) dX12_feed_33) rfl (fun σ4 => ?_)
    refine tj_aload_n (q := 37) dX12_feed_36 rfl (i := 0) rfl (pl := 0) rfl ?_
    refine tj_iload (q := 39) dX12_feed_37 rfl (pl := 5) rfl ?_
    refine tj_callV (q := 42) (kj_V (As := [.int p5]) (rest := []) (t := t) wi_RX12_166 (hT).s rfl (rX12_four t p5 (hT)) rfl (Nat.le_of_ble_eq_true rfl) ⟨Nat.le_of_ble_eq_true rfl, Nat.le_of_ble_eq_true rfl⟩ (Nat.le_of_ble_eq_true rfl) dX12_feed_39) rfl (fun σ5 => ?_)
    refine tj_aload_n (q := 43) dX12_feed_42 rfl (i := 0) rfl (pl := 0) rfl ?_
    refine tj_getI (q := 46) (hT).s fok_12_1 wl_RX12_163 dX12_feed_43 rfl ?_
    exact tj_iret rfl rfl (Nat.le_of_ble_eq_true rfl) (Nat.le_of_ble_eq_true rfl) dX12_feed_46
  · refine tj_iconst (q := 14) (v := (-1)) dX12_feed_13 rfl (by decide) ?_
    exact tj_iret rfl rfl (Nat.le_of_ble_eq_true rfl) (Nat.le_of_ble_eq_true rfl) dX12_feed_14

theorem dX12_end_0 : decode cX12_end 0 = .ok (.iload_n 1, 1) := by decide +kernel
theorem dX12_end_1 : decode cX12_end 1 = .ok (.ifCond .lt 11, 3) := by decide +kernel
theorem dX12_end_4 : decode cX12_end 4 = .ok (.iload_n 1, 1) := by decide +kernel
theorem dX12_end_5 : decode cX12_end 5 = .ok (.aload_n 0, 1) := by decide +kernel
theorem dX12_end_6 : decode cX12_end 6 = .ok (.getfield 163, 3) := by decide +kernel
theorem dX12_end_9 : decode cX12_end 9 = .ok (.if_icmp .le 5, 3) := by decide +kernel
theorem dX12_end_12 : decode cX12_end 12 = .ok (.iconst (-1), 1) := by decide +kernel
theorem dX12_end_13 : decode cX12_end 13 = .ok (.ireturn, 1) := by decide +kernel
theorem dX12_end_14 : decode cX12_end 14 = .ok (.aload_n 0, 1) := by decide +kernel
theorem dX12_end_15 : decode cX12_end 15 = .ok (.iload_n 1, 1) := by decide +kernel
theorem dX12_end_16 : decode cX12_end 16 = .ok (.putfield 163, 3) := by decide +kernel
theorem dX12_end_19 : decode cX12_end 19 = .ok (.iload_n 1, 1) := by decide +kernel
theorem dX12_end_20 : decode cX12_end 20 = .ok (.ireturn, 1) := by decide +kernel
def mX12_end (t : Nat) (p1 : Int32) (σ : St_) : Option (Int32 × St_) :=
 (if p1 < 0 then
 (some ((-1 : Int32), σ))
 else (if p1 ≤ (σ.1 t 1) then
 (bnd (sI σ t 1 p1) fun σ1 =>
 (some (p1, σ1)))
 else (some ((-1 : Int32), σ))))
set_option maxHeartbeats 4000000 in
theorem rX12_end (t : Nat) (p1 : Int32) (hT : LY12 sh P t) : Rj l D cA h0 ad yX12_end cX12_end 2 (some .int) false 2 0 0 (fun b => (some (.int b.1), sh, P, b.2)) [.ref (h0 + t), .int p1] sh P σ (mX12_end t p1 σ) := by
  rw [mX12_end]
  refine Rj.of (by decide) (fun h => by cases h) (Nat.le_of_ble_eq_true rfl) ?_
  refine tj_lv0 (lv' := [(0, .ref (h0 + t)), (1, .int p1)]) rfl ?_
  refine tj_iload_n (q := 1) dX12_end_0 rfl (i := 1) rfl (pl := 1) rfl ?_
  refine tj_if_lt (tgt := 12) (q := 4) dX12_end_1 (by decide) rfl ?_ ?_
  · refine tj_iconst (q := 13) (v := (-1)) dX12_end_12 rfl (by decide) ?_
    exact tj_iret rfl rfl (Nat.le_of_ble_eq_true rfl) (Nat.le_of_ble_eq_true rfl) dX12_end_13
  · refine tj_iload_n (q := 5) dX12_end_4 rfl (i := 1) rfl (pl := 1) rfl ?_
    refine tj_aload_n (q := 6) dX12_end_5 rfl (i := 0) rfl (pl := 0) rfl ?_
    refine tj_getI (q := 9) (hT).s fok_12_1 wl_RX12_163 dX12_end_6 rfl ?_
    refine tj_icmp_le (tgt := 14) (q := 12) dX12_end_9 (by decide) rfl ?_ ?_
    · refine tj_aload_n (q := 15) dX12_end_14 rfl (i := 0) rfl (pl := 0) rfl ?_
      refine tj_iload_n (q := 16) dX12_end_15 rfl (i := 1) rfl (pl := 1) rfl ?_
      refine tj_putI (q := 19) (hT).s fok_12_1 tok_12 fpk_12_1 wl_RX12_163 dX12_end_16 rfl (fun σ1 => ?_)
      refine tj_iload_n (q := 20) dX12_end_19 rfl (i := 1) rfl (pl := 1) rfl ?_
      exact tj_iret rfl rfl (Nat.le_of_ble_eq_true rfl) (Nat.le_of_ble_eq_true rfl) dX12_end_20
    · refine tj_iconst (q := 13) (v := (-1)) dX12_end_12 rfl (by decide) ?_
      exact tj_iret rfl rfl (Nat.le_of_ble_eq_true rfl) (Nat.le_of_ble_eq_true rfl) dX12_end_13

theorem dX12_here_0 : decode cX12_here 0 = .ok (.aload_n 0, 1) := by decide +kernel
theorem dX12_here_1 : decode cX12_here 1 = .ok (.getfield 170, 3) := by decide +kernel
theorem dX12_here_4 : decode cX12_here 4 = .ok (.iload_n 1, 1) := by decide +kernel
theorem dX12_here_5 : decode cX12_here 5 = .ok (.iadd, 1) := by decide +kernel
theorem dX12_here_6 : decode cX12_here 6 = .ok (.aload_n 0, 1) := by decide +kernel
theorem dX12_here_7 : decode cX12_here 7 = .ok (.getfield 173, 3) := by decide +kernel
theorem dX12_here_10 : decode cX12_here 10 = .ok (.if_icmp .ge 17, 3) := by decide +kernel
theorem dX12_here_13 : decode cX12_here 13 = .ok (.aload_n 0, 1) := by decide +kernel
theorem dX12_here_14 : decode cX12_here 14 = .ok (.getfield 7, 3) := by decide +kernel
theorem dX12_here_17 : decode cX12_here 17 = .ok (.aload_n 0, 1) := by decide +kernel
theorem dX12_here_18 : decode cX12_here 18 = .ok (.getfield 170, 3) := by decide +kernel
theorem dX12_here_21 : decode cX12_here 21 = .ok (.iload_n 1, 1) := by decide +kernel
theorem dX12_here_22 : decode cX12_here 22 = .ok (.iadd, 1) := by decide +kernel
theorem dX12_here_23 : decode cX12_here 23 = .ok (.iaload, 1) := by decide +kernel
theorem dX12_here_24 : decode cX12_here 24 = .ok (.goto 4, 3) := by decide +kernel
theorem dX12_here_27 : decode cX12_here 27 = .ok (.iconst (-1), 1) := by decide +kernel
theorem dX12_here_28 : decode cX12_here 28 = .ok (.ireturn, 1) := by decide +kernel
theorem wl_RX12_170 : Cond.fieldLink RX12 170 (TX12 4).1 (TX12 4).2.1 (TX12 4).2.2.1 ∈ TB := tbm 1419 (by decide +kernel) (by decide +kernel)
theorem wl_RX12_173 : Cond.fieldLink RX12 173 (TX12 5).1 (TX12 5).2.1 (TX12 5).2.2.1 ∈ TB := tbm 1420 (by decide +kernel) (by decide +kernel)
def mX12_here (t : Nat) (p1 : Int32) (σ : St_) : Option Int32 :=
 (if (σ.1 t 5) ≤ ((σ.1 t 4) + p1) then
 (some (-1 : Int32))
 else (bnd ((σ.1 t 4) + p1) fun v1 =>
 (if bin v1 1700 = true then bnd (σ.1 (t + 1) v1.toNatClampNeg) fun v2 =>
 (some v2)
 else none)))
set_option maxHeartbeats 4000000 in
theorem rX12_here (t : Nat) (p1 : Int32) (hT : LY12 sh P t) : Rj l D cA h0 ad yX12_here cX12_here 2 (some .int) false 2 0 0 (fun b => (some (.int b), sh, P, σ)) [.ref (h0 + t), .int p1] sh P σ (mX12_here t p1 σ) := by
  rw [mX12_here]
  refine Rj.of (by decide) (fun h => by cases h) (Nat.le_of_ble_eq_true rfl) ?_
  refine tj_lv0 (lv' := [(0, .ref (h0 + t)), (1, .int p1)]) rfl ?_
  refine tj_aload_n (q := 1) dX12_here_0 rfl (i := 0) rfl (pl := 0) rfl ?_
  refine tj_getI (q := 4) (hT).s fok_12_4 wl_RX12_170 dX12_here_1 rfl ?_
  refine tj_iload_n (q := 5) dX12_here_4 rfl (i := 1) rfl (pl := 1) rfl ?_
  refine tj_iadd (q := 6) dX12_here_5 rfl ?_
  refine tj_aload_n (q := 7) dX12_here_6 rfl (i := 0) rfl (pl := 0) rfl ?_
  refine tj_getI (q := 10) (hT).s fok_12_5 wl_RX12_173 dX12_here_7 rfl ?_
  refine tj_icmp_ge (tgt := 27) (q := 13) dX12_here_10 (by decide) rfl ?_ ?_
  · refine tj_iconst (q := 28) (v := (-1)) dX12_here_27 rfl (by decide) ?_
    exact tj_iret rfl rfl (Nat.le_of_ble_eq_true rfl) (Nat.le_of_ble_eq_true rfl) dX12_here_28
  · refine tj_aload_n (q := 14) dX12_here_13 rfl (i := 0) rfl (pl := 0) rfl ?_
    refine tj_getR (q := 17) (hT).s (hT).p_tape fok_12_0 wl_RX12_7 dX12_here_14 rfl ?_
    refine tj_aload_n (q := 18) dX12_here_17 rfl (i := 0) rfl (pl := 0) rfl ?_
    refine tj_getI (q := 21) (hT).s fok_12_4 wl_RX12_170 dX12_here_18 rfl ?_
    refine tj_iload_n (q := 22) dX12_here_21 rfl (i := 1) rfl (pl := 1) rfl ?_
    refine tj_iadd (q := 23) dX12_here_22 rfl ?_
    refine tj_topI (fun v1 => ?_)
    refine tj_iaload (q := 24) (hT).s_tape dX12_here_23 rfl ?_
    refine tj_topI (fun v2 => ?_)
    refine tj_goto (q := 28) dX12_here_24 (by decide) ?_
    exact tj_iret rfl rfl (Nat.le_of_ble_eq_true rfl) (Nat.le_of_ble_eq_true rfl) dX12_here_28

theorem dX12_isLetter_0 : decode cX12_isLetter 0 = .ok (.iload_n 0, 1) := by decide +kernel
theorem dX12_isLetter_1 : decode cX12_isLetter 1 = .ok (.bipush 97, 2) := by decide +kernel
theorem dX12_isLetter_3 : decode cX12_isLetter 3 = .ok (.if_icmp .lt 13, 3) := by decide +kernel
theorem dX12_isLetter_6 : decode cX12_isLetter 6 = .ok (.iload_n 0, 1) := by decide +kernel
theorem dX12_isLetter_7 : decode cX12_isLetter 7 = .ok (.bipush 122, 2) := by decide +kernel
theorem dX12_isLetter_9 : decode cX12_isLetter 9 = .ok (.if_icmp .gt 7, 3) := by decide +kernel
theorem dX12_isLetter_12 : decode cX12_isLetter 12 = .ok (.iconst 1, 1) := by decide +kernel
theorem dX12_isLetter_13 : decode cX12_isLetter 13 = .ok (.goto 4, 3) := by decide +kernel
theorem dX12_isLetter_16 : decode cX12_isLetter 16 = .ok (.iconst 0, 1) := by decide +kernel
theorem dX12_isLetter_17 : decode cX12_isLetter 17 = .ok (.ireturn, 1) := by decide +kernel
def mX12_isLetter (p1 : Int32) (σ : St_) : Option Bool :=
 (if p1 < (97 : Int32) then
 (some false)
 else (if (122 : Int32) < p1 then
 (some false)
 else (some true)))
set_option maxHeartbeats 4000000 in
theorem rX12_isLetter (p1 : Int32)  : Rj l D cA h0 ad yX12_isLetter cX12_isLetter 1 (some .boolean) false 2 0 0 (fun b => (some (.int (b2i b)), sh, P, σ)) [.int p1] sh P σ (mX12_isLetter p1 σ) := by
  rw [mX12_isLetter]
  refine Rj.of (by decide) (fun h => by cases h) (Nat.le_of_ble_eq_true rfl) ?_
  refine tj_lv0 (lv' := [(0, .int p1)]) rfl ?_
  refine tj_iload_n (q := 1) dX12_isLetter_0 rfl (i := 0) rfl (pl := 0) rfl ?_
  refine tj_bipush (q := 3) (v := 97) dX12_isLetter_1 rfl (by decide) ?_
  refine tj_icmp_lt (tgt := 16) (q := 6) dX12_isLetter_3 (by decide) rfl ?_ ?_
  · refine tj_iconst (q := 17) (v := 0) dX12_isLetter_16 rfl (by decide) ?_
    exact tj_zret rfl (by decide) rfl (Nat.le_of_ble_eq_true rfl) (Nat.le_of_ble_eq_true rfl) dX12_isLetter_17
  · refine tj_iload_n (q := 7) dX12_isLetter_6 rfl (i := 0) rfl (pl := 0) rfl ?_
    refine tj_bipush (q := 9) (v := 122) dX12_isLetter_7 rfl (by decide) ?_
    refine tj_icmp_gt (tgt := 16) (q := 12) dX12_isLetter_9 (by decide) rfl ?_ ?_
    · refine tj_iconst (q := 17) (v := 0) dX12_isLetter_16 rfl (by decide) ?_
      exact tj_zret rfl (by decide) rfl (Nat.le_of_ble_eq_true rfl) (Nat.le_of_ble_eq_true rfl) dX12_isLetter_17
    · refine tj_iconst (q := 13) (v := 1) dX12_isLetter_12 rfl (by decide) ?_
      refine tj_goto (q := 17) dX12_isLetter_13 (by decide) ?_
      exact tj_zret rfl (by decide) rfl (Nat.le_of_ble_eq_true rfl) (Nat.le_of_ble_eq_true rfl) dX12_isLetter_17

theorem dX12_isDigit_0 : decode cX12_isDigit 0 = .ok (.iload_n 0, 1) := by decide +kernel
theorem dX12_isDigit_1 : decode cX12_isDigit 1 = .ok (.bipush 48, 2) := by decide +kernel
theorem dX12_isDigit_3 : decode cX12_isDigit 3 = .ok (.if_icmp .lt 13, 3) := by decide +kernel
theorem dX12_isDigit_6 : decode cX12_isDigit 6 = .ok (.iload_n 0, 1) := by decide +kernel
theorem dX12_isDigit_7 : decode cX12_isDigit 7 = .ok (.bipush 57, 2) := by decide +kernel
theorem dX12_isDigit_9 : decode cX12_isDigit 9 = .ok (.if_icmp .gt 7, 3) := by decide +kernel
theorem dX12_isDigit_12 : decode cX12_isDigit 12 = .ok (.iconst 1, 1) := by decide +kernel
theorem dX12_isDigit_13 : decode cX12_isDigit 13 = .ok (.goto 4, 3) := by decide +kernel
theorem dX12_isDigit_16 : decode cX12_isDigit 16 = .ok (.iconst 0, 1) := by decide +kernel
theorem dX12_isDigit_17 : decode cX12_isDigit 17 = .ok (.ireturn, 1) := by decide +kernel
def mX12_isDigit (p1 : Int32) (σ : St_) : Option Bool :=
 (if p1 < (48 : Int32) then
 (some false)
 else (if (57 : Int32) < p1 then
 (some false)
 else (some true)))
set_option maxHeartbeats 4000000 in
theorem rX12_isDigit (p1 : Int32)  : Rj l D cA h0 ad yX12_isDigit cX12_isDigit 1 (some .boolean) false 2 0 0 (fun b => (some (.int (b2i b)), sh, P, σ)) [.int p1] sh P σ (mX12_isDigit p1 σ) := by
  rw [mX12_isDigit]
  refine Rj.of (by decide) (fun h => by cases h) (Nat.le_of_ble_eq_true rfl) ?_
  refine tj_lv0 (lv' := [(0, .int p1)]) rfl ?_
  refine tj_iload_n (q := 1) dX12_isDigit_0 rfl (i := 0) rfl (pl := 0) rfl ?_
  refine tj_bipush (q := 3) (v := 48) dX12_isDigit_1 rfl (by decide) ?_
  refine tj_icmp_lt (tgt := 16) (q := 6) dX12_isDigit_3 (by decide) rfl ?_ ?_
  · refine tj_iconst (q := 17) (v := 0) dX12_isDigit_16 rfl (by decide) ?_
    exact tj_zret rfl (by decide) rfl (Nat.le_of_ble_eq_true rfl) (Nat.le_of_ble_eq_true rfl) dX12_isDigit_17
  · refine tj_iload_n (q := 7) dX12_isDigit_6 rfl (i := 0) rfl (pl := 0) rfl ?_
    refine tj_bipush (q := 9) (v := 57) dX12_isDigit_7 rfl (by decide) ?_
    refine tj_icmp_gt (tgt := 16) (q := 12) dX12_isDigit_9 (by decide) rfl ?_ ?_
    · refine tj_iconst (q := 17) (v := 0) dX12_isDigit_16 rfl (by decide) ?_
      exact tj_zret rfl (by decide) rfl (Nat.le_of_ble_eq_true rfl) (Nat.le_of_ble_eq_true rfl) dX12_isDigit_17
    · refine tj_iconst (q := 13) (v := 1) dX12_isDigit_12 rfl (by decide) ?_
      refine tj_goto (q := 17) dX12_isDigit_13 (by decide) ?_
      exact tj_zret rfl (by decide) rfl (Nat.le_of_ble_eq_true rfl) (Nat.le_of_ble_eq_true rfl) dX12_isDigit_17

theorem dX12_isSign_0 : decode cX12_isSign 0 = .ok (.iload_n 0, 1) := by decide +kernel
theorem dX12_isSign_1 : decode cX12_isSign 1 = .ok (.bipush 59, 2) := by decide +kernel
theorem dX12_isSign_3 : decode cX12_isSign 3 = .ok (.if_icmp .eq 63, 3) := by decide +kernel
theorem dX12_isSign_6 : decode cX12_isSign 6 = .ok (.iload_n 0, 1) := by decide +kernel
theorem dX12_isSign_7 : decode cX12_isSign 7 = .ok (.bipush 40, 2) := by decide +kernel
theorem dX12_isSign_9 : decode cX12_isSign 9 = .ok (.if_icmp .eq 57, 3) := by decide +kernel
theorem dX12_isSign_12 : decode cX12_isSign 12 = .ok (.iload_n 0, 1) := by decide +kernel
theorem dX12_isSign_13 : decode cX12_isSign 13 = .ok (.bipush 41, 2) := by decide +kernel
theorem dX12_isSign_15 : decode cX12_isSign 15 = .ok (.if_icmp .eq 51, 3) := by decide +kernel
theorem dX12_isSign_18 : decode cX12_isSign 18 = .ok (.iload_n 0, 1) := by decide +kernel
theorem dX12_isSign_19 : decode cX12_isSign 19 = .ok (.bipush 60, 2) := by decide +kernel
theorem dX12_isSign_21 : decode cX12_isSign 21 = .ok (.if_icmp .eq 45, 3) := by decide +kernel
theorem dX12_isSign_24 : decode cX12_isSign 24 = .ok (.iload_n 0, 1) := by decide +kernel
theorem dX12_isSign_25 : decode cX12_isSign 25 = .ok (.bipush 62, 2) := by decide +kernel
theorem dX12_isSign_27 : decode cX12_isSign 27 = .ok (.if_icmp .eq 39, 3) := by decide +kernel
theorem dX12_isSign_30 : decode cX12_isSign 30 = .ok (.iload_n 0, 1) := by decide +kernel
theorem dX12_isSign_31 : decode cX12_isSign 31 = .ok (.bipush 61, 2) := by decide +kernel
theorem dX12_isSign_33 : decode cX12_isSign 33 = .ok (.if_icmp .eq 33, 3) := by decide +kernel
theorem dX12_isSign_36 : decode cX12_isSign 36 = .ok (.iload_n 0, 1) := by decide +kernel
theorem dX12_isSign_37 : decode cX12_isSign 37 = .ok (.bipush 43, 2) := by decide +kernel
theorem dX12_isSign_39 : decode cX12_isSign 39 = .ok (.if_icmp .eq 27, 3) := by decide +kernel
theorem dX12_isSign_42 : decode cX12_isSign 42 = .ok (.iload_n 0, 1) := by decide +kernel
theorem dX12_isSign_43 : decode cX12_isSign 43 = .ok (.bipush 45, 2) := by decide +kernel
theorem dX12_isSign_45 : decode cX12_isSign 45 = .ok (.if_icmp .eq 21, 3) := by decide +kernel
theorem dX12_isSign_48 : decode cX12_isSign 48 = .ok (.iload_n 0, 1) := by decide +kernel
theorem dX12_isSign_49 : decode cX12_isSign 49 = .ok (.bipush 42, 2) := by decide +kernel
theorem dX12_isSign_51 : decode cX12_isSign 51 = .ok (.if_icmp .eq 15, 3) := by decide +kernel
theorem dX12_isSign_54 : decode cX12_isSign 54 = .ok (.iload_n 0, 1) := by decide +kernel
theorem dX12_isSign_55 : decode cX12_isSign 55 = .ok (.bipush 47, 2) := by decide +kernel
theorem dX12_isSign_57 : decode cX12_isSign 57 = .ok (.if_icmp .eq 9, 3) := by decide +kernel
theorem dX12_isSign_60 : decode cX12_isSign 60 = .ok (.iload_n 0, 1) := by decide +kernel
theorem dX12_isSign_61 : decode cX12_isSign 61 = .ok (.bipush 37, 2) := by decide +kernel
theorem dX12_isSign_63 : decode cX12_isSign 63 = .ok (.if_icmp .ne 7, 3) := by decide +kernel
theorem dX12_isSign_66 : decode cX12_isSign 66 = .ok (.iconst 1, 1) := by decide +kernel
theorem dX12_isSign_67 : decode cX12_isSign 67 = .ok (.goto 4, 3) := by decide +kernel
theorem dX12_isSign_70 : decode cX12_isSign 70 = .ok (.iconst 0, 1) := by decide +kernel
theorem dX12_isSign_71 : decode cX12_isSign 71 = .ok (.ireturn, 1) := by decide +kernel
def mX12_isSign (p1 : Int32) (σ : St_) : Option Bool :=
 (if p1 = (59 : Int32) then
 (some true)
 else (if p1 = (40 : Int32) then
 (some true)
 else (if p1 = (41 : Int32) then
 (some true)
 else (if p1 = (60 : Int32) then
 (some true)
 else (if p1 = (62 : Int32) then
 (some true)
 else (if p1 = (61 : Int32) then
 (some true)
 else (if p1 = (43 : Int32) then
 (some true)
 else (if p1 = (45 : Int32) then
 (some true)
 else (if p1 = (42 : Int32) then
 (some true)
 else (if p1 = (47 : Int32) then
 (some true)
 else (if p1 = (37 : Int32) then
 (some true)
 else (some false))))))))))))
set_option maxHeartbeats 4000000 in
theorem rX12_isSign (p1 : Int32)  : Rj l D cA h0 ad yX12_isSign cX12_isSign 1 (some .boolean) false 2 0 0 (fun b => (some (.int (b2i b)), sh, P, σ)) [.int p1] sh P σ (mX12_isSign p1 σ) := by
  rw [mX12_isSign]
  refine Rj.of (by decide) (fun h => by cases h) (Nat.le_of_ble_eq_true rfl) ?_
  refine tj_lv0 (lv' := [(0, .int p1)]) rfl ?_
  refine tj_iload_n (q := 1) dX12_isSign_0 rfl (i := 0) rfl (pl := 0) rfl ?_
  refine tj_bipush (q := 3) (v := 59) dX12_isSign_1 rfl (by decide) ?_
  refine tj_icmp_eq (tgt := 66) (q := 6) dX12_isSign_3 (by decide) rfl ?_ ?_
  · refine tj_iconst (q := 67) (v := 1) dX12_isSign_66 rfl (by decide) ?_
    refine tj_goto (q := 71) dX12_isSign_67 (by decide) ?_
    exact tj_zret rfl (by decide) rfl (Nat.le_of_ble_eq_true rfl) (Nat.le_of_ble_eq_true rfl) dX12_isSign_71
  · refine tj_iload_n (q := 7) dX12_isSign_6 rfl (i := 0) rfl (pl := 0) rfl ?_
    refine tj_bipush (q := 9) (v := 40) dX12_isSign_7 rfl (by decide) ?_
    refine tj_icmp_eq (tgt := 66) (q := 12) dX12_isSign_9 (by decide) rfl ?_ ?_
    · refine tj_iconst (q := 67) (v := 1) dX12_isSign_66 rfl (by decide) ?_
      refine tj_goto (q := 71) dX12_isSign_67 (by decide) ?_
      exact tj_zret rfl (by decide) rfl (Nat.le_of_ble_eq_true rfl) (Nat.le_of_ble_eq_true rfl) dX12_isSign_71
    · refine tj_iload_n (q := 13) dX12_isSign_12 rfl (i := 0) rfl (pl := 0) rfl ?_
      refine tj_bipush (q := 15) (v := 41) dX12_isSign_13 rfl (by decide) ?_
      refine tj_icmp_eq (tgt := 66) (q := 18) dX12_isSign_15 (by decide) rfl ?_ ?_
      · refine tj_iconst (q := 67) (v := 1) dX12_isSign_66 rfl (by decide) ?_
        refine tj_goto (q := 71) dX12_isSign_67 (by decide) ?_
        exact tj_zret rfl (by decide) rfl (Nat.le_of_ble_eq_true rfl) (Nat.le_of_ble_eq_true rfl) dX12_isSign_71
      · refine tj_iload_n (q := 19) dX12_isSign_18 rfl (i := 0) rfl (pl := 0) rfl ?_
        refine tj_bipush (q := 21) (v := 60) dX12_isSign_19 rfl (by decide) ?_
        refine tj_icmp_eq (tgt := 66) (q := 24) dX12_isSign_21 (by decide) rfl ?_ ?_
        · refine tj_iconst (q := 67) (v := 1) dX12_isSign_66 rfl (by decide) ?_
          refine tj_goto (q := 71) dX12_isSign_67 (by decide) ?_
          exact tj_zret rfl (by decide) rfl (Nat.le_of_ble_eq_true rfl) (Nat.le_of_ble_eq_true rfl) dX12_isSign_71
        · refine tj_iload_n (q := 25) dX12_isSign_24 rfl (i := 0) rfl (pl := 0) rfl ?_
          refine tj_bipush (q := 27) (v := 62) dX12_isSign_25 rfl (by decide) ?_
          refine tj_icmp_eq (tgt := 66) (q := 30) dX12_isSign_27 (by decide) rfl ?_ ?_
          · refine tj_iconst (q := 67) (v := 1) dX12_isSign_66 rfl (by decide) ?_
            refine tj_goto (q := 71) dX12_isSign_67 (by decide) ?_
            exact tj_zret rfl (by decide) rfl (Nat.le_of_ble_eq_true rfl) (Nat.le_of_ble_eq_true rfl) dX12_isSign_71
          · refine tj_iload_n (q := 31) dX12_isSign_30 rfl (i := 0) rfl (pl := 0) rfl ?_
            refine tj_bipush (q := 33) (v := 61) dX12_isSign_31 rfl (by decide) ?_
            refine tj_icmp_eq (tgt := 66) (q := 36) dX12_isSign_33 (by decide) rfl ?_ ?_
            · refine tj_iconst (q := 67) (v := 1) dX12_isSign_66 rfl (by decide) ?_
              refine tj_goto (q := 71) dX12_isSign_67 (by decide) ?_
              exact tj_zret rfl (by decide) rfl (Nat.le_of_ble_eq_true rfl) (Nat.le_of_ble_eq_true rfl) dX12_isSign_71
            · refine tj_iload_n (q := 37) dX12_isSign_36 rfl (i := 0) rfl (pl := 0) rfl ?_
              refine tj_bipush (q := 39) (v := 43) dX12_isSign_37 rfl (by decide) ?_
              refine tj_icmp_eq (tgt := 66) (q := 42) dX12_isSign_39 (by decide) rfl ?_ ?_
              · refine tj_iconst (q := 67) (v := 1) dX12_isSign_66 rfl (by decide) ?_
                refine tj_goto (q := 71) dX12_isSign_67 (by decide) ?_
                exact tj_zret rfl (by decide) rfl (Nat.le_of_ble_eq_true rfl) (Nat.le_of_ble_eq_true rfl) dX12_isSign_71
              · refine tj_iload_n (q := 43) dX12_isSign_42 rfl (i := 0) rfl (pl := 0) rfl ?_
                refine tj_bipush (q := 45) (v := 45) dX12_isSign_43 rfl (by decide) ?_
                refine tj_icmp_eq (tgt := 66) (q := 48) dX12_isSign_45 (by decide) rfl ?_ ?_
                · refine tj_iconst (q := 67) (v := 1) dX12_isSign_66 rfl (by decide) ?_
                  refine tj_goto (q := 71) dX12_isSign_67 (by decide) ?_
                  exact tj_zret rfl (by decide) rfl (Nat.le_of_ble_eq_true rfl) (Nat.le_of_ble_eq_true rfl) dX12_isSign_71
                · refine tj_iload_n (q := 49) dX12_isSign_48 rfl (i := 0) rfl (pl := 0) rfl ?_
                  refine tj_bipush (q := 51) (v := 42) dX12_isSign_49 rfl (by decide) ?_
                  refine tj_icmp_eq (tgt := 66) (q := 54) dX12_isSign_51 (by decide) rfl ?_ ?_
                  · refine tj_iconst (q := 67) (v := 1) dX12_isSign_66 rfl (by decide) ?_
                    refine tj_goto (q := 71) dX12_isSign_67 (by decide) ?_
                    exact tj_zret rfl (by decide) rfl (Nat.le_of_ble_eq_true rfl) (Nat.le_of_ble_eq_true rfl) dX12_isSign_71
                  · refine tj_iload_n (q := 55) dX12_isSign_54 rfl (i := 0) rfl (pl := 0) rfl ?_
                    refine tj_bipush (q := 57) (v := 47) dX12_isSign_55 rfl (by decide) ?_
                    refine tj_icmp_eq (tgt := 66) (q := 60) dX12_isSign_57 (by decide) rfl ?_ ?_
                    · refine tj_iconst (q := 67) (v := 1) dX12_isSign_66 rfl (by decide) ?_
                      refine tj_goto (q := 71) dX12_isSign_67 (by decide) ?_
                      exact tj_zret rfl (by decide) rfl (Nat.le_of_ble_eq_true rfl) (Nat.le_of_ble_eq_true rfl) dX12_isSign_71
                    · refine tj_iload_n (q := 61) dX12_isSign_60 rfl (i := 0) rfl (pl := 0) rfl ?_
                      refine tj_bipush (q := 63) (v := 37) dX12_isSign_61 rfl (by decide) ?_
                      refine tj_icmp_ne (tgt := 70) (q := 66) dX12_isSign_63 (by decide) rfl ?_ ?_
                      · refine tj_iconst (q := 67) (v := 1) dX12_isSign_66 rfl (by decide) ?_
                        refine tj_goto (q := 71) dX12_isSign_67 (by decide) ?_
                        exact tj_zret rfl (by decide) rfl (Nat.le_of_ble_eq_true rfl) (Nat.le_of_ble_eq_true rfl) dX12_isSign_71
                      · refine tj_iconst (q := 71) (v := 0) dX12_isSign_70 rfl (by decide) ?_
                        exact tj_zret rfl (by decide) rfl (Nat.le_of_ble_eq_true rfl) (Nat.le_of_ble_eq_true rfl) dX12_isSign_71

theorem dX12_token_0 : decode cX12_token 0 = .ok (.aload_n 0, 1) := by decide +kernel
theorem dX12_token_1 : decode cX12_token 1 = .ok (.iconst 0, 1) := by decide +kernel
theorem dX12_token_2 : decode cX12_token 2 = .ok (.invokevirtual 176, 3) := by decide +kernel
theorem dX12_token_5 : decode cX12_token 5 = .ok (.bipush 32, 2) := by decide +kernel
theorem dX12_token_7 : decode cX12_token 7 = .ok (.if_icmp .eq 13, 3) := by decide +kernel
theorem dX12_token_10 : decode cX12_token 10 = .ok (.aload_n 0, 1) := by decide +kernel
theorem dX12_token_11 : decode cX12_token 11 = .ok (.iconst 0, 1) := by decide +kernel
theorem dX12_token_12 : decode cX12_token 12 = .ok (.invokevirtual 176, 3) := by decide +kernel
theorem dX12_token_15 : decode cX12_token 15 = .ok (.bipush 10, 2) := by decide +kernel
theorem dX12_token_17 : decode cX12_token 17 = .ok (.if_icmp .ne 16, 3) := by decide +kernel
theorem dX12_token_20 : decode cX12_token 20 = .ok (.aload_n 0, 1) := by decide +kernel
theorem dX12_token_21 : decode cX12_token 21 = .ok (.dup, 1) := by decide +kernel
theorem dX12_token_22 : decode cX12_token 22 = .ok (.getfield 170, 3) := by decide +kernel
theorem dX12_token_25 : decode cX12_token 25 = .ok (.iconst 1, 1) := by decide +kernel
theorem dX12_token_26 : decode cX12_token 26 = .ok (.iadd, 1) := by decide +kernel
theorem dX12_token_27 : decode cX12_token 27 = .ok (.putfield 170, 3) := by decide +kernel
theorem dX12_token_30 : decode cX12_token 30 = .ok (.goto (-30), 3) := by decide +kernel
theorem dX12_token_33 : decode cX12_token 33 = .ok (.aload_n 0, 1) := by decide +kernel
theorem dX12_token_34 : decode cX12_token 34 = .ok (.aload_n 0, 1) := by decide +kernel
theorem dX12_token_35 : decode cX12_token 35 = .ok (.getfield 170, 3) := by decide +kernel
theorem dX12_token_38 : decode cX12_token 38 = .ok (.putfield 180, 3) := by decide +kernel
theorem dX12_token_41 : decode cX12_token 41 = .ok (.aload_n 0, 1) := by decide +kernel
theorem dX12_token_42 : decode cX12_token 42 = .ok (.iconst 0, 1) := by decide +kernel
theorem dX12_token_43 : decode cX12_token 43 = .ok (.invokevirtual 176, 3) := by decide +kernel
theorem dX12_token_46 : decode cX12_token 46 = .ok (.istore_n 1, 1) := by decide +kernel
theorem dX12_token_47 : decode cX12_token 47 = .ok (.iconst 0, 1) := by decide +kernel
theorem dX12_token_48 : decode cX12_token 48 = .ok (.istore_n 2, 1) := by decide +kernel
theorem dX12_token_49 : decode cX12_token 49 = .ok (.aload_n 0, 1) := by decide +kernel
theorem dX12_token_50 : decode cX12_token 50 = .ok (.lconst 0, 1) := by decide +kernel
theorem dX12_token_51 : decode cX12_token 51 = .ok (.putfield 183, 3) := by decide +kernel
theorem dX12_token_54 : decode cX12_token 54 = .ok (.aload_n 0, 1) := by decide +kernel
theorem dX12_token_55 : decode cX12_token 55 = .ok (.iconst 0, 1) := by decide +kernel
theorem dX12_token_56 : decode cX12_token 56 = .ok (.putfield 187, 3) := by decide +kernel
theorem dX12_token_59 : decode cX12_token 59 = .ok (.iload_n 1, 1) := by decide +kernel
theorem dX12_token_60 : decode cX12_token 60 = .ok (.ifCond .ge 11, 3) := by decide +kernel
theorem dX12_token_63 : decode cX12_token 63 = .ok (.aload_n 0, 1) := by decide +kernel
theorem dX12_token_64 : decode cX12_token 64 = .ok (.iconst 0, 1) := by decide +kernel
theorem dX12_token_65 : decode cX12_token 65 = .ok (.putfield 190, 3) := by decide +kernel
theorem dX12_token_68 : decode cX12_token 68 = .ok (.goto 164, 3) := by decide +kernel
theorem dX12_token_71 : decode cX12_token 71 = .ok (.iload_n 1, 1) := by decide +kernel
theorem dX12_token_72 : decode cX12_token 72 = .ok (.invokestatic 193, 3) := by decide +kernel
theorem dX12_token_75 : decode cX12_token 75 = .ok (.ifCond .eq 62, 3) := by decide +kernel
theorem dX12_token_78 : decode cX12_token 78 = .ok (.aload_n 0, 1) := by decide +kernel
theorem dX12_token_79 : decode cX12_token 79 = .ok (.iload_n 2, 1) := by decide +kernel
theorem dX12_token_80 : decode cX12_token 80 = .ok (.invokevirtual 176, 3) := by decide +kernel
theorem dX12_token_83 : decode cX12_token 83 = .ok (.invokestatic 193, 3) := by decide +kernel
theorem dX12_token_86 : decode cX12_token 86 = .ok (.ifCond .eq 33, 3) := by decide +kernel
theorem dX12_token_89 : decode cX12_token 89 = .ok (.iload_n 2, 1) := by decide +kernel
theorem dX12_token_90 : decode cX12_token 90 = .ok (.bipush 8, 2) := by decide +kernel
theorem dX12_token_92 : decode cX12_token 92 = .ok (.if_icmp .ge 21, 3) := by decide +kernel
theorem dX12_token_95 : decode cX12_token 95 = .ok (.aload_n 0, 1) := by decide +kernel
theorem dX12_token_96 : decode cX12_token 96 = .ok (.aload_n 0, 1) := by decide +kernel
theorem dX12_token_97 : decode cX12_token 97 = .ok (.getfield 183, 3) := by decide +kernel
theorem dX12_token_100 : decode cX12_token 100 = .ok (.bipush 8, 2) := by decide +kernel
theorem dX12_token_102 : decode cX12_token 102 = .ok (.lshl, 1) := by decide +kernel
theorem dX12_token_103 : decode cX12_token 103 = .ok (.aload_n 0, 1) := by decide +kernel
theorem dX12_token_104 : decode cX12_token 104 = .ok (.iload_n 2, 1) := by decide +kernel
theorem dX12_token_105 : decode cX12_token 105 = .ok (.invokevirtual 176, 3) := by decide +kernel
theorem dX12_token_108 : decode cX12_token 108 = .ok (.i2l, 1) := by decide +kernel
theorem dX12_token_109 : decode cX12_token 109 = .ok (.lor, 1) := by decide +kernel
theorem dX12_token_110 : decode cX12_token 110 = .ok (.putfield 183, 3) := by decide +kernel
theorem dX12_token_113 : decode cX12_token 113 = .ok (.iinc 2 1, 3) := by decide +kernel
theorem dX12_token_116 : decode cX12_token 116 = .ok (.goto (-38), 3) := by decide +kernel
theorem dX12_token_119 : decode cX12_token 119 = .ok (.aload_n 0, 1) := by decide +kernel
theorem dX12_token_120 : decode cX12_token 120 = .ok (.iload_n 2, 1) := by decide +kernel
theorem dX12_token_121 : decode cX12_token 121 = .ok (.bipush 8, 2) := by decide +kernel
theorem dX12_token_123 : decode cX12_token 123 = .ok (.if_icmp .le 7, 3) := by decide +kernel
theorem dX12_token_126 : decode cX12_token 126 = .ok (.iconst 3, 1) := by decide +kernel
theorem dX12_token_127 : decode cX12_token 127 = .ok (.goto 4, 3) := by decide +kernel
theorem dX12_token_130 : decode cX12_token 130 = .ok (.iconst 1, 1) := by decide +kernel
theorem dX12_token_131 : decode cX12_token 131 = .ok (.putfield 190, 3) := by decide +kernel
theorem dX12_token_134 : decode cX12_token 134 = .ok (.goto 98, 3) := by decide +kernel
theorem dX12_token_137 : decode cX12_token 137 = .ok (.iload_n 1, 1) := by decide +kernel
theorem dX12_token_138 : decode cX12_token 138 = .ok (.invokestatic 197, 3) := by decide +kernel
theorem dX12_token_141 : decode cX12_token 141 = .ok (.ifCond .eq 73, 3) := by decide +kernel
theorem dX12_token_144 : decode cX12_token 144 = .ok (.aload_n 0, 1) := by decide +kernel
theorem dX12_token_145 : decode cX12_token 145 = .ok (.iload_n 2, 1) := by decide +kernel
theorem dX12_token_146 : decode cX12_token 146 = .ok (.invokevirtual 176, 3) := by decide +kernel
theorem dX12_token_149 : decode cX12_token 149 = .ok (.invokestatic 197, 3) := by decide +kernel
theorem dX12_token_152 : decode cX12_token 152 = .ok (.ifCond .eq 34, 3) := by decide +kernel
theorem dX12_token_155 : decode cX12_token 155 = .ok (.iload_n 2, 1) := by decide +kernel
theorem dX12_token_156 : decode cX12_token 156 = .ok (.iconst 4, 1) := by decide +kernel
theorem dX12_token_157 : decode cX12_token 157 = .ok (.if_icmp .ge 23, 3) := by decide +kernel
theorem dX12_token_160 : decode cX12_token 160 = .ok (.aload_n 0, 1) := by decide +kernel
theorem dX12_token_161 : decode cX12_token 161 = .ok (.bipush 10, 2) := by decide +kernel
theorem dX12_token_163 : decode cX12_token 163 = .ok (.aload_n 0, 1) := by decide +kernel
theorem dX12_token_164 : decode cX12_token 164 = .ok (.getfield 187, 3) := by decide +kernel
theorem dX12_token_167 : decode cX12_token 167 = .ok (.imul, 1) := by decide +kernel
theorem dX12_token_168 : decode cX12_token 168 = .ok (.aload_n 0, 1) := by decide +kernel
theorem dX12_token_169 : decode cX12_token 169 = .ok (.iload_n 2, 1) := by decide +kernel
theorem dX12_token_170 : decode cX12_token 170 = .ok (.invokevirtual 176, 3) := by decide +kernel
theorem dX12_token_173 : decode cX12_token 173 = .ok (.iadd, 1) := by decide +kernel
theorem dX12_token_174 : decode cX12_token 174 = .ok (.bipush 48, 2) := by decide +kernel
theorem dX12_token_176 : decode cX12_token 176 = .ok (.isub, 1) := by decide +kernel
theorem dX12_token_177 : decode cX12_token 177 = .ok (.putfield 187, 3) := by decide +kernel
theorem dX12_token_180 : decode cX12_token 180 = .ok (.iinc 2 1, 3) := by decide +kernel
theorem dX12_token_183 : decode cX12_token 183 = .ok (.goto (-39), 3) := by decide +kernel
theorem dX12_token_186 : decode cX12_token 186 = .ok (.aload_n 0, 1) := by decide +kernel
theorem dX12_token_187 : decode cX12_token 187 = .ok (.iload_n 2, 1) := by decide +kernel
theorem dX12_token_188 : decode cX12_token 188 = .ok (.iconst 4, 1) := by decide +kernel
theorem dX12_token_189 : decode cX12_token 189 = .ok (.if_icmp .gt 14, 3) := by decide +kernel
theorem dX12_token_192 : decode cX12_token 192 = .ok (.aload_n 0, 1) := by decide +kernel
theorem dX12_token_193 : decode cX12_token 193 = .ok (.iload_n 2, 1) := by decide +kernel
theorem dX12_token_194 : decode cX12_token 194 = .ok (.invokevirtual 176, 3) := by decide +kernel
theorem dX12_token_197 : decode cX12_token 197 = .ok (.invokestatic 193, 3) := by decide +kernel
theorem dX12_token_200 : decode cX12_token 200 = .ok (.ifCond .eq 7, 3) := by decide +kernel
theorem dX12_token_203 : decode cX12_token 203 = .ok (.iconst 3, 1) := by decide +kernel
theorem dX12_token_204 : decode cX12_token 204 = .ok (.goto 4, 3) := by decide +kernel
theorem dX12_token_207 : decode cX12_token 207 = .ok (.iconst 2, 1) := by decide +kernel
theorem dX12_token_208 : decode cX12_token 208 = .ok (.putfield 190, 3) := by decide +kernel
theorem dX12_token_211 : decode cX12_token 211 = .ok (.goto 21, 3) := by decide +kernel
theorem dX12_token_214 : decode cX12_token 214 = .ok (.iconst 1, 1) := by decide +kernel
theorem dX12_token_215 : decode cX12_token 215 = .ok (.istore_n 2, 1) := by decide +kernel
theorem dX12_token_216 : decode cX12_token 216 = .ok (.aload_n 0, 1) := by decide +kernel
theorem dX12_token_217 : decode cX12_token 217 = .ok (.iload_n 1, 1) := by decide +kernel
theorem dX12_token_218 : decode cX12_token 218 = .ok (.invokestatic 200, 3) := by decide +kernel
theorem dX12_token_221 : decode cX12_token 221 = .ok (.ifCond .eq 7, 3) := by decide +kernel
theorem dX12_token_224 : decode cX12_token 224 = .ok (.iload_n 1, 1) := by decide +kernel
theorem dX12_token_225 : decode cX12_token 225 = .ok (.goto 4, 3) := by decide +kernel
theorem dX12_token_228 : decode cX12_token 228 = .ok (.iconst 3, 1) := by decide +kernel
theorem dX12_token_229 : decode cX12_token 229 = .ok (.putfield 190, 3) := by decide +kernel
theorem dX12_token_232 : decode cX12_token 232 = .ok (.aload_n 0, 1) := by decide +kernel
theorem dX12_token_233 : decode cX12_token 233 = .ok (.getfield 190, 3) := by decide +kernel
theorem dX12_token_236 : decode cX12_token 236 = .ok (.iconst 3, 1) := by decide +kernel
theorem dX12_token_237 : decode cX12_token 237 = .ok (.if_icmp .eq 13, 3) := by decide +kernel
theorem dX12_token_240 : decode cX12_token 240 = .ok (.aload_n 0, 1) := by decide +kernel
theorem dX12_token_241 : decode cX12_token 241 = .ok (.dup, 1) := by decide +kernel
theorem dX12_token_242 : decode cX12_token 242 = .ok (.getfield 170, 3) := by decide +kernel
theorem dX12_token_245 : decode cX12_token 245 = .ok (.iload_n 2, 1) := by decide +kernel
theorem dX12_token_246 : decode cX12_token 246 = .ok (.iadd, 1) := by decide +kernel
theorem dX12_token_247 : decode cX12_token 247 = .ok (.putfield 170, 3) := by decide +kernel
theorem dX12_token_250 : decode cX12_token 250 = .ok (.return_, 1) := by decide +kernel
theorem wm_X12_here : Cond.instanceMethod yX12_here ∈ TB ∧ Cond.selects yX12_here.cls yX12_here yX12_here ∈ TB ∧ Cond.initialized yX12_here.cls ∈ TB ∧ Cond.code yX12_here cX12_here 2 (some .int) ∈ TB ∧ (yX12_here.cls ≠ "java/lang/invoke/MethodHandle" ∧ yX12_here.cls ≠ "java/lang/invoke/VarHandle" ∧ (parseMethodDescriptor yX12_here.desc).map (fun d => d.parameters.length) = some 1) ∧ 2 ≤ 21 := ⟨tbm 1715 (by decide +kernel) (by decide +kernel), tbm 58 (by decide +kernel) (by decide +kernel), tbm 146 (by decide +kernel) (by decide +kernel), tbm 1716 (by decide +kernel) (by decide +kernel), by decide +kernel, by decide⟩
theorem wi_RX12_176 : Iv RX12 176 yX12_here cX12_here 2 (some .int) 1 := ⟨tbm 1713 (by decide +kernel) (by decide +kernel), wm_X12_here⟩
theorem wl_RX12_180 : Cond.fieldLink RX12 180 (TX12 7).1 (TX12 7).2.1 (TX12 7).2.2.1 ∈ TB := tbm 1422 (by decide +kernel) (by decide +kernel)
theorem wl_RX12_183 : Cond.fieldLink RX12 183 (TX12 9).1 (TX12 9).2.1 (TX12 9).2.2.1 ∈ TB := tbm 1424 (by decide +kernel) (by decide +kernel)
theorem wl_RX12_187 : Cond.fieldLink RX12 187 (TX12 8).1 (TX12 8).2.1 (TX12 8).2.2.1 ∈ TB := tbm 1423 (by decide +kernel) (by decide +kernel)
theorem wl_RX12_190 : Cond.fieldLink RX12 190 (TX12 6).1 (TX12 6).2.1 (TX12 6).2.2.1 ∈ TB := tbm 1421 (by decide +kernel) (by decide +kernel)
theorem wm_X12_isLetter : Cond.static yX12_isLetter ∈ TB ∧ Cond.initialized yX12_isLetter.cls ∈ TB ∧ Cond.code yX12_isLetter cX12_isLetter 1 (some .boolean) ∈ TB ∧ (yX12_isLetter.cls ≠ "java/lang/invoke/MethodHandle" ∧ yX12_isLetter.cls ≠ "java/lang/invoke/VarHandle" ∧ (parseMethodDescriptor yX12_isLetter.desc).map (fun d => d.parameters.length) = some 1) ∧ 1 ≤ 21 := ⟨tbm 1718 (by decide +kernel) (by decide +kernel), tbm 146 (by decide +kernel) (by decide +kernel), tbm 1719 (by decide +kernel) (by decide +kernel), by decide +kernel, by decide⟩
theorem wi_RX12_193 : Is RX12 193 yX12_isLetter cX12_isLetter 1 (some .boolean) 1 := ⟨tbm 1717 (by decide +kernel) (by decide +kernel), wm_X12_isLetter⟩
theorem wm_X12_isDigit : Cond.static yX12_isDigit ∈ TB ∧ Cond.initialized yX12_isDigit.cls ∈ TB ∧ Cond.code yX12_isDigit cX12_isDigit 1 (some .boolean) ∈ TB ∧ (yX12_isDigit.cls ≠ "java/lang/invoke/MethodHandle" ∧ yX12_isDigit.cls ≠ "java/lang/invoke/VarHandle" ∧ (parseMethodDescriptor yX12_isDigit.desc).map (fun d => d.parameters.length) = some 1) ∧ 1 ≤ 21 := ⟨tbm 1721 (by decide +kernel) (by decide +kernel), tbm 146 (by decide +kernel) (by decide +kernel), tbm 1722 (by decide +kernel) (by decide +kernel), by decide +kernel, by decide⟩
theorem wi_RX12_197 : Is RX12 197 yX12_isDigit cX12_isDigit 1 (some .boolean) 1 := ⟨tbm 1720 (by decide +kernel) (by decide +kernel), wm_X12_isDigit⟩
theorem wm_X12_isSign : Cond.static yX12_isSign ∈ TB ∧ Cond.initialized yX12_isSign.cls ∈ TB ∧ Cond.code yX12_isSign cX12_isSign 1 (some .boolean) ∈ TB ∧ (yX12_isSign.cls ≠ "java/lang/invoke/MethodHandle" ∧ yX12_isSign.cls ≠ "java/lang/invoke/VarHandle" ∧ (parseMethodDescriptor yX12_isSign.desc).map (fun d => d.parameters.length) = some 1) ∧ 1 ≤ 21 := ⟨tbm 1724 (by decide +kernel) (by decide +kernel), tbm 146 (by decide +kernel) (by decide +kernel), tbm 1725 (by decide +kernel) (by decide +kernel), by decide +kernel, by decide⟩
theorem wi_RX12_200 : Is RX12 200 yX12_isSign cX12_isSign 1 (some .boolean) 1 := ⟨tbm 1723 (by decide +kernel) (by decide +kernel), wm_X12_isSign⟩
def mX12_token_L0 (t : Nat) (k33 : St_ → Option St_) : Nat → St_ → Option St_
  | 0, _ => none
  | n + 1, σ => ((mX12_here t (0 : Int32) σ).bind fun r1 =>
 (bnd (bnd (sI σ t 4 ((σ.1 t 4) + (1 : Int32))) fun σ4 =>
 (mX12_token_L0 t k33 n σ4)) fun k2 =>
 (if r1 = (32 : Int32) then
 (k2)
 else ((mX12_here t (0 : Int32) σ).bind fun r5 =>
 (if r5 = (10 : Int32) then
 (k2)
 else (k33 σ))))))
def mX12_token_L78 (t : Nat) (k119 : Int32 → St_ → Option St_) : Nat → Int32 → St_ → Option St_
  | 0, _, _ => none
  | n + 1, x2, σ => ((mX12_here t x2 σ).bind fun r17 =>
 ((mX12_isLetter r17 σ).bind fun r18 =>
 (if r18 = true then
 (bnd (fun (σ19 : St_) => (mX12_token_L78 t k119 n (x2 + 1) σ19)) fun k20 =>
 (if (8 : Int32) ≤ x2 then
 (k20 σ)
 else ((mX12_here t x2 σ).bind fun r22 =>
 (bnd (sL σ t 9 (((σ.2 t 9) <<< ((8 : Int32).toInt64 &&& 63)) ||| r22.toInt64)) fun σ23 =>
 (k20 σ23)))))
 else (k119 x2 σ))))
def mX12_token_L144 (t : Nat) (k186 : Int32 → St_ → Option St_) : Nat → Int32 → St_ → Option St_
  | 0, _, _ => none
  | n + 1, x2, σ => ((mX12_here t x2 σ).bind fun r31 =>
 ((mX12_isDigit r31 σ).bind fun r32 =>
 (if r32 = true then
 (bnd (fun (σ33 : St_) => (mX12_token_L144 t k186 n (x2 + 1) σ33)) fun k34 =>
 (if (4 : Int32) ≤ x2 then
 (k34 σ)
 else ((mX12_here t x2 σ).bind fun r36 =>
 (bnd (sI σ t 8 ((((10 : Int32) * (σ.1 t 8)) + r36) - (48 : Int32))) fun σ37 =>
 (k34 σ37)))))
 else (k186 x2 σ))))
def mX12_token (t : Nat) (σ : St_) : Option St_ :=
 (mX12_token_L0 t
 (fun (σ6 : St_) => (bnd (sI σ6 t 7 (σ6.1 t 4)) fun σ7 =>
 ((mX12_here t (0 : Int32) σ7).bind fun r8 =>
 (bnd (sL σ7 t 9 (0 : Int64)) fun σ9 =>
 (bnd (sI σ9 t 8 (0 : Int32)) fun σ10 =>
 (bnd (fun (j11 : Int32) (σ12 : St_) => (if (σ12.1 t 6) = (3 : Int32) then
 (some σ12)
 else (bnd (sI σ12 t 4 ((σ12.1 t 4) + j11)) fun σ15 =>
 (some σ15)))) fun k13 =>
 (if 0 ≤ r8 then
 ((mX12_isLetter r8 σ10).bind fun r16 =>
 (if r16 = true then
 (mX12_token_L78 t
 (fun (y24 : Int32) (σ25 : St_) => (bnd (fun (j26 : Int32) => (bnd (sI σ25 t 6 j26) fun σ29 =>
 (k13 y24 σ29))) fun k27 =>
 (if y24 ≤ (8 : Int32) then
 (k27 (1 : Int32))
 else (k27 (3 : Int32))))) FU (0 : Int32) σ10)
 else ((mX12_isDigit r8 σ10).bind fun r30 =>
 (if r30 = true then
 (mX12_token_L144 t
 (fun (y38 : Int32) (σ39 : St_) => (bnd (fun (j40 : Int32) => (bnd (sI σ39 t 6 j40) fun σ43 =>
 (k13 y38 σ43))) fun k41 =>
 (bnd (k41 (3 : Int32)) fun k44 =>
 (if (4 : Int32) < y38 then
 (k44)
 else ((mX12_here t y38 σ39).bind fun r46 =>
 ((mX12_isLetter r46 σ39).bind fun r47 =>
 (if r47 = true then
 (k44)
 else (k41 (2 : Int32))))))))) FU (0 : Int32) σ10)
 else ((mX12_isSign r8 σ10).bind fun r48 =>
 (bnd (fun (j49 : Int32) => (bnd (sI σ10 t 6 j49) fun σ52 =>
 (k13 (1 : Int32) σ52))) fun k50 =>
 (if r48 = true then
 (k50 r8)
 else (k50 (3 : Int32)))))))))
 else (bnd (sI σ10 t 6 (0 : Int32)) fun σ53 =>
 (k13 (0 : Int32) σ53))))))))) FU σ)
set_option maxHeartbeats 4000000 in
theorem tmX12_token_L0 (t : Nat) (hT : LY12 sh P t) (k33 : St_ → Option St_) (hk33 : ∀ (σ1 : St_), Tj l D cA h0 ad RX12 cX12_token 3 none false 3 0 0 (fun b => (none, sh, P, b)) 0 0 sh P σ1 33 [(0, .ref (h0 + t))] [] (k33 σ1)) : ∀ (n : Nat) (σ : St_), Tj l D cA h0 ad RX12 cX12_token 3 none false 3 0 0 (fun b => (none, sh, P, b)) 0 0 sh P σ 0 [(0, .ref (h0 + t))] [] (mX12_token_L0 t k33 n σ) := by
  intro n
  induction n with
  | zero => intros; exact tj_none
  | succ n ih =>
    intro σ
    rw [mX12_token_L0]
    refine tj_aload_n (q := 1) dX12_token_0 rfl (i := 0) rfl (pl := 0) rfl ?_
    refine tj_iconst (q := 2) (v := 0) dX12_token_1 rfl (by decide) ?_
    refine tj_callIp (q := 5) (kj_V (As := [.int (0 : Int32)]) (rest := []) (t := t) wi_RX12_176 (hT).s rfl (rX12_here t (0 : Int32) (hT)) rfl (Nat.le_of_ble_eq_true rfl) ⟨Nat.le_of_ble_eq_true rfl, Nat.le_of_ble_eq_true rfl⟩ (Nat.le_of_ble_eq_true rfl) dX12_token_2) rfl (fun r1 => ?_)
    refine tj_bipush (q := 7) (v := 32) dX12_token_5 rfl (by decide) ?_
    refine tj_bnd (fun k2 => Tj l D cA h0 ad RX12 cX12_token 3 none false 3 0 0 (fun b => (none, sh, P, b)) 0 0 sh P σ 20 [(0, .ref (h0 + t))] [] k2) ?_ (fun k2 hk3 => ?_)
    · refine tj_aload_n (q := 21) dX12_token_20 rfl (i := 0) rfl (pl := 0) rfl ?_
      refine tj_dup (q := 22) dX12_token_21 rfl rfl ?_
      refine tj_getI (q := 25) (hT).s fok_12_4 wl_RX12_170 dX12_token_22 rfl ?_
      refine tj_iconst (q := 26) (v := 1) dX12_token_25 rfl (by decide) ?_
      refine tj_iadd (q := 27) dX12_token_26 rfl ?_
      refine tj_putI (q := 30) (hT).s fok_12_4 tok_12 fpk_12_4 wl_RX12_170 dX12_token_27 rfl (fun σ4 => ?_)
      refine tj_goto (q := 0) dX12_token_30 (by decide) ?_
      exact ih σ4
    · refine tj_icmp_eq (tgt := 20) (q := 10) dX12_token_7 (by decide) rfl ?_ ?_
      · exact hk3
      · refine tj_aload_n (q := 11) dX12_token_10 rfl (i := 0) rfl (pl := 0) rfl ?_
        refine tj_iconst (q := 12) (v := 0) dX12_token_11 rfl (by decide) ?_
        refine tj_callIp (q := 15) (kj_V (As := [.int (0 : Int32)]) (rest := []) (t := t) wi_RX12_176 (hT).s rfl (rX12_here t (0 : Int32) (hT)) rfl (Nat.le_of_ble_eq_true rfl) ⟨Nat.le_of_ble_eq_true rfl, Nat.le_of_ble_eq_true rfl⟩ (Nat.le_of_ble_eq_true rfl) dX12_token_12) rfl (fun r5 => ?_)
        refine tj_bipush (q := 17) (v := 10) dX12_token_15 rfl (by decide) ?_
        refine tj_icmp_ne (tgt := 33) (q := 20) dX12_token_17 (by decide) rfl ?_ ?_
        · exact hk3
        · exact hk33 σ

set_option maxHeartbeats 4000000 in
theorem tmX12_token_L78 (t : Nat) (hT : LY12 sh P t) (k119 : Int32 → St_ → Option St_) (hk119 : ∀ (y2 : Int32) (σ1 : St_), Tj l D cA h0 ad RX12 cX12_token 3 none false 3 0 0 (fun b => (none, sh, P, b)) 0 0 sh P σ1 119 [(0, .ref (h0 + t)), (2, .int y2)] [] (k119 y2 σ1)) : ∀ (n : Nat) (x2 : Int32) (σ : St_), Tj l D cA h0 ad RX12 cX12_token 3 none false 3 0 0 (fun b => (none, sh, P, b)) 0 0 sh P σ 78 [(0, .ref (h0 + t)), (2, .int x2)] [] (mX12_token_L78 t k119 n x2 σ) := by
  intro n
  induction n with
  | zero => intros; exact tj_none
  | succ n ih =>
    intro x2 σ
    rw [mX12_token_L78]
    refine tj_aload_n (q := 79) dX12_token_78 rfl (i := 0) rfl (pl := 0) rfl ?_
    refine tj_iload_n (q := 80) dX12_token_79 rfl (i := 2) rfl (pl := 1) rfl ?_
    refine tj_callIp (q := 83) (kj_V (As := [.int x2]) (rest := []) (t := t) wi_RX12_176 (hT).s rfl (rX12_here t x2 (hT)) rfl (Nat.le_of_ble_eq_true rfl) ⟨Nat.le_of_ble_eq_true rfl, Nat.le_of_ble_eq_true rfl⟩ (Nat.le_of_ble_eq_true rfl) dX12_token_80) rfl (fun r17 => ?_)
    refine tj_callZp (q := 86) (kj_S (As := [.int r17]) (rest := []) wi_RX12_193 (rX12_isLetter r17) rfl (Nat.le_of_ble_eq_true rfl) ⟨Nat.le_of_ble_eq_true rfl, Nat.le_of_ble_eq_true rfl⟩ (Nat.le_of_ble_eq_true rfl) dX12_token_83) rfl (fun r18 => ?_)
    refine tj_bz (tgt := 119) (q := 89) dX12_token_86 (by decide) rfl ?_ ?_
    · refine tj_iload_n (q := 90) dX12_token_89 rfl (i := 2) rfl (pl := 1) rfl ?_
      refine tj_bipush (q := 92) (v := 8) dX12_token_90 rfl (by decide) ?_
      refine tj_bnd (fun k20 => ∀ (σ19 : St_), Tj l D cA h0 ad RX12 cX12_token 3 none false 3 0 0 (fun b => (none, sh, P, b)) 0 0 sh P σ19 113 [(0, .ref (h0 + t)), (2, .int x2)] [] (k20 σ19)) ?_ (fun k20 hk21 => ?_)
      · intro σ19
        refine tj_iinc (q := 116) (v := x2 + 1) dX12_token_113 rfl (pl := 1) rfl rfl (by decide) rfl ?_
        refine tj_goto (q := 78) dX12_token_116 (by decide) ?_
        refine tj_lv [1, 0] rfl ?_
        exact ih (x2 + 1) σ19
      · refine tj_icmp_ge (tgt := 113) (q := 95) dX12_token_92 (by decide) rfl ?_ ?_
        · exact hk21 σ
        · refine tj_aload_n (q := 96) dX12_token_95 rfl (i := 0) rfl (pl := 0) rfl ?_
          refine tj_aload_n (q := 97) dX12_token_96 rfl (i := 0) rfl (pl := 0) rfl ?_
          refine tj_getL (q := 100) (hT).s fok_12_9 wl_RX12_183 dX12_token_97 rfl ?_
          refine tj_bipush (q := 102) (v := 8) dX12_token_100 rfl (by decide) ?_
          refine tj_lshl (q := 103) dX12_token_102 rfl ?_
          refine tj_aload_n (q := 104) dX12_token_103 rfl (i := 0) rfl (pl := 0) rfl ?_
          refine tj_iload_n (q := 105) dX12_token_104 rfl (i := 2) rfl (pl := 1) rfl ?_
          refine tj_callIp (q := 108) (kj_V (As := [.int x2]) (rest := [.long ((σ.2 t 9) <<< ((8 : Int32).toInt64 &&& 63)), .ref (h0 + t)]) (t := t) wi_RX12_176 (hT).s rfl (rX12_here t x2 (hT)) rfl (Nat.le_of_ble_eq_true rfl) ⟨Nat.le_of_ble_eq_true rfl, Nat.le_of_ble_eq_true rfl⟩ (Nat.le_of_ble_eq_true rfl) dX12_token_105) rfl (fun r22 => ?_)
          refine tj_i2l (q := 109) dX12_token_108 rfl ?_
          refine tj_lor (q := 110) dX12_token_109 rfl ?_
          refine tj_putL (q := 113) (hT).s fok_12_9 tok_12 fpk_12_9 wl_RX12_183 dX12_token_110 rfl (fun σ23 => ?_)
          exact hk21 σ23
    · exact hk119 x2 σ

set_option maxHeartbeats 4000000 in
theorem tmX12_token_L144 (t : Nat) (hT : LY12 sh P t) (k186 : Int32 → St_ → Option St_) (hk186 : ∀ (y2 : Int32) (σ1 : St_), Tj l D cA h0 ad RX12 cX12_token 3 none false 3 0 0 (fun b => (none, sh, P, b)) 0 0 sh P σ1 186 [(0, .ref (h0 + t)), (2, .int y2)] [] (k186 y2 σ1)) : ∀ (n : Nat) (x2 : Int32) (σ : St_), Tj l D cA h0 ad RX12 cX12_token 3 none false 3 0 0 (fun b => (none, sh, P, b)) 0 0 sh P σ 144 [(0, .ref (h0 + t)), (2, .int x2)] [] (mX12_token_L144 t k186 n x2 σ) := by
  intro n
  induction n with
  | zero => intros; exact tj_none
  | succ n ih =>
    intro x2 σ
    rw [mX12_token_L144]
    refine tj_aload_n (q := 145) dX12_token_144 rfl (i := 0) rfl (pl := 0) rfl ?_
    refine tj_iload_n (q := 146) dX12_token_145 rfl (i := 2) rfl (pl := 1) rfl ?_
    refine tj_callIp (q := 149) (kj_V (As := [.int x2]) (rest := []) (t := t) wi_RX12_176 (hT).s rfl (rX12_here t x2 (hT)) rfl (Nat.le_of_ble_eq_true rfl) ⟨Nat.le_of_ble_eq_true rfl, Nat.le_of_ble_eq_true rfl⟩ (Nat.le_of_ble_eq_true rfl) dX12_token_146) rfl (fun r31 => ?_)
    refine tj_callZp (q := 152) (kj_S (As := [.int r31]) (rest := []) wi_RX12_197 (rX12_isDigit r31) rfl (Nat.le_of_ble_eq_true rfl) ⟨Nat.le_of_ble_eq_true rfl, Nat.le_of_ble_eq_true rfl⟩ (Nat.le_of_ble_eq_true rfl) dX12_token_149) rfl (fun r32 => ?_)
    refine tj_bz (tgt := 186) (q := 155) dX12_token_152 (by decide) rfl ?_ ?_
    · refine tj_iload_n (q := 156) dX12_token_155 rfl (i := 2) rfl (pl := 1) rfl ?_
      refine tj_iconst (q := 157) (v := 4) dX12_token_156 rfl (by decide) ?_
      refine tj_bnd (fun k34 => ∀ (σ33 : St_), Tj l D cA h0 ad RX12 cX12_token 3 none false 3 0 0 (fun b => (none, sh, P, b)) 0 0 sh P σ33 180 [(0, .ref (h0 + t)), (2, .int x2)] [] (k34 σ33)) ?_ (fun k34 hk35 => ?_)
      · intro σ33
        refine tj_iinc (q := 183) (v := x2 + 1) dX12_token_180 rfl (pl := 1) rfl rfl (by decide) rfl ?_
        refine tj_goto (q := 144) dX12_token_183 (by decide) ?_
        refine tj_lv [1, 0] rfl ?_
        exact ih (x2 + 1) σ33
      · refine tj_icmp_ge (tgt := 180) (q := 160) dX12_token_157 (by decide) rfl ?_ ?_
        · exact hk35 σ
        · refine tj_aload_n (q := 161) dX12_token_160 rfl (i := 0) rfl (pl := 0) rfl ?_
          refine tj_bipush (q := 163) (v := 10) dX12_token_161 rfl (by decide) ?_
          refine tj_aload_n (q := 164) dX12_token_163 rfl (i := 0) rfl (pl := 0) rfl ?_
          refine tj_getI (q := 167) (hT).s fok_12_8 wl_RX12_187 dX12_token_164 rfl ?_
          refine tj_imul (q := 168) dX12_token_167 rfl ?_
          refine tj_aload_n (q := 169) dX12_token_168 rfl (i := 0) rfl (pl := 0) rfl ?_
          refine tj_iload_n (q := 170) dX12_token_169 rfl (i := 2) rfl (pl := 1) rfl ?_
          refine tj_callIp (q := 173) (kj_V (As := [.int x2]) (rest := [.int ((10 : Int32) * (σ.1 t 8)), .ref (h0 + t)]) (t := t) wi_RX12_176 (hT).s rfl (rX12_here t x2 (hT)) rfl (Nat.le_of_ble_eq_true rfl) ⟨Nat.le_of_ble_eq_true rfl, Nat.le_of_ble_eq_true rfl⟩ (Nat.le_of_ble_eq_true rfl) dX12_token_170) rfl (fun r36 => ?_)
          refine tj_iadd (q := 174) dX12_token_173 rfl ?_
          refine tj_bipush (q := 176) (v := 48) dX12_token_174 rfl (by decide) ?_
          refine tj_isub (q := 177) dX12_token_176 rfl ?_
          refine tj_putI (q := 180) (hT).s fok_12_8 tok_12 fpk_12_8 wl_RX12_187 dX12_token_177 rfl (fun σ37 => ?_)
          exact hk35 σ37
    · exact hk186 x2 σ

set_option maxHeartbeats 4000000 in
theorem rX12_token (t : Nat) (hT : LY12 sh P t) : Rj l D cA h0 ad yX12_token cX12_token 3 none false 3 0 0 (fun b => (none, sh, P, b)) [.ref (h0 + t)] sh P σ (mX12_token t σ) := by
  rw [mX12_token]
  refine Rj.of (by decide) (fun h => by cases h) (Nat.le_of_ble_eq_true rfl) ?_
  refine tj_lv0 (lv' := [(0, .ref (h0 + t))]) rfl ?_
  refine tmX12_token_L0 t hT _ ?_ FU σ
  · intro σ6
    refine tj_aload_n (q := 34) dX12_token_33 rfl (i := 0) rfl (pl := 0) rfl ?_
    refine tj_aload_n (q := 35) dX12_token_34 rfl (i := 0) rfl (pl := 0) rfl ?_
    refine tj_getI (q := 38) (hT).s fok_12_4 wl_RX12_170 dX12_token_35 rfl ?_
    refine tj_putI (q := 41) (hT).s fok_12_7 tok_12 fpk_12_7 wl_RX12_180 dX12_token_38 rfl (fun σ7 => ?_)
    refine tj_aload_n (q := 42) dX12_token_41 rfl (i := 0) rfl (pl := 0) rfl ?_
    refine tj_iconst (q := 43) (v := 0) dX12_token_42 rfl (by decide) ?_
    refine tj_callIp (q := 46) (kj_V (As := [.int (0 : Int32)]) (rest := []) (t := t) wi_RX12_176 (hT).s rfl (rX12_here t (0 : Int32) (hT)) rfl (Nat.le_of_ble_eq_true rfl) ⟨Nat.le_of_ble_eq_true rfl, Nat.le_of_ble_eq_true rfl⟩ (Nat.le_of_ble_eq_true rfl) dX12_token_43) rfl (fun r8 => ?_)
    refine tj_istore_n (q := 47) dX12_token_46 rfl (i := 1) rfl (by decide) rfl ?_
    refine tj_iconst (q := 48) (v := 0) dX12_token_47 rfl (by decide) ?_
    refine tj_istore_n (q := 49) dX12_token_48 rfl (i := 2) rfl (by decide) rfl ?_
    refine tj_aload_n (q := 50) dX12_token_49 rfl (i := 0) rfl (pl := 2) rfl ?_
    refine tj_lconst (q := 51) (v := 0) dX12_token_50 rfl (by decide) ?_
    refine tj_putL (q := 54) (hT).s fok_12_9 tok_12 fpk_12_9 wl_RX12_183 dX12_token_51 rfl (fun σ9 => ?_)
    refine tj_aload_n (q := 55) dX12_token_54 rfl (i := 0) rfl (pl := 2) rfl ?_
    refine tj_iconst (q := 56) (v := 0) dX12_token_55 rfl (by decide) ?_
    refine tj_putI (q := 59) (hT).s fok_12_8 tok_12 fpk_12_8 wl_RX12_187 dX12_token_56 rfl (fun σ10 => ?_)
    refine tj_iload_n (q := 60) dX12_token_59 rfl (i := 1) rfl (pl := 1) rfl ?_
    refine tj_bnd (fun k13 => ∀ (j11 : Int32) (σ12 : St_), Tj l D cA h0 ad RX12 cX12_token 3 none false 3 0 0 (fun b => (none, sh, P, b)) 0 0 sh P σ12 232 [(0, .ref (h0 + t)), (2, .int j11)] [] (k13 j11 σ12)) ?_ (fun k13 hk14 => ?_)
    · intro j11 σ12
      refine tj_aload_n (q := 233) dX12_token_232 rfl (i := 0) rfl (pl := 0) rfl ?_
      refine tj_getI (q := 236) (hT).s fok_12_6 wl_RX12_190 dX12_token_233 rfl ?_
      refine tj_iconst (q := 237) (v := 3) dX12_token_236 rfl (by decide) ?_
      refine tj_icmp_eq (tgt := 250) (q := 240) dX12_token_237 (by decide) rfl ?_ ?_
      · exact tj_vret rfl rfl (Nat.le_of_ble_eq_true rfl) (Nat.le_of_ble_eq_true rfl) dX12_token_250
      · refine tj_aload_n (q := 241) dX12_token_240 rfl (i := 0) rfl (pl := 0) rfl ?_
        refine tj_dup (q := 242) dX12_token_241 rfl rfl ?_
        refine tj_getI (q := 245) (hT).s fok_12_4 wl_RX12_170 dX12_token_242 rfl ?_
        refine tj_iload_n (q := 246) dX12_token_245 rfl (i := 2) rfl (pl := 1) rfl ?_
        refine tj_iadd (q := 247) dX12_token_246 rfl ?_
        refine tj_putI (q := 250) (hT).s fok_12_4 tok_12 fpk_12_4 wl_RX12_170 dX12_token_247 rfl (fun σ15 => ?_)
        exact tj_vret rfl rfl (Nat.le_of_ble_eq_true rfl) (Nat.le_of_ble_eq_true rfl) dX12_token_250
    · refine tj_if_ge (tgt := 71) (q := 63) dX12_token_60 (by decide) rfl ?_ ?_
      · refine tj_iload_n (q := 72) dX12_token_71 rfl (i := 1) rfl (pl := 1) rfl ?_
        refine tj_callZp (q := 75) (kj_S (As := [.int r8]) (rest := []) wi_RX12_193 (rX12_isLetter r8) rfl (Nat.le_of_ble_eq_true rfl) ⟨Nat.le_of_ble_eq_true rfl, Nat.le_of_ble_eq_true rfl⟩ (Nat.le_of_ble_eq_true rfl) dX12_token_72) rfl (fun r16 => ?_)
        refine tj_bz (tgt := 137) (q := 78) dX12_token_75 (by decide) rfl ?_ ?_
        · refine tj_lv [2, 0] rfl ?_
          refine tmX12_token_L78 t hT _ ?_ FU (0 : Int32) σ10
          · intro y24 σ25
            refine tj_aload_n (q := 120) dX12_token_119 rfl (i := 0) rfl (pl := 0) rfl ?_
            refine tj_iload_n (q := 121) dX12_token_120 rfl (i := 2) rfl (pl := 1) rfl ?_
            refine tj_bipush (q := 123) (v := 8) dX12_token_121 rfl (by decide) ?_
            refine tj_bnd (fun k27 => ∀ (j26 : Int32), Tj l D cA h0 ad RX12 cX12_token 3 none false 3 0 0 (fun b => (none, sh, P, b)) 0 0 sh P σ25 131 [(0, .ref (h0 + t)), (2, .int y24)] [.int j26, .ref (h0 + t)] (k27 j26)) ?_ (fun k27 hk28 => ?_)
            · intro j26
              refine tj_putI (q := 134) (hT).s fok_12_6 tok_12 fpk_12_6 wl_RX12_190 dX12_token_131 rfl (fun σ29 => ?_)
              refine tj_goto (q := 232) dX12_token_134 (by decide) ?_
              exact hk14 y24 σ29
            · refine tj_icmp_le (tgt := 130) (q := 126) dX12_token_123 (by decide) rfl ?_ ?_
              · refine tj_iconst (q := 131) (v := 1) dX12_token_130 rfl (by decide) ?_
                exact hk28 (1 : Int32)
              · refine tj_iconst (q := 127) (v := 3) dX12_token_126 rfl (by decide) ?_
                refine tj_goto (q := 131) dX12_token_127 (by decide) ?_
                exact hk28 (3 : Int32)
        · refine tj_iload_n (q := 138) dX12_token_137 rfl (i := 1) rfl (pl := 1) rfl ?_
          refine tj_callZp (q := 141) (kj_S (As := [.int r8]) (rest := []) wi_RX12_197 (rX12_isDigit r8) rfl (Nat.le_of_ble_eq_true rfl) ⟨Nat.le_of_ble_eq_true rfl, Nat.le_of_ble_eq_true rfl⟩ (Nat.le_of_ble_eq_true rfl) dX12_token_138) rfl (fun r30 => ?_)
          refine tj_bz (tgt := 214) (q := 144) dX12_token_141 (by decide) rfl ?_ ?_
          · refine tj_lv [2, 0] rfl ?_
            refine tmX12_token_L144 t hT _ ?_ FU (0 : Int32) σ10
            · intro y38 σ39
              refine tj_aload_n (q := 187) dX12_token_186 rfl (i := 0) rfl (pl := 0) rfl ?_
              refine tj_iload_n (q := 188) dX12_token_187 rfl (i := 2) rfl (pl := 1) rfl ?_
              refine tj_iconst (q := 189) (v := 4) dX12_token_188 rfl (by decide) ?_
              refine tj_bnd (fun k41 => ∀ (j40 : Int32), Tj l D cA h0 ad RX12 cX12_token 3 none false 3 0 0 (fun b => (none, sh, P, b)) 0 0 sh P σ39 208 [(0, .ref (h0 + t)), (2, .int y38)] [.int j40, .ref (h0 + t)] (k41 j40)) ?_ (fun k41 hk42 => ?_)
              · intro j40
                refine tj_putI (q := 211) (hT).s fok_12_6 tok_12 fpk_12_6 wl_RX12_190 dX12_token_208 rfl (fun σ43 => ?_)
                refine tj_goto (q := 232) dX12_token_211 (by decide) ?_
                exact hk14 y38 σ43
              · refine tj_bnd (fun k44 => Tj l D cA h0 ad RX12 cX12_token 3 none false 3 0 0 (fun b => (none, sh, P, b)) 0 0 sh P σ39 203 [(0, .ref (h0 + t)), (2, .int y38)] [.ref (h0 + t)] k44) ?_ (fun k44 hk45 => ?_)
                · refine tj_iconst (q := 204) (v := 3) dX12_token_203 rfl (by decide) ?_
                  refine tj_goto (q := 208) dX12_token_204 (by decide) ?_
                  exact hk42 (3 : Int32)
                · refine tj_icmp_gt (tgt := 203) (q := 192) dX12_token_189 (by decide) rfl ?_ ?_
                  · exact hk45
                  · refine tj_aload_n (q := 193) dX12_token_192 rfl (i := 0) rfl (pl := 0) rfl ?_
                    refine tj_iload_n (q := 194) dX12_token_193 rfl (i := 2) rfl (pl := 1) rfl ?_
                    refine tj_callIp (q := 197) (kj_V (As := [.int y38]) (rest := [.ref (h0 + t)]) (t := t) wi_RX12_176 (hT).s rfl (rX12_here t y38 (hT)) rfl (Nat.le_of_ble_eq_true rfl) ⟨Nat.le_of_ble_eq_true rfl, Nat.le_of_ble_eq_true rfl⟩ (Nat.le_of_ble_eq_true rfl) dX12_token_194) rfl (fun r46 => ?_)
                    refine tj_callZp (q := 200) (kj_S (As := [.int r46]) (rest := [.ref (h0 + t)]) wi_RX12_193 (rX12_isLetter r46) rfl (Nat.le_of_ble_eq_true rfl) ⟨Nat.le_of_ble_eq_true rfl, Nat.le_of_ble_eq_true rfl⟩ (Nat.le_of_ble_eq_true rfl) dX12_token_197) rfl (fun r47 => ?_)
                    refine tj_bz (tgt := 207) (q := 203) dX12_token_200 (by decide) rfl ?_ ?_
                    · exact hk45
                    · refine tj_iconst (q := 208) (v := 2) dX12_token_207 rfl (by decide) ?_
                      exact hk42 (2 : Int32)
          · refine tj_iconst (q := 215) (v := 1) dX12_token_214 rfl (by decide) ?_
            refine tj_istore_n (q := 216) dX12_token_215 rfl (i := 2) rfl (by decide) rfl ?_
            refine tj_aload_n (q := 217) dX12_token_216 rfl (i := 0) rfl (pl := 2) rfl ?_
            refine tj_iload_n (q := 218) dX12_token_217 rfl (i := 1) rfl (pl := 1) rfl ?_
            refine tj_callZp (q := 221) (kj_S (As := [.int r8]) (rest := [.ref (h0 + t)]) wi_RX12_200 (rX12_isSign r8) rfl (Nat.le_of_ble_eq_true rfl) ⟨Nat.le_of_ble_eq_true rfl, Nat.le_of_ble_eq_true rfl⟩ (Nat.le_of_ble_eq_true rfl) dX12_token_218) rfl (fun r48 => ?_)
            refine tj_bnd (fun k50 => ∀ (j49 : Int32), Tj l D cA h0 ad RX12 cX12_token 3 none false 3 0 0 (fun b => (none, sh, P, b)) 0 0 sh P σ10 229 [(0, .ref (h0 + t)), (2, .int (1 : Int32))] [.int j49, .ref (h0 + t)] (k50 j49)) ?_ (fun k50 hk51 => ?_)
            · intro j49
              refine tj_putI (q := 232) (hT).s fok_12_6 tok_12 fpk_12_6 wl_RX12_190 dX12_token_229 rfl (fun σ52 => ?_)
              exact hk14 (1 : Int32) σ52
            · refine tj_bz (tgt := 228) (q := 224) dX12_token_221 (by decide) rfl ?_ ?_
              · refine tj_iload_n (q := 225) dX12_token_224 rfl (i := 1) rfl (pl := 1) rfl ?_
                refine tj_goto (q := 229) dX12_token_225 (by decide) ?_
                refine tj_lv [2, 0] rfl ?_
                exact hk51 r8
              · refine tj_iconst (q := 229) (v := 3) dX12_token_228 rfl (by decide) ?_
                refine tj_lv [2, 0] rfl ?_
                exact hk51 (3 : Int32)
      · refine tj_aload_n (q := 64) dX12_token_63 rfl (i := 0) rfl (pl := 2) rfl ?_
        refine tj_iconst (q := 65) (v := 0) dX12_token_64 rfl (by decide) ?_
        refine tj_putI (q := 68) (hT).s fok_12_6 tok_12 fpk_12_6 wl_RX12_190 dX12_token_65 rfl (fun σ53 => ?_)
        refine tj_goto (q := 232) dX12_token_68 (by decide) ?_
        refine tj_lv [2, 0] rfl ?_
        exact hk14 (0 : Int32) σ53

theorem dX12_wrong_0 : decode cX12_wrong 0 = .ok (.aload_n 0, 1) := by decide +kernel
theorem dX12_wrong_1 : decode cX12_wrong 1 = .ok (.getfield 203, 3) := by decide +kernel
theorem dX12_wrong_4 : decode cX12_wrong 4 = .ok (.ifCond .le 4, 3) := by decide +kernel
theorem dX12_wrong_7 : decode cX12_wrong 7 = .ok (.return_, 1) := by decide +kernel
theorem dX12_wrong_8 : decode cX12_wrong 8 = .ok (.aload_n 0, 1) := by decide +kernel
theorem dX12_wrong_9 : decode cX12_wrong 9 = .ok (.aload_n 0, 1) := by decide +kernel
theorem dX12_wrong_10 : decode cX12_wrong 10 = .ok (.getfield 190, 3) := by decide +kernel
theorem dX12_wrong_13 : decode cX12_wrong 13 = .ok (.iconst 3, 1) := by decide +kernel
theorem dX12_wrong_14 : decode cX12_wrong 14 = .ok (.if_icmp .ne 7, 3) := by decide +kernel
theorem dX12_wrong_17 : decode cX12_wrong 17 = .ok (.iconst 1, 1) := by decide +kernel
theorem dX12_wrong_18 : decode cX12_wrong 18 = .ok (.goto 4, 3) := by decide +kernel
theorem dX12_wrong_21 : decode cX12_wrong 21 = .ok (.iload_n 1, 1) := by decide +kernel
theorem dX12_wrong_22 : decode cX12_wrong 22 = .ok (.putfield 203, 3) := by decide +kernel
theorem dX12_wrong_25 : decode cX12_wrong 25 = .ok (.aload_n 0, 1) := by decide +kernel
theorem dX12_wrong_26 : decode cX12_wrong 26 = .ok (.aload_n 0, 1) := by decide +kernel
theorem dX12_wrong_27 : decode cX12_wrong 27 = .ok (.getfield 180, 3) := by decide +kernel
theorem dX12_wrong_30 : decode cX12_wrong 30 = .ok (.putfield 13, 3) := by decide +kernel
theorem dX12_wrong_33 : decode cX12_wrong 33 = .ok (.return_, 1) := by decide +kernel
theorem wl_RX12_203 : Cond.fieldLink RX12 203 (TX12 2).1 (TX12 2).2.1 (TX12 2).2.2.1 ∈ TB := tbm 1417 (by decide +kernel) (by decide +kernel)
theorem wl_RX12_13 : Cond.fieldLink RX12 13 (TX12 3).1 (TX12 3).2.1 (TX12 3).2.2.1 ∈ TB := tbm 1418 (by decide +kernel) (by decide +kernel)
def mX12_wrong (t : Nat) (p1 : Int32) (σ : St_) : Option St_ :=
 (if (σ.1 t 2) ≤ 0 then
 (bnd (fun (j1 : Int32) => (bnd (sI σ t 2 j1) fun σ4 =>
 (bnd (sI σ4 t 3 (σ4.1 t 7)) fun σ5 =>
 (some σ5)))) fun k2 =>
 (if (σ.1 t 6) = (3 : Int32) then
 (k2 (1 : Int32))
 else (k2 p1)))
 else (some σ))
set_option maxHeartbeats 4000000 in
theorem rX12_wrong (t : Nat) (p1 : Int32) (hT : LY12 sh P t) : Rj l D cA h0 ad yX12_wrong cX12_wrong 2 none false 2 0 0 (fun b => (none, sh, P, b)) [.ref (h0 + t), .int p1] sh P σ (mX12_wrong t p1 σ) := by
  rw [mX12_wrong]
  refine Rj.of (by decide) (fun h => by cases h) (Nat.le_of_ble_eq_true rfl) ?_
  refine tj_lv0 (lv' := [(0, .ref (h0 + t)), (1, .int p1)]) rfl ?_
  refine tj_aload_n (q := 1) dX12_wrong_0 rfl (i := 0) rfl (pl := 0) rfl ?_
  refine tj_getI (q := 4) (hT).s fok_12_2 wl_RX12_203 dX12_wrong_1 rfl ?_
  refine tj_if_le (tgt := 8) (q := 7) dX12_wrong_4 (by decide) rfl ?_ ?_
  · refine tj_aload_n (q := 9) dX12_wrong_8 rfl (i := 0) rfl (pl := 0) rfl ?_
    refine tj_aload_n (q := 10) dX12_wrong_9 rfl (i := 0) rfl (pl := 0) rfl ?_
    refine tj_getI (q := 13) (hT).s fok_12_6 wl_RX12_190 dX12_wrong_10 rfl ?_
    refine tj_iconst (q := 14) (v := 3) dX12_wrong_13 rfl (by decide) ?_
    refine tj_bnd (fun k2 => ∀ (j1 : Int32), Tj l D cA h0 ad RX12 cX12_wrong 2 none false 2 0 0 (fun b => (none, sh, P, b)) 0 0 sh P σ 22 [(0, .ref (h0 + t))] [.int j1, .ref (h0 + t)] (k2 j1)) ?_ (fun k2 hk3 => ?_)
    · intro j1
      refine tj_putI (q := 25) (hT).s fok_12_2 tok_12 fpk_12_2 wl_RX12_203 dX12_wrong_22 rfl (fun σ4 => ?_)
      refine tj_aload_n (q := 26) dX12_wrong_25 rfl (i := 0) rfl (pl := 0) rfl ?_
      refine tj_aload_n (q := 27) dX12_wrong_26 rfl (i := 0) rfl (pl := 0) rfl ?_
      refine tj_getI (q := 30) (hT).s fok_12_7 wl_RX12_180 dX12_wrong_27 rfl ?_
      refine tj_putI (q := 33) (hT).s fok_12_3 tok_12 fpk_12_3 wl_RX12_13 dX12_wrong_30 rfl (fun σ5 => ?_)
      exact tj_vret rfl rfl (Nat.le_of_ble_eq_true rfl) (Nat.le_of_ble_eq_true rfl) dX12_wrong_33
    · refine tj_icmp_ne (tgt := 21) (q := 17) dX12_wrong_14 (by decide) rfl ?_ ?_
      · refine tj_iconst (q := 18) (v := 1) dX12_wrong_17 rfl (by decide) ?_
        refine tj_goto (q := 22) dX12_wrong_18 (by decide) ?_
        refine tj_lv [0] rfl ?_
        exact hk3 (1 : Int32)
      · refine tj_iload_n (q := 22) dX12_wrong_21 rfl (i := 1) rfl (pl := 1) rfl ?_
        refine tj_lv [0] rfl ?_
        exact hk3 p1
  · exact tj_vret rfl rfl (Nat.le_of_ble_eq_true rfl) (Nat.le_of_ble_eq_true rfl) dX12_wrong_7

theorem dX12_isWord_0 : decode cX12_isWord 0 = .ok (.aload_n 0, 1) := by decide +kernel
theorem dX12_isWord_1 : decode cX12_isWord 1 = .ok (.getfield 190, 3) := by decide +kernel
theorem dX12_isWord_4 : decode cX12_isWord 4 = .ok (.iconst 1, 1) := by decide +kernel
theorem dX12_isWord_5 : decode cX12_isWord 5 = .ok (.if_icmp .ne 16, 3) := by decide +kernel
theorem dX12_isWord_8 : decode cX12_isWord 8 = .ok (.aload_n 0, 1) := by decide +kernel
theorem dX12_isWord_9 : decode cX12_isWord 9 = .ok (.getfield 183, 3) := by decide +kernel
theorem dX12_isWord_12 : decode cX12_isWord 12 = .ok (.lload_n 1, 1) := by decide +kernel
theorem dX12_isWord_13 : decode cX12_isWord 13 = .ok (.lcmp, 1) := by decide +kernel
theorem dX12_isWord_14 : decode cX12_isWord 14 = .ok (.ifCond .ne 7, 3) := by decide +kernel
theorem dX12_isWord_17 : decode cX12_isWord 17 = .ok (.iconst 1, 1) := by decide +kernel
theorem dX12_isWord_18 : decode cX12_isWord 18 = .ok (.goto 4, 3) := by decide +kernel
theorem dX12_isWord_21 : decode cX12_isWord 21 = .ok (.iconst 0, 1) := by decide +kernel
theorem dX12_isWord_22 : decode cX12_isWord 22 = .ok (.ireturn, 1) := by decide +kernel
def mX12_isWord (t : Nat) (p1 : Int64) (σ : St_) : Option Bool :=
 (if (σ.1 t 6) = (1 : Int32) then
 (if (lg_cmp (σ.2 t 9) p1) = 0 then
 (some true)
 else (some false))
 else (some false))
set_option maxHeartbeats 4000000 in
theorem rX12_isWord (t : Nat) (p1 : Int64) (hT : LY12 sh P t) : Rj l D cA h0 ad yX12_isWord cX12_isWord 3 (some .boolean) false 2 0 0 (fun b => (some (.int (b2i b)), sh, P, σ)) [.ref (h0 + t), .long p1] sh P σ (mX12_isWord t p1 σ) := by
  rw [mX12_isWord]
  refine Rj.of (by decide) (fun h => by cases h) (Nat.le_of_ble_eq_true rfl) ?_
  refine tj_lv0 (lv' := [(0, .ref (h0 + t)), (1, .long p1)]) rfl ?_
  refine tj_aload_n (q := 1) dX12_isWord_0 rfl (i := 0) rfl (pl := 0) rfl ?_
  refine tj_getI (q := 4) (hT).s fok_12_6 wl_RX12_190 dX12_isWord_1 rfl ?_
  refine tj_iconst (q := 5) (v := 1) dX12_isWord_4 rfl (by decide) ?_
  refine tj_icmp_ne (tgt := 21) (q := 8) dX12_isWord_5 (by decide) rfl ?_ ?_
  · refine tj_aload_n (q := 9) dX12_isWord_8 rfl (i := 0) rfl (pl := 0) rfl ?_
    refine tj_getL (q := 12) (hT).s fok_12_9 wl_RX12_183 dX12_isWord_9 rfl ?_
    refine tj_lload_n (q := 13) dX12_isWord_12 rfl (i := 1) rfl (pl := 1) rfl ?_
    refine tj_lcmp (q := 14) dX12_isWord_13 rfl ?_
    refine tj_if_ne (tgt := 21) (q := 17) dX12_isWord_14 (by decide) rfl ?_ ?_
    · refine tj_iconst (q := 18) (v := 1) dX12_isWord_17 rfl (by decide) ?_
      refine tj_goto (q := 22) dX12_isWord_18 (by decide) ?_
      exact tj_zret rfl (by decide) rfl (Nat.le_of_ble_eq_true rfl) (Nat.le_of_ble_eq_true rfl) dX12_isWord_22
    · refine tj_iconst (q := 22) (v := 0) dX12_isWord_21 rfl (by decide) ?_
      exact tj_zret rfl (by decide) rfl (Nat.le_of_ble_eq_true rfl) (Nat.le_of_ble_eq_true rfl) dX12_isWord_22
  · refine tj_iconst (q := 22) (v := 0) dX12_isWord_21 rfl (by decide) ?_
    exact tj_zret rfl (by decide) rfl (Nat.le_of_ble_eq_true rfl) (Nat.le_of_ble_eq_true rfl) dX12_isWord_22

theorem dX12_isOwn_0 : decode cX12_isOwn 0 = .ok (.aload_n 0, 1) := by decide +kernel
theorem dX12_isOwn_1 : decode cX12_isOwn 1 = .ok (.getfield 183, 3) := by decide +kernel
theorem dX12_isOwn_4 : decode cX12_isOwn 4 = .ok (.ldc2_w 206, 3) := by decide +kernel
theorem dX12_isOwn_7 : decode cX12_isOwn 7 = .ok (.lcmp, 1) := by decide +kernel
theorem dX12_isOwn_8 : decode cX12_isOwn 8 = .ok (.ifCond .eq 267, 3) := by decide +kernel
theorem dX12_isOwn_11 : decode cX12_isOwn 11 = .ok (.aload_n 0, 1) := by decide +kernel
theorem dX12_isOwn_12 : decode cX12_isOwn 12 = .ok (.getfield 183, 3) := by decide +kernel
theorem dX12_isOwn_15 : decode cX12_isOwn 15 = .ok (.ldc2_w 208, 3) := by decide +kernel
theorem dX12_isOwn_18 : decode cX12_isOwn 18 = .ok (.lcmp, 1) := by decide +kernel
theorem dX12_isOwn_19 : decode cX12_isOwn 19 = .ok (.ifCond .eq 256, 3) := by decide +kernel
theorem dX12_isOwn_22 : decode cX12_isOwn 22 = .ok (.aload_n 0, 1) := by decide +kernel
theorem dX12_isOwn_23 : decode cX12_isOwn 23 = .ok (.getfield 183, 3) := by decide +kernel
theorem dX12_isOwn_26 : decode cX12_isOwn 26 = .ok (.ldc2_w 210, 3) := by decide +kernel
theorem dX12_isOwn_29 : decode cX12_isOwn 29 = .ok (.lcmp, 1) := by decide +kernel
theorem dX12_isOwn_30 : decode cX12_isOwn 30 = .ok (.ifCond .eq 245, 3) := by decide +kernel
theorem dX12_isOwn_33 : decode cX12_isOwn 33 = .ok (.aload_n 0, 1) := by decide +kernel
theorem dX12_isOwn_34 : decode cX12_isOwn 34 = .ok (.getfield 183, 3) := by decide +kernel
theorem dX12_isOwn_37 : decode cX12_isOwn 37 = .ok (.ldc2_w 212, 3) := by decide +kernel
theorem dX12_isOwn_40 : decode cX12_isOwn 40 = .ok (.lcmp, 1) := by decide +kernel
theorem dX12_isOwn_41 : decode cX12_isOwn 41 = .ok (.ifCond .eq 234, 3) := by decide +kernel
theorem dX12_isOwn_44 : decode cX12_isOwn 44 = .ok (.aload_n 0, 1) := by decide +kernel
theorem dX12_isOwn_45 : decode cX12_isOwn 45 = .ok (.getfield 183, 3) := by decide +kernel
theorem dX12_isOwn_48 : decode cX12_isOwn 48 = .ok (.ldc2_w 214, 3) := by decide +kernel
theorem dX12_isOwn_51 : decode cX12_isOwn 51 = .ok (.lcmp, 1) := by decide +kernel
theorem dX12_isOwn_52 : decode cX12_isOwn 52 = .ok (.ifCond .eq 223, 3) := by decide +kernel
theorem dX12_isOwn_55 : decode cX12_isOwn 55 = .ok (.aload_n 0, 1) := by decide +kernel
theorem dX12_isOwn_56 : decode cX12_isOwn 56 = .ok (.getfield 183, 3) := by decide +kernel
theorem dX12_isOwn_59 : decode cX12_isOwn 59 = .ok (.ldc2_w 216, 3) := by decide +kernel
theorem dX12_isOwn_62 : decode cX12_isOwn 62 = .ok (.lcmp, 1) := by decide +kernel
theorem dX12_isOwn_63 : decode cX12_isOwn 63 = .ok (.ifCond .eq 212, 3) := by decide +kernel
theorem dX12_isOwn_66 : decode cX12_isOwn 66 = .ok (.aload_n 0, 1) := by decide +kernel
theorem dX12_isOwn_67 : decode cX12_isOwn 67 = .ok (.getfield 183, 3) := by decide +kernel
theorem dX12_isOwn_70 : decode cX12_isOwn 70 = .ok (.ldc2_w 218, 3) := by decide +kernel
theorem dX12_isOwn_73 : decode cX12_isOwn 73 = .ok (.lcmp, 1) := by decide +kernel
theorem dX12_isOwn_74 : decode cX12_isOwn 74 = .ok (.ifCond .eq 201, 3) := by decide +kernel
theorem dX12_isOwn_77 : decode cX12_isOwn 77 = .ok (.aload_n 0, 1) := by decide +kernel
theorem dX12_isOwn_78 : decode cX12_isOwn 78 = .ok (.getfield 183, 3) := by decide +kernel
theorem dX12_isOwn_81 : decode cX12_isOwn 81 = .ok (.ldc2_w 220, 3) := by decide +kernel
theorem dX12_isOwn_84 : decode cX12_isOwn 84 = .ok (.lcmp, 1) := by decide +kernel
theorem dX12_isOwn_85 : decode cX12_isOwn 85 = .ok (.ifCond .eq 190, 3) := by decide +kernel
theorem dX12_isOwn_88 : decode cX12_isOwn 88 = .ok (.aload_n 0, 1) := by decide +kernel
theorem dX12_isOwn_89 : decode cX12_isOwn 89 = .ok (.getfield 183, 3) := by decide +kernel
theorem dX12_isOwn_92 : decode cX12_isOwn 92 = .ok (.ldc2_w 222, 3) := by decide +kernel
theorem dX12_isOwn_95 : decode cX12_isOwn 95 = .ok (.lcmp, 1) := by decide +kernel
theorem dX12_isOwn_96 : decode cX12_isOwn 96 = .ok (.ifCond .eq 179, 3) := by decide +kernel
theorem dX12_isOwn_99 : decode cX12_isOwn 99 = .ok (.aload_n 0, 1) := by decide +kernel
theorem dX12_isOwn_100 : decode cX12_isOwn 100 = .ok (.getfield 183, 3) := by decide +kernel
theorem dX12_isOwn_103 : decode cX12_isOwn 103 = .ok (.ldc2_w 224, 3) := by decide +kernel
theorem dX12_isOwn_106 : decode cX12_isOwn 106 = .ok (.lcmp, 1) := by decide +kernel
theorem dX12_isOwn_107 : decode cX12_isOwn 107 = .ok (.ifCond .eq 168, 3) := by decide +kernel
theorem dX12_isOwn_110 : decode cX12_isOwn 110 = .ok (.aload_n 0, 1) := by decide +kernel
theorem dX12_isOwn_111 : decode cX12_isOwn 111 = .ok (.getfield 183, 3) := by decide +kernel
theorem dX12_isOwn_114 : decode cX12_isOwn 114 = .ok (.ldc2_w 226, 3) := by decide +kernel
theorem dX12_isOwn_117 : decode cX12_isOwn 117 = .ok (.lcmp, 1) := by decide +kernel
theorem dX12_isOwn_118 : decode cX12_isOwn 118 = .ok (.ifCond .eq 157, 3) := by decide +kernel
theorem dX12_isOwn_121 : decode cX12_isOwn 121 = .ok (.aload_n 0, 1) := by decide +kernel
theorem dX12_isOwn_122 : decode cX12_isOwn 122 = .ok (.getfield 183, 3) := by decide +kernel
theorem dX12_isOwn_125 : decode cX12_isOwn 125 = .ok (.ldc2_w 228, 3) := by decide +kernel
theorem dX12_isOwn_128 : decode cX12_isOwn 128 = .ok (.lcmp, 1) := by decide +kernel
theorem dX12_isOwn_129 : decode cX12_isOwn 129 = .ok (.ifCond .eq 146, 3) := by decide +kernel
theorem dX12_isOwn_132 : decode cX12_isOwn 132 = .ok (.aload_n 0, 1) := by decide +kernel
theorem dX12_isOwn_133 : decode cX12_isOwn 133 = .ok (.getfield 183, 3) := by decide +kernel
theorem dX12_isOwn_136 : decode cX12_isOwn 136 = .ok (.ldc2_w 230, 3) := by decide +kernel
theorem dX12_isOwn_139 : decode cX12_isOwn 139 = .ok (.lcmp, 1) := by decide +kernel
theorem dX12_isOwn_140 : decode cX12_isOwn 140 = .ok (.ifCond .eq 135, 3) := by decide +kernel
theorem dX12_isOwn_143 : decode cX12_isOwn 143 = .ok (.aload_n 0, 1) := by decide +kernel
theorem dX12_isOwn_144 : decode cX12_isOwn 144 = .ok (.getfield 183, 3) := by decide +kernel
theorem dX12_isOwn_147 : decode cX12_isOwn 147 = .ok (.ldc2_w 232, 3) := by decide +kernel
theorem dX12_isOwn_150 : decode cX12_isOwn 150 = .ok (.lcmp, 1) := by decide +kernel
theorem dX12_isOwn_151 : decode cX12_isOwn 151 = .ok (.ifCond .eq 124, 3) := by decide +kernel
theorem dX12_isOwn_154 : decode cX12_isOwn 154 = .ok (.aload_n 0, 1) := by decide +kernel
theorem dX12_isOwn_155 : decode cX12_isOwn 155 = .ok (.getfield 183, 3) := by decide +kernel
theorem dX12_isOwn_158 : decode cX12_isOwn 158 = .ok (.ldc2_w 234, 3) := by decide +kernel
theorem dX12_isOwn_161 : decode cX12_isOwn 161 = .ok (.lcmp, 1) := by decide +kernel
theorem dX12_isOwn_162 : decode cX12_isOwn 162 = .ok (.ifCond .eq 113, 3) := by decide +kernel
theorem dX12_isOwn_165 : decode cX12_isOwn 165 = .ok (.aload_n 0, 1) := by decide +kernel
theorem dX12_isOwn_166 : decode cX12_isOwn 166 = .ok (.getfield 183, 3) := by decide +kernel
theorem dX12_isOwn_169 : decode cX12_isOwn 169 = .ok (.ldc2_w 236, 3) := by decide +kernel
theorem dX12_isOwn_172 : decode cX12_isOwn 172 = .ok (.lcmp, 1) := by decide +kernel
theorem dX12_isOwn_173 : decode cX12_isOwn 173 = .ok (.ifCond .eq 102, 3) := by decide +kernel
theorem dX12_isOwn_176 : decode cX12_isOwn 176 = .ok (.aload_n 0, 1) := by decide +kernel
theorem dX12_isOwn_177 : decode cX12_isOwn 177 = .ok (.getfield 183, 3) := by decide +kernel
theorem dX12_isOwn_180 : decode cX12_isOwn 180 = .ok (.ldc2_w 238, 3) := by decide +kernel
theorem dX12_isOwn_183 : decode cX12_isOwn 183 = .ok (.lcmp, 1) := by decide +kernel
theorem dX12_isOwn_184 : decode cX12_isOwn 184 = .ok (.ifCond .eq 91, 3) := by decide +kernel
theorem dX12_isOwn_187 : decode cX12_isOwn 187 = .ok (.aload_n 0, 1) := by decide +kernel
theorem dX12_isOwn_188 : decode cX12_isOwn 188 = .ok (.getfield 183, 3) := by decide +kernel
theorem dX12_isOwn_191 : decode cX12_isOwn 191 = .ok (.ldc2_w 240, 3) := by decide +kernel
theorem dX12_isOwn_194 : decode cX12_isOwn 194 = .ok (.lcmp, 1) := by decide +kernel
theorem dX12_isOwn_195 : decode cX12_isOwn 195 = .ok (.ifCond .eq 80, 3) := by decide +kernel
theorem dX12_isOwn_198 : decode cX12_isOwn 198 = .ok (.aload_n 0, 1) := by decide +kernel
theorem dX12_isOwn_199 : decode cX12_isOwn 199 = .ok (.getfield 183, 3) := by decide +kernel
theorem dX12_isOwn_202 : decode cX12_isOwn 202 = .ok (.ldc2_w 242, 3) := by decide +kernel
theorem dX12_isOwn_205 : decode cX12_isOwn 205 = .ok (.lcmp, 1) := by decide +kernel
theorem dX12_isOwn_206 : decode cX12_isOwn 206 = .ok (.ifCond .eq 69, 3) := by decide +kernel
theorem dX12_isOwn_209 : decode cX12_isOwn 209 = .ok (.aload_n 0, 1) := by decide +kernel
theorem dX12_isOwn_210 : decode cX12_isOwn 210 = .ok (.getfield 183, 3) := by decide +kernel
theorem dX12_isOwn_213 : decode cX12_isOwn 213 = .ok (.ldc2_w 244, 3) := by decide +kernel
theorem dX12_isOwn_216 : decode cX12_isOwn 216 = .ok (.lcmp, 1) := by decide +kernel
theorem dX12_isOwn_217 : decode cX12_isOwn 217 = .ok (.ifCond .eq 58, 3) := by decide +kernel
theorem dX12_isOwn_220 : decode cX12_isOwn 220 = .ok (.aload_n 0, 1) := by decide +kernel
theorem dX12_isOwn_221 : decode cX12_isOwn 221 = .ok (.getfield 183, 3) := by decide +kernel
theorem dX12_isOwn_224 : decode cX12_isOwn 224 = .ok (.ldc2_w 246, 3) := by decide +kernel
theorem dX12_isOwn_227 : decode cX12_isOwn 227 = .ok (.lcmp, 1) := by decide +kernel
theorem dX12_isOwn_228 : decode cX12_isOwn 228 = .ok (.ifCond .eq 47, 3) := by decide +kernel
theorem dX12_isOwn_231 : decode cX12_isOwn 231 = .ok (.aload_n 0, 1) := by decide +kernel
theorem dX12_isOwn_232 : decode cX12_isOwn 232 = .ok (.getfield 183, 3) := by decide +kernel
theorem dX12_isOwn_235 : decode cX12_isOwn 235 = .ok (.ldc2_w 248, 3) := by decide +kernel
theorem dX12_isOwn_238 : decode cX12_isOwn 238 = .ok (.lcmp, 1) := by decide +kernel
theorem dX12_isOwn_239 : decode cX12_isOwn 239 = .ok (.ifCond .eq 36, 3) := by decide +kernel
theorem dX12_isOwn_242 : decode cX12_isOwn 242 = .ok (.aload_n 0, 1) := by decide +kernel
theorem dX12_isOwn_243 : decode cX12_isOwn 243 = .ok (.getfield 183, 3) := by decide +kernel
theorem dX12_isOwn_246 : decode cX12_isOwn 246 = .ok (.ldc2_w 250, 3) := by decide +kernel
theorem dX12_isOwn_249 : decode cX12_isOwn 249 = .ok (.lcmp, 1) := by decide +kernel
theorem dX12_isOwn_250 : decode cX12_isOwn 250 = .ok (.ifCond .eq 25, 3) := by decide +kernel
theorem dX12_isOwn_253 : decode cX12_isOwn 253 = .ok (.aload_n 0, 1) := by decide +kernel
theorem dX12_isOwn_254 : decode cX12_isOwn 254 = .ok (.getfield 183, 3) := by decide +kernel
theorem dX12_isOwn_257 : decode cX12_isOwn 257 = .ok (.ldc2_w 252, 3) := by decide +kernel
theorem dX12_isOwn_260 : decode cX12_isOwn 260 = .ok (.lcmp, 1) := by decide +kernel
theorem dX12_isOwn_261 : decode cX12_isOwn 261 = .ok (.ifCond .eq 14, 3) := by decide +kernel
theorem dX12_isOwn_264 : decode cX12_isOwn 264 = .ok (.aload_n 0, 1) := by decide +kernel
theorem dX12_isOwn_265 : decode cX12_isOwn 265 = .ok (.getfield 183, 3) := by decide +kernel
theorem dX12_isOwn_268 : decode cX12_isOwn 268 = .ok (.ldc2_w 254, 3) := by decide +kernel
theorem dX12_isOwn_271 : decode cX12_isOwn 271 = .ok (.lcmp, 1) := by decide +kernel
theorem dX12_isOwn_272 : decode cX12_isOwn 272 = .ok (.ifCond .ne 7, 3) := by decide +kernel
theorem dX12_isOwn_275 : decode cX12_isOwn 275 = .ok (.iconst 1, 1) := by decide +kernel
theorem dX12_isOwn_276 : decode cX12_isOwn 276 = .ok (.goto 4, 3) := by decide +kernel
theorem dX12_isOwn_279 : decode cX12_isOwn 279 = .ok (.iconst 0, 1) := by decide +kernel
theorem dX12_isOwn_280 : decode cX12_isOwn 280 = .ok (.ireturn, 1) := by decide +kernel
theorem wc_RX12_206 : Cond.constantLong RX12 206 1802071652 ∈ TB := tbm 1751 (by decide +kernel) (by decide +kernel)
theorem wc_RX12_208 : Cond.constantLong RX12 208 499967946343 ∈ TB := tbm 1768 (by decide +kernel) (by decide +kernel)
theorem wc_RX12_210 : Cond.constantLong RX12 210 28518 ∈ TB := tbm 1769 (by decide +kernel) (by decide +kernel)
theorem wc_RX12_212 : Cond.constantLong RX12 212 131277443786868 ∈ TB := tbm 1770 (by decide +kernel) (by decide +kernel)
theorem wc_RX12_214 : Cond.constantLong RX12 214 512970880104 ∈ TB := tbm 1771 (by decide +kernel) (by decide +kernel)
theorem wc_RX12_216 : Cond.constantLong RX12 216 448546567013 ∈ TB := tbm 1772 (by decide +kernel) (by decide +kernel)
theorem wc_RX12_218 : Cond.constantLong RX12 218 1819239275 ∈ TB := tbm 1773 (by decide +kernel) (by decide +kernel)
theorem wc_RX12_220 : Cond.constantLong RX12 220 512736125800 ∈ TB := tbm 1774 (by decide +kernel) (by decide +kernel)
theorem wc_RX12_222 : Cond.constantLong RX12 222 6840691 ∈ TB := tbm 1775 (by decide +kernel) (by decide +kernel)
theorem wc_RX12_224 : Cond.constantLong RX12 224 499967944038 ∈ TB := tbm 1776 (by decide +kernel) (by decide +kernel)
theorem wc_RX12_226 : Cond.constantLong RX12 226 1935762283 ∈ TB := tbm 1777 (by decide +kernel) (by decide +kernel)
theorem wc_RX12_228 : Cond.constantLong RX12 228 495723310188 ∈ TB := tbm 1778 (by decide +kernel) (by decide +kernel)
theorem wc_RX12_230 : Cond.constantLong RX12 230 1684365682 ∈ TB := tbm 1779 (by decide +kernel) (by decide +kernel)
theorem wc_RX12_232 : Cond.constantLong RX12 232 29807 ∈ TB := tbm 1780 (by decide +kernel) (by decide +kernel)
theorem wc_RX12_234 : Cond.constantLong RX12 234 7102839 ∈ TB := tbm 1781 (by decide +kernel) (by decide +kernel)
theorem wc_RX12_236 : Cond.constantLong RX12 236 474214787188 ∈ TB := tbm 1730 (by decide +kernel) (by decide +kernel)
theorem wc_RX12_238 : Cond.constantLong RX12 238 499850634606 ∈ TB := tbm 1782 (by decide +kernel) (by decide +kernel)
theorem wc_RX12_240 : Cond.constantLong RX12 240 1818584692 ∈ TB := tbm 1783 (by decide +kernel) (by decide +kernel)
theorem wc_RX12_242 : Cond.constantLong RX12 242 1953460075 ∈ TB := tbm 1784 (by decide +kernel) (by decide +kernel)
theorem wc_RX12_244 : Cond.constantLong RX12 244 1734440549 ∈ TB := tbm 1785 (by decide +kernel) (by decide +kernel)
theorem wc_RX12_246 : Cond.constantLong RX12 246 418430675813 ∈ TB := tbm 1786 (by decide +kernel) (by decide +kernel)
theorem wc_RX12_248 : Cond.constantLong RX12 248 1752135026 ∈ TB := tbm 1787 (by decide +kernel) (by decide +kernel)
theorem wc_RX12_250 : Cond.constantLong RX12 250 6385252 ∈ TB := tbm 1788 (by decide +kernel) (by decide +kernel)
theorem wc_RX12_252 : Cond.constantLong RX12 252 28530 ∈ TB := tbm 1789 (by decide +kernel) (by decide +kernel)
theorem wc_RX12_254 : Cond.constantLong RX12 254 7237492 ∈ TB := tbm 1790 (by decide +kernel) (by decide +kernel)
def mX12_isOwn (t : Nat) (σ : St_) : Option Bool :=
 (if (lg_cmp (σ.2 t 9) (1802071652 : Int64)) = 0 then
 (some true)
 else (if (lg_cmp (σ.2 t 9) (499967946343 : Int64)) = 0 then
 (some true)
 else (if (lg_cmp (σ.2 t 9) (28518 : Int64)) = 0 then
 (some true)
 else (if (lg_cmp (σ.2 t 9) (131277443786868 : Int64)) = 0 then
 (some true)
 else (if (lg_cmp (σ.2 t 9) (512970880104 : Int64)) = 0 then
 (some true)
 else (if (lg_cmp (σ.2 t 9) (448546567013 : Int64)) = 0 then
 (some true)
 else (if (lg_cmp (σ.2 t 9) (1819239275 : Int64)) = 0 then
 (some true)
 else (if (lg_cmp (σ.2 t 9) (512736125800 : Int64)) = 0 then
 (some true)
 else (if (lg_cmp (σ.2 t 9) (6840691 : Int64)) = 0 then
 (some true)
 else (if (lg_cmp (σ.2 t 9) (499967944038 : Int64)) = 0 then
 (some true)
 else (if (lg_cmp (σ.2 t 9) (1935762283 : Int64)) = 0 then
 (some true)
 else (if (lg_cmp (σ.2 t 9) (495723310188 : Int64)) = 0 then
 (some true)
 else (if (lg_cmp (σ.2 t 9) (1684365682 : Int64)) = 0 then
 (some true)
 else (if (lg_cmp (σ.2 t 9) (29807 : Int64)) = 0 then
 (some true)
 else (if (lg_cmp (σ.2 t 9) (7102839 : Int64)) = 0 then
 (some true)
 else (if (lg_cmp (σ.2 t 9) (474214787188 : Int64)) = 0 then
 (some true)
 else (if (lg_cmp (σ.2 t 9) (499850634606 : Int64)) = 0 then
 (some true)
 else (if (lg_cmp (σ.2 t 9) (1818584692 : Int64)) = 0 then
 (some true)
 else (if (lg_cmp (σ.2 t 9) (1953460075 : Int64)) = 0 then
 (some true)
 else (if (lg_cmp (σ.2 t 9) (1734440549 : Int64)) = 0 then
 (some true)
 else (if (lg_cmp (σ.2 t 9) (418430675813 : Int64)) = 0 then
 (some true)
 else (if (lg_cmp (σ.2 t 9) (1752135026 : Int64)) = 0 then
 (some true)
 else (if (lg_cmp (σ.2 t 9) (6385252 : Int64)) = 0 then
 (some true)
 else (if (lg_cmp (σ.2 t 9) (28530 : Int64)) = 0 then
 (some true)
 else (if (lg_cmp (σ.2 t 9) (7237492 : Int64)) = 0 then
 (some true)
 else (some false))))))))))))))))))))))))))
set_option maxHeartbeats 4000000 in
theorem rX12_isOwn (t : Nat) (hT : LY12 sh P t) : Rj l D cA h0 ad yX12_isOwn cX12_isOwn 1 (some .boolean) false 2 0 0 (fun b => (some (.int (b2i b)), sh, P, σ)) [.ref (h0 + t)] sh P σ (mX12_isOwn t σ) := by
  rw [mX12_isOwn]
  refine Rj.of (by decide) (fun h => by cases h) (Nat.le_of_ble_eq_true rfl) ?_
  refine tj_lv0 (lv' := [(0, .ref (h0 + t))]) rfl ?_
  refine tj_aload_n (q := 1) dX12_isOwn_0 rfl (i := 0) rfl (pl := 0) rfl ?_
  refine tj_getL (q := 4) (hT).s fok_12_9 wl_RX12_183 dX12_isOwn_1 rfl ?_
  refine tj_ldc2 (q := 7) (v := 1802071652) dX12_isOwn_4 rfl wc_RX12_206 ?_
  refine tj_lcmp (q := 8) dX12_isOwn_7 rfl ?_
  refine tj_if_eq (tgt := 275) (q := 11) dX12_isOwn_8 (by decide) rfl ?_ ?_
  · refine tj_iconst (q := 276) (v := 1) dX12_isOwn_275 rfl (by decide) ?_
    refine tj_goto (q := 280) dX12_isOwn_276 (by decide) ?_
    exact tj_zret rfl (by decide) rfl (Nat.le_of_ble_eq_true rfl) (Nat.le_of_ble_eq_true rfl) dX12_isOwn_280
  · refine tj_aload_n (q := 12) dX12_isOwn_11 rfl (i := 0) rfl (pl := 0) rfl ?_
    refine tj_getL (q := 15) (hT).s fok_12_9 wl_RX12_183 dX12_isOwn_12 rfl ?_
    refine tj_ldc2 (q := 18) (v := 499967946343) dX12_isOwn_15 rfl wc_RX12_208 ?_
    refine tj_lcmp (q := 19) dX12_isOwn_18 rfl ?_
    refine tj_if_eq (tgt := 275) (q := 22) dX12_isOwn_19 (by decide) rfl ?_ ?_
    · refine tj_iconst (q := 276) (v := 1) dX12_isOwn_275 rfl (by decide) ?_
      refine tj_goto (q := 280) dX12_isOwn_276 (by decide) ?_
      exact tj_zret rfl (by decide) rfl (Nat.le_of_ble_eq_true rfl) (Nat.le_of_ble_eq_true rfl) dX12_isOwn_280
    · refine tj_aload_n (q := 23) dX12_isOwn_22 rfl (i := 0) rfl (pl := 0) rfl ?_
      refine tj_getL (q := 26) (hT).s fok_12_9 wl_RX12_183 dX12_isOwn_23 rfl ?_
      refine tj_ldc2 (q := 29) (v := 28518) dX12_isOwn_26 rfl wc_RX12_210 ?_
      refine tj_lcmp (q := 30) dX12_isOwn_29 rfl ?_
      refine tj_if_eq (tgt := 275) (q := 33) dX12_isOwn_30 (by decide) rfl ?_ ?_
      · refine tj_iconst (q := 276) (v := 1) dX12_isOwn_275 rfl (by decide) ?_
        refine tj_goto (q := 280) dX12_isOwn_276 (by decide) ?_
        exact tj_zret rfl (by decide) rfl (Nat.le_of_ble_eq_true rfl) (Nat.le_of_ble_eq_true rfl) dX12_isOwn_280
      · refine tj_aload_n (q := 34) dX12_isOwn_33 rfl (i := 0) rfl (pl := 0) rfl ?_
        refine tj_getL (q := 37) (hT).s fok_12_9 wl_RX12_183 dX12_isOwn_34 rfl ?_
        refine tj_ldc2 (q := 40) (v := 131277443786868) dX12_isOwn_37 rfl wc_RX12_212 ?_
        refine tj_lcmp (q := 41) dX12_isOwn_40 rfl ?_
        refine tj_if_eq (tgt := 275) (q := 44) dX12_isOwn_41 (by decide) rfl ?_ ?_
        · refine tj_iconst (q := 276) (v := 1) dX12_isOwn_275 rfl (by decide) ?_
          refine tj_goto (q := 280) dX12_isOwn_276 (by decide) ?_
          exact tj_zret rfl (by decide) rfl (Nat.le_of_ble_eq_true rfl) (Nat.le_of_ble_eq_true rfl) dX12_isOwn_280
        · refine tj_aload_n (q := 45) dX12_isOwn_44 rfl (i := 0) rfl (pl := 0) rfl ?_
          refine tj_getL (q := 48) (hT).s fok_12_9 wl_RX12_183 dX12_isOwn_45 rfl ?_
          refine tj_ldc2 (q := 51) (v := 512970880104) dX12_isOwn_48 rfl wc_RX12_214 ?_
          refine tj_lcmp (q := 52) dX12_isOwn_51 rfl ?_
          refine tj_if_eq (tgt := 275) (q := 55) dX12_isOwn_52 (by decide) rfl ?_ ?_
          · refine tj_iconst (q := 276) (v := 1) dX12_isOwn_275 rfl (by decide) ?_
            refine tj_goto (q := 280) dX12_isOwn_276 (by decide) ?_
            exact tj_zret rfl (by decide) rfl (Nat.le_of_ble_eq_true rfl) (Nat.le_of_ble_eq_true rfl) dX12_isOwn_280
          · refine tj_aload_n (q := 56) dX12_isOwn_55 rfl (i := 0) rfl (pl := 0) rfl ?_
            refine tj_getL (q := 59) (hT).s fok_12_9 wl_RX12_183 dX12_isOwn_56 rfl ?_
            refine tj_ldc2 (q := 62) (v := 448546567013) dX12_isOwn_59 rfl wc_RX12_216 ?_
            refine tj_lcmp (q := 63) dX12_isOwn_62 rfl ?_
            refine tj_if_eq (tgt := 275) (q := 66) dX12_isOwn_63 (by decide) rfl ?_ ?_
            · refine tj_iconst (q := 276) (v := 1) dX12_isOwn_275 rfl (by decide) ?_
              refine tj_goto (q := 280) dX12_isOwn_276 (by decide) ?_
              exact tj_zret rfl (by decide) rfl (Nat.le_of_ble_eq_true rfl) (Nat.le_of_ble_eq_true rfl) dX12_isOwn_280
            · refine tj_aload_n (q := 67) dX12_isOwn_66 rfl (i := 0) rfl (pl := 0) rfl ?_
              refine tj_getL (q := 70) (hT).s fok_12_9 wl_RX12_183 dX12_isOwn_67 rfl ?_
              refine tj_ldc2 (q := 73) (v := 1819239275) dX12_isOwn_70 rfl wc_RX12_218 ?_
              refine tj_lcmp (q := 74) dX12_isOwn_73 rfl ?_
              refine tj_if_eq (tgt := 275) (q := 77) dX12_isOwn_74 (by decide) rfl ?_ ?_
              · refine tj_iconst (q := 276) (v := 1) dX12_isOwn_275 rfl (by decide) ?_
                refine tj_goto (q := 280) dX12_isOwn_276 (by decide) ?_
                exact tj_zret rfl (by decide) rfl (Nat.le_of_ble_eq_true rfl) (Nat.le_of_ble_eq_true rfl) dX12_isOwn_280
              · refine tj_aload_n (q := 78) dX12_isOwn_77 rfl (i := 0) rfl (pl := 0) rfl ?_
                refine tj_getL (q := 81) (hT).s fok_12_9 wl_RX12_183 dX12_isOwn_78 rfl ?_
                refine tj_ldc2 (q := 84) (v := 512736125800) dX12_isOwn_81 rfl wc_RX12_220 ?_
                refine tj_lcmp (q := 85) dX12_isOwn_84 rfl ?_
                refine tj_if_eq (tgt := 275) (q := 88) dX12_isOwn_85 (by decide) rfl ?_ ?_
                · refine tj_iconst (q := 276) (v := 1) dX12_isOwn_275 rfl (by decide) ?_
                  refine tj_goto (q := 280) dX12_isOwn_276 (by decide) ?_
                  exact tj_zret rfl (by decide) rfl (Nat.le_of_ble_eq_true rfl) (Nat.le_of_ble_eq_true rfl) dX12_isOwn_280
                · refine tj_aload_n (q := 89) dX12_isOwn_88 rfl (i := 0) rfl (pl := 0) rfl ?_
                  refine tj_getL (q := 92) (hT).s fok_12_9 wl_RX12_183 dX12_isOwn_89 rfl ?_
                  refine tj_ldc2 (q := 95) (v := 6840691) dX12_isOwn_92 rfl wc_RX12_222 ?_
                  refine tj_lcmp (q := 96) dX12_isOwn_95 rfl ?_
                  refine tj_if_eq (tgt := 275) (q := 99) dX12_isOwn_96 (by decide) rfl ?_ ?_
                  · refine tj_iconst (q := 276) (v := 1) dX12_isOwn_275 rfl (by decide) ?_
                    refine tj_goto (q := 280) dX12_isOwn_276 (by decide) ?_
                    exact tj_zret rfl (by decide) rfl (Nat.le_of_ble_eq_true rfl) (Nat.le_of_ble_eq_true rfl) dX12_isOwn_280
                  · refine tj_aload_n (q := 100) dX12_isOwn_99 rfl (i := 0) rfl (pl := 0) rfl ?_
                    refine tj_getL (q := 103) (hT).s fok_12_9 wl_RX12_183 dX12_isOwn_100 rfl ?_
                    refine tj_ldc2 (q := 106) (v := 499967944038) dX12_isOwn_103 rfl wc_RX12_224 ?_
                    refine tj_lcmp (q := 107) dX12_isOwn_106 rfl ?_
                    refine tj_if_eq (tgt := 275) (q := 110) dX12_isOwn_107 (by decide) rfl ?_ ?_
                    · refine tj_iconst (q := 276) (v := 1) dX12_isOwn_275 rfl (by decide) ?_
                      refine tj_goto (q := 280) dX12_isOwn_276 (by decide) ?_
                      exact tj_zret rfl (by decide) rfl (Nat.le_of_ble_eq_true rfl) (Nat.le_of_ble_eq_true rfl) dX12_isOwn_280
                    · refine tj_aload_n (q := 111) dX12_isOwn_110 rfl (i := 0) rfl (pl := 0) rfl ?_
                      refine tj_getL (q := 114) (hT).s fok_12_9 wl_RX12_183 dX12_isOwn_111 rfl ?_
                      refine tj_ldc2 (q := 117) (v := 1935762283) dX12_isOwn_114 rfl wc_RX12_226 ?_
                      refine tj_lcmp (q := 118) dX12_isOwn_117 rfl ?_
                      refine tj_if_eq (tgt := 275) (q := 121) dX12_isOwn_118 (by decide) rfl ?_ ?_
                      · refine tj_iconst (q := 276) (v := 1) dX12_isOwn_275 rfl (by decide) ?_
                        refine tj_goto (q := 280) dX12_isOwn_276 (by decide) ?_
                        exact tj_zret rfl (by decide) rfl (Nat.le_of_ble_eq_true rfl) (Nat.le_of_ble_eq_true rfl) dX12_isOwn_280
                      · refine tj_aload_n (q := 122) dX12_isOwn_121 rfl (i := 0) rfl (pl := 0) rfl ?_
                        refine tj_getL (q := 125) (hT).s fok_12_9 wl_RX12_183 dX12_isOwn_122 rfl ?_
                        refine tj_ldc2 (q := 128) (v := 495723310188) dX12_isOwn_125 rfl wc_RX12_228 ?_
                        refine tj_lcmp (q := 129) dX12_isOwn_128 rfl ?_
                        refine tj_if_eq (tgt := 275) (q := 132) dX12_isOwn_129 (by decide) rfl ?_ ?_
                        · refine tj_iconst (q := 276) (v := 1) dX12_isOwn_275 rfl (by decide) ?_
                          refine tj_goto (q := 280) dX12_isOwn_276 (by decide) ?_
                          exact tj_zret rfl (by decide) rfl (Nat.le_of_ble_eq_true rfl) (Nat.le_of_ble_eq_true rfl) dX12_isOwn_280
                        · refine tj_aload_n (q := 133) dX12_isOwn_132 rfl (i := 0) rfl (pl := 0) rfl ?_
                          refine tj_getL (q := 136) (hT).s fok_12_9 wl_RX12_183 dX12_isOwn_133 rfl ?_
                          refine tj_ldc2 (q := 139) (v := 1684365682) dX12_isOwn_136 rfl wc_RX12_230 ?_
                          refine tj_lcmp (q := 140) dX12_isOwn_139 rfl ?_
                          refine tj_if_eq (tgt := 275) (q := 143) dX12_isOwn_140 (by decide) rfl ?_ ?_
                          · refine tj_iconst (q := 276) (v := 1) dX12_isOwn_275 rfl (by decide) ?_
                            refine tj_goto (q := 280) dX12_isOwn_276 (by decide) ?_
                            exact tj_zret rfl (by decide) rfl (Nat.le_of_ble_eq_true rfl) (Nat.le_of_ble_eq_true rfl) dX12_isOwn_280
                          · refine tj_aload_n (q := 144) dX12_isOwn_143 rfl (i := 0) rfl (pl := 0) rfl ?_
                            refine tj_getL (q := 147) (hT).s fok_12_9 wl_RX12_183 dX12_isOwn_144 rfl ?_
                            refine tj_ldc2 (q := 150) (v := 29807) dX12_isOwn_147 rfl wc_RX12_232 ?_
                            refine tj_lcmp (q := 151) dX12_isOwn_150 rfl ?_
                            refine tj_if_eq (tgt := 275) (q := 154) dX12_isOwn_151 (by decide) rfl ?_ ?_
                            · refine tj_iconst (q := 276) (v := 1) dX12_isOwn_275 rfl (by decide) ?_
                              refine tj_goto (q := 280) dX12_isOwn_276 (by decide) ?_
                              exact tj_zret rfl (by decide) rfl (Nat.le_of_ble_eq_true rfl) (Nat.le_of_ble_eq_true rfl) dX12_isOwn_280
                            · refine tj_aload_n (q := 155) dX12_isOwn_154 rfl (i := 0) rfl (pl := 0) rfl ?_
                              refine tj_getL (q := 158) (hT).s fok_12_9 wl_RX12_183 dX12_isOwn_155 rfl ?_
                              refine tj_ldc2 (q := 161) (v := 7102839) dX12_isOwn_158 rfl wc_RX12_234 ?_
                              refine tj_lcmp (q := 162) dX12_isOwn_161 rfl ?_
                              refine tj_if_eq (tgt := 275) (q := 165) dX12_isOwn_162 (by decide) rfl ?_ ?_
                              · refine tj_iconst (q := 276) (v := 1) dX12_isOwn_275 rfl (by decide) ?_
                                refine tj_goto (q := 280) dX12_isOwn_276 (by decide) ?_
                                exact tj_zret rfl (by decide) rfl (Nat.le_of_ble_eq_true rfl) (Nat.le_of_ble_eq_true rfl) dX12_isOwn_280
                              · refine tj_aload_n (q := 166) dX12_isOwn_165 rfl (i := 0) rfl (pl := 0) rfl ?_
                                refine tj_getL (q := 169) (hT).s fok_12_9 wl_RX12_183 dX12_isOwn_166 rfl ?_
                                refine tj_ldc2 (q := 172) (v := 474214787188) dX12_isOwn_169 rfl wc_RX12_236 ?_
                                refine tj_lcmp (q := 173) dX12_isOwn_172 rfl ?_
                                refine tj_if_eq (tgt := 275) (q := 176) dX12_isOwn_173 (by decide) rfl ?_ ?_
                                · refine tj_iconst (q := 276) (v := 1) dX12_isOwn_275 rfl (by decide) ?_
                                  refine tj_goto (q := 280) dX12_isOwn_276 (by decide) ?_
                                  exact tj_zret rfl (by decide) rfl (Nat.le_of_ble_eq_true rfl) (Nat.le_of_ble_eq_true rfl) dX12_isOwn_280
                                · refine tj_aload_n (q := 177) dX12_isOwn_176 rfl (i := 0) rfl (pl := 0) rfl ?_
                                  refine tj_getL (q := 180) (hT).s fok_12_9 wl_RX12_183 dX12_isOwn_177 rfl ?_
                                  refine tj_ldc2 (q := 183) (v := 499850634606) dX12_isOwn_180 rfl wc_RX12_238 ?_
                                  refine tj_lcmp (q := 184) dX12_isOwn_183 rfl ?_
                                  refine tj_if_eq (tgt := 275) (q := 187) dX12_isOwn_184 (by decide) rfl ?_ ?_
                                  · refine tj_iconst (q := 276) (v := 1) dX12_isOwn_275 rfl (by decide) ?_
                                    refine tj_goto (q := 280) dX12_isOwn_276 (by decide) ?_
                                    exact tj_zret rfl (by decide) rfl (Nat.le_of_ble_eq_true rfl) (Nat.le_of_ble_eq_true rfl) dX12_isOwn_280
                                  · refine tj_aload_n (q := 188) dX12_isOwn_187 rfl (i := 0) rfl (pl := 0) rfl ?_
                                    refine tj_getL (q := 191) (hT).s fok_12_9 wl_RX12_183 dX12_isOwn_188 rfl ?_
                                    refine tj_ldc2 (q := 194) (v := 1818584692) dX12_isOwn_191 rfl wc_RX12_240 ?_
                                    refine tj_lcmp (q := 195) dX12_isOwn_194 rfl ?_
                                    refine tj_if_eq (tgt := 275) (q := 198) dX12_isOwn_195 (by decide) rfl ?_ ?_
                                    · refine tj_iconst (q := 276) (v := 1) dX12_isOwn_275 rfl (by decide) ?_
                                      refine tj_goto (q := 280) dX12_isOwn_276 (by decide) ?_
                                      exact tj_zret rfl (by decide) rfl (Nat.le_of_ble_eq_true rfl) (Nat.le_of_ble_eq_true rfl) dX12_isOwn_280
                                    · refine tj_aload_n (q := 199) dX12_isOwn_198 rfl (i := 0) rfl (pl := 0) rfl ?_
                                      refine tj_getL (q := 202) (hT).s fok_12_9 wl_RX12_183 dX12_isOwn_199 rfl ?_
                                      refine tj_ldc2 (q := 205) (v := 1953460075) dX12_isOwn_202 rfl wc_RX12_242 ?_
                                      refine tj_lcmp (q := 206) dX12_isOwn_205 rfl ?_
                                      refine tj_if_eq (tgt := 275) (q := 209) dX12_isOwn_206 (by decide) rfl ?_ ?_
                                      · refine tj_iconst (q := 276) (v := 1) dX12_isOwn_275 rfl (by decide) ?_
                                        refine tj_goto (q := 280) dX12_isOwn_276 (by decide) ?_
                                        exact tj_zret rfl (by decide) rfl (Nat.le_of_ble_eq_true rfl) (Nat.le_of_ble_eq_true rfl) dX12_isOwn_280
                                      · refine tj_aload_n (q := 210) dX12_isOwn_209 rfl (i := 0) rfl (pl := 0) rfl ?_
                                        refine tj_getL (q := 213) (hT).s fok_12_9 wl_RX12_183 dX12_isOwn_210 rfl ?_
                                        refine tj_ldc2 (q := 216) (v := 1734440549) dX12_isOwn_213 rfl wc_RX12_244 ?_
                                        refine tj_lcmp (q := 217) dX12_isOwn_216 rfl ?_
                                        refine tj_if_eq (tgt := 275) (q := 220) dX12_isOwn_217 (by decide) rfl ?_ ?_
                                        · refine tj_iconst (q := 276) (v := 1) dX12_isOwn_275 rfl (by decide) ?_
                                          refine tj_goto (q := 280) dX12_isOwn_276 (by decide) ?_
                                          exact tj_zret rfl (by decide) rfl (Nat.le_of_ble_eq_true rfl) (Nat.le_of_ble_eq_true rfl) dX12_isOwn_280
                                        · refine tj_aload_n (q := 221) dX12_isOwn_220 rfl (i := 0) rfl (pl := 0) rfl ?_
                                          refine tj_getL (q := 224) (hT).s fok_12_9 wl_RX12_183 dX12_isOwn_221 rfl ?_
                                          refine tj_ldc2 (q := 227) (v := 418430675813) dX12_isOwn_224 rfl wc_RX12_246 ?_
                                          refine tj_lcmp (q := 228) dX12_isOwn_227 rfl ?_
                                          refine tj_if_eq (tgt := 275) (q := 231) dX12_isOwn_228 (by decide) rfl ?_ ?_
                                          · refine tj_iconst (q := 276) (v := 1) dX12_isOwn_275 rfl (by decide) ?_
                                            refine tj_goto (q := 280) dX12_isOwn_276 (by decide) ?_
                                            exact tj_zret rfl (by decide) rfl (Nat.le_of_ble_eq_true rfl) (Nat.le_of_ble_eq_true rfl) dX12_isOwn_280
                                          · refine tj_aload_n (q := 232) dX12_isOwn_231 rfl (i := 0) rfl (pl := 0) rfl ?_
                                            refine tj_getL (q := 235) (hT).s fok_12_9 wl_RX12_183 dX12_isOwn_232 rfl ?_
                                            refine tj_ldc2 (q := 238) (v := 1752135026) dX12_isOwn_235 rfl wc_RX12_248 ?_
                                            refine tj_lcmp (q := 239) dX12_isOwn_238 rfl ?_
                                            refine tj_if_eq (tgt := 275) (q := 242) dX12_isOwn_239 (by decide) rfl ?_ ?_
                                            · refine tj_iconst (q := 276) (v := 1) dX12_isOwn_275 rfl (by decide) ?_
                                              refine tj_goto (q := 280) dX12_isOwn_276 (by decide) ?_
                                              exact tj_zret rfl (by decide) rfl (Nat.le_of_ble_eq_true rfl) (Nat.le_of_ble_eq_true rfl) dX12_isOwn_280
                                            · refine tj_aload_n (q := 243) dX12_isOwn_242 rfl (i := 0) rfl (pl := 0) rfl ?_
                                              refine tj_getL (q := 246) (hT).s fok_12_9 wl_RX12_183 dX12_isOwn_243 rfl ?_
                                              refine tj_ldc2 (q := 249) (v := 6385252) dX12_isOwn_246 rfl wc_RX12_250 ?_
                                              refine tj_lcmp (q := 250) dX12_isOwn_249 rfl ?_
                                              refine tj_if_eq (tgt := 275) (q := 253) dX12_isOwn_250 (by decide) rfl ?_ ?_
                                              · refine tj_iconst (q := 276) (v := 1) dX12_isOwn_275 rfl (by decide) ?_
                                                refine tj_goto (q := 280) dX12_isOwn_276 (by decide) ?_
                                                exact tj_zret rfl (by decide) rfl (Nat.le_of_ble_eq_true rfl) (Nat.le_of_ble_eq_true rfl) dX12_isOwn_280
                                              · refine tj_aload_n (q := 254) dX12_isOwn_253 rfl (i := 0) rfl (pl := 0) rfl ?_
                                                refine tj_getL (q := 257) (hT).s fok_12_9 wl_RX12_183 dX12_isOwn_254 rfl ?_
                                                refine tj_ldc2 (q := 260) (v := 28530) dX12_isOwn_257 rfl wc_RX12_252 ?_
                                                refine tj_lcmp (q := 261) dX12_isOwn_260 rfl ?_
                                                refine tj_if_eq (tgt := 275) (q := 264) dX12_isOwn_261 (by decide) rfl ?_ ?_
                                                · refine tj_iconst (q := 276) (v := 1) dX12_isOwn_275 rfl (by decide) ?_
                                                  refine tj_goto (q := 280) dX12_isOwn_276 (by decide) ?_
                                                  exact tj_zret rfl (by decide) rfl (Nat.le_of_ble_eq_true rfl) (Nat.le_of_ble_eq_true rfl) dX12_isOwn_280
                                                · refine tj_aload_n (q := 265) dX12_isOwn_264 rfl (i := 0) rfl (pl := 0) rfl ?_
                                                  refine tj_getL (q := 268) (hT).s fok_12_9 wl_RX12_183 dX12_isOwn_265 rfl ?_
                                                  refine tj_ldc2 (q := 271) (v := 7237492) dX12_isOwn_268 rfl wc_RX12_254 ?_
                                                  refine tj_lcmp (q := 272) dX12_isOwn_271 rfl ?_
                                                  refine tj_if_ne (tgt := 279) (q := 275) dX12_isOwn_272 (by decide) rfl ?_ ?_
                                                  · refine tj_iconst (q := 276) (v := 1) dX12_isOwn_275 rfl (by decide) ?_
                                                    refine tj_goto (q := 280) dX12_isOwn_276 (by decide) ?_
                                                    exact tj_zret rfl (by decide) rfl (Nat.le_of_ble_eq_true rfl) (Nat.le_of_ble_eq_true rfl) dX12_isOwn_280
                                                  · refine tj_iconst (q := 280) (v := 0) dX12_isOwn_279 rfl (by decide) ?_
                                                    exact tj_zret rfl (by decide) rfl (Nat.le_of_ble_eq_true rfl) (Nat.le_of_ble_eq_true rfl) dX12_isOwn_280

theorem dX12_isName_0 : decode cX12_isName 0 = .ok (.aload_n 0, 1) := by decide +kernel
theorem dX12_isName_1 : decode cX12_isName 1 = .ok (.getfield 190, 3) := by decide +kernel
theorem dX12_isName_4 : decode cX12_isName 4 = .ok (.iconst 1, 1) := by decide +kernel
theorem dX12_isName_5 : decode cX12_isName 5 = .ok (.if_icmp .ne 14, 3) := by decide +kernel
theorem dX12_isName_8 : decode cX12_isName 8 = .ok (.aload_n 0, 1) := by decide +kernel
theorem dX12_isName_9 : decode cX12_isName 9 = .ok (.invokevirtual 256, 3) := by decide +kernel
theorem dX12_isName_12 : decode cX12_isName 12 = .ok (.ifCond .ne 7, 3) := by decide +kernel
theorem dX12_isName_15 : decode cX12_isName 15 = .ok (.iconst 1, 1) := by decide +kernel
theorem dX12_isName_16 : decode cX12_isName 16 = .ok (.goto 4, 3) := by decide +kernel
theorem dX12_isName_19 : decode cX12_isName 19 = .ok (.iconst 0, 1) := by decide +kernel
theorem dX12_isName_20 : decode cX12_isName 20 = .ok (.ireturn, 1) := by decide +kernel
theorem wm_X12_isOwn : Cond.instanceMethod yX12_isOwn ∈ TB ∧ Cond.selects yX12_isOwn.cls yX12_isOwn yX12_isOwn ∈ TB ∧ Cond.initialized yX12_isOwn.cls ∈ TB ∧ Cond.code yX12_isOwn cX12_isOwn 1 (some .boolean) ∈ TB ∧ (yX12_isOwn.cls ≠ "java/lang/invoke/MethodHandle" ∧ yX12_isOwn.cls ≠ "java/lang/invoke/VarHandle" ∧ (parseMethodDescriptor yX12_isOwn.desc).map (fun d => d.parameters.length) = some 0) ∧ 1 ≤ 21 := ⟨tbm 1766 (by decide +kernel) (by decide +kernel), tbm 68 (by decide +kernel) (by decide +kernel), tbm 146 (by decide +kernel) (by decide +kernel), tbm 1767 (by decide +kernel) (by decide +kernel), by decide +kernel, by decide⟩
theorem wi_RX12_256 : Iv RX12 256 yX12_isOwn cX12_isOwn 1 (some .boolean) 0 := ⟨tbm 1764 (by decide +kernel) (by decide +kernel), wm_X12_isOwn⟩
def mX12_isName (t : Nat) (σ : St_) : Option Bool :=
 (if (σ.1 t 6) = (1 : Int32) then
 ((mX12_isOwn t σ).bind fun r1 =>
 (if r1 = true then
 (some false)
 else (some true)))
 else (some false))
set_option maxHeartbeats 4000000 in
theorem rX12_isName (t : Nat) (hT : LY12 sh P t) : Rj l D cA h0 ad yX12_isName cX12_isName 1 (some .boolean) false 3 0 0 (fun b => (some (.int (b2i b)), sh, P, σ)) [.ref (h0 + t)] sh P σ (mX12_isName t σ) := by
  rw [mX12_isName]
  refine Rj.of (by decide) (fun h => by cases h) (Nat.le_of_ble_eq_true rfl) ?_
  refine tj_lv0 (lv' := [(0, .ref (h0 + t))]) rfl ?_
  refine tj_aload_n (q := 1) dX12_isName_0 rfl (i := 0) rfl (pl := 0) rfl ?_
  refine tj_getI (q := 4) (hT).s fok_12_6 wl_RX12_190 dX12_isName_1 rfl ?_
  refine tj_iconst (q := 5) (v := 1) dX12_isName_4 rfl (by decide) ?_
  refine tj_icmp_ne (tgt := 19) (q := 8) dX12_isName_5 (by decide) rfl ?_ ?_
  · refine tj_aload_n (q := 9) dX12_isName_8 rfl (i := 0) rfl (pl := 0) rfl ?_
    refine tj_callZp (q := 12) (kj_V (As := []) (rest := []) (t := t) wi_RX12_256 (hT).s rfl (rX12_isOwn t (hT)) rfl (Nat.le_of_ble_eq_true rfl) ⟨Nat.le_of_ble_eq_true rfl, Nat.le_of_ble_eq_true rfl⟩ (Nat.le_of_ble_eq_true rfl) dX12_isName_9) rfl (fun r1 => ?_)
    refine tj_bnz (tgt := 19) (q := 15) dX12_isName_12 (by decide) rfl ?_ ?_
    · refine tj_iconst (q := 20) (v := 0) dX12_isName_19 rfl (by decide) ?_
      exact tj_zret rfl (by decide) rfl (Nat.le_of_ble_eq_true rfl) (Nat.le_of_ble_eq_true rfl) dX12_isName_20
    · refine tj_iconst (q := 16) (v := 1) dX12_isName_15 rfl (by decide) ?_
      refine tj_goto (q := 20) dX12_isName_16 (by decide) ?_
      exact tj_zret rfl (by decide) rfl (Nat.le_of_ble_eq_true rfl) (Nat.le_of_ble_eq_true rfl) dX12_isName_20
  · refine tj_iconst (q := 20) (v := 0) dX12_isName_19 rfl (by decide) ?_
    exact tj_zret rfl (by decide) rfl (Nat.le_of_ble_eq_true rfl) (Nat.le_of_ble_eq_true rfl) dX12_isName_20

theorem dX12_want_0 : decode cX12_want 0 = .ok (.aload_n 0, 1) := by decide +kernel
theorem dX12_want_1 : decode cX12_want 1 = .ok (.getfield 203, 3) := by decide +kernel
theorem dX12_want_4 : decode cX12_want 4 = .ok (.ifCond .le 4, 3) := by decide +kernel
theorem dX12_want_7 : decode cX12_want 7 = .ok (.return_, 1) := by decide +kernel
theorem dX12_want_8 : decode cX12_want 8 = .ok (.aload_n 0, 1) := by decide +kernel
theorem dX12_want_9 : decode cX12_want 9 = .ok (.lload_n 1, 1) := by decide +kernel
theorem dX12_want_10 : decode cX12_want 10 = .ok (.invokevirtual 260, 3) := by decide +kernel
theorem dX12_want_13 : decode cX12_want 13 = .ok (.ifCond .ne 11, 3) := by decide +kernel
theorem dX12_want_16 : decode cX12_want 16 = .ok (.aload_n 0, 1) := by decide +kernel
theorem dX12_want_17 : decode cX12_want 17 = .ok (.iconst 2, 1) := by decide +kernel
theorem dX12_want_18 : decode cX12_want 18 = .ok (.invokevirtual 264, 3) := by decide +kernel
theorem dX12_want_21 : decode cX12_want 21 = .ok (.goto 7, 3) := by decide +kernel
theorem dX12_want_24 : decode cX12_want 24 = .ok (.aload_n 0, 1) := by decide +kernel
theorem dX12_want_25 : decode cX12_want 25 = .ok (.invokevirtual 267, 3) := by decide +kernel
theorem dX12_want_28 : decode cX12_want 28 = .ok (.return_, 1) := by decide +kernel
theorem wm_X12_isWord : Cond.instanceMethod yX12_isWord ∈ TB ∧ Cond.selects yX12_isWord.cls yX12_isWord yX12_isWord ∈ TB ∧ Cond.initialized yX12_isWord.cls ∈ TB ∧ Cond.code yX12_isWord cX12_isWord 3 (some .boolean) ∈ TB ∧ (yX12_isWord.cls ≠ "java/lang/invoke/MethodHandle" ∧ yX12_isWord.cls ≠ "java/lang/invoke/VarHandle" ∧ (parseMethodDescriptor yX12_isWord.desc).map (fun d => d.parameters.length) = some 1) ∧ 3 ≤ 21 := ⟨tbm 1733 (by decide +kernel) (by decide +kernel), tbm 60 (by decide +kernel) (by decide +kernel), tbm 146 (by decide +kernel) (by decide +kernel), tbm 1734 (by decide +kernel) (by decide +kernel), by decide +kernel, by decide⟩
theorem wi_RX12_260 : Iv RX12 260 yX12_isWord cX12_isWord 3 (some .boolean) 1 := ⟨tbm 1731 (by decide +kernel) (by decide +kernel), wm_X12_isWord⟩
theorem wm_X12_wrong : Cond.instanceMethod yX12_wrong ∈ TB ∧ Cond.selects yX12_wrong.cls yX12_wrong yX12_wrong ∈ TB ∧ Cond.initialized yX12_wrong.cls ∈ TB ∧ Cond.code yX12_wrong cX12_wrong 2 none ∈ TB ∧ (yX12_wrong.cls ≠ "java/lang/invoke/MethodHandle" ∧ yX12_wrong.cls ≠ "java/lang/invoke/VarHandle" ∧ (parseMethodDescriptor yX12_wrong.desc).map (fun d => d.parameters.length) = some 1) ∧ 2 ≤ 21 := ⟨tbm 1745 (by decide +kernel) (by decide +kernel), tbm 63 (by decide +kernel) (by decide +kernel), tbm 146 (by decide +kernel) (by decide +kernel), tbm 1746 (by decide +kernel) (by decide +kernel), by decide +kernel, by decide⟩
theorem wi_RX12_264 : Iv RX12 264 yX12_wrong cX12_wrong 2 none 1 := ⟨tbm 1743 (by decide +kernel) (by decide +kernel), wm_X12_wrong⟩
theorem wm_X12_token : Cond.instanceMethod yX12_token ∈ TB ∧ Cond.selects yX12_token.cls yX12_token yX12_token ∈ TB ∧ Cond.initialized yX12_token.cls ∈ TB ∧ Cond.code yX12_token cX12_token 3 none ∈ TB ∧ (yX12_token.cls ≠ "java/lang/invoke/MethodHandle" ∧ yX12_token.cls ≠ "java/lang/invoke/VarHandle" ∧ (parseMethodDescriptor yX12_token.desc).map (fun d => d.parameters.length) = some 0) ∧ 3 ≤ 21 := ⟨tbm 1711 (by decide +kernel) (by decide +kernel), tbm 57 (by decide +kernel) (by decide +kernel), tbm 146 (by decide +kernel) (by decide +kernel), tbm 1712 (by decide +kernel) (by decide +kernel), by decide +kernel, by decide⟩
theorem wi_RX12_267 : Iv RX12 267 yX12_token cX12_token 3 none 0 := ⟨tbm 1709 (by decide +kernel) (by decide +kernel), wm_X12_token⟩
def mX12_want (t : Nat) (p1 : Int64) (σ : St_) : Option St_ :=
 (if (σ.1 t 2) ≤ 0 then
 ((mX12_isWord t p1 σ).bind fun r1 =>
 (if r1 = true then
 ((mX12_token t σ).bind fun σ2 =>
 (some σ2))
 else ((mX12_wrong t (2 : Int32) σ).bind fun σ3 =>
 (some σ3))))
 else (some σ))
set_option maxHeartbeats 4000000 in
theorem rX12_want (t : Nat) (p1 : Int64) (hT : LY12 sh P t) : Rj l D cA h0 ad yX12_want cX12_want 3 none false 4 0 0 (fun b => (none, sh, P, b)) [.ref (h0 + t), .long p1] sh P σ (mX12_want t p1 σ) := by
  rw [mX12_want]
  refine Rj.of (by decide) (fun h => by cases h) (Nat.le_of_ble_eq_true rfl) ?_
  refine tj_lv0 (lv' := [(0, .ref (h0 + t)), (1, .long p1)]) rfl ?_
  refine tj_aload_n (q := 1) dX12_want_0 rfl (i := 0) rfl (pl := 0) rfl ?_
  refine tj_getI (q := 4) (hT).s fok_12_2 wl_RX12_203 dX12_want_1 rfl ?_
  refine tj_if_le (tgt := 8) (q := 7) dX12_want_4 (by decide) rfl ?_ ?_
  · refine tj_aload_n (q := 9) dX12_want_8 rfl (i := 0) rfl (pl := 0) rfl ?_
    refine tj_lload_n (q := 10) dX12_want_9 rfl (i := 1) rfl (pl := 1) rfl ?_
    refine tj_callZp (q := 13) (kj_V (As := [.long p1]) (rest := []) (t := t) wi_RX12_260 (hT).s rfl (rX12_isWord t p1 (hT)) rfl (Nat.le_of_ble_eq_true rfl) ⟨Nat.le_of_ble_eq_true rfl, Nat.le_of_ble_eq_true rfl⟩ (Nat.le_of_ble_eq_true rfl) dX12_want_10) rfl (fun r1 => ?_)
    refine tj_bnz (tgt := 24) (q := 16) dX12_want_13 (by decide) rfl ?_ ?_
    · refine tj_aload_n (q := 25) dX12_want_24 rfl (i := 0) rfl (pl := 0) rfl ?_
      refine tj_callV (q := 28) (kj_V (As := []) (rest := []) (t := t) wi_RX12_267 (hT).s rfl (rX12_token t (hT)) rfl (Nat.le_of_ble_eq_true rfl) ⟨Nat.le_of_ble_eq_true rfl, Nat.le_of_ble_eq_true rfl⟩ (Nat.le_of_ble_eq_true rfl) dX12_want_25) rfl (fun σ2 => ?_)
      exact tj_vret rfl rfl (Nat.le_of_ble_eq_true rfl) (Nat.le_of_ble_eq_true rfl) dX12_want_28
    · refine tj_aload_n (q := 17) dX12_want_16 rfl (i := 0) rfl (pl := 0) rfl ?_
      refine tj_iconst (q := 18) (v := 2) dX12_want_17 rfl (by decide) ?_
      refine tj_callV (q := 21) (kj_V (As := [.int (2 : Int32)]) (rest := []) (t := t) wi_RX12_264 (hT).s rfl (rX12_wrong t (2 : Int32) (hT)) rfl (Nat.le_of_ble_eq_true rfl) ⟨Nat.le_of_ble_eq_true rfl, Nat.le_of_ble_eq_true rfl⟩ (Nat.le_of_ble_eq_true rfl) dX12_want_18) rfl (fun σ3 => ?_)
      refine tj_goto (q := 28) dX12_want_21 (by decide) ?_
      exact tj_vret rfl rfl (Nat.le_of_ble_eq_true rfl) (Nat.le_of_ble_eq_true rfl) dX12_want_28
  · exact tj_vret rfl rfl (Nat.le_of_ble_eq_true rfl) (Nat.le_of_ble_eq_true rfl) dX12_want_7

theorem dX12_toldNumber_0 : decode cX12_toldNumber 0 = .ok (.aload_n 0, 1) := by decide +kernel
theorem dX12_toldNumber_1 : decode cX12_toldNumber 1 = .ok (.getfield 203, 3) := by decide +kernel
theorem dX12_toldNumber_4 : decode cX12_toldNumber 4 = .ok (.ifCond .le 5, 3) := by decide +kernel
theorem dX12_toldNumber_7 : decode cX12_toldNumber 7 = .ok (.iconst 0, 1) := by decide +kernel
theorem dX12_toldNumber_8 : decode cX12_toldNumber 8 = .ok (.ireturn, 1) := by decide +kernel
theorem dX12_toldNumber_9 : decode cX12_toldNumber 9 = .ok (.aload_n 0, 1) := by decide +kernel
theorem dX12_toldNumber_10 : decode cX12_toldNumber 10 = .ok (.getfield 190, 3) := by decide +kernel
theorem dX12_toldNumber_13 : decode cX12_toldNumber 13 = .ok (.iconst 2, 1) := by decide +kernel
theorem dX12_toldNumber_14 : decode cX12_toldNumber 14 = .ok (.if_icmp .eq 11, 3) := by decide +kernel
theorem dX12_toldNumber_17 : decode cX12_toldNumber 17 = .ok (.aload_n 0, 1) := by decide +kernel
theorem dX12_toldNumber_18 : decode cX12_toldNumber 18 = .ok (.iconst 2, 1) := by decide +kernel
theorem dX12_toldNumber_19 : decode cX12_toldNumber 19 = .ok (.invokevirtual 264, 3) := by decide +kernel
theorem dX12_toldNumber_22 : decode cX12_toldNumber 22 = .ok (.goto 24, 3) := by decide +kernel
theorem dX12_toldNumber_25 : decode cX12_toldNumber 25 = .ok (.aload_n 0, 1) := by decide +kernel
theorem dX12_toldNumber_26 : decode cX12_toldNumber 26 = .ok (.getfield 187, 3) := by decide +kernel
theorem dX12_toldNumber_29 : decode cX12_toldNumber 29 = .ok (.iload_n 1, 1) := by decide +kernel
theorem dX12_toldNumber_30 : decode cX12_toldNumber 30 = .ok (.if_icmp .lt 11, 3) := by decide +kernel
theorem dX12_toldNumber_33 : decode cX12_toldNumber 33 = .ok (.aload_n 0, 1) := by decide +kernel
theorem dX12_toldNumber_34 : decode cX12_toldNumber 34 = .ok (.getfield 187, 3) := by decide +kernel
theorem dX12_toldNumber_37 : decode cX12_toldNumber 37 = .ok (.iload_n 2, 1) := by decide +kernel
theorem dX12_toldNumber_38 : decode cX12_toldNumber 38 = .ok (.if_icmp .le 8, 3) := by decide +kernel
theorem dX12_toldNumber_41 : decode cX12_toldNumber 41 = .ok (.aload_n 0, 1) := by decide +kernel
theorem dX12_toldNumber_42 : decode cX12_toldNumber 42 = .ok (.iconst 4, 1) := by decide +kernel
theorem dX12_toldNumber_43 : decode cX12_toldNumber 43 = .ok (.invokevirtual 264, 3) := by decide +kernel
theorem dX12_toldNumber_46 : decode cX12_toldNumber 46 = .ok (.aload_n 0, 1) := by decide +kernel
theorem dX12_toldNumber_47 : decode cX12_toldNumber 47 = .ok (.getfield 187, 3) := by decide +kernel
theorem dX12_toldNumber_50 : decode cX12_toldNumber 50 = .ok (.istore_n 3, 1) := by decide +kernel
theorem dX12_toldNumber_51 : decode cX12_toldNumber 51 = .ok (.aload_n 0, 1) := by decide +kernel
theorem dX12_toldNumber_52 : decode cX12_toldNumber 52 = .ok (.getfield 203, 3) := by decide +kernel
theorem dX12_toldNumber_55 : decode cX12_toldNumber 55 = .ok (.ifCond .ne 7, 3) := by decide +kernel
theorem dX12_toldNumber_58 : decode cX12_toldNumber 58 = .ok (.aload_n 0, 1) := by decide +kernel
theorem dX12_toldNumber_59 : decode cX12_toldNumber 59 = .ok (.invokevirtual 267, 3) := by decide +kernel
theorem dX12_toldNumber_62 : decode cX12_toldNumber 62 = .ok (.iload_n 3, 1) := by decide +kernel
theorem dX12_toldNumber_63 : decode cX12_toldNumber 63 = .ok (.ireturn, 1) := by decide +kernel
def mX12_toldNumber (t : Nat) (p1 : Int32) (p2 : Int32) (σ : St_) : Option (Int32 × St_) :=
 (if (σ.1 t 2) ≤ 0 then
 (bnd (fun (σ1 : St_) => (bnd (σ1.1 t 8) fun v4 =>
 (if (σ1.1 t 2) = 0 then
 ((mX12_token t σ1).bind fun σ5 =>
 (some (v4, σ5)))
 else (some (v4, σ1))))) fun k2 =>
 (if (σ.1 t 6) = (2 : Int32) then
 (bnd ((mX12_wrong t (4 : Int32) σ).bind fun σ8 =>
 (k2 σ8)) fun k6 =>
 (if (σ.1 t 8) < p1 then
 (k6)
 else (if (σ.1 t 8) ≤ p2 then
 (k2 σ)
 else (k6))))
 else ((mX12_wrong t (2 : Int32) σ).bind fun σ9 =>
 (k2 σ9))))
 else (some ((0 : Int32), σ)))
set_option maxHeartbeats 4000000 in
theorem rX12_toldNumber (t : Nat) (p1 : Int32) (p2 : Int32) (hT : LY12 sh P t) : Rj l D cA h0 ad yX12_toldNumber cX12_toldNumber 4 (some .int) false 4 0 0 (fun b => (some (.int b.1), sh, P, b.2)) [.ref (h0 + t), .int p1, .int p2] sh P σ (mX12_toldNumber t p1 p2 σ) := by
  rw [mX12_toldNumber]
  refine Rj.of (by decide) (fun h => by cases h) (Nat.le_of_ble_eq_true rfl) ?_
  refine tj_lv0 (lv' := [(0, .ref (h0 + t)), (1, .int p1), (2, .int p2)]) rfl ?_
  refine tj_aload_n (q := 1) dX12_toldNumber_0 rfl (i := 0) rfl (pl := 0) rfl ?_
  refine tj_getI (q := 4) (hT).s fok_12_2 wl_RX12_203 dX12_toldNumber_1 rfl ?_
  refine tj_if_le (tgt := 9) (q := 7) dX12_toldNumber_4 (by decide) rfl ?_ ?_
  · refine tj_aload_n (q := 10) dX12_toldNumber_9 rfl (i := 0) rfl (pl := 0) rfl ?_
    refine tj_getI (q := 13) (hT).s fok_12_6 wl_RX12_190 dX12_toldNumber_10 rfl ?_
    refine tj_iconst (q := 14) (v := 2) dX12_toldNumber_13 rfl (by decide) ?_
    refine tj_bnd (fun k2 => ∀ (σ1 : St_), Tj l D cA h0 ad RX12 cX12_toldNumber 4 (some .int) false 4 0 0 (fun b => (some (.int b.1), sh, P, b.2)) 0 0 sh P σ1 46 [(0, .ref (h0 + t))] [] (k2 σ1)) ?_ (fun k2 hk3 => ?_)
    · intro σ1
      refine tj_aload_n (q := 47) dX12_toldNumber_46 rfl (i := 0) rfl (pl := 0) rfl ?_
      refine tj_getI (q := 50) (hT).s fok_12_8 wl_RX12_187 dX12_toldNumber_47 rfl ?_
      refine tj_topI (fun v4 => ?_)
      refine tj_istore_n (q := 51) dX12_toldNumber_50 rfl (i := 3) rfl (by decide) rfl ?_
      refine tj_aload_n (q := 52) dX12_toldNumber_51 rfl (i := 0) rfl (pl := 1) rfl ?_
      refine tj_getI (q := 55) (hT).s fok_12_2 wl_RX12_203 dX12_toldNumber_52 rfl ?_
      refine tj_if_ne (tgt := 62) (q := 58) dX12_toldNumber_55 (by decide) rfl ?_ ?_
      · refine tj_aload_n (q := 59) dX12_toldNumber_58 rfl (i := 0) rfl (pl := 1) rfl ?_
        refine tj_callV (q := 62) (kj_V (As := []) (rest := []) (t := t) wi_RX12_267 (hT).s rfl (rX12_token t (hT)) rfl (Nat.le_of_ble_eq_true rfl) ⟨Nat.le_of_ble_eq_true rfl, Nat.le_of_ble_eq_true rfl⟩ (Nat.le_of_ble_eq_true rfl) dX12_toldNumber_59) rfl (fun σ5 => ?_)
        refine tj_iload_n (q := 63) dX12_toldNumber_62 rfl (i := 3) rfl (pl := 0) rfl ?_
        exact tj_iret rfl rfl (Nat.le_of_ble_eq_true rfl) (Nat.le_of_ble_eq_true rfl) dX12_toldNumber_63
      · refine tj_iload_n (q := 63) dX12_toldNumber_62 rfl (i := 3) rfl (pl := 0) rfl ?_
        exact tj_iret rfl rfl (Nat.le_of_ble_eq_true rfl) (Nat.le_of_ble_eq_true rfl) dX12_toldNumber_63
    · refine tj_icmp_eq (tgt := 25) (q := 17) dX12_toldNumber_14 (by decide) rfl ?_ ?_
      · refine tj_aload_n (q := 26) dX12_toldNumber_25 rfl (i := 0) rfl (pl := 0) rfl ?_
        refine tj_getI (q := 29) (hT).s fok_12_8 wl_RX12_187 dX12_toldNumber_26 rfl ?_
        refine tj_iload_n (q := 30) dX12_toldNumber_29 rfl (i := 1) rfl (pl := 1) rfl ?_
        refine tj_bnd (fun k6 => Tj l D cA h0 ad RX12 cX12_toldNumber 4 (some .int) false 4 0 0 (fun b => (some (.int b.1), sh, P, b.2)) 0 0 sh P σ 41 [(0, .ref (h0 + t))] [] k6) ?_ (fun k6 hk7 => ?_)
        · refine tj_aload_n (q := 42) dX12_toldNumber_41 rfl (i := 0) rfl (pl := 0) rfl ?_
          refine tj_iconst (q := 43) (v := 4) dX12_toldNumber_42 rfl (by decide) ?_
          refine tj_callV (q := 46) (kj_V (As := [.int (4 : Int32)]) (rest := []) (t := t) wi_RX12_264 (hT).s rfl (rX12_wrong t (4 : Int32) (hT)) rfl (Nat.le_of_ble_eq_true rfl) ⟨Nat.le_of_ble_eq_true rfl, Nat.le_of_ble_eq_true rfl⟩ (Nat.le_of_ble_eq_true rfl) dX12_toldNumber_43) rfl (fun σ8 => ?_)
          exact hk3 σ8
        · refine tj_icmp_lt (tgt := 41) (q := 33) dX12_toldNumber_30 (by decide) rfl ?_ ?_
          · refine tj_lv [0] rfl ?_
            exact hk7
          · refine tj_aload_n (q := 34) dX12_toldNumber_33 rfl (i := 0) rfl (pl := 0) rfl ?_
            refine tj_getI (q := 37) (hT).s fok_12_8 wl_RX12_187 dX12_toldNumber_34 rfl ?_
            refine tj_iload_n (q := 38) dX12_toldNumber_37 rfl (i := 2) rfl (pl := 2) rfl ?_
            refine tj_icmp_le (tgt := 46) (q := 41) dX12_toldNumber_38 (by decide) rfl ?_ ?_
            · refine tj_lv [0] rfl ?_
              exact hk3 σ
            · refine tj_lv [0] rfl ?_
              exact hk7
      · refine tj_aload_n (q := 18) dX12_toldNumber_17 rfl (i := 0) rfl (pl := 0) rfl ?_
        refine tj_iconst (q := 19) (v := 2) dX12_toldNumber_18 rfl (by decide) ?_
        refine tj_callV (q := 22) (kj_V (As := [.int (2 : Int32)]) (rest := []) (t := t) wi_RX12_264 (hT).s rfl (rX12_wrong t (2 : Int32) (hT)) rfl (Nat.le_of_ble_eq_true rfl) ⟨Nat.le_of_ble_eq_true rfl, Nat.le_of_ble_eq_true rfl⟩ (Nat.le_of_ble_eq_true rfl) dX12_toldNumber_19) rfl (fun σ9 => ?_)
        refine tj_goto (q := 46) dX12_toldNumber_22 (by decide) ?_
        refine tj_lv [0] rfl ?_
        exact hk3 σ9
  · refine tj_iconst (q := 8) (v := 0) dX12_toldNumber_7 rfl (by decide) ?_
    exact tj_iret rfl rfl (Nat.le_of_ble_eq_true rfl) (Nat.le_of_ble_eq_true rfl) dX12_toldNumber_8

theorem dX12_told_0 : decode cX12_told 0 = .ok (.aload_n 0, 1) := by decide +kernel
theorem dX12_told_1 : decode cX12_told 1 = .ok (.lload_n 1, 1) := by decide +kernel
theorem dX12_told_2 : decode cX12_told 2 = .ok (.invokevirtual 270, 3) := by decide +kernel
theorem dX12_told_5 : decode cX12_told 5 = .ok (.aload_n 0, 1) := by decide +kernel
theorem dX12_told_6 : decode cX12_told 6 = .ok (.iload_n 3, 1) := by decide +kernel
theorem dX12_told_7 : decode cX12_told 7 = .ok (.iload 4, 2) := by decide +kernel
theorem dX12_told_9 : decode cX12_told 9 = .ok (.invokevirtual 274, 3) := by decide +kernel
theorem dX12_told_12 : decode cX12_told 12 = .ok (.ireturn, 1) := by decide +kernel
theorem wm_X12_want : Cond.instanceMethod yX12_want ∈ TB ∧ Cond.selects yX12_want.cls yX12_want yX12_want ∈ TB ∧ Cond.initialized yX12_want.cls ∈ TB ∧ Cond.code yX12_want cX12_want 3 none ∈ TB ∧ (yX12_want.cls ≠ "java/lang/invoke/MethodHandle" ∧ yX12_want.cls ≠ "java/lang/invoke/VarHandle" ∧ (parseMethodDescriptor yX12_want.desc).map (fun d => d.parameters.length) = some 1) ∧ 3 ≤ 21 := ⟨tbm 1741 (by decide +kernel) (by decide +kernel), tbm 62 (by decide +kernel) (by decide +kernel), tbm 146 (by decide +kernel) (by decide +kernel), tbm 1742 (by decide +kernel) (by decide +kernel), by decide +kernel, by decide⟩
theorem wi_RX12_270 : Iv RX12 270 yX12_want cX12_want 3 none 1 := ⟨tbm 1739 (by decide +kernel) (by decide +kernel), wm_X12_want⟩
theorem wm_X12_toldNumber : Cond.instanceMethod yX12_toldNumber ∈ TB ∧ Cond.selects yX12_toldNumber.cls yX12_toldNumber yX12_toldNumber ∈ TB ∧ Cond.initialized yX12_toldNumber.cls ∈ TB ∧ Cond.code yX12_toldNumber cX12_toldNumber 4 (some .int) ∈ TB ∧ (yX12_toldNumber.cls ≠ "java/lang/invoke/MethodHandle" ∧ yX12_toldNumber.cls ≠ "java/lang/invoke/VarHandle" ∧ (parseMethodDescriptor yX12_toldNumber.desc).map (fun d => d.parameters.length) = some 2) ∧ 4 ≤ 21 := ⟨tbm 1749 (by decide +kernel) (by decide +kernel), tbm 64 (by decide +kernel) (by decide +kernel), tbm 146 (by decide +kernel) (by decide +kernel), tbm 1750 (by decide +kernel) (by decide +kernel), by decide +kernel, by decide⟩
theorem wi_RX12_274 : Iv RX12 274 yX12_toldNumber cX12_toldNumber 4 (some .int) 2 := ⟨tbm 1747 (by decide +kernel) (by decide +kernel), wm_X12_toldNumber⟩
def mX12_told (t : Nat) (p1 : Int64) (p2 : Int32) (p3 : Int32) (σ : St_) : Option (Int32 × St_) :=
 ((mX12_want t p1 σ).bind fun σ1 =>
 ((mX12_toldNumber t p2 p3 σ1).bind fun r2 =>
 (some (r2.1, r2.2))))
set_option maxHeartbeats 4000000 in
theorem rX12_told (t : Nat) (p1 : Int64) (p2 : Int32) (p3 : Int32) (hT : LY12 sh P t) : Rj l D cA h0 ad yX12_told cX12_told 5 (some .int) false 5 0 0 (fun b => (some (.int b.1), sh, P, b.2)) [.ref (h0 + t), .long p1, .int p2, .int p3] sh P σ (mX12_told t p1 p2 p3 σ) := by
  rw [mX12_told]
  refine Rj.of (by decide) (fun h => by cases h) (Nat.le_of_ble_eq_true rfl) ?_
  refine tj_lv0 (lv' := [(0, .ref (h0 + t)), (1, .long p1), (3, .int p2), (4, .int p3)]) rfl ?_
  refine tj_aload_n (q := 1) dX12_told_0 rfl (i := 0) rfl (pl := 0) rfl ?_
  refine tj_lload_n (q := 2) dX12_told_1 rfl (i := 1) rfl (pl := 1) rfl ?_
  refine tj_callV (q := 5) (kj_V (As := [.long p1]) (rest := []) (t := t) wi_RX12_270 (hT).s rfl (rX12_want t p1 (hT)) rfl (Nat.le_of_ble_eq_true rfl) ⟨Nat.le_of_ble_eq_true rfl, Nat.le_of_ble_eq_true rfl⟩ (Nat.le_of_ble_eq_true rfl) dX12_told_2) rfl (fun σ1 => ?_)
  refine tj_aload_n (q := 6) dX12_told_5 rfl (i := 0) rfl (pl := 0) rfl ?_
  refine tj_iload_n (q := 7) dX12_told_6 rfl (i := 3) rfl (pl := 2) rfl ?_
  refine tj_iload (q := 9) dX12_told_7 rfl (pl := 3) rfl ?_
  refine tj_callI (q := 12) (kj_V (As := [.int p2, .int p3]) (rest := []) (t := t) wi_RX12_274 (hT).s rfl (rX12_toldNumber t p2 p3 (hT)) rfl (Nat.le_of_ble_eq_true rfl) ⟨Nat.le_of_ble_eq_true rfl, Nat.le_of_ble_eq_true rfl⟩ (Nat.le_of_ble_eq_true rfl) dX12_told_9) rfl (fun r2 => ?_)
  exact tj_iret rfl rfl (Nat.le_of_ble_eq_true rfl) (Nat.le_of_ble_eq_true rfl) dX12_told_12

theorem dX12_find_0 : decode cX12_find 0 = .ok (.iconst (-1), 1) := by decide +kernel
theorem dX12_find_1 : decode cX12_find 1 = .ok (.istore_n 3, 1) := by decide +kernel
theorem dX12_find_2 : decode cX12_find 2 = .ok (.iconst 0, 1) := by decide +kernel
theorem dX12_find_3 : decode cX12_find 3 = .ok (.istore 4, 2) := by decide +kernel
theorem dX12_find_5 : decode cX12_find 5 = .ok (.iload 4, 2) := by decide +kernel
theorem dX12_find_7 : decode cX12_find 7 = .ok (.iload_n 2, 1) := by decide +kernel
theorem dX12_find_8 : decode cX12_find 8 = .ok (.if_icmp .ge 33, 3) := by decide +kernel
theorem dX12_find_11 : decode cX12_find 11 = .ok (.aload_n 0, 1) := by decide +kernel
theorem dX12_find_12 : decode cX12_find 12 = .ok (.getfield 17, 3) := by decide +kernel
theorem dX12_find_15 : decode cX12_find 15 = .ok (.iload_n 1, 1) := by decide +kernel
theorem dX12_find_16 : decode cX12_find 16 = .ok (.iload 4, 2) := by decide +kernel
theorem dX12_find_18 : decode cX12_find 18 = .ok (.iadd, 1) := by decide +kernel
theorem dX12_find_19 : decode cX12_find 19 = .ok (.laload, 1) := by decide +kernel
theorem dX12_find_20 : decode cX12_find 20 = .ok (.aload_n 0, 1) := by decide +kernel
theorem dX12_find_21 : decode cX12_find 21 = .ok (.getfield 183, 3) := by decide +kernel
theorem dX12_find_24 : decode cX12_find 24 = .ok (.lcmp, 1) := by decide +kernel
theorem dX12_find_25 : decode cX12_find 25 = .ok (.ifCond .ne 8, 3) := by decide +kernel
theorem dX12_find_28 : decode cX12_find 28 = .ok (.iload 4, 2) := by decide +kernel
theorem dX12_find_30 : decode cX12_find 30 = .ok (.goto 4, 3) := by decide +kernel
theorem dX12_find_33 : decode cX12_find 33 = .ok (.iload_n 3, 1) := by decide +kernel
theorem dX12_find_34 : decode cX12_find 34 = .ok (.istore_n 3, 1) := by decide +kernel
theorem dX12_find_35 : decode cX12_find 35 = .ok (.iinc 4 1, 3) := by decide +kernel
theorem dX12_find_38 : decode cX12_find 38 = .ok (.goto (-33), 3) := by decide +kernel
theorem dX12_find_41 : decode cX12_find 41 = .ok (.iload_n 3, 1) := by decide +kernel
theorem dX12_find_42 : decode cX12_find 42 = .ok (.ireturn, 1) := by decide +kernel
theorem wl_RX12_17 : Cond.fieldLink RX12 17 (TX12 10).1 (TX12 10).2.1 (TX12 10).2.2.1 ∈ TB := tbm 1425 (by decide +kernel) (by decide +kernel)
def mX12_find_L5 (t : Nat) (σ : St_) (x1 : Int32) (x2 : Int32) : Nat → Int32 → Int32 → Option Int32
  | 0, _, _ => none
  | n + 1, x3, x4 => (if x2 ≤ x4 then
 (some x3)
 else (bnd (x1 + x4) fun v1 =>
 (if bin v1 32 = true then bnd (σ.2 (t + 2) v1.toNatClampNeg) fun v2 =>
 (bnd (fun (j3 : Int32) => (mX12_find_L5 t σ x1 x2 n j3 (x4 + 1))) fun k4 =>
 (if (lg_cmp v2 (σ.2 t 9)) = 0 then
 (k4 x4)
 else (k4 x3)))
 else none)))
def mX12_find (t : Nat) (p1 : Int32) (p2 : Int32) (σ : St_) : Option Int32 :=
 (mX12_find_L5 t σ p1 p2 FU (-1 : Int32) (0 : Int32))
set_option maxHeartbeats 4000000 in
theorem tmX12_find_L5 (σ : St_) (t : Nat) (hT : LY12 sh P t) (x1 : Int32) (x2 : Int32) : ∀ (n : Nat) (x3 : Int32) (x4 : Int32), Tj l D cA h0 ad RX12 cX12_find 5 (some .int) false 2 0 0 (fun b => (some (.int b), sh, P, σ)) 0 0 sh P σ 5 [(0, .ref (h0 + t)), (1, .int x1), (2, .int x2), (3, .int x3), (4, .int x4)] [] (mX12_find_L5 t σ x1 x2 n x3 x4) := by
  intro n
  induction n with
  | zero => intros; exact tj_none
  | succ n ih =>
    intro x3 x4
    rw [mX12_find_L5]
    refine tj_iload (q := 7) dX12_find_5 rfl (pl := 4) rfl ?_
    refine tj_iload_n (q := 8) dX12_find_7 rfl (i := 2) rfl (pl := 2) rfl ?_
    refine tj_icmp_ge (tgt := 41) (q := 11) dX12_find_8 (by decide) rfl ?_ ?_
    · refine tj_iload_n (q := 42) dX12_find_41 rfl (i := 3) rfl (pl := 3) rfl ?_
      exact tj_iret rfl rfl (Nat.le_of_ble_eq_true rfl) (Nat.le_of_ble_eq_true rfl) dX12_find_42
    · refine tj_aload_n (q := 12) dX12_find_11 rfl (i := 0) rfl (pl := 0) rfl ?_
      refine tj_getR (q := 15) (hT).s (hT).p_nName fok_12_10 wl_RX12_17 dX12_find_12 rfl ?_
      refine tj_iload_n (q := 16) dX12_find_15 rfl (i := 1) rfl (pl := 1) rfl ?_
      refine tj_iload (q := 18) dX12_find_16 rfl (pl := 4) rfl ?_
      refine tj_iadd (q := 19) dX12_find_18 rfl ?_
      refine tj_topI (fun v1 => ?_)
      refine tj_laload (q := 20) (hT).s_nName dX12_find_19 rfl ?_
      refine tj_topL (fun v2 => ?_)
      refine tj_aload_n (q := 21) dX12_find_20 rfl (i := 0) rfl (pl := 0) rfl ?_
      refine tj_getL (q := 24) (hT).s fok_12_9 wl_RX12_183 dX12_find_21 rfl ?_
      refine tj_lcmp (q := 25) dX12_find_24 rfl ?_
      refine tj_bnd (fun k4 => ∀ (j3 : Int32), Tj l D cA h0 ad RX12 cX12_find 5 (some .int) false 2 0 0 (fun b => (some (.int b), sh, P, σ)) 0 0 sh P σ 34 [(0, .ref (h0 + t)), (1, .int x1), (2, .int x2), (4, .int x4)] [.int j3] (k4 j3)) ?_ (fun k4 hk5 => ?_)
      · intro j3
        refine tj_istore_n (q := 35) dX12_find_34 rfl (i := 3) rfl (by decide) rfl ?_
        refine tj_iinc (q := 38) (v := x4 + 1) dX12_find_35 rfl (pl := 4) rfl rfl (by decide) rfl ?_
        refine tj_goto (q := 5) dX12_find_38 (by decide) ?_
        refine tj_lv [2, 3, 4, 1, 0] rfl ?_
        exact ih j3 (x4 + 1)
      · refine tj_if_ne (tgt := 33) (q := 28) dX12_find_25 (by decide) rfl ?_ ?_
        · refine tj_iload (q := 30) dX12_find_28 rfl (pl := 4) rfl ?_
          refine tj_goto (q := 34) dX12_find_30 (by decide) ?_
          refine tj_lv [0, 1, 2, 4] rfl ?_
          exact hk5 x4
        · refine tj_iload_n (q := 34) dX12_find_33 rfl (i := 3) rfl (pl := 3) rfl ?_
          refine tj_lv [0, 1, 2, 4] rfl ?_
          exact hk5 x3

set_option maxHeartbeats 4000000 in
theorem rX12_find (t : Nat) (p1 : Int32) (p2 : Int32) (hT : LY12 sh P t) : Rj l D cA h0 ad yX12_find cX12_find 5 (some .int) false 2 0 0 (fun b => (some (.int b), sh, P, σ)) [.ref (h0 + t), .int p1, .int p2] sh P σ (mX12_find t p1 p2 σ) := by
  rw [mX12_find]
  refine Rj.of (by decide) (fun h => by cases h) (Nat.le_of_ble_eq_true rfl) ?_
  refine tj_lv0 (lv' := [(0, .ref (h0 + t)), (1, .int p1), (2, .int p2)]) rfl ?_
  refine tj_iconst (q := 1) (v := (-1)) dX12_find_0 rfl (by decide) ?_
  refine tj_istore_n (q := 2) dX12_find_1 rfl (i := 3) rfl (by decide) rfl ?_
  refine tj_iconst (q := 3) (v := 0) dX12_find_2 rfl (by decide) ?_
  refine tj_istore (q := 5) dX12_find_3 rfl (by decide) rfl ?_
  refine tj_lv [2, 3, 4, 1, 0] rfl ?_
  exact tmX12_find_L5 σ t hT p1 p2 FU (-1 : Int32) (0 : Int32)

theorem dX12_newName_0 : decode cX12_newName 0 = .ok (.aload_n 0, 1) := by decide +kernel
theorem dX12_newName_1 : decode cX12_newName 1 = .ok (.invokevirtual 267, 3) := by decide +kernel
theorem dX12_newName_4 : decode cX12_newName 4 = .ok (.aload_n 0, 1) := by decide +kernel
theorem dX12_newName_5 : decode cX12_newName 5 = .ok (.invokevirtual 278, 3) := by decide +kernel
theorem dX12_newName_8 : decode cX12_newName 8 = .ok (.ifCond .ne 11, 3) := by decide +kernel
theorem dX12_newName_11 : decode cX12_newName 11 = .ok (.aload_n 0, 1) := by decide +kernel
theorem dX12_newName_12 : decode cX12_newName 12 = .ok (.iconst 2, 1) := by decide +kernel
theorem dX12_newName_13 : decode cX12_newName 13 = .ok (.invokevirtual 264, 3) := by decide +kernel
theorem dX12_newName_16 : decode cX12_newName 16 = .ok (.goto 17, 3) := by decide +kernel
theorem dX12_newName_19 : decode cX12_newName 19 = .ok (.aload_n 0, 1) := by decide +kernel
theorem dX12_newName_20 : decode cX12_newName 20 = .ok (.iload_n 1, 1) := by decide +kernel
theorem dX12_newName_21 : decode cX12_newName 21 = .ok (.iload_n 2, 1) := by decide +kernel
theorem dX12_newName_22 : decode cX12_newName 22 = .ok (.invokevirtual 281, 3) := by decide +kernel
theorem dX12_newName_25 : decode cX12_newName 25 = .ok (.ifCond .lt 8, 3) := by decide +kernel
theorem dX12_newName_28 : decode cX12_newName 28 = .ok (.aload_n 0, 1) := by decide +kernel
theorem dX12_newName_29 : decode cX12_newName 29 = .ok (.iconst 3, 1) := by decide +kernel
theorem dX12_newName_30 : decode cX12_newName 30 = .ok (.invokevirtual 264, 3) := by decide +kernel
theorem dX12_newName_33 : decode cX12_newName 33 = .ok (.aload_n 0, 1) := by decide +kernel
theorem dX12_newName_34 : decode cX12_newName 34 = .ok (.getfield 203, 3) := by decide +kernel
theorem dX12_newName_37 : decode cX12_newName 37 = .ok (.ifCond .le 4, 3) := by decide +kernel
theorem dX12_newName_40 : decode cX12_newName 40 = .ok (.return_, 1) := by decide +kernel
theorem dX12_newName_41 : decode cX12_newName 41 = .ok (.aload_n 0, 1) := by decide +kernel
theorem dX12_newName_42 : decode cX12_newName 42 = .ok (.getfield 17, 3) := by decide +kernel
theorem dX12_newName_45 : decode cX12_newName 45 = .ok (.iload_n 1, 1) := by decide +kernel
theorem dX12_newName_46 : decode cX12_newName 46 = .ok (.iload_n 2, 1) := by decide +kernel
theorem dX12_newName_47 : decode cX12_newName 47 = .ok (.iadd, 1) := by decide +kernel
theorem dX12_newName_48 : decode cX12_newName 48 = .ok (.aload_n 0, 1) := by decide +kernel
theorem dX12_newName_49 : decode cX12_newName 49 = .ok (.getfield 183, 3) := by decide +kernel
theorem dX12_newName_52 : decode cX12_newName 52 = .ok (.lastore, 1) := by decide +kernel
theorem dX12_newName_53 : decode cX12_newName 53 = .ok (.aload_n 0, 1) := by decide +kernel
theorem dX12_newName_54 : decode cX12_newName 54 = .ok (.invokevirtual 267, 3) := by decide +kernel
theorem dX12_newName_57 : decode cX12_newName 57 = .ok (.return_, 1) := by decide +kernel
theorem wm_X12_isName : Cond.instanceMethod yX12_isName ∈ TB ∧ Cond.selects yX12_isName.cls yX12_isName yX12_isName ∈ TB ∧ Cond.initialized yX12_isName.cls ∈ TB ∧ Cond.code yX12_isName cX12_isName 1 (some .boolean) ∈ TB ∧ (yX12_isName.cls ≠ "java/lang/invoke/MethodHandle" ∧ yX12_isName.cls ≠ "java/lang/invoke/VarHandle" ∧ (parseMethodDescriptor yX12_isName.desc).map (fun d => d.parameters.length) = some 0) ∧ 1 ≤ 21 := ⟨tbm 1762 (by decide +kernel) (by decide +kernel), tbm 67 (by decide +kernel) (by decide +kernel), tbm 146 (by decide +kernel) (by decide +kernel), tbm 1763 (by decide +kernel) (by decide +kernel), by decide +kernel, by decide⟩
theorem wi_RX12_278 : Iv RX12 278 yX12_isName cX12_isName 1 (some .boolean) 0 := ⟨tbm 1760 (by decide +kernel) (by decide +kernel), wm_X12_isName⟩
theorem wm_X12_find : Cond.instanceMethod yX12_find ∈ TB ∧ Cond.selects yX12_find.cls yX12_find yX12_find ∈ TB ∧ Cond.initialized yX12_find.cls ∈ TB ∧ Cond.code yX12_find cX12_find 5 (some .int) ∈ TB ∧ (yX12_find.cls ≠ "java/lang/invoke/MethodHandle" ∧ yX12_find.cls ≠ "java/lang/invoke/VarHandle" ∧ (parseMethodDescriptor yX12_find.desc).map (fun d => d.parameters.length) = some 2) ∧ 5 ≤ 21 := ⟨tbm 1793 (by decide +kernel) (by decide +kernel), tbm 69 (by decide +kernel) (by decide +kernel), tbm 146 (by decide +kernel) (by decide +kernel), tbm 1794 (by decide +kernel) (by decide +kernel), by decide +kernel, by decide⟩
theorem wi_RX12_281 : Iv RX12 281 yX12_find cX12_find 5 (some .int) 2 := ⟨tbm 1791 (by decide +kernel) (by decide +kernel), wm_X12_find⟩
def mX12_newName (t : Nat) (p1 : Int32) (p2 : Int32) (σ : St_) : Option St_ :=
 ((mX12_token t σ).bind fun σ1 =>
 ((mX12_isName t σ1).bind fun r2 =>
 (bnd (fun (σ3 : St_) => (if (σ3.1 t 2) ≤ 0 then
 (bnd (p1 + p2) fun v6 =>
 (if bin v6 32 = true then bnd (sL σ3 (t + 2) v6.toNatClampNeg (σ3.2 t 9)) fun σ7 =>
 ((mX12_token t σ7).bind fun σ8 =>
 (some σ8))
 else none))
 else (some σ3))) fun k4 =>
 (if r2 = true then
 ((mX12_find t p1 p2 σ1).bind fun r9 =>
 (if r9 < 0 then
 (k4 σ1)
 else ((mX12_wrong t (3 : Int32) σ1).bind fun σ10 =>
 (k4 σ10))))
 else ((mX12_wrong t (2 : Int32) σ1).bind fun σ11 =>
 (k4 σ11))))))
set_option maxHeartbeats 4000000 in
theorem rX12_newName (t : Nat) (p1 : Int32) (p2 : Int32) (hT : LY12 sh P t) : Rj l D cA h0 ad yX12_newName cX12_newName 3 none false 4 0 0 (fun b => (none, sh, P, b)) [.ref (h0 + t), .int p1, .int p2] sh P σ (mX12_newName t p1 p2 σ) := by
  rw [mX12_newName]
  refine Rj.of (by decide) (fun h => by cases h) (Nat.le_of_ble_eq_true rfl) ?_
  refine tj_lv0 (lv' := [(0, .ref (h0 + t)), (1, .int p1), (2, .int p2)]) rfl ?_
  refine tj_aload_n (q := 1) dX12_newName_0 rfl (i := 0) rfl (pl := 0) rfl ?_
  refine tj_callV (q := 4) (kj_V (As := []) (rest := []) (t := t) wi_RX12_267 (hT).s rfl (rX12_token t (hT)) rfl (Nat.le_of_ble_eq_true rfl) ⟨Nat.le_of_ble_eq_true rfl, Nat.le_of_ble_eq_true rfl⟩ (Nat.le_of_ble_eq_true rfl) dX12_newName_1) rfl (fun σ1 => ?_)
  refine tj_aload_n (q := 5) dX12_newName_4 rfl (i := 0) rfl (pl := 0) rfl ?_
  refine tj_callZp (q := 8) (kj_V (As := []) (rest := []) (t := t) wi_RX12_278 (hT).s rfl (rX12_isName t (hT)) rfl (Nat.le_of_ble_eq_true rfl) ⟨Nat.le_of_ble_eq_true rfl, Nat.le_of_ble_eq_true rfl⟩ (Nat.le_of_ble_eq_true rfl) dX12_newName_5) rfl (fun r2 => ?_)
  refine tj_bnd (fun k4 => ∀ (σ3 : St_), Tj l D cA h0 ad RX12 cX12_newName 3 none false 4 0 0 (fun b => (none, sh, P, b)) 0 0 sh P σ3 33 [(0, .ref (h0 + t)), (1, .int p1), (2, .int p2)] [] (k4 σ3)) ?_ (fun k4 hk5 => ?_)
  · intro σ3
    refine tj_aload_n (q := 34) dX12_newName_33 rfl (i := 0) rfl (pl := 0) rfl ?_
    refine tj_getI (q := 37) (hT).s fok_12_2 wl_RX12_203 dX12_newName_34 rfl ?_
    refine tj_if_le (tgt := 41) (q := 40) dX12_newName_37 (by decide) rfl ?_ ?_
    · refine tj_aload_n (q := 42) dX12_newName_41 rfl (i := 0) rfl (pl := 0) rfl ?_
      refine tj_getR (q := 45) (hT).s (hT).p_nName fok_12_10 wl_RX12_17 dX12_newName_42 rfl ?_
      refine tj_iload_n (q := 46) dX12_newName_45 rfl (i := 1) rfl (pl := 1) rfl ?_
      refine tj_iload_n (q := 47) dX12_newName_46 rfl (i := 2) rfl (pl := 2) rfl ?_
      refine tj_iadd (q := 48) dX12_newName_47 rfl ?_
      refine tj_aload_n (q := 49) dX12_newName_48 rfl (i := 0) rfl (pl := 0) rfl ?_
      refine tj_getL (q := 52) (hT).s fok_12_9 wl_RX12_183 dX12_newName_49 rfl ?_
      refine tj_sndL (fun v6 => ?_)
      refine tj_lastore (q := 53) (hT).s_nName dX12_newName_52 rfl (fun σ7 => ?_)
      refine tj_aload_n (q := 54) dX12_newName_53 rfl (i := 0) rfl (pl := 0) rfl ?_
      refine tj_callV (q := 57) (kj_V (As := []) (rest := []) (t := t) wi_RX12_267 (hT).s rfl (rX12_token t (hT)) rfl (Nat.le_of_ble_eq_true rfl) ⟨Nat.le_of_ble_eq_true rfl, Nat.le_of_ble_eq_true rfl⟩ (Nat.le_of_ble_eq_true rfl) dX12_newName_54) rfl (fun σ8 => ?_)
      exact tj_vret rfl rfl (Nat.le_of_ble_eq_true rfl) (Nat.le_of_ble_eq_true rfl) dX12_newName_57
    · exact tj_vret rfl rfl (Nat.le_of_ble_eq_true rfl) (Nat.le_of_ble_eq_true rfl) dX12_newName_40
  · refine tj_bnz (tgt := 19) (q := 11) dX12_newName_8 (by decide) rfl ?_ ?_
    · refine tj_aload_n (q := 20) dX12_newName_19 rfl (i := 0) rfl (pl := 0) rfl ?_
      refine tj_iload_n (q := 21) dX12_newName_20 rfl (i := 1) rfl (pl := 1) rfl ?_
      refine tj_iload_n (q := 22) dX12_newName_21 rfl (i := 2) rfl (pl := 2) rfl ?_
      refine tj_callIp (q := 25) (kj_V (As := [.int p1, .int p2]) (rest := []) (t := t) wi_RX12_281 (hT).s rfl (rX12_find t p1 p2 (hT)) rfl (Nat.le_of_ble_eq_true rfl) ⟨Nat.le_of_ble_eq_true rfl, Nat.le_of_ble_eq_true rfl⟩ (Nat.le_of_ble_eq_true rfl) dX12_newName_22) rfl (fun r9 => ?_)
      refine tj_if_lt (tgt := 33) (q := 28) dX12_newName_25 (by decide) rfl ?_ ?_
      · exact hk5 σ1
      · refine tj_aload_n (q := 29) dX12_newName_28 rfl (i := 0) rfl (pl := 0) rfl ?_
        refine tj_iconst (q := 30) (v := 3) dX12_newName_29 rfl (by decide) ?_
        refine tj_callV (q := 33) (kj_V (As := [.int (3 : Int32)]) (rest := []) (t := t) wi_RX12_264 (hT).s rfl (rX12_wrong t (3 : Int32) (hT)) rfl (Nat.le_of_ble_eq_true rfl) ⟨Nat.le_of_ble_eq_true rfl, Nat.le_of_ble_eq_true rfl⟩ (Nat.le_of_ble_eq_true rfl) dX12_newName_30) rfl (fun σ10 => ?_)
        exact hk5 σ10
    · refine tj_aload_n (q := 12) dX12_newName_11 rfl (i := 0) rfl (pl := 0) rfl ?_
      refine tj_iconst (q := 13) (v := 2) dX12_newName_12 rfl (by decide) ?_
      refine tj_callV (q := 16) (kj_V (As := [.int (2 : Int32)]) (rest := []) (t := t) wi_RX12_264 (hT).s rfl (rX12_wrong t (2 : Int32) (hT)) rfl (Nat.le_of_ble_eq_true rfl) ⟨Nat.le_of_ble_eq_true rfl, Nat.le_of_ble_eq_true rfl⟩ (Nat.le_of_ble_eq_true rfl) dX12_newName_13) rfl (fun σ11 => ?_)
      refine tj_goto (q := 33) dX12_newName_16 (by decide) ?_
      exact hk5 σ11

theorem dX12_oldName_0 : decode cX12_oldName 0 = .ok (.aload_n 0, 1) := by decide +kernel
theorem dX12_oldName_1 : decode cX12_oldName 1 = .ok (.getfield 203, 3) := by decide +kernel
theorem dX12_oldName_4 : decode cX12_oldName 4 = .ok (.ifCond .le 5, 3) := by decide +kernel
theorem dX12_oldName_7 : decode cX12_oldName 7 = .ok (.iconst 0, 1) := by decide +kernel
theorem dX12_oldName_8 : decode cX12_oldName 8 = .ok (.ireturn, 1) := by decide +kernel
theorem dX12_oldName_9 : decode cX12_oldName 9 = .ok (.aload_n 0, 1) := by decide +kernel
theorem dX12_oldName_10 : decode cX12_oldName 10 = .ok (.invokevirtual 278, 3) := by decide +kernel
theorem dX12_oldName_13 : decode cX12_oldName 13 = .ok (.ifCond .ne 11, 3) := by decide +kernel
theorem dX12_oldName_16 : decode cX12_oldName 16 = .ok (.aload_n 0, 1) := by decide +kernel
theorem dX12_oldName_17 : decode cX12_oldName 17 = .ok (.iconst 2, 1) := by decide +kernel
theorem dX12_oldName_18 : decode cX12_oldName 18 = .ok (.invokevirtual 264, 3) := by decide +kernel
theorem dX12_oldName_21 : decode cX12_oldName 21 = .ok (.goto 17, 3) := by decide +kernel
theorem dX12_oldName_24 : decode cX12_oldName 24 = .ok (.aload_n 0, 1) := by decide +kernel
theorem dX12_oldName_25 : decode cX12_oldName 25 = .ok (.iload_n 1, 1) := by decide +kernel
theorem dX12_oldName_26 : decode cX12_oldName 26 = .ok (.iload_n 2, 1) := by decide +kernel
theorem dX12_oldName_27 : decode cX12_oldName 27 = .ok (.invokevirtual 281, 3) := by decide +kernel
theorem dX12_oldName_30 : decode cX12_oldName 30 = .ok (.ifCond .ge 8, 3) := by decide +kernel
theorem dX12_oldName_33 : decode cX12_oldName 33 = .ok (.aload_n 0, 1) := by decide +kernel
theorem dX12_oldName_34 : decode cX12_oldName 34 = .ok (.iconst 5, 1) := by decide +kernel
theorem dX12_oldName_35 : decode cX12_oldName 35 = .ok (.invokevirtual 264, 3) := by decide +kernel
theorem dX12_oldName_38 : decode cX12_oldName 38 = .ok (.aload_n 0, 1) := by decide +kernel
theorem dX12_oldName_39 : decode cX12_oldName 39 = .ok (.getfield 203, 3) := by decide +kernel
theorem dX12_oldName_42 : decode cX12_oldName 42 = .ok (.ifCond .le 7, 3) := by decide +kernel
theorem dX12_oldName_45 : decode cX12_oldName 45 = .ok (.iconst 0, 1) := by decide +kernel
theorem dX12_oldName_46 : decode cX12_oldName 46 = .ok (.goto 9, 3) := by decide +kernel
theorem dX12_oldName_49 : decode cX12_oldName 49 = .ok (.aload_n 0, 1) := by decide +kernel
theorem dX12_oldName_50 : decode cX12_oldName 50 = .ok (.iload_n 1, 1) := by decide +kernel
theorem dX12_oldName_51 : decode cX12_oldName 51 = .ok (.iload_n 2, 1) := by decide +kernel
theorem dX12_oldName_52 : decode cX12_oldName 52 = .ok (.invokevirtual 281, 3) := by decide +kernel
theorem dX12_oldName_55 : decode cX12_oldName 55 = .ok (.ireturn, 1) := by decide +kernel
def mX12_oldName (t : Nat) (p1 : Int32) (p2 : Int32) (σ : St_) : Option (Int32 × St_) :=
 (if (σ.1 t 2) ≤ 0 then
 ((mX12_isName t σ).bind fun r1 =>
 (bnd (fun (σ2 : St_) => (if (σ2.1 t 2) ≤ 0 then
 ((mX12_find t p1 p2 σ2).bind fun r5 =>
 (some (r5, σ2)))
 else (some ((0 : Int32), σ2)))) fun k3 =>
 (if r1 = true then
 ((mX12_find t p1 p2 σ).bind fun r6 =>
 (if 0 ≤ r6 then
 (k3 σ)
 else ((mX12_wrong t (5 : Int32) σ).bind fun σ7 =>
 (k3 σ7))))
 else ((mX12_wrong t (2 : Int32) σ).bind fun σ8 =>
 (k3 σ8)))))
 else (some ((0 : Int32), σ)))
set_option maxHeartbeats 4000000 in
theorem rX12_oldName (t : Nat) (p1 : Int32) (p2 : Int32) (hT : LY12 sh P t) : Rj l D cA h0 ad yX12_oldName cX12_oldName 3 (some .int) false 4 0 0 (fun b => (some (.int b.1), sh, P, b.2)) [.ref (h0 + t), .int p1, .int p2] sh P σ (mX12_oldName t p1 p2 σ) := by
  rw [mX12_oldName]
  refine Rj.of (by decide) (fun h => by cases h) (Nat.le_of_ble_eq_true rfl) ?_
  refine tj_lv0 (lv' := [(0, .ref (h0 + t)), (1, .int p1), (2, .int p2)]) rfl ?_
  refine tj_aload_n (q := 1) dX12_oldName_0 rfl (i := 0) rfl (pl := 0) rfl ?_
  refine tj_getI (q := 4) (hT).s fok_12_2 wl_RX12_203 dX12_oldName_1 rfl ?_
  refine tj_if_le (tgt := 9) (q := 7) dX12_oldName_4 (by decide) rfl ?_ ?_
  · refine tj_aload_n (q := 10) dX12_oldName_9 rfl (i := 0) rfl (pl := 0) rfl ?_
    refine tj_callZp (q := 13) (kj_V (As := []) (rest := []) (t := t) wi_RX12_278 (hT).s rfl (rX12_isName t (hT)) rfl (Nat.le_of_ble_eq_true rfl) ⟨Nat.le_of_ble_eq_true rfl, Nat.le_of_ble_eq_true rfl⟩ (Nat.le_of_ble_eq_true rfl) dX12_oldName_10) rfl (fun r1 => ?_)
    refine tj_bnd (fun k3 => ∀ (σ2 : St_), Tj l D cA h0 ad RX12 cX12_oldName 3 (some .int) false 4 0 0 (fun b => (some (.int b.1), sh, P, b.2)) 0 0 sh P σ2 38 [(0, .ref (h0 + t)), (1, .int p1), (2, .int p2)] [] (k3 σ2)) ?_ (fun k3 hk4 => ?_)
    · intro σ2
      refine tj_aload_n (q := 39) dX12_oldName_38 rfl (i := 0) rfl (pl := 0) rfl ?_
      refine tj_getI (q := 42) (hT).s fok_12_2 wl_RX12_203 dX12_oldName_39 rfl ?_
      refine tj_if_le (tgt := 49) (q := 45) dX12_oldName_42 (by decide) rfl ?_ ?_
      · refine tj_aload_n (q := 50) dX12_oldName_49 rfl (i := 0) rfl (pl := 0) rfl ?_
        refine tj_iload_n (q := 51) dX12_oldName_50 rfl (i := 1) rfl (pl := 1) rfl ?_
        refine tj_iload_n (q := 52) dX12_oldName_51 rfl (i := 2) rfl (pl := 2) rfl ?_
        refine tj_callIp (q := 55) (kj_V (As := [.int p1, .int p2]) (rest := []) (t := t) wi_RX12_281 (hT).s rfl (rX12_find t p1 p2 (hT)) rfl (Nat.le_of_ble_eq_true rfl) ⟨Nat.le_of_ble_eq_true rfl, Nat.le_of_ble_eq_true rfl⟩ (Nat.le_of_ble_eq_true rfl) dX12_oldName_52) rfl (fun r5 => ?_)
        exact tj_iret rfl rfl (Nat.le_of_ble_eq_true rfl) (Nat.le_of_ble_eq_true rfl) dX12_oldName_55
      · refine tj_iconst (q := 46) (v := 0) dX12_oldName_45 rfl (by decide) ?_
        refine tj_goto (q := 55) dX12_oldName_46 (by decide) ?_
        exact tj_iret rfl rfl (Nat.le_of_ble_eq_true rfl) (Nat.le_of_ble_eq_true rfl) dX12_oldName_55
    · refine tj_bnz (tgt := 24) (q := 16) dX12_oldName_13 (by decide) rfl ?_ ?_
      · refine tj_aload_n (q := 25) dX12_oldName_24 rfl (i := 0) rfl (pl := 0) rfl ?_
        refine tj_iload_n (q := 26) dX12_oldName_25 rfl (i := 1) rfl (pl := 1) rfl ?_
        refine tj_iload_n (q := 27) dX12_oldName_26 rfl (i := 2) rfl (pl := 2) rfl ?_
        refine tj_callIp (q := 30) (kj_V (As := [.int p1, .int p2]) (rest := []) (t := t) wi_RX12_281 (hT).s rfl (rX12_find t p1 p2 (hT)) rfl (Nat.le_of_ble_eq_true rfl) ⟨Nat.le_of_ble_eq_true rfl, Nat.le_of_ble_eq_true rfl⟩ (Nat.le_of_ble_eq_true rfl) dX12_oldName_27) rfl (fun r6 => ?_)
        refine tj_if_ge (tgt := 38) (q := 33) dX12_oldName_30 (by decide) rfl ?_ ?_
        · exact hk4 σ
        · refine tj_aload_n (q := 34) dX12_oldName_33 rfl (i := 0) rfl (pl := 0) rfl ?_
          refine tj_iconst (q := 35) (v := 5) dX12_oldName_34 rfl (by decide) ?_
          refine tj_callV (q := 38) (kj_V (As := [.int (5 : Int32)]) (rest := []) (t := t) wi_RX12_264 (hT).s rfl (rX12_wrong t (5 : Int32) (hT)) rfl (Nat.le_of_ble_eq_true rfl) ⟨Nat.le_of_ble_eq_true rfl, Nat.le_of_ble_eq_true rfl⟩ (Nat.le_of_ble_eq_true rfl) dX12_oldName_35) rfl (fun σ7 => ?_)
          exact hk4 σ7
      · refine tj_aload_n (q := 17) dX12_oldName_16 rfl (i := 0) rfl (pl := 0) rfl ?_
        refine tj_iconst (q := 18) (v := 2) dX12_oldName_17 rfl (by decide) ?_
        refine tj_callV (q := 21) (kj_V (As := [.int (2 : Int32)]) (rest := []) (t := t) wi_RX12_264 (hT).s rfl (rX12_wrong t (2 : Int32) (hT)) rfl (Nat.le_of_ble_eq_true rfl) ⟨Nat.le_of_ble_eq_true rfl, Nat.le_of_ble_eq_true rfl⟩ (Nat.le_of_ble_eq_true rfl) dX12_oldName_18) rfl (fun σ8 => ?_)
        refine tj_goto (q := 38) dX12_oldName_21 (by decide) ?_
        exact hk4 σ8
  · refine tj_iconst (q := 8) (v := 0) dX12_oldName_7 rfl (by decide) ?_
    exact tj_iret rfl rfl (Nat.le_of_ble_eq_true rfl) (Nat.le_of_ble_eq_true rfl) dX12_oldName_8

theorem dX12_add_0 : decode cX12_add 0 = .ok (.aload_n 0, 1) := by decide +kernel
theorem dX12_add_1 : decode cX12_add 1 = .ok (.getfield 24, 3) := by decide +kernel
theorem dX12_add_4 : decode cX12_add 4 = .ok (.aload_n 0, 1) := by decide +kernel
theorem dX12_add_5 : decode cX12_add 5 = .ok (.getfield 284, 3) := by decide +kernel
theorem dX12_add_8 : decode cX12_add 8 = .ok (.iload_n 1, 1) := by decide +kernel
theorem dX12_add_9 : decode cX12_add 9 = .ok (.iastore, 1) := by decide +kernel
theorem dX12_add_10 : decode cX12_add 10 = .ok (.aload_n 0, 1) := by decide +kernel
theorem dX12_add_11 : decode cX12_add 11 = .ok (.getfield 27, 3) := by decide +kernel
theorem dX12_add_14 : decode cX12_add 14 = .ok (.aload_n 0, 1) := by decide +kernel
theorem dX12_add_15 : decode cX12_add 15 = .ok (.getfield 284, 3) := by decide +kernel
theorem dX12_add_18 : decode cX12_add 18 = .ok (.iload_n 2, 1) := by decide +kernel
theorem dX12_add_19 : decode cX12_add 19 = .ok (.iastore, 1) := by decide +kernel
theorem dX12_add_20 : decode cX12_add 20 = .ok (.aload_n 0, 1) := by decide +kernel
theorem dX12_add_21 : decode cX12_add 21 = .ok (.dup, 1) := by decide +kernel
theorem dX12_add_22 : decode cX12_add 22 = .ok (.getfield 284, 3) := by decide +kernel
theorem dX12_add_25 : decode cX12_add 25 = .ok (.iconst 1, 1) := by decide +kernel
theorem dX12_add_26 : decode cX12_add 26 = .ok (.iadd, 1) := by decide +kernel
theorem dX12_add_27 : decode cX12_add 27 = .ok (.putfield 284, 3) := by decide +kernel
theorem dX12_add_30 : decode cX12_add 30 = .ok (.return_, 1) := by decide +kernel
theorem wl_RX12_24 : Cond.fieldLink RX12 24 (TX12 13).1 (TX12 13).2.1 (TX12 13).2.2.1 ∈ TB := tbm 1428 (by decide +kernel) (by decide +kernel)
theorem wl_RX12_284 : Cond.fieldLink RX12 284 (TX12 19).1 (TX12 19).2.1 (TX12 19).2.2.1 ∈ TB := tbm 1434 (by decide +kernel) (by decide +kernel)
theorem wl_RX12_27 : Cond.fieldLink RX12 27 (TX12 14).1 (TX12 14).2.1 (TX12 14).2.2.1 ∈ TB := tbm 1429 (by decide +kernel) (by decide +kernel)
def mX12_add (t : Nat) (p1 : Int32) (p2 : Int32) (σ : St_) : Option St_ :=
 (bnd (σ.1 t 19) fun v1 =>
 (if bin v1 320 = true then bnd (sI σ (t + 4) v1.toNatClampNeg p1) fun σ2 =>
 (bnd (σ2.1 t 19) fun v3 =>
 (if bin v3 320 = true then bnd (sI σ2 (t + 5) v3.toNatClampNeg p2) fun σ4 =>
 (bnd (sI σ4 t 19 ((σ4.1 t 19) + (1 : Int32))) fun σ5 =>
 (some σ5))
 else none))
 else none))
set_option maxHeartbeats 4000000 in
theorem rX12_add (t : Nat) (p1 : Int32) (p2 : Int32) (hT : LY12 sh P t) : Rj l D cA h0 ad yX12_add cX12_add 3 none false 2 0 0 (fun b => (none, sh, P, b)) [.ref (h0 + t), .int p1, .int p2] sh P σ (mX12_add t p1 p2 σ) := by
  rw [mX12_add]
  refine Rj.of (by decide) (fun h => by cases h) (Nat.le_of_ble_eq_true rfl) ?_
  refine tj_lv0 (lv' := [(0, .ref (h0 + t)), (1, .int p1), (2, .int p2)]) rfl ?_
  refine tj_aload_n (q := 1) dX12_add_0 rfl (i := 0) rfl (pl := 0) rfl ?_
  refine tj_getR (q := 4) (hT).s (hT).p_nStep fok_12_13 wl_RX12_24 dX12_add_1 rfl ?_
  refine tj_aload_n (q := 5) dX12_add_4 rfl (i := 0) rfl (pl := 0) rfl ?_
  refine tj_getI (q := 8) (hT).s fok_12_19 wl_RX12_284 dX12_add_5 rfl ?_
  refine tj_iload_n (q := 9) dX12_add_8 rfl (i := 1) rfl (pl := 1) rfl ?_
  refine tj_sndI (fun v1 => ?_)
  refine tj_iastore (q := 10) (hT).s_nStep dX12_add_9 rfl (fun σ2 => ?_)
  refine tj_aload_n (q := 11) dX12_add_10 rfl (i := 0) rfl (pl := 0) rfl ?_
  refine tj_getR (q := 14) (hT).s (hT).p_nArg fok_12_14 wl_RX12_27 dX12_add_11 rfl ?_
  refine tj_aload_n (q := 15) dX12_add_14 rfl (i := 0) rfl (pl := 0) rfl ?_
  refine tj_getI (q := 18) (hT).s fok_12_19 wl_RX12_284 dX12_add_15 rfl ?_
  refine tj_iload_n (q := 19) dX12_add_18 rfl (i := 2) rfl (pl := 2) rfl ?_
  refine tj_sndI (fun v3 => ?_)
  refine tj_iastore (q := 20) (hT).s_nArg dX12_add_19 rfl (fun σ4 => ?_)
  refine tj_aload_n (q := 21) dX12_add_20 rfl (i := 0) rfl (pl := 0) rfl ?_
  refine tj_dup (q := 22) dX12_add_21 rfl rfl ?_
  refine tj_getI (q := 25) (hT).s fok_12_19 wl_RX12_284 dX12_add_22 rfl ?_
  refine tj_iconst (q := 26) (v := 1) dX12_add_25 rfl (by decide) ?_
  refine tj_iadd (q := 27) dX12_add_26 rfl ?_
  refine tj_putI (q := 30) (hT).s fok_12_19 tok_12 fpk_12_19 wl_RX12_284 dX12_add_27 rfl (fun σ5 => ?_)
  exact tj_vret rfl rfl (Nat.le_of_ble_eq_true rfl) (Nat.le_of_ble_eq_true rfl) dX12_add_30

theorem dX12_tight_0 : decode cX12_tight 0 = .ok (.iload_n 0, 1) := by decide +kernel
theorem dX12_tight_1 : decode cX12_tight 1 = .ok (.lookupswitch 85 #[(21, 79), (38, 77), (43, 83), (45, 83), (60, 81), (61, 81), (62, 81), (124, 75)], 75) := by decide +kernel
theorem dX12_tight_76 : decode cX12_tight 76 = .ok (.iconst 1, 1) := by decide +kernel
theorem dX12_tight_77 : decode cX12_tight 77 = .ok (.ireturn, 1) := by decide +kernel
theorem dX12_tight_78 : decode cX12_tight 78 = .ok (.iconst 2, 1) := by decide +kernel
theorem dX12_tight_79 : decode cX12_tight 79 = .ok (.ireturn, 1) := by decide +kernel
theorem dX12_tight_80 : decode cX12_tight 80 = .ok (.iconst 3, 1) := by decide +kernel
theorem dX12_tight_81 : decode cX12_tight 81 = .ok (.ireturn, 1) := by decide +kernel
theorem dX12_tight_82 : decode cX12_tight 82 = .ok (.iconst 4, 1) := by decide +kernel
theorem dX12_tight_83 : decode cX12_tight 83 = .ok (.ireturn, 1) := by decide +kernel
theorem dX12_tight_84 : decode cX12_tight 84 = .ok (.iconst 5, 1) := by decide +kernel
theorem dX12_tight_85 : decode cX12_tight 85 = .ok (.ireturn, 1) := by decide +kernel
theorem dX12_tight_86 : decode cX12_tight 86 = .ok (.bipush 6, 2) := by decide +kernel
theorem dX12_tight_88 : decode cX12_tight 88 = .ok (.ireturn, 1) := by decide +kernel
def mX12_tight (p1 : Int32) (σ : St_) : Option Int32 :=
 (if p1 = 21 then (some (3 : Int32))
 else (if p1 = 38 then (some (2 : Int32))
 else (if p1 = 43 then (some (5 : Int32))
 else (if p1 = 45 then (some (5 : Int32))
 else (if p1 = 60 then (some (4 : Int32))
 else (if p1 = 61 then (some (4 : Int32))
 else (if p1 = 62 then (some (4 : Int32))
 else (if p1 = 124 then (some (1 : Int32))
 else (some (6 : Int32))))))))))
set_option maxHeartbeats 4000000 in
theorem rX12_tight (p1 : Int32)  : Rj l D cA h0 ad yX12_tight cX12_tight 1 (some .int) false 2 0 0 (fun b => (some (.int b), sh, P, σ)) [.int p1] sh P σ (mX12_tight p1 σ) := by
  rw [mX12_tight]
  refine Rj.of (by decide) (fun h => by cases h) (Nat.le_of_ble_eq_true rfl) ?_
  refine tj_lv0 (lv' := [(0, .int p1)]) rfl ?_
  refine tj_iload_n (q := 1) dX12_tight_0 rfl (i := 0) rfl (pl := 0) rfl ?_
  refine tj_caseI (fun hc1 => ?_) (fun hc1 => ?_)
  · refine tj_look (tgt := 80) (off := 79) dX12_tight_1 (by decide) (by rw [hc1]; first | done | decide) (by decide) ?_
    refine tj_iconst (q := 81) (v := 3) dX12_tight_80 rfl (by decide) ?_
    exact tj_iret rfl rfl (Nat.le_of_ble_eq_true rfl) (Nat.le_of_ble_eq_true rfl) dX12_tight_81
  · refine tj_caseI (fun hc2 => ?_) (fun hc2 => ?_)
    · refine tj_look (tgt := 78) (off := 77) dX12_tight_1 (by decide) (by rw [hc2]; first | done | decide) (by decide) ?_
      refine tj_iconst (q := 79) (v := 2) dX12_tight_78 rfl (by decide) ?_
      exact tj_iret rfl rfl (Nat.le_of_ble_eq_true rfl) (Nat.le_of_ble_eq_true rfl) dX12_tight_79
    · refine tj_caseI (fun hc3 => ?_) (fun hc3 => ?_)
      · refine tj_look (tgt := 84) (off := 83) dX12_tight_1 (by decide) (by rw [hc3]; first | done | decide) (by decide) ?_
        refine tj_iconst (q := 85) (v := 5) dX12_tight_84 rfl (by decide) ?_
        exact tj_iret rfl rfl (Nat.le_of_ble_eq_true rfl) (Nat.le_of_ble_eq_true rfl) dX12_tight_85
      · refine tj_caseI (fun hc4 => ?_) (fun hc4 => ?_)
        · refine tj_look (tgt := 84) (off := 83) dX12_tight_1 (by decide) (by rw [hc4]; first | done | decide) (by decide) ?_
          refine tj_iconst (q := 85) (v := 5) dX12_tight_84 rfl (by decide) ?_
          exact tj_iret rfl rfl (Nat.le_of_ble_eq_true rfl) (Nat.le_of_ble_eq_true rfl) dX12_tight_85
        · refine tj_caseI (fun hc5 => ?_) (fun hc5 => ?_)
          · refine tj_look (tgt := 82) (off := 81) dX12_tight_1 (by decide) (by rw [hc5]; first | done | decide) (by decide) ?_
            refine tj_iconst (q := 83) (v := 4) dX12_tight_82 rfl (by decide) ?_
            exact tj_iret rfl rfl (Nat.le_of_ble_eq_true rfl) (Nat.le_of_ble_eq_true rfl) dX12_tight_83
          · refine tj_caseI (fun hc6 => ?_) (fun hc6 => ?_)
            · refine tj_look (tgt := 82) (off := 81) dX12_tight_1 (by decide) (by rw [hc6]; first | done | decide) (by decide) ?_
              refine tj_iconst (q := 83) (v := 4) dX12_tight_82 rfl (by decide) ?_
              exact tj_iret rfl rfl (Nat.le_of_ble_eq_true rfl) (Nat.le_of_ble_eq_true rfl) dX12_tight_83
            · refine tj_caseI (fun hc7 => ?_) (fun hc7 => ?_)
              · refine tj_look (tgt := 82) (off := 81) dX12_tight_1 (by decide) (by rw [hc7]; first | done | decide) (by decide) ?_
                refine tj_iconst (q := 83) (v := 4) dX12_tight_82 rfl (by decide) ?_
                exact tj_iret rfl rfl (Nat.le_of_ble_eq_true rfl) (Nat.le_of_ble_eq_true rfl) dX12_tight_83
              · refine tj_caseI (fun hc8 => ?_) (fun hc8 => ?_)
                · refine tj_look (tgt := 76) (off := 75) dX12_tight_1 (by decide) (by rw [hc8]; first | done | decide) (by decide) ?_
                  refine tj_iconst (q := 77) (v := 1) dX12_tight_76 rfl (by decide) ?_
                  exact tj_iret rfl rfl (Nat.le_of_ble_eq_true rfl) (Nat.le_of_ble_eq_true rfl) dX12_tight_77
                · refine tj_look (tgt := 86) (off := 85) dX12_tight_1 (by decide) (by rw [show (#[(21, 79), (38, 77), (43, 83), (45, 83), (60, 81), (61, 81), (62, 81), (124, 75)] : Array (Int × Int)).toList = [(21, 79), (38, 77), (43, 83), (45, 83), (60, 81), (61, 81), (62, 81), (124, 75)] from rfl]; rw [lv_osw hc1 (by decide), lv_osw hc2 (by decide), lv_osw hc3 (by decide), lv_osw hc4 (by decide), lv_osw hc5 (by decide), lv_osw hc6 (by decide), lv_osw hc7 (by decide), lv_osw hc8 (by decide)]; first | done | rfl) (by decide) ?_
                  refine tj_bipush (q := 88) (v := 6) dX12_tight_86 rfl (by decide) ?_
                  exact tj_iret rfl rfl (Nat.le_of_ble_eq_true rfl) (Nat.le_of_ble_eq_true rfl) dX12_tight_88

theorem dX12_close_0 : decode cX12_close 0 = .ok (.aload_n 0, 1) := by decide +kernel
theorem dX12_close_1 : decode cX12_close 1 = .ok (.getfield 287, 3) := by decide +kernel
theorem dX12_close_4 : decode cX12_close 4 = .ok (.ifCond .le 97, 3) := by decide +kernel
theorem dX12_close_7 : decode cX12_close 7 = .ok (.aload_n 0, 1) := by decide +kernel
theorem dX12_close_8 : decode cX12_close 8 = .ok (.getfield 36, 3) := by decide +kernel
theorem dX12_close_11 : decode cX12_close 11 = .ok (.aload_n 0, 1) := by decide +kernel
theorem dX12_close_12 : decode cX12_close 12 = .ok (.getfield 287, 3) := by decide +kernel
theorem dX12_close_15 : decode cX12_close 15 = .ok (.iconst 1, 1) := by decide +kernel
theorem dX12_close_16 : decode cX12_close 16 = .ok (.isub, 1) := by decide +kernel
theorem dX12_close_17 : decode cX12_close 17 = .ok (.iaload, 1) := by decide +kernel
theorem dX12_close_18 : decode cX12_close 18 = .ok (.bipush 20, 2) := by decide +kernel
theorem dX12_close_20 : decode cX12_close 20 = .ok (.if_icmp .eq 81, 3) := by decide +kernel
theorem dX12_close_23 : decode cX12_close 23 = .ok (.aload_n 0, 1) := by decide +kernel
theorem dX12_close_24 : decode cX12_close 24 = .ok (.getfield 36, 3) := by decide +kernel
theorem dX12_close_27 : decode cX12_close 27 = .ok (.aload_n 0, 1) := by decide +kernel
theorem dX12_close_28 : decode cX12_close 28 = .ok (.getfield 287, 3) := by decide +kernel
theorem dX12_close_31 : decode cX12_close 31 = .ok (.iconst 1, 1) := by decide +kernel
theorem dX12_close_32 : decode cX12_close 32 = .ok (.isub, 1) := by decide +kernel
theorem dX12_close_33 : decode cX12_close 33 = .ok (.iaload, 1) := by decide +kernel
theorem dX12_close_34 : decode cX12_close 34 = .ok (.invokestatic 290, 3) := by decide +kernel
theorem dX12_close_37 : decode cX12_close 37 = .ok (.iload_n 1, 1) := by decide +kernel
theorem dX12_close_38 : decode cX12_close 38 = .ok (.if_icmp .lt 63, 3) := by decide +kernel
theorem dX12_close_41 : decode cX12_close 41 = .ok (.aload_n 0, 1) := by decide +kernel
theorem dX12_close_42 : decode cX12_close 42 = .ok (.dup, 1) := by decide +kernel
theorem dX12_close_43 : decode cX12_close 43 = .ok (.getfield 287, 3) := by decide +kernel
theorem dX12_close_46 : decode cX12_close 46 = .ok (.iconst 1, 1) := by decide +kernel
theorem dX12_close_47 : decode cX12_close 47 = .ok (.isub, 1) := by decide +kernel
theorem dX12_close_48 : decode cX12_close 48 = .ok (.putfield 287, 3) := by decide +kernel
theorem dX12_close_51 : decode cX12_close 51 = .ok (.aload_n 0, 1) := by decide +kernel
theorem dX12_close_52 : decode cX12_close 52 = .ok (.getfield 36, 3) := by decide +kernel
theorem dX12_close_55 : decode cX12_close 55 = .ok (.aload_n 0, 1) := by decide +kernel
theorem dX12_close_56 : decode cX12_close 56 = .ok (.getfield 287, 3) := by decide +kernel
theorem dX12_close_59 : decode cX12_close 59 = .ok (.iaload, 1) := by decide +kernel
theorem dX12_close_60 : decode cX12_close 60 = .ok (.bipush 21, 2) := by decide +kernel
theorem dX12_close_62 : decode cX12_close 62 = .ok (.if_icmp .ne 22, 3) := by decide +kernel
theorem dX12_close_65 : decode cX12_close 65 = .ok (.aload_n 0, 1) := by decide +kernel
theorem dX12_close_66 : decode cX12_close 66 = .ok (.iconst 2, 1) := by decide +kernel
theorem dX12_close_67 : decode cX12_close 67 = .ok (.iconst 0, 1) := by decide +kernel
theorem dX12_close_68 : decode cX12_close 68 = .ok (.invokevirtual 293, 3) := by decide +kernel
theorem dX12_close_71 : decode cX12_close 71 = .ok (.aload_n 0, 1) := by decide +kernel
theorem dX12_close_72 : decode cX12_close 72 = .ok (.dup, 1) := by decide +kernel
theorem dX12_close_73 : decode cX12_close 73 = .ok (.getfield 297, 3) := by decide +kernel
theorem dX12_close_76 : decode cX12_close 76 = .ok (.iconst 1, 1) := by decide +kernel
theorem dX12_close_77 : decode cX12_close 77 = .ok (.isub, 1) := by decide +kernel
theorem dX12_close_78 : decode cX12_close 78 = .ok (.putfield 297, 3) := by decide +kernel
theorem dX12_close_81 : decode cX12_close 81 = .ok (.goto (-81), 3) := by decide +kernel
theorem dX12_close_84 : decode cX12_close 84 = .ok (.aload_n 0, 1) := by decide +kernel
theorem dX12_close_85 : decode cX12_close 85 = .ok (.iconst 3, 1) := by decide +kernel
theorem dX12_close_86 : decode cX12_close 86 = .ok (.aload_n 0, 1) := by decide +kernel
theorem dX12_close_87 : decode cX12_close 87 = .ok (.getfield 36, 3) := by decide +kernel
theorem dX12_close_90 : decode cX12_close 90 = .ok (.aload_n 0, 1) := by decide +kernel
theorem dX12_close_91 : decode cX12_close 91 = .ok (.getfield 287, 3) := by decide +kernel
theorem dX12_close_94 : decode cX12_close 94 = .ok (.iaload, 1) := by decide +kernel
theorem dX12_close_95 : decode cX12_close 95 = .ok (.invokevirtual 293, 3) := by decide +kernel
theorem dX12_close_98 : decode cX12_close 98 = .ok (.goto (-98), 3) := by decide +kernel
theorem dX12_close_101 : decode cX12_close 101 = .ok (.return_, 1) := by decide +kernel
theorem wl_RX12_287 : Cond.fieldLink RX12 287 (TX12 21).1 (TX12 21).2.1 (TX12 21).2.2.1 ∈ TB := tbm 1436 (by decide +kernel) (by decide +kernel)
theorem wl_RX12_36 : Cond.fieldLink RX12 36 (TX12 17).1 (TX12 17).2.1 (TX12 17).2.2.1 ∈ TB := tbm 1432 (by decide +kernel) (by decide +kernel)
theorem wm_X12_tight : Cond.static yX12_tight ∈ TB ∧ Cond.initialized yX12_tight.cls ∈ TB ∧ Cond.code yX12_tight cX12_tight 1 (some .int) ∈ TB ∧ (yX12_tight.cls ≠ "java/lang/invoke/MethodHandle" ∧ yX12_tight.cls ≠ "java/lang/invoke/VarHandle" ∧ (parseMethodDescriptor yX12_tight.desc).map (fun d => d.parameters.length) = some 1) ∧ 1 ≤ 21 := ⟨tbm 1832 (by decide +kernel) (by decide +kernel), tbm 146 (by decide +kernel) (by decide +kernel), tbm 1833 (by decide +kernel) (by decide +kernel), by decide +kernel, by decide⟩
theorem wi_RX12_290 : Is RX12 290 yX12_tight cX12_tight 1 (some .int) 1 := ⟨tbm 1831 (by decide +kernel) (by decide +kernel), wm_X12_tight⟩
theorem wm_X12_add : Cond.instanceMethod yX12_add ∈ TB ∧ Cond.selects yX12_add.cls yX12_add yX12_add ∈ TB ∧ Cond.initialized yX12_add.cls ∈ TB ∧ Cond.code yX12_add cX12_add 3 none ∈ TB ∧ (yX12_add.cls ≠ "java/lang/invoke/MethodHandle" ∧ yX12_add.cls ≠ "java/lang/invoke/VarHandle" ∧ (parseMethodDescriptor yX12_add.desc).map (fun d => d.parameters.length) = some 2) ∧ 3 ≤ 21 := ⟨tbm 1852 (by decide +kernel) (by decide +kernel), tbm 83 (by decide +kernel) (by decide +kernel), tbm 146 (by decide +kernel) (by decide +kernel), tbm 1853 (by decide +kernel) (by decide +kernel), by decide +kernel, by decide⟩
theorem wi_RX12_293 : Iv RX12 293 yX12_add cX12_add 3 none 2 := ⟨tbm 1850 (by decide +kernel) (by decide +kernel), wm_X12_add⟩
theorem wl_RX12_297 : Cond.fieldLink RX12 297 (TX12 25).1 (TX12 25).2.1 (TX12 25).2.2.1 ∈ TB := tbm 1440 (by decide +kernel) (by decide +kernel)
def mX12_close_L0 (t : Nat) (x1 : Int32) : Nat → St_ → Option St_
  | 0, _ => none
  | n + 1, σ => (if (σ.1 t 21) ≤ 0 then
 (some σ)
 else (bnd ((σ.1 t 21) - (1 : Int32)) fun v1 =>
 (if bin v1 160 = true then bnd (σ.1 (t + 8) v1.toNatClampNeg) fun v2 =>
 (if v2 = (20 : Int32) then
 (some σ)
 else (bnd ((σ.1 t 21) - (1 : Int32)) fun v3 =>
 (if bin v3 160 = true then bnd (σ.1 (t + 8) v3.toNatClampNeg) fun v4 =>
 ((mX12_tight v4 σ).bind fun r5 =>
 (if r5 < x1 then
 (some σ)
 else (bnd (sI σ t 21 ((σ.1 t 21) - (1 : Int32))) fun σ6 =>
 (bnd (σ6.1 t 21) fun v7 =>
 (if bin v7 160 = true then bnd (σ6.1 (t + 8) v7.toNatClampNeg) fun v8 =>
 (if v8 = (21 : Int32) then
 ((mX12_add t (2 : Int32) (0 : Int32) σ6).bind fun σ9 =>
 (bnd (sI σ9 t 25 ((σ9.1 t 25) - (1 : Int32))) fun σ10 =>
 (mX12_close_L0 t x1 n σ10)))
 else (bnd (σ6.1 t 21) fun v11 =>
 (if bin v11 160 = true then bnd (σ6.1 (t + 8) v11.toNatClampNeg) fun v12 =>
 ((mX12_add t (3 : Int32) v12 σ6).bind fun σ13 =>
 (mX12_close_L0 t x1 n σ13))
 else none)))
 else none)))))
 else none)))
 else none)))
def mX12_close (t : Nat) (p1 : Int32) (σ : St_) : Option St_ :=
 (mX12_close_L0 t p1 FU σ)
set_option maxHeartbeats 4000000 in
theorem tmX12_close_L0 (t : Nat) (hT : LY12 sh P t) (x1 : Int32) : ∀ (n : Nat) (σ : St_), Tj l D cA h0 ad RX12 cX12_close 2 none false 3 0 0 (fun b => (none, sh, P, b)) 0 0 sh P σ 0 [(0, .ref (h0 + t)), (1, .int x1)] [] (mX12_close_L0 t x1 n σ) := by
  intro n
  induction n with
  | zero => intros; exact tj_none
  | succ n ih =>
    intro σ
    rw [mX12_close_L0]
    refine tj_aload_n (q := 1) dX12_close_0 rfl (i := 0) rfl (pl := 0) rfl ?_
    refine tj_getI (q := 4) (hT).s fok_12_21 wl_RX12_287 dX12_close_1 rfl ?_
    refine tj_if_le (tgt := 101) (q := 7) dX12_close_4 (by decide) rfl ?_ ?_
    · exact tj_vret rfl rfl (Nat.le_of_ble_eq_true rfl) (Nat.le_of_ble_eq_true rfl) dX12_close_101
    · refine tj_aload_n (q := 8) dX12_close_7 rfl (i := 0) rfl (pl := 0) rfl ?_
      refine tj_getR (q := 11) (hT).s (hT).p_open fok_12_17 wl_RX12_36 dX12_close_8 rfl ?_
      refine tj_aload_n (q := 12) dX12_close_11 rfl (i := 0) rfl (pl := 0) rfl ?_
      refine tj_getI (q := 15) (hT).s fok_12_21 wl_RX12_287 dX12_close_12 rfl ?_
      refine tj_iconst (q := 16) (v := 1) dX12_close_15 rfl (by decide) ?_
      refine tj_isub (q := 17) dX12_close_16 rfl ?_
      refine tj_topI (fun v1 => ?_)
      refine tj_iaload (q := 18) (hT).s_open dX12_close_17 rfl ?_
      refine tj_topI (fun v2 => ?_)
      refine tj_bipush (q := 20) (v := 20) dX12_close_18 rfl (by decide) ?_
      refine tj_icmp_eq (tgt := 101) (q := 23) dX12_close_20 (by decide) rfl ?_ ?_
      · exact tj_vret rfl rfl (Nat.le_of_ble_eq_true rfl) (Nat.le_of_ble_eq_true rfl) dX12_close_101
      · refine tj_aload_n (q := 24) dX12_close_23 rfl (i := 0) rfl (pl := 0) rfl ?_
        refine tj_getR (q := 27) (hT).s (hT).p_open fok_12_17 wl_RX12_36 dX12_close_24 rfl ?_
        refine tj_aload_n (q := 28) dX12_close_27 rfl (i := 0) rfl (pl := 0) rfl ?_
        refine tj_getI (q := 31) (hT).s fok_12_21 wl_RX12_287 dX12_close_28 rfl ?_
        refine tj_iconst (q := 32) (v := 1) dX12_close_31 rfl (by decide) ?_
        refine tj_isub (q := 33) dX12_close_32 rfl ?_
        refine tj_topI (fun v3 => ?_)
        refine tj_iaload (q := 34) (hT).s_open dX12_close_33 rfl ?_
        refine tj_topI (fun v4 => ?_)
        refine tj_callIp (q := 37) (kj_S (As := [.int v4]) (rest := []) wi_RX12_290 (rX12_tight v4) rfl (Nat.le_of_ble_eq_true rfl) ⟨Nat.le_of_ble_eq_true rfl, Nat.le_of_ble_eq_true rfl⟩ (Nat.le_of_ble_eq_true rfl) dX12_close_34) rfl (fun r5 => ?_)
        refine tj_iload_n (q := 38) dX12_close_37 rfl (i := 1) rfl (pl := 1) rfl ?_
        refine tj_icmp_lt (tgt := 101) (q := 41) dX12_close_38 (by decide) rfl ?_ ?_
        · exact tj_vret rfl rfl (Nat.le_of_ble_eq_true rfl) (Nat.le_of_ble_eq_true rfl) dX12_close_101
        · refine tj_aload_n (q := 42) dX12_close_41 rfl (i := 0) rfl (pl := 0) rfl ?_
          refine tj_dup (q := 43) dX12_close_42 rfl rfl ?_
          refine tj_getI (q := 46) (hT).s fok_12_21 wl_RX12_287 dX12_close_43 rfl ?_
          refine tj_iconst (q := 47) (v := 1) dX12_close_46 rfl (by decide) ?_
          refine tj_isub (q := 48) dX12_close_47 rfl ?_
          refine tj_putI (q := 51) (hT).s fok_12_21 tok_12 fpk_12_21 wl_RX12_287 dX12_close_48 rfl (fun σ6 => ?_)
          refine tj_aload_n (q := 52) dX12_close_51 rfl (i := 0) rfl (pl := 0) rfl ?_
          refine tj_getR (q := 55) (hT).s (hT).p_open fok_12_17 wl_RX12_36 dX12_close_52 rfl ?_
          refine tj_aload_n (q := 56) dX12_close_55 rfl (i := 0) rfl (pl := 0) rfl ?_
          refine tj_getI (q := 59) (hT).s fok_12_21 wl_RX12_287 dX12_close_56 rfl ?_
          refine tj_topI (fun v7 => ?_)
          refine tj_iaload (q := 60) (hT).s_open dX12_close_59 rfl ?_
          refine tj_topI (fun v8 => ?_)
          refine tj_bipush (q := 62) (v := 21) dX12_close_60 rfl (by decide) ?_
          refine tj_icmp_ne (tgt := 84) (q := 65) dX12_close_62 (by decide) rfl ?_ ?_
          · refine tj_aload_n (q := 66) dX12_close_65 rfl (i := 0) rfl (pl := 0) rfl ?_
            refine tj_iconst (q := 67) (v := 2) dX12_close_66 rfl (by decide) ?_
            refine tj_iconst (q := 68) (v := 0) dX12_close_67 rfl (by decide) ?_
            refine tj_callV (q := 71) (kj_V (As := [.int (2 : Int32), .int (0 : Int32)]) (rest := []) (t := t) wi_RX12_293 (hT).s rfl (rX12_add t (2 : Int32) (0 : Int32) (hT)) rfl (Nat.le_of_ble_eq_true rfl) ⟨Nat.le_of_ble_eq_true rfl, Nat.le_of_ble_eq_true rfl⟩ (Nat.le_of_ble_eq_true rfl) dX12_close_68) rfl (fun σ9 => ?_)
            refine tj_aload_n (q := 72) dX12_close_71 rfl (i := 0) rfl (pl := 0) rfl ?_
            refine tj_dup (q := 73) dX12_close_72 rfl rfl ?_
            refine tj_getI (q := 76) (hT).s fok_12_25 wl_RX12_297 dX12_close_73 rfl ?_
            refine tj_iconst (q := 77) (v := 1) dX12_close_76 rfl (by decide) ?_
            refine tj_isub (q := 78) dX12_close_77 rfl ?_
            refine tj_putI (q := 81) (hT).s fok_12_25 tok_12 fpk_12_25 wl_RX12_297 dX12_close_78 rfl (fun σ10 => ?_)
            refine tj_goto (q := 0) dX12_close_81 (by decide) ?_
            exact ih σ10
          · refine tj_aload_n (q := 85) dX12_close_84 rfl (i := 0) rfl (pl := 0) rfl ?_
            refine tj_iconst (q := 86) (v := 3) dX12_close_85 rfl (by decide) ?_
            refine tj_aload_n (q := 87) dX12_close_86 rfl (i := 0) rfl (pl := 0) rfl ?_
            refine tj_getR (q := 90) (hT).s (hT).p_open fok_12_17 wl_RX12_36 dX12_close_87 rfl ?_
            refine tj_aload_n (q := 91) dX12_close_90 rfl (i := 0) rfl (pl := 0) rfl ?_
            refine tj_getI (q := 94) (hT).s fok_12_21 wl_RX12_287 dX12_close_91 rfl ?_
            refine tj_topI (fun v11 => ?_)
            refine tj_iaload (q := 95) (hT).s_open dX12_close_94 rfl ?_
            refine tj_topI (fun v12 => ?_)
            refine tj_callV (q := 98) (kj_V (As := [.int (3 : Int32), .int v12]) (rest := []) (t := t) wi_RX12_293 (hT).s rfl (rX12_add t (3 : Int32) v12 (hT)) rfl (Nat.le_of_ble_eq_true rfl) ⟨Nat.le_of_ble_eq_true rfl, Nat.le_of_ble_eq_true rfl⟩ (Nat.le_of_ble_eq_true rfl) dX12_close_95) rfl (fun σ13 => ?_)
            refine tj_goto (q := 0) dX12_close_98 (by decide) ?_
            exact ih σ13

set_option maxHeartbeats 4000000 in
theorem rX12_close (t : Nat) (p1 : Int32) (hT : LY12 sh P t) : Rj l D cA h0 ad yX12_close cX12_close 2 none false 3 0 0 (fun b => (none, sh, P, b)) [.ref (h0 + t), .int p1] sh P σ (mX12_close t p1 σ) := by
  rw [mX12_close]
  refine Rj.of (by decide) (fun h => by cases h) (Nat.le_of_ble_eq_true rfl) ?_
  refine tj_lv0 (lv' := [(0, .ref (h0 + t)), (1, .int p1)]) rfl ?_
  exact tmX12_close_L0 t hT p1 FU σ

theorem dX12_hasRelation_0 : decode cX12_hasRelation 0 = .ok (.aload_n 0, 1) := by decide +kernel
theorem dX12_hasRelation_1 : decode cX12_hasRelation 1 = .ok (.getfield 287, 3) := by decide +kernel
theorem dX12_hasRelation_4 : decode cX12_hasRelation 4 = .ok (.iconst 1, 1) := by decide +kernel
theorem dX12_hasRelation_5 : decode cX12_hasRelation 5 = .ok (.isub, 1) := by decide +kernel
theorem dX12_hasRelation_6 : decode cX12_hasRelation 6 = .ok (.istore_n 1, 1) := by decide +kernel
theorem dX12_hasRelation_7 : decode cX12_hasRelation 7 = .ok (.iload_n 1, 1) := by decide +kernel
theorem dX12_hasRelation_8 : decode cX12_hasRelation 8 = .ok (.ifCond .lt 33, 3) := by decide +kernel
theorem dX12_hasRelation_11 : decode cX12_hasRelation 11 = .ok (.aload_n 0, 1) := by decide +kernel
theorem dX12_hasRelation_12 : decode cX12_hasRelation 12 = .ok (.getfield 36, 3) := by decide +kernel
theorem dX12_hasRelation_15 : decode cX12_hasRelation 15 = .ok (.iload_n 1, 1) := by decide +kernel
theorem dX12_hasRelation_16 : decode cX12_hasRelation 16 = .ok (.iaload, 1) := by decide +kernel
theorem dX12_hasRelation_17 : decode cX12_hasRelation 17 = .ok (.bipush 20, 2) := by decide +kernel
theorem dX12_hasRelation_19 : decode cX12_hasRelation 19 = .ok (.if_icmp .eq 22, 3) := by decide +kernel
theorem dX12_hasRelation_22 : decode cX12_hasRelation 22 = .ok (.aload_n 0, 1) := by decide +kernel
theorem dX12_hasRelation_23 : decode cX12_hasRelation 23 = .ok (.getfield 36, 3) := by decide +kernel
theorem dX12_hasRelation_26 : decode cX12_hasRelation 26 = .ok (.iload_n 1, 1) := by decide +kernel
theorem dX12_hasRelation_27 : decode cX12_hasRelation 27 = .ok (.iaload, 1) := by decide +kernel
theorem dX12_hasRelation_28 : decode cX12_hasRelation 28 = .ok (.invokestatic 290, 3) := by decide +kernel
theorem dX12_hasRelation_31 : decode cX12_hasRelation 31 = .ok (.iconst 4, 1) := by decide +kernel
theorem dX12_hasRelation_32 : decode cX12_hasRelation 32 = .ok (.if_icmp .le 9, 3) := by decide +kernel
theorem dX12_hasRelation_35 : decode cX12_hasRelation 35 = .ok (.iinc 1 (-1), 3) := by decide +kernel
theorem dX12_hasRelation_38 : decode cX12_hasRelation 38 = .ok (.goto (-31), 3) := by decide +kernel
theorem dX12_hasRelation_41 : decode cX12_hasRelation 41 = .ok (.iload_n 1, 1) := by decide +kernel
theorem dX12_hasRelation_42 : decode cX12_hasRelation 42 = .ok (.ifCond .lt 31, 3) := by decide +kernel
theorem dX12_hasRelation_45 : decode cX12_hasRelation 45 = .ok (.aload_n 0, 1) := by decide +kernel
theorem dX12_hasRelation_46 : decode cX12_hasRelation 46 = .ok (.getfield 36, 3) := by decide +kernel
theorem dX12_hasRelation_49 : decode cX12_hasRelation 49 = .ok (.iload_n 1, 1) := by decide +kernel
theorem dX12_hasRelation_50 : decode cX12_hasRelation 50 = .ok (.iaload, 1) := by decide +kernel
theorem dX12_hasRelation_51 : decode cX12_hasRelation 51 = .ok (.bipush 20, 2) := by decide +kernel
theorem dX12_hasRelation_53 : decode cX12_hasRelation 53 = .ok (.if_icmp .eq 20, 3) := by decide +kernel
theorem dX12_hasRelation_56 : decode cX12_hasRelation 56 = .ok (.aload_n 0, 1) := by decide +kernel
theorem dX12_hasRelation_57 : decode cX12_hasRelation 57 = .ok (.getfield 36, 3) := by decide +kernel
theorem dX12_hasRelation_60 : decode cX12_hasRelation 60 = .ok (.iload_n 1, 1) := by decide +kernel
theorem dX12_hasRelation_61 : decode cX12_hasRelation 61 = .ok (.iaload, 1) := by decide +kernel
theorem dX12_hasRelation_62 : decode cX12_hasRelation 62 = .ok (.invokestatic 290, 3) := by decide +kernel
theorem dX12_hasRelation_65 : decode cX12_hasRelation 65 = .ok (.iconst 4, 1) := by decide +kernel
theorem dX12_hasRelation_66 : decode cX12_hasRelation 66 = .ok (.if_icmp .ne 7, 3) := by decide +kernel
theorem dX12_hasRelation_69 : decode cX12_hasRelation 69 = .ok (.iconst 1, 1) := by decide +kernel
theorem dX12_hasRelation_70 : decode cX12_hasRelation 70 = .ok (.goto 4, 3) := by decide +kernel
theorem dX12_hasRelation_73 : decode cX12_hasRelation 73 = .ok (.iconst 0, 1) := by decide +kernel
theorem dX12_hasRelation_74 : decode cX12_hasRelation 74 = .ok (.ireturn, 1) := by decide +kernel
def mX12_hasRelation_L7 (t : Nat) (σ : St_) (k41 : Int32 → Option Bool) : Nat → Int32 → Option Bool
  | 0, _ => none
  | n + 1, x1 => (if x1 < 0 then
 (k41 x1)
 else (if bin x1 160 = true then bnd (σ.1 (t + 8) x1.toNatClampNeg) fun v2 =>
 (if v2 = (20 : Int32) then
 (k41 x1)
 else (if bin x1 160 = true then bnd (σ.1 (t + 8) x1.toNatClampNeg) fun v3 =>
 ((mX12_tight v3 σ).bind fun r4 =>
 (if r4 ≤ (4 : Int32) then
 (k41 x1)
 else (mX12_hasRelation_L7 t σ k41 n (x1 + (-1)))))
 else none))
 else none))
def mX12_hasRelation (t : Nat) (σ : St_) : Option Bool :=
 (bnd ((σ.1 t 21) - (1 : Int32)) fun v1 =>
 (mX12_hasRelation_L7 t σ
 (fun (y5 : Int32) => (if y5 < 0 then
 (some false)
 else (if bin y5 160 = true then bnd (σ.1 (t + 8) y5.toNatClampNeg) fun v6 =>
 (if v6 = (20 : Int32) then
 (some false)
 else (if bin y5 160 = true then bnd (σ.1 (t + 8) y5.toNatClampNeg) fun v7 =>
 ((mX12_tight v7 σ).bind fun r8 =>
 (if r8 = (4 : Int32) then
 (some true)
 else (some false)))
 else none))
 else none))) FU v1))
set_option maxHeartbeats 4000000 in
theorem tmX12_hasRelation_L7 (σ : St_) (t : Nat) (hT : LY12 sh P t) (k41 : Int32 → Option Bool) (hk41 : ∀ (y1 : Int32), Tj l D cA h0 ad RX12 cX12_hasRelation 2 (some .boolean) false 3 0 0 (fun b => (some (.int (b2i b)), sh, P, σ)) 0 0 sh P σ 41 [(0, .ref (h0 + t)), (1, .int y1)] [] (k41 y1)) : ∀ (n : Nat) (x1 : Int32), Tj l D cA h0 ad RX12 cX12_hasRelation 2 (some .boolean) false 3 0 0 (fun b => (some (.int (b2i b)), sh, P, σ)) 0 0 sh P σ 7 [(0, .ref (h0 + t)), (1, .int x1)] [] (mX12_hasRelation_L7 t σ k41 n x1) := by
  intro n
  induction n with
  | zero => intros; exact tj_none
  | succ n ih =>
    intro x1
    rw [mX12_hasRelation_L7]
    refine tj_iload_n (q := 8) dX12_hasRelation_7 rfl (i := 1) rfl (pl := 1) rfl ?_
    refine tj_if_lt (tgt := 41) (q := 11) dX12_hasRelation_8 (by decide) rfl ?_ ?_
    · exact hk41 x1
    · refine tj_aload_n (q := 12) dX12_hasRelation_11 rfl (i := 0) rfl (pl := 0) rfl ?_
      refine tj_getR (q := 15) (hT).s (hT).p_open fok_12_17 wl_RX12_36 dX12_hasRelation_12 rfl ?_
      refine tj_iload_n (q := 16) dX12_hasRelation_15 rfl (i := 1) rfl (pl := 1) rfl ?_
      refine tj_iaload (q := 17) (hT).s_open dX12_hasRelation_16 rfl ?_
      refine tj_topI (fun v2 => ?_)
      refine tj_bipush (q := 19) (v := 20) dX12_hasRelation_17 rfl (by decide) ?_
      refine tj_icmp_eq (tgt := 41) (q := 22) dX12_hasRelation_19 (by decide) rfl ?_ ?_
      · exact hk41 x1
      · refine tj_aload_n (q := 23) dX12_hasRelation_22 rfl (i := 0) rfl (pl := 0) rfl ?_
        refine tj_getR (q := 26) (hT).s (hT).p_open fok_12_17 wl_RX12_36 dX12_hasRelation_23 rfl ?_
        refine tj_iload_n (q := 27) dX12_hasRelation_26 rfl (i := 1) rfl (pl := 1) rfl ?_
        refine tj_iaload (q := 28) (hT).s_open dX12_hasRelation_27 rfl ?_
        refine tj_topI (fun v3 => ?_)
        refine tj_callIp (q := 31) (kj_S (As := [.int v3]) (rest := []) wi_RX12_290 (rX12_tight v3) rfl (Nat.le_of_ble_eq_true rfl) ⟨Nat.le_of_ble_eq_true rfl, Nat.le_of_ble_eq_true rfl⟩ (Nat.le_of_ble_eq_true rfl) dX12_hasRelation_28) rfl (fun r4 => ?_)
        refine tj_iconst (q := 32) (v := 4) dX12_hasRelation_31 rfl (by decide) ?_
        refine tj_icmp_le (tgt := 41) (q := 35) dX12_hasRelation_32 (by decide) rfl ?_ ?_
        · exact hk41 x1
        · refine tj_iinc (q := 38) (v := x1 + (-1)) dX12_hasRelation_35 rfl (pl := 1) rfl rfl (by decide) rfl ?_
          refine tj_goto (q := 7) dX12_hasRelation_38 (by decide) ?_
          refine tj_lv [1, 0] rfl ?_
          exact ih (x1 + (-1))

set_option maxHeartbeats 4000000 in
theorem rX12_hasRelation (t : Nat) (hT : LY12 sh P t) : Rj l D cA h0 ad yX12_hasRelation cX12_hasRelation 2 (some .boolean) false 3 0 0 (fun b => (some (.int (b2i b)), sh, P, σ)) [.ref (h0 + t)] sh P σ (mX12_hasRelation t σ) := by
  rw [mX12_hasRelation]
  refine Rj.of (by decide) (fun h => by cases h) (Nat.le_of_ble_eq_true rfl) ?_
  refine tj_lv0 (lv' := [(0, .ref (h0 + t))]) rfl ?_
  refine tj_aload_n (q := 1) dX12_hasRelation_0 rfl (i := 0) rfl (pl := 0) rfl ?_
  refine tj_getI (q := 4) (hT).s fok_12_21 wl_RX12_287 dX12_hasRelation_1 rfl ?_
  refine tj_iconst (q := 5) (v := 1) dX12_hasRelation_4 rfl (by decide) ?_
  refine tj_isub (q := 6) dX12_hasRelation_5 rfl ?_
  refine tj_topI (fun v1 => ?_)
  refine tj_istore_n (q := 7) dX12_hasRelation_6 rfl (i := 1) rfl (by decide) rfl ?_
  refine tj_lv [1, 0] rfl ?_
  refine tmX12_hasRelation_L7 σ t hT _ ?_ FU v1
  · intro y5
    refine tj_iload_n (q := 42) dX12_hasRelation_41 rfl (i := 1) rfl (pl := 1) rfl ?_
    refine tj_if_lt (tgt := 73) (q := 45) dX12_hasRelation_42 (by decide) rfl ?_ ?_
    · refine tj_iconst (q := 74) (v := 0) dX12_hasRelation_73 rfl (by decide) ?_
      exact tj_zret rfl (by decide) rfl (Nat.le_of_ble_eq_true rfl) (Nat.le_of_ble_eq_true rfl) dX12_hasRelation_74
    · refine tj_aload_n (q := 46) dX12_hasRelation_45 rfl (i := 0) rfl (pl := 0) rfl ?_
      refine tj_getR (q := 49) (hT).s (hT).p_open fok_12_17 wl_RX12_36 dX12_hasRelation_46 rfl ?_
      refine tj_iload_n (q := 50) dX12_hasRelation_49 rfl (i := 1) rfl (pl := 1) rfl ?_
      refine tj_iaload (q := 51) (hT).s_open dX12_hasRelation_50 rfl ?_
      refine tj_topI (fun v6 => ?_)
      refine tj_bipush (q := 53) (v := 20) dX12_hasRelation_51 rfl (by decide) ?_
      refine tj_icmp_eq (tgt := 73) (q := 56) dX12_hasRelation_53 (by decide) rfl ?_ ?_
      · refine tj_iconst (q := 74) (v := 0) dX12_hasRelation_73 rfl (by decide) ?_
        exact tj_zret rfl (by decide) rfl (Nat.le_of_ble_eq_true rfl) (Nat.le_of_ble_eq_true rfl) dX12_hasRelation_74
      · refine tj_aload_n (q := 57) dX12_hasRelation_56 rfl (i := 0) rfl (pl := 0) rfl ?_
        refine tj_getR (q := 60) (hT).s (hT).p_open fok_12_17 wl_RX12_36 dX12_hasRelation_57 rfl ?_
        refine tj_iload_n (q := 61) dX12_hasRelation_60 rfl (i := 1) rfl (pl := 1) rfl ?_
        refine tj_iaload (q := 62) (hT).s_open dX12_hasRelation_61 rfl ?_
        refine tj_topI (fun v7 => ?_)
        refine tj_callIp (q := 65) (kj_S (As := [.int v7]) (rest := []) wi_RX12_290 (rX12_tight v7) rfl (Nat.le_of_ble_eq_true rfl) ⟨Nat.le_of_ble_eq_true rfl, Nat.le_of_ble_eq_true rfl⟩ (Nat.le_of_ble_eq_true rfl) dX12_hasRelation_62) rfl (fun r8 => ?_)
        refine tj_iconst (q := 66) (v := 4) dX12_hasRelation_65 rfl (by decide) ?_
        refine tj_icmp_ne (tgt := 73) (q := 69) dX12_hasRelation_66 (by decide) rfl ?_ ?_
        · refine tj_iconst (q := 70) (v := 1) dX12_hasRelation_69 rfl (by decide) ?_
          refine tj_goto (q := 74) dX12_hasRelation_70 (by decide) ?_
          exact tj_zret rfl (by decide) rfl (Nat.le_of_ble_eq_true rfl) (Nat.le_of_ble_eq_true rfl) dX12_hasRelation_74
        · refine tj_iconst (q := 74) (v := 0) dX12_hasRelation_73 rfl (by decide) ?_
          exact tj_zret rfl (by decide) rfl (Nat.le_of_ble_eq_true rfl) (Nat.le_of_ble_eq_true rfl) dX12_hasRelation_74

theorem dX12_mayNot_0 : decode cX12_mayNot 0 = .ok (.aload_n 0, 1) := by decide +kernel
theorem dX12_mayNot_1 : decode cX12_mayNot 1 = .ok (.getfield 287, 3) := by decide +kernel
theorem dX12_mayNot_4 : decode cX12_mayNot 4 = .ok (.ifCond .eq 37, 3) := by decide +kernel
theorem dX12_mayNot_7 : decode cX12_mayNot 7 = .ok (.aload_n 0, 1) := by decide +kernel
theorem dX12_mayNot_8 : decode cX12_mayNot 8 = .ok (.getfield 36, 3) := by decide +kernel
theorem dX12_mayNot_11 : decode cX12_mayNot 11 = .ok (.aload_n 0, 1) := by decide +kernel
theorem dX12_mayNot_12 : decode cX12_mayNot 12 = .ok (.getfield 287, 3) := by decide +kernel
theorem dX12_mayNot_15 : decode cX12_mayNot 15 = .ok (.iconst 1, 1) := by decide +kernel
theorem dX12_mayNot_16 : decode cX12_mayNot 16 = .ok (.isub, 1) := by decide +kernel
theorem dX12_mayNot_17 : decode cX12_mayNot 17 = .ok (.iaload, 1) := by decide +kernel
theorem dX12_mayNot_18 : decode cX12_mayNot 18 = .ok (.bipush 20, 2) := by decide +kernel
theorem dX12_mayNot_20 : decode cX12_mayNot 20 = .ok (.if_icmp .eq 21, 3) := by decide +kernel
theorem dX12_mayNot_23 : decode cX12_mayNot 23 = .ok (.aload_n 0, 1) := by decide +kernel
theorem dX12_mayNot_24 : decode cX12_mayNot 24 = .ok (.getfield 36, 3) := by decide +kernel
theorem dX12_mayNot_27 : decode cX12_mayNot 27 = .ok (.aload_n 0, 1) := by decide +kernel
theorem dX12_mayNot_28 : decode cX12_mayNot 28 = .ok (.getfield 287, 3) := by decide +kernel
theorem dX12_mayNot_31 : decode cX12_mayNot 31 = .ok (.iconst 1, 1) := by decide +kernel
theorem dX12_mayNot_32 : decode cX12_mayNot 32 = .ok (.isub, 1) := by decide +kernel
theorem dX12_mayNot_33 : decode cX12_mayNot 33 = .ok (.iaload, 1) := by decide +kernel
theorem dX12_mayNot_34 : decode cX12_mayNot 34 = .ok (.invokestatic 290, 3) := by decide +kernel
theorem dX12_mayNot_37 : decode cX12_mayNot 37 = .ok (.iconst 4, 1) := by decide +kernel
theorem dX12_mayNot_38 : decode cX12_mayNot 38 = .ok (.if_icmp .ge 7, 3) := by decide +kernel
theorem dX12_mayNot_41 : decode cX12_mayNot 41 = .ok (.iconst 1, 1) := by decide +kernel
theorem dX12_mayNot_42 : decode cX12_mayNot 42 = .ok (.goto 4, 3) := by decide +kernel
theorem dX12_mayNot_45 : decode cX12_mayNot 45 = .ok (.iconst 0, 1) := by decide +kernel
theorem dX12_mayNot_46 : decode cX12_mayNot 46 = .ok (.ireturn, 1) := by decide +kernel
def mX12_mayNot (t : Nat) (σ : St_) : Option Bool :=
 (if (σ.1 t 21) = 0 then
 (some true)
 else (bnd ((σ.1 t 21) - (1 : Int32)) fun v1 =>
 (if bin v1 160 = true then bnd (σ.1 (t + 8) v1.toNatClampNeg) fun v2 =>
 (if v2 = (20 : Int32) then
 (some true)
 else (bnd ((σ.1 t 21) - (1 : Int32)) fun v3 =>
 (if bin v3 160 = true then bnd (σ.1 (t + 8) v3.toNatClampNeg) fun v4 =>
 ((mX12_tight v4 σ).bind fun r5 =>
 (if (4 : Int32) ≤ r5 then
 (some false)
 else (some true)))
 else none)))
 else none)))
set_option maxHeartbeats 4000000 in
theorem rX12_mayNot (t : Nat) (hT : LY12 sh P t) : Rj l D cA h0 ad yX12_mayNot cX12_mayNot 1 (some .boolean) false 3 0 0 (fun b => (some (.int (b2i b)), sh, P, σ)) [.ref (h0 + t)] sh P σ (mX12_mayNot t σ) := by
  rw [mX12_mayNot]
  refine Rj.of (by decide) (fun h => by cases h) (Nat.le_of_ble_eq_true rfl) ?_
  refine tj_lv0 (lv' := [(0, .ref (h0 + t))]) rfl ?_
  refine tj_aload_n (q := 1) dX12_mayNot_0 rfl (i := 0) rfl (pl := 0) rfl ?_
  refine tj_getI (q := 4) (hT).s fok_12_21 wl_RX12_287 dX12_mayNot_1 rfl ?_
  refine tj_if_eq (tgt := 41) (q := 7) dX12_mayNot_4 (by decide) rfl ?_ ?_
  · refine tj_iconst (q := 42) (v := 1) dX12_mayNot_41 rfl (by decide) ?_
    refine tj_goto (q := 46) dX12_mayNot_42 (by decide) ?_
    exact tj_zret rfl (by decide) rfl (Nat.le_of_ble_eq_true rfl) (Nat.le_of_ble_eq_true rfl) dX12_mayNot_46
  · refine tj_aload_n (q := 8) dX12_mayNot_7 rfl (i := 0) rfl (pl := 0) rfl ?_
    refine tj_getR (q := 11) (hT).s (hT).p_open fok_12_17 wl_RX12_36 dX12_mayNot_8 rfl ?_
    refine tj_aload_n (q := 12) dX12_mayNot_11 rfl (i := 0) rfl (pl := 0) rfl ?_
    refine tj_getI (q := 15) (hT).s fok_12_21 wl_RX12_287 dX12_mayNot_12 rfl ?_
    refine tj_iconst (q := 16) (v := 1) dX12_mayNot_15 rfl (by decide) ?_
    refine tj_isub (q := 17) dX12_mayNot_16 rfl ?_
    refine tj_topI (fun v1 => ?_)
    refine tj_iaload (q := 18) (hT).s_open dX12_mayNot_17 rfl ?_
    refine tj_topI (fun v2 => ?_)
    refine tj_bipush (q := 20) (v := 20) dX12_mayNot_18 rfl (by decide) ?_
    refine tj_icmp_eq (tgt := 41) (q := 23) dX12_mayNot_20 (by decide) rfl ?_ ?_
    · refine tj_iconst (q := 42) (v := 1) dX12_mayNot_41 rfl (by decide) ?_
      refine tj_goto (q := 46) dX12_mayNot_42 (by decide) ?_
      exact tj_zret rfl (by decide) rfl (Nat.le_of_ble_eq_true rfl) (Nat.le_of_ble_eq_true rfl) dX12_mayNot_46
    · refine tj_aload_n (q := 24) dX12_mayNot_23 rfl (i := 0) rfl (pl := 0) rfl ?_
      refine tj_getR (q := 27) (hT).s (hT).p_open fok_12_17 wl_RX12_36 dX12_mayNot_24 rfl ?_
      refine tj_aload_n (q := 28) dX12_mayNot_27 rfl (i := 0) rfl (pl := 0) rfl ?_
      refine tj_getI (q := 31) (hT).s fok_12_21 wl_RX12_287 dX12_mayNot_28 rfl ?_
      refine tj_iconst (q := 32) (v := 1) dX12_mayNot_31 rfl (by decide) ?_
      refine tj_isub (q := 33) dX12_mayNot_32 rfl ?_
      refine tj_topI (fun v3 => ?_)
      refine tj_iaload (q := 34) (hT).s_open dX12_mayNot_33 rfl ?_
      refine tj_topI (fun v4 => ?_)
      refine tj_callIp (q := 37) (kj_S (As := [.int v4]) (rest := []) wi_RX12_290 (rX12_tight v4) rfl (Nat.le_of_ble_eq_true rfl) ⟨Nat.le_of_ble_eq_true rfl, Nat.le_of_ble_eq_true rfl⟩ (Nat.le_of_ble_eq_true rfl) dX12_mayNot_34) rfl (fun r5 => ?_)
      refine tj_iconst (q := 38) (v := 4) dX12_mayNot_37 rfl (by decide) ?_
      refine tj_icmp_ge (tgt := 45) (q := 41) dX12_mayNot_38 (by decide) rfl ?_ ?_
      · refine tj_iconst (q := 46) (v := 0) dX12_mayNot_45 rfl (by decide) ?_
        exact tj_zret rfl (by decide) rfl (Nat.le_of_ble_eq_true rfl) (Nat.le_of_ble_eq_true rfl) dX12_mayNot_46
      · refine tj_iconst (q := 42) (v := 1) dX12_mayNot_41 rfl (by decide) ?_
        refine tj_goto (q := 46) dX12_mayNot_42 (by decide) ?_
        exact tj_zret rfl (by decide) rfl (Nat.le_of_ble_eq_true rfl) (Nat.le_of_ble_eq_true rfl) dX12_mayNot_46

theorem dX12_asked_0 : decode cX12_asked 0 = .ok (.aload_n 0, 1) := by decide +kernel
theorem dX12_asked_1 : decode cX12_asked 1 = .ok (.getfield 190, 3) := by decide +kernel
theorem dX12_asked_4 : decode cX12_asked 4 = .ok (.iconst 1, 1) := by decide +kernel
theorem dX12_asked_5 : decode cX12_asked 5 = .ok (.if_icmp .eq 5, 3) := by decide +kernel
theorem dX12_asked_8 : decode cX12_asked 8 = .ok (.iconst (-1), 1) := by decide +kernel
theorem dX12_asked_9 : decode cX12_asked 9 = .ok (.ireturn, 1) := by decide +kernel
theorem dX12_asked_10 : decode cX12_asked 10 = .ok (.aload_n 0, 1) := by decide +kernel
theorem dX12_asked_11 : decode cX12_asked 11 = .ok (.getfield 183, 3) := by decide +kernel
theorem dX12_asked_14 : decode cX12_asked 14 = .ok (.ldc2_w 238, 3) := by decide +kernel
theorem dX12_asked_17 : decode cX12_asked 17 = .ok (.lcmp, 1) := by decide +kernel
theorem dX12_asked_18 : decode cX12_asked 18 = .ok (.ifCond .ne 5, 3) := by decide +kernel
theorem dX12_asked_21 : decode cX12_asked 21 = .ok (.iconst 0, 1) := by decide +kernel
theorem dX12_asked_22 : decode cX12_asked 22 = .ok (.ireturn, 1) := by decide +kernel
theorem dX12_asked_23 : decode cX12_asked 23 = .ok (.aload_n 0, 1) := by decide +kernel
theorem dX12_asked_24 : decode cX12_asked 24 = .ok (.getfield 183, 3) := by decide +kernel
theorem dX12_asked_27 : decode cX12_asked 27 = .ok (.ldc2_w 240, 3) := by decide +kernel
theorem dX12_asked_30 : decode cX12_asked 30 = .ok (.lcmp, 1) := by decide +kernel
theorem dX12_asked_31 : decode cX12_asked 31 = .ok (.ifCond .ne 5, 3) := by decide +kernel
theorem dX12_asked_34 : decode cX12_asked 34 = .ok (.iconst 1, 1) := by decide +kernel
theorem dX12_asked_35 : decode cX12_asked 35 = .ok (.ireturn, 1) := by decide +kernel
theorem dX12_asked_36 : decode cX12_asked 36 = .ok (.aload_n 0, 1) := by decide +kernel
theorem dX12_asked_37 : decode cX12_asked 37 = .ok (.getfield 183, 3) := by decide +kernel
theorem dX12_asked_40 : decode cX12_asked 40 = .ok (.ldc2_w 242, 3) := by decide +kernel
theorem dX12_asked_43 : decode cX12_asked 43 = .ok (.lcmp, 1) := by decide +kernel
theorem dX12_asked_44 : decode cX12_asked 44 = .ok (.ifCond .ne 5, 3) := by decide +kernel
theorem dX12_asked_47 : decode cX12_asked 47 = .ok (.iconst 2, 1) := by decide +kernel
theorem dX12_asked_48 : decode cX12_asked 48 = .ok (.ireturn, 1) := by decide +kernel
theorem dX12_asked_49 : decode cX12_asked 49 = .ok (.aload_n 0, 1) := by decide +kernel
theorem dX12_asked_50 : decode cX12_asked 50 = .ok (.getfield 183, 3) := by decide +kernel
theorem dX12_asked_53 : decode cX12_asked 53 = .ok (.ldc2_w 244, 3) := by decide +kernel
theorem dX12_asked_56 : decode cX12_asked 56 = .ok (.lcmp, 1) := by decide +kernel
theorem dX12_asked_57 : decode cX12_asked 57 = .ok (.ifCond .ne 5, 3) := by decide +kernel
theorem dX12_asked_60 : decode cX12_asked 60 = .ok (.iconst 3, 1) := by decide +kernel
theorem dX12_asked_61 : decode cX12_asked 61 = .ok (.ireturn, 1) := by decide +kernel
theorem dX12_asked_62 : decode cX12_asked 62 = .ok (.aload_n 0, 1) := by decide +kernel
theorem dX12_asked_63 : decode cX12_asked 63 = .ok (.getfield 183, 3) := by decide +kernel
theorem dX12_asked_66 : decode cX12_asked 66 = .ok (.ldc2_w 246, 3) := by decide +kernel
theorem dX12_asked_69 : decode cX12_asked 69 = .ok (.lcmp, 1) := by decide +kernel
theorem dX12_asked_70 : decode cX12_asked 70 = .ok (.ifCond .ne 5, 3) := by decide +kernel
theorem dX12_asked_73 : decode cX12_asked 73 = .ok (.iconst 4, 1) := by decide +kernel
theorem dX12_asked_74 : decode cX12_asked 74 = .ok (.ireturn, 1) := by decide +kernel
theorem dX12_asked_75 : decode cX12_asked 75 = .ok (.aload_n 0, 1) := by decide +kernel
theorem dX12_asked_76 : decode cX12_asked 76 = .ok (.getfield 183, 3) := by decide +kernel
theorem dX12_asked_79 : decode cX12_asked 79 = .ok (.ldc2_w 248, 3) := by decide +kernel
theorem dX12_asked_82 : decode cX12_asked 82 = .ok (.lcmp, 1) := by decide +kernel
theorem dX12_asked_83 : decode cX12_asked 83 = .ok (.ifCond .ne 5, 3) := by decide +kernel
theorem dX12_asked_86 : decode cX12_asked 86 = .ok (.iconst 5, 1) := by decide +kernel
theorem dX12_asked_87 : decode cX12_asked 87 = .ok (.ireturn, 1) := by decide +kernel
theorem dX12_asked_88 : decode cX12_asked 88 = .ok (.aload_n 0, 1) := by decide +kernel
theorem dX12_asked_89 : decode cX12_asked 89 = .ok (.getfield 183, 3) := by decide +kernel
theorem dX12_asked_92 : decode cX12_asked 92 = .ok (.ldc2_w 228, 3) := by decide +kernel
theorem dX12_asked_95 : decode cX12_asked 95 = .ok (.lcmp, 1) := by decide +kernel
theorem dX12_asked_96 : decode cX12_asked 96 = .ok (.ifCond .ne 8, 3) := by decide +kernel
theorem dX12_asked_99 : decode cX12_asked 99 = .ok (.bipush 6, 2) := by decide +kernel
theorem dX12_asked_101 : decode cX12_asked 101 = .ok (.goto 4, 3) := by decide +kernel
theorem dX12_asked_104 : decode cX12_asked 104 = .ok (.iconst (-1), 1) := by decide +kernel
theorem dX12_asked_105 : decode cX12_asked 105 = .ok (.ireturn, 1) := by decide +kernel
def mX12_asked (t : Nat) (σ : St_) : Option Int32 :=
 (if (σ.1 t 6) = (1 : Int32) then
 (if (lg_cmp (σ.2 t 9) (499850634606 : Int64)) = 0 then
 (some (0 : Int32))
 else (if (lg_cmp (σ.2 t 9) (1818584692 : Int64)) = 0 then
 (some (1 : Int32))
 else (if (lg_cmp (σ.2 t 9) (1953460075 : Int64)) = 0 then
 (some (2 : Int32))
 else (if (lg_cmp (σ.2 t 9) (1734440549 : Int64)) = 0 then
 (some (3 : Int32))
 else (if (lg_cmp (σ.2 t 9) (418430675813 : Int64)) = 0 then
 (some (4 : Int32))
 else (if (lg_cmp (σ.2 t 9) (1752135026 : Int64)) = 0 then
 (some (5 : Int32))
 else (if (lg_cmp (σ.2 t 9) (495723310188 : Int64)) = 0 then
 (some (6 : Int32))
 else (some (-1 : Int32)))))))))
 else (some (-1 : Int32)))
set_option maxHeartbeats 4000000 in
theorem rX12_asked (t : Nat) (hT : LY12 sh P t) : Rj l D cA h0 ad yX12_asked cX12_asked 1 (some .int) false 2 0 0 (fun b => (some (.int b), sh, P, σ)) [.ref (h0 + t)] sh P σ (mX12_asked t σ) := by
  rw [mX12_asked]
  refine Rj.of (by decide) (fun h => by cases h) (Nat.le_of_ble_eq_true rfl) ?_
  refine tj_lv0 (lv' := [(0, .ref (h0 + t))]) rfl ?_
  refine tj_aload_n (q := 1) dX12_asked_0 rfl (i := 0) rfl (pl := 0) rfl ?_
  refine tj_getI (q := 4) (hT).s fok_12_6 wl_RX12_190 dX12_asked_1 rfl ?_
  refine tj_iconst (q := 5) (v := 1) dX12_asked_4 rfl (by decide) ?_
  refine tj_icmp_eq (tgt := 10) (q := 8) dX12_asked_5 (by decide) rfl ?_ ?_
  · refine tj_aload_n (q := 11) dX12_asked_10 rfl (i := 0) rfl (pl := 0) rfl ?_
    refine tj_getL (q := 14) (hT).s fok_12_9 wl_RX12_183 dX12_asked_11 rfl ?_
    refine tj_ldc2 (q := 17) (v := 499850634606) dX12_asked_14 rfl wc_RX12_238 ?_
    refine tj_lcmp (q := 18) dX12_asked_17 rfl ?_
    refine tj_if_ne (tgt := 23) (q := 21) dX12_asked_18 (by decide) rfl ?_ ?_
    · refine tj_iconst (q := 22) (v := 0) dX12_asked_21 rfl (by decide) ?_
      exact tj_iret rfl rfl (Nat.le_of_ble_eq_true rfl) (Nat.le_of_ble_eq_true rfl) dX12_asked_22
    · refine tj_aload_n (q := 24) dX12_asked_23 rfl (i := 0) rfl (pl := 0) rfl ?_
      refine tj_getL (q := 27) (hT).s fok_12_9 wl_RX12_183 dX12_asked_24 rfl ?_
      refine tj_ldc2 (q := 30) (v := 1818584692) dX12_asked_27 rfl wc_RX12_240 ?_
      refine tj_lcmp (q := 31) dX12_asked_30 rfl ?_
      refine tj_if_ne (tgt := 36) (q := 34) dX12_asked_31 (by decide) rfl ?_ ?_
      · refine tj_iconst (q := 35) (v := 1) dX12_asked_34 rfl (by decide) ?_
        exact tj_iret rfl rfl (Nat.le_of_ble_eq_true rfl) (Nat.le_of_ble_eq_true rfl) dX12_asked_35
      · refine tj_aload_n (q := 37) dX12_asked_36 rfl (i := 0) rfl (pl := 0) rfl ?_
        refine tj_getL (q := 40) (hT).s fok_12_9 wl_RX12_183 dX12_asked_37 rfl ?_
        refine tj_ldc2 (q := 43) (v := 1953460075) dX12_asked_40 rfl wc_RX12_242 ?_
        refine tj_lcmp (q := 44) dX12_asked_43 rfl ?_
        refine tj_if_ne (tgt := 49) (q := 47) dX12_asked_44 (by decide) rfl ?_ ?_
        · refine tj_iconst (q := 48) (v := 2) dX12_asked_47 rfl (by decide) ?_
          exact tj_iret rfl rfl (Nat.le_of_ble_eq_true rfl) (Nat.le_of_ble_eq_true rfl) dX12_asked_48
        · refine tj_aload_n (q := 50) dX12_asked_49 rfl (i := 0) rfl (pl := 0) rfl ?_
          refine tj_getL (q := 53) (hT).s fok_12_9 wl_RX12_183 dX12_asked_50 rfl ?_
          refine tj_ldc2 (q := 56) (v := 1734440549) dX12_asked_53 rfl wc_RX12_244 ?_
          refine tj_lcmp (q := 57) dX12_asked_56 rfl ?_
          refine tj_if_ne (tgt := 62) (q := 60) dX12_asked_57 (by decide) rfl ?_ ?_
          · refine tj_iconst (q := 61) (v := 3) dX12_asked_60 rfl (by decide) ?_
            exact tj_iret rfl rfl (Nat.le_of_ble_eq_true rfl) (Nat.le_of_ble_eq_true rfl) dX12_asked_61
          · refine tj_aload_n (q := 63) dX12_asked_62 rfl (i := 0) rfl (pl := 0) rfl ?_
            refine tj_getL (q := 66) (hT).s fok_12_9 wl_RX12_183 dX12_asked_63 rfl ?_
            refine tj_ldc2 (q := 69) (v := 418430675813) dX12_asked_66 rfl wc_RX12_246 ?_
            refine tj_lcmp (q := 70) dX12_asked_69 rfl ?_
            refine tj_if_ne (tgt := 75) (q := 73) dX12_asked_70 (by decide) rfl ?_ ?_
            · refine tj_iconst (q := 74) (v := 4) dX12_asked_73 rfl (by decide) ?_
              exact tj_iret rfl rfl (Nat.le_of_ble_eq_true rfl) (Nat.le_of_ble_eq_true rfl) dX12_asked_74
            · refine tj_aload_n (q := 76) dX12_asked_75 rfl (i := 0) rfl (pl := 0) rfl ?_
              refine tj_getL (q := 79) (hT).s fok_12_9 wl_RX12_183 dX12_asked_76 rfl ?_
              refine tj_ldc2 (q := 82) (v := 1752135026) dX12_asked_79 rfl wc_RX12_248 ?_
              refine tj_lcmp (q := 83) dX12_asked_82 rfl ?_
              refine tj_if_ne (tgt := 88) (q := 86) dX12_asked_83 (by decide) rfl ?_ ?_
              · refine tj_iconst (q := 87) (v := 5) dX12_asked_86 rfl (by decide) ?_
                exact tj_iret rfl rfl (Nat.le_of_ble_eq_true rfl) (Nat.le_of_ble_eq_true rfl) dX12_asked_87
              · refine tj_aload_n (q := 89) dX12_asked_88 rfl (i := 0) rfl (pl := 0) rfl ?_
                refine tj_getL (q := 92) (hT).s fok_12_9 wl_RX12_183 dX12_asked_89 rfl ?_
                refine tj_ldc2 (q := 95) (v := 495723310188) dX12_asked_92 rfl wc_RX12_228 ?_
                refine tj_lcmp (q := 96) dX12_asked_95 rfl ?_
                refine tj_if_ne (tgt := 104) (q := 99) dX12_asked_96 (by decide) rfl ?_ ?_
                · refine tj_bipush (q := 101) (v := 6) dX12_asked_99 rfl (by decide) ?_
                  refine tj_goto (q := 105) dX12_asked_101 (by decide) ?_
                  exact tj_iret rfl rfl (Nat.le_of_ble_eq_true rfl) (Nat.le_of_ble_eq_true rfl) dX12_asked_105
                · refine tj_iconst (q := 105) (v := (-1)) dX12_asked_104 rfl (by decide) ?_
                  exact tj_iret rfl rfl (Nat.le_of_ble_eq_true rfl) (Nat.le_of_ble_eq_true rfl) dX12_asked_105
  · refine tj_iconst (q := 9) (v := (-1)) dX12_asked_8 rfl (by decide) ?_
    exact tj_iret rfl rfl (Nat.le_of_ble_eq_true rfl) (Nat.le_of_ble_eq_true rfl) dX12_asked_9

theorem dX12_isFull_0 : decode cX12_isFull 0 = .ok (.aload_n 0, 1) := by decide +kernel
theorem dX12_isFull_1 : decode cX12_isFull 1 = .ok (.getfield 300, 3) := by decide +kernel
theorem dX12_isFull_4 : decode cX12_isFull 4 = .ok (.bipush 60, 2) := by decide +kernel
theorem dX12_isFull_6 : decode cX12_isFull 6 = .ok (.if_icmp .eq 12, 3) := by decide +kernel
theorem dX12_isFull_9 : decode cX12_isFull 9 = .ok (.aload_n 0, 1) := by decide +kernel
theorem dX12_isFull_10 : decode cX12_isFull 10 = .ok (.getfield 303, 3) := by decide +kernel
theorem dX12_isFull_13 : decode cX12_isFull 13 = .ok (.bipush 30, 2) := by decide +kernel
theorem dX12_isFull_15 : decode cX12_isFull 15 = .ok (.if_icmp .ne 7, 3) := by decide +kernel
theorem dX12_isFull_18 : decode cX12_isFull 18 = .ok (.iconst 1, 1) := by decide +kernel
theorem dX12_isFull_19 : decode cX12_isFull 19 = .ok (.goto 4, 3) := by decide +kernel
theorem dX12_isFull_22 : decode cX12_isFull 22 = .ok (.iconst 0, 1) := by decide +kernel
theorem dX12_isFull_23 : decode cX12_isFull 23 = .ok (.ireturn, 1) := by decide +kernel
theorem wl_RX12_300 : Cond.fieldLink RX12 300 (TX12 22).1 (TX12 22).2.1 (TX12 22).2.2.1 ∈ TB := tbm 1437 (by decide +kernel) (by decide +kernel)
theorem wl_RX12_303 : Cond.fieldLink RX12 303 (TX12 24).1 (TX12 24).2.1 (TX12 24).2.2.1 ∈ TB := tbm 1439 (by decide +kernel) (by decide +kernel)
def mX12_isFull (t : Nat) (σ : St_) : Option Bool :=
 (if (σ.1 t 22) = (60 : Int32) then
 (some true)
 else (if (σ.1 t 24) = (30 : Int32) then
 (some true)
 else (some false)))
set_option maxHeartbeats 4000000 in
theorem rX12_isFull (t : Nat) (hT : LY12 sh P t) : Rj l D cA h0 ad yX12_isFull cX12_isFull 1 (some .boolean) false 2 0 0 (fun b => (some (.int (b2i b)), sh, P, σ)) [.ref (h0 + t)] sh P σ (mX12_isFull t σ) := by
  rw [mX12_isFull]
  refine Rj.of (by decide) (fun h => by cases h) (Nat.le_of_ble_eq_true rfl) ?_
  refine tj_lv0 (lv' := [(0, .ref (h0 + t))]) rfl ?_
  refine tj_aload_n (q := 1) dX12_isFull_0 rfl (i := 0) rfl (pl := 0) rfl ?_
  refine tj_getI (q := 4) (hT).s fok_12_22 wl_RX12_300 dX12_isFull_1 rfl ?_
  refine tj_bipush (q := 6) (v := 60) dX12_isFull_4 rfl (by decide) ?_
  refine tj_icmp_eq (tgt := 18) (q := 9) dX12_isFull_6 (by decide) rfl ?_ ?_
  · refine tj_iconst (q := 19) (v := 1) dX12_isFull_18 rfl (by decide) ?_
    refine tj_goto (q := 23) dX12_isFull_19 (by decide) ?_
    exact tj_zret rfl (by decide) rfl (Nat.le_of_ble_eq_true rfl) (Nat.le_of_ble_eq_true rfl) dX12_isFull_23
  · refine tj_aload_n (q := 10) dX12_isFull_9 rfl (i := 0) rfl (pl := 0) rfl ?_
    refine tj_getI (q := 13) (hT).s fok_12_24 wl_RX12_303 dX12_isFull_10 rfl ?_
    refine tj_bipush (q := 15) (v := 30) dX12_isFull_13 rfl (by decide) ?_
    refine tj_icmp_ne (tgt := 22) (q := 18) dX12_isFull_15 (by decide) rfl ?_ ?_
    · refine tj_iconst (q := 19) (v := 1) dX12_isFull_18 rfl (by decide) ?_
      refine tj_goto (q := 23) dX12_isFull_19 (by decide) ?_
      exact tj_zret rfl (by decide) rfl (Nat.le_of_ble_eq_true rfl) (Nat.le_of_ble_eq_true rfl) dX12_isFull_23
    · refine tj_iconst (q := 23) (v := 0) dX12_isFull_22 rfl (by decide) ?_
      exact tj_zret rfl (by decide) rfl (Nat.le_of_ble_eq_true rfl) (Nat.le_of_ble_eq_true rfl) dX12_isFull_23

theorem dX12_countUnit_0 : decode cX12_countUnit 0 = .ok (.aload_n 0, 1) := by decide +kernel
theorem dX12_countUnit_1 : decode cX12_countUnit 1 = .ok (.dup, 1) := by decide +kernel
theorem dX12_countUnit_2 : decode cX12_countUnit 2 = .ok (.getfield 300, 3) := by decide +kernel
theorem dX12_countUnit_5 : decode cX12_countUnit 5 = .ok (.iconst 1, 1) := by decide +kernel
theorem dX12_countUnit_6 : decode cX12_countUnit 6 = .ok (.iadd, 1) := by decide +kernel
theorem dX12_countUnit_7 : decode cX12_countUnit 7 = .ok (.putfield 300, 3) := by decide +kernel
theorem dX12_countUnit_10 : decode cX12_countUnit 10 = .ok (.aload_n 0, 1) := by decide +kernel
theorem dX12_countUnit_11 : decode cX12_countUnit 11 = .ok (.dup, 1) := by decide +kernel
theorem dX12_countUnit_12 : decode cX12_countUnit 12 = .ok (.getfield 303, 3) := by decide +kernel
theorem dX12_countUnit_15 : decode cX12_countUnit 15 = .ok (.iconst 1, 1) := by decide +kernel
theorem dX12_countUnit_16 : decode cX12_countUnit 16 = .ok (.iadd, 1) := by decide +kernel
theorem dX12_countUnit_17 : decode cX12_countUnit 17 = .ok (.putfield 303, 3) := by decide +kernel
theorem dX12_countUnit_20 : decode cX12_countUnit 20 = .ok (.return_, 1) := by decide +kernel
def mX12_countUnit (t : Nat) (σ : St_) : Option St_ :=
 (bnd (sI σ t 22 ((σ.1 t 22) + (1 : Int32))) fun σ1 =>
 (bnd (sI σ1 t 24 ((σ1.1 t 24) + (1 : Int32))) fun σ2 =>
 (some σ2)))
set_option maxHeartbeats 4000000 in
theorem rX12_countUnit (t : Nat) (hT : LY12 sh P t) : Rj l D cA h0 ad yX12_countUnit cX12_countUnit 1 none false 2 0 0 (fun b => (none, sh, P, b)) [.ref (h0 + t)] sh P σ (mX12_countUnit t σ) := by
  rw [mX12_countUnit]
  refine Rj.of (by decide) (fun h => by cases h) (Nat.le_of_ble_eq_true rfl) ?_
  refine tj_lv0 (lv' := [(0, .ref (h0 + t))]) rfl ?_
  refine tj_aload_n (q := 1) dX12_countUnit_0 rfl (i := 0) rfl (pl := 0) rfl ?_
  refine tj_dup (q := 2) dX12_countUnit_1 rfl rfl ?_
  refine tj_getI (q := 5) (hT).s fok_12_22 wl_RX12_300 dX12_countUnit_2 rfl ?_
  refine tj_iconst (q := 6) (v := 1) dX12_countUnit_5 rfl (by decide) ?_
  refine tj_iadd (q := 7) dX12_countUnit_6 rfl ?_
  refine tj_putI (q := 10) (hT).s fok_12_22 tok_12 fpk_12_22 wl_RX12_300 dX12_countUnit_7 rfl (fun σ1 => ?_)
  refine tj_aload_n (q := 11) dX12_countUnit_10 rfl (i := 0) rfl (pl := 0) rfl ?_
  refine tj_dup (q := 12) dX12_countUnit_11 rfl rfl ?_
  refine tj_getI (q := 15) (hT).s fok_12_24 wl_RX12_303 dX12_countUnit_12 rfl ?_
  refine tj_iconst (q := 16) (v := 1) dX12_countUnit_15 rfl (by decide) ?_
  refine tj_iadd (q := 17) dX12_countUnit_16 rfl ?_
  refine tj_putI (q := 20) (hT).s fok_12_24 tok_12 fpk_12_24 wl_RX12_303 dX12_countUnit_17 rfl (fun σ2 => ?_)
  exact tj_vret rfl rfl (Nat.le_of_ble_eq_true rfl) (Nat.le_of_ble_eq_true rfl) dX12_countUnit_20

theorem dX12_openUp_0 : decode cX12_openUp 0 = .ok (.aload_n 0, 1) := by decide +kernel
theorem dX12_openUp_1 : decode cX12_openUp 1 = .ok (.getfield 36, 3) := by decide +kernel
theorem dX12_openUp_4 : decode cX12_openUp 4 = .ok (.aload_n 0, 1) := by decide +kernel
theorem dX12_openUp_5 : decode cX12_openUp 5 = .ok (.getfield 287, 3) := by decide +kernel
theorem dX12_openUp_8 : decode cX12_openUp 8 = .ok (.iload_n 1, 1) := by decide +kernel
theorem dX12_openUp_9 : decode cX12_openUp 9 = .ok (.iastore, 1) := by decide +kernel
theorem dX12_openUp_10 : decode cX12_openUp 10 = .ok (.aload_n 0, 1) := by decide +kernel
theorem dX12_openUp_11 : decode cX12_openUp 11 = .ok (.dup, 1) := by decide +kernel
theorem dX12_openUp_12 : decode cX12_openUp 12 = .ok (.getfield 287, 3) := by decide +kernel
theorem dX12_openUp_15 : decode cX12_openUp 15 = .ok (.iconst 1, 1) := by decide +kernel
theorem dX12_openUp_16 : decode cX12_openUp 16 = .ok (.iadd, 1) := by decide +kernel
theorem dX12_openUp_17 : decode cX12_openUp 17 = .ok (.putfield 287, 3) := by decide +kernel
theorem dX12_openUp_20 : decode cX12_openUp 20 = .ok (.aload_n 0, 1) := by decide +kernel
theorem dX12_openUp_21 : decode cX12_openUp 21 = .ok (.dup, 1) := by decide +kernel
theorem dX12_openUp_22 : decode cX12_openUp 22 = .ok (.getfield 297, 3) := by decide +kernel
theorem dX12_openUp_25 : decode cX12_openUp 25 = .ok (.iconst 1, 1) := by decide +kernel
theorem dX12_openUp_26 : decode cX12_openUp 26 = .ok (.iadd, 1) := by decide +kernel
theorem dX12_openUp_27 : decode cX12_openUp 27 = .ok (.putfield 297, 3) := by decide +kernel
theorem dX12_openUp_30 : decode cX12_openUp 30 = .ok (.aload_n 0, 1) := by decide +kernel
theorem dX12_openUp_31 : decode cX12_openUp 31 = .ok (.getfield 203, 3) := by decide +kernel
theorem dX12_openUp_34 : decode cX12_openUp 34 = .ok (.ifCond .ne 7, 3) := by decide +kernel
theorem dX12_openUp_37 : decode cX12_openUp 37 = .ok (.aload_n 0, 1) := by decide +kernel
theorem dX12_openUp_38 : decode cX12_openUp 38 = .ok (.invokevirtual 267, 3) := by decide +kernel
theorem dX12_openUp_41 : decode cX12_openUp 41 = .ok (.return_, 1) := by decide +kernel
def mX12_openUp (t : Nat) (p1 : Int32) (σ : St_) : Option St_ :=
 (bnd (σ.1 t 21) fun v1 =>
 (if bin v1 160 = true then bnd (sI σ (t + 8) v1.toNatClampNeg p1) fun σ2 =>
 (bnd (sI σ2 t 21 ((σ2.1 t 21) + (1 : Int32))) fun σ3 =>
 (bnd (sI σ3 t 25 ((σ3.1 t 25) + (1 : Int32))) fun σ4 =>
 (if (σ4.1 t 2) = 0 then
 ((mX12_token t σ4).bind fun σ5 =>
 (some σ5))
 else (some σ4))))
 else none))
set_option maxHeartbeats 4000000 in
theorem rX12_openUp (t : Nat) (p1 : Int32) (hT : LY12 sh P t) : Rj l D cA h0 ad yX12_openUp cX12_openUp 2 none false 4 0 0 (fun b => (none, sh, P, b)) [.ref (h0 + t), .int p1] sh P σ (mX12_openUp t p1 σ) := by
  rw [mX12_openUp]
  refine Rj.of (by decide) (fun h => by cases h) (Nat.le_of_ble_eq_true rfl) ?_
  refine tj_lv0 (lv' := [(0, .ref (h0 + t)), (1, .int p1)]) rfl ?_
  refine tj_aload_n (q := 1) dX12_openUp_0 rfl (i := 0) rfl (pl := 0) rfl ?_
  refine tj_getR (q := 4) (hT).s (hT).p_open fok_12_17 wl_RX12_36 dX12_openUp_1 rfl ?_
  refine tj_aload_n (q := 5) dX12_openUp_4 rfl (i := 0) rfl (pl := 0) rfl ?_
  refine tj_getI (q := 8) (hT).s fok_12_21 wl_RX12_287 dX12_openUp_5 rfl ?_
  refine tj_iload_n (q := 9) dX12_openUp_8 rfl (i := 1) rfl (pl := 1) rfl ?_
  refine tj_sndI (fun v1 => ?_)
  refine tj_iastore (q := 10) (hT).s_open dX12_openUp_9 rfl (fun σ2 => ?_)
  refine tj_aload_n (q := 11) dX12_openUp_10 rfl (i := 0) rfl (pl := 0) rfl ?_
  refine tj_dup (q := 12) dX12_openUp_11 rfl rfl ?_
  refine tj_getI (q := 15) (hT).s fok_12_21 wl_RX12_287 dX12_openUp_12 rfl ?_
  refine tj_iconst (q := 16) (v := 1) dX12_openUp_15 rfl (by decide) ?_
  refine tj_iadd (q := 17) dX12_openUp_16 rfl ?_
  refine tj_putI (q := 20) (hT).s fok_12_21 tok_12 fpk_12_21 wl_RX12_287 dX12_openUp_17 rfl (fun σ3 => ?_)
  refine tj_aload_n (q := 21) dX12_openUp_20 rfl (i := 0) rfl (pl := 0) rfl ?_
  refine tj_dup (q := 22) dX12_openUp_21 rfl rfl ?_
  refine tj_getI (q := 25) (hT).s fok_12_25 wl_RX12_297 dX12_openUp_22 rfl ?_
  refine tj_iconst (q := 26) (v := 1) dX12_openUp_25 rfl (by decide) ?_
  refine tj_iadd (q := 27) dX12_openUp_26 rfl ?_
  refine tj_putI (q := 30) (hT).s fok_12_25 tok_12 fpk_12_25 wl_RX12_297 dX12_openUp_27 rfl (fun σ4 => ?_)
  refine tj_aload_n (q := 31) dX12_openUp_30 rfl (i := 0) rfl (pl := 0) rfl ?_
  refine tj_getI (q := 34) (hT).s fok_12_2 wl_RX12_203 dX12_openUp_31 rfl ?_
  refine tj_if_ne (tgt := 41) (q := 37) dX12_openUp_34 (by decide) rfl ?_ ?_
  · refine tj_aload_n (q := 38) dX12_openUp_37 rfl (i := 0) rfl (pl := 0) rfl ?_
    refine tj_callV (q := 41) (kj_V (As := []) (rest := []) (t := t) wi_RX12_267 (hT).s rfl (rX12_token t (hT)) rfl (Nat.le_of_ble_eq_true rfl) ⟨Nat.le_of_ble_eq_true rfl, Nat.le_of_ble_eq_true rfl⟩ (Nat.le_of_ble_eq_true rfl) dX12_openUp_38) rfl (fun σ5 => ?_)
    exact tj_vret rfl rfl (Nat.le_of_ble_eq_true rfl) (Nat.le_of_ble_eq_true rfl) dX12_openUp_41
  · exact tj_vret rfl rfl (Nat.le_of_ble_eq_true rfl) (Nat.le_of_ble_eq_true rfl) dX12_openUp_41

theorem dX12_unit_0 : decode cX12_unit 0 = .ok (.iconst 1, 1) := by decide +kernel
theorem dX12_unit_1 : decode cX12_unit 1 = .ok (.istore_n 1, 1) := by decide +kernel
theorem dX12_unit_2 : decode cX12_unit 2 = .ok (.iload_n 1, 1) := by decide +kernel
theorem dX12_unit_3 : decode cX12_unit 3 = .ok (.ifCond .eq 98, 3) := by decide +kernel
theorem dX12_unit_6 : decode cX12_unit 6 = .ok (.aload_n 0, 1) := by decide +kernel
theorem dX12_unit_7 : decode cX12_unit 7 = .ok (.getfield 203, 3) := by decide +kernel
theorem dX12_unit_10 : decode cX12_unit 10 = .ok (.ifCond .ne 91, 3) := by decide +kernel
theorem dX12_unit_13 : decode cX12_unit 13 = .ok (.aload_n 0, 1) := by decide +kernel
theorem dX12_unit_14 : decode cX12_unit 14 = .ok (.ldc2_w 254, 3) := by decide +kernel
theorem dX12_unit_17 : decode cX12_unit 17 = .ok (.invokevirtual 260, 3) := by decide +kernel
theorem dX12_unit_20 : decode cX12_unit 20 = .ok (.ifCond .eq 33, 3) := by decide +kernel
theorem dX12_unit_23 : decode cX12_unit 23 = .ok (.aload_n 0, 1) := by decide +kernel
theorem dX12_unit_24 : decode cX12_unit 24 = .ok (.invokevirtual 306, 3) := by decide +kernel
theorem dX12_unit_27 : decode cX12_unit 27 = .ok (.ifCond .eq 26, 3) := by decide +kernel
theorem dX12_unit_30 : decode cX12_unit 30 = .ok (.aload_n 0, 1) := by decide +kernel
theorem dX12_unit_31 : decode cX12_unit 31 = .ok (.getfield 297, 3) := by decide +kernel
theorem dX12_unit_34 : decode cX12_unit 34 = .ok (.bipush 6, 2) := by decide +kernel
theorem dX12_unit_36 : decode cX12_unit 36 = .ok (.if_icmp .le 8, 3) := by decide +kernel
theorem dX12_unit_39 : decode cX12_unit 39 = .ok (.aload_n 0, 1) := by decide +kernel
theorem dX12_unit_40 : decode cX12_unit 40 = .ok (.iconst 2, 1) := by decide +kernel
theorem dX12_unit_41 : decode cX12_unit 41 = .ok (.invokevirtual 264, 3) := by decide +kernel
theorem dX12_unit_44 : decode cX12_unit 44 = .ok (.aload_n 0, 1) := by decide +kernel
theorem dX12_unit_45 : decode cX12_unit 45 = .ok (.bipush 21, 2) := by decide +kernel
theorem dX12_unit_47 : decode cX12_unit 47 = .ok (.invokevirtual 309, 3) := by decide +kernel
theorem dX12_unit_50 : decode cX12_unit 50 = .ok (.goto (-48), 3) := by decide +kernel
theorem dX12_unit_53 : decode cX12_unit 53 = .ok (.aload_n 0, 1) := by decide +kernel
theorem dX12_unit_54 : decode cX12_unit 54 = .ok (.getfield 190, 3) := by decide +kernel
theorem dX12_unit_57 : decode cX12_unit 57 = .ok (.bipush 40, 2) := by decide +kernel
theorem dX12_unit_59 : decode cX12_unit 59 = .ok (.if_icmp .ne 37, 3) := by decide +kernel
theorem dX12_unit_62 : decode cX12_unit 62 = .ok (.aload_n 0, 1) := by decide +kernel
theorem dX12_unit_63 : decode cX12_unit 63 = .ok (.invokevirtual 312, 3) := by decide +kernel
theorem dX12_unit_66 : decode cX12_unit 66 = .ok (.ifCond .ne 12, 3) := by decide +kernel
theorem dX12_unit_69 : decode cX12_unit 69 = .ok (.aload_n 0, 1) := by decide +kernel
theorem dX12_unit_70 : decode cX12_unit 70 = .ok (.getfield 297, 3) := by decide +kernel
theorem dX12_unit_73 : decode cX12_unit 73 = .ok (.bipush 6, 2) := by decide +kernel
theorem dX12_unit_75 : decode cX12_unit 75 = .ok (.if_icmp .le 8, 3) := by decide +kernel
theorem dX12_unit_78 : decode cX12_unit 78 = .ok (.aload_n 0, 1) := by decide +kernel
theorem dX12_unit_79 : decode cX12_unit 79 = .ok (.iconst 2, 1) := by decide +kernel
theorem dX12_unit_80 : decode cX12_unit 80 = .ok (.invokevirtual 264, 3) := by decide +kernel
theorem dX12_unit_83 : decode cX12_unit 83 = .ok (.aload_n 0, 1) := by decide +kernel
theorem dX12_unit_84 : decode cX12_unit 84 = .ok (.invokevirtual 315, 3) := by decide +kernel
theorem dX12_unit_87 : decode cX12_unit 87 = .ok (.aload_n 0, 1) := by decide +kernel
theorem dX12_unit_88 : decode cX12_unit 88 = .ok (.bipush 20, 2) := by decide +kernel
theorem dX12_unit_90 : decode cX12_unit 90 = .ok (.invokevirtual 309, 3) := by decide +kernel
theorem dX12_unit_93 : decode cX12_unit 93 = .ok (.goto (-91), 3) := by decide +kernel
theorem dX12_unit_96 : decode cX12_unit 96 = .ok (.iconst 0, 1) := by decide +kernel
theorem dX12_unit_97 : decode cX12_unit 97 = .ok (.istore_n 1, 1) := by decide +kernel
theorem dX12_unit_98 : decode cX12_unit 98 = .ok (.goto (-96), 3) := by decide +kernel
theorem dX12_unit_101 : decode cX12_unit 101 = .ok (.aload_n 0, 1) := by decide +kernel
theorem dX12_unit_102 : decode cX12_unit 102 = .ok (.getfield 203, 3) := by decide +kernel
theorem dX12_unit_105 : decode cX12_unit 105 = .ok (.ifCond .le 4, 3) := by decide +kernel
theorem dX12_unit_108 : decode cX12_unit 108 = .ok (.return_, 1) := by decide +kernel
theorem dX12_unit_109 : decode cX12_unit 109 = .ok (.aload_n 0, 1) := by decide +kernel
theorem dX12_unit_110 : decode cX12_unit 110 = .ok (.invokevirtual 318, 3) := by decide +kernel
theorem dX12_unit_113 : decode cX12_unit 113 = .ok (.istore_n 2, 1) := by decide +kernel
theorem dX12_unit_114 : decode cX12_unit 114 = .ok (.aload_n 0, 1) := by decide +kernel
theorem dX12_unit_115 : decode cX12_unit 115 = .ok (.getfield 190, 3) := by decide +kernel
theorem dX12_unit_118 : decode cX12_unit 118 = .ok (.iconst 2, 1) := by decide +kernel
theorem dX12_unit_119 : decode cX12_unit 119 = .ok (.if_icmp .eq 7, 3) := by decide +kernel
theorem dX12_unit_122 : decode cX12_unit 122 = .ok (.iload_n 2, 1) := by decide +kernel
theorem dX12_unit_123 : decode cX12_unit 123 = .ok (.ifCond .lt 10, 3) := by decide +kernel
theorem dX12_unit_126 : decode cX12_unit 126 = .ok (.aload_n 0, 1) := by decide +kernel
theorem dX12_unit_127 : decode cX12_unit 127 = .ok (.invokevirtual 312, 3) := by decide +kernel
theorem dX12_unit_130 : decode cX12_unit 130 = .ok (.ifCond .eq 8, 3) := by decide +kernel
theorem dX12_unit_133 : decode cX12_unit 133 = .ok (.aload_n 0, 1) := by decide +kernel
theorem dX12_unit_134 : decode cX12_unit 134 = .ok (.iconst 2, 1) := by decide +kernel
theorem dX12_unit_135 : decode cX12_unit 135 = .ok (.invokevirtual 264, 3) := by decide +kernel
theorem dX12_unit_138 : decode cX12_unit 138 = .ok (.aload_n 0, 1) := by decide +kernel
theorem dX12_unit_139 : decode cX12_unit 139 = .ok (.getfield 203, 3) := by decide +kernel
theorem dX12_unit_142 : decode cX12_unit 142 = .ok (.ifCond .le 4, 3) := by decide +kernel
theorem dX12_unit_145 : decode cX12_unit 145 = .ok (.return_, 1) := by decide +kernel
theorem dX12_unit_146 : decode cX12_unit 146 = .ok (.aload_n 0, 1) := by decide +kernel
theorem dX12_unit_147 : decode cX12_unit 147 = .ok (.invokevirtual 315, 3) := by decide +kernel
theorem dX12_unit_150 : decode cX12_unit 150 = .ok (.aload_n 0, 1) := by decide +kernel
theorem dX12_unit_151 : decode cX12_unit 151 = .ok (.iload_n 2, 1) := by decide +kernel
theorem dX12_unit_152 : decode cX12_unit 152 = .ok (.ifCond .ge 7, 3) := by decide +kernel
theorem dX12_unit_155 : decode cX12_unit 155 = .ok (.iconst 0, 1) := by decide +kernel
theorem dX12_unit_156 : decode cX12_unit 156 = .ok (.goto 4, 3) := by decide +kernel
theorem dX12_unit_159 : decode cX12_unit 159 = .ok (.iconst 1, 1) := by decide +kernel
theorem dX12_unit_160 : decode cX12_unit 160 = .ok (.iload_n 2, 1) := by decide +kernel
theorem dX12_unit_161 : decode cX12_unit 161 = .ok (.ifCond .ge 10, 3) := by decide +kernel
theorem dX12_unit_164 : decode cX12_unit 164 = .ok (.aload_n 0, 1) := by decide +kernel
theorem dX12_unit_165 : decode cX12_unit 165 = .ok (.getfield 187, 3) := by decide +kernel
theorem dX12_unit_168 : decode cX12_unit 168 = .ok (.goto 4, 3) := by decide +kernel
theorem dX12_unit_171 : decode cX12_unit 171 = .ok (.iload_n 2, 1) := by decide +kernel
theorem dX12_unit_172 : decode cX12_unit 172 = .ok (.invokevirtual 293, 3) := by decide +kernel
theorem dX12_unit_175 : decode cX12_unit 175 = .ok (.aload_n 0, 1) := by decide +kernel
theorem dX12_unit_176 : decode cX12_unit 176 = .ok (.invokevirtual 267, 3) := by decide +kernel
theorem dX12_unit_179 : decode cX12_unit 179 = .ok (.return_, 1) := by decide +kernel
theorem wm_X12_mayNot : Cond.instanceMethod yX12_mayNot ∈ TB ∧ Cond.selects yX12_mayNot.cls yX12_mayNot yX12_mayNot ∈ TB ∧ Cond.initialized yX12_mayNot.cls ∈ TB ∧ Cond.code yX12_mayNot cX12_mayNot 1 (some .boolean) ∈ TB ∧ (yX12_mayNot.cls ≠ "java/lang/invoke/MethodHandle" ∧ yX12_mayNot.cls ≠ "java/lang/invoke/VarHandle" ∧ (parseMethodDescriptor yX12_mayNot.desc).map (fun d => d.parameters.length) = some 0) ∧ 1 ≤ 21 := ⟨tbm 1829 (by decide +kernel) (by decide +kernel), tbm 78 (by decide +kernel) (by decide +kernel), tbm 146 (by decide +kernel) (by decide +kernel), tbm 1830 (by decide +kernel) (by decide +kernel), by decide +kernel, by decide⟩
theorem wi_RX12_306 : Iv RX12 306 yX12_mayNot cX12_mayNot 1 (some .boolean) 0 := ⟨tbm 1827 (by decide +kernel) (by decide +kernel), wm_X12_mayNot⟩
theorem wm_X12_openUp : Cond.instanceMethod yX12_openUp ∈ TB ∧ Cond.selects yX12_openUp.cls yX12_openUp yX12_openUp ∈ TB ∧ Cond.initialized yX12_openUp.cls ∈ TB ∧ Cond.code yX12_openUp cX12_openUp 2 none ∈ TB ∧ (yX12_openUp.cls ≠ "java/lang/invoke/MethodHandle" ∧ yX12_openUp.cls ≠ "java/lang/invoke/VarHandle" ∧ (parseMethodDescriptor yX12_openUp.desc).map (fun d => d.parameters.length) = some 1) ∧ 2 ≤ 21 := ⟨tbm 1836 (by decide +kernel) (by decide +kernel), tbm 79 (by decide +kernel) (by decide +kernel), tbm 146 (by decide +kernel) (by decide +kernel), tbm 1837 (by decide +kernel) (by decide +kernel), by decide +kernel, by decide⟩
theorem wi_RX12_309 : Iv RX12 309 yX12_openUp cX12_openUp 2 none 1 := ⟨tbm 1834 (by decide +kernel) (by decide +kernel), wm_X12_openUp⟩
theorem wm_X12_isFull : Cond.instanceMethod yX12_isFull ∈ TB ∧ Cond.selects yX12_isFull.cls yX12_isFull yX12_isFull ∈ TB ∧ Cond.initialized yX12_isFull.cls ∈ TB ∧ Cond.code yX12_isFull cX12_isFull 1 (some .boolean) ∈ TB ∧ (yX12_isFull.cls ≠ "java/lang/invoke/MethodHandle" ∧ yX12_isFull.cls ≠ "java/lang/invoke/VarHandle" ∧ (parseMethodDescriptor yX12_isFull.desc).map (fun d => d.parameters.length) = some 0) ∧ 1 ≤ 21 := ⟨tbm 1840 (by decide +kernel) (by decide +kernel), tbm 80 (by decide +kernel) (by decide +kernel), tbm 146 (by decide +kernel) (by decide +kernel), tbm 1841 (by decide +kernel) (by decide +kernel), by decide +kernel, by decide⟩
theorem wi_RX12_312 : Iv RX12 312 yX12_isFull cX12_isFull 1 (some .boolean) 0 := ⟨tbm 1838 (by decide +kernel) (by decide +kernel), wm_X12_isFull⟩
theorem wm_X12_countUnit : Cond.instanceMethod yX12_countUnit ∈ TB ∧ Cond.selects yX12_countUnit.cls yX12_countUnit yX12_countUnit ∈ TB ∧ Cond.initialized yX12_countUnit.cls ∈ TB ∧ Cond.code yX12_countUnit cX12_countUnit 1 none ∈ TB ∧ (yX12_countUnit.cls ≠ "java/lang/invoke/MethodHandle" ∧ yX12_countUnit.cls ≠ "java/lang/invoke/VarHandle" ∧ (parseMethodDescriptor yX12_countUnit.desc).map (fun d => d.parameters.length) = some 0) ∧ 1 ≤ 21 := ⟨tbm 1844 (by decide +kernel) (by decide +kernel), tbm 81 (by decide +kernel) (by decide +kernel), tbm 146 (by decide +kernel) (by decide +kernel), tbm 1845 (by decide +kernel) (by decide +kernel), by decide +kernel, by decide⟩
theorem wi_RX12_315 : Iv RX12 315 yX12_countUnit cX12_countUnit 1 none 0 := ⟨tbm 1842 (by decide +kernel) (by decide +kernel), wm_X12_countUnit⟩
theorem wm_X12_asked : Cond.instanceMethod yX12_asked ∈ TB ∧ Cond.selects yX12_asked.cls yX12_asked yX12_asked ∈ TB ∧ Cond.initialized yX12_asked.cls ∈ TB ∧ Cond.code yX12_asked cX12_asked 1 (some .int) ∈ TB ∧ (yX12_asked.cls ≠ "java/lang/invoke/MethodHandle" ∧ yX12_asked.cls ≠ "java/lang/invoke/VarHandle" ∧ (parseMethodDescriptor yX12_asked.desc).map (fun d => d.parameters.length) = some 0) ∧ 1 ≤ 21 := ⟨tbm 1848 (by decide +kernel) (by decide +kernel), tbm 82 (by decide +kernel) (by decide +kernel), tbm 146 (by decide +kernel) (by decide +kernel), tbm 1849 (by decide +kernel) (by decide +kernel), by decide +kernel, by decide⟩
theorem wi_RX12_318 : Iv RX12 318 yX12_asked cX12_asked 1 (some .int) 0 := ⟨tbm 1846 (by decide +kernel) (by decide +kernel), wm_X12_asked⟩
def mX12_unit_L2 (t : Nat) (k101 : St_ → Option St_) : Nat → Bool → St_ → Option St_
  | 0, _, _ => none
  | n + 1, x1, σ => (if x1 = true then
 (if (σ.1 t 2) = 0 then
 ((mX12_isWord t (7237492 : Int64) σ).bind fun r1 =>
 (bnd (if (σ.1 t 6) = (40 : Int32) then
 ((mX12_isFull t σ).bind fun r4 =>
 (bnd (fun (σ5 : St_) => ((mX12_countUnit t σ5).bind fun σ8 =>
 ((mX12_openUp t (20 : Int32) σ8).bind fun σ9 =>
 (mX12_unit_L2 t k101 n x1 σ9)))) fun k6 =>
 (bnd ((mX12_wrong t (2 : Int32) σ).bind fun σ12 =>
 (k6 σ12)) fun k10 =>
 (if r4 = true then
 (k10)
 else (if (σ.1 t 25) ≤ (6 : Int32) then
 (k6 σ)
 else (k10))))))
 else (mX12_unit_L2 t k101 n false σ)) fun k2 =>
 (if r1 = true then
 ((mX12_mayNot t σ).bind fun r13 =>
 (if r13 = true then
 (bnd (fun (σ14 : St_) => ((mX12_openUp t (21 : Int32) σ14).bind fun σ17 =>
 (mX12_unit_L2 t k101 n x1 σ17))) fun k15 =>
 (if (σ.1 t 25) ≤ (6 : Int32) then
 (k15 σ)
 else ((mX12_wrong t (2 : Int32) σ).bind fun σ18 =>
 (k15 σ18))))
 else (k2)))
 else (k2))))
 else (k101 σ))
 else (k101 σ))
def mX12_unit (t : Nat) (σ : St_) : Option St_ :=
 (mX12_unit_L2 t
 (fun (σ19 : St_) => (if (σ19.1 t 2) ≤ 0 then
 ((mX12_asked t σ19).bind fun r20 =>
 (bnd (fun (σ21 : St_) => (if (σ21.1 t 2) ≤ 0 then
 ((mX12_countUnit t σ21).bind fun σ24 =>
 (bnd (fun (j25 : Bool) => (bnd (fun (j28 : Int32) => ((mX12_add t (b2i j25) j28 σ24).bind fun σ31 =>
 ((mX12_token t σ31).bind fun σ32 =>
 (some σ32)))) fun k29 =>
 (if 0 ≤ r20 then
 (k29 r20)
 else (k29 (σ24.1 t 8))))) fun k26 =>
 (if 0 ≤ r20 then
 (k26 true)
 else (k26 false))))
 else (some σ21))) fun k22 =>
 (bnd ((mX12_wrong t (2 : Int32) σ19).bind fun σ35 =>
 (k22 σ35)) fun k33 =>
 (bnd ((mX12_isFull t σ19).bind fun r38 =>
 (if r38 = true then
 (k33)
 else (k22 σ19))) fun k36 =>
 (if (σ19.1 t 6) = (2 : Int32) then
 (k36)
 else (if r20 < 0 then
 (k33)
 else (k36)))))))
 else (some σ19))) FU true σ)
set_option maxHeartbeats 4000000 in
theorem tmX12_unit_L2 (t : Nat) (hT : LY12 sh P t) (k101 : St_ → Option St_) (hk101 : ∀ (σ1 : St_), Tj l D cA h0 ad RX12 cX12_unit 3 none false 5 0 0 (fun b => (none, sh, P, b)) 0 0 sh P σ1 101 [(0, .ref (h0 + t))] [] (k101 σ1)) : ∀ (n : Nat) (x1 : Bool) (σ : St_), Tj l D cA h0 ad RX12 cX12_unit 3 none false 5 0 0 (fun b => (none, sh, P, b)) 0 0 sh P σ 2 [(0, .ref (h0 + t)), (1, .int (b2i x1))] [] (mX12_unit_L2 t k101 n x1 σ) := by
  intro n
  induction n with
  | zero => intros; exact tj_none
  | succ n ih =>
    intro x1 σ
    rw [mX12_unit_L2]
    refine tj_iload_n (q := 3) dX12_unit_2 rfl (i := 1) rfl (pl := 1) rfl ?_
    refine tj_bz (tgt := 101) (q := 6) dX12_unit_3 (by decide) rfl ?_ ?_
    · refine tj_aload_n (q := 7) dX12_unit_6 rfl (i := 0) rfl (pl := 0) rfl ?_
      refine tj_getI (q := 10) (hT).s fok_12_2 wl_RX12_203 dX12_unit_7 rfl ?_
      refine tj_if_ne (tgt := 101) (q := 13) dX12_unit_10 (by decide) rfl ?_ ?_
      · refine tj_aload_n (q := 14) dX12_unit_13 rfl (i := 0) rfl (pl := 0) rfl ?_
        refine tj_ldc2 (q := 17) (v := 7237492) dX12_unit_14 rfl wc_RX12_254 ?_
        refine tj_callZp (q := 20) (kj_V (As := [.long (7237492 : Int64)]) (rest := []) (t := t) wi_RX12_260 (hT).s rfl (rX12_isWord t (7237492 : Int64) (hT)) rfl (Nat.le_of_ble_eq_true rfl) ⟨Nat.le_of_ble_eq_true rfl, Nat.le_of_ble_eq_true rfl⟩ (Nat.le_of_ble_eq_true rfl) dX12_unit_17) rfl (fun r1 => ?_)
        refine tj_bnd (fun k2 => Tj l D cA h0 ad RX12 cX12_unit 3 none false 5 0 0 (fun b => (none, sh, P, b)) 0 0 sh P σ 53 [(0, .ref (h0 + t)), (1, .int (b2i x1))] [] k2) ?_ (fun k2 hk3 => ?_)
        · refine tj_aload_n (q := 54) dX12_unit_53 rfl (i := 0) rfl (pl := 0) rfl ?_
          refine tj_getI (q := 57) (hT).s fok_12_6 wl_RX12_190 dX12_unit_54 rfl ?_
          refine tj_bipush (q := 59) (v := 40) dX12_unit_57 rfl (by decide) ?_
          refine tj_icmp_ne (tgt := 96) (q := 62) dX12_unit_59 (by decide) rfl ?_ ?_
          · refine tj_aload_n (q := 63) dX12_unit_62 rfl (i := 0) rfl (pl := 0) rfl ?_
            refine tj_callZp (q := 66) (kj_V (As := []) (rest := []) (t := t) wi_RX12_312 (hT).s rfl (rX12_isFull t (hT)) rfl (Nat.le_of_ble_eq_true rfl) ⟨Nat.le_of_ble_eq_true rfl, Nat.le_of_ble_eq_true rfl⟩ (Nat.le_of_ble_eq_true rfl) dX12_unit_63) rfl (fun r4 => ?_)
            refine tj_bnd (fun k6 => ∀ (σ5 : St_), Tj l D cA h0 ad RX12 cX12_unit 3 none false 5 0 0 (fun b => (none, sh, P, b)) 0 0 sh P σ5 83 [(0, .ref (h0 + t)), (1, .int (b2i x1))] [] (k6 σ5)) ?_ (fun k6 hk7 => ?_)
            · intro σ5
              refine tj_aload_n (q := 84) dX12_unit_83 rfl (i := 0) rfl (pl := 0) rfl ?_
              refine tj_callV (q := 87) (kj_V (As := []) (rest := []) (t := t) wi_RX12_315 (hT).s rfl (rX12_countUnit t (hT)) rfl (Nat.le_of_ble_eq_true rfl) ⟨Nat.le_of_ble_eq_true rfl, Nat.le_of_ble_eq_true rfl⟩ (Nat.le_of_ble_eq_true rfl) dX12_unit_84) rfl (fun σ8 => ?_)
              refine tj_aload_n (q := 88) dX12_unit_87 rfl (i := 0) rfl (pl := 0) rfl ?_
              refine tj_bipush (q := 90) (v := 20) dX12_unit_88 rfl (by decide) ?_
              refine tj_callV (q := 93) (kj_V (As := [.int (20 : Int32)]) (rest := []) (t := t) wi_RX12_309 (hT).s rfl (rX12_openUp t (20 : Int32) (hT)) rfl (Nat.le_of_ble_eq_true rfl) ⟨Nat.le_of_ble_eq_true rfl, Nat.le_of_ble_eq_true rfl⟩ (Nat.le_of_ble_eq_true rfl) dX12_unit_90) rfl (fun σ9 => ?_)
              refine tj_goto (q := 2) dX12_unit_93 (by decide) ?_
              exact ih x1 σ9
            · refine tj_bnd (fun k10 => Tj l D cA h0 ad RX12 cX12_unit 3 none false 5 0 0 (fun b => (none, sh, P, b)) 0 0 sh P σ 78 [(0, .ref (h0 + t)), (1, .int (b2i x1))] [] k10) ?_ (fun k10 hk11 => ?_)
              · refine tj_aload_n (q := 79) dX12_unit_78 rfl (i := 0) rfl (pl := 0) rfl ?_
                refine tj_iconst (q := 80) (v := 2) dX12_unit_79 rfl (by decide) ?_
                refine tj_callV (q := 83) (kj_V (As := [.int (2 : Int32)]) (rest := []) (t := t) wi_RX12_264 (hT).s rfl (rX12_wrong t (2 : Int32) (hT)) rfl (Nat.le_of_ble_eq_true rfl) ⟨Nat.le_of_ble_eq_true rfl, Nat.le_of_ble_eq_true rfl⟩ (Nat.le_of_ble_eq_true rfl) dX12_unit_80) rfl (fun σ12 => ?_)
                exact hk7 σ12
              · refine tj_bnz (tgt := 78) (q := 69) dX12_unit_66 (by decide) rfl ?_ ?_
                · exact hk11
                · refine tj_aload_n (q := 70) dX12_unit_69 rfl (i := 0) rfl (pl := 0) rfl ?_
                  refine tj_getI (q := 73) (hT).s fok_12_25 wl_RX12_297 dX12_unit_70 rfl ?_
                  refine tj_bipush (q := 75) (v := 6) dX12_unit_73 rfl (by decide) ?_
                  refine tj_icmp_le (tgt := 83) (q := 78) dX12_unit_75 (by decide) rfl ?_ ?_
                  · exact hk7 σ
                  · exact hk11
          · refine tj_iconst (q := 97) (v := 0) dX12_unit_96 rfl (by decide) ?_
            refine tj_istore_n (q := 98) dX12_unit_97 rfl (i := 1) rfl (by decide) rfl ?_
            refine tj_goto (q := 2) dX12_unit_98 (by decide) ?_
            refine tj_lv [1, 0] rfl ?_
            exact ih false σ
        · refine tj_bz (tgt := 53) (q := 23) dX12_unit_20 (by decide) rfl ?_ ?_
          · refine tj_aload_n (q := 24) dX12_unit_23 rfl (i := 0) rfl (pl := 0) rfl ?_
            refine tj_callZp (q := 27) (kj_V (As := []) (rest := []) (t := t) wi_RX12_306 (hT).s rfl (rX12_mayNot t (hT)) rfl (Nat.le_of_ble_eq_true rfl) ⟨Nat.le_of_ble_eq_true rfl, Nat.le_of_ble_eq_true rfl⟩ (Nat.le_of_ble_eq_true rfl) dX12_unit_24) rfl (fun r13 => ?_)
            refine tj_bz (tgt := 53) (q := 30) dX12_unit_27 (by decide) rfl ?_ ?_
            · refine tj_aload_n (q := 31) dX12_unit_30 rfl (i := 0) rfl (pl := 0) rfl ?_
              refine tj_getI (q := 34) (hT).s fok_12_25 wl_RX12_297 dX12_unit_31 rfl ?_
              refine tj_bipush (q := 36) (v := 6) dX12_unit_34 rfl (by decide) ?_
              refine tj_bnd (fun k15 => ∀ (σ14 : St_), Tj l D cA h0 ad RX12 cX12_unit 3 none false 5 0 0 (fun b => (none, sh, P, b)) 0 0 sh P σ14 44 [(0, .ref (h0 + t)), (1, .int (b2i x1))] [] (k15 σ14)) ?_ (fun k15 hk16 => ?_)
              · intro σ14
                refine tj_aload_n (q := 45) dX12_unit_44 rfl (i := 0) rfl (pl := 0) rfl ?_
                refine tj_bipush (q := 47) (v := 21) dX12_unit_45 rfl (by decide) ?_
                refine tj_callV (q := 50) (kj_V (As := [.int (21 : Int32)]) (rest := []) (t := t) wi_RX12_309 (hT).s rfl (rX12_openUp t (21 : Int32) (hT)) rfl (Nat.le_of_ble_eq_true rfl) ⟨Nat.le_of_ble_eq_true rfl, Nat.le_of_ble_eq_true rfl⟩ (Nat.le_of_ble_eq_true rfl) dX12_unit_47) rfl (fun σ17 => ?_)
                refine tj_goto (q := 2) dX12_unit_50 (by decide) ?_
                exact ih x1 σ17
              · refine tj_icmp_le (tgt := 44) (q := 39) dX12_unit_36 (by decide) rfl ?_ ?_
                · exact hk16 σ
                · refine tj_aload_n (q := 40) dX12_unit_39 rfl (i := 0) rfl (pl := 0) rfl ?_
                  refine tj_iconst (q := 41) (v := 2) dX12_unit_40 rfl (by decide) ?_
                  refine tj_callV (q := 44) (kj_V (As := [.int (2 : Int32)]) (rest := []) (t := t) wi_RX12_264 (hT).s rfl (rX12_wrong t (2 : Int32) (hT)) rfl (Nat.le_of_ble_eq_true rfl) ⟨Nat.le_of_ble_eq_true rfl, Nat.le_of_ble_eq_true rfl⟩ (Nat.le_of_ble_eq_true rfl) dX12_unit_41) rfl (fun σ18 => ?_)
                  exact hk16 σ18
            · exact hk3
          · exact hk3
      · refine tj_lv [0] rfl ?_
        exact hk101 σ
    · refine tj_lv [0] rfl ?_
      exact hk101 σ

set_option maxHeartbeats 4000000 in
theorem rX12_unit (t : Nat) (hT : LY12 sh P t) : Rj l D cA h0 ad yX12_unit cX12_unit 3 none false 5 0 0 (fun b => (none, sh, P, b)) [.ref (h0 + t)] sh P σ (mX12_unit t σ) := by
  rw [mX12_unit]
  refine Rj.of (by decide) (fun h => by cases h) (Nat.le_of_ble_eq_true rfl) ?_
  refine tj_lv0 (lv' := [(0, .ref (h0 + t))]) rfl ?_
  refine tj_iconst (q := 1) (v := 1) dX12_unit_0 rfl (by decide) ?_
  refine tj_istore_n (q := 2) dX12_unit_1 rfl (i := 1) rfl (by decide) rfl ?_
  refine tj_lv [1, 0] rfl ?_
  refine tmX12_unit_L2 t hT _ ?_ FU true σ
  · intro σ19
    refine tj_aload_n (q := 102) dX12_unit_101 rfl (i := 0) rfl (pl := 0) rfl ?_
    refine tj_getI (q := 105) (hT).s fok_12_2 wl_RX12_203 dX12_unit_102 rfl ?_
    refine tj_if_le (tgt := 109) (q := 108) dX12_unit_105 (by decide) rfl ?_ ?_
    · refine tj_aload_n (q := 110) dX12_unit_109 rfl (i := 0) rfl (pl := 0) rfl ?_
      refine tj_callIp (q := 113) (kj_V (As := []) (rest := []) (t := t) wi_RX12_318 (hT).s rfl (rX12_asked t (hT)) rfl (Nat.le_of_ble_eq_true rfl) ⟨Nat.le_of_ble_eq_true rfl, Nat.le_of_ble_eq_true rfl⟩ (Nat.le_of_ble_eq_true rfl) dX12_unit_110) rfl (fun r20 => ?_)
      refine tj_istore_n (q := 114) dX12_unit_113 rfl (i := 2) rfl (by decide) rfl ?_
      refine tj_aload_n (q := 115) dX12_unit_114 rfl (i := 0) rfl (pl := 1) rfl ?_
      refine tj_getI (q := 118) (hT).s fok_12_6 wl_RX12_190 dX12_unit_115 rfl ?_
      refine tj_iconst (q := 119) (v := 2) dX12_unit_118 rfl (by decide) ?_
      refine tj_bnd (fun k22 => ∀ (σ21 : St_), Tj l D cA h0 ad RX12 cX12_unit 3 none false 5 0 0 (fun b => (none, sh, P, b)) 0 0 sh P σ21 138 [(0, .ref (h0 + t)), (2, .int r20)] [] (k22 σ21)) ?_ (fun k22 hk23 => ?_)
      · intro σ21
        refine tj_aload_n (q := 139) dX12_unit_138 rfl (i := 0) rfl (pl := 0) rfl ?_
        refine tj_getI (q := 142) (hT).s fok_12_2 wl_RX12_203 dX12_unit_139 rfl ?_
        refine tj_if_le (tgt := 146) (q := 145) dX12_unit_142 (by decide) rfl ?_ ?_
        · refine tj_aload_n (q := 147) dX12_unit_146 rfl (i := 0) rfl (pl := 0) rfl ?_
          refine tj_callV (q := 150) (kj_V (As := []) (rest := []) (t := t) wi_RX12_315 (hT).s rfl (rX12_countUnit t (hT)) rfl (Nat.le_of_ble_eq_true rfl) ⟨Nat.le_of_ble_eq_true rfl, Nat.le_of_ble_eq_true rfl⟩ (Nat.le_of_ble_eq_true rfl) dX12_unit_147) rfl (fun σ24 => ?_)
          refine tj_aload_n (q := 151) dX12_unit_150 rfl (i := 0) rfl (pl := 0) rfl ?_
          refine tj_iload_n (q := 152) dX12_unit_151 rfl (i := 2) rfl (pl := 1) rfl ?_
          refine tj_bnd (fun k26 => ∀ (j25 : Bool), Tj l D cA h0 ad RX12 cX12_unit 3 none false 5 0 0 (fun b => (none, sh, P, b)) 0 0 sh P σ24 160 [(0, .ref (h0 + t)), (2, .int r20)] [.int (b2i j25), .ref (h0 + t)] (k26 j25)) ?_ (fun k26 hk27 => ?_)
          · intro j25
            refine tj_iload_n (q := 161) dX12_unit_160 rfl (i := 2) rfl (pl := 1) rfl ?_
            refine tj_bnd (fun k29 => ∀ (j28 : Int32), Tj l D cA h0 ad RX12 cX12_unit 3 none false 5 0 0 (fun b => (none, sh, P, b)) 0 0 sh P σ24 172 [(0, .ref (h0 + t))] [.int j28, .int (b2i j25), .ref (h0 + t)] (k29 j28)) ?_ (fun k29 hk30 => ?_)
            · intro j28
              refine tj_callV (q := 175) (kj_V (As := [.int (b2i j25), .int j28]) (rest := []) (t := t) wi_RX12_293 (hT).s rfl (rX12_add t (b2i j25) j28 (hT)) rfl (Nat.le_of_ble_eq_true rfl) ⟨Nat.le_of_ble_eq_true rfl, Nat.le_of_ble_eq_true rfl⟩ (Nat.le_of_ble_eq_true rfl) dX12_unit_172) rfl (fun σ31 => ?_)
              refine tj_aload_n (q := 176) dX12_unit_175 rfl (i := 0) rfl (pl := 0) rfl ?_
              refine tj_callV (q := 179) (kj_V (As := []) (rest := []) (t := t) wi_RX12_267 (hT).s rfl (rX12_token t (hT)) rfl (Nat.le_of_ble_eq_true rfl) ⟨Nat.le_of_ble_eq_true rfl, Nat.le_of_ble_eq_true rfl⟩ (Nat.le_of_ble_eq_true rfl) dX12_unit_176) rfl (fun σ32 => ?_)
              exact tj_vret rfl rfl (Nat.le_of_ble_eq_true rfl) (Nat.le_of_ble_eq_true rfl) dX12_unit_179
            · refine tj_if_ge (tgt := 171) (q := 164) dX12_unit_161 (by decide) rfl ?_ ?_
              · refine tj_iload_n (q := 172) dX12_unit_171 rfl (i := 2) rfl (pl := 1) rfl ?_
                refine tj_lv [0] rfl ?_
                exact hk30 r20
              · refine tj_aload_n (q := 165) dX12_unit_164 rfl (i := 0) rfl (pl := 0) rfl ?_
                refine tj_getI (q := 168) (hT).s fok_12_8 wl_RX12_187 dX12_unit_165 rfl ?_
                refine tj_goto (q := 172) dX12_unit_168 (by decide) ?_
                refine tj_lv [0] rfl ?_
                exact hk30 (σ24.1 t 8)
          · refine tj_if_ge (tgt := 159) (q := 155) dX12_unit_152 (by decide) rfl ?_ ?_
            · refine tj_iconst (q := 160) (v := 1) dX12_unit_159 rfl (by decide) ?_
              exact hk27 true
            · refine tj_iconst (q := 156) (v := 0) dX12_unit_155 rfl (by decide) ?_
              refine tj_goto (q := 160) dX12_unit_156 (by decide) ?_
              exact hk27 false
        · exact tj_vret rfl rfl (Nat.le_of_ble_eq_true rfl) (Nat.le_of_ble_eq_true rfl) dX12_unit_145
      · refine tj_bnd (fun k33 => Tj l D cA h0 ad RX12 cX12_unit 3 none false 5 0 0 (fun b => (none, sh, P, b)) 0 0 sh P σ19 133 [(0, .ref (h0 + t)), (2, .int r20)] [] k33) ?_ (fun k33 hk34 => ?_)
        · refine tj_aload_n (q := 134) dX12_unit_133 rfl (i := 0) rfl (pl := 0) rfl ?_
          refine tj_iconst (q := 135) (v := 2) dX12_unit_134 rfl (by decide) ?_
          refine tj_callV (q := 138) (kj_V (As := [.int (2 : Int32)]) (rest := []) (t := t) wi_RX12_264 (hT).s rfl (rX12_wrong t (2 : Int32) (hT)) rfl (Nat.le_of_ble_eq_true rfl) ⟨Nat.le_of_ble_eq_true rfl, Nat.le_of_ble_eq_true rfl⟩ (Nat.le_of_ble_eq_true rfl) dX12_unit_135) rfl (fun σ35 => ?_)
          exact hk23 σ35
        · refine tj_bnd (fun k36 => Tj l D cA h0 ad RX12 cX12_unit 3 none false 5 0 0 (fun b => (none, sh, P, b)) 0 0 sh P σ19 126 [(0, .ref (h0 + t)), (2, .int r20)] [] k36) ?_ (fun k36 hk37 => ?_)
          · refine tj_aload_n (q := 127) dX12_unit_126 rfl (i := 0) rfl (pl := 0) rfl ?_
            refine tj_callZp (q := 130) (kj_V (As := []) (rest := []) (t := t) wi_RX12_312 (hT).s rfl (rX12_isFull t (hT)) rfl (Nat.le_of_ble_eq_true rfl) ⟨Nat.le_of_ble_eq_true rfl, Nat.le_of_ble_eq_true rfl⟩ (Nat.le_of_ble_eq_true rfl) dX12_unit_127) rfl (fun r38 => ?_)
            refine tj_bz (tgt := 138) (q := 133) dX12_unit_130 (by decide) rfl ?_ ?_
            · exact hk34
            · exact hk23 σ19
          · refine tj_icmp_eq (tgt := 126) (q := 122) dX12_unit_119 (by decide) rfl ?_ ?_
            · refine tj_lv [1, 0] rfl ?_
              exact hk37
            · refine tj_iload_n (q := 123) dX12_unit_122 rfl (i := 2) rfl (pl := 0) rfl ?_
              refine tj_if_lt (tgt := 133) (q := 126) dX12_unit_123 (by decide) rfl ?_ ?_
              · refine tj_lv [1, 0] rfl ?_
                exact hk34
              · refine tj_lv [1, 0] rfl ?_
                exact hk37
    · exact tj_vret rfl rfl (Nat.le_of_ble_eq_true rfl) (Nat.le_of_ble_eq_true rfl) dX12_unit_108

end
