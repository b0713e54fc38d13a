section
variable {l : Launch} {D : va_G} {cA : Nat → ClassId} {h0 : Nat} {ad : Ad_} {sh : Sh_} {P : Px_} {σ : St_}
theorem dX0_begin_0 : decode cX0_begin 0 = .ok (.aload_n 0, 1) := by decide +kernel
theorem dX0_begin_1 : decode cX0_begin 1 = .ok (.iconst 0, 1) := by decide +kernel
theorem dX0_begin_2 : decode cX0_begin 2 = .ok (.putfield 15, 3) := by decide +kernel
theorem dX0_begin_5 : decode cX0_begin 5 = .ok (.aload_n 0, 1) := by decide +kernel
theorem dX0_begin_6 : decode cX0_begin 6 = .ok (.iconst 0, 1) := by decide +kernel
theorem dX0_begin_7 : decode cX0_begin 7 = .ok (.putfield 19, 3) := by decide +kernel
theorem dX0_begin_10 : decode cX0_begin 10 = .ok (.aload_n 0, 1) := by decide +kernel
theorem dX0_begin_11 : decode cX0_begin 11 = .ok (.iconst 0, 1) := by decide +kernel
theorem dX0_begin_12 : decode cX0_begin 12 = .ok (.putfield 22, 3) := by decide +kernel
theorem dX0_begin_15 : decode cX0_begin 15 = .ok (.aload_n 0, 1) := by decide +kernel
theorem dX0_begin_16 : decode cX0_begin 16 = .ok (.getfield 11, 3) := by decide +kernel
theorem dX0_begin_19 : decode cX0_begin 19 = .ok (.iconst 0, 1) := by decide +kernel
theorem dX0_begin_20 : decode cX0_begin 20 = .ok (.aaload, 1) := by decide +kernel
theorem dX0_begin_21 : decode cX0_begin 21 = .ok (.aload_n 1, 1) := by decide +kernel
theorem dX0_begin_22 : decode cX0_begin 22 = .ok (.invokevirtual 26, 3) := by decide +kernel
theorem dX0_begin_25 : decode cX0_begin 25 = .ok (.return_, 1) := by decide +kernel
theorem wl_RX0_15 : Cond.fieldLink RX0 15 (TX0 1).1 (TX0 1).2.1 (TX0 1).2.2.1 ∈ TB := tbm 418 (by decide +kernel) (by decide +kernel)
theorem wl_RX0_19 : Cond.fieldLink RX0 19 (TX0 2).1 (TX0 2).2.1 (TX0 2).2.2.1 ∈ TB := tbm 419 (by decide +kernel) (by decide +kernel)
theorem wl_RX0_22 : Cond.fieldLink RX0 22 (TX0 3).1 (TX0 3).2.1 (TX0 3).2.2.1 ∈ TB := tbm 421 (by decide +kernel) (by decide +kernel)
theorem wl_RX0_11 : Cond.fieldLink RX0 11 (TX0 0).1 (TX0 0).2.1 (TX0 0).2.2.1 ∈ TB := tbm 417 (by decide +kernel) (by decide +kernel)
theorem wi_RX0_26 : Iv RX0 26 yX8_copy cX8_copy 2 none 1 := ⟨tbm 1011 (by decide +kernel) (by decide +kernel), wm_X8_copy⟩
def mX0_begin (t : Nat) (p1 : Nat) (σ : St_) : Option St_ :=
 (bnd (sI σ t 1 (0 : Int32)) fun σ1 =>
 (bnd (sI σ1 t 2 (0 : Int32)) fun σ2 =>
 (bnd (sI σ2 t 3 (0 : Int32)) fun σ3 =>
 (if bin (0 : Int32) 41 = true then
 ((mX8_copy (t + 2 + 3 * (0 : Int32).toNatClampNeg) p1 σ3).bind fun σ5 =>
 (some σ5))
 else none))))
set_option maxHeartbeats 4000000 in
theorem rX0_begin (t : Nat) (p1 : Nat) (hT : LY0 sh P t) (hp1 : LY8 sh P p1) : Rj l D cA h0 ad yX0_begin cX0_begin 2 none false 3 0 0 (fun b => (none, sh, P, b)) [.ref (h0 + t), .ref (h0 + p1)] sh P σ (mX0_begin t p1 σ) := by
  rw [mX0_begin]
  refine Rj.of (by decide) (fun h => by cases h) (Nat.le_of_ble_eq_true rfl) ?_
  refine tj_lv0 (lv' := [(0, .ref (h0 + t)), (1, .ref (h0 + p1))]) rfl ?_
  refine tj_aload_n (q := 1) dX0_begin_0 rfl (i := 0) rfl (pl := 0) rfl ?_
  refine tj_iconst (q := 2) (v := 0) dX0_begin_1 rfl (by decide) ?_
  refine tj_putI (q := 5) (hT).s fok_0_1 tok_0 fpk_0_1 wl_RX0_15 dX0_begin_2 rfl (fun σ1 => ?_)
  refine tj_aload_n (q := 6) dX0_begin_5 rfl (i := 0) rfl (pl := 0) rfl ?_
  refine tj_iconst (q := 7) (v := 0) dX0_begin_6 rfl (by decide) ?_
  refine tj_putI (q := 10) (hT).s fok_0_2 tok_0 fpk_0_2 wl_RX0_19 dX0_begin_7 rfl (fun σ2 => ?_)
  refine tj_aload_n (q := 11) dX0_begin_10 rfl (i := 0) rfl (pl := 0) rfl ?_
  refine tj_iconst (q := 12) (v := 0) dX0_begin_11 rfl (by decide) ?_
  refine tj_putI (q := 15) (hT).s fok_0_3 tok_0 fpk_0_3 wl_RX0_22 dX0_begin_12 rfl (fun σ3 => ?_)
  refine tj_aload_n (q := 16) dX0_begin_15 rfl (i := 0) rfl (pl := 0) rfl ?_
  refine tj_getR (q := 19) (hT).s (hT).p_ring fok_0_0 wl_RX0_11 dX0_begin_16 rfl ?_
  refine tj_iconst (q := 20) (v := 0) dX0_begin_19 rfl (by decide) ?_
  refine tj_aaload (q := 21) (j := t + 2 + 3 * (0 : Int32).toNatClampNeg) (hT).s_ring (fun hg4 => ((hT).e_ring _ (bin_lt hg4)).1) dX0_begin_20 rfl (fun hg4 => ?_)
  refine tj_aload_n (q := 22) dX0_begin_21 rfl (i := 1) rfl (pl := 1) rfl ?_
  refine tj_callV (q := 25) (kj_V (As := [.ref (h0 + p1)]) (rest := []) (t := (t + 2 + 3 * (0 : Int32).toNatClampNeg)) wi_RX0_26 (((hT).e_ring _ (bin_lt hg4)).2).s rfl (rX8_copy (t + 2 + 3 * (0 : Int32).toNatClampNeg) p1 (((hT).e_ring _ (bin_lt hg4)).2) (hp1)) rfl (Nat.le_of_ble_eq_true rfl) ⟨Nat.le_of_ble_eq_true rfl, Nat.le_of_ble_eq_true rfl⟩ (Nat.le_of_ble_eq_true rfl) dX0_begin_22) rfl (fun σ5 => ?_)
  exact tj_vret rfl rfl (Nat.le_of_ble_eq_true rfl) (Nat.le_of_ble_eq_true rfl) dX0_begin_25

theorem dX0_stateAt_0 : decode cX0_stateAt 0 = .ok (.aload_n 0, 1) := by decide +kernel
theorem dX0_stateAt_1 : decode cX0_stateAt 1 = .ok (.getfield 11, 3) := by decide +kernel
theorem dX0_stateAt_4 : decode cX0_stateAt 4 = .ok (.aload_n 0, 1) := by decide +kernel
theorem dX0_stateAt_5 : decode cX0_stateAt 5 = .ok (.getfield 15, 3) := by decide +kernel
theorem dX0_stateAt_8 : decode cX0_stateAt 8 = .ok (.iload_n 1, 1) := by decide +kernel
theorem dX0_stateAt_9 : decode cX0_stateAt 9 = .ok (.iadd, 1) := by decide +kernel
theorem dX0_stateAt_10 : decode cX0_stateAt 10 = .ok (.bipush 41, 2) := by decide +kernel
theorem dX0_stateAt_12 : decode cX0_stateAt 12 = .ok (.irem, 1) := by decide +kernel
theorem dX0_stateAt_13 : decode cX0_stateAt 13 = .ok (.aaload, 1) := by decide +kernel
theorem dX0_stateAt_14 : decode cX0_stateAt 14 = .ok (.areturn, 1) := by decide +kernel
def mX0_stateAt (t : Nat) (p1 : Int32) (σ : St_) : Option (Fin 41) :=
 (bnd ((σ.1 t 1) + p1) fun v1 =>
 (bnd (v1 - v1 / (41 : Int32) * (41 : Int32)) fun v2 =>
 (if hg3 : bin v2 41 = true then
 (some ⟨v2.toNatClampNeg, bin_lt hg3⟩)
 else none)))
set_option maxHeartbeats 4000000 in
theorem rX0_stateAt (t : Nat) (p1 : Int32) (hT : LY0 sh P t) : Rj l D cA h0 ad yX0_stateAt cX0_stateAt 2 (some (.object "BetterThieves$State")) false 2 0 0 (fun b => (some (.ref (h0 + (t + 2 + 3 * b.val))), sh, P, σ)) [.ref (h0 + t), .int p1] sh P σ (mX0_stateAt t p1 σ) := by
  rw [mX0_stateAt]
  refine Rj.of (by decide) (fun h => by cases h) (Nat.le_of_ble_eq_true rfl) ?_
  refine tj_lv0 (lv' := [(0, .ref (h0 + t)), (1, .int p1)]) rfl ?_
  refine tj_aload_n (q := 1) dX0_stateAt_0 rfl (i := 0) rfl (pl := 0) rfl ?_
  refine tj_getR (q := 4) (hT).s (hT).p_ring fok_0_0 wl_RX0_11 dX0_stateAt_1 rfl ?_
  refine tj_aload_n (q := 5) dX0_stateAt_4 rfl (i := 0) rfl (pl := 0) rfl ?_
  refine tj_getI (q := 8) (hT).s fok_0_1 wl_RX0_15 dX0_stateAt_5 rfl ?_
  refine tj_iload_n (q := 9) dX0_stateAt_8 rfl (i := 1) rfl (pl := 1) rfl ?_
  refine tj_iadd (q := 10) dX0_stateAt_9 rfl ?_
  refine tj_bipush (q := 12) (v := 41) dX0_stateAt_10 rfl (by decide) ?_
  refine tj_sndI (fun v1 => ?_)
  refine tj_irem (q := 13) dX0_stateAt_12 rfl (by decide) ?_
  refine tj_topI (fun v2 => ?_)
  refine tj_aaloadD (q := 14) (j := t + 2 + 3 * v2.toNatClampNeg) (hT).s_ring (fun hg3 => ((hT).e_ring _ (bin_lt hg3)).1) dX0_stateAt_13 rfl (fun hg3 => ?_)
  exact tj_aret (C0 := "BetterThieves$State") rfl rfl (Nat.le_of_ble_eq_true rfl) (Nat.le_of_ble_eq_true rfl) dX0_stateAt_14

theorem dX0_add_0 : decode cX0_add 0 = .ok (.aload_n 0, 1) := by decide +kernel
theorem dX0_add_1 : decode cX0_add 1 = .ok (.getfield 22, 3) := by decide +kernel
theorem dX0_add_4 : decode cX0_add 4 = .ok (.bipush 40, 2) := by decide +kernel
theorem dX0_add_6 : decode cX0_add 6 = .ok (.if_icmp .ne 26, 3) := by decide +kernel
theorem dX0_add_9 : decode cX0_add 9 = .ok (.aload_n 0, 1) := by decide +kernel
theorem dX0_add_10 : decode cX0_add 10 = .ok (.aload_n 0, 1) := by decide +kernel
theorem dX0_add_11 : decode cX0_add 11 = .ok (.getfield 15, 3) := by decide +kernel
theorem dX0_add_14 : decode cX0_add 14 = .ok (.iconst 1, 1) := by decide +kernel
theorem dX0_add_15 : decode cX0_add 15 = .ok (.iadd, 1) := by decide +kernel
theorem dX0_add_16 : decode cX0_add 16 = .ok (.bipush 41, 2) := by decide +kernel
theorem dX0_add_18 : decode cX0_add 18 = .ok (.irem, 1) := by decide +kernel
theorem dX0_add_19 : decode cX0_add 19 = .ok (.putfield 15, 3) := by decide +kernel
theorem dX0_add_22 : decode cX0_add 22 = .ok (.aload_n 0, 1) := by decide +kernel
theorem dX0_add_23 : decode cX0_add 23 = .ok (.dup, 1) := by decide +kernel
theorem dX0_add_24 : decode cX0_add 24 = .ok (.getfield 22, 3) := by decide +kernel
theorem dX0_add_27 : decode cX0_add 27 = .ok (.iconst 1, 1) := by decide +kernel
theorem dX0_add_28 : decode cX0_add 28 = .ok (.isub, 1) := by decide +kernel
theorem dX0_add_29 : decode cX0_add 29 = .ok (.putfield 22, 3) := by decide +kernel
theorem dX0_add_32 : decode cX0_add 32 = .ok (.aload_n 0, 1) := by decide +kernel
theorem dX0_add_33 : decode cX0_add 33 = .ok (.dup, 1) := by decide +kernel
theorem dX0_add_34 : decode cX0_add 34 = .ok (.getfield 22, 3) := by decide +kernel
theorem dX0_add_37 : decode cX0_add 37 = .ok (.iconst 1, 1) := by decide +kernel
theorem dX0_add_38 : decode cX0_add 38 = .ok (.iadd, 1) := by decide +kernel
theorem dX0_add_39 : decode cX0_add 39 = .ok (.putfield 22, 3) := by decide +kernel
theorem dX0_add_42 : decode cX0_add 42 = .ok (.aload_n 0, 1) := by decide +kernel
theorem dX0_add_43 : decode cX0_add 43 = .ok (.aload_n 0, 1) := by decide +kernel
theorem dX0_add_44 : decode cX0_add 44 = .ok (.getfield 22, 3) := by decide +kernel
theorem dX0_add_47 : decode cX0_add 47 = .ok (.putfield 19, 3) := by decide +kernel
theorem dX0_add_50 : decode cX0_add 50 = .ok (.aload_n 0, 1) := by decide +kernel
theorem dX0_add_51 : decode cX0_add 51 = .ok (.aload_n 0, 1) := by decide +kernel
theorem dX0_add_52 : decode cX0_add 52 = .ok (.getfield 22, 3) := by decide +kernel
theorem dX0_add_55 : decode cX0_add 55 = .ok (.invokevirtual 30, 3) := by decide +kernel
theorem dX0_add_58 : decode cX0_add 58 = .ok (.aload_n 1, 1) := by decide +kernel
theorem dX0_add_59 : decode cX0_add 59 = .ok (.invokevirtual 26, 3) := by decide +kernel
theorem dX0_add_62 : decode cX0_add 62 = .ok (.return_, 1) := by decide +kernel
theorem wm_X0_stateAt : Cond.instanceMethod yX0_stateAt ∈ TB ∧ Cond.selects yX0_stateAt.cls yX0_stateAt yX0_stateAt ∈ TB ∧ Cond.initialized yX0_stateAt.cls ∈ TB ∧ Cond.code yX0_stateAt cX0_stateAt 2 (some (.object "BetterThieves$State")) ∈ TB ∧ (yX0_stateAt.cls ≠ "java/lang/invoke/MethodHandle" ∧ yX0_stateAt.cls ≠ "java/lang/invoke/VarHandle" ∧ (parseMethodDescriptor yX0_stateAt.desc).map (fun d => d.parameters.length) = some 1) ∧ 2 ≤ 21 := ⟨tbm 1136 (by decide +kernel) (by decide +kernel), tbm 36 (by decide +kernel) (by decide +kernel), tbm 141 (by decide +kernel) (by decide +kernel), tbm 1137 (by decide +kernel) (by decide +kernel), by decide +kernel, by decide⟩
theorem wi_RX0_30 : Iv RX0 30 yX0_stateAt cX0_stateAt 2 (some (.object "BetterThieves$State")) 1 := ⟨tbm 1134 (by decide +kernel) (by decide +kernel), wm_X0_stateAt⟩
def mX0_add (t : Nat) (p1 : Nat) (σ : St_) : Option St_ :=
 (bnd (fun (σ1 : St_) => (bnd (sI σ1 t 3 ((σ1.1 t 3) + (1 : Int32))) fun σ4 =>
 (bnd (sI σ4 t 2 (σ4.1 t 3)) fun σ5 =>
 ((mX0_stateAt t (σ5.1 t 3) σ5).bind fun r6 =>
 ((mX8_copy (t + 2 + 3 * r6.val) p1 σ5).bind fun σ7 =>
 (some σ7)))))) fun k2 =>
 (if (σ.1 t 3) = (40 : Int32) then
 (bnd ((σ.1 t 1) + (1 : Int32)) fun v8 =>
 (bnd (sI σ t 1 (v8 - v8 / (41 : Int32) * (41 : Int32))) fun σ9 =>
 (bnd (sI σ9 t 3 ((σ9.1 t 3) - (1 : Int32))) fun σ10 =>
 (k2 σ10))))
 else (k2 σ)))
set_option maxHeartbeats 4000000 in
theorem rX0_add (t : Nat) (p1 : Nat) (hT : LY0 sh P t) (hp1 : LY8 sh P p1) : Rj l D cA h0 ad yX0_add cX0_add 2 none false 3 0 0 (fun b => (none, sh, P, b)) [.ref (h0 + t), .ref (h0 + p1)] sh P σ (mX0_add t p1 σ) := by
  rw [mX0_add]
  refine Rj.of (by decide) (fun h => by cases h) (Nat.le_of_ble_eq_true rfl) ?_
  refine tj_lv0 (lv' := [(0, .ref (h0 + t)), (1, .ref (h0 + p1))]) rfl ?_
  refine tj_aload_n (q := 1) dX0_add_0 rfl (i := 0) rfl (pl := 0) rfl ?_
  refine tj_getI (q := 4) (hT).s fok_0_3 wl_RX0_22 dX0_add_1 rfl ?_
  refine tj_bipush (q := 6) (v := 40) dX0_add_4 rfl (by decide) ?_
  refine tj_bnd (fun k2 => ∀ (σ1 : St_), Tj l D cA h0 ad RX0 cX0_add 2 none false 3 0 0 (fun b => (none, sh, P, b)) 0 0 sh P σ1 32 [(0, .ref (h0 + t)), (1, .ref (h0 + p1))] [] (k2 σ1)) ?_ (fun k2 hk3 => ?_)
  · intro σ1
    refine tj_aload_n (q := 33) dX0_add_32 rfl (i := 0) rfl (pl := 0) rfl ?_
    refine tj_dup (q := 34) dX0_add_33 rfl rfl ?_
    refine tj_getI (q := 37) (hT).s fok_0_3 wl_RX0_22 dX0_add_34 rfl ?_
    refine tj_iconst (q := 38) (v := 1) dX0_add_37 rfl (by decide) ?_
    refine tj_iadd (q := 39) dX0_add_38 rfl ?_
    refine tj_putI (q := 42) (hT).s fok_0_3 tok_0 fpk_0_3 wl_RX0_22 dX0_add_39 rfl (fun σ4 => ?_)
    refine tj_aload_n (q := 43) dX0_add_42 rfl (i := 0) rfl (pl := 0) rfl ?_
    refine tj_aload_n (q := 44) dX0_add_43 rfl (i := 0) rfl (pl := 0) rfl ?_
    refine tj_getI (q := 47) (hT).s fok_0_3 wl_RX0_22 dX0_add_44 rfl ?_
    refine tj_putI (q := 50) (hT).s fok_0_2 tok_0 fpk_0_2 wl_RX0_19 dX0_add_47 rfl (fun σ5 => ?_)
    refine tj_aload_n (q := 51) dX0_add_50 rfl (i := 0) rfl (pl := 0) rfl ?_
    refine tj_aload_n (q := 52) dX0_add_51 rfl (i := 0) rfl (pl := 0) rfl ?_
    refine tj_getI (q := 55) (hT).s fok_0_3 wl_RX0_22 dX0_add_52 rfl ?_
    refine tj_callR (idf := fun b : Fin 41 => t + 2 + 3 * b.val) (q := 58) (kj_V (As := [.int (σ5.1 t 3)]) (rest := []) (t := t) wi_RX0_30 (hT).s rfl (rX0_stateAt t (σ5.1 t 3) (hT)) rfl (Nat.le_of_ble_eq_true rfl) ⟨Nat.le_of_ble_eq_true rfl, Nat.le_of_ble_eq_true rfl⟩ (Nat.le_of_ble_eq_true rfl) dX0_add_55) rfl (fun r6 => ?_)
    refine tj_aload_n (q := 59) dX0_add_58 rfl (i := 1) rfl (pl := 1) rfl ?_
    refine tj_callV (q := 62) (kj_V (As := [.ref (h0 + p1)]) (rest := []) (t := (t + 2 + 3 * r6.val)) wi_RX0_26 (((hT).e_ring r6.val r6.isLt).2).s rfl (rX8_copy (t + 2 + 3 * r6.val) p1 (((hT).e_ring r6.val r6.isLt).2) (hp1)) rfl (Nat.le_of_ble_eq_true rfl) ⟨Nat.le_of_ble_eq_true rfl, Nat.le_of_ble_eq_true rfl⟩ (Nat.le_of_ble_eq_true rfl) dX0_add_59) rfl (fun σ7 => ?_)
    exact tj_vret rfl rfl (Nat.le_of_ble_eq_true rfl) (Nat.le_of_ble_eq_true rfl) dX0_add_62
  · refine tj_icmp_ne (tgt := 32) (q := 9) dX0_add_6 (by decide) rfl ?_ ?_
    · refine tj_aload_n (q := 10) dX0_add_9 rfl (i := 0) rfl (pl := 0) rfl ?_
      refine tj_aload_n (q := 11) dX0_add_10 rfl (i := 0) rfl (pl := 0) rfl ?_
      refine tj_getI (q := 14) (hT).s fok_0_1 wl_RX0_15 dX0_add_11 rfl ?_
      refine tj_iconst (q := 15) (v := 1) dX0_add_14 rfl (by decide) ?_
      refine tj_iadd (q := 16) dX0_add_15 rfl ?_
      refine tj_bipush (q := 18) (v := 41) dX0_add_16 rfl (by decide) ?_
      refine tj_sndI (fun v8 => ?_)
      refine tj_irem (q := 19) dX0_add_18 rfl (by decide) ?_
      refine tj_putI (q := 22) (hT).s fok_0_1 tok_0 fpk_0_1 wl_RX0_15 dX0_add_19 rfl (fun σ9 => ?_)
      refine tj_aload_n (q := 23) dX0_add_22 rfl (i := 0) rfl (pl := 0) rfl ?_
      refine tj_dup (q := 24) dX0_add_23 rfl rfl ?_
      refine tj_getI (q := 27) (hT).s fok_0_3 wl_RX0_22 dX0_add_24 rfl ?_
      refine tj_iconst (q := 28) (v := 1) dX0_add_27 rfl (by decide) ?_
      refine tj_isub (q := 29) dX0_add_28 rfl ?_
      refine tj_putI (q := 32) (hT).s fok_0_3 tok_0 fpk_0_3 wl_RX0_22 dX0_add_29 rfl (fun σ10 => ?_)
      exact hk3 σ10
    · exact hk3 σ

theorem dX0_step_0 : decode cX0_step 0 = .ok (.aload_n 0, 1) := by decide +kernel
theorem dX0_step_1 : decode cX0_step 1 = .ok (.getfield 22, 3) := by decide +kernel
theorem dX0_step_4 : decode cX0_step 4 = .ok (.iload_n 1, 1) := by decide +kernel
theorem dX0_step_5 : decode cX0_step 5 = .ok (.iadd, 1) := by decide +kernel
theorem dX0_step_6 : decode cX0_step 6 = .ok (.ifCond .lt 16, 3) := by decide +kernel
theorem dX0_step_9 : decode cX0_step 9 = .ok (.aload_n 0, 1) := by decide +kernel
theorem dX0_step_10 : decode cX0_step 10 = .ok (.getfield 22, 3) := by decide +kernel
theorem dX0_step_13 : decode cX0_step 13 = .ok (.iload_n 1, 1) := by decide +kernel
theorem dX0_step_14 : decode cX0_step 14 = .ok (.iadd, 1) := by decide +kernel
theorem dX0_step_15 : decode cX0_step 15 = .ok (.aload_n 0, 1) := by decide +kernel
theorem dX0_step_16 : decode cX0_step 16 = .ok (.getfield 19, 3) := by decide +kernel
theorem dX0_step_19 : decode cX0_step 19 = .ok (.if_icmp .le 5, 3) := by decide +kernel
theorem dX0_step_22 : decode cX0_step 22 = .ok (.iconst 0, 1) := by decide +kernel
theorem dX0_step_23 : decode cX0_step 23 = .ok (.ireturn, 1) := by decide +kernel
theorem dX0_step_24 : decode cX0_step 24 = .ok (.aload_n 0, 1) := by decide +kernel
theorem dX0_step_25 : decode cX0_step 25 = .ok (.dup, 1) := by decide +kernel
theorem dX0_step_26 : decode cX0_step 26 = .ok (.getfield 22, 3) := by decide +kernel
theorem dX0_step_29 : decode cX0_step 29 = .ok (.iload_n 1, 1) := by decide +kernel
theorem dX0_step_30 : decode cX0_step 30 = .ok (.iadd, 1) := by decide +kernel
theorem dX0_step_31 : decode cX0_step 31 = .ok (.putfield 22, 3) := by decide +kernel
theorem dX0_step_34 : decode cX0_step 34 = .ok (.aload_n 2, 1) := by decide +kernel
theorem dX0_step_35 : decode cX0_step 35 = .ok (.aload_n 0, 1) := by decide +kernel
theorem dX0_step_36 : decode cX0_step 36 = .ok (.aload_n 0, 1) := by decide +kernel
theorem dX0_step_37 : decode cX0_step 37 = .ok (.getfield 22, 3) := by decide +kernel
theorem dX0_step_40 : decode cX0_step 40 = .ok (.invokevirtual 30, 3) := by decide +kernel
theorem dX0_step_43 : decode cX0_step 43 = .ok (.invokevirtual 26, 3) := by decide +kernel
theorem dX0_step_46 : decode cX0_step 46 = .ok (.iconst 1, 1) := by decide +kernel
theorem dX0_step_47 : decode cX0_step 47 = .ok (.ireturn, 1) := by decide +kernel
def mX0_step (t : Nat) (p1 : Int32) (p2 : Nat) (σ : St_) : Option (Bool × St_) :=
 (if ((σ.1 t 3) + p1) < 0 then
 (some (false, σ))
 else (if ((σ.1 t 3) + p1) ≤ (σ.1 t 2) then
 (bnd (sI σ t 3 ((σ.1 t 3) + p1)) fun σ1 =>
 ((mX0_stateAt t (σ1.1 t 3) σ1).bind fun r2 =>
 ((mX8_copy p2 (t + 2 + 3 * r2.val) σ1).bind fun σ3 =>
 (some (true, σ3)))))
 else (some (false, σ))))
set_option maxHeartbeats 4000000 in
theorem rX0_step (t : Nat) (p1 : Int32) (p2 : Nat) (hT : LY0 sh P t) (hp2 : LY8 sh P p2) : Rj l D cA h0 ad yX0_step cX0_step 3 (some .boolean) false 3 0 0 (fun b => (some (.int (b2i b.1)), sh, P, b.2)) [.ref (h0 + t), .int p1, .ref (h0 + p2)] sh P σ (mX0_step t p1 p2 σ) := by
  rw [mX0_step]
  refine Rj.of (by decide) (fun h => by cases h) (Nat.le_of_ble_eq_true rfl) ?_
  refine tj_lv0 (lv' := [(0, .ref (h0 + t)), (1, .int p1), (2, .ref (h0 + p2))]) rfl ?_
  refine tj_aload_n (q := 1) dX0_step_0 rfl (i := 0) rfl (pl := 0) rfl ?_
  refine tj_getI (q := 4) (hT).s fok_0_3 wl_RX0_22 dX0_step_1 rfl ?_
  refine tj_iload_n (q := 5) dX0_step_4 rfl (i := 1) rfl (pl := 1) rfl ?_
  refine tj_iadd (q := 6) dX0_step_5 rfl ?_
  refine tj_if_lt (tgt := 22) (q := 9) dX0_step_6 (by decide) rfl ?_ ?_
  · refine tj_iconst (q := 23) (v := 0) dX0_step_22 rfl (by decide) ?_
    exact tj_zret rfl (by decide) rfl (Nat.le_of_ble_eq_true rfl) (Nat.le_of_ble_eq_true rfl) dX0_step_23
  · refine tj_aload_n (q := 10) dX0_step_9 rfl (i := 0) rfl (pl := 0) rfl ?_
    refine tj_getI (q := 13) (hT).s fok_0_3 wl_RX0_22 dX0_step_10 rfl ?_
    refine tj_iload_n (q := 14) dX0_step_13 rfl (i := 1) rfl (pl := 1) rfl ?_
    refine tj_iadd (q := 15) dX0_step_14 rfl ?_
    refine tj_aload_n (q := 16) dX0_step_15 rfl (i := 0) rfl (pl := 0) rfl ?_
    refine tj_getI (q := 19) (hT).s fok_0_2 wl_RX0_19 dX0_step_16 rfl ?_
    refine tj_icmp_le (tgt := 24) (q := 22) dX0_step_19 (by decide) rfl ?_ ?_
    · refine tj_aload_n (q := 25) dX0_step_24 rfl (i := 0) rfl (pl := 0) rfl ?_
      refine tj_dup (q := 26) dX0_step_25 rfl rfl ?_
      refine tj_getI (q := 29) (hT).s fok_0_3 wl_RX0_22 dX0_step_26 rfl ?_
      refine tj_iload_n (q := 30) dX0_step_29 rfl (i := 1) rfl (pl := 1) rfl ?_
      refine tj_iadd (q := 31) dX0_step_30 rfl ?_
      refine tj_putI (q := 34) (hT).s fok_0_3 tok_0 fpk_0_3 wl_RX0_22 dX0_step_31 rfl (fun σ1 => ?_)
      refine tj_aload_n (q := 35) dX0_step_34 rfl (i := 2) rfl (pl := 2) rfl ?_
      refine tj_aload_n (q := 36) dX0_step_35 rfl (i := 0) rfl (pl := 0) rfl ?_
      refine tj_aload_n (q := 37) dX0_step_36 rfl (i := 0) rfl (pl := 0) rfl ?_
      refine tj_getI (q := 40) (hT).s fok_0_3 wl_RX0_22 dX0_step_37 rfl ?_
      refine tj_callR (idf := fun b : Fin 41 => t + 2 + 3 * b.val) (q := 43) (kj_V (As := [.int (σ1.1 t 3)]) (rest := [.ref (h0 + p2)]) (t := t) wi_RX0_30 (hT).s rfl (rX0_stateAt t (σ1.1 t 3) (hT)) rfl (Nat.le_of_ble_eq_true rfl) ⟨Nat.le_of_ble_eq_true rfl, Nat.le_of_ble_eq_true rfl⟩ (Nat.le_of_ble_eq_true rfl) dX0_step_40) rfl (fun r2 => ?_)
      refine tj_callV (q := 46) (kj_V (As := [.ref (h0 + (t + 2 + 3 * r2.val))]) (rest := []) (t := p2) wi_RX0_26 (hp2).s rfl (rX8_copy p2 (t + 2 + 3 * r2.val) (hp2) (((hT).e_ring r2.val r2.isLt).2)) rfl (Nat.le_of_ble_eq_true rfl) ⟨Nat.le_of_ble_eq_true rfl, Nat.le_of_ble_eq_true rfl⟩ (Nat.le_of_ble_eq_true rfl) dX0_step_43) rfl (fun σ3 => ?_)
      refine tj_iconst (q := 47) (v := 1) dX0_step_46 rfl (by decide) ?_
      exact tj_zret rfl (by decide) rfl (Nat.le_of_ble_eq_true rfl) (Nat.le_of_ble_eq_true rfl) dX0_step_47
    · refine tj_iconst (q := 23) (v := 0) dX0_step_22 rfl (by decide) ?_
      exact tj_zret rfl (by decide) rfl (Nat.le_of_ble_eq_true rfl) (Nat.le_of_ble_eq_true rfl) dX0_step_23

end
