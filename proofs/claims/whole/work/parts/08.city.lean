section
variable {l : Launch} {D : va_G} {cA : Nat → ClassId} {h0 : Nat} {ad : Ad_} {sh : Sh_} {P : Px_} {σ : St_}
theorem dX1_clear_0 : decode cX1_clear 0 = .ok (.aload_n 0, 1) := by decide +kernel
theorem dX1_clear_1 : decode cX1_clear 1 = .ok (.bipush 6, 2) := by decide +kernel
theorem dX1_clear_3 : decode cX1_clear 3 = .ok (.putfield 9, 3) := by decide +kernel
theorem dX1_clear_6 : decode cX1_clear 6 = .ok (.aload_n 0, 1) := by decide +kernel
theorem dX1_clear_7 : decode cX1_clear 7 = .ok (.iconst 0, 1) := by decide +kernel
theorem dX1_clear_8 : decode cX1_clear 8 = .ok (.putfield 15, 3) := by decide +kernel
theorem dX1_clear_11 : decode cX1_clear 11 = .ok (.aload_n 0, 1) := by decide +kernel
theorem dX1_clear_12 : decode cX1_clear 12 = .ok (.iconst 0, 1) := by decide +kernel
theorem dX1_clear_13 : decode cX1_clear 13 = .ok (.putfield 18, 3) := by decide +kernel
theorem dX1_clear_16 : decode cX1_clear 16 = .ok (.aload_n 0, 1) := by decide +kernel
theorem dX1_clear_17 : decode cX1_clear 17 = .ok (.iconst 0, 1) := by decide +kernel
theorem dX1_clear_18 : decode cX1_clear 18 = .ok (.putfield 21, 3) := by decide +kernel
theorem dX1_clear_21 : decode cX1_clear 21 = .ok (.aload_n 0, 1) := by decide +kernel
theorem dX1_clear_22 : decode cX1_clear 22 = .ok (.iconst 0, 1) := by decide +kernel
theorem dX1_clear_23 : decode cX1_clear 23 = .ok (.putfield 24, 3) := by decide +kernel
theorem dX1_clear_26 : decode cX1_clear 26 = .ok (.aload_n 0, 1) := by decide +kernel
theorem dX1_clear_27 : decode cX1_clear 27 = .ok (.getfield 40, 3) := by decide +kernel
theorem dX1_clear_30 : decode cX1_clear 30 = .ok (.iconst 0, 1) := by decide +kernel
theorem dX1_clear_31 : decode cX1_clear 31 = .ok (.invokestatic 65, 3) := by decide +kernel
theorem dX1_clear_34 : decode cX1_clear 34 = .ok (.aload_n 0, 1) := by decide +kernel
theorem dX1_clear_35 : decode cX1_clear 35 = .ok (.getfield 49, 3) := by decide +kernel
theorem dX1_clear_38 : decode cX1_clear 38 = .ok (.iconst (-1), 1) := by decide +kernel
theorem dX1_clear_39 : decode cX1_clear 39 = .ok (.invokestatic 65, 3) := by decide +kernel
theorem dX1_clear_42 : decode cX1_clear 42 = .ok (.aload_n 0, 1) := by decide +kernel
theorem dX1_clear_43 : decode cX1_clear 43 = .ok (.getfield 55, 3) := by decide +kernel
theorem dX1_clear_46 : decode cX1_clear 46 = .ok (.iconst 0, 1) := by decide +kernel
theorem dX1_clear_47 : decode cX1_clear 47 = .ok (.invokestatic 65, 3) := by decide +kernel
theorem dX1_clear_50 : decode cX1_clear 50 = .ok (.aload_n 0, 1) := by decide +kernel
theorem dX1_clear_51 : decode cX1_clear 51 = .ok (.getfield 61, 3) := by decide +kernel
theorem dX1_clear_54 : decode cX1_clear 54 = .ok (.invokevirtual 71, 3) := by decide +kernel
theorem dX1_clear_57 : decode cX1_clear 57 = .ok (.return_, 1) := by decide +kernel
theorem wl_RX1_9 : Cond.fieldLink RX1 9 (TX1 0).1 (TX1 0).2.1 (TX1 0).2.2.1 ∈ TB := tbm 288 (by decide +kernel) (by decide +kernel)
theorem wl_RX1_15 : Cond.fieldLink RX1 15 (TX1 1).1 (TX1 1).2.1 (TX1 1).2.2.1 ∈ TB := tbm 293 (by decide +kernel) (by decide +kernel)
theorem wl_RX1_18 : Cond.fieldLink RX1 18 (TX1 2).1 (TX1 2).2.1 (TX1 2).2.2.1 ∈ TB := tbm 296 (by decide +kernel) (by decide +kernel)
theorem wl_RX1_21 : Cond.fieldLink RX1 21 (TX1 3).1 (TX1 3).2.1 (TX1 3).2.2.1 ∈ TB := tbm 302 (by decide +kernel) (by decide +kernel)
theorem wl_RX1_24 : Cond.fieldLink RX1 24 (TX1 4).1 (TX1 4).2.1 (TX1 4).2.2.1 ∈ TB := tbm 306 (by decide +kernel) (by decide +kernel)
theorem wl_RX1_40 : Cond.fieldLink RX1 40 (TX1 9).1 (TX1 9).2.1 (TX1 9).2.2.1 ∈ TB := tbm 322 (by decide +kernel) (by decide +kernel)
theorem wi_RX1_65 : Is RX1 65 yJ7_fill_53178 cJ7_fill_53178 4 none 2 := ⟨tbm 831 (by decide +kernel) (by decide +kernel), wm_J7_fill_53178⟩
theorem wl_RX1_49 : Cond.fieldLink RX1 49 (TX1 12).1 (TX1 12).2.1 (TX1 12).2.2.1 ∈ TB := tbm 331 (by decide +kernel) (by decide +kernel)
theorem wl_RX1_55 : Cond.fieldLink RX1 55 (TX1 14).1 (TX1 14).2.1 (TX1 14).2.2.1 ∈ TB := tbm 334 (by decide +kernel) (by decide +kernel)
theorem wl_RX1_61 : Cond.fieldLink RX1 61 (TX1 15).1 (TX1 15).2.1 (TX1 15).2.2.1 ∈ TB := tbm 337 (by decide +kernel) (by decide +kernel)
theorem wm_X3_clear : Cond.instanceMethod yX3_clear ∈ TB ∧ Cond.selects yX3_clear.cls yX3_clear yX3_clear ∈ TB ∧ Cond.initialized yX3_clear.cls ∈ TB ∧ Cond.code yX3_clear cX3_clear 1 none ∈ TB ∧ (yX3_clear.cls ≠ "java/lang/invoke/MethodHandle" ∧ yX3_clear.cls ≠ "java/lang/invoke/VarHandle" ∧ (parseMethodDescriptor yX3_clear.desc).map (fun d => d.parameters.length) = some 0) ∧ 1 ≤ 21 := ⟨tbm 835 (by decide +kernel) (by decide +kernel), tbm 836 (by decide +kernel) (by decide +kernel), tbm 139 (by decide +kernel) (by decide +kernel), tbm 837 (by decide +kernel) (by decide +kernel), by decide +kernel, by decide⟩
theorem wi_RX1_71 : Iv RX1 71 yX3_clear cX3_clear 1 none 0 := ⟨tbm 834 (by decide +kernel) (by decide +kernel), wm_X3_clear⟩
def mX1_clear (t : Nat) (σ : St_) : Option St_ :=
 (bnd (sI σ t 0 (6 : Int32)) fun σ1 =>
 (bnd (sI σ1 t 1 (0 : Int32)) fun σ2 =>
 (bnd (sI σ2 t 2 (0 : Int32)) fun σ3 =>
 (bnd (sI σ3 t 3 (0 : Int32)) fun σ4 =>
 (bnd (sI σ4 t 4 (0 : Int32)) fun σ5 =>
 ((mJ7_fill_53178 (t + 5) 5 (0 : Int32) σ5).bind fun σ6 =>
 ((mJ7_fill_53178 (t + 8) 90 (-1 : Int32) σ6).bind fun σ7 =>
 ((mJ7_fill_53178 (t + 10) 9 (0 : Int32) σ7).bind fun σ8 =>
 ((mX3_clear (t + 11) σ8).bind fun σ9 =>
 (some σ9))))))))))
set_option maxHeartbeats 4000000 in
theorem rX1_clear (t : Nat) (hT : LY1 sh P t) : Rj l D cA h0 ad yX1_clear cX1_clear 1 none false 3 0 0 (fun b => (none, sh, P, b)) [.ref (h0 + t)] sh P σ (mX1_clear t σ) := by
  rw [mX1_clear]
  refine Rj.of (by decide) (fun h => by cases h) (Nat.le_of_ble_eq_true rfl) ?_
  refine tj_lv0 (lv' := [(0, .ref (h0 + t))]) rfl ?_
  refine tj_aload_n (q := 1) dX1_clear_0 rfl (i := 0) rfl (pl := 0) rfl ?_
  refine tj_bipush (q := 3) (v := 6) dX1_clear_1 rfl (by decide) ?_
  refine tj_putI (q := 6) (hT).s fok_1_0 tok_1 fpk_1_0 wl_RX1_9 dX1_clear_3 rfl (fun σ1 => ?_)
  refine tj_aload_n (q := 7) dX1_clear_6 rfl (i := 0) rfl (pl := 0) rfl ?_
  refine tj_iconst (q := 8) (v := 0) dX1_clear_7 rfl (by decide) ?_
  refine tj_putI (q := 11) (hT).s fok_1_1 tok_1 fpk_1_1 wl_RX1_15 dX1_clear_8 rfl (fun σ2 => ?_)
  refine tj_aload_n (q := 12) dX1_clear_11 rfl (i := 0) rfl (pl := 0) rfl ?_
  refine tj_iconst (q := 13) (v := 0) dX1_clear_12 rfl (by decide) ?_
  refine tj_putI (q := 16) (hT).s fok_1_2 tok_1 fpk_1_2 wl_RX1_18 dX1_clear_13 rfl (fun σ3 => ?_)
  refine tj_aload_n (q := 17) dX1_clear_16 rfl (i := 0) rfl (pl := 0) rfl ?_
  refine tj_iconst (q := 18) (v := 0) dX1_clear_17 rfl (by decide) ?_
  refine tj_putI (q := 21) (hT).s fok_1_3 tok_1 fpk_1_3 wl_RX1_21 dX1_clear_18 rfl (fun σ4 => ?_)
  refine tj_aload_n (q := 22) dX1_clear_21 rfl (i := 0) rfl (pl := 0) rfl ?_
  refine tj_iconst (q := 23) (v := 0) dX1_clear_22 rfl (by decide) ?_
  refine tj_putI (q := 26) (hT).s fok_1_4 tok_1 fpk_1_4 wl_RX1_24 dX1_clear_23 rfl (fun σ5 => ?_)
  refine tj_aload_n (q := 27) dX1_clear_26 rfl (i := 0) rfl (pl := 0) rfl ?_
  refine tj_getR (q := 30) (hT).s (hT).p_watch fok_1_9 wl_RX1_40 dX1_clear_27 rfl ?_
  refine tj_iconst (q := 31) (v := 0) dX1_clear_30 rfl (by decide) ?_
  refine tj_callV (q := 34) (kj_S (As := [.ref (h0 + (t + 5)), .int (0 : Int32)]) (rest := []) wi_RX1_65 (rJ7_fill_53178 (t + 5) 5 (0 : Int32) ((hT).s_watch)) rfl (Nat.le_of_ble_eq_true rfl) ⟨Nat.le_of_ble_eq_true rfl, Nat.le_of_ble_eq_true rfl⟩ (Nat.le_of_ble_eq_true rfl) dX1_clear_31) rfl (fun σ6 => ?_)
  refine tj_aload_n (q := 35) dX1_clear_34 rfl (i := 0) rfl (pl := 0) rfl ?_
  refine tj_getR (q := 38) (hT).s (hT).p_value fok_1_12 wl_RX1_49 dX1_clear_35 rfl ?_
  refine tj_iconst (q := 39) (v := (-1)) dX1_clear_38 rfl (by decide) ?_
  refine tj_callV (q := 42) (kj_S (As := [.ref (h0 + (t + 8)), .int (-1 : Int32)]) (rest := []) wi_RX1_65 (rJ7_fill_53178 (t + 8) 90 (-1 : Int32) ((hT).s_value)) rfl (Nat.le_of_ble_eq_true rfl) ⟨Nat.le_of_ble_eq_true rfl, Nat.le_of_ble_eq_true rfl⟩ (Nat.le_of_ble_eq_true rfl) dX1_clear_39) rfl (fun σ7 => ?_)
  refine tj_aload_n (q := 43) dX1_clear_42 rfl (i := 0) rfl (pl := 0) rfl ?_
  refine tj_getR (q := 46) (hT).s (hT).p_held fok_1_14 wl_RX1_55 dX1_clear_43 rfl ?_
  refine tj_iconst (q := 47) (v := 0) dX1_clear_46 rfl (by decide) ?_
  refine tj_callV (q := 50) (kj_S (As := [.ref (h0 + (t + 10)), .int (0 : Int32)]) (rest := []) wi_RX1_65 (rJ7_fill_53178 (t + 10) 9 (0 : Int32) ((hT).s_held)) rfl (Nat.le_of_ble_eq_true rfl) ⟨Nat.le_of_ble_eq_true rfl, Nat.le_of_ble_eq_true rfl⟩ (Nat.le_of_ble_eq_true rfl) dX1_clear_47) rfl (fun σ8 => ?_)
  refine tj_aload_n (q := 51) dX1_clear_50 rfl (i := 0) rfl (pl := 0) rfl ?_
  refine tj_getR (q := 54) (hT).s (hT).p_law fok_1_15 wl_RX1_61 dX1_clear_51 rfl ?_
  refine tj_callV (q := 57) (kj_V (As := []) (rest := []) (t := (t + 11)) wi_RX1_71 ((hT).o_law).s rfl (rX3_clear (t + 11) ((hT).o_law)) rfl (Nat.le_of_ble_eq_true rfl) ⟨Nat.le_of_ble_eq_true rfl, Nat.le_of_ble_eq_true rfl⟩ (Nat.le_of_ble_eq_true rfl) dX1_clear_54) rfl (fun σ9 => ?_)
  exact tj_vret rfl rfl (Nat.le_of_ble_eq_true rfl) (Nat.le_of_ble_eq_true rfl) dX1_clear_57

theorem dX1_settle_0 : decode cX1_settle 0 = .ok (.iconst 0, 1) := by decide +kernel
theorem dX1_settle_1 : decode cX1_settle 1 = .ok (.istore_n 1, 1) := by decide +kernel
theorem dX1_settle_2 : decode cX1_settle 2 = .ok (.iload_n 1, 1) := by decide +kernel
theorem dX1_settle_3 : decode cX1_settle 3 = .ok (.bipush 90, 2) := by decide +kernel
theorem dX1_settle_5 : decode cX1_settle 5 = .ok (.if_icmp .ge 34, 3) := by decide +kernel
theorem dX1_settle_8 : decode cX1_settle 8 = .ok (.aload_n 0, 1) := by decide +kernel
theorem dX1_settle_9 : decode cX1_settle 9 = .ok (.getfield 49, 3) := by decide +kernel
theorem dX1_settle_12 : decode cX1_settle 12 = .ok (.iload_n 1, 1) := by decide +kernel
theorem dX1_settle_13 : decode cX1_settle 13 = .ok (.iaload, 1) := by decide +kernel
theorem dX1_settle_14 : decode cX1_settle 14 = .ok (.iconst (-1), 1) := by decide +kernel
theorem dX1_settle_15 : decode cX1_settle 15 = .ok (.if_icmp .ne 18, 3) := by decide +kernel
theorem dX1_settle_18 : decode cX1_settle 18 = .ok (.aload_n 0, 1) := by decide +kernel
theorem dX1_settle_19 : decode cX1_settle 19 = .ok (.getfield 49, 3) := by decide +kernel
theorem dX1_settle_22 : decode cX1_settle 22 = .ok (.iload_n 1, 1) := by decide +kernel
theorem dX1_settle_23 : decode cX1_settle 23 = .ok (.aload_n 0, 1) := by decide +kernel
theorem dX1_settle_24 : decode cX1_settle 24 = .ok (.getfield 34, 3) := by decide +kernel
theorem dX1_settle_27 : decode cX1_settle 27 = .ok (.iload_n 1, 1) := by decide +kernel
theorem dX1_settle_28 : decode cX1_settle 28 = .ok (.bipush 10, 2) := by decide +kernel
theorem dX1_settle_30 : decode cX1_settle 30 = .ok (.irem, 1) := by decide +kernel
theorem dX1_settle_31 : decode cX1_settle 31 = .ok (.iaload, 1) := by decide +kernel
theorem dX1_settle_32 : decode cX1_settle 32 = .ok (.iastore, 1) := by decide +kernel
theorem dX1_settle_33 : decode cX1_settle 33 = .ok (.iinc 1 1, 3) := by decide +kernel
theorem dX1_settle_36 : decode cX1_settle 36 = .ok (.goto (-34), 3) := by decide +kernel
theorem dX1_settle_39 : decode cX1_settle 39 = .ok (.aload_n 0, 1) := by decide +kernel
theorem dX1_settle_40 : decode cX1_settle 40 = .ok (.getfield 49, 3) := by decide +kernel
theorem dX1_settle_43 : decode cX1_settle 43 = .ok (.iconst 0, 1) := by decide +kernel
theorem dX1_settle_44 : decode cX1_settle 44 = .ok (.aload_n 0, 1) := by decide +kernel
theorem dX1_settle_45 : decode cX1_settle 45 = .ok (.getfield 52, 3) := by decide +kernel
theorem dX1_settle_48 : decode cX1_settle 48 = .ok (.iconst 0, 1) := by decide +kernel
theorem dX1_settle_49 : decode cX1_settle 49 = .ok (.bipush 50, 2) := by decide +kernel
theorem dX1_settle_51 : decode cX1_settle 51 = .ok (.invokestatic 74, 3) := by decide +kernel
theorem dX1_settle_54 : decode cX1_settle 54 = .ok (.return_, 1) := by decide +kernel
theorem wl_RX1_34 : Cond.fieldLink RX1 34 (TX1 7).1 (TX1 7).2.1 (TX1 7).2.2.1 ∈ TB := tbm 317 (by decide +kernel) (by decide +kernel)
theorem wl_RX1_52 : Cond.fieldLink RX1 52 (TX1 13).1 (TX1 13).2.1 (TX1 13).2.2.1 ∈ TB := tbm 333 (by decide +kernel) (by decide +kernel)
theorem wj_RX1_74 : Ijc RX1 74 := ⟨tbm 998 (by decide +kernel) (by decide +kernel), tbm 1000 (by decide +kernel) (by decide +kernel), tbm 999 (by decide +kernel) (by decide +kernel), tbm 154 (by decide +kernel) (by decide +kernel)⟩
def mX1_settle_L2 (t : Nat) (k39 : St_ → Option St_) : Nat → Int32 → St_ → Option St_
  | 0, _, _ => none
  | n + 1, x1, σ => (if (90 : Int32) ≤ x1 then
 (k39 σ)
 else (if bin x1 90 = true then bnd (σ.1 (t + 8) x1.toNatClampNeg) fun v1 =>
 (bnd (fun (σ2 : St_) => (mX1_settle_L2 t k39 n (x1 + 1) σ2)) fun k3 =>
 (if v1 = (-1 : Int32) then
 (bnd (x1 - x1 / (10 : Int32) * (10 : Int32)) fun v5 =>
 (if bin v5 10 = true then bnd (σ.1 (t + 3) v5.toNatClampNeg) fun v6 =>
 (if bin x1 90 = true then bnd (sI σ (t + 8) x1.toNatClampNeg v6) fun σ7 =>
 (k3 σ7)
 else none)
 else none))
 else (k3 σ)))
 else none))
def mX1_settle (t : Nat) (σ : St_) : Option St_ :=
 (mX1_settle_L2 t
 (fun (σ8 : St_) => (if cpok (0 : Int32) (0 : Int32) (50 : Int32) 90 50 = true then bnd (cpI σ8 (t + 8) (t + 9) (0 : Int32) (0 : Int32) (50 : Int32)) fun σ9 =>
 (some σ9)
 else none)) FU (0 : Int32) σ)
set_option maxHeartbeats 4000000 in
theorem tmX1_settle_L2 (t : Nat) (hT : LY1 sh P t) (k39 : St_ → Option St_) (hk39 : ∀ (σ1 : St_), Tj l D cA h0 ad RX1 cX1_settle 2 none false 2 0 0 (fun b => (none, sh, P, b)) 0 0 sh P σ1 39 [(0, .ref (h0 + t))] [] (k39 σ1)) : ∀ (n : Nat) (x1 : Int32) (σ : St_), Tj l D cA h0 ad RX1 cX1_settle 2 none false 2 0 0 (fun b => (none, sh, P, b)) 0 0 sh P σ 2 [(0, .ref (h0 + t)), (1, .int x1)] [] (mX1_settle_L2 t k39 n x1 σ) := by
  intro n
  induction n with
  | zero => intros; exact tj_none
  | succ n ih =>
    intro x1 σ
    rw [mX1_settle_L2]
    refine tj_iload_n (q := 3) dX1_settle_2 rfl (i := 1) rfl (pl := 1) rfl ?_
    refine tj_bipush (q := 5) (v := 90) dX1_settle_3 rfl (by decide) ?_
    refine tj_icmp_ge (tgt := 39) (q := 8) dX1_settle_5 (by decide) rfl ?_ ?_
    · refine tj_lv [0] rfl ?_
      exact hk39 σ
    · refine tj_aload_n (q := 9) dX1_settle_8 rfl (i := 0) rfl (pl := 0) rfl ?_
      refine tj_getR (q := 12) (hT).s (hT).p_value fok_1_12 wl_RX1_49 dX1_settle_9 rfl ?_
      refine tj_iload_n (q := 13) dX1_settle_12 rfl (i := 1) rfl (pl := 1) rfl ?_
      refine tj_iaload (q := 14) (hT).s_value dX1_settle_13 rfl ?_
      refine tj_topI (fun v1 => ?_)
      refine tj_iconst (q := 15) (v := (-1)) dX1_settle_14 rfl (by decide) ?_
      refine tj_bnd (fun k3 => ∀ (σ2 : St_), Tj l D cA h0 ad RX1 cX1_settle 2 none false 2 0 0 (fun b => (none, sh, P, b)) 0 0 sh P σ2 33 [(0, .ref (h0 + t)), (1, .int x1)] [] (k3 σ2)) ?_ (fun k3 hk4 => ?_)
      · intro σ2
        refine tj_iinc (q := 36) (v := x1 + 1) dX1_settle_33 rfl (pl := 1) rfl rfl (by decide) rfl ?_
        refine tj_goto (q := 2) dX1_settle_36 (by decide) ?_
        refine tj_lv [1, 0] rfl ?_
        exact ih (x1 + 1) σ2
      · refine tj_icmp_ne (tgt := 33) (q := 18) dX1_settle_15 (by decide) rfl ?_ ?_
        · refine tj_aload_n (q := 19) dX1_settle_18 rfl (i := 0) rfl (pl := 0) rfl ?_
          refine tj_getR (q := 22) (hT).s (hT).p_value fok_1_12 wl_RX1_49 dX1_settle_19 rfl ?_
          refine tj_iload_n (q := 23) dX1_settle_22 rfl (i := 1) rfl (pl := 1) rfl ?_
          refine tj_aload_n (q := 24) dX1_settle_23 rfl (i := 0) rfl (pl := 0) rfl ?_
          refine tj_getR (q := 27) (hT).s (hT).p_price fok_1_7 wl_RX1_34 dX1_settle_24 rfl ?_
          refine tj_iload_n (q := 28) dX1_settle_27 rfl (i := 1) rfl (pl := 1) rfl ?_
          refine tj_bipush (q := 30) (v := 10) dX1_settle_28 rfl (by decide) ?_
          refine tj_irem (q := 31) dX1_settle_30 rfl (by decide) ?_
          refine tj_topI (fun v5 => ?_)
          refine tj_iaload (q := 32) (hT).s_price dX1_settle_31 rfl ?_
          refine tj_topI (fun v6 => ?_)
          refine tj_iastore (q := 33) (hT).s_value dX1_settle_32 rfl (fun σ7 => ?_)
          exact hk4 σ7
        · exact hk4 σ

set_option maxHeartbeats 4000000 in
theorem rX1_settle (t : Nat) (hT : LY1 sh P t) : Rj l D cA h0 ad yX1_settle cX1_settle 2 none false 2 0 0 (fun b => (none, sh, P, b)) [.ref (h0 + t)] sh P σ (mX1_settle t σ) := by
  rw [mX1_settle]
  refine Rj.of (by decide) (fun h => by cases h) (Nat.le_of_ble_eq_true rfl) ?_
  refine tj_lv0 (lv' := [(0, .ref (h0 + t))]) rfl ?_
  refine tj_iconst (q := 1) (v := 0) dX1_settle_0 rfl (by decide) ?_
  refine tj_istore_n (q := 2) dX1_settle_1 rfl (i := 1) rfl (by decide) rfl ?_
  refine tj_lv [1, 0] rfl ?_
  refine tmX1_settle_L2 t hT _ ?_ FU (0 : Int32) σ
  · intro σ8
    refine tj_aload_n (q := 40) dX1_settle_39 rfl (i := 0) rfl (pl := 0) rfl ?_
    refine tj_getR (q := 43) (hT).s (hT).p_value fok_1_12 wl_RX1_49 dX1_settle_40 rfl ?_
    refine tj_iconst (q := 44) (v := 0) dX1_settle_43 rfl (by decide) ?_
    refine tj_aload_n (q := 45) dX1_settle_44 rfl (i := 0) rfl (pl := 0) rfl ?_
    refine tj_getR (q := 48) (hT).s (hT).p_said fok_1_13 wl_RX1_52 dX1_settle_45 rfl ?_
    refine tj_iconst (q := 49) (v := 0) dX1_settle_48 rfl (by decide) ?_
    refine tj_bipush (q := 51) (v := 50) dX1_settle_49 rfl (by decide) ?_
    refine tj_copy (q := 54) (hT).s_value (hT).s_said wj_RX1_74 dX1_settle_51 rfl (Nat.le_of_ble_eq_true rfl) (Nat.le_of_ble_eq_true rfl) (fun σ9 => ?_)
    exact tj_vret rfl rfl (Nat.le_of_ble_eq_true rfl) (Nat.le_of_ble_eq_true rfl) dX1_settle_54

theorem dX1_valueTo_0 : decode cX1_valueTo 0 = .ok (.aload_n 0, 1) := by decide +kernel
theorem dX1_valueTo_1 : decode cX1_valueTo 1 = .ok (.getfield 49, 3) := by decide +kernel
theorem dX1_valueTo_4 : decode cX1_valueTo 4 = .ok (.iload_n 1, 1) := by decide +kernel
theorem dX1_valueTo_5 : decode cX1_valueTo 5 = .ok (.bipush 10, 2) := by decide +kernel
theorem dX1_valueTo_7 : decode cX1_valueTo 7 = .ok (.imul, 1) := by decide +kernel
theorem dX1_valueTo_8 : decode cX1_valueTo 8 = .ok (.iload_n 2, 1) := by decide +kernel
theorem dX1_valueTo_9 : decode cX1_valueTo 9 = .ok (.iadd, 1) := by decide +kernel
theorem dX1_valueTo_10 : decode cX1_valueTo 10 = .ok (.iaload, 1) := by decide +kernel
theorem dX1_valueTo_11 : decode cX1_valueTo 11 = .ok (.ireturn, 1) := by decide +kernel
def mX1_valueTo (t : Nat) (p1 : Int32) (p2 : Int32) (σ : St_) : Option Int32 :=
 (bnd ((p1 * (10 : Int32)) + p2) fun v1 =>
 (if bin v1 90 = true then bnd (σ.1 (t + 8) v1.toNatClampNeg) fun v2 =>
 (some v2)
 else none))
set_option maxHeartbeats 4000000 in
theorem rX1_valueTo (t : Nat) (p1 : Int32) (p2 : Int32) (hT : LY1 sh P t) : Rj l D cA h0 ad yX1_valueTo cX1_valueTo 3 (some .int) false 2 0 0 (fun b => (some (.int b), sh, P, σ)) [.ref (h0 + t), .int p1, .int p2] sh P σ (mX1_valueTo t p1 p2 σ) := by
  rw [mX1_valueTo]
  refine Rj.of (by decide) (fun h => by cases h) (Nat.le_of_ble_eq_true rfl) ?_
  refine tj_lv0 (lv' := [(0, .ref (h0 + t)), (1, .int p1), (2, .int p2)]) rfl ?_
  refine tj_aload_n (q := 1) dX1_valueTo_0 rfl (i := 0) rfl (pl := 0) rfl ?_
  refine tj_getR (q := 4) (hT).s (hT).p_value fok_1_12 wl_RX1_49 dX1_valueTo_1 rfl ?_
  refine tj_iload_n (q := 5) dX1_valueTo_4 rfl (i := 1) rfl (pl := 1) rfl ?_
  refine tj_bipush (q := 7) (v := 10) dX1_valueTo_5 rfl (by decide) ?_
  refine tj_imul (q := 8) dX1_valueTo_7 rfl ?_
  refine tj_iload_n (q := 9) dX1_valueTo_8 rfl (i := 2) rfl (pl := 2) rfl ?_
  refine tj_iadd (q := 10) dX1_valueTo_9 rfl ?_
  refine tj_topI (fun v1 => ?_)
  refine tj_iaload (q := 11) (hT).s_value dX1_valueTo_10 rfl ?_
  refine tj_topI (fun v2 => ?_)
  exact tj_iret rfl rfl (Nat.le_of_ble_eq_true rfl) (Nat.le_of_ble_eq_true rfl) dX1_valueTo_11

theorem dX1_valueOfSet_0 : decode cX1_valueOfSet 0 = .ok (.iconst 0, 1) := by decide +kernel
theorem dX1_valueOfSet_1 : decode cX1_valueOfSet 1 = .ok (.istore_n 3, 1) := by decide +kernel
theorem dX1_valueOfSet_2 : decode cX1_valueOfSet 2 = .ok (.iconst 0, 1) := by decide +kernel
theorem dX1_valueOfSet_3 : decode cX1_valueOfSet 3 = .ok (.istore 4, 2) := by decide +kernel
theorem dX1_valueOfSet_5 : decode cX1_valueOfSet 5 = .ok (.iload 4, 2) := by decide +kernel
theorem dX1_valueOfSet_7 : decode cX1_valueOfSet 7 = .ok (.aload_n 0, 1) := by decide +kernel
theorem dX1_valueOfSet_8 : decode cX1_valueOfSet 8 = .ok (.getfield 18, 3) := by decide +kernel
theorem dX1_valueOfSet_11 : decode cX1_valueOfSet 11 = .ok (.if_icmp .ge 28, 3) := by decide +kernel
theorem dX1_valueOfSet_14 : decode cX1_valueOfSet 14 = .ok (.iload_n 2, 1) := by decide +kernel
theorem dX1_valueOfSet_15 : decode cX1_valueOfSet 15 = .ok (.iload 4, 2) := by decide +kernel
theorem dX1_valueOfSet_17 : decode cX1_valueOfSet 17 = .ok (.ishr, 1) := by decide +kernel
theorem dX1_valueOfSet_18 : decode cX1_valueOfSet 18 = .ok (.iconst 1, 1) := by decide +kernel
theorem dX1_valueOfSet_19 : decode cX1_valueOfSet 19 = .ok (.iand, 1) := by decide +kernel
theorem dX1_valueOfSet_20 : decode cX1_valueOfSet 20 = .ok (.ifCond .eq 13, 3) := by decide +kernel
theorem dX1_valueOfSet_23 : decode cX1_valueOfSet 23 = .ok (.iload_n 3, 1) := by decide +kernel
theorem dX1_valueOfSet_24 : decode cX1_valueOfSet 24 = .ok (.aload_n 0, 1) := by decide +kernel
theorem dX1_valueOfSet_25 : decode cX1_valueOfSet 25 = .ok (.iload_n 1, 1) := by decide +kernel
theorem dX1_valueOfSet_26 : decode cX1_valueOfSet 26 = .ok (.iload 4, 2) := by decide +kernel
theorem dX1_valueOfSet_28 : decode cX1_valueOfSet 28 = .ok (.invokevirtual 80, 3) := by decide +kernel
theorem dX1_valueOfSet_31 : decode cX1_valueOfSet 31 = .ok (.iadd, 1) := by decide +kernel
theorem dX1_valueOfSet_32 : decode cX1_valueOfSet 32 = .ok (.istore_n 3, 1) := by decide +kernel
theorem dX1_valueOfSet_33 : decode cX1_valueOfSet 33 = .ok (.iinc 4 1, 3) := by decide +kernel
theorem dX1_valueOfSet_36 : decode cX1_valueOfSet 36 = .ok (.goto (-31), 3) := by decide +kernel
theorem dX1_valueOfSet_39 : decode cX1_valueOfSet 39 = .ok (.iload_n 3, 1) := by decide +kernel
theorem dX1_valueOfSet_40 : decode cX1_valueOfSet 40 = .ok (.ireturn, 1) := by decide +kernel
theorem wm_X1_valueTo : Cond.instanceMethod yX1_valueTo ∈ TB ∧ Cond.selects yX1_valueTo.cls yX1_valueTo yX1_valueTo ∈ TB ∧ Cond.initialized yX1_valueTo.cls ∈ TB ∧ Cond.code yX1_valueTo cX1_valueTo 3 (some .int) ∈ TB ∧ (yX1_valueTo.cls ≠ "java/lang/invoke/MethodHandle" ∧ yX1_valueTo.cls ≠ "java/lang/invoke/VarHandle" ∧ (parseMethodDescriptor yX1_valueTo.desc).map (fun d => d.parameters.length) = some 2) ∧ 3 ≤ 21 := ⟨tbm 1049 (by decide +kernel) (by decide +kernel), tbm 1050 (by decide +kernel) (by decide +kernel), tbm 138 (by decide +kernel) (by decide +kernel), tbm 1051 (by decide +kernel) (by decide +kernel), by decide +kernel, by decide⟩
theorem wi_RX1_80 : Iv RX1 80 yX1_valueTo cX1_valueTo 3 (some .int) 2 := ⟨tbm 1064 (by decide +kernel) (by decide +kernel), wm_X1_valueTo⟩
def mX1_valueOfSet_L5 (t : Nat) (σ : St_) (x1 : Int32) (x2 : Int32) : Nat → Int32 → Int32 → Option Int32
  | 0, _, _ => none
  | n + 1, x3, x4 => (if (σ.1 t 2) ≤ x4 then
 (some x3)
 else (bnd (fun (j1 : Int32) => (mX1_valueOfSet_L5 t σ x1 x2 n j1 (x4 + 1))) fun k2 =>
 (if ((x2 >>> (x4 &&& 31)) &&& (1 : Int32)) = 0 then
 (k2 x3)
 else ((mX1_valueTo t x1 x4 σ).bind fun r4 =>
 (bnd (x3 + r4) fun v5 =>
 (k2 v5))))))
def mX1_valueOfSet (t : Nat) (p1 : Int32) (p2 : Int32) (σ : St_) : Option Int32 :=
 (mX1_valueOfSet_L5 t σ p1 p2 FU (0 : Int32) (0 : Int32))
set_option maxHeartbeats 4000000 in
theorem tmX1_valueOfSet_L5 (σ : St_) (t : Nat) (hT : LY1 sh P t) (x1 : Int32) (x2 : Int32) : ∀ (n : Nat) (x3 : Int32) (x4 : Int32), Tj l D cA h0 ad RX1 cX1_valueOfSet 5 (some .int) false 3 0 0 (fun b => (some (.int b), sh, P, σ)) 0 0 sh P σ 5 [(0, .ref (h0 + t)), (1, .int x1), (2, .int x2), (3, .int x3), (4, .int x4)] [] (mX1_valueOfSet_L5 t σ x1 x2 n x3 x4) := by
  intro n
  induction n with
  | zero => intros; exact tj_none
  | succ n ih =>
    intro x3 x4
    rw [mX1_valueOfSet_L5]
    refine tj_iload (q := 7) dX1_valueOfSet_5 rfl (pl := 4) rfl ?_
    refine tj_aload_n (q := 8) dX1_valueOfSet_7 rfl (i := 0) rfl (pl := 0) rfl ?_
    refine tj_getI (q := 11) (hT).s fok_1_2 wl_RX1_18 dX1_valueOfSet_8 rfl ?_
    refine tj_icmp_ge (tgt := 39) (q := 14) dX1_valueOfSet_11 (by decide) rfl ?_ ?_
    · refine tj_iload_n (q := 40) dX1_valueOfSet_39 rfl (i := 3) rfl (pl := 3) rfl ?_
      exact tj_iret rfl rfl (Nat.le_of_ble_eq_true rfl) (Nat.le_of_ble_eq_true rfl) dX1_valueOfSet_40
    · refine tj_iload_n (q := 15) dX1_valueOfSet_14 rfl (i := 2) rfl (pl := 2) rfl ?_
      refine tj_iload (q := 17) dX1_valueOfSet_15 rfl (pl := 4) rfl ?_
      refine tj_ishr (q := 18) dX1_valueOfSet_17 rfl ?_
      refine tj_iconst (q := 19) (v := 1) dX1_valueOfSet_18 rfl (by decide) ?_
      refine tj_iand (q := 20) dX1_valueOfSet_19 rfl ?_
      refine tj_bnd (fun k2 => ∀ (j1 : Int32), Tj l D cA h0 ad RX1 cX1_valueOfSet 5 (some .int) false 3 0 0 (fun b => (some (.int b), sh, P, σ)) 0 0 sh P σ 33 [(0, .ref (h0 + t)), (1, .int x1), (2, .int x2), (3, .int j1), (4, .int x4)] [] (k2 j1)) ?_ (fun k2 hk3 => ?_)
      · intro j1
        refine tj_iinc (q := 36) (v := x4 + 1) dX1_valueOfSet_33 rfl (pl := 4) rfl rfl (by decide) rfl ?_
        refine tj_goto (q := 5) dX1_valueOfSet_36 (by decide) ?_
        refine tj_lv [1, 2, 3, 4, 0] rfl ?_
        exact ih j1 (x4 + 1)
      · refine tj_if_eq (tgt := 33) (q := 23) dX1_valueOfSet_20 (by decide) rfl ?_ ?_
        · exact hk3 x3
        · refine tj_iload_n (q := 24) dX1_valueOfSet_23 rfl (i := 3) rfl (pl := 3) rfl ?_
          refine tj_aload_n (q := 25) dX1_valueOfSet_24 rfl (i := 0) rfl (pl := 0) rfl ?_
          refine tj_iload_n (q := 26) dX1_valueOfSet_25 rfl (i := 1) rfl (pl := 1) rfl ?_
          refine tj_iload (q := 28) dX1_valueOfSet_26 rfl (pl := 4) rfl ?_
          refine tj_callIp (q := 31) (kj_V (As := [.int x1, .int x4]) (rest := [.int x3]) (t := t) wi_RX1_80 (hT).s rfl (rX1_valueTo t x1 x4 (hT)) rfl (Nat.le_of_ble_eq_true rfl) ⟨Nat.le_of_ble_eq_true rfl, Nat.le_of_ble_eq_true rfl⟩ (Nat.le_of_ble_eq_true rfl) dX1_valueOfSet_28) rfl (fun r4 => ?_)
          refine tj_iadd (q := 32) dX1_valueOfSet_31 rfl ?_
          refine tj_topI (fun v5 => ?_)
          refine tj_istore_n (q := 33) dX1_valueOfSet_32 rfl (i := 3) rfl (by decide) rfl ?_
          refine tj_lv [1, 2, 3, 0, 4] rfl ?_
          exact hk3 v5

set_option maxHeartbeats 4000000 in
theorem rX1_valueOfSet (t : Nat) (p1 : Int32) (p2 : Int32) (hT : LY1 sh P t) : Rj l D cA h0 ad yX1_valueOfSet cX1_valueOfSet 5 (some .int) false 3 0 0 (fun b => (some (.int b), sh, P, σ)) [.ref (h0 + t), .int p1, .int p2] sh P σ (mX1_valueOfSet t p1 p2 σ) := by
  rw [mX1_valueOfSet]
  refine Rj.of (by decide) (fun h => by cases h) (Nat.le_of_ble_eq_true rfl) ?_
  refine tj_lv0 (lv' := [(0, .ref (h0 + t)), (1, .int p1), (2, .int p2)]) rfl ?_
  refine tj_iconst (q := 1) (v := 0) dX1_valueOfSet_0 rfl (by decide) ?_
  refine tj_istore_n (q := 2) dX1_valueOfSet_1 rfl (i := 3) rfl (by decide) rfl ?_
  refine tj_iconst (q := 3) (v := 0) dX1_valueOfSet_2 rfl (by decide) ?_
  refine tj_istore (q := 5) dX1_valueOfSet_3 rfl (by decide) rfl ?_
  refine tj_lv [2, 3, 4, 1, 0] rfl ?_
  exact tmX1_valueOfSet_L5 σ t hT p1 p2 FU (0 : Int32) (0 : Int32)

theorem dX1_weightOfSet_0 : decode cX1_weightOfSet 0 = .ok (.iconst 0, 1) := by decide +kernel
theorem dX1_weightOfSet_1 : decode cX1_weightOfSet 1 = .ok (.istore_n 2, 1) := by decide +kernel
theorem dX1_weightOfSet_2 : decode cX1_weightOfSet 2 = .ok (.iconst 0, 1) := by decide +kernel
theorem dX1_weightOfSet_3 : decode cX1_weightOfSet 3 = .ok (.istore_n 3, 1) := by decide +kernel
theorem dX1_weightOfSet_4 : decode cX1_weightOfSet 4 = .ok (.iload_n 3, 1) := by decide +kernel
theorem dX1_weightOfSet_5 : decode cX1_weightOfSet 5 = .ok (.aload_n 0, 1) := by decide +kernel
theorem dX1_weightOfSet_6 : decode cX1_weightOfSet 6 = .ok (.getfield 18, 3) := by decide +kernel
theorem dX1_weightOfSet_9 : decode cX1_weightOfSet 9 = .ok (.if_icmp .ge 26, 3) := by decide +kernel
theorem dX1_weightOfSet_12 : decode cX1_weightOfSet 12 = .ok (.iload_n 1, 1) := by decide +kernel
theorem dX1_weightOfSet_13 : decode cX1_weightOfSet 13 = .ok (.iload_n 3, 1) := by decide +kernel
theorem dX1_weightOfSet_14 : decode cX1_weightOfSet 14 = .ok (.ishr, 1) := by decide +kernel
theorem dX1_weightOfSet_15 : decode cX1_weightOfSet 15 = .ok (.iconst 1, 1) := by decide +kernel
theorem dX1_weightOfSet_16 : decode cX1_weightOfSet 16 = .ok (.iand, 1) := by decide +kernel
theorem dX1_weightOfSet_17 : decode cX1_weightOfSet 17 = .ok (.ifCond .eq 12, 3) := by decide +kernel
theorem dX1_weightOfSet_20 : decode cX1_weightOfSet 20 = .ok (.iload_n 2, 1) := by decide +kernel
theorem dX1_weightOfSet_21 : decode cX1_weightOfSet 21 = .ok (.aload_n 0, 1) := by decide +kernel
theorem dX1_weightOfSet_22 : decode cX1_weightOfSet 22 = .ok (.getfield 31, 3) := by decide +kernel
theorem dX1_weightOfSet_25 : decode cX1_weightOfSet 25 = .ok (.iload_n 3, 1) := by decide +kernel
theorem dX1_weightOfSet_26 : decode cX1_weightOfSet 26 = .ok (.iaload, 1) := by decide +kernel
theorem dX1_weightOfSet_27 : decode cX1_weightOfSet 27 = .ok (.iadd, 1) := by decide +kernel
theorem dX1_weightOfSet_28 : decode cX1_weightOfSet 28 = .ok (.istore_n 2, 1) := by decide +kernel
theorem dX1_weightOfSet_29 : decode cX1_weightOfSet 29 = .ok (.iinc 3 1, 3) := by decide +kernel
theorem dX1_weightOfSet_32 : decode cX1_weightOfSet 32 = .ok (.goto (-28), 3) := by decide +kernel
theorem dX1_weightOfSet_35 : decode cX1_weightOfSet 35 = .ok (.iload_n 2, 1) := by decide +kernel
theorem dX1_weightOfSet_36 : decode cX1_weightOfSet 36 = .ok (.ireturn, 1) := by decide +kernel
theorem wl_RX1_31 : Cond.fieldLink RX1 31 (TX1 6).1 (TX1 6).2.1 (TX1 6).2.2.1 ∈ TB := tbm 313 (by decide +kernel) (by decide +kernel)
def mX1_weightOfSet_L4 (t : Nat) (σ : St_) (x1 : Int32) : Nat → Int32 → Int32 → Option Int32
  | 0, _, _ => none
  | n + 1, x2, x3 => (if (σ.1 t 2) ≤ x3 then
 (some x2)
 else (bnd (fun (j1 : Int32) => (mX1_weightOfSet_L4 t σ x1 n j1 (x3 + 1))) fun k2 =>
 (if ((x1 >>> (x3 &&& 31)) &&& (1 : Int32)) = 0 then
 (k2 x2)
 else (if bin x3 10 = true then bnd (σ.1 (t + 2) x3.toNatClampNeg) fun v4 =>
 (bnd (x2 + v4) fun v5 =>
 (k2 v5))
 else none))))
def mX1_weightOfSet (t : Nat) (p1 : Int32) (σ : St_) : Option Int32 :=
 (mX1_weightOfSet_L4 t σ p1 FU (0 : Int32) (0 : Int32))
set_option maxHeartbeats 4000000 in
theorem tmX1_weightOfSet_L4 (σ : St_) (t : Nat) (hT : LY1 sh P t) (x1 : Int32) : ∀ (n : Nat) (x2 : Int32) (x3 : Int32), Tj l D cA h0 ad RX1 cX1_weightOfSet 4 (some .int) false 2 0 0 (fun b => (some (.int b), sh, P, σ)) 0 0 sh P σ 4 [(0, .ref (h0 + t)), (1, .int x1), (2, .int x2), (3, .int x3)] [] (mX1_weightOfSet_L4 t σ x1 n x2 x3) := by
  intro n
  induction n with
  | zero => intros; exact tj_none
  | succ n ih =>
    intro x2 x3
    rw [mX1_weightOfSet_L4]
    refine tj_iload_n (q := 5) dX1_weightOfSet_4 rfl (i := 3) rfl (pl := 3) rfl ?_
    refine tj_aload_n (q := 6) dX1_weightOfSet_5 rfl (i := 0) rfl (pl := 0) rfl ?_
    refine tj_getI (q := 9) (hT).s fok_1_2 wl_RX1_18 dX1_weightOfSet_6 rfl ?_
    refine tj_icmp_ge (tgt := 35) (q := 12) dX1_weightOfSet_9 (by decide) rfl ?_ ?_
    · refine tj_iload_n (q := 36) dX1_weightOfSet_35 rfl (i := 2) rfl (pl := 2) rfl ?_
      exact tj_iret rfl rfl (Nat.le_of_ble_eq_true rfl) (Nat.le_of_ble_eq_true rfl) dX1_weightOfSet_36
    · refine tj_iload_n (q := 13) dX1_weightOfSet_12 rfl (i := 1) rfl (pl := 1) rfl ?_
      refine tj_iload_n (q := 14) dX1_weightOfSet_13 rfl (i := 3) rfl (pl := 3) rfl ?_
      refine tj_ishr (q := 15) dX1_weightOfSet_14 rfl ?_
      refine tj_iconst (q := 16) (v := 1) dX1_weightOfSet_15 rfl (by decide) ?_
      refine tj_iand (q := 17) dX1_weightOfSet_16 rfl ?_
      refine tj_bnd (fun k2 => ∀ (j1 : Int32), Tj l D cA h0 ad RX1 cX1_weightOfSet 4 (some .int) false 2 0 0 (fun b => (some (.int b), sh, P, σ)) 0 0 sh P σ 29 [(0, .ref (h0 + t)), (1, .int x1), (2, .int j1), (3, .int x3)] [] (k2 j1)) ?_ (fun k2 hk3 => ?_)
      · intro j1
        refine tj_iinc (q := 32) (v := x3 + 1) dX1_weightOfSet_29 rfl (pl := 3) rfl rfl (by decide) rfl ?_
        refine tj_goto (q := 4) dX1_weightOfSet_32 (by decide) ?_
        refine tj_lv [1, 2, 3, 0] rfl ?_
        exact ih j1 (x3 + 1)
      · refine tj_if_eq (tgt := 29) (q := 20) dX1_weightOfSet_17 (by decide) rfl ?_ ?_
        · exact hk3 x2
        · refine tj_iload_n (q := 21) dX1_weightOfSet_20 rfl (i := 2) rfl (pl := 2) rfl ?_
          refine tj_aload_n (q := 22) dX1_weightOfSet_21 rfl (i := 0) rfl (pl := 0) rfl ?_
          refine tj_getR (q := 25) (hT).s (hT).p_weight fok_1_6 wl_RX1_31 dX1_weightOfSet_22 rfl ?_
          refine tj_iload_n (q := 26) dX1_weightOfSet_25 rfl (i := 3) rfl (pl := 3) rfl ?_
          refine tj_iaload (q := 27) (hT).s_weight dX1_weightOfSet_26 rfl ?_
          refine tj_topI (fun v4 => ?_)
          refine tj_iadd (q := 28) dX1_weightOfSet_27 rfl ?_
          refine tj_topI (fun v5 => ?_)
          refine tj_istore_n (q := 29) dX1_weightOfSet_28 rfl (i := 2) rfl (by decide) rfl ?_
          refine tj_lv [1, 2, 0, 3] rfl ?_
          exact hk3 v5

set_option maxHeartbeats 4000000 in
theorem rX1_weightOfSet (t : Nat) (p1 : Int32) (hT : LY1 sh P t) : Rj l D cA h0 ad yX1_weightOfSet cX1_weightOfSet 4 (some .int) false 2 0 0 (fun b => (some (.int b), sh, P, σ)) [.ref (h0 + t), .int p1] sh P σ (mX1_weightOfSet t p1 σ) := by
  rw [mX1_weightOfSet]
  refine Rj.of (by decide) (fun h => by cases h) (Nat.le_of_ble_eq_true rfl) ?_
  refine tj_lv0 (lv' := [(0, .ref (h0 + t)), (1, .int p1)]) rfl ?_
  refine tj_iconst (q := 1) (v := 0) dX1_weightOfSet_0 rfl (by decide) ?_
  refine tj_istore_n (q := 2) dX1_weightOfSet_1 rfl (i := 2) rfl (by decide) rfl ?_
  refine tj_iconst (q := 3) (v := 0) dX1_weightOfSet_2 rfl (by decide) ?_
  refine tj_istore_n (q := 4) dX1_weightOfSet_3 rfl (i := 3) rfl (by decide) rfl ?_
  refine tj_lv [2, 3, 1, 0] rfl ?_
  exact tmX1_weightOfSet_L4 σ t hT p1 FU (0 : Int32) (0 : Int32)

theorem dX1_minutesOf_0 : decode cX1_minutesOf 0 = .ok (.iconst 1, 1) := by decide +kernel
theorem dX1_minutesOf_1 : decode cX1_minutesOf 1 = .ok (.aload_n 0, 1) := by decide +kernel
theorem dX1_minutesOf_2 : decode cX1_minutesOf 2 = .ok (.getfield 37, 3) := by decide +kernel
theorem dX1_minutesOf_5 : decode cX1_minutesOf 5 = .ok (.iload_n 2, 1) := by decide +kernel
theorem dX1_minutesOf_6 : decode cX1_minutesOf 6 = .ok (.iaload, 1) := by decide +kernel
theorem dX1_minutesOf_7 : decode cX1_minutesOf 7 = .ok (.aload_n 0, 1) := by decide +kernel
theorem dX1_minutesOf_8 : decode cX1_minutesOf 8 = .ok (.getfield 46, 3) := by decide +kernel
theorem dX1_minutesOf_11 : decode cX1_minutesOf 11 = .ok (.iload_n 1, 1) := by decide +kernel
theorem dX1_minutesOf_12 : decode cX1_minutesOf 12 = .ok (.iaload, 1) := by decide +kernel
theorem dX1_minutesOf_13 : decode cX1_minutesOf 13 = .ok (.isub, 1) := by decide +kernel
theorem dX1_minutesOf_14 : decode cX1_minutesOf 14 = .ok (.invokestatic 84, 3) := by decide +kernel
theorem dX1_minutesOf_17 : decode cX1_minutesOf 17 = .ok (.iconst 2, 1) := by decide +kernel
theorem dX1_minutesOf_18 : decode cX1_minutesOf 18 = .ok (.iload_n 3, 1) := by decide +kernel
theorem dX1_minutesOf_19 : decode cX1_minutesOf 19 = .ok (.imul, 1) := by decide +kernel
theorem dX1_minutesOf_20 : decode cX1_minutesOf 20 = .ok (.iadd, 1) := by decide +kernel
theorem dX1_minutesOf_21 : decode cX1_minutesOf 21 = .ok (.ireturn, 1) := by decide +kernel
theorem wl_RX1_37 : Cond.fieldLink RX1 37 (TX1 8).1 (TX1 8).2.1 (TX1 8).2.2.1 ∈ TB := tbm 320 (by decide +kernel) (by decide +kernel)
theorem wl_RX1_46 : Cond.fieldLink RX1 46 (TX1 11).1 (TX1 11).2.1 (TX1 11).2.2.1 ∈ TB := tbm 327 (by decide +kernel) (by decide +kernel)
theorem wj_RX1_84 : Is RX1 84 Lib.Math.max.name Lib.Math.max.code 2 (some .int) 2 := ⟨tbm 1081 (by decide +kernel) (by decide +kernel), tbm 780 (by decide +kernel) (by decide +kernel), tbm 151 (by decide +kernel) (by decide +kernel), tbm 781 (by decide +kernel) (by decide +kernel), by decide +kernel, by decide⟩
def mX1_minutesOf (t : Nat) (p1 : Int32) (p2 : Int32) (p3 : Int32) (σ : St_) : Option Int32 :=
 (if bin p2 5 = true then bnd (σ.1 (t + 4) p2.toNatClampNeg) fun v1 =>
 (if bin p1 4 = true then bnd (σ.1 (t + 7) p1.toNatClampNeg) fun v2 =>
 (bnd (if (1 : Int32) < (v1 - v2) then (v1 - v2) else (1 : Int32)) fun v3 =>
 (some (v3 + ((2 : Int32) * p3))))
 else none)
 else none)
set_option maxHeartbeats 4000000 in
theorem rX1_minutesOf (t : Nat) (p1 : Int32) (p2 : Int32) (p3 : Int32) (hT : LY1 sh P t) : Rj l D cA h0 ad yX1_minutesOf cX1_minutesOf 4 (some .int) false 3 0 0 (fun b => (some (.int b), sh, P, σ)) [.ref (h0 + t), .int p1, .int p2, .int p3] sh P σ (mX1_minutesOf t p1 p2 p3 σ) := by
  rw [mX1_minutesOf]
  refine Rj.of (by decide) (fun h => by cases h) (Nat.le_of_ble_eq_true rfl) ?_
  refine tj_lv0 (lv' := [(0, .ref (h0 + t)), (1, .int p1), (2, .int p2), (3, .int p3)]) rfl ?_
  refine tj_iconst (q := 1) (v := 1) dX1_minutesOf_0 rfl (by decide) ?_
  refine tj_aload_n (q := 2) dX1_minutesOf_1 rfl (i := 0) rfl (pl := 0) rfl ?_
  refine tj_getR (q := 5) (hT).s (hT).p_lock fok_1_8 wl_RX1_37 dX1_minutesOf_2 rfl ?_
  refine tj_iload_n (q := 6) dX1_minutesOf_5 rfl (i := 2) rfl (pl := 2) rfl ?_
  refine tj_iaload (q := 7) (hT).s_lock dX1_minutesOf_6 rfl ?_
  refine tj_topI (fun v1 => ?_)
  refine tj_aload_n (q := 8) dX1_minutesOf_7 rfl (i := 0) rfl (pl := 0) rfl ?_
  refine tj_getR (q := 11) (hT).s (hT).p_skill fok_1_11 wl_RX1_46 dX1_minutesOf_8 rfl ?_
  refine tj_iload_n (q := 12) dX1_minutesOf_11 rfl (i := 1) rfl (pl := 1) rfl ?_
  refine tj_iaload (q := 13) (hT).s_skill dX1_minutesOf_12 rfl ?_
  refine tj_topI (fun v2 => ?_)
  refine tj_isub (q := 14) dX1_minutesOf_13 rfl ?_
  refine tj_max (q := 17) wj_RX1_84 dX1_minutesOf_14 rfl (Nat.le_of_ble_eq_true rfl) (Nat.le_of_ble_eq_true rfl) ?_
  refine tj_topI (fun v3 => ?_)
  refine tj_iconst (q := 18) (v := 2) dX1_minutesOf_17 rfl (by decide) ?_
  refine tj_iload_n (q := 19) dX1_minutesOf_18 rfl (i := 3) rfl (pl := 3) rfl ?_
  refine tj_imul (q := 20) dX1_minutesOf_19 rfl ?_
  refine tj_iadd (q := 21) dX1_minutesOf_20 rfl ?_
  exact tj_iret rfl rfl (Nat.le_of_ble_eq_true rfl) (Nat.le_of_ble_eq_true rfl) dX1_minutesOf_21

theorem dX1_canBe_0 : decode cX1_canBe 0 = .ok (.aload_n 1, 1) := by decide +kernel
theorem dX1_canBe_1 : decode cX1_canBe 1 = .ok (.getfield 89, 3) := by decide +kernel
theorem dX1_canBe_4 : decode cX1_canBe 4 = .ok (.iload_n 2, 1) := by decide +kernel
theorem dX1_canBe_5 : decode cX1_canBe 5 = .ok (.ishr, 1) := by decide +kernel
theorem dX1_canBe_6 : decode cX1_canBe 6 = .ok (.iconst 1, 1) := by decide +kernel
theorem dX1_canBe_7 : decode cX1_canBe 7 = .ok (.iand, 1) := by decide +kernel
theorem dX1_canBe_8 : decode cX1_canBe 8 = .ok (.ifCond .eq 5, 3) := by decide +kernel
theorem dX1_canBe_11 : decode cX1_canBe 11 = .ok (.iconst 0, 1) := by decide +kernel
theorem dX1_canBe_12 : decode cX1_canBe 12 = .ok (.ireturn, 1) := by decide +kernel
theorem dX1_canBe_13 : decode cX1_canBe 13 = .ok (.iload 4, 2) := by decide +kernel
theorem dX1_canBe_15 : decode cX1_canBe 15 = .ok (.invokestatic 94, 3) := by decide +kernel
theorem dX1_canBe_18 : decode cX1_canBe 18 = .ok (.iload 5, 2) := by decide +kernel
theorem dX1_canBe_20 : decode cX1_canBe 20 = .ok (.invokestatic 94, 3) := by decide +kernel
theorem dX1_canBe_23 : decode cX1_canBe 23 = .ok (.iadd, 1) := by decide +kernel
theorem dX1_canBe_24 : decode cX1_canBe 24 = .ok (.istore 6, 2) := by decide +kernel
theorem dX1_canBe_26 : decode cX1_canBe 26 = .ok (.aload_n 1, 1) := by decide +kernel
theorem dX1_canBe_27 : decode cX1_canBe 27 = .ok (.getfield 100, 3) := by decide +kernel
theorem dX1_canBe_30 : decode cX1_canBe 30 = .ok (.iconst 5, 1) := by decide +kernel
theorem dX1_canBe_31 : decode cX1_canBe 31 = .ok (.iload_n 2, 1) := by decide +kernel
theorem dX1_canBe_32 : decode cX1_canBe 32 = .ok (.iadd, 1) := by decide +kernel
theorem dX1_canBe_33 : decode cX1_canBe 33 = .ok (.iaload, 1) := by decide +kernel
theorem dX1_canBe_34 : decode cX1_canBe 34 = .ok (.iload 5, 2) := by decide +kernel
theorem dX1_canBe_36 : decode cX1_canBe 36 = .ok (.iconst (-1), 1) := by decide +kernel
theorem dX1_canBe_37 : decode cX1_canBe 37 = .ok (.ixor, 1) := by decide +kernel
theorem dX1_canBe_38 : decode cX1_canBe 38 = .ok (.iand, 1) := by decide +kernel
theorem dX1_canBe_39 : decode cX1_canBe 39 = .ok (.iload 4, 2) := by decide +kernel
theorem dX1_canBe_41 : decode cX1_canBe 41 = .ok (.ior, 1) := by decide +kernel
theorem dX1_canBe_42 : decode cX1_canBe 42 = .ok (.istore 7, 2) := by decide +kernel
theorem dX1_canBe_44 : decode cX1_canBe 44 = .ok (.aload_n 0, 1) := by decide +kernel
theorem dX1_canBe_45 : decode cX1_canBe 45 = .ok (.iload_n 2, 1) := by decide +kernel
theorem dX1_canBe_46 : decode cX1_canBe 46 = .ok (.iload_n 3, 1) := by decide +kernel
theorem dX1_canBe_47 : decode cX1_canBe 47 = .ok (.iload 6, 2) := by decide +kernel
theorem dX1_canBe_49 : decode cX1_canBe 49 = .ok (.invokevirtual 101, 3) := by decide +kernel
theorem dX1_canBe_52 : decode cX1_canBe 52 = .ok (.bipush 15, 2) := by decide +kernel
theorem dX1_canBe_54 : decode cX1_canBe 54 = .ok (.if_icmp .gt 22, 3) := by decide +kernel
theorem dX1_canBe_57 : decode cX1_canBe 57 = .ok (.aload_n 0, 1) := by decide +kernel
theorem dX1_canBe_58 : decode cX1_canBe 58 = .ok (.iload 7, 2) := by decide +kernel
theorem dX1_canBe_60 : decode cX1_canBe 60 = .ok (.invokevirtual 105, 3) := by decide +kernel
theorem dX1_canBe_63 : decode cX1_canBe 63 = .ok (.aload_n 0, 1) := by decide +kernel
theorem dX1_canBe_64 : decode cX1_canBe 64 = .ok (.getfield 43, 3) := by decide +kernel
theorem dX1_canBe_67 : decode cX1_canBe 67 = .ok (.iload_n 2, 1) := by decide +kernel
theorem dX1_canBe_68 : decode cX1_canBe 68 = .ok (.iaload, 1) := by decide +kernel
theorem dX1_canBe_69 : decode cX1_canBe 69 = .ok (.if_icmp .gt 7, 3) := by decide +kernel
theorem dX1_canBe_72 : decode cX1_canBe 72 = .ok (.iconst 1, 1) := by decide +kernel
theorem dX1_canBe_73 : decode cX1_canBe 73 = .ok (.goto 4, 3) := by decide +kernel
theorem dX1_canBe_76 : decode cX1_canBe 76 = .ok (.iconst 0, 1) := by decide +kernel
theorem dX1_canBe_77 : decode cX1_canBe 77 = .ok (.ireturn, 1) := by decide +kernel
theorem wl_RX1_89 : Cond.fieldLink RX1 89 (TX8 4).1 (TX8 4).2.1 (TX8 4).2.2.1 ∈ TB := tbm 395 (by decide +kernel) (by decide +kernel)
theorem wm_J6_bitCount_0f7a4 : Cond.static yJ6_bitCount_0f7a4 ∈ TB ∧ Cond.initialized yJ6_bitCount_0f7a4.cls ∈ TB ∧ Cond.code yJ6_bitCount_0f7a4 cJ6_bitCount_0f7a4 1 (some .int) ∈ TB ∧ (yJ6_bitCount_0f7a4.cls ≠ "java/lang/invoke/MethodHandle" ∧ yJ6_bitCount_0f7a4.cls ≠ "java/lang/invoke/VarHandle" ∧ (parseMethodDescriptor yJ6_bitCount_0f7a4.desc).map (fun d => d.parameters.length) = some 1) ∧ 1 ≤ 21 := ⟨tbm 1094 (by decide +kernel) (by decide +kernel), tbm 155 (by decide +kernel) (by decide +kernel), tbm 1095 (by decide +kernel) (by decide +kernel), by decide +kernel, by decide⟩
theorem wi_RX1_94 : Is RX1 94 yJ6_bitCount_0f7a4 cJ6_bitCount_0f7a4 1 (some .int) 1 := ⟨tbm 1103 (by decide +kernel) (by decide +kernel), wm_J6_bitCount_0f7a4⟩
theorem wl_RX1_100 : Cond.fieldLink RX1 100 (TX8 0).1 (TX8 0).2.1 (TX8 0).2.2.1 ∈ TB := tbm 384 (by decide +kernel) (by decide +kernel)
theorem wm_X1_minutesOf : Cond.instanceMethod yX1_minutesOf ∈ TB ∧ Cond.selects yX1_minutesOf.cls yX1_minutesOf yX1_minutesOf ∈ TB ∧ Cond.initialized yX1_minutesOf.cls ∈ TB ∧ Cond.code yX1_minutesOf cX1_minutesOf 4 (some .int) ∈ TB ∧ (yX1_minutesOf.cls ≠ "java/lang/invoke/MethodHandle" ∧ yX1_minutesOf.cls ≠ "java/lang/invoke/VarHandle" ∧ (parseMethodDescriptor yX1_minutesOf.desc).map (fun d => d.parameters.length) = some 3) ∧ 4 ≤ 21 := ⟨tbm 1078 (by decide +kernel) (by decide +kernel), tbm 1079 (by decide +kernel) (by decide +kernel), tbm 138 (by decide +kernel) (by decide +kernel), tbm 1080 (by decide +kernel) (by decide +kernel), by decide +kernel, by decide⟩
theorem wi_RX1_101 : Iv RX1 101 yX1_minutesOf cX1_minutesOf 4 (some .int) 3 := ⟨tbm 1104 (by decide +kernel) (by decide +kernel), wm_X1_minutesOf⟩
theorem wm_X1_weightOfSet : Cond.instanceMethod yX1_weightOfSet ∈ TB ∧ Cond.selects yX1_weightOfSet.cls yX1_weightOfSet yX1_weightOfSet ∈ TB ∧ Cond.initialized yX1_weightOfSet.cls ∈ TB ∧ Cond.code yX1_weightOfSet cX1_weightOfSet 4 (some .int) ∈ TB ∧ (yX1_weightOfSet.cls ≠ "java/lang/invoke/MethodHandle" ∧ yX1_weightOfSet.cls ≠ "java/lang/invoke/VarHandle" ∧ (parseMethodDescriptor yX1_weightOfSet.desc).map (fun d => d.parameters.length) = some 1) ∧ 4 ≤ 21 := ⟨tbm 1070 (by decide +kernel) (by decide +kernel), tbm 1071 (by decide +kernel) (by decide +kernel), tbm 138 (by decide +kernel) (by decide +kernel), tbm 1072 (by decide +kernel) (by decide +kernel), by decide +kernel, by decide⟩
theorem wi_RX1_105 : Iv RX1 105 yX1_weightOfSet cX1_weightOfSet 4 (some .int) 1 := ⟨tbm 1105 (by decide +kernel) (by decide +kernel), wm_X1_weightOfSet⟩
theorem wl_RX1_43 : Cond.fieldLink RX1 43 (TX1 10).1 (TX1 10).2.1 (TX1 10).2.2.1 ∈ TB := tbm 324 (by decide +kernel) (by decide +kernel)
def mX1_canBe (t : Nat) (p1 : Nat) (p2 : Int32) (p3 : Int32) (p4 : Int32) (p5 : Int32) (σ : St_) : Option Bool :=
 (if (((σ.1 p1 4) >>> (p2 &&& 31)) &&& (1 : Int32)) = 0 then
 ((mJ6_bitCount_0f7a4 p4 σ).bind fun r1 =>
 ((mJ6_bitCount_0f7a4 p5 σ).bind fun r2 =>
 (bnd (r1 + r2) fun v3 =>
 (bnd ((5 : Int32) + p2) fun v4 =>
 (if bin v4 9 = true then bnd (σ.1 (p1 + 1) v4.toNatClampNeg) fun v5 =>
 (bnd ((v5 &&& (p5 ^^^ (-1 : Int32))) ||| p4) fun v6 =>
 ((mX1_minutesOf t p2 p3 v3 σ).bind fun r7 =>
 (if (15 : Int32) < r7 then
 (some false)
 else ((mX1_weightOfSet t v6 σ).bind fun r8 =>
 (if bin p2 4 = true then bnd (σ.1 (t + 6) p2.toNatClampNeg) fun v9 =>
 (if v9 < r8 then
 (some false)
 else (some true))
 else none)))))
 else none)))))
 else (some false))
set_option maxHeartbeats 4000000 in
theorem rX1_canBe (t : Nat) (p1 : Nat) (p2 : Int32) (p3 : Int32) (p4 : Int32) (p5 : Int32) (hT : LY1 sh P t) (hp1 : LY8 sh P p1) : Rj l D cA h0 ad yX1_canBe cX1_canBe 8 (some .boolean) false 4 0 0 (fun b => (some (.int (b2i b)), sh, P, σ)) [.ref (h0 + t), .ref (h0 + p1), .int p2, .int p3, .int p4, .int p5] sh P σ (mX1_canBe t p1 p2 p3 p4 p5 σ) := by
  rw [mX1_canBe]
  refine Rj.of (by decide) (fun h => by cases h) (Nat.le_of_ble_eq_true rfl) ?_
  refine tj_lv0 (lv' := [(0, .ref (h0 + t)), (1, .ref (h0 + p1)), (2, .int p2), (3, .int p3), (4, .int p4), (5, .int p5)]) rfl ?_
  refine tj_aload_n (q := 1) dX1_canBe_0 rfl (i := 1) rfl (pl := 1) rfl ?_
  refine tj_getI (q := 4) (hp1).s fok_8_4 wl_RX1_89 dX1_canBe_1 rfl ?_
  refine tj_iload_n (q := 5) dX1_canBe_4 rfl (i := 2) rfl (pl := 2) rfl ?_
  refine tj_ishr (q := 6) dX1_canBe_5 rfl ?_
  refine tj_iconst (q := 7) (v := 1) dX1_canBe_6 rfl (by decide) ?_
  refine tj_iand (q := 8) dX1_canBe_7 rfl ?_
  refine tj_if_eq (tgt := 13) (q := 11) dX1_canBe_8 (by decide) rfl ?_ ?_
  · refine tj_iload (q := 15) dX1_canBe_13 rfl (pl := 4) rfl ?_
    refine tj_callIp (q := 18) (kj_S (As := [.int p4]) (rest := []) wi_RX1_94 (rJ6_bitCount_0f7a4 p4) rfl (Nat.le_of_ble_eq_true rfl) ⟨Nat.le_of_ble_eq_true rfl, Nat.le_of_ble_eq_true rfl⟩ (Nat.le_of_ble_eq_true rfl) dX1_canBe_15) rfl (fun r1 => ?_)
    refine tj_iload (q := 20) dX1_canBe_18 rfl (pl := 5) rfl ?_
    refine tj_callIp (q := 23) (kj_S (As := [.int p5]) (rest := [.int r1]) wi_RX1_94 (rJ6_bitCount_0f7a4 p5) rfl (Nat.le_of_ble_eq_true rfl) ⟨Nat.le_of_ble_eq_true rfl, Nat.le_of_ble_eq_true rfl⟩ (Nat.le_of_ble_eq_true rfl) dX1_canBe_20) rfl (fun r2 => ?_)
    refine tj_iadd (q := 24) dX1_canBe_23 rfl ?_
    refine tj_topI (fun v3 => ?_)
    refine tj_istore (q := 26) dX1_canBe_24 rfl (by decide) rfl ?_
    refine tj_aload_n (q := 27) dX1_canBe_26 rfl (i := 1) rfl (pl := 2) rfl ?_
    refine tj_getR (q := 30) (hp1).s (hp1).p_held fok_8_0 wl_RX1_100 dX1_canBe_27 rfl ?_
    refine tj_iconst (q := 31) (v := 5) dX1_canBe_30 rfl (by decide) ?_
    refine tj_iload_n (q := 32) dX1_canBe_31 rfl (i := 2) rfl (pl := 3) rfl ?_
    refine tj_iadd (q := 33) dX1_canBe_32 rfl ?_
    refine tj_topI (fun v4 => ?_)
    refine tj_iaload (q := 34) (hp1).s_held dX1_canBe_33 rfl ?_
    refine tj_topI (fun v5 => ?_)
    refine tj_iload (q := 36) dX1_canBe_34 rfl (pl := 6) rfl ?_
    refine tj_iconst (q := 37) (v := (-1)) dX1_canBe_36 rfl (by decide) ?_
    refine tj_ixor (q := 38) dX1_canBe_37 rfl ?_
    refine tj_iand (q := 39) dX1_canBe_38 rfl ?_
    refine tj_iload (q := 41) dX1_canBe_39 rfl (pl := 5) rfl ?_
    refine tj_ior (q := 42) dX1_canBe_41 rfl ?_
    refine tj_topI (fun v6 => ?_)
    refine tj_istore (q := 44) dX1_canBe_42 rfl (by decide) rfl ?_
    refine tj_aload_n (q := 45) dX1_canBe_44 rfl (i := 0) rfl (pl := 2) rfl ?_
    refine tj_iload_n (q := 46) dX1_canBe_45 rfl (i := 2) rfl (pl := 4) rfl ?_
    refine tj_iload_n (q := 47) dX1_canBe_46 rfl (i := 3) rfl (pl := 5) rfl ?_
    refine tj_iload (q := 49) dX1_canBe_47 rfl (pl := 1) rfl ?_
    refine tj_callIp (q := 52) (kj_V (As := [.int p2, .int p3, .int v3]) (rest := []) (t := t) wi_RX1_101 (hT).s rfl (rX1_minutesOf t p2 p3 v3 (hT)) rfl (Nat.le_of_ble_eq_true rfl) ⟨Nat.le_of_ble_eq_true rfl, Nat.le_of_ble_eq_true rfl⟩ (Nat.le_of_ble_eq_true rfl) dX1_canBe_49) rfl (fun r7 => ?_)
    refine tj_bipush (q := 54) (v := 15) dX1_canBe_52 rfl (by decide) ?_
    refine tj_icmp_gt (tgt := 76) (q := 57) dX1_canBe_54 (by decide) rfl ?_ ?_
    · refine tj_iconst (q := 77) (v := 0) dX1_canBe_76 rfl (by decide) ?_
      exact tj_zret rfl (by decide) rfl (Nat.le_of_ble_eq_true rfl) (Nat.le_of_ble_eq_true rfl) dX1_canBe_77
    · refine tj_aload_n (q := 58) dX1_canBe_57 rfl (i := 0) rfl (pl := 2) rfl ?_
      refine tj_iload (q := 60) dX1_canBe_58 rfl (pl := 0) rfl ?_
      refine tj_callIp (q := 63) (kj_V (As := [.int v6]) (rest := []) (t := t) wi_RX1_105 (hT).s rfl (rX1_weightOfSet t v6 (hT)) rfl (Nat.le_of_ble_eq_true rfl) ⟨Nat.le_of_ble_eq_true rfl, Nat.le_of_ble_eq_true rfl⟩ (Nat.le_of_ble_eq_true rfl) dX1_canBe_60) rfl (fun r8 => ?_)
      refine tj_aload_n (q := 64) dX1_canBe_63 rfl (i := 0) rfl (pl := 2) rfl ?_
      refine tj_getR (q := 67) (hT).s (hT).p_sack fok_1_10 wl_RX1_43 dX1_canBe_64 rfl ?_
      refine tj_iload_n (q := 68) dX1_canBe_67 rfl (i := 2) rfl (pl := 4) rfl ?_
      refine tj_iaload (q := 69) (hT).s_sack dX1_canBe_68 rfl ?_
      refine tj_topI (fun v9 => ?_)
      refine tj_icmp_gt (tgt := 76) (q := 72) dX1_canBe_69 (by decide) rfl ?_ ?_
      · refine tj_iconst (q := 77) (v := 0) dX1_canBe_76 rfl (by decide) ?_
        exact tj_zret rfl (by decide) rfl (Nat.le_of_ble_eq_true rfl) (Nat.le_of_ble_eq_true rfl) dX1_canBe_77
      · refine tj_iconst (q := 73) (v := 1) dX1_canBe_72 rfl (by decide) ?_
        refine tj_goto (q := 77) dX1_canBe_73 (by decide) ?_
        exact tj_zret rfl (by decide) rfl (Nat.le_of_ble_eq_true rfl) (Nat.le_of_ble_eq_true rfl) dX1_canBe_77
  · refine tj_iconst (q := 12) (v := 0) dX1_canBe_11 rfl (by decide) ?_
    exact tj_zret rfl (by decide) rfl (Nat.le_of_ble_eq_true rfl) (Nat.le_of_ble_eq_true rfl) dX1_canBe_12

theorem dX1_isSeen_0 : decode cX1_isSeen 0 = .ok (.aload_n 0, 1) := by decide +kernel
theorem dX1_isSeen_1 : decode cX1_isSeen 1 = .ok (.getfield 40, 3) := by decide +kernel
theorem dX1_isSeen_4 : decode cX1_isSeen 4 = .ok (.iload_n 1, 1) := by decide +kernel
theorem dX1_isSeen_5 : decode cX1_isSeen 5 = .ok (.iaload, 1) := by decide +kernel
theorem dX1_isSeen_6 : decode cX1_isSeen 6 = .ok (.iload_n 2, 1) := by decide +kernel
theorem dX1_isSeen_7 : decode cX1_isSeen 7 = .ok (.ishr, 1) := by decide +kernel
theorem dX1_isSeen_8 : decode cX1_isSeen 8 = .ok (.iconst 1, 1) := by decide +kernel
theorem dX1_isSeen_9 : decode cX1_isSeen 9 = .ok (.iand, 1) := by decide +kernel
theorem dX1_isSeen_10 : decode cX1_isSeen 10 = .ok (.ifCond .eq 7, 3) := by decide +kernel
theorem dX1_isSeen_13 : decode cX1_isSeen 13 = .ok (.iconst 1, 1) := by decide +kernel
theorem dX1_isSeen_14 : decode cX1_isSeen 14 = .ok (.goto 4, 3) := by decide +kernel
theorem dX1_isSeen_17 : decode cX1_isSeen 17 = .ok (.iconst 0, 1) := by decide +kernel
theorem dX1_isSeen_18 : decode cX1_isSeen 18 = .ok (.ireturn, 1) := by decide +kernel
def mX1_isSeen (t : Nat) (p1 : Int32) (p2 : Int32) (σ : St_) : Option Bool :=
 (if bin p1 5 = true then bnd (σ.1 (t + 5) p1.toNatClampNeg) fun v1 =>
 (if ((v1 >>> (p2 &&& 31)) &&& (1 : Int32)) = 0 then
 (some false)
 else (some true))
 else none)
set_option maxHeartbeats 4000000 in
theorem rX1_isSeen (t : Nat) (p1 : Int32) (p2 : Int32) (hT : LY1 sh P t) : Rj l D cA h0 ad yX1_isSeen cX1_isSeen 3 (some .boolean) false 2 0 0 (fun b => (some (.int (b2i b)), sh, P, σ)) [.ref (h0 + t), .int p1, .int p2] sh P σ (mX1_isSeen t p1 p2 σ) := by
  rw [mX1_isSeen]
  refine Rj.of (by decide) (fun h => by cases h) (Nat.le_of_ble_eq_true rfl) ?_
  refine tj_lv0 (lv' := [(0, .ref (h0 + t)), (1, .int p1), (2, .int p2)]) rfl ?_
  refine tj_aload_n (q := 1) dX1_isSeen_0 rfl (i := 0) rfl (pl := 0) rfl ?_
  refine tj_getR (q := 4) (hT).s (hT).p_watch fok_1_9 wl_RX1_40 dX1_isSeen_1 rfl ?_
  refine tj_iload_n (q := 5) dX1_isSeen_4 rfl (i := 1) rfl (pl := 1) rfl ?_
  refine tj_iaload (q := 6) (hT).s_watch dX1_isSeen_5 rfl ?_
  refine tj_topI (fun v1 => ?_)
  refine tj_iload_n (q := 7) dX1_isSeen_6 rfl (i := 2) rfl (pl := 2) rfl ?_
  refine tj_ishr (q := 8) dX1_isSeen_7 rfl ?_
  refine tj_iconst (q := 9) (v := 1) dX1_isSeen_8 rfl (by decide) ?_
  refine tj_iand (q := 10) dX1_isSeen_9 rfl ?_
  refine tj_if_eq (tgt := 17) (q := 13) dX1_isSeen_10 (by decide) rfl ?_ ?_
  · refine tj_iconst (q := 18) (v := 0) dX1_isSeen_17 rfl (by decide) ?_
    exact tj_zret rfl (by decide) rfl (Nat.le_of_ble_eq_true rfl) (Nat.le_of_ble_eq_true rfl) dX1_isSeen_18
  · refine tj_iconst (q := 14) (v := 1) dX1_isSeen_13 rfl (by decide) ?_
    refine tj_goto (q := 18) dX1_isSeen_14 (by decide) ?_
    exact tj_zret rfl (by decide) rfl (Nat.le_of_ble_eq_true rfl) (Nat.le_of_ble_eq_true rfl) dX1_isSeen_18

theorem dX1_isLawful_0 : decode cX1_isLawful 0 = .ok (.iconst 0, 1) := by decide +kernel
theorem dX1_isLawful_1 : decode cX1_isLawful 1 = .ok (.istore 6, 2) := by decide +kernel
theorem dX1_isLawful_3 : decode cX1_isLawful 3 = .ok (.iconst 0, 1) := by decide +kernel
theorem dX1_isLawful_4 : decode cX1_isLawful 4 = .ok (.istore 7, 2) := by decide +kernel
theorem dX1_isLawful_6 : decode cX1_isLawful 6 = .ok (.iconst 0, 1) := by decide +kernel
theorem dX1_isLawful_7 : decode cX1_isLawful 7 = .ok (.istore 8, 2) := by decide +kernel
theorem dX1_isLawful_9 : decode cX1_isLawful 9 = .ok (.iconst 0, 1) := by decide +kernel
theorem dX1_isLawful_10 : decode cX1_isLawful 10 = .ok (.istore 9, 2) := by decide +kernel
theorem dX1_isLawful_12 : decode cX1_isLawful 12 = .ok (.iconst 0, 1) := by decide +kernel
theorem dX1_isLawful_13 : decode cX1_isLawful 13 = .ok (.istore 10, 2) := by decide +kernel
theorem dX1_isLawful_15 : decode cX1_isLawful 15 = .ok (.iload 10, 2) := by decide +kernel
theorem dX1_isLawful_17 : decode cX1_isLawful 17 = .ok (.aload_n 0, 1) := by decide +kernel
theorem dX1_isLawful_18 : decode cX1_isLawful 18 = .ok (.getfield 18, 3) := by decide +kernel
theorem dX1_isLawful_21 : decode cX1_isLawful 21 = .ok (.if_icmp .ge 49, 3) := by decide +kernel
theorem dX1_isLawful_24 : decode cX1_isLawful 24 = .ok (.iload_n 2, 1) := by decide +kernel
theorem dX1_isLawful_25 : decode cX1_isLawful 25 = .ok (.iload 10, 2) := by decide +kernel
theorem dX1_isLawful_27 : decode cX1_isLawful 27 = .ok (.ishr, 1) := by decide +kernel
theorem dX1_isLawful_28 : decode cX1_isLawful 28 = .ok (.iconst 1, 1) := by decide +kernel
theorem dX1_isLawful_29 : decode cX1_isLawful 29 = .ok (.iand, 1) := by decide +kernel
theorem dX1_isLawful_30 : decode cX1_isLawful 30 = .ok (.ifCond .eq 34, 3) := by decide +kernel
theorem dX1_isLawful_33 : decode cX1_isLawful 33 = .ok (.iload 6, 2) := by decide +kernel
theorem dX1_isLawful_35 : decode cX1_isLawful 35 = .ok (.iconst 1, 1) := by decide +kernel
theorem dX1_isLawful_36 : decode cX1_isLawful 36 = .ok (.aload_n 0, 1) := by decide +kernel
theorem dX1_isLawful_37 : decode cX1_isLawful 37 = .ok (.getfield 27, 3) := by decide +kernel
theorem dX1_isLawful_40 : decode cX1_isLawful 40 = .ok (.iload 10, 2) := by decide +kernel
theorem dX1_isLawful_42 : decode cX1_isLawful 42 = .ok (.iaload, 1) := by decide +kernel
theorem dX1_isLawful_43 : decode cX1_isLawful 43 = .ok (.ishl, 1) := by decide +kernel
theorem dX1_isLawful_44 : decode cX1_isLawful 44 = .ok (.ior, 1) := by decide +kernel
theorem dX1_isLawful_45 : decode cX1_isLawful 45 = .ok (.istore 6, 2) := by decide +kernel
theorem dX1_isLawful_47 : decode cX1_isLawful 47 = .ok (.iload 7, 2) := by decide +kernel
theorem dX1_isLawful_49 : decode cX1_isLawful 49 = .ok (.aload_n 0, 1) := by decide +kernel
theorem dX1_isLawful_50 : decode cX1_isLawful 50 = .ok (.getfield 52, 3) := by decide +kernel
theorem dX1_isLawful_53 : decode cX1_isLawful 53 = .ok (.iload_n 1, 1) := by decide +kernel
theorem dX1_isLawful_54 : decode cX1_isLawful 54 = .ok (.bipush 10, 2) := by decide +kernel
theorem dX1_isLawful_56 : decode cX1_isLawful 56 = .ok (.imul, 1) := by decide +kernel
theorem dX1_isLawful_57 : decode cX1_isLawful 57 = .ok (.iload 10, 2) := by decide +kernel
theorem dX1_isLawful_59 : decode cX1_isLawful 59 = .ok (.iadd, 1) := by decide +kernel
theorem dX1_isLawful_60 : decode cX1_isLawful 60 = .ok (.iaload, 1) := by decide +kernel
theorem dX1_isLawful_61 : decode cX1_isLawful 61 = .ok (.iadd, 1) := by decide +kernel
theorem dX1_isLawful_62 : decode cX1_isLawful 62 = .ok (.istore 7, 2) := by decide +kernel
theorem dX1_isLawful_64 : decode cX1_isLawful 64 = .ok (.iinc 10 1, 3) := by decide +kernel
theorem dX1_isLawful_67 : decode cX1_isLawful 67 = .ok (.goto (-52), 3) := by decide +kernel
theorem dX1_isLawful_70 : decode cX1_isLawful 70 = .ok (.iconst 0, 1) := by decide +kernel
theorem dX1_isLawful_71 : decode cX1_isLawful 71 = .ok (.istore 10, 2) := by decide +kernel
theorem dX1_isLawful_73 : decode cX1_isLawful 73 = .ok (.iload 10, 2) := by decide +kernel
theorem dX1_isLawful_75 : decode cX1_isLawful 75 = .ok (.aload_n 0, 1) := by decide +kernel
theorem dX1_isLawful_76 : decode cX1_isLawful 76 = .ok (.getfield 18, 3) := by decide +kernel
theorem dX1_isLawful_79 : decode cX1_isLawful 79 = .ok (.if_icmp .ge 52, 3) := by decide +kernel
theorem dX1_isLawful_82 : decode cX1_isLawful 82 = .ok (.iload_n 3, 1) := by decide +kernel
theorem dX1_isLawful_83 : decode cX1_isLawful 83 = .ok (.iload 10, 2) := by decide +kernel
theorem dX1_isLawful_85 : decode cX1_isLawful 85 = .ok (.ishr, 1) := by decide +kernel
theorem dX1_isLawful_86 : decode cX1_isLawful 86 = .ok (.iconst 1, 1) := by decide +kernel
theorem dX1_isLawful_87 : decode cX1_isLawful 87 = .ok (.iand, 1) := by decide +kernel
theorem dX1_isLawful_88 : decode cX1_isLawful 88 = .ok (.ifCond .eq 37, 3) := by decide +kernel
theorem dX1_isLawful_91 : decode cX1_isLawful 91 = .ok (.iload 8, 2) := by decide +kernel
theorem dX1_isLawful_93 : decode cX1_isLawful 93 = .ok (.iload 6, 2) := by decide +kernel
theorem dX1_isLawful_95 : decode cX1_isLawful 95 = .ok (.aload_n 0, 1) := by decide +kernel
theorem dX1_isLawful_96 : decode cX1_isLawful 96 = .ok (.getfield 27, 3) := by decide +kernel
theorem dX1_isLawful_99 : decode cX1_isLawful 99 = .ok (.iload 10, 2) := by decide +kernel
theorem dX1_isLawful_101 : decode cX1_isLawful 101 = .ok (.iaload, 1) := by decide +kernel
theorem dX1_isLawful_102 : decode cX1_isLawful 102 = .ok (.ishr, 1) := by decide +kernel
theorem dX1_isLawful_103 : decode cX1_isLawful 103 = .ok (.iconst 1, 1) := by decide +kernel
theorem dX1_isLawful_104 : decode cX1_isLawful 104 = .ok (.iand, 1) := by decide +kernel
theorem dX1_isLawful_105 : decode cX1_isLawful 105 = .ok (.iadd, 1) := by decide +kernel
theorem dX1_isLawful_106 : decode cX1_isLawful 106 = .ok (.istore 8, 2) := by decide +kernel
theorem dX1_isLawful_108 : decode cX1_isLawful 108 = .ok (.iload 9, 2) := by decide +kernel
theorem dX1_isLawful_110 : decode cX1_isLawful 110 = .ok (.aload_n 0, 1) := by decide +kernel
theorem dX1_isLawful_111 : decode cX1_isLawful 111 = .ok (.getfield 52, 3) := by decide +kernel
theorem dX1_isLawful_114 : decode cX1_isLawful 114 = .ok (.iload_n 1, 1) := by decide +kernel
theorem dX1_isLawful_115 : decode cX1_isLawful 115 = .ok (.bipush 10, 2) := by decide +kernel
theorem dX1_isLawful_117 : decode cX1_isLawful 117 = .ok (.imul, 1) := by decide +kernel
theorem dX1_isLawful_118 : decode cX1_isLawful 118 = .ok (.iload 10, 2) := by decide +kernel
theorem dX1_isLawful_120 : decode cX1_isLawful 120 = .ok (.iadd, 1) := by decide +kernel
theorem dX1_isLawful_121 : decode cX1_isLawful 121 = .ok (.iaload, 1) := by decide +kernel
theorem dX1_isLawful_122 : decode cX1_isLawful 122 = .ok (.iadd, 1) := by decide +kernel
theorem dX1_isLawful_123 : decode cX1_isLawful 123 = .ok (.istore 9, 2) := by decide +kernel
theorem dX1_isLawful_125 : decode cX1_isLawful 125 = .ok (.iinc 10 1, 3) := by decide +kernel
theorem dX1_isLawful_128 : decode cX1_isLawful 128 = .ok (.goto (-55), 3) := by decide +kernel
theorem dX1_isLawful_131 : decode cX1_isLawful 131 = .ok (.aload_n 0, 1) := by decide +kernel
theorem dX1_isLawful_132 : decode cX1_isLawful 132 = .ok (.getfield 61, 3) := by decide +kernel
theorem dX1_isLawful_135 : decode cX1_isLawful 135 = .ok (.iload 7, 2) := by decide +kernel
theorem dX1_isLawful_137 : decode cX1_isLawful 137 = .ok (.iload 9, 2) := by decide +kernel
theorem dX1_isLawful_139 : decode cX1_isLawful 139 = .ok (.iload_n 2, 1) := by decide +kernel
theorem dX1_isLawful_140 : decode cX1_isLawful 140 = .ok (.invokestatic 94, 3) := by decide +kernel
theorem dX1_isLawful_143 : decode cX1_isLawful 143 = .ok (.iload_n 3, 1) := by decide +kernel
theorem dX1_isLawful_144 : decode cX1_isLawful 144 = .ok (.invokestatic 94, 3) := by decide +kernel
theorem dX1_isLawful_147 : decode cX1_isLawful 147 = .ok (.iload 8, 2) := by decide +kernel
theorem dX1_isLawful_149 : decode cX1_isLawful 149 = .ok (.iload 4, 2) := by decide +kernel
theorem dX1_isLawful_151 : decode cX1_isLawful 151 = .ok (.iload 5, 2) := by decide +kernel
theorem dX1_isLawful_153 : decode cX1_isLawful 153 = .ok (.invokevirtual 123, 3) := by decide +kernel
theorem dX1_isLawful_156 : decode cX1_isLawful 156 = .ok (.ireturn, 1) := by decide +kernel
theorem wl_RX1_27 : Cond.fieldLink RX1 27 (TX1 5).1 (TX1 5).2.1 (TX1 5).2.2.1 ∈ TB := tbm 310 (by decide +kernel) (by decide +kernel)
theorem wm_X3_allows : Cond.instanceMethod yX3_allows ∈ TB ∧ Cond.selects yX3_allows.cls yX3_allows yX3_allows ∈ TB ∧ Cond.initialized yX3_allows.cls ∈ TB ∧ Cond.code yX3_allows cX3_allows 11 (some .boolean) ∈ TB ∧ (yX3_allows.cls ≠ "java/lang/invoke/MethodHandle" ∧ yX3_allows.cls ≠ "java/lang/invoke/VarHandle" ∧ (parseMethodDescriptor yX3_allows.desc).map (fun d => d.parameters.length) = some 7) ∧ 11 ≤ 21 := ⟨tbm 1112 (by decide +kernel) (by decide +kernel), tbm 1113 (by decide +kernel) (by decide +kernel), tbm 139 (by decide +kernel) (by decide +kernel), tbm 1114 (by decide +kernel) (by decide +kernel), by decide +kernel, by decide⟩
theorem wi_RX1_123 : Iv RX1 123 yX3_allows cX3_allows 11 (some .boolean) 7 := ⟨tbm 1111 (by decide +kernel) (by decide +kernel), wm_X3_allows⟩
def mX1_isLawful_L15 (t : Nat) (σ : St_) (x1 : Int32) (x2 : Int32) (x3 : Int32) (x4 : Int32) (x5 : Int32) (x8 : Int32) (x9 : Int32) (k70 : Int32 → Int32 → Option (Bool × St_)) : Nat → Int32 → Int32 → Int32 → Option (Bool × St_)
  | 0, _, _, _ => none
  | n + 1, x6, x7, x10 => (if (σ.1 t 2) ≤ x10 then
 (k70 x6 x7)
 else (bnd (fun (j1 : Int32) (j2 : Int32) => (mX1_isLawful_L15 t σ x1 x2 x3 x4 x5 x8 x9 k70 n j1 j2 (x10 + 1))) fun k3 =>
 (if ((x2 >>> (x10 &&& 31)) &&& (1 : Int32)) = 0 then
 (k3 x6 x7)
 else (if bin x10 10 = true then bnd (σ.1 (t + 1) x10.toNatClampNeg) fun v5 =>
 (bnd (x6 ||| ((1 : Int32) <<< (v5 &&& 31))) fun v6 =>
 (bnd ((x1 * (10 : Int32)) + x10) fun v7 =>
 (if bin v7 50 = true then bnd (σ.1 (t + 9) v7.toNatClampNeg) fun v8 =>
 (bnd (x7 + v8) fun v9 =>
 (k3 v6 v9))
 else none)))
 else none))))
def mX1_isLawful_L73 (t : Nat) (σ : St_) (x1 : Int32) (x2 : Int32) (x3 : Int32) (x4 : Int32) (x5 : Int32) (x6 : Int32) (x7 : Int32) (k131 : Int32 → Int32 → Option (Bool × St_)) : Nat → Int32 → Int32 → Int32 → Option (Bool × St_)
  | 0, _, _, _ => none
  | n + 1, x8, x9, x10 => (if (σ.1 t 2) ≤ x10 then
 (k131 x8 x9)
 else (bnd (fun (j12 : Int32) (j13 : Int32) => (mX1_isLawful_L73 t σ x1 x2 x3 x4 x5 x6 x7 k131 n j12 j13 (x10 + 1))) fun k14 =>
 (if ((x3 >>> (x10 &&& 31)) &&& (1 : Int32)) = 0 then
 (k14 x8 x9)
 else (if bin x10 10 = true then bnd (σ.1 (t + 1) x10.toNatClampNeg) fun v16 =>
 (bnd (x8 + ((x6 >>> (v16 &&& 31)) &&& (1 : Int32))) fun v17 =>
 (bnd ((x1 * (10 : Int32)) + x10) fun v18 =>
 (if bin v18 50 = true then bnd (σ.1 (t + 9) v18.toNatClampNeg) fun v19 =>
 (bnd (x9 + v19) fun v20 =>
 (k14 v17 v20))
 else none)))
 else none))))
def mX1_isLawful (t : Nat) (p1 : Int32) (p2 : Int32) (p3 : Int32) (p4 : Int32) (p5 : Int32) (σ : St_) : Option (Bool × St_) :=
 (mX1_isLawful_L15 t σ p1 p2 p3 p4 p5 (0 : Int32) (0 : Int32)
 (fun (y10 : Int32) (y11 : Int32) => (mX1_isLawful_L73 t σ p1 p2 p3 p4 p5 y10 y11
 (fun (y21 : Int32) (y22 : Int32) => ((mJ6_bitCount_0f7a4 p2 σ).bind fun r23 =>
 ((mJ6_bitCount_0f7a4 p3 σ).bind fun r24 =>
 ((mX3_allows (t + 11) y11 y22 r23 r24 y21 p4 p5 σ).bind fun r25 =>
 (some (r25.1, r25.2)))))) FU (0 : Int32) (0 : Int32) (0 : Int32))) FU (0 : Int32) (0 : Int32) (0 : Int32))
set_option maxHeartbeats 4000000 in
theorem tmX1_isLawful_L15 (σ : St_) (t : Nat) (hT : LY1 sh P t) (x1 : Int32) (x2 : Int32) (x3 : Int32) (x4 : Int32) (x5 : Int32) (x8 : Int32) (x9 : Int32) (k70 : Int32 → Int32 → Option (Bool × St_)) (hk70 : ∀ (y6 : Int32) (y7 : Int32), Tj l D cA h0 ad RX1 cX1_isLawful 11 (some .boolean) false 4 0 0 (fun b => (some (.int (b2i b.1)), sh, P, b.2)) 0 0 sh P σ 70 [(0, .ref (h0 + t)), (1, .int x1), (2, .int x2), (3, .int x3), (4, .int x4), (5, .int x5), (6, .int y6), (7, .int y7), (8, .int x8), (9, .int x9)] [] (k70 y6 y7)) : ∀ (n : Nat) (x6 : Int32) (x7 : Int32) (x10 : Int32), Tj l D cA h0 ad RX1 cX1_isLawful 11 (some .boolean) false 4 0 0 (fun b => (some (.int (b2i b.1)), sh, P, b.2)) 0 0 sh P σ 15 [(0, .ref (h0 + t)), (1, .int x1), (2, .int x2), (3, .int x3), (4, .int x4), (5, .int x5), (6, .int x6), (7, .int x7), (8, .int x8), (9, .int x9), (10, .int x10)] [] (mX1_isLawful_L15 t σ x1 x2 x3 x4 x5 x8 x9 k70 n x6 x7 x10) := by
  intro n
  induction n with
  | zero => intros; exact tj_none
  | succ n ih =>
    intro x6 x7 x10
    rw [mX1_isLawful_L15]
    refine tj_iload (q := 17) dX1_isLawful_15 rfl (pl := 10) rfl ?_
    refine tj_aload_n (q := 18) dX1_isLawful_17 rfl (i := 0) rfl (pl := 0) rfl ?_
    refine tj_getI (q := 21) (hT).s fok_1_2 wl_RX1_18 dX1_isLawful_18 rfl ?_
    refine tj_icmp_ge (tgt := 70) (q := 24) dX1_isLawful_21 (by decide) rfl ?_ ?_
    · refine tj_lv [0, 1, 2, 3, 4, 5, 6, 7, 8, 9] rfl ?_
      exact hk70 x6 x7
    · refine tj_iload_n (q := 25) dX1_isLawful_24 rfl (i := 2) rfl (pl := 2) rfl ?_
      refine tj_iload (q := 27) dX1_isLawful_25 rfl (pl := 10) rfl ?_
      refine tj_ishr (q := 28) dX1_isLawful_27 rfl ?_
      refine tj_iconst (q := 29) (v := 1) dX1_isLawful_28 rfl (by decide) ?_
      refine tj_iand (q := 30) dX1_isLawful_29 rfl ?_
      refine tj_bnd (fun k3 => ∀ (j1 : Int32) (j2 : Int32), Tj l D cA h0 ad RX1 cX1_isLawful 11 (some .boolean) false 4 0 0 (fun b => (some (.int (b2i b.1)), sh, P, b.2)) 0 0 sh P σ 64 [(0, .ref (h0 + t)), (1, .int x1), (2, .int x2), (3, .int x3), (4, .int x4), (5, .int x5), (6, .int j1), (7, .int j2), (8, .int x8), (9, .int x9), (10, .int x10)] [] (k3 j1 j2)) ?_ (fun k3 hk4 => ?_)
      · intro j1 j2
        refine tj_iinc (q := 67) (v := x10 + 1) dX1_isLawful_64 rfl (pl := 10) rfl rfl (by decide) rfl ?_
        refine tj_goto (q := 15) dX1_isLawful_67 (by decide) ?_
        refine tj_lv [1, 2, 3, 4, 5, 6, 7, 8, 9, 10, 0] rfl ?_
        exact ih j1 j2 (x10 + 1)
      · refine tj_if_eq (tgt := 64) (q := 33) dX1_isLawful_30 (by decide) rfl ?_ ?_
        · exact hk4 x6 x7
        · refine tj_iload (q := 35) dX1_isLawful_33 rfl (pl := 6) rfl ?_
          refine tj_iconst (q := 36) (v := 1) dX1_isLawful_35 rfl (by decide) ?_
          refine tj_aload_n (q := 37) dX1_isLawful_36 rfl (i := 0) rfl (pl := 0) rfl ?_
          refine tj_getR (q := 40) (hT).s (hT).p_kindOf fok_1_5 wl_RX1_27 dX1_isLawful_37 rfl ?_
          refine tj_iload (q := 42) dX1_isLawful_40 rfl (pl := 10) rfl ?_
          refine tj_iaload (q := 43) (hT).s_kindOf dX1_isLawful_42 rfl ?_
          refine tj_topI (fun v5 => ?_)
          refine tj_ishl (q := 44) dX1_isLawful_43 rfl ?_
          refine tj_ior (q := 45) dX1_isLawful_44 rfl ?_
          refine tj_topI (fun v6 => ?_)
          refine tj_istore (q := 47) dX1_isLawful_45 rfl (by decide) rfl ?_
          refine tj_iload (q := 49) dX1_isLawful_47 rfl (pl := 7) rfl ?_
          refine tj_aload_n (q := 50) dX1_isLawful_49 rfl (i := 0) rfl (pl := 1) rfl ?_
          refine tj_getR (q := 53) (hT).s (hT).p_said fok_1_13 wl_RX1_52 dX1_isLawful_50 rfl ?_
          refine tj_iload_n (q := 54) dX1_isLawful_53 rfl (i := 1) rfl (pl := 2) rfl ?_
          refine tj_bipush (q := 56) (v := 10) dX1_isLawful_54 rfl (by decide) ?_
          refine tj_imul (q := 57) dX1_isLawful_56 rfl ?_
          refine tj_iload (q := 59) dX1_isLawful_57 rfl (pl := 10) rfl ?_
          refine tj_iadd (q := 60) dX1_isLawful_59 rfl ?_
          refine tj_topI (fun v7 => ?_)
          refine tj_iaload (q := 61) (hT).s_said dX1_isLawful_60 rfl ?_
          refine tj_topI (fun v8 => ?_)
          refine tj_iadd (q := 62) dX1_isLawful_61 rfl ?_
          refine tj_topI (fun v9 => ?_)
          refine tj_istore (q := 64) dX1_isLawful_62 rfl (by decide) rfl ?_
          refine tj_lv [2, 3, 4, 5, 6, 7, 1, 0, 8, 9, 10] rfl ?_
          exact hk4 v6 v9

set_option maxHeartbeats 4000000 in
theorem tmX1_isLawful_L73 (σ : St_) (t : Nat) (hT : LY1 sh P t) (x1 : Int32) (x2 : Int32) (x3 : Int32) (x4 : Int32) (x5 : Int32) (x6 : Int32) (x7 : Int32) (k131 : Int32 → Int32 → Option (Bool × St_)) (hk131 : ∀ (y8 : Int32) (y9 : Int32), Tj l D cA h0 ad RX1 cX1_isLawful 11 (some .boolean) false 4 0 0 (fun b => (some (.int (b2i b.1)), sh, P, b.2)) 0 0 sh P σ 131 [(0, .ref (h0 + t)), (2, .int x2), (3, .int x3), (4, .int x4), (5, .int x5), (7, .int x7), (8, .int y8), (9, .int y9)] [] (k131 y8 y9)) : ∀ (n : Nat) (x8 : Int32) (x9 : Int32) (x10 : Int32), Tj l D cA h0 ad RX1 cX1_isLawful 11 (some .boolean) false 4 0 0 (fun b => (some (.int (b2i b.1)), sh, P, b.2)) 0 0 sh P σ 73 [(0, .ref (h0 + t)), (1, .int x1), (2, .int x2), (3, .int x3), (4, .int x4), (5, .int x5), (6, .int x6), (7, .int x7), (8, .int x8), (9, .int x9), (10, .int x10)] [] (mX1_isLawful_L73 t σ x1 x2 x3 x4 x5 x6 x7 k131 n x8 x9 x10) := by
  intro n
  induction n with
  | zero => intros; exact tj_none
  | succ n ih =>
    intro x8 x9 x10
    rw [mX1_isLawful_L73]
    refine tj_iload (q := 75) dX1_isLawful_73 rfl (pl := 10) rfl ?_
    refine tj_aload_n (q := 76) dX1_isLawful_75 rfl (i := 0) rfl (pl := 0) rfl ?_
    refine tj_getI (q := 79) (hT).s fok_1_2 wl_RX1_18 dX1_isLawful_76 rfl ?_
    refine tj_icmp_ge (tgt := 131) (q := 82) dX1_isLawful_79 (by decide) rfl ?_ ?_
    · refine tj_lv [0, 2, 3, 4, 5, 7, 8, 9] rfl ?_
      exact hk131 x8 x9
    · refine tj_iload_n (q := 83) dX1_isLawful_82 rfl (i := 3) rfl (pl := 3) rfl ?_
      refine tj_iload (q := 85) dX1_isLawful_83 rfl (pl := 10) rfl ?_
      refine tj_ishr (q := 86) dX1_isLawful_85 rfl ?_
      refine tj_iconst (q := 87) (v := 1) dX1_isLawful_86 rfl (by decide) ?_
      refine tj_iand (q := 88) dX1_isLawful_87 rfl ?_
      refine tj_bnd (fun k14 => ∀ (j12 : Int32) (j13 : Int32), Tj l D cA h0 ad RX1 cX1_isLawful 11 (some .boolean) false 4 0 0 (fun b => (some (.int (b2i b.1)), sh, P, b.2)) 0 0 sh P σ 125 [(0, .ref (h0 + t)), (1, .int x1), (2, .int x2), (3, .int x3), (4, .int x4), (5, .int x5), (6, .int x6), (7, .int x7), (8, .int j12), (9, .int j13), (10, .int x10)] [] (k14 j12 j13)) ?_ (fun k14 hk15 => ?_)
      · intro j12 j13
        refine tj_iinc (q := 128) (v := x10 + 1) dX1_isLawful_125 rfl (pl := 10) rfl rfl (by decide) rfl ?_
        refine tj_goto (q := 73) dX1_isLawful_128 (by decide) ?_
        refine tj_lv [1, 2, 3, 4, 5, 6, 7, 8, 9, 10, 0] rfl ?_
        exact ih j12 j13 (x10 + 1)
      · refine tj_if_eq (tgt := 125) (q := 91) dX1_isLawful_88 (by decide) rfl ?_ ?_
        · exact hk15 x8 x9
        · refine tj_iload (q := 93) dX1_isLawful_91 rfl (pl := 8) rfl ?_
          refine tj_iload (q := 95) dX1_isLawful_93 rfl (pl := 6) rfl ?_
          refine tj_aload_n (q := 96) dX1_isLawful_95 rfl (i := 0) rfl (pl := 0) rfl ?_
          refine tj_getR (q := 99) (hT).s (hT).p_kindOf fok_1_5 wl_RX1_27 dX1_isLawful_96 rfl ?_
          refine tj_iload (q := 101) dX1_isLawful_99 rfl (pl := 10) rfl ?_
          refine tj_iaload (q := 102) (hT).s_kindOf dX1_isLawful_101 rfl ?_
          refine tj_topI (fun v16 => ?_)
          refine tj_ishr (q := 103) dX1_isLawful_102 rfl ?_
          refine tj_iconst (q := 104) (v := 1) dX1_isLawful_103 rfl (by decide) ?_
          refine tj_iand (q := 105) dX1_isLawful_104 rfl ?_
          refine tj_iadd (q := 106) dX1_isLawful_105 rfl ?_
          refine tj_topI (fun v17 => ?_)
          refine tj_istore (q := 108) dX1_isLawful_106 rfl (by decide) rfl ?_
          refine tj_iload (q := 110) dX1_isLawful_108 rfl (pl := 9) rfl ?_
          refine tj_aload_n (q := 111) dX1_isLawful_110 rfl (i := 0) rfl (pl := 1) rfl ?_
          refine tj_getR (q := 114) (hT).s (hT).p_said fok_1_13 wl_RX1_52 dX1_isLawful_111 rfl ?_
          refine tj_iload_n (q := 115) dX1_isLawful_114 rfl (i := 1) rfl (pl := 2) rfl ?_
          refine tj_bipush (q := 117) (v := 10) dX1_isLawful_115 rfl (by decide) ?_
          refine tj_imul (q := 118) dX1_isLawful_117 rfl ?_
          refine tj_iload (q := 120) dX1_isLawful_118 rfl (pl := 10) rfl ?_
          refine tj_iadd (q := 121) dX1_isLawful_120 rfl ?_
          refine tj_topI (fun v18 => ?_)
          refine tj_iaload (q := 122) (hT).s_said dX1_isLawful_121 rfl ?_
          refine tj_topI (fun v19 => ?_)
          refine tj_iadd (q := 123) dX1_isLawful_122 rfl ?_
          refine tj_topI (fun v20 => ?_)
          refine tj_istore (q := 125) dX1_isLawful_123 rfl (by decide) rfl ?_
          refine tj_lv [2, 3, 4, 5, 6, 7, 8, 9, 1, 0, 10] rfl ?_
          exact hk15 v17 v20

set_option maxHeartbeats 4000000 in
theorem rX1_isLawful (t : Nat) (p1 : Int32) (p2 : Int32) (p3 : Int32) (p4 : Int32) (p5 : Int32) (hT : LY1 sh P t) : Rj l D cA h0 ad yX1_isLawful cX1_isLawful 11 (some .boolean) false 4 0 0 (fun b => (some (.int (b2i b.1)), sh, P, b.2)) [.ref (h0 + t), .int p1, .int p2, .int p3, .int p4, .int p5] sh P σ (mX1_isLawful t p1 p2 p3 p4 p5 σ) := by
  rw [mX1_isLawful]
  refine Rj.of (by decide) (fun h => by cases h) (Nat.le_of_ble_eq_true rfl) ?_
  refine tj_lv0 (lv' := [(0, .ref (h0 + t)), (1, .int p1), (2, .int p2), (3, .int p3), (4, .int p4), (5, .int p5)]) rfl ?_
  refine tj_iconst (q := 1) (v := 0) dX1_isLawful_0 rfl (by decide) ?_
  refine tj_istore (q := 3) dX1_isLawful_1 rfl (by decide) rfl ?_
  refine tj_iconst (q := 4) (v := 0) dX1_isLawful_3 rfl (by decide) ?_
  refine tj_istore (q := 6) dX1_isLawful_4 rfl (by decide) rfl ?_
  refine tj_iconst (q := 7) (v := 0) dX1_isLawful_6 rfl (by decide) ?_
  refine tj_istore (q := 9) dX1_isLawful_7 rfl (by decide) rfl ?_
  refine tj_iconst (q := 10) (v := 0) dX1_isLawful_9 rfl (by decide) ?_
  refine tj_istore (q := 12) dX1_isLawful_10 rfl (by decide) rfl ?_
  refine tj_iconst (q := 13) (v := 0) dX1_isLawful_12 rfl (by decide) ?_
  refine tj_istore (q := 15) dX1_isLawful_13 rfl (by decide) rfl ?_
  refine tj_lv [5, 6, 7, 8, 9, 10, 4, 3, 2, 1, 0] rfl ?_
  refine tmX1_isLawful_L15 σ t hT p1 p2 p3 p4 p5 (0 : Int32) (0 : Int32) _ ?_ FU (0 : Int32) (0 : Int32) (0 : Int32)
  · intro y10 y11
    refine tj_iconst (q := 71) (v := 0) dX1_isLawful_70 rfl (by decide) ?_
    refine tj_istore (q := 73) dX1_isLawful_71 rfl (by decide) rfl ?_
    refine tj_lv [1, 2, 3, 4, 5, 6, 7, 8, 9, 10, 0] rfl ?_
    refine tmX1_isLawful_L73 σ t hT p1 p2 p3 p4 p5 y10 y11 _ ?_ FU (0 : Int32) (0 : Int32) (0 : Int32)
    · intro y21 y22
      refine tj_aload_n (q := 132) dX1_isLawful_131 rfl (i := 0) rfl (pl := 0) rfl ?_
      refine tj_getR (q := 135) (hT).s (hT).p_law fok_1_15 wl_RX1_61 dX1_isLawful_132 rfl ?_
      refine tj_iload (q := 137) dX1_isLawful_135 rfl (pl := 5) rfl ?_
      refine tj_iload (q := 139) dX1_isLawful_137 rfl (pl := 7) rfl ?_
      refine tj_iload_n (q := 140) dX1_isLawful_139 rfl (i := 2) rfl (pl := 1) rfl ?_
      refine tj_callIp (q := 143) (kj_S (As := [.int p2]) (rest := [.int y22, .int y11, .ref (h0 + (t + 11))]) wi_RX1_94 (rJ6_bitCount_0f7a4 p2) rfl (Nat.le_of_ble_eq_true rfl) ⟨Nat.le_of_ble_eq_true rfl, Nat.le_of_ble_eq_true rfl⟩ (Nat.le_of_ble_eq_true rfl) dX1_isLawful_140) rfl (fun r23 => ?_)
      refine tj_iload_n (q := 144) dX1_isLawful_143 rfl (i := 3) rfl (pl := 2) rfl ?_
      refine tj_callIp (q := 147) (kj_S (As := [.int p3]) (rest := [.int r23, .int y22, .int y11, .ref (h0 + (t + 11))]) wi_RX1_94 (rJ6_bitCount_0f7a4 p3) rfl (Nat.le_of_ble_eq_true rfl) ⟨Nat.le_of_ble_eq_true rfl, Nat.le_of_ble_eq_true rfl⟩ (Nat.le_of_ble_eq_true rfl) dX1_isLawful_144) rfl (fun r24 => ?_)
      refine tj_iload (q := 149) dX1_isLawful_147 rfl (pl := 6) rfl ?_
      refine tj_iload (q := 151) dX1_isLawful_149 rfl (pl := 3) rfl ?_
      refine tj_iload (q := 153) dX1_isLawful_151 rfl (pl := 4) rfl ?_
      refine tj_callZ (q := 156) (kj_V (As := [.int y11, .int y22, .int r23, .int r24, .int y21, .int p4, .int p5]) (rest := []) (t := (t + 11)) wi_RX1_123 ((hT).o_law).s rfl (rX3_allows (t + 11) y11 y22 r23 r24 y21 p4 p5 ((hT).o_law)) rfl (Nat.le_of_ble_eq_true rfl) ⟨Nat.le_of_ble_eq_true rfl, Nat.le_of_ble_eq_true rfl⟩ (Nat.le_of_ble_eq_true rfl) dX1_isLawful_153) rfl (fun r25 => ?_)
      exact tj_zret rfl (nar_b2i _) rfl (Nat.le_of_ble_eq_true rfl) (Nat.le_of_ble_eq_true rfl) dX1_isLawful_156

theorem dX1_isSwap_0 : decode cX1_isSwap 0 = .ok (.aload_n 0, 1) := by decide +kernel
theorem dX1_isSwap_1 : decode cX1_isSwap 1 = .ok (.iload_n 3, 1) := by decide +kernel
theorem dX1_isSwap_2 : decode cX1_isSwap 2 = .ok (.aload_n 1, 1) := by decide +kernel
theorem dX1_isSwap_3 : decode cX1_isSwap 3 = .ok (.getfield 108, 3) := by decide +kernel
theorem dX1_isSwap_6 : decode cX1_isSwap 6 = .ok (.invokevirtual 111, 3) := by decide +kernel
theorem dX1_isSwap_9 : decode cX1_isSwap 9 = .ok (.ifCond .ne 43, 3) := by decide +kernel
theorem dX1_isSwap_12 : decode cX1_isSwap 12 = .ok (.aload_n 0, 1) := by decide +kernel
theorem dX1_isSwap_13 : decode cX1_isSwap 13 = .ok (.aload_n 1, 1) := by decide +kernel
theorem dX1_isSwap_14 : decode cX1_isSwap 14 = .ok (.iload_n 2, 1) := by decide +kernel
theorem dX1_isSwap_15 : decode cX1_isSwap 15 = .ok (.iload_n 3, 1) := by decide +kernel
theorem dX1_isSwap_16 : decode cX1_isSwap 16 = .ok (.iload 4, 2) := by decide +kernel
theorem dX1_isSwap_18 : decode cX1_isSwap 18 = .ok (.iload 5, 2) := by decide +kernel
theorem dX1_isSwap_20 : decode cX1_isSwap 20 = .ok (.invokevirtual 115, 3) := by decide +kernel
theorem dX1_isSwap_23 : decode cX1_isSwap 23 = .ok (.ifCond .eq 29, 3) := by decide +kernel
theorem dX1_isSwap_26 : decode cX1_isSwap 26 = .ok (.aload_n 0, 1) := by decide +kernel
theorem dX1_isSwap_27 : decode cX1_isSwap 27 = .ok (.iload_n 3, 1) := by decide +kernel
theorem dX1_isSwap_28 : decode cX1_isSwap 28 = .ok (.iload 4, 2) := by decide +kernel
theorem dX1_isSwap_30 : decode cX1_isSwap 30 = .ok (.iload 5, 2) := by decide +kernel
theorem dX1_isSwap_32 : decode cX1_isSwap 32 = .ok (.aload_n 1, 1) := by decide +kernel
theorem dX1_isSwap_33 : decode cX1_isSwap 33 = .ok (.getfield 108, 3) := by decide +kernel
theorem dX1_isSwap_36 : decode cX1_isSwap 36 = .ok (.aload_n 0, 1) := by decide +kernel
theorem dX1_isSwap_37 : decode cX1_isSwap 37 = .ok (.getfield 46, 3) := by decide +kernel
theorem dX1_isSwap_40 : decode cX1_isSwap 40 = .ok (.iload_n 2, 1) := by decide +kernel
theorem dX1_isSwap_41 : decode cX1_isSwap 41 = .ok (.iaload, 1) := by decide +kernel
theorem dX1_isSwap_42 : decode cX1_isSwap 42 = .ok (.invokevirtual 119, 3) := by decide +kernel
theorem dX1_isSwap_45 : decode cX1_isSwap 45 = .ok (.ifCond .eq 7, 3) := by decide +kernel
theorem dX1_isSwap_48 : decode cX1_isSwap 48 = .ok (.iconst 1, 1) := by decide +kernel
theorem dX1_isSwap_49 : decode cX1_isSwap 49 = .ok (.goto 4, 3) := by decide +kernel
theorem dX1_isSwap_52 : decode cX1_isSwap 52 = .ok (.iconst 0, 1) := by decide +kernel
theorem dX1_isSwap_53 : decode cX1_isSwap 53 = .ok (.ireturn, 1) := by decide +kernel
theorem wl_RX1_108 : Cond.fieldLink RX1 108 (TX8 3).1 (TX8 3).2.1 (TX8 3).2.2.1 ∈ TB := tbm 391 (by decide +kernel) (by decide +kernel)
theorem wm_X1_isSeen : Cond.instanceMethod yX1_isSeen ∈ TB ∧ Cond.selects yX1_isSeen.cls yX1_isSeen yX1_isSeen ∈ TB ∧ Cond.initialized yX1_isSeen.cls ∈ TB ∧ Cond.code yX1_isSeen cX1_isSeen 3 (some .boolean) ∈ TB ∧ (yX1_isSeen.cls ≠ "java/lang/invoke/MethodHandle" ∧ yX1_isSeen.cls ≠ "java/lang/invoke/VarHandle" ∧ (parseMethodDescriptor yX1_isSeen.desc).map (fun d => d.parameters.length) = some 2) ∧ 3 ≤ 21 := ⟨tbm 915 (by decide +kernel) (by decide +kernel), tbm 916 (by decide +kernel) (by decide +kernel), tbm 138 (by decide +kernel) (by decide +kernel), tbm 917 (by decide +kernel) (by decide +kernel), by decide +kernel, by decide⟩
theorem wi_RX1_111 : Iv RX1 111 yX1_isSeen cX1_isSeen 3 (some .boolean) 2 := ⟨tbm 1312 (by decide +kernel) (by decide +kernel), wm_X1_isSeen⟩
theorem wm_X1_canBe : Cond.instanceMethod yX1_canBe ∈ TB ∧ Cond.selects yX1_canBe.cls yX1_canBe yX1_canBe ∈ TB ∧ Cond.initialized yX1_canBe.cls ∈ TB ∧ Cond.code yX1_canBe cX1_canBe 8 (some .boolean) ∈ TB ∧ (yX1_canBe.cls ≠ "java/lang/invoke/MethodHandle" ∧ yX1_canBe.cls ≠ "java/lang/invoke/VarHandle" ∧ (parseMethodDescriptor yX1_canBe.desc).map (fun d => d.parameters.length) = some 5) ∧ 8 ≤ 21 := ⟨tbm 1100 (by decide +kernel) (by decide +kernel), tbm 1101 (by decide +kernel) (by decide +kernel), tbm 138 (by decide +kernel) (by decide +kernel), tbm 1102 (by decide +kernel) (by decide +kernel), by decide +kernel, by decide⟩
theorem wi_RX1_115 : Iv RX1 115 yX1_canBe cX1_canBe 8 (some .boolean) 5 := ⟨tbm 1313 (by decide +kernel) (by decide +kernel), wm_X1_canBe⟩
theorem wm_X1_isLawful : Cond.instanceMethod yX1_isLawful ∈ TB ∧ Cond.selects yX1_isLawful.cls yX1_isLawful yX1_isLawful ∈ TB ∧ Cond.initialized yX1_isLawful.cls ∈ TB ∧ Cond.code yX1_isLawful cX1_isLawful 11 (some .boolean) ∈ TB ∧ (yX1_isLawful.cls ≠ "java/lang/invoke/MethodHandle" ∧ yX1_isLawful.cls ≠ "java/lang/invoke/VarHandle" ∧ (parseMethodDescriptor yX1_isLawful.desc).map (fun d => d.parameters.length) = some 5) ∧ 11 ≤ 21 := ⟨tbm 1108 (by decide +kernel) (by decide +kernel), tbm 1109 (by decide +kernel) (by decide +kernel), tbm 138 (by decide +kernel) (by decide +kernel), tbm 1110 (by decide +kernel) (by decide +kernel), by decide +kernel, by decide⟩
theorem wi_RX1_119 : Iv RX1 119 yX1_isLawful cX1_isLawful 11 (some .boolean) 5 := ⟨tbm 1314 (by decide +kernel) (by decide +kernel), wm_X1_isLawful⟩
def mX1_isSwap (t : Nat) (p1 : Nat) (p2 : Int32) (p3 : Int32) (p4 : Int32) (p5 : Int32) (σ : St_) : Option (Bool × St_) :=
 ((mX1_isSeen t p3 (σ.1 p1 3) σ).bind fun r1 =>
 (if r1 = true then
 (some (false, σ))
 else ((mX1_canBe t p1 p2 p3 p4 p5 σ).bind fun r2 =>
 (if r2 = true then
 (if bin p2 4 = true then bnd (σ.1 (t + 7) p2.toNatClampNeg) fun v3 =>
 ((mX1_isLawful t p3 p4 p5 (σ.1 p1 3) v3 σ).bind fun r4 =>
 (if r4.1 = true then
 (some (true, r4.2))
 else (some (false, r4.2))))
 else none)
 else (some (false, σ))))))
set_option maxHeartbeats 4000000 in
theorem rX1_isSwap (t : Nat) (p1 : Nat) (p2 : Int32) (p3 : Int32) (p4 : Int32) (p5 : Int32) (hT : LY1 sh P t) (hp1 : LY8 sh P p1) : Rj l D cA h0 ad yX1_isSwap cX1_isSwap 6 (some .boolean) false 5 0 0 (fun b => (some (.int (b2i b.1)), sh, P, b.2)) [.ref (h0 + t), .ref (h0 + p1), .int p2, .int p3, .int p4, .int p5] sh P σ (mX1_isSwap t p1 p2 p3 p4 p5 σ) := by
  rw [mX1_isSwap]
  refine Rj.of (by decide) (fun h => by cases h) (Nat.le_of_ble_eq_true rfl) ?_
  refine tj_lv0 (lv' := [(0, .ref (h0 + t)), (1, .ref (h0 + p1)), (2, .int p2), (3, .int p3), (4, .int p4), (5, .int p5)]) rfl ?_
  refine tj_aload_n (q := 1) dX1_isSwap_0 rfl (i := 0) rfl (pl := 0) rfl ?_
  refine tj_iload_n (q := 2) dX1_isSwap_1 rfl (i := 3) rfl (pl := 3) rfl ?_
  refine tj_aload_n (q := 3) dX1_isSwap_2 rfl (i := 1) rfl (pl := 1) rfl ?_
  refine tj_getI (q := 6) (hp1).s fok_8_3 wl_RX1_108 dX1_isSwap_3 rfl ?_
  refine tj_callZp (q := 9) (kj_V (As := [.int p3, .int (σ.1 p1 3)]) (rest := []) (t := t) wi_RX1_111 (hT).s rfl (rX1_isSeen t p3 (σ.1 p1 3) (hT)) rfl (Nat.le_of_ble_eq_true rfl) ⟨Nat.le_of_ble_eq_true rfl, Nat.le_of_ble_eq_true rfl⟩ (Nat.le_of_ble_eq_true rfl) dX1_isSwap_6) rfl (fun r1 => ?_)
  refine tj_bnz (tgt := 52) (q := 12) dX1_isSwap_9 (by decide) rfl ?_ ?_
  · refine tj_iconst (q := 53) (v := 0) dX1_isSwap_52 rfl (by decide) ?_
    exact tj_zret rfl (by decide) rfl (Nat.le_of_ble_eq_true rfl) (Nat.le_of_ble_eq_true rfl) dX1_isSwap_53
  · refine tj_aload_n (q := 13) dX1_isSwap_12 rfl (i := 0) rfl (pl := 0) rfl ?_
    refine tj_aload_n (q := 14) dX1_isSwap_13 rfl (i := 1) rfl (pl := 1) rfl ?_
    refine tj_iload_n (q := 15) dX1_isSwap_14 rfl (i := 2) rfl (pl := 2) rfl ?_
    refine tj_iload_n (q := 16) dX1_isSwap_15 rfl (i := 3) rfl (pl := 3) rfl ?_
    refine tj_iload (q := 18) dX1_isSwap_16 rfl (pl := 4) rfl ?_
    refine tj_iload (q := 20) dX1_isSwap_18 rfl (pl := 5) rfl ?_
    refine tj_callZp (q := 23) (kj_V (As := [.ref (h0 + p1), .int p2, .int p3, .int p4, .int p5]) (rest := []) (t := t) wi_RX1_115 (hT).s rfl (rX1_canBe t p1 p2 p3 p4 p5 (hT) (hp1)) rfl (Nat.le_of_ble_eq_true rfl) ⟨Nat.le_of_ble_eq_true rfl, Nat.le_of_ble_eq_true rfl⟩ (Nat.le_of_ble_eq_true rfl) dX1_isSwap_20) rfl (fun r2 => ?_)
    refine tj_bz (tgt := 52) (q := 26) dX1_isSwap_23 (by decide) rfl ?_ ?_
    · refine tj_aload_n (q := 27) dX1_isSwap_26 rfl (i := 0) rfl (pl := 0) rfl ?_
      refine tj_iload_n (q := 28) dX1_isSwap_27 rfl (i := 3) rfl (pl := 3) rfl ?_
      refine tj_iload (q := 30) dX1_isSwap_28 rfl (pl := 4) rfl ?_
      refine tj_iload (q := 32) dX1_isSwap_30 rfl (pl := 5) rfl ?_
      refine tj_aload_n (q := 33) dX1_isSwap_32 rfl (i := 1) rfl (pl := 1) rfl ?_
      refine tj_getI (q := 36) (hp1).s fok_8_3 wl_RX1_108 dX1_isSwap_33 rfl ?_
      refine tj_aload_n (q := 37) dX1_isSwap_36 rfl (i := 0) rfl (pl := 0) rfl ?_
      refine tj_getR (q := 40) (hT).s (hT).p_skill fok_1_11 wl_RX1_46 dX1_isSwap_37 rfl ?_
      refine tj_iload_n (q := 41) dX1_isSwap_40 rfl (i := 2) rfl (pl := 2) rfl ?_
      refine tj_iaload (q := 42) (hT).s_skill dX1_isSwap_41 rfl ?_
      refine tj_topI (fun v3 => ?_)
      refine tj_callZ (q := 45) (kj_V (As := [.int p3, .int p4, .int p5, .int (σ.1 p1 3), .int v3]) (rest := []) (t := t) wi_RX1_119 (hT).s rfl (rX1_isLawful t p3 p4 p5 (σ.1 p1 3) v3 (hT)) rfl (Nat.le_of_ble_eq_true rfl) ⟨Nat.le_of_ble_eq_true rfl, Nat.le_of_ble_eq_true rfl⟩ (Nat.le_of_ble_eq_true rfl) dX1_isSwap_42) rfl (fun r4 => ?_)
      refine tj_bz (tgt := 52) (q := 48) dX1_isSwap_45 (by decide) rfl ?_ ?_
      · refine tj_iconst (q := 49) (v := 1) dX1_isSwap_48 rfl (by decide) ?_
        refine tj_goto (q := 53) dX1_isSwap_49 (by decide) ?_
        exact tj_zret rfl (by decide) rfl (Nat.le_of_ble_eq_true rfl) (Nat.le_of_ble_eq_true rfl) dX1_isSwap_53
      · refine tj_iconst (q := 53) (v := 0) dX1_isSwap_52 rfl (by decide) ?_
        exact tj_zret rfl (by decide) rfl (Nat.le_of_ble_eq_true rfl) (Nat.le_of_ble_eq_true rfl) dX1_isSwap_53
    · refine tj_iconst (q := 53) (v := 0) dX1_isSwap_52 rfl (by decide) ?_
      exact tj_zret rfl (by decide) rfl (Nat.le_of_ble_eq_true rfl) (Nat.le_of_ble_eq_true rfl) dX1_isSwap_53

theorem dX1_isLawfulFor_0 : decode cX1_isLawfulFor 0 = .ok (.iload_n 1, 1) := by decide +kernel
theorem dX1_isLawfulFor_1 : decode cX1_isLawfulFor 1 = .ok (.bipush 10, 2) := by decide +kernel
theorem dX1_isLawfulFor_3 : decode cX1_isLawfulFor 3 = .ok (.imul, 1) := by decide +kernel
theorem dX1_isLawfulFor_4 : decode cX1_isLawfulFor 4 = .ok (.istore 7, 2) := by decide +kernel
theorem dX1_isLawfulFor_6 : decode cX1_isLawfulFor 6 = .ok (.iconst 1, 1) := by decide +kernel
theorem dX1_isLawfulFor_7 : decode cX1_isLawfulFor 7 = .ok (.istore 8, 2) := by decide +kernel
theorem dX1_isLawfulFor_9 : decode cX1_isLawfulFor 9 = .ok (.aload_n 0, 1) := by decide +kernel
theorem dX1_isLawfulFor_10 : decode cX1_isLawfulFor 10 = .ok (.getfield 27, 3) := by decide +kernel
theorem dX1_isLawfulFor_13 : decode cX1_isLawfulFor 13 = .ok (.iload_n 3, 1) := by decide +kernel
theorem dX1_isLawfulFor_14 : decode cX1_isLawfulFor 14 = .ok (.iaload, 1) := by decide +kernel
theorem dX1_isLawfulFor_15 : decode cX1_isLawfulFor 15 = .ok (.aload_n 0, 1) := by decide +kernel
theorem dX1_isLawfulFor_16 : decode cX1_isLawfulFor 16 = .ok (.getfield 27, 3) := by decide +kernel
theorem dX1_isLawfulFor_19 : decode cX1_isLawfulFor 19 = .ok (.iload_n 2, 1) := by decide +kernel
theorem dX1_isLawfulFor_20 : decode cX1_isLawfulFor 20 = .ok (.iaload, 1) := by decide +kernel
theorem dX1_isLawfulFor_21 : decode cX1_isLawfulFor 21 = .ok (.if_icmp .ne 7, 3) := by decide +kernel
theorem dX1_isLawfulFor_24 : decode cX1_isLawfulFor 24 = .ok (.iconst 1, 1) := by decide +kernel
theorem dX1_isLawfulFor_25 : decode cX1_isLawfulFor 25 = .ok (.goto 4, 3) := by decide +kernel
theorem dX1_isLawfulFor_28 : decode cX1_isLawfulFor 28 = .ok (.iconst 0, 1) := by decide +kernel
theorem dX1_isLawfulFor_29 : decode cX1_isLawfulFor 29 = .ok (.istore 9, 2) := by decide +kernel
theorem dX1_isLawfulFor_31 : decode cX1_isLawfulFor 31 = .ok (.aload_n 0, 1) := by decide +kernel
theorem dX1_isLawfulFor_32 : decode cX1_isLawfulFor 32 = .ok (.getfield 52, 3) := by decide +kernel
theorem dX1_isLawfulFor_35 : decode cX1_isLawfulFor 35 = .ok (.iload 7, 2) := by decide +kernel
theorem dX1_isLawfulFor_37 : decode cX1_isLawfulFor 37 = .ok (.iload_n 3, 1) := by decide +kernel
theorem dX1_isLawfulFor_38 : decode cX1_isLawfulFor 38 = .ok (.iadd, 1) := by decide +kernel
theorem dX1_isLawfulFor_39 : decode cX1_isLawfulFor 39 = .ok (.iaload, 1) := by decide +kernel
theorem dX1_isLawfulFor_40 : decode cX1_isLawfulFor 40 = .ok (.istore 10, 2) := by decide +kernel
theorem dX1_isLawfulFor_42 : decode cX1_isLawfulFor 42 = .ok (.iload 4, 2) := by decide +kernel
theorem dX1_isLawfulFor_44 : decode cX1_isLawfulFor 44 = .ok (.iconst (-1), 1) := by decide +kernel
theorem dX1_isLawfulFor_45 : decode cX1_isLawfulFor 45 = .ok (.if_icmp .eq 47, 3) := by decide +kernel
theorem dX1_isLawfulFor_48 : decode cX1_isLawfulFor 48 = .ok (.iconst 2, 1) := by decide +kernel
theorem dX1_isLawfulFor_49 : decode cX1_isLawfulFor 49 = .ok (.istore 8, 2) := by decide +kernel
theorem dX1_isLawfulFor_51 : decode cX1_isLawfulFor 51 = .ok (.iload 9, 2) := by decide +kernel
theorem dX1_isLawfulFor_53 : decode cX1_isLawfulFor 53 = .ok (.aload_n 0, 1) := by decide +kernel
theorem dX1_isLawfulFor_54 : decode cX1_isLawfulFor 54 = .ok (.getfield 27, 3) := by decide +kernel
theorem dX1_isLawfulFor_57 : decode cX1_isLawfulFor 57 = .ok (.iload 4, 2) := by decide +kernel
theorem dX1_isLawfulFor_59 : decode cX1_isLawfulFor 59 = .ok (.iaload, 1) := by decide +kernel
theorem dX1_isLawfulFor_60 : decode cX1_isLawfulFor 60 = .ok (.aload_n 0, 1) := by decide +kernel
theorem dX1_isLawfulFor_61 : decode cX1_isLawfulFor 61 = .ok (.getfield 27, 3) := by decide +kernel
theorem dX1_isLawfulFor_64 : decode cX1_isLawfulFor 64 = .ok (.iload_n 2, 1) := by decide +kernel
theorem dX1_isLawfulFor_65 : decode cX1_isLawfulFor 65 = .ok (.iaload, 1) := by decide +kernel
theorem dX1_isLawfulFor_66 : decode cX1_isLawfulFor 66 = .ok (.if_icmp .ne 7, 3) := by decide +kernel
theorem dX1_isLawfulFor_69 : decode cX1_isLawfulFor 69 = .ok (.iconst 1, 1) := by decide +kernel
theorem dX1_isLawfulFor_70 : decode cX1_isLawfulFor 70 = .ok (.goto 4, 3) := by decide +kernel
theorem dX1_isLawfulFor_73 : decode cX1_isLawfulFor 73 = .ok (.iconst 0, 1) := by decide +kernel
theorem dX1_isLawfulFor_74 : decode cX1_isLawfulFor 74 = .ok (.iadd, 1) := by decide +kernel
theorem dX1_isLawfulFor_75 : decode cX1_isLawfulFor 75 = .ok (.istore 9, 2) := by decide +kernel
theorem dX1_isLawfulFor_77 : decode cX1_isLawfulFor 77 = .ok (.iload 10, 2) := by decide +kernel
theorem dX1_isLawfulFor_79 : decode cX1_isLawfulFor 79 = .ok (.aload_n 0, 1) := by decide +kernel
theorem dX1_isLawfulFor_80 : decode cX1_isLawfulFor 80 = .ok (.getfield 52, 3) := by decide +kernel
theorem dX1_isLawfulFor_83 : decode cX1_isLawfulFor 83 = .ok (.iload 7, 2) := by decide +kernel
theorem dX1_isLawfulFor_85 : decode cX1_isLawfulFor 85 = .ok (.iload 4, 2) := by decide +kernel
theorem dX1_isLawfulFor_87 : decode cX1_isLawfulFor 87 = .ok (.iadd, 1) := by decide +kernel
theorem dX1_isLawfulFor_88 : decode cX1_isLawfulFor 88 = .ok (.iaload, 1) := by decide +kernel
theorem dX1_isLawfulFor_89 : decode cX1_isLawfulFor 89 = .ok (.iadd, 1) := by decide +kernel
theorem dX1_isLawfulFor_90 : decode cX1_isLawfulFor 90 = .ok (.istore 10, 2) := by decide +kernel
theorem dX1_isLawfulFor_92 : decode cX1_isLawfulFor 92 = .ok (.aload_n 0, 1) := by decide +kernel
theorem dX1_isLawfulFor_93 : decode cX1_isLawfulFor 93 = .ok (.getfield 61, 3) := by decide +kernel
theorem dX1_isLawfulFor_96 : decode cX1_isLawfulFor 96 = .ok (.aload_n 0, 1) := by decide +kernel
theorem dX1_isLawfulFor_97 : decode cX1_isLawfulFor 97 = .ok (.getfield 52, 3) := by decide +kernel
theorem dX1_isLawfulFor_100 : decode cX1_isLawfulFor 100 = .ok (.iload 7, 2) := by decide +kernel
theorem dX1_isLawfulFor_102 : decode cX1_isLawfulFor 102 = .ok (.iload_n 2, 1) := by decide +kernel
theorem dX1_isLawfulFor_103 : decode cX1_isLawfulFor 103 = .ok (.iadd, 1) := by decide +kernel
theorem dX1_isLawfulFor_104 : decode cX1_isLawfulFor 104 = .ok (.iaload, 1) := by decide +kernel
theorem dX1_isLawfulFor_105 : decode cX1_isLawfulFor 105 = .ok (.iload 10, 2) := by decide +kernel
theorem dX1_isLawfulFor_107 : decode cX1_isLawfulFor 107 = .ok (.iconst 1, 1) := by decide +kernel
theorem dX1_isLawfulFor_108 : decode cX1_isLawfulFor 108 = .ok (.iload 8, 2) := by decide +kernel
theorem dX1_isLawfulFor_110 : decode cX1_isLawfulFor 110 = .ok (.iload 9, 2) := by decide +kernel
theorem dX1_isLawfulFor_112 : decode cX1_isLawfulFor 112 = .ok (.iload 5, 2) := by decide +kernel
theorem dX1_isLawfulFor_114 : decode cX1_isLawfulFor 114 = .ok (.iload 6, 2) := by decide +kernel
theorem dX1_isLawfulFor_116 : decode cX1_isLawfulFor 116 = .ok (.invokevirtual 123, 3) := by decide +kernel
theorem dX1_isLawfulFor_119 : decode cX1_isLawfulFor 119 = .ok (.ireturn, 1) := by decide +kernel
def mX1_isLawfulFor (t : Nat) (p1 : Int32) (p2 : Int32) (p3 : Int32) (p4 : Int32) (p5 : Int32) (p6 : Int32) (σ : St_) : Option (Bool × St_) :=
 (bnd (p1 * (10 : Int32)) fun v1 =>
 (if bin p3 10 = true then bnd (σ.1 (t + 1) p3.toNatClampNeg) fun v2 =>
 (if bin p2 10 = true then bnd (σ.1 (t + 1) p2.toNatClampNeg) fun v3 =>
 (bnd (fun (j4 : Bool) => (bnd (v1 + p3) fun v7 =>
 (if bin v7 50 = true then bnd (σ.1 (t + 9) v7.toNatClampNeg) fun v8 =>
 (bnd (fun (j9 : Int32) (j10 : Int32) (j11 : Int32) => (bnd (v1 + p2) fun v14 =>
 (if bin v14 50 = true then bnd (σ.1 (t + 9) v14.toNatClampNeg) fun v15 =>
 ((mX3_allows (t + 11) v15 j11 (1 : Int32) j9 j10 p5 p6 σ).bind fun r16 =>
 (some (r16.1, r16.2)))
 else none))) fun k12 =>
 (if p4 = (-1 : Int32) then
 (k12 (1 : Int32) (b2i j4) v8)
 else (if bin p4 10 = true then bnd (σ.1 (t + 1) p4.toNatClampNeg) fun v17 =>
 (if bin p2 10 = true then bnd (σ.1 (t + 1) p2.toNatClampNeg) fun v18 =>
 (bnd (fun (j19 : Bool) => (bnd ((b2i j4) + (b2i j19)) fun v22 =>
 (bnd (v1 + p4) fun v23 =>
 (if bin v23 50 = true then bnd (σ.1 (t + 9) v23.toNatClampNeg) fun v24 =>
 (bnd (v8 + v24) fun v25 =>
 (k12 (2 : Int32) v22 v25))
 else none)))) fun k20 =>
 (if v17 = v18 then
 (k20 true)
 else (k20 false)))
 else none)
 else none)))
 else none))) fun k5 =>
 (if v2 = v3 then
 (k5 true)
 else (k5 false)))
 else none)
 else none))
set_option maxHeartbeats 4000000 in
theorem rX1_isLawfulFor (t : Nat) (p1 : Int32) (p2 : Int32) (p3 : Int32) (p4 : Int32) (p5 : Int32) (p6 : Int32) (hT : LY1 sh P t) : Rj l D cA h0 ad yX1_isLawfulFor cX1_isLawfulFor 11 (some .boolean) false 4 0 0 (fun b => (some (.int (b2i b.1)), sh, P, b.2)) [.ref (h0 + t), .int p1, .int p2, .int p3, .int p4, .int p5, .int p6] sh P σ (mX1_isLawfulFor t p1 p2 p3 p4 p5 p6 σ) := by
  rw [mX1_isLawfulFor]
  refine Rj.of (by decide) (fun h => by cases h) (Nat.le_of_ble_eq_true rfl) ?_
  refine tj_lv0 (lv' := [(0, .ref (h0 + t)), (1, .int p1), (2, .int p2), (3, .int p3), (4, .int p4), (5, .int p5), (6, .int p6)]) rfl ?_
  refine tj_iload_n (q := 1) dX1_isLawfulFor_0 rfl (i := 1) rfl (pl := 1) rfl ?_
  refine tj_bipush (q := 3) (v := 10) dX1_isLawfulFor_1 rfl (by decide) ?_
  refine tj_imul (q := 4) dX1_isLawfulFor_3 rfl ?_
  refine tj_topI (fun v1 => ?_)
  refine tj_istore (q := 6) dX1_isLawfulFor_4 rfl (by decide) rfl ?_
  refine tj_iconst (q := 7) (v := 1) dX1_isLawfulFor_6 rfl (by decide) ?_
  refine tj_istore (q := 9) dX1_isLawfulFor_7 rfl (by decide) rfl ?_
  refine tj_aload_n (q := 10) dX1_isLawfulFor_9 rfl (i := 0) rfl (pl := 2) rfl ?_
  refine tj_getR (q := 13) (hT).s (hT).p_kindOf fok_1_5 wl_RX1_27 dX1_isLawfulFor_10 rfl ?_
  refine tj_iload_n (q := 14) dX1_isLawfulFor_13 rfl (i := 3) rfl (pl := 5) rfl ?_
  refine tj_iaload (q := 15) (hT).s_kindOf dX1_isLawfulFor_14 rfl ?_
  refine tj_topI (fun v2 => ?_)
  refine tj_aload_n (q := 16) dX1_isLawfulFor_15 rfl (i := 0) rfl (pl := 2) rfl ?_
  refine tj_getR (q := 19) (hT).s (hT).p_kindOf fok_1_5 wl_RX1_27 dX1_isLawfulFor_16 rfl ?_
  refine tj_iload_n (q := 20) dX1_isLawfulFor_19 rfl (i := 2) rfl (pl := 4) rfl ?_
  refine tj_iaload (q := 21) (hT).s_kindOf dX1_isLawfulFor_20 rfl ?_
  refine tj_topI (fun v3 => ?_)
  refine tj_bnd (fun k5 => ∀ (j4 : Bool), Tj l D cA h0 ad RX1 cX1_isLawfulFor 11 (some .boolean) false 4 0 0 (fun b => (some (.int (b2i b.1)), sh, P, b.2)) 0 0 sh P σ 29 [(0, .ref (h0 + t)), (2, .int p2), (3, .int p3), (4, .int p4), (5, .int p5), (6, .int p6), (7, .int v1), (8, .int (1 : Int32))] [.int (b2i j4)] (k5 j4)) ?_ (fun k5 hk6 => ?_)
  · intro j4
    refine tj_istore (q := 31) dX1_isLawfulFor_29 rfl (by decide) rfl ?_
    refine tj_aload_n (q := 32) dX1_isLawfulFor_31 rfl (i := 0) rfl (pl := 1) rfl ?_
    refine tj_getR (q := 35) (hT).s (hT).p_said fok_1_13 wl_RX1_52 dX1_isLawfulFor_32 rfl ?_
    refine tj_iload (q := 37) dX1_isLawfulFor_35 rfl (pl := 7) rfl ?_
    refine tj_iload_n (q := 38) dX1_isLawfulFor_37 rfl (i := 3) rfl (pl := 3) rfl ?_
    refine tj_iadd (q := 39) dX1_isLawfulFor_38 rfl ?_
    refine tj_topI (fun v7 => ?_)
    refine tj_iaload (q := 40) (hT).s_said dX1_isLawfulFor_39 rfl ?_
    refine tj_topI (fun v8 => ?_)
    refine tj_istore (q := 42) dX1_isLawfulFor_40 rfl (by decide) rfl ?_
    refine tj_iload (q := 44) dX1_isLawfulFor_42 rfl (pl := 5) rfl ?_
    refine tj_iconst (q := 45) (v := (-1)) dX1_isLawfulFor_44 rfl (by decide) ?_
    refine tj_bnd (fun k12 => ∀ (j9 : Int32) (j10 : Int32) (j11 : Int32), Tj l D cA h0 ad RX1 cX1_isLawfulFor 11 (some .boolean) false 4 0 0 (fun b => (some (.int (b2i b.1)), sh, P, b.2)) 0 0 sh P σ 92 [(0, .ref (h0 + t)), (2, .int p2), (5, .int p5), (6, .int p6), (7, .int v1), (8, .int j9), (9, .int j10), (10, .int j11)] [] (k12 j9 j10 j11)) ?_ (fun k12 hk13 => ?_)
    · intro j9 j10 j11
      refine tj_aload_n (q := 93) dX1_isLawfulFor_92 rfl (i := 0) rfl (pl := 0) rfl ?_
      refine tj_getR (q := 96) (hT).s (hT).p_law fok_1_15 wl_RX1_61 dX1_isLawfulFor_93 rfl ?_
      refine tj_aload_n (q := 97) dX1_isLawfulFor_96 rfl (i := 0) rfl (pl := 0) rfl ?_
      refine tj_getR (q := 100) (hT).s (hT).p_said fok_1_13 wl_RX1_52 dX1_isLawfulFor_97 rfl ?_
      refine tj_iload (q := 102) dX1_isLawfulFor_100 rfl (pl := 4) rfl ?_
      refine tj_iload_n (q := 103) dX1_isLawfulFor_102 rfl (i := 2) rfl (pl := 1) rfl ?_
      refine tj_iadd (q := 104) dX1_isLawfulFor_103 rfl ?_
      refine tj_topI (fun v14 => ?_)
      refine tj_iaload (q := 105) (hT).s_said dX1_isLawfulFor_104 rfl ?_
      refine tj_topI (fun v15 => ?_)
      refine tj_iload (q := 107) dX1_isLawfulFor_105 rfl (pl := 7) rfl ?_
      refine tj_iconst (q := 108) (v := 1) dX1_isLawfulFor_107 rfl (by decide) ?_
      refine tj_iload (q := 110) dX1_isLawfulFor_108 rfl (pl := 5) rfl ?_
      refine tj_iload (q := 112) dX1_isLawfulFor_110 rfl (pl := 6) rfl ?_
      refine tj_iload (q := 114) dX1_isLawfulFor_112 rfl (pl := 2) rfl ?_
      refine tj_iload (q := 116) dX1_isLawfulFor_114 rfl (pl := 3) rfl ?_
      refine tj_callZ (q := 119) (kj_V (As := [.int v15, .int j11, .int (1 : Int32), .int j9, .int j10, .int p5, .int p6]) (rest := []) (t := (t + 11)) wi_RX1_123 ((hT).o_law).s rfl (rX3_allows (t + 11) v15 j11 (1 : Int32) j9 j10 p5 p6 ((hT).o_law)) rfl (Nat.le_of_ble_eq_true rfl) ⟨Nat.le_of_ble_eq_true rfl, Nat.le_of_ble_eq_true rfl⟩ (Nat.le_of_ble_eq_true rfl) dX1_isLawfulFor_116) rfl (fun r16 => ?_)
      exact tj_zret rfl (nar_b2i _) rfl (Nat.le_of_ble_eq_true rfl) (Nat.le_of_ble_eq_true rfl) dX1_isLawfulFor_119
    · refine tj_icmp_eq (tgt := 92) (q := 48) dX1_isLawfulFor_45 (by decide) rfl ?_ ?_
      · refine tj_lv [2, 3, 6, 7, 8, 9, 1, 0] rfl ?_
        exact hk13 (1 : Int32) (b2i j4) v8
      · refine tj_iconst (q := 49) (v := 2) dX1_isLawfulFor_48 rfl (by decide) ?_
        refine tj_istore (q := 51) dX1_isLawfulFor_49 rfl (by decide) rfl ?_
        refine tj_iload (q := 53) dX1_isLawfulFor_51 rfl (pl := 2) rfl ?_
        refine tj_aload_n (q := 54) dX1_isLawfulFor_53 rfl (i := 0) rfl (pl := 3) rfl ?_
        refine tj_getR (q := 57) (hT).s (hT).p_kindOf fok_1_5 wl_RX1_27 dX1_isLawfulFor_54 rfl ?_
        refine tj_iload (q := 59) dX1_isLawfulFor_57 rfl (pl := 6) rfl ?_
        refine tj_iaload (q := 60) (hT).s_kindOf dX1_isLawfulFor_59 rfl ?_
        refine tj_topI (fun v17 => ?_)
        refine tj_aload_n (q := 61) dX1_isLawfulFor_60 rfl (i := 0) rfl (pl := 3) rfl ?_
        refine tj_getR (q := 64) (hT).s (hT).p_kindOf fok_1_5 wl_RX1_27 dX1_isLawfulFor_61 rfl ?_
        refine tj_iload_n (q := 65) dX1_isLawfulFor_64 rfl (i := 2) rfl (pl := 4) rfl ?_
        refine tj_iaload (q := 66) (hT).s_kindOf dX1_isLawfulFor_65 rfl ?_
        refine tj_topI (fun v18 => ?_)
        refine tj_bnd (fun k20 => ∀ (j19 : Bool), Tj l D cA h0 ad RX1 cX1_isLawfulFor 11 (some .boolean) false 4 0 0 (fun b => (some (.int (b2i b.1)), sh, P, b.2)) 0 0 sh P σ 74 [(0, .ref (h0 + t)), (2, .int p2), (4, .int p4), (5, .int p5), (6, .int p6), (7, .int v1), (8, .int (2 : Int32)), (10, .int v8)] [.int (b2i j19), .int (b2i j4)] (k20 j19)) ?_ (fun k20 hk21 => ?_)
        · intro j19
          refine tj_iadd (q := 75) dX1_isLawfulFor_74 rfl ?_
          refine tj_topI (fun v22 => ?_)
          refine tj_istore (q := 77) dX1_isLawfulFor_75 rfl (by decide) rfl ?_
          refine tj_iload (q := 79) dX1_isLawfulFor_77 rfl (pl := 8) rfl ?_
          refine tj_aload_n (q := 80) dX1_isLawfulFor_79 rfl (i := 0) rfl (pl := 1) rfl ?_
          refine tj_getR (q := 83) (hT).s (hT).p_said fok_1_13 wl_RX1_52 dX1_isLawfulFor_80 rfl ?_
          refine tj_iload (q := 85) dX1_isLawfulFor_83 rfl (pl := 6) rfl ?_
          refine tj_iload (q := 87) dX1_isLawfulFor_85 rfl (pl := 3) rfl ?_
          refine tj_iadd (q := 88) dX1_isLawfulFor_87 rfl ?_
          refine tj_topI (fun v23 => ?_)
          refine tj_iaload (q := 89) (hT).s_said dX1_isLawfulFor_88 rfl ?_
          refine tj_topI (fun v24 => ?_)
          refine tj_iadd (q := 90) dX1_isLawfulFor_89 rfl ?_
          refine tj_topI (fun v25 => ?_)
          refine tj_istore (q := 92) dX1_isLawfulFor_90 rfl (by decide) rfl ?_
          refine tj_lv [2, 3, 5, 6, 7, 8, 1, 0] rfl ?_
          exact hk13 (2 : Int32) v22 v25
        · refine tj_icmp_ne (tgt := 73) (q := 69) dX1_isLawfulFor_66 (by decide) rfl ?_ ?_
          · refine tj_iconst (q := 70) (v := 1) dX1_isLawfulFor_69 rfl (by decide) ?_
            refine tj_goto (q := 74) dX1_isLawfulFor_70 (by decide) ?_
            refine tj_lv [3, 4, 6, 7, 8, 9, 0, 1] rfl ?_
            exact hk21 true
          · refine tj_iconst (q := 74) (v := 0) dX1_isLawfulFor_73 rfl (by decide) ?_
            refine tj_lv [3, 4, 6, 7, 8, 9, 0, 1] rfl ?_
            exact hk21 false
  · refine tj_icmp_ne (tgt := 28) (q := 24) dX1_isLawfulFor_21 (by decide) rfl ?_ ?_
    · refine tj_iconst (q := 25) (v := 1) dX1_isLawfulFor_24 rfl (by decide) ?_
      refine tj_goto (q := 29) dX1_isLawfulFor_25 (by decide) ?_
      refine tj_lv [2, 4, 5, 6, 7, 8, 1, 0] rfl ?_
      exact hk6 true
    · refine tj_iconst (q := 29) (v := 0) dX1_isLawfulFor_28 rfl (by decide) ?_
      refine tj_lv [2, 4, 5, 6, 7, 8, 1, 0] rfl ?_
      exact hk6 false

theorem dX1_say_0 : decode cX1_say 0 = .ok (.aload_n 0, 1) := by decide +kernel
theorem dX1_say_1 : decode cX1_say 1 = .ok (.getfield 52, 3) := by decide +kernel
theorem dX1_say_4 : decode cX1_say 4 = .ok (.iload_n 1, 1) := by decide +kernel
theorem dX1_say_5 : decode cX1_say 5 = .ok (.bipush 10, 2) := by decide +kernel
theorem dX1_say_7 : decode cX1_say 7 = .ok (.imul, 1) := by decide +kernel
theorem dX1_say_8 : decode cX1_say 8 = .ok (.iload_n 2, 1) := by decide +kernel
theorem dX1_say_9 : decode cX1_say 9 = .ok (.iadd, 1) := by decide +kernel
theorem dX1_say_10 : decode cX1_say 10 = .ok (.iload_n 3, 1) := by decide +kernel
theorem dX1_say_11 : decode cX1_say 11 = .ok (.iastore, 1) := by decide +kernel
theorem dX1_say_12 : decode cX1_say 12 = .ok (.return_, 1) := by decide +kernel
def mX1_say (t : Nat) (p1 : Int32) (p2 : Int32) (p3 : Int32) (σ : St_) : Option St_ :=
 (bnd ((p1 * (10 : Int32)) + p2) fun v1 =>
 (if bin v1 50 = true then bnd (sI σ (t + 9) v1.toNatClampNeg p3) fun σ2 =>
 (some σ2)
 else none))
set_option maxHeartbeats 4000000 in
theorem rX1_say (t : Nat) (p1 : Int32) (p2 : Int32) (p3 : Int32) (hT : LY1 sh P t) : Rj l D cA h0 ad yX1_say cX1_say 4 none false 2 0 0 (fun b => (none, sh, P, b)) [.ref (h0 + t), .int p1, .int p2, .int p3] sh P σ (mX1_say t p1 p2 p3 σ) := by
  rw [mX1_say]
  refine Rj.of (by decide) (fun h => by cases h) (Nat.le_of_ble_eq_true rfl) ?_
  refine tj_lv0 (lv' := [(0, .ref (h0 + t)), (1, .int p1), (2, .int p2), (3, .int p3)]) rfl ?_
  refine tj_aload_n (q := 1) dX1_say_0 rfl (i := 0) rfl (pl := 0) rfl ?_
  refine tj_getR (q := 4) (hT).s (hT).p_said fok_1_13 wl_RX1_52 dX1_say_1 rfl ?_
  refine tj_iload_n (q := 5) dX1_say_4 rfl (i := 1) rfl (pl := 1) rfl ?_
  refine tj_bipush (q := 7) (v := 10) dX1_say_5 rfl (by decide) ?_
  refine tj_imul (q := 8) dX1_say_7 rfl ?_
  refine tj_iload_n (q := 9) dX1_say_8 rfl (i := 2) rfl (pl := 2) rfl ?_
  refine tj_iadd (q := 10) dX1_say_9 rfl ?_
  refine tj_iload_n (q := 11) dX1_say_10 rfl (i := 3) rfl (pl := 3) rfl ?_
  refine tj_sndI (fun v1 => ?_)
  refine tj_iastore (q := 12) (hT).s_said dX1_say_11 rfl (fun σ2 => ?_)
  exact tj_vret rfl rfl (Nat.le_of_ble_eq_true rfl) (Nat.le_of_ble_eq_true rfl) dX1_say_12

theorem dX1_sayTruth_0 : decode cX1_sayTruth 0 = .ok (.aload_n 0, 1) := by decide +kernel
theorem dX1_sayTruth_1 : decode cX1_sayTruth 1 = .ok (.iload_n 1, 1) := by decide +kernel
theorem dX1_sayTruth_2 : decode cX1_sayTruth 2 = .ok (.iload_n 2, 1) := by decide +kernel
theorem dX1_sayTruth_3 : decode cX1_sayTruth 3 = .ok (.aload_n 0, 1) := by decide +kernel
theorem dX1_sayTruth_4 : decode cX1_sayTruth 4 = .ok (.iload_n 1, 1) := by decide +kernel
theorem dX1_sayTruth_5 : decode cX1_sayTruth 5 = .ok (.iload_n 2, 1) := by decide +kernel
theorem dX1_sayTruth_6 : decode cX1_sayTruth 6 = .ok (.invokevirtual 80, 3) := by decide +kernel
theorem dX1_sayTruth_9 : decode cX1_sayTruth 9 = .ok (.invokevirtual 127, 3) := by decide +kernel
theorem dX1_sayTruth_12 : decode cX1_sayTruth 12 = .ok (.return_, 1) := by decide +kernel
theorem wm_X1_say : Cond.instanceMethod yX1_say ∈ TB ∧ Cond.selects yX1_say.cls yX1_say yX1_say ∈ TB ∧ Cond.initialized yX1_say.cls ∈ TB ∧ Cond.code yX1_say cX1_say 4 none ∈ TB ∧ (yX1_say.cls ≠ "java/lang/invoke/MethodHandle" ∧ yX1_say.cls ≠ "java/lang/invoke/VarHandle" ∧ (parseMethodDescriptor yX1_say.desc).map (fun d => d.parameters.length) = some 3) ∧ 4 ≤ 21 := ⟨tbm 1281 (by decide +kernel) (by decide +kernel), tbm 1282 (by decide +kernel) (by decide +kernel), tbm 138 (by decide +kernel) (by decide +kernel), tbm 1283 (by decide +kernel) (by decide +kernel), by decide +kernel, by decide⟩
theorem wi_RX1_127 : Iv RX1 127 yX1_say cX1_say 4 none 3 := ⟨tbm 1288 (by decide +kernel) (by decide +kernel), wm_X1_say⟩
def mX1_sayTruth (t : Nat) (p1 : Int32) (p2 : Int32) (σ : St_) : Option St_ :=
 ((mX1_valueTo t p1 p2 σ).bind fun r1 =>
 ((mX1_say t p1 p2 r1 σ).bind fun σ2 =>
 (some σ2)))
set_option maxHeartbeats 4000000 in
theorem rX1_sayTruth (t : Nat) (p1 : Int32) (p2 : Int32) (hT : LY1 sh P t) : Rj l D cA h0 ad yX1_sayTruth cX1_sayTruth 3 none false 3 0 0 (fun b => (none, sh, P, b)) [.ref (h0 + t), .int p1, .int p2] sh P σ (mX1_sayTruth t p1 p2 σ) := by
  rw [mX1_sayTruth]
  refine Rj.of (by decide) (fun h => by cases h) (Nat.le_of_ble_eq_true rfl) ?_
  refine tj_lv0 (lv' := [(0, .ref (h0 + t)), (1, .int p1), (2, .int p2)]) rfl ?_
  refine tj_aload_n (q := 1) dX1_sayTruth_0 rfl (i := 0) rfl (pl := 0) rfl ?_
  refine tj_iload_n (q := 2) dX1_sayTruth_1 rfl (i := 1) rfl (pl := 1) rfl ?_
  refine tj_iload_n (q := 3) dX1_sayTruth_2 rfl (i := 2) rfl (pl := 2) rfl ?_
  refine tj_aload_n (q := 4) dX1_sayTruth_3 rfl (i := 0) rfl (pl := 0) rfl ?_
  refine tj_iload_n (q := 5) dX1_sayTruth_4 rfl (i := 1) rfl (pl := 1) rfl ?_
  refine tj_iload_n (q := 6) dX1_sayTruth_5 rfl (i := 2) rfl (pl := 2) rfl ?_
  refine tj_callIp (q := 9) (kj_V (As := [.int p1, .int p2]) (rest := [.int p2, .int p1, .ref (h0 + t)]) (t := t) wi_RX1_80 (hT).s rfl (rX1_valueTo t p1 p2 (hT)) rfl (Nat.le_of_ble_eq_true rfl) ⟨Nat.le_of_ble_eq_true rfl, Nat.le_of_ble_eq_true rfl⟩ (Nat.le_of_ble_eq_true rfl) dX1_sayTruth_6) rfl (fun r1 => ?_)
  refine tj_callV (q := 12) (kj_V (As := [.int p1, .int p2, .int r1]) (rest := []) (t := t) wi_RX1_127 (hT).s rfl (rX1_say t p1 p2 r1 (hT)) rfl (Nat.le_of_ble_eq_true rfl) ⟨Nat.le_of_ble_eq_true rfl, Nat.le_of_ble_eq_true rfl⟩ (Nat.le_of_ble_eq_true rfl) dX1_sayTruth_9) rfl (fun σ2 => ?_)
  exact tj_vret rfl rfl (Nat.le_of_ble_eq_true rfl) (Nat.le_of_ble_eq_true rfl) dX1_sayTruth_12

end
