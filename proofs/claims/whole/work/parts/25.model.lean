section
variable {l : Launch} {D : va_G} {cA : Nat → ClassId} {h0 : Nat} {ad : Ad_} {sh : Sh_} {P : Px_} {σ : St_}
theorem dX12_untell_0 : decode cX12_untell 0 = .ok (.iload_n 1, 1) := by decide +kernel
theorem dX12_untell_1 : decode cX12_untell 1 = .ok (.iconst 0, 1) := by decide +kernel
theorem dX12_untell_2 : decode cX12_untell 2 = .ok (.aload_n 0, 1) := by decide +kernel
theorem dX12_untell_3 : decode cX12_untell 3 = .ok (.getfield 440, 3) := by decide +kernel
theorem dX12_untell_6 : decode cX12_untell 6 = .ok (.iconst 1, 1) := by decide +kernel
theorem dX12_untell_7 : decode cX12_untell 7 = .ok (.isub, 1) := by decide +kernel
theorem dX12_untell_8 : decode cX12_untell 8 = .ok (.invokestatic 446, 3) := by decide +kernel
theorem dX12_untell_11 : decode cX12_untell 11 = .ok (.ifCond .eq 12, 3) := by decide +kernel
theorem dX12_untell_14 : decode cX12_untell 14 = .ok (.aload_n 0, 1) := by decide +kernel
theorem dX12_untell_15 : decode cX12_untell 15 = .ok (.getfield 147, 3) := by decide +kernel
theorem dX12_untell_18 : decode cX12_untell 18 = .ok (.iload_n 1, 1) := by decide +kernel
theorem dX12_untell_19 : decode cX12_untell 19 = .ok (.iaload, 1) := by decide +kernel
theorem dX12_untell_20 : decode cX12_untell 20 = .ok (.ifCond .lt 5, 3) := by decide +kernel
theorem dX12_untell_23 : decode cX12_untell 23 = .ok (.iconst 0, 1) := by decide +kernel
theorem dX12_untell_24 : decode cX12_untell 24 = .ok (.ireturn, 1) := by decide +kernel
theorem dX12_untell_25 : decode cX12_untell 25 = .ok (.aload_n 0, 1) := by decide +kernel
theorem dX12_untell_26 : decode cX12_untell 26 = .ok (.getfield 147, 3) := by decide +kernel
theorem dX12_untell_29 : decode cX12_untell 29 = .ok (.iload_n 1, 1) := by decide +kernel
theorem dX12_untell_30 : decode cX12_untell 30 = .ok (.aload_n 0, 1) := by decide +kernel
theorem dX12_untell_31 : decode cX12_untell 31 = .ok (.getfield 614, 3) := by decide +kernel
theorem dX12_untell_34 : decode cX12_untell 34 = .ok (.iastore, 1) := by decide +kernel
theorem dX12_untell_35 : decode cX12_untell 35 = .ok (.iconst 1, 1) := by decide +kernel
theorem dX12_untell_36 : decode cX12_untell 36 = .ok (.ireturn, 1) := by decide +kernel
def mX12_untell (t : Nat) (p1 : Int32) (σ : St_) : Option (Bool × St_) :=
 ((mX12_isIn p1 (0 : Int32) ((σ.1 t 86) - (1 : Int32)) σ).bind fun r1 =>
 (if r1 = true then
 (if bin p1 30 = true then bnd (σ.1 (t + 42) p1.toNatClampNeg) fun v2 =>
 (if v2 < 0 then
 (if bin p1 30 = true then bnd (sI σ (t + 42) p1.toNatClampNeg (σ.1 t 87)) fun σ3 =>
 (some (true, σ3))
 else none)
 else (some (false, σ)))
 else none)
 else (some (false, σ))))
set_option maxHeartbeats 4000000 in
theorem rX12_untell (t : Nat) (p1 : Int32) (hT : LY12 sh P t) : Rj l D cA h0 ad yX12_untell cX12_untell 2 (some .boolean) false 3 0 0 (fun b => (some (.int (b2i b.1)), sh, P, b.2)) [.ref (h0 + t), .int p1] sh P σ (mX12_untell t p1 σ) := by
  rw [mX12_untell]
  refine Rj.of (by decide) (fun h => by cases h) (Nat.le_of_ble_eq_true rfl) ?_
  refine tj_lv0 (lv' := [(0, .ref (h0 + t)), (1, .int p1)]) rfl ?_
  refine tj_iload_n (q := 1) dX12_untell_0 rfl (i := 1) rfl (pl := 1) rfl ?_
  refine tj_iconst (q := 2) (v := 0) dX12_untell_1 rfl (by decide) ?_
  refine tj_aload_n (q := 3) dX12_untell_2 rfl (i := 0) rfl (pl := 0) rfl ?_
  refine tj_getI (q := 6) (hT).s fok_12_86 wl_RX12_440 dX12_untell_3 rfl ?_
  refine tj_iconst (q := 7) (v := 1) dX12_untell_6 rfl (by decide) ?_
  refine tj_isub (q := 8) dX12_untell_7 rfl ?_
  refine tj_callZp (q := 11) (kj_S (As := [.int p1, .int (0 : Int32), .int ((σ.1 t 86) - (1 : Int32))]) (rest := []) wi_RX12_446 (rX12_isIn p1 (0 : Int32) ((σ.1 t 86) - (1 : Int32))) rfl (Nat.le_of_ble_eq_true rfl) ⟨Nat.le_of_ble_eq_true rfl, Nat.le_of_ble_eq_true rfl⟩ (Nat.le_of_ble_eq_true rfl) dX12_untell_8) rfl (fun r1 => ?_)
  refine tj_bz (tgt := 23) (q := 14) dX12_untell_11 (by decide) rfl ?_ ?_
  · refine tj_aload_n (q := 15) dX12_untell_14 rfl (i := 0) rfl (pl := 0) rfl ?_
    refine tj_getR (q := 18) (hT).s (hT).p_repUntold fok_12_84 wl_RX12_147 dX12_untell_15 rfl ?_
    refine tj_iload_n (q := 19) dX12_untell_18 rfl (i := 1) rfl (pl := 1) rfl ?_
    refine tj_iaload (q := 20) (hT).s_repUntold dX12_untell_19 rfl ?_
    refine tj_topI (fun v2 => ?_)
    refine tj_if_lt (tgt := 25) (q := 23) dX12_untell_20 (by decide) rfl ?_ ?_
    · refine tj_aload_n (q := 26) dX12_untell_25 rfl (i := 0) rfl (pl := 0) rfl ?_
      refine tj_getR (q := 29) (hT).s (hT).p_repUntold fok_12_84 wl_RX12_147 dX12_untell_26 rfl ?_
      refine tj_iload_n (q := 30) dX12_untell_29 rfl (i := 1) rfl (pl := 1) rfl ?_
      refine tj_aload_n (q := 31) dX12_untell_30 rfl (i := 0) rfl (pl := 0) rfl ?_
      refine tj_getI (q := 34) (hT).s fok_12_87 wl_RX12_614 dX12_untell_31 rfl ?_
      refine tj_iastore (q := 35) (hT).s_repUntold dX12_untell_34 rfl (fun σ3 => ?_)
      refine tj_iconst (q := 36) (v := 1) dX12_untell_35 rfl (by decide) ?_
      exact tj_zret rfl (by decide) rfl (Nat.le_of_ble_eq_true rfl) (Nat.le_of_ble_eq_true rfl) dX12_untell_36
    · refine tj_iconst (q := 24) (v := 0) dX12_untell_23 rfl (by decide) ?_
      exact tj_zret rfl (by decide) rfl (Nat.le_of_ble_eq_true rfl) (Nat.le_of_ble_eq_true rfl) dX12_untell_24
  · refine tj_iconst (q := 24) (v := 0) dX12_untell_23 rfl (by decide) ?_
    exact tj_zret rfl (by decide) rfl (Nat.le_of_ble_eq_true rfl) (Nat.le_of_ble_eq_true rfl) dX12_untell_24

theorem dX12_later_0 : decode cX12_later 0 = .ok (.iload_n 1, 1) := by decide +kernel
theorem dX12_later_1 : decode cX12_later 1 = .ok (.ifCond .lt 22, 3) := by decide +kernel
theorem dX12_later_4 : decode cX12_later 4 = .ok (.iload_n 1, 1) := by decide +kernel
theorem dX12_later_5 : decode cX12_later 5 = .ok (.sipush 1000, 3) := by decide +kernel
theorem dX12_later_8 : decode cX12_later 8 = .ok (.if_icmp .gt 15, 3) := by decide +kernel
theorem dX12_later_11 : decode cX12_later 11 = .ok (.aload_n 0, 1) := by decide +kernel
theorem dX12_later_12 : decode cX12_later 12 = .ok (.getfield 614, 3) := by decide +kernel
theorem dX12_later_15 : decode cX12_later 15 = .ok (.iload_n 1, 1) := by decide +kernel
theorem dX12_later_16 : decode cX12_later 16 = .ok (.iadd, 1) := by decide +kernel
theorem dX12_later_17 : decode cX12_later 17 = .ok (.ldc_w 617, 3) := by decide +kernel
theorem dX12_later_20 : decode cX12_later 20 = .ok (.if_icmp .le 5, 3) := by decide +kernel
theorem dX12_later_23 : decode cX12_later 23 = .ok (.iconst (-1), 1) := by decide +kernel
theorem dX12_later_24 : decode cX12_later 24 = .ok (.ireturn, 1) := by decide +kernel
theorem dX12_later_25 : decode cX12_later 25 = .ok (.aload_n 0, 1) := by decide +kernel
theorem dX12_later_26 : decode cX12_later 26 = .ok (.dup, 1) := by decide +kernel
theorem dX12_later_27 : decode cX12_later 27 = .ok (.getfield 614, 3) := by decide +kernel
theorem dX12_later_30 : decode cX12_later 30 = .ok (.iload_n 1, 1) := by decide +kernel
theorem dX12_later_31 : decode cX12_later 31 = .ok (.iadd, 1) := by decide +kernel
theorem dX12_later_32 : decode cX12_later 32 = .ok (.putfield 614, 3) := by decide +kernel
theorem dX12_later_35 : decode cX12_later 35 = .ok (.aload_n 0, 1) := by decide +kernel
theorem dX12_later_36 : decode cX12_later 36 = .ok (.getfield 614, 3) := by decide +kernel
theorem dX12_later_39 : decode cX12_later 39 = .ok (.ireturn, 1) := by decide +kernel
theorem wc_RX12_617 : Cond.constant RX12 617 100000 ∈ TB := tbm 2168 (by decide +kernel) (by decide +kernel)
def mX12_later (t : Nat) (p1 : Int32) (σ : St_) : Option (Int32 × St_) :=
 (if p1 < 0 then
 (some ((-1 : Int32), σ))
 else (if (1000 : Int32) < p1 then
 (some ((-1 : Int32), σ))
 else (if ((σ.1 t 87) + p1) ≤ (100000 : Int32) then
 (bnd (sI σ t 87 ((σ.1 t 87) + p1)) fun σ1 =>
 (some ((σ1.1 t 87), σ1)))
 else (some ((-1 : Int32), σ)))))
set_option maxHeartbeats 4000000 in
theorem rX12_later (t : Nat) (p1 : Int32) (hT : LY12 sh P t) : Rj l D cA h0 ad yX12_later cX12_later 2 (some .int) false 2 0 0 (fun b => (some (.int b.1), sh, P, b.2)) [.ref (h0 + t), .int p1] sh P σ (mX12_later t p1 σ) := by
  rw [mX12_later]
  refine Rj.of (by decide) (fun h => by cases h) (Nat.le_of_ble_eq_true rfl) ?_
  refine tj_lv0 (lv' := [(0, .ref (h0 + t)), (1, .int p1)]) rfl ?_
  refine tj_iload_n (q := 1) dX12_later_0 rfl (i := 1) rfl (pl := 1) rfl ?_
  refine tj_if_lt (tgt := 23) (q := 4) dX12_later_1 (by decide) rfl ?_ ?_
  · refine tj_iconst (q := 24) (v := (-1)) dX12_later_23 rfl (by decide) ?_
    exact tj_iret rfl rfl (Nat.le_of_ble_eq_true rfl) (Nat.le_of_ble_eq_true rfl) dX12_later_24
  · refine tj_iload_n (q := 5) dX12_later_4 rfl (i := 1) rfl (pl := 1) rfl ?_
    refine tj_sipush (q := 8) (v := 1000) dX12_later_5 rfl (by decide) ?_
    refine tj_icmp_gt (tgt := 23) (q := 11) dX12_later_8 (by decide) rfl ?_ ?_
    · refine tj_iconst (q := 24) (v := (-1)) dX12_later_23 rfl (by decide) ?_
      exact tj_iret rfl rfl (Nat.le_of_ble_eq_true rfl) (Nat.le_of_ble_eq_true rfl) dX12_later_24
    · refine tj_aload_n (q := 12) dX12_later_11 rfl (i := 0) rfl (pl := 0) rfl ?_
      refine tj_getI (q := 15) (hT).s fok_12_87 wl_RX12_614 dX12_later_12 rfl ?_
      refine tj_iload_n (q := 16) dX12_later_15 rfl (i := 1) rfl (pl := 1) rfl ?_
      refine tj_iadd (q := 17) dX12_later_16 rfl ?_
      refine tj_ldcw (q := 20) (v := 100000) dX12_later_17 rfl wc_RX12_617 ?_
      refine tj_icmp_le (tgt := 25) (q := 23) dX12_later_20 (by decide) rfl ?_ ?_
      · refine tj_aload_n (q := 26) dX12_later_25 rfl (i := 0) rfl (pl := 0) rfl ?_
        refine tj_dup (q := 27) dX12_later_26 rfl rfl ?_
        refine tj_getI (q := 30) (hT).s fok_12_87 wl_RX12_614 dX12_later_27 rfl ?_
        refine tj_iload_n (q := 31) dX12_later_30 rfl (i := 1) rfl (pl := 1) rfl ?_
        refine tj_iadd (q := 32) dX12_later_31 rfl ?_
        refine tj_putI (q := 35) (hT).s fok_12_87 tok_12 fpk_12_87 wl_RX12_614 dX12_later_32 rfl (fun σ1 => ?_)
        refine tj_aload_n (q := 36) dX12_later_35 rfl (i := 0) rfl (pl := 0) rfl ?_
        refine tj_getI (q := 39) (hT).s fok_12_87 wl_RX12_614 dX12_later_36 rfl ?_
        exact tj_iret rfl rfl (Nat.le_of_ble_eq_true rfl) (Nat.le_of_ble_eq_true rfl) dX12_later_39
      · refine tj_iconst (q := 24) (v := (-1)) dX12_later_23 rfl (by decide) ?_
        exact tj_iret rfl rfl (Nat.le_of_ble_eq_true rfl) (Nat.le_of_ble_eq_true rfl) dX12_later_24

theorem dX12_layOther_0 : decode cX12_layOther 0 = .ok (.aload_n 0, 1) := by decide +kernel
theorem dX12_layOther_1 : decode cX12_layOther 1 = .ok (.iload_n 1, 1) := by decide +kernel
theorem dX12_layOther_2 : decode cX12_layOther 2 = .ok (.putfield 111, 3) := by decide +kernel
theorem dX12_layOther_5 : decode cX12_layOther 5 = .ok (.aload_n 0, 1) := by decide +kernel
theorem dX12_layOther_6 : decode cX12_layOther 6 = .ok (.iload_n 2, 1) := by decide +kernel
theorem dX12_layOther_7 : decode cX12_layOther 7 = .ok (.putfield 108, 3) := by decide +kernel
theorem dX12_layOther_10 : decode cX12_layOther 10 = .ok (.aload_n 0, 1) := by decide +kernel
theorem dX12_layOther_11 : decode cX12_layOther 11 = .ok (.iload_n 3, 1) := by decide +kernel
theorem dX12_layOther_12 : decode cX12_layOther 12 = .ok (.putfield 462, 3) := by decide +kernel
theorem dX12_layOther_15 : decode cX12_layOther 15 = .ok (.return_, 1) := by decide +kernel
def mX12_layOther (t : Nat) (p1 : Int32) (p2 : Int32) (p3 : Int32) (σ : St_) : Option St_ :=
 (bnd (sI σ t 65 p1) fun σ1 =>
 (bnd (sI σ1 t 64 p2) fun σ2 =>
 (bnd (sI σ2 t 66 p3) fun σ3 =>
 (some σ3))))
set_option maxHeartbeats 4000000 in
theorem rX12_layOther (t : Nat) (p1 : Int32) (p2 : Int32) (p3 : Int32) (hT : LY12 sh P t) : Rj l D cA h0 ad yX12_layOther cX12_layOther 4 none false 2 0 0 (fun b => (none, sh, P, b)) [.ref (h0 + t), .int p1, .int p2, .int p3] sh P σ (mX12_layOther t p1 p2 p3 σ) := by
  rw [mX12_layOther]
  refine Rj.of (by decide) (fun h => by cases h) (Nat.le_of_ble_eq_true rfl) ?_
  refine tj_lv0 (lv' := [(0, .ref (h0 + t)), (1, .int p1), (2, .int p2), (3, .int p3)]) rfl ?_
  refine tj_aload_n (q := 1) dX12_layOther_0 rfl (i := 0) rfl (pl := 0) rfl ?_
  refine tj_iload_n (q := 2) dX12_layOther_1 rfl (i := 1) rfl (pl := 1) rfl ?_
  refine tj_putI (q := 5) (hT).s fok_12_65 tok_12 fpk_12_65 wl_RX12_111 dX12_layOther_2 rfl (fun σ1 => ?_)
  refine tj_aload_n (q := 6) dX12_layOther_5 rfl (i := 0) rfl (pl := 0) rfl ?_
  refine tj_iload_n (q := 7) dX12_layOther_6 rfl (i := 2) rfl (pl := 2) rfl ?_
  refine tj_putI (q := 10) (hT).s fok_12_64 tok_12 fpk_12_64 wl_RX12_108 dX12_layOther_7 rfl (fun σ2 => ?_)
  refine tj_aload_n (q := 11) dX12_layOther_10 rfl (i := 0) rfl (pl := 0) rfl ?_
  refine tj_iload_n (q := 12) dX12_layOther_11 rfl (i := 3) rfl (pl := 3) rfl ?_
  refine tj_putI (q := 15) (hT).s fok_12_66 tok_12 fpk_12_66 wl_RX12_462 dX12_layOther_12 rfl (fun σ3 => ?_)
  exact tj_vret rfl rfl (Nat.le_of_ble_eq_true rfl) (Nat.le_of_ble_eq_true rfl) dX12_layOther_15

theorem dX12_laySpan_0 : decode cX12_laySpan 0 = .ok (.iconst 0, 1) := by decide +kernel
theorem dX12_laySpan_1 : decode cX12_laySpan 1 = .ok (.istore 4, 2) := by decide +kernel
theorem dX12_laySpan_3 : decode cX12_laySpan 3 = .ok (.iconst 0, 1) := by decide +kernel
theorem dX12_laySpan_4 : decode cX12_laySpan 4 = .ok (.istore 5, 2) := by decide +kernel
theorem dX12_laySpan_6 : decode cX12_laySpan 6 = .ok (.iload 5, 2) := by decide +kernel
theorem dX12_laySpan_8 : decode cX12_laySpan 8 = .ok (.bipush 99, 2) := by decide +kernel
theorem dX12_laySpan_10 : decode cX12_laySpan 10 = .ok (.if_icmp .gt 176, 3) := by decide +kernel
theorem dX12_laySpan_13 : decode cX12_laySpan 13 = .ok (.aload_n 0, 1) := by decide +kernel
theorem dX12_laySpan_14 : decode cX12_laySpan 14 = .ok (.iload_n 1, 1) := by decide +kernel
theorem dX12_laySpan_15 : decode cX12_laySpan 15 = .ok (.iload_n 2, 1) := by decide +kernel
theorem dX12_laySpan_16 : decode cX12_laySpan 16 = .ok (.iload 5, 2) := by decide +kernel
theorem dX12_laySpan_18 : decode cX12_laySpan 18 = .ok (.invokevirtual 618, 3) := by decide +kernel
theorem dX12_laySpan_21 : decode cX12_laySpan 21 = .ok (.aload_n 0, 1) := by decide +kernel
theorem dX12_laySpan_22 : decode cX12_laySpan 22 = .ok (.getfield 154, 3) := by decide +kernel
theorem dX12_laySpan_25 : decode cX12_laySpan 25 = .ok (.iload 5, 2) := by decide +kernel
theorem dX12_laySpan_27 : decode cX12_laySpan 27 = .ok (.iconst 1, 1) := by decide +kernel
theorem dX12_laySpan_28 : decode cX12_laySpan 28 = .ok (.bastore, 1) := by decide +kernel
theorem dX12_laySpan_29 : decode cX12_laySpan 29 = .ok (.iconst 0, 1) := by decide +kernel
theorem dX12_laySpan_30 : decode cX12_laySpan 30 = .ok (.istore 6, 2) := by decide +kernel
theorem dX12_laySpan_32 : decode cX12_laySpan 32 = .ok (.iload 6, 2) := by decide +kernel
theorem dX12_laySpan_34 : decode cX12_laySpan 34 = .ok (.aload_n 0, 1) := by decide +kernel
theorem dX12_laySpan_35 : decode cX12_laySpan 35 = .ok (.getfield 440, 3) := by decide +kernel
theorem dX12_laySpan_38 : decode cX12_laySpan 38 = .ok (.if_icmp .ge 127, 3) := by decide +kernel
theorem dX12_laySpan_41 : decode cX12_laySpan 41 = .ok (.aload_n 0, 1) := by decide +kernel
theorem dX12_laySpan_42 : decode cX12_laySpan 42 = .ok (.getfield 154, 3) := by decide +kernel
theorem dX12_laySpan_45 : decode cX12_laySpan 45 = .ok (.iload 5, 2) := by decide +kernel
theorem dX12_laySpan_47 : decode cX12_laySpan 47 = .ok (.baload, 1) := by decide +kernel
theorem dX12_laySpan_48 : decode cX12_laySpan 48 = .ok (.ifCond .eq 117, 3) := by decide +kernel
theorem dX12_laySpan_51 : decode cX12_laySpan 51 = .ok (.aload_n 0, 1) := by decide +kernel
theorem dX12_laySpan_52 : decode cX12_laySpan 52 = .ok (.getfield 132, 3) := by decide +kernel
theorem dX12_laySpan_55 : decode cX12_laySpan 55 = .ok (.iload 6, 2) := by decide +kernel
theorem dX12_laySpan_57 : decode cX12_laySpan 57 = .ok (.iaload, 1) := by decide +kernel
theorem dX12_laySpan_58 : decode cX12_laySpan 58 = .ok (.iload_n 1, 1) := by decide +kernel
theorem dX12_laySpan_59 : decode cX12_laySpan 59 = .ok (.if_icmp .ne 39, 3) := by decide +kernel
theorem dX12_laySpan_62 : decode cX12_laySpan 62 = .ok (.aload_n 0, 1) := by decide +kernel
theorem dX12_laySpan_63 : decode cX12_laySpan 63 = .ok (.getfield 144, 3) := by decide +kernel
theorem dX12_laySpan_66 : decode cX12_laySpan 66 = .ok (.iload 6, 2) := by decide +kernel
theorem dX12_laySpan_68 : decode cX12_laySpan 68 = .ok (.iaload, 1) := by decide +kernel
theorem dX12_laySpan_69 : decode cX12_laySpan 69 = .ok (.iload_n 3, 1) := by decide +kernel
theorem dX12_laySpan_70 : decode cX12_laySpan 70 = .ok (.if_icmp .gt 28, 3) := by decide +kernel
theorem dX12_laySpan_73 : decode cX12_laySpan 73 = .ok (.aload_n 0, 1) := by decide +kernel
theorem dX12_laySpan_74 : decode cX12_laySpan 74 = .ok (.getfield 147, 3) := by decide +kernel
theorem dX12_laySpan_77 : decode cX12_laySpan 77 = .ok (.iload 6, 2) := by decide +kernel
theorem dX12_laySpan_79 : decode cX12_laySpan 79 = .ok (.iaload, 1) := by decide +kernel
theorem dX12_laySpan_80 : decode cX12_laySpan 80 = .ok (.ifCond .lt 14, 3) := by decide +kernel
theorem dX12_laySpan_83 : decode cX12_laySpan 83 = .ok (.aload_n 0, 1) := by decide +kernel
theorem dX12_laySpan_84 : decode cX12_laySpan 84 = .ok (.getfield 147, 3) := by decide +kernel
theorem dX12_laySpan_87 : decode cX12_laySpan 87 = .ok (.iload 6, 2) := by decide +kernel
theorem dX12_laySpan_89 : decode cX12_laySpan 89 = .ok (.iaload, 1) := by decide +kernel
theorem dX12_laySpan_90 : decode cX12_laySpan 90 = .ok (.iload_n 3, 1) := by decide +kernel
theorem dX12_laySpan_91 : decode cX12_laySpan 91 = .ok (.if_icmp .le 7, 3) := by decide +kernel
theorem dX12_laySpan_94 : decode cX12_laySpan 94 = .ok (.iconst 1, 1) := by decide +kernel
theorem dX12_laySpan_95 : decode cX12_laySpan 95 = .ok (.goto 4, 3) := by decide +kernel
theorem dX12_laySpan_98 : decode cX12_laySpan 98 = .ok (.iconst 0, 1) := by decide +kernel
theorem dX12_laySpan_99 : decode cX12_laySpan 99 = .ok (.istore 7, 2) := by decide +kernel
theorem dX12_laySpan_101 : decode cX12_laySpan 101 = .ok (.aload_n 0, 1) := by decide +kernel
theorem dX12_laySpan_102 : decode cX12_laySpan 102 = .ok (.getfield 154, 3) := by decide +kernel
theorem dX12_laySpan_105 : decode cX12_laySpan 105 = .ok (.iload 5, 2) := by decide +kernel
theorem dX12_laySpan_107 : decode cX12_laySpan 107 = .ok (.iload 7, 2) := by decide +kernel
theorem dX12_laySpan_109 : decode cX12_laySpan 109 = .ok (.ifCond .eq 44, 3) := by decide +kernel
theorem dX12_laySpan_112 : decode cX12_laySpan 112 = .ok (.aload_n 0, 1) := by decide +kernel
theorem dX12_laySpan_113 : decode cX12_laySpan 113 = .ok (.iload_n 1, 1) := by decide +kernel
theorem dX12_laySpan_114 : decode cX12_laySpan 114 = .ok (.iconst 1, 1) := by decide +kernel
theorem dX12_laySpan_115 : decode cX12_laySpan 115 = .ok (.aload_n 0, 1) := by decide +kernel
theorem dX12_laySpan_116 : decode cX12_laySpan 116 = .ok (.getfield 135, 3) := by decide +kernel
theorem dX12_laySpan_119 : decode cX12_laySpan 119 = .ok (.iload 6, 2) := by decide +kernel
theorem dX12_laySpan_121 : decode cX12_laySpan 121 = .ok (.iaload, 1) := by decide +kernel
theorem dX12_laySpan_122 : decode cX12_laySpan 122 = .ok (.ishl, 1) := by decide +kernel
theorem dX12_laySpan_123 : decode cX12_laySpan 123 = .ok (.iconst 1, 1) := by decide +kernel
theorem dX12_laySpan_124 : decode cX12_laySpan 124 = .ok (.aload_n 0, 1) := by decide +kernel
theorem dX12_laySpan_125 : decode cX12_laySpan 125 = .ok (.getfield 138, 3) := by decide +kernel
theorem dX12_laySpan_128 : decode cX12_laySpan 128 = .ok (.iload 6, 2) := by decide +kernel
theorem dX12_laySpan_130 : decode cX12_laySpan 130 = .ok (.iaload, 1) := by decide +kernel
theorem dX12_laySpan_131 : decode cX12_laySpan 131 = .ok (.ishl, 1) := by decide +kernel
theorem dX12_laySpan_132 : decode cX12_laySpan 132 = .ok (.aload_n 0, 1) := by decide +kernel
theorem dX12_laySpan_133 : decode cX12_laySpan 133 = .ok (.getfield 141, 3) := by decide +kernel
theorem dX12_laySpan_136 : decode cX12_laySpan 136 = .ok (.iload 6, 2) := by decide +kernel
theorem dX12_laySpan_138 : decode cX12_laySpan 138 = .ok (.iaload, 1) := by decide +kernel
theorem dX12_laySpan_139 : decode cX12_laySpan 139 = .ok (.iconst 0, 1) := by decide +kernel
theorem dX12_laySpan_140 : decode cX12_laySpan 140 = .ok (.invokevirtual 517, 3) := by decide +kernel
theorem dX12_laySpan_143 : decode cX12_laySpan 143 = .ok (.aload_n 0, 1) := by decide +kernel
theorem dX12_laySpan_144 : decode cX12_laySpan 144 = .ok (.getfield 150, 3) := by decide +kernel
theorem dX12_laySpan_147 : decode cX12_laySpan 147 = .ok (.iload 6, 2) := by decide +kernel
theorem dX12_laySpan_149 : decode cX12_laySpan 149 = .ok (.baload, 1) := by decide +kernel
theorem dX12_laySpan_150 : decode cX12_laySpan 150 = .ok (.if_icmp .ne 7, 3) := by decide +kernel
theorem dX12_laySpan_153 : decode cX12_laySpan 153 = .ok (.iconst 1, 1) := by decide +kernel
theorem dX12_laySpan_154 : decode cX12_laySpan 154 = .ok (.goto 4, 3) := by decide +kernel
theorem dX12_laySpan_157 : decode cX12_laySpan 157 = .ok (.iconst 0, 1) := by decide +kernel
theorem dX12_laySpan_158 : decode cX12_laySpan 158 = .ok (.bastore, 1) := by decide +kernel
theorem dX12_laySpan_159 : decode cX12_laySpan 159 = .ok (.iinc 6 1, 3) := by decide +kernel
theorem dX12_laySpan_162 : decode cX12_laySpan 162 = .ok (.goto (-130), 3) := by decide +kernel
theorem dX12_laySpan_165 : decode cX12_laySpan 165 = .ok (.iload 4, 2) := by decide +kernel
theorem dX12_laySpan_167 : decode cX12_laySpan 167 = .ok (.aload_n 0, 1) := by decide +kernel
theorem dX12_laySpan_168 : decode cX12_laySpan 168 = .ok (.getfield 154, 3) := by decide +kernel
theorem dX12_laySpan_171 : decode cX12_laySpan 171 = .ok (.iload 5, 2) := by decide +kernel
theorem dX12_laySpan_173 : decode cX12_laySpan 173 = .ok (.baload, 1) := by decide +kernel
theorem dX12_laySpan_174 : decode cX12_laySpan 174 = .ok (.invokestatic 337, 3) := by decide +kernel
theorem dX12_laySpan_177 : decode cX12_laySpan 177 = .ok (.iadd, 1) := by decide +kernel
theorem dX12_laySpan_178 : decode cX12_laySpan 178 = .ok (.istore 4, 2) := by decide +kernel
theorem dX12_laySpan_180 : decode cX12_laySpan 180 = .ok (.iinc 5 1, 3) := by decide +kernel
theorem dX12_laySpan_183 : decode cX12_laySpan 183 = .ok (.goto (-177), 3) := by decide +kernel
theorem dX12_laySpan_186 : decode cX12_laySpan 186 = .ok (.aload_n 0, 1) := by decide +kernel
theorem dX12_laySpan_187 : decode cX12_laySpan 187 = .ok (.iconst (-1), 1) := by decide +kernel
theorem dX12_laySpan_188 : decode cX12_laySpan 188 = .ok (.iconst (-1), 1) := by decide +kernel
theorem dX12_laySpan_189 : decode cX12_laySpan 189 = .ok (.iconst 0, 1) := by decide +kernel
theorem dX12_laySpan_190 : decode cX12_laySpan 190 = .ok (.invokevirtual 618, 3) := by decide +kernel
theorem dX12_laySpan_193 : decode cX12_laySpan 193 = .ok (.iload 4, 2) := by decide +kernel
theorem dX12_laySpan_195 : decode cX12_laySpan 195 = .ok (.ireturn, 1) := by decide +kernel
theorem wm_X12_layOther : Cond.instanceMethod yX12_layOther ∈ TB ∧ Cond.selects yX12_layOther.cls yX12_layOther yX12_layOther ∈ TB ∧ Cond.initialized yX12_layOther.cls ∈ TB ∧ Cond.code yX12_layOther cX12_layOther 4 none ∈ TB ∧ (yX12_layOther.cls ≠ "java/lang/invoke/MethodHandle" ∧ yX12_layOther.cls ≠ "java/lang/invoke/VarHandle" ∧ (parseMethodDescriptor yX12_layOther.desc).map (fun d => d.parameters.length) = some 3) ∧ 4 ≤ 21 := ⟨tbm 2179 (by decide +kernel) (by decide +kernel), tbm 131 (by decide +kernel) (by decide +kernel), tbm 146 (by decide +kernel) (by decide +kernel), tbm 2180 (by decide +kernel) (by decide +kernel), by decide +kernel, by decide⟩
theorem wi_RX12_618 : Iv RX12 618 yX12_layOther cX12_layOther 4 none 3 := ⟨tbm 2177 (by decide +kernel) (by decide +kernel), wm_X12_layOther⟩
theorem wl_RX12_154 : Cond.fieldLink RX12 154 (TX12 88).1 (TX12 88).2.1 (TX12 88).2.2.1 ∈ TB := tbm 1503 (by decide +kernel) (by decide +kernel)
def mX12_laySpan_L32 (t : Nat) (x1 : Int32) (x2 : Int32) (x3 : Int32) (x4 : Int32) (x5 : Int32) (k165 : St_ → Option (Int32 × St_)) : Nat → Int32 → St_ → Option (Int32 × St_)
  | 0, _, _ => none
  | n + 1, x6, σ => (if (σ.1 t 86) ≤ x6 then
 (k165 σ)
 else (if bin x5 100 = true then if isB (σ.1 (t + 44) x5.toNatClampNeg) = true then bnd (σ.1 (t + 44) x5.toNatClampNeg == 1) fun v3 =>
 (if v3 = true then
 (if bin x6 30 = true then bnd (σ.1 (t + 37) x6.toNatClampNeg) fun v4 =>
 (bnd (fun (j5 : Bool) => (bnd (fun (j8 : Bool) (σ9 : St_) => (if bin x5 100 = true then bnd (sI σ9 (t + 44) x5.toNatClampNeg (b2i j8)) fun σ12 =>
 (mX12_laySpan_L32 t x1 x2 x3 x4 x5 k165 n (x6 + 1) σ12)
 else none)) fun k10 =>
 (bnd (fun (σ13 : St_) => (k10 true σ13)) fun k14 =>
 (if j5 = true then
 (if bin x6 30 = true then bnd (σ.1 (t + 38) x6.toNatClampNeg) fun v16 =>
 (if bin x6 30 = true then bnd (σ.1 (t + 39) x6.toNatClampNeg) fun v17 =>
 (if bin x6 30 = true then bnd (σ.1 (t + 40) x6.toNatClampNeg) fun v18 =>
 ((mX12_isLawful t x1 ((1 : Int32) <<< (v16 &&& 31)) ((1 : Int32) <<< (v17 &&& 31)) v18 (0 : Int32) σ).bind fun r19 =>
 (if bin x6 30 = true then if isB (r19.2.1 (t + 43) x6.toNatClampNeg) = true then bnd (r19.2.1 (t + 43) x6.toNatClampNeg == 1) fun v20 =>
 (if (b2i r19.1) = (b2i v20) then
 (k14 r19.2)
 else (k10 false r19.2))
 else none else none))
 else none)
 else none)
 else none)
 else (k14 σ))))) fun k6 =>
 (bnd (k6 false) fun k21 =>
 (if v4 = x1 then
 (if bin x6 30 = true then bnd (σ.1 (t + 41) x6.toNatClampNeg) fun v23 =>
 (if x3 < v23 then
 (k21)
 else (if bin x6 30 = true then bnd (σ.1 (t + 42) x6.toNatClampNeg) fun v24 =>
 (bnd (k6 true) fun k25 =>
 (if v24 < 0 then
 (k25)
 else (if bin x6 30 = true then bnd (σ.1 (t + 42) x6.toNatClampNeg) fun v27 =>
 (if v27 ≤ x3 then
 (k21)
 else (k25))
 else none)))
 else none))
 else none)
 else (k21))))
 else none)
 else (k165 σ))
 else none else none))
def mX12_laySpan_L6 (t : Nat) (x1 : Int32) (x2 : Int32) (x3 : Int32) (k186 : Int32 → St_ → Option (Int32 × St_)) : Nat → Int32 → Int32 → St_ → Option (Int32 × St_)
  | 0, _, _, _ => none
  | n + 1, x4, x5, σ => (if (99 : Int32) < x5 then
 (k186 x4 σ)
 else ((mX12_layOther t x1 x2 x5 σ).bind fun σ1 =>
 (if bin x5 100 = true then bnd (sI σ1 (t + 44) x5.toNatClampNeg (b2i true)) fun σ2 =>
 (mX12_laySpan_L32 t x1 x2 x3 x4 x5
 (fun (σ28 : St_) => (if bin x5 100 = true then if isB (σ28.1 (t + 44) x5.toNatClampNeg) = true then bnd (σ28.1 (t + 44) x5.toNatClampNeg == 1) fun v29 =>
 ((mX12_truth v29 σ28).bind fun r30 =>
 (bnd (x4 + r30) fun v31 =>
 (mX12_laySpan_L6 t x1 x2 x3 k186 n v31 (x5 + 1) σ28)))
 else none else none)) FU (0 : Int32) σ2)
 else none)))
def mX12_laySpan (t : Nat) (p1 : Int32) (p2 : Int32) (p3 : Int32) (σ : St_) : Option (Int32 × St_) :=
 (mX12_laySpan_L6 t p1 p2 p3
 (fun (y32 : Int32) (σ33 : St_) => ((mX12_layOther t (-1 : Int32) (-1 : Int32) (0 : Int32) σ33).bind fun σ34 =>
 (some (y32, σ34)))) FU (0 : Int32) (0 : Int32) σ)
set_option maxHeartbeats 4000000 in
theorem tmX12_laySpan_L32 (t : Nat) (hT : LY12 sh P t) (x1 : Int32) (x2 : Int32) (x3 : Int32) (x4 : Int32) (x5 : Int32) (k165 : St_ → Option (Int32 × St_)) (hk165 : ∀ (σ1 : St_), Tj l D cA h0 ad RX12 cX12_laySpan 8 (some .int) false 6 0 0 (fun b => (some (.int b.1), sh, P, b.2)) 0 0 sh P σ1 165 [(0, .ref (h0 + t)), (1, .int x1), (2, .int x2), (3, .int x3), (4, .int x4), (5, .int x5)] [] (k165 σ1)) : ∀ (n : Nat) (x6 : Int32) (σ : St_), Tj l D cA h0 ad RX12 cX12_laySpan 8 (some .int) false 6 0 0 (fun b => (some (.int b.1), sh, P, b.2)) 0 0 sh P σ 32 [(0, .ref (h0 + t)), (1, .int x1), (2, .int x2), (3, .int x3), (4, .int x4), (5, .int x5), (6, .int x6)] [] (mX12_laySpan_L32 t x1 x2 x3 x4 x5 k165 n x6 σ) := by
  intro n
  induction n with
  | zero => intros; exact tj_none
  | succ n ih =>
    intro x6 σ
    rw [mX12_laySpan_L32]
    refine tj_iload (q := 34) dX12_laySpan_32 rfl (pl := 6) rfl ?_
    refine tj_aload_n (q := 35) dX12_laySpan_34 rfl (i := 0) rfl (pl := 0) rfl ?_
    refine tj_getI (q := 38) (hT).s fok_12_86 wl_RX12_440 dX12_laySpan_35 rfl ?_
    refine tj_icmp_ge (tgt := 165) (q := 41) dX12_laySpan_38 (by decide) rfl ?_ ?_
    · refine tj_lv [0, 1, 2, 3, 4, 5] rfl ?_
      exact hk165 σ
    · refine tj_aload_n (q := 42) dX12_laySpan_41 rfl (i := 0) rfl (pl := 0) rfl ?_
      refine tj_getR (q := 45) (hT).s (hT).p_spans fok_12_88 wl_RX12_154 dX12_laySpan_42 rfl ?_
      refine tj_iload (q := 47) dX12_laySpan_45 rfl (pl := 5) rfl ?_
      refine tj_zaloadB (q := 48) (hT).s_spans dX12_laySpan_47 rfl (fun v3 => ?_)
      refine tj_bz (tgt := 165) (q := 51) dX12_laySpan_48 (by decide) rfl ?_ ?_
      · refine tj_aload_n (q := 52) dX12_laySpan_51 rfl (i := 0) rfl (pl := 0) rfl ?_
        refine tj_getR (q := 55) (hT).s (hT).p_repHouse fok_12_79 wl_RX12_132 dX12_laySpan_52 rfl ?_
        refine tj_iload (q := 57) dX12_laySpan_55 rfl (pl := 6) rfl ?_
        refine tj_iaload (q := 58) (hT).s_repHouse dX12_laySpan_57 rfl ?_
        refine tj_topI (fun v4 => ?_)
        refine tj_iload_n (q := 59) dX12_laySpan_58 rfl (i := 1) rfl (pl := 1) rfl ?_
        refine tj_bnd (fun k6 => ∀ (j5 : Bool), Tj l D cA h0 ad RX12 cX12_laySpan 8 (some .int) false 6 0 0 (fun b => (some (.int b.1), sh, P, b.2)) 0 0 sh P σ 99 [(0, .ref (h0 + t)), (1, .int x1), (2, .int x2), (3, .int x3), (4, .int x4), (5, .int x5), (6, .int x6)] [.int (b2i j5)] (k6 j5)) ?_ (fun k6 hk7 => ?_)
        · intro j5
          refine tj_istore (q := 101) dX12_laySpan_99 rfl (by decide) rfl ?_
          refine tj_aload_n (q := 102) dX12_laySpan_101 rfl (i := 0) rfl (pl := 1) rfl ?_
          refine tj_getR (q := 105) (hT).s (hT).p_spans fok_12_88 wl_RX12_154 dX12_laySpan_102 rfl ?_
          refine tj_iload (q := 107) dX12_laySpan_105 rfl (pl := 6) rfl ?_
          refine tj_iload (q := 109) dX12_laySpan_107 rfl (pl := 0) rfl ?_
          refine tj_bnd (fun k10 => ∀ (j8 : Bool) (σ9 : St_), Tj l D cA h0 ad RX12 cX12_laySpan 8 (some .int) false 6 0 0 (fun b => (some (.int b.1), sh, P, b.2)) 0 0 sh P σ9 158 [(0, .ref (h0 + t)), (1, .int x1), (2, .int x2), (3, .int x3), (4, .int x4), (5, .int x5), (6, .int x6)] [.int (b2i j8), .int x5, .ref (h0 + (t + 44))] (k10 j8 σ9)) ?_ (fun k10 hk11 => ?_)
          · intro j8 σ9
            refine tj_zastore (x := j8) (q := 159) (hT).s_spans dX12_laySpan_158 rfl (fun σ12 => ?_)
            refine tj_iinc (q := 162) (v := x6 + 1) dX12_laySpan_159 rfl (pl := 6) rfl rfl (by decide) rfl ?_
            refine tj_goto (q := 32) dX12_laySpan_162 (by decide) ?_
            refine tj_lv [1, 2, 3, 4, 5, 6, 0] rfl ?_
            exact ih (x6 + 1) σ12
          · refine tj_bnd (fun k14 => ∀ (σ13 : St_), Tj l D cA h0 ad RX12 cX12_laySpan 8 (some .int) false 6 0 0 (fun b => (some (.int b.1), sh, P, b.2)) 0 0 sh P σ13 153 [(0, .ref (h0 + t)), (1, .int x1), (2, .int x2), (3, .int x3), (4, .int x4), (5, .int x5), (6, .int x6)] [.int x5, .ref (h0 + (t + 44))] (k14 σ13)) ?_ (fun k14 hk15 => ?_)
            · intro σ13
              refine tj_iconst (q := 154) (v := 1) dX12_laySpan_153 rfl (by decide) ?_
              refine tj_goto (q := 158) dX12_laySpan_154 (by decide) ?_
              exact hk11 true σ13
            · refine tj_bz (tgt := 153) (q := 112) dX12_laySpan_109 (by decide) rfl ?_ ?_
              · refine tj_aload_n (q := 113) dX12_laySpan_112 rfl (i := 0) rfl (pl := 1) rfl ?_
                refine tj_iload_n (q := 114) dX12_laySpan_113 rfl (i := 1) rfl (pl := 2) rfl ?_
                refine tj_iconst (q := 115) (v := 1) dX12_laySpan_114 rfl (by decide) ?_
                refine tj_aload_n (q := 116) dX12_laySpan_115 rfl (i := 0) rfl (pl := 1) rfl ?_
                refine tj_getR (q := 119) (hT).s (hT).p_repTaken fok_12_80 wl_RX12_135 dX12_laySpan_116 rfl ?_
                refine tj_iload (q := 121) dX12_laySpan_119 rfl (pl := 7) rfl ?_
                refine tj_iaload (q := 122) (hT).s_repTaken dX12_laySpan_121 rfl ?_
                refine tj_topI (fun v16 => ?_)
                refine tj_ishl (q := 123) dX12_laySpan_122 rfl ?_
                refine tj_iconst (q := 124) (v := 1) dX12_laySpan_123 rfl (by decide) ?_
                refine tj_aload_n (q := 125) dX12_laySpan_124 rfl (i := 0) rfl (pl := 1) rfl ?_
                refine tj_getR (q := 128) (hT).s (hT).p_repLeft fok_12_81 wl_RX12_138 dX12_laySpan_125 rfl ?_
                refine tj_iload (q := 130) dX12_laySpan_128 rfl (pl := 7) rfl ?_
                refine tj_iaload (q := 131) (hT).s_repLeft dX12_laySpan_130 rfl ?_
                refine tj_topI (fun v17 => ?_)
                refine tj_ishl (q := 132) dX12_laySpan_131 rfl ?_
                refine tj_aload_n (q := 133) dX12_laySpan_132 rfl (i := 0) rfl (pl := 1) rfl ?_
                refine tj_getR (q := 136) (hT).s (hT).p_repHour fok_12_82 wl_RX12_141 dX12_laySpan_133 rfl ?_
                refine tj_iload (q := 138) dX12_laySpan_136 rfl (pl := 7) rfl ?_
                refine tj_iaload (q := 139) (hT).s_repHour dX12_laySpan_138 rfl ?_
                refine tj_topI (fun v18 => ?_)
                refine tj_iconst (q := 140) (v := 0) dX12_laySpan_139 rfl (by decide) ?_
                refine tj_callZ (q := 143) (kj_V (As := [.int x1, .int ((1 : Int32) <<< (v16 &&& 31)), .int ((1 : Int32) <<< (v17 &&& 31)), .int v18, .int (0 : Int32)]) (rest := [.int x5, .ref (h0 + (t + 44))]) (t := t) wi_RX12_517 (hT).s rfl (rX12_isLawful t x1 ((1 : Int32) <<< (v16 &&& 31)) ((1 : Int32) <<< (v17 &&& 31)) v18 (0 : Int32) (hT)) rfl (Nat.le_of_ble_eq_true rfl) ⟨Nat.le_of_ble_eq_true rfl, Nat.le_of_ble_eq_true rfl⟩ (Nat.le_of_ble_eq_true rfl) dX12_laySpan_140) rfl (fun r19 => ?_)
                refine tj_aload_n (q := 144) dX12_laySpan_143 rfl (i := 0) rfl (pl := 1) rfl ?_
                refine tj_getR (q := 147) (hT).s (hT).p_repLawful fok_12_85 wl_RX12_150 dX12_laySpan_144 rfl ?_
                refine tj_iload (q := 149) dX12_laySpan_147 rfl (pl := 7) rfl ?_
                refine tj_zaloadB (q := 150) (hT).s_repLawful dX12_laySpan_149 rfl (fun v20 => ?_)
                refine tj_icmp_ne (tgt := 157) (q := 153) dX12_laySpan_150 (by decide) rfl ?_ ?_
                · refine tj_lv [1, 2, 3, 4, 5, 6, 7] rfl ?_
                  exact hk15 r19.2
                · refine tj_iconst (q := 158) (v := 0) dX12_laySpan_157 rfl (by decide) ?_
                  refine tj_lv [1, 2, 3, 4, 5, 6, 7] rfl ?_
                  exact hk11 false r19.2
              · refine tj_lv [1, 2, 3, 4, 5, 6, 7] rfl ?_
                exact hk15 σ
        · refine tj_bnd (fun k21 => Tj l D cA h0 ad RX12 cX12_laySpan 8 (some .int) false 6 0 0 (fun b => (some (.int b.1), sh, P, b.2)) 0 0 sh P σ 98 [(0, .ref (h0 + t)), (1, .int x1), (2, .int x2), (3, .int x3), (4, .int x4), (5, .int x5), (6, .int x6)] [] k21) ?_ (fun k21 hk22 => ?_)
          · refine tj_iconst (q := 99) (v := 0) dX12_laySpan_98 rfl (by decide) ?_
            exact hk7 false
          · refine tj_icmp_ne (tgt := 98) (q := 62) dX12_laySpan_59 (by decide) rfl ?_ ?_
            · refine tj_aload_n (q := 63) dX12_laySpan_62 rfl (i := 0) rfl (pl := 0) rfl ?_
              refine tj_getR (q := 66) (hT).s (hT).p_repTold fok_12_83 wl_RX12_144 dX12_laySpan_63 rfl ?_
              refine tj_iload (q := 68) dX12_laySpan_66 rfl (pl := 6) rfl ?_
              refine tj_iaload (q := 69) (hT).s_repTold dX12_laySpan_68 rfl ?_
              refine tj_topI (fun v23 => ?_)
              refine tj_iload_n (q := 70) dX12_laySpan_69 rfl (i := 3) rfl (pl := 3) rfl ?_
              refine tj_icmp_gt (tgt := 98) (q := 73) dX12_laySpan_70 (by decide) rfl ?_ ?_
              · exact hk22
              · refine tj_aload_n (q := 74) dX12_laySpan_73 rfl (i := 0) rfl (pl := 0) rfl ?_
                refine tj_getR (q := 77) (hT).s (hT).p_repUntold fok_12_84 wl_RX12_147 dX12_laySpan_74 rfl ?_
                refine tj_iload (q := 79) dX12_laySpan_77 rfl (pl := 6) rfl ?_
                refine tj_iaload (q := 80) (hT).s_repUntold dX12_laySpan_79 rfl ?_
                refine tj_topI (fun v24 => ?_)
                refine tj_bnd (fun k25 => Tj l D cA h0 ad RX12 cX12_laySpan 8 (some .int) false 6 0 0 (fun b => (some (.int b.1), sh, P, b.2)) 0 0 sh P σ 94 [(0, .ref (h0 + t)), (1, .int x1), (2, .int x2), (3, .int x3), (4, .int x4), (5, .int x5), (6, .int x6)] [] k25) ?_ (fun k25 hk26 => ?_)
                · refine tj_iconst (q := 95) (v := 1) dX12_laySpan_94 rfl (by decide) ?_
                  refine tj_goto (q := 99) dX12_laySpan_95 (by decide) ?_
                  exact hk7 true
                · refine tj_if_lt (tgt := 94) (q := 83) dX12_laySpan_80 (by decide) rfl ?_ ?_
                  · exact hk26
                  · refine tj_aload_n (q := 84) dX12_laySpan_83 rfl (i := 0) rfl (pl := 0) rfl ?_
                    refine tj_getR (q := 87) (hT).s (hT).p_repUntold fok_12_84 wl_RX12_147 dX12_laySpan_84 rfl ?_
                    refine tj_iload (q := 89) dX12_laySpan_87 rfl (pl := 6) rfl ?_
                    refine tj_iaload (q := 90) (hT).s_repUntold dX12_laySpan_89 rfl ?_
                    refine tj_topI (fun v27 => ?_)
                    refine tj_iload_n (q := 91) dX12_laySpan_90 rfl (i := 3) rfl (pl := 3) rfl ?_
                    refine tj_icmp_le (tgt := 98) (q := 94) dX12_laySpan_91 (by decide) rfl ?_ ?_
                    · exact hk22
                    · exact hk26
            · exact hk22
      · refine tj_lv [0, 1, 2, 3, 4, 5] rfl ?_
        exact hk165 σ

set_option maxHeartbeats 4000000 in
theorem tmX12_laySpan_L6 (t : Nat) (hT : LY12 sh P t) (x1 : Int32) (x2 : Int32) (x3 : Int32) (k186 : Int32 → St_ → Option (Int32 × St_)) (hk186 : ∀ (y4 : Int32) (σ1 : St_), Tj l D cA h0 ad RX12 cX12_laySpan 8 (some .int) false 6 0 0 (fun b => (some (.int b.1), sh, P, b.2)) 0 0 sh P σ1 186 [(0, .ref (h0 + t)), (4, .int y4)] [] (k186 y4 σ1)) : ∀ (n : Nat) (x4 : Int32) (x5 : Int32) (σ : St_), Tj l D cA h0 ad RX12 cX12_laySpan 8 (some .int) false 6 0 0 (fun b => (some (.int b.1), sh, P, b.2)) 0 0 sh P σ 6 [(0, .ref (h0 + t)), (1, .int x1), (2, .int x2), (3, .int x3), (4, .int x4), (5, .int x5)] [] (mX12_laySpan_L6 t x1 x2 x3 k186 n x4 x5 σ) := by
  intro n
  induction n with
  | zero => intros; exact tj_none
  | succ n ih =>
    intro x4 x5 σ
    rw [mX12_laySpan_L6]
    refine tj_iload (q := 8) dX12_laySpan_6 rfl (pl := 5) rfl ?_
    refine tj_bipush (q := 10) (v := 99) dX12_laySpan_8 rfl (by decide) ?_
    refine tj_icmp_gt (tgt := 186) (q := 13) dX12_laySpan_10 (by decide) rfl ?_ ?_
    · refine tj_lv [0, 4] rfl ?_
      exact hk186 x4 σ
    · refine tj_aload_n (q := 14) dX12_laySpan_13 rfl (i := 0) rfl (pl := 0) rfl ?_
      refine tj_iload_n (q := 15) dX12_laySpan_14 rfl (i := 1) rfl (pl := 1) rfl ?_
      refine tj_iload_n (q := 16) dX12_laySpan_15 rfl (i := 2) rfl (pl := 2) rfl ?_
      refine tj_iload (q := 18) dX12_laySpan_16 rfl (pl := 5) rfl ?_
      refine tj_callV (q := 21) (kj_V (As := [.int x1, .int x2, .int x5]) (rest := []) (t := t) wi_RX12_618 (hT).s rfl (rX12_layOther t x1 x2 x5 (hT)) rfl (Nat.le_of_ble_eq_true rfl) ⟨Nat.le_of_ble_eq_true rfl, Nat.le_of_ble_eq_true rfl⟩ (Nat.le_of_ble_eq_true rfl) dX12_laySpan_18) rfl (fun σ1 => ?_)
      refine tj_aload_n (q := 22) dX12_laySpan_21 rfl (i := 0) rfl (pl := 0) rfl ?_
      refine tj_getR (q := 25) (hT).s (hT).p_spans fok_12_88 wl_RX12_154 dX12_laySpan_22 rfl ?_
      refine tj_iload (q := 27) dX12_laySpan_25 rfl (pl := 5) rfl ?_
      refine tj_iconst (q := 28) (v := 1) dX12_laySpan_27 rfl (by decide) ?_
      refine tj_zastore (x := true) (q := 29) (hT).s_spans dX12_laySpan_28 rfl (fun σ2 => ?_)
      refine tj_iconst (q := 30) (v := 0) dX12_laySpan_29 rfl (by decide) ?_
      refine tj_istore (q := 32) dX12_laySpan_30 rfl (by decide) rfl ?_
      refine tj_lv [1, 2, 3, 4, 5, 6, 0] rfl ?_
      refine tmX12_laySpan_L32 t hT x1 x2 x3 x4 x5 _ ?_ FU (0 : Int32) σ2
      · intro σ28
        refine tj_iload (q := 167) dX12_laySpan_165 rfl (pl := 4) rfl ?_
        refine tj_aload_n (q := 168) dX12_laySpan_167 rfl (i := 0) rfl (pl := 0) rfl ?_
        refine tj_getR (q := 171) (hT).s (hT).p_spans fok_12_88 wl_RX12_154 dX12_laySpan_168 rfl ?_
        refine tj_iload (q := 173) dX12_laySpan_171 rfl (pl := 5) rfl ?_
        refine tj_zaloadB (q := 174) (hT).s_spans dX12_laySpan_173 rfl (fun v29 => ?_)
        refine tj_callIp (q := 177) (kj_S (As := [.int (b2i v29)]) (rest := [.int x4]) wi_RX12_337 (rX12_truth v29) rfl (Nat.le_of_ble_eq_true rfl) ⟨Nat.le_of_ble_eq_true rfl, Nat.le_of_ble_eq_true rfl⟩ (Nat.le_of_ble_eq_true rfl) dX12_laySpan_174) rfl (fun r30 => ?_)
        refine tj_iadd (q := 178) dX12_laySpan_177 rfl ?_
        refine tj_topI (fun v31 => ?_)
        refine tj_istore (q := 180) dX12_laySpan_178 rfl (by decide) rfl ?_
        refine tj_iinc (q := 183) (v := x5 + 1) dX12_laySpan_180 rfl (pl := 5) rfl rfl (by decide) rfl ?_
        refine tj_goto (q := 6) dX12_laySpan_183 (by decide) ?_
        refine tj_lv [2, 3, 4, 5, 1, 0] rfl ?_
        exact ih v31 (x5 + 1) σ28

set_option maxHeartbeats 4000000 in
theorem rX12_laySpan (t : Nat) (p1 : Int32) (p2 : Int32) (p3 : Int32) (hT : LY12 sh P t) : Rj l D cA h0 ad yX12_laySpan cX12_laySpan 8 (some .int) false 6 0 0 (fun b => (some (.int b.1), sh, P, b.2)) [.ref (h0 + t), .int p1, .int p2, .int p3] sh P σ (mX12_laySpan t p1 p2 p3 σ) := by
  rw [mX12_laySpan]
  refine Rj.of (by decide) (fun h => by cases h) (Nat.le_of_ble_eq_true rfl) ?_
  refine tj_lv0 (lv' := [(0, .ref (h0 + t)), (1, .int p1), (2, .int p2), (3, .int p3)]) rfl ?_
  refine tj_iconst (q := 1) (v := 0) dX12_laySpan_0 rfl (by decide) ?_
  refine tj_istore (q := 3) dX12_laySpan_1 rfl (by decide) rfl ?_
  refine tj_iconst (q := 4) (v := 0) dX12_laySpan_3 rfl (by decide) ?_
  refine tj_istore (q := 6) dX12_laySpan_4 rfl (by decide) rfl ?_
  refine tj_lv [2, 3, 4, 5, 1, 0] rfl ?_
  refine tmX12_laySpan_L6 t hT p1 p2 p3 _ ?_ FU (0 : Int32) (0 : Int32) σ
  · intro y32 σ33
    refine tj_aload_n (q := 187) dX12_laySpan_186 rfl (i := 0) rfl (pl := 0) rfl ?_
    refine tj_iconst (q := 188) (v := (-1)) dX12_laySpan_187 rfl (by decide) ?_
    refine tj_iconst (q := 189) (v := (-1)) dX12_laySpan_188 rfl (by decide) ?_
    refine tj_iconst (q := 190) (v := 0) dX12_laySpan_189 rfl (by decide) ?_
    refine tj_callV (q := 193) (kj_V (As := [.int (-1 : Int32), .int (-1 : Int32), .int (0 : Int32)]) (rest := []) (t := t) wi_RX12_618 (hT).s rfl (rX12_layOther t (-1 : Int32) (-1 : Int32) (0 : Int32) (hT)) rfl (Nat.le_of_ble_eq_true rfl) ⟨Nat.le_of_ble_eq_true rfl, Nat.le_of_ble_eq_true rfl⟩ (Nat.le_of_ble_eq_true rfl) dX12_laySpan_190) rfl (fun σ34 => ?_)
    refine tj_iload (q := 195) dX12_laySpan_193 rfl (pl := 1) rfl ?_
    exact tj_iret rfl rfl (Nat.le_of_ble_eq_true rfl) (Nat.le_of_ble_eq_true rfl) dX12_laySpan_195

theorem dX12_span_0 : decode cX12_span 0 = .ok (.aload_n 0, 1) := by decide +kernel
theorem dX12_span_1 : decode cX12_span 1 = .ok (.iload_n 1, 1) := by decide +kernel
theorem dX12_span_2 : decode cX12_span 2 = .ok (.invokevirtual 453, 3) := by decide +kernel
theorem dX12_span_5 : decode cX12_span 5 = .ok (.ifCond .eq 20, 3) := by decide +kernel
theorem dX12_span_8 : decode cX12_span 8 = .ok (.aload_n 0, 1) := by decide +kernel
theorem dX12_span_9 : decode cX12_span 9 = .ok (.iload_n 2, 1) := by decide +kernel
theorem dX12_span_10 : decode cX12_span 10 = .ok (.invokevirtual 490, 3) := by decide +kernel
theorem dX12_span_13 : decode cX12_span 13 = .ok (.ifCond .eq 12, 3) := by decide +kernel
theorem dX12_span_16 : decode cX12_span 16 = .ok (.iload_n 3, 1) := by decide +kernel
theorem dX12_span_17 : decode cX12_span 17 = .ok (.iconst 0, 1) := by decide +kernel
theorem dX12_span_18 : decode cX12_span 18 = .ok (.iconst 2, 1) := by decide +kernel
theorem dX12_span_19 : decode cX12_span 19 = .ok (.invokestatic 446, 3) := by decide +kernel
theorem dX12_span_22 : decode cX12_span 22 = .ok (.ifCond .ne 6, 3) := by decide +kernel
theorem dX12_span_25 : decode cX12_span 25 = .ok (.bipush (-2), 2) := by decide +kernel
theorem dX12_span_27 : decode cX12_span 27 = .ok (.ireturn, 1) := by decide +kernel
theorem dX12_span_28 : decode cX12_span 28 = .ok (.aload_n 0, 1) := by decide +kernel
theorem dX12_span_29 : decode cX12_span 29 = .ok (.iload_n 1, 1) := by decide +kernel
theorem dX12_span_30 : decode cX12_span 30 = .ok (.iload_n 2, 1) := by decide +kernel
theorem dX12_span_31 : decode cX12_span 31 = .ok (.iload 4, 2) := by decide +kernel
theorem dX12_span_33 : decode cX12_span 33 = .ok (.invokevirtual 622, 3) := by decide +kernel
theorem dX12_span_36 : decode cX12_span 36 = .ok (.istore 5, 2) := by decide +kernel
theorem dX12_span_38 : decode cX12_span 38 = .ok (.iconst (-1), 1) := by decide +kernel
theorem dX12_span_39 : decode cX12_span 39 = .ok (.istore 6, 2) := by decide +kernel
theorem dX12_span_41 : decode cX12_span 41 = .ok (.iconst (-1), 1) := by decide +kernel
theorem dX12_span_42 : decode cX12_span 42 = .ok (.istore 7, 2) := by decide +kernel
theorem dX12_span_44 : decode cX12_span 44 = .ok (.iconst 0, 1) := by decide +kernel
theorem dX12_span_45 : decode cX12_span 45 = .ok (.istore 8, 2) := by decide +kernel
theorem dX12_span_47 : decode cX12_span 47 = .ok (.iload 8, 2) := by decide +kernel
theorem dX12_span_49 : decode cX12_span 49 = .ok (.bipush 99, 2) := by decide +kernel
theorem dX12_span_51 : decode cX12_span 51 = .ok (.if_icmp .gt 40, 3) := by decide +kernel
theorem dX12_span_54 : decode cX12_span 54 = .ok (.aload_n 0, 1) := by decide +kernel
theorem dX12_span_55 : decode cX12_span 55 = .ok (.getfield 154, 3) := by decide +kernel
theorem dX12_span_58 : decode cX12_span 58 = .ok (.iload 8, 2) := by decide +kernel
theorem dX12_span_60 : decode cX12_span 60 = .ok (.baload, 1) := by decide +kernel
theorem dX12_span_61 : decode cX12_span 61 = .ok (.ifCond .ne 6, 3) := by decide +kernel
theorem dX12_span_64 : decode cX12_span 64 = .ok (.goto 21, 3) := by decide +kernel
theorem dX12_span_67 : decode cX12_span 67 = .ok (.iload 6, 2) := by decide +kernel
theorem dX12_span_69 : decode cX12_span 69 = .ok (.ifCond .ge 8, 3) := by decide +kernel
theorem dX12_span_72 : decode cX12_span 72 = .ok (.iload 8, 2) := by decide +kernel
theorem dX12_span_74 : decode cX12_span 74 = .ok (.goto 5, 3) := by decide +kernel
theorem dX12_span_77 : decode cX12_span 77 = .ok (.iload 6, 2) := by decide +kernel
theorem dX12_span_79 : decode cX12_span 79 = .ok (.istore 6, 2) := by decide +kernel
theorem dX12_span_81 : decode cX12_span 81 = .ok (.iload 8, 2) := by decide +kernel
theorem dX12_span_83 : decode cX12_span 83 = .ok (.istore 7, 2) := by decide +kernel
theorem dX12_span_85 : decode cX12_span 85 = .ok (.iinc 8 1, 3) := by decide +kernel
theorem dX12_span_88 : decode cX12_span 88 = .ok (.goto (-41), 3) := by decide +kernel
theorem dX12_span_91 : decode cX12_span 91 = .ok (.iload_n 3, 1) := by decide +kernel
theorem dX12_span_92 : decode cX12_span 92 = .ok (.ifCond .ne 8, 3) := by decide +kernel
theorem dX12_span_95 : decode cX12_span 95 = .ok (.iload 5, 2) := by decide +kernel
theorem dX12_span_97 : decode cX12_span 97 = .ok (.goto 15, 3) := by decide +kernel
theorem dX12_span_100 : decode cX12_span 100 = .ok (.iload_n 3, 1) := by decide +kernel
theorem dX12_span_101 : decode cX12_span 101 = .ok (.iconst 1, 1) := by decide +kernel
theorem dX12_span_102 : decode cX12_span 102 = .ok (.if_icmp .ne 8, 3) := by decide +kernel
theorem dX12_span_105 : decode cX12_span 105 = .ok (.iload 6, 2) := by decide +kernel
theorem dX12_span_107 : decode cX12_span 107 = .ok (.goto 5, 3) := by decide +kernel
theorem dX12_span_110 : decode cX12_span 110 = .ok (.iload 7, 2) := by decide +kernel
theorem dX12_span_112 : decode cX12_span 112 = .ok (.ireturn, 1) := by decide +kernel
theorem wm_X12_laySpan : Cond.instanceMethod yX12_laySpan ∈ TB ∧ Cond.selects yX12_laySpan.cls yX12_laySpan yX12_laySpan ∈ TB ∧ Cond.initialized yX12_laySpan.cls ∈ TB ∧ Cond.code yX12_laySpan cX12_laySpan 8 (some .int) ∈ TB ∧ (yX12_laySpan.cls ≠ "java/lang/invoke/MethodHandle" ∧ yX12_laySpan.cls ≠ "java/lang/invoke/VarHandle" ∧ (parseMethodDescriptor yX12_laySpan.desc).map (fun d => d.parameters.length) = some 3) ∧ 8 ≤ 21 := ⟨tbm 2175 (by decide +kernel) (by decide +kernel), tbm 130 (by decide +kernel) (by decide +kernel), tbm 146 (by decide +kernel) (by decide +kernel), tbm 2176 (by decide +kernel) (by decide +kernel), by decide +kernel, by decide⟩
theorem wi_RX12_622 : Iv RX12 622 yX12_laySpan cX12_laySpan 8 (some .int) 3 := ⟨tbm 2173 (by decide +kernel) (by decide +kernel), wm_X12_laySpan⟩
def mX12_span_L47 (t : Nat) (σ : St_) (x3 : Int32) (x5 : Int32) (k91 : Int32 → Int32 → Option (Int32 × St_)) : Nat → Int32 → Int32 → Int32 → Option (Int32 × St_)
  | 0, _, _, _ => none
  | n + 1, x6, x7, x8 => (if (99 : Int32) < x8 then
 (k91 x6 x7)
 else (if bin x8 100 = true then if isB (σ.1 (t + 44) x8.toNatClampNeg) = true then bnd (σ.1 (t + 44) x8.toNatClampNeg == 1) fun v5 =>
 (bnd (fun (j6 : Int32) (j7 : Int32) => (mX12_span_L47 t σ x3 x5 k91 n j6 j7 (x8 + 1))) fun k8 =>
 (if v5 = true then
 (bnd (fun (j10 : Int32) => (k8 j10 x8)) fun k11 =>
 (if 0 ≤ x6 then
 (k11 x6)
 else (k11 x8)))
 else (k8 x6 x7)))
 else none else none))
def mX12_span (t : Nat) (p1 : Int32) (p2 : Int32) (p3 : Int32) (p4 : Int32) (σ : St_) : Option (Int32 × St_) :=
 ((mX12_isHouse t p1 σ).bind fun r1 =>
 (if r1 = true then
 ((mX12_isThing t p2 σ).bind fun r2 =>
 (if r2 = true then
 ((mX12_isIn p3 (0 : Int32) (2 : Int32) σ).bind fun r3 =>
 (if r3 = true then
 ((mX12_laySpan t p1 p2 p4 σ).bind fun r4 =>
 (mX12_span_L47 t r4.2 p3 r4.1
 (fun (y13 : Int32) (y14 : Int32) => (if p3 = 0 then
 (some (r4.1, r4.2))
 else (if p3 = (1 : Int32) then
 (some (y13, r4.2))
 else (some (y14, r4.2))))) FU (-1 : Int32) (-1 : Int32) (0 : Int32)))
 else (some ((-2 : Int32), σ))))
 else (some ((-2 : Int32), σ))))
 else (some ((-2 : Int32), σ))))
set_option maxHeartbeats 4000000 in
theorem tmX12_span_L47 (σ : St_) (t : Nat) (hT : LY12 sh P t) (x3 : Int32) (x5 : Int32) (k91 : Int32 → Int32 → Option (Int32 × St_)) (hk91 : ∀ (y6 : Int32) (y7 : Int32), Tj l D cA h0 ad RX12 cX12_span 9 (some .int) false 7 0 0 (fun b => (some (.int b.1), sh, P, b.2)) 0 0 sh P σ 91 [(3, .int x3), (5, .int x5), (6, .int y6), (7, .int y7)] [] (k91 y6 y7)) : ∀ (n : Nat) (x6 : Int32) (x7 : Int32) (x8 : Int32), Tj l D cA h0 ad RX12 cX12_span 9 (some .int) false 7 0 0 (fun b => (some (.int b.1), sh, P, b.2)) 0 0 sh P σ 47 [(0, .ref (h0 + t)), (3, .int x3), (5, .int x5), (6, .int x6), (7, .int x7), (8, .int x8)] [] (mX12_span_L47 t σ x3 x5 k91 n x6 x7 x8) := by
  intro n
  induction n with
  | zero => intros; exact tj_none
  | succ n ih =>
    intro x6 x7 x8
    rw [mX12_span_L47]
    refine tj_iload (q := 49) dX12_span_47 rfl (pl := 5) rfl ?_
    refine tj_bipush (q := 51) (v := 99) dX12_span_49 rfl (by decide) ?_
    refine tj_icmp_gt (tgt := 91) (q := 54) dX12_span_51 (by decide) rfl ?_ ?_
    · refine tj_lv [1, 2, 3, 4] rfl ?_
      exact hk91 x6 x7
    · refine tj_aload_n (q := 55) dX12_span_54 rfl (i := 0) rfl (pl := 0) rfl ?_
      refine tj_getR (q := 58) (hT).s (hT).p_spans fok_12_88 wl_RX12_154 dX12_span_55 rfl ?_
      refine tj_iload (q := 60) dX12_span_58 rfl (pl := 5) rfl ?_
      refine tj_zaloadB (q := 61) (hT).s_spans dX12_span_60 rfl (fun v5 => ?_)
      refine tj_bnd (fun k8 => ∀ (j6 : Int32) (j7 : Int32), Tj l D cA h0 ad RX12 cX12_span 9 (some .int) false 7 0 0 (fun b => (some (.int b.1), sh, P, b.2)) 0 0 sh P σ 85 [(0, .ref (h0 + t)), (3, .int x3), (5, .int x5), (6, .int j6), (7, .int j7), (8, .int x8)] [] (k8 j6 j7)) ?_ (fun k8 hk9 => ?_)
      · intro j6 j7
        refine tj_iinc (q := 88) (v := x8 + 1) dX12_span_85 rfl (pl := 5) rfl rfl (by decide) rfl ?_
        refine tj_goto (q := 47) dX12_span_88 (by decide) ?_
        refine tj_lv [1, 2, 3, 4, 5, 0] rfl ?_
        exact ih j6 j7 (x8 + 1)
      · refine tj_bnz (tgt := 67) (q := 64) dX12_span_61 (by decide) rfl ?_ ?_
        · refine tj_iload (q := 69) dX12_span_67 rfl (pl := 3) rfl ?_
          refine tj_bnd (fun k11 => ∀ (j10 : Int32), Tj l D cA h0 ad RX12 cX12_span 9 (some .int) false 7 0 0 (fun b => (some (.int b.1), sh, P, b.2)) 0 0 sh P σ 79 [(0, .ref (h0 + t)), (3, .int x3), (5, .int x5), (8, .int x8)] [.int j10] (k11 j10)) ?_ (fun k11 hk12 => ?_)
          · intro j10
            refine tj_istore (q := 81) dX12_span_79 rfl (by decide) rfl ?_
            refine tj_iload (q := 83) dX12_span_81 rfl (pl := 4) rfl ?_
            refine tj_istore (q := 85) dX12_span_83 rfl (by decide) rfl ?_
            refine tj_lv [2, 3, 4, 1, 0, 5] rfl ?_
            exact hk9 j10 x8
          · refine tj_if_ge (tgt := 77) (q := 72) dX12_span_69 (by decide) rfl ?_ ?_
            · refine tj_iload (q := 79) dX12_span_77 rfl (pl := 3) rfl ?_
              refine tj_lv [0, 1, 2, 5] rfl ?_
              exact hk12 x6
            · refine tj_iload (q := 74) dX12_span_72 rfl (pl := 5) rfl ?_
              refine tj_goto (q := 79) dX12_span_74 (by decide) ?_
              refine tj_lv [0, 1, 2, 5] rfl ?_
              exact hk12 x8
        · refine tj_goto (q := 85) dX12_span_64 (by decide) ?_
          exact hk9 x6 x7

set_option maxHeartbeats 4000000 in
theorem rX12_span (t : Nat) (p1 : Int32) (p2 : Int32) (p3 : Int32) (p4 : Int32) (hT : LY12 sh P t) : Rj l D cA h0 ad yX12_span cX12_span 9 (some .int) false 7 0 0 (fun b => (some (.int b.1), sh, P, b.2)) [.ref (h0 + t), .int p1, .int p2, .int p3, .int p4] sh P σ (mX12_span t p1 p2 p3 p4 σ) := by
  rw [mX12_span]
  refine Rj.of (by decide) (fun h => by cases h) (Nat.le_of_ble_eq_true rfl) ?_
  refine tj_lv0 (lv' := [(0, .ref (h0 + t)), (1, .int p1), (2, .int p2), (3, .int p3), (4, .int p4)]) rfl ?_
  refine tj_aload_n (q := 1) dX12_span_0 rfl (i := 0) rfl (pl := 0) rfl ?_
  refine tj_iload_n (q := 2) dX12_span_1 rfl (i := 1) rfl (pl := 1) rfl ?_
  refine tj_callZp (q := 5) (kj_V (As := [.int p1]) (rest := []) (t := t) wi_RX12_453 (hT).s rfl (rX12_isHouse t p1 (hT)) rfl (Nat.le_of_ble_eq_true rfl) ⟨Nat.le_of_ble_eq_true rfl, Nat.le_of_ble_eq_true rfl⟩ (Nat.le_of_ble_eq_true rfl) dX12_span_2) rfl (fun r1 => ?_)
  refine tj_bz (tgt := 25) (q := 8) dX12_span_5 (by decide) rfl ?_ ?_
  · refine tj_aload_n (q := 9) dX12_span_8 rfl (i := 0) rfl (pl := 0) rfl ?_
    refine tj_iload_n (q := 10) dX12_span_9 rfl (i := 2) rfl (pl := 2) rfl ?_
    refine tj_callZp (q := 13) (kj_V (As := [.int p2]) (rest := []) (t := t) wi_RX12_490 (hT).s rfl (rX12_isThing t p2 (hT)) rfl (Nat.le_of_ble_eq_true rfl) ⟨Nat.le_of_ble_eq_true rfl, Nat.le_of_ble_eq_true rfl⟩ (Nat.le_of_ble_eq_true rfl) dX12_span_10) rfl (fun r2 => ?_)
    refine tj_bz (tgt := 25) (q := 16) dX12_span_13 (by decide) rfl ?_ ?_
    · refine tj_iload_n (q := 17) dX12_span_16 rfl (i := 3) rfl (pl := 3) rfl ?_
      refine tj_iconst (q := 18) (v := 0) dX12_span_17 rfl (by decide) ?_
      refine tj_iconst (q := 19) (v := 2) dX12_span_18 rfl (by decide) ?_
      refine tj_callZp (q := 22) (kj_S (As := [.int p3, .int (0 : Int32), .int (2 : Int32)]) (rest := []) wi_RX12_446 (rX12_isIn p3 (0 : Int32) (2 : Int32)) rfl (Nat.le_of_ble_eq_true rfl) ⟨Nat.le_of_ble_eq_true rfl, Nat.le_of_ble_eq_true rfl⟩ (Nat.le_of_ble_eq_true rfl) dX12_span_19) rfl (fun r3 => ?_)
      refine tj_bnz (tgt := 28) (q := 25) dX12_span_22 (by decide) rfl ?_ ?_
      · refine tj_aload_n (q := 29) dX12_span_28 rfl (i := 0) rfl (pl := 0) rfl ?_
        refine tj_iload_n (q := 30) dX12_span_29 rfl (i := 1) rfl (pl := 1) rfl ?_
        refine tj_iload_n (q := 31) dX12_span_30 rfl (i := 2) rfl (pl := 2) rfl ?_
        refine tj_iload (q := 33) dX12_span_31 rfl (pl := 4) rfl ?_
        refine tj_callI (q := 36) (kj_V (As := [.int p1, .int p2, .int p4]) (rest := []) (t := t) wi_RX12_622 (hT).s rfl (rX12_laySpan t p1 p2 p4 (hT)) rfl (Nat.le_of_ble_eq_true rfl) ⟨Nat.le_of_ble_eq_true rfl, Nat.le_of_ble_eq_true rfl⟩ (Nat.le_of_ble_eq_true rfl) dX12_span_33) rfl (fun r4 => ?_)
        refine tj_istore (q := 38) dX12_span_36 rfl (by decide) rfl ?_
        refine tj_iconst (q := 39) (v := (-1)) dX12_span_38 rfl (by decide) ?_
        refine tj_istore (q := 41) dX12_span_39 rfl (by decide) rfl ?_
        refine tj_iconst (q := 42) (v := (-1)) dX12_span_41 rfl (by decide) ?_
        refine tj_istore (q := 44) dX12_span_42 rfl (by decide) rfl ?_
        refine tj_iconst (q := 45) (v := 0) dX12_span_44 rfl (by decide) ?_
        refine tj_istore (q := 47) dX12_span_45 rfl (by decide) rfl ?_
        refine tj_lv [4, 7, 3, 2, 1, 0] rfl ?_
        refine tmX12_span_L47 r4.2 t hT p3 r4.1 _ ?_ FU (-1 : Int32) (-1 : Int32) (0 : Int32)
        · intro y13 y14
          refine tj_iload_n (q := 92) dX12_span_91 rfl (i := 3) rfl (pl := 0) rfl ?_
          refine tj_if_ne (tgt := 100) (q := 95) dX12_span_92 (by decide) rfl ?_ ?_
          · refine tj_iload (q := 97) dX12_span_95 rfl (pl := 1) rfl ?_
            refine tj_goto (q := 112) dX12_span_97 (by decide) ?_
            exact tj_iret rfl rfl (Nat.le_of_ble_eq_true rfl) (Nat.le_of_ble_eq_true rfl) dX12_span_112
          · refine tj_iload_n (q := 101) dX12_span_100 rfl (i := 3) rfl (pl := 0) rfl ?_
            refine tj_iconst (q := 102) (v := 1) dX12_span_101 rfl (by decide) ?_
            refine tj_icmp_ne (tgt := 110) (q := 105) dX12_span_102 (by decide) rfl ?_ ?_
            · refine tj_iload (q := 107) dX12_span_105 rfl (pl := 2) rfl ?_
              refine tj_goto (q := 112) dX12_span_107 (by decide) ?_
              exact tj_iret rfl rfl (Nat.le_of_ble_eq_true rfl) (Nat.le_of_ble_eq_true rfl) dX12_span_112
            · refine tj_iload (q := 112) dX12_span_110 rfl (pl := 3) rfl ?_
              exact tj_iret rfl rfl (Nat.le_of_ble_eq_true rfl) (Nat.le_of_ble_eq_true rfl) dX12_span_112
      · refine tj_bipush (q := 27) (v := (-2)) dX12_span_25 rfl (by decide) ?_
        exact tj_iret rfl rfl (Nat.le_of_ble_eq_true rfl) (Nat.le_of_ble_eq_true rfl) dX12_span_27
    · refine tj_bipush (q := 27) (v := (-2)) dX12_span_25 rfl (by decide) ?_
      exact tj_iret rfl rfl (Nat.le_of_ble_eq_true rfl) (Nat.le_of_ble_eq_true rfl) dX12_span_27
  · refine tj_bipush (q := 27) (v := (-2)) dX12_span_25 rfl (by decide) ?_
    exact tj_iret rfl rfl (Nat.le_of_ble_eq_true rfl) (Nat.le_of_ble_eq_true rfl) dX12_span_27

theorem dX12_leftBy_0 : decode cX12_leftBy 0 = .ok (.iconst 0, 1) := by decide +kernel
theorem dX12_leftBy_1 : decode cX12_leftBy 1 = .ok (.istore 6, 2) := by decide +kernel
theorem dX12_leftBy_3 : decode cX12_leftBy 3 = .ok (.iconst 0, 1) := by decide +kernel
theorem dX12_leftBy_4 : decode cX12_leftBy 4 = .ok (.istore 7, 2) := by decide +kernel
theorem dX12_leftBy_6 : decode cX12_leftBy 6 = .ok (.iload 7, 2) := by decide +kernel
theorem dX12_leftBy_8 : decode cX12_leftBy 8 = .ok (.bipush 99, 2) := by decide +kernel
theorem dX12_leftBy_10 : decode cX12_leftBy 10 = .ok (.if_icmp .gt 52, 3) := by decide +kernel
theorem dX12_leftBy_13 : decode cX12_leftBy 13 = .ok (.aload_n 0, 1) := by decide +kernel
theorem dX12_leftBy_14 : decode cX12_leftBy 14 = .ok (.getfield 154, 3) := by decide +kernel
theorem dX12_leftBy_17 : decode cX12_leftBy 17 = .ok (.iload 7, 2) := by decide +kernel
theorem dX12_leftBy_19 : decode cX12_leftBy 19 = .ok (.baload, 1) := by decide +kernel
theorem dX12_leftBy_20 : decode cX12_leftBy 20 = .ok (.ifCond .ne 6, 3) := by decide +kernel
theorem dX12_leftBy_23 : decode cX12_leftBy 23 = .ok (.goto 33, 3) := by decide +kernel
theorem dX12_leftBy_26 : decode cX12_leftBy 26 = .ok (.aload_n 0, 1) := by decide +kernel
theorem dX12_leftBy_27 : decode cX12_leftBy 27 = .ok (.iload_n 1, 1) := by decide +kernel
theorem dX12_leftBy_28 : decode cX12_leftBy 28 = .ok (.iload_n 2, 1) := by decide +kernel
theorem dX12_leftBy_29 : decode cX12_leftBy 29 = .ok (.iload 7, 2) := by decide +kernel
theorem dX12_leftBy_31 : decode cX12_leftBy 31 = .ok (.invokevirtual 618, 3) := by decide +kernel
theorem dX12_leftBy_34 : decode cX12_leftBy 34 = .ok (.iload 6, 2) := by decide +kernel
theorem dX12_leftBy_36 : decode cX12_leftBy 36 = .ok (.aload_n 0, 1) := by decide +kernel
theorem dX12_leftBy_37 : decode cX12_leftBy 37 = .ok (.iload_n 1, 1) := by decide +kernel
theorem dX12_leftBy_38 : decode cX12_leftBy 38 = .ok (.iconst 1, 1) := by decide +kernel
theorem dX12_leftBy_39 : decode cX12_leftBy 39 = .ok (.iload_n 3, 1) := by decide +kernel
theorem dX12_leftBy_40 : decode cX12_leftBy 40 = .ok (.ishl, 1) := by decide +kernel
theorem dX12_leftBy_41 : decode cX12_leftBy 41 = .ok (.iconst 1, 1) := by decide +kernel
theorem dX12_leftBy_42 : decode cX12_leftBy 42 = .ok (.iload 4, 2) := by decide +kernel
theorem dX12_leftBy_44 : decode cX12_leftBy 44 = .ok (.ishl, 1) := by decide +kernel
theorem dX12_leftBy_45 : decode cX12_leftBy 45 = .ok (.iconst 0, 1) := by decide +kernel
theorem dX12_leftBy_46 : decode cX12_leftBy 46 = .ok (.iconst 0, 1) := by decide +kernel
theorem dX12_leftBy_47 : decode cX12_leftBy 47 = .ok (.invokevirtual 517, 3) := by decide +kernel
theorem dX12_leftBy_50 : decode cX12_leftBy 50 = .ok (.invokestatic 337, 3) := by decide +kernel
theorem dX12_leftBy_53 : decode cX12_leftBy 53 = .ok (.iadd, 1) := by decide +kernel
theorem dX12_leftBy_54 : decode cX12_leftBy 54 = .ok (.istore 6, 2) := by decide +kernel
theorem dX12_leftBy_56 : decode cX12_leftBy 56 = .ok (.iinc 7 1, 3) := by decide +kernel
theorem dX12_leftBy_59 : decode cX12_leftBy 59 = .ok (.goto (-53), 3) := by decide +kernel
theorem dX12_leftBy_62 : decode cX12_leftBy 62 = .ok (.iload 6, 2) := by decide +kernel
theorem dX12_leftBy_64 : decode cX12_leftBy 64 = .ok (.iload 5, 2) := by decide +kernel
theorem dX12_leftBy_66 : decode cX12_leftBy 66 = .ok (.iload 6, 2) := by decide +kernel
theorem dX12_leftBy_68 : decode cX12_leftBy 68 = .ok (.isub, 1) := by decide +kernel
theorem dX12_leftBy_69 : decode cX12_leftBy 69 = .ok (.if_icmp .le 8, 3) := by decide +kernel
theorem dX12_leftBy_72 : decode cX12_leftBy 72 = .ok (.iload 6, 2) := by decide +kernel
theorem dX12_leftBy_74 : decode cX12_leftBy 74 = .ok (.goto 8, 3) := by decide +kernel
theorem dX12_leftBy_77 : decode cX12_leftBy 77 = .ok (.iload 5, 2) := by decide +kernel
theorem dX12_leftBy_79 : decode cX12_leftBy 79 = .ok (.iload 6, 2) := by decide +kernel
theorem dX12_leftBy_81 : decode cX12_leftBy 81 = .ok (.isub, 1) := by decide +kernel
theorem dX12_leftBy_82 : decode cX12_leftBy 82 = .ok (.ireturn, 1) := by decide +kernel
def mX12_leftBy_L6 (t : Nat) (x1 : Int32) (x2 : Int32) (x3 : Int32) (x4 : Int32) (x5 : Int32) (k62 : Int32 → St_ → Option (Int32 × St_)) : Nat → Int32 → Int32 → St_ → Option (Int32 × St_)
  | 0, _, _, _ => none
  | n + 1, x6, x7, σ => (if (99 : Int32) < x7 then
 (k62 x6 σ)
 else (if bin x7 100 = true then if isB (σ.1 (t + 44) x7.toNatClampNeg) = true then bnd (σ.1 (t + 44) x7.toNatClampNeg == 1) fun v1 =>
 (bnd (fun (j2 : Int32) (σ3 : St_) => (mX12_leftBy_L6 t x1 x2 x3 x4 x5 k62 n j2 (x7 + 1) σ3)) fun k4 =>
 (if v1 = true then
 ((mX12_layOther t x1 x2 x7 σ).bind fun σ6 =>
 ((mX12_isLawful t x1 ((1 : Int32) <<< (x3 &&& 31)) ((1 : Int32) <<< (x4 &&& 31)) (0 : Int32) (0 : Int32) σ6).bind fun r7 =>
 ((mX12_truth r7.1 r7.2).bind fun r8 =>
 (bnd (x6 + r8) fun v9 =>
 (k4 v9 r7.2)))))
 else (k4 x6 σ)))
 else none else none))
def mX12_leftBy (t : Nat) (p1 : Int32) (p2 : Int32) (p3 : Int32) (p4 : Int32) (p5 : Int32) (σ : St_) : Option (Int32 × St_) :=
 (mX12_leftBy_L6 t p1 p2 p3 p4 p5
 (fun (y10 : Int32) (σ11 : St_) => (if y10 ≤ (p5 - y10) then
 (some ((p5 - y10), σ11))
 else (some (y10, σ11)))) FU (0 : Int32) (0 : Int32) σ)
set_option maxHeartbeats 4000000 in
theorem tmX12_leftBy_L6 (t : Nat) (hT : LY12 sh P t) (x1 : Int32) (x2 : Int32) (x3 : Int32) (x4 : Int32) (x5 : Int32) (k62 : Int32 → St_ → Option (Int32 × St_)) (hk62 : ∀ (y6 : Int32) (σ1 : St_), Tj l D cA h0 ad RX12 cX12_leftBy 8 (some .int) false 6 0 0 (fun b => (some (.int b.1), sh, P, b.2)) 0 0 sh P σ1 62 [(5, .int x5), (6, .int y6)] [] (k62 y6 σ1)) : ∀ (n : Nat) (x6 : Int32) (x7 : Int32) (σ : St_), Tj l D cA h0 ad RX12 cX12_leftBy 8 (some .int) false 6 0 0 (fun b => (some (.int b.1), sh, P, b.2)) 0 0 sh P σ 6 [(0, .ref (h0 + t)), (1, .int x1), (2, .int x2), (3, .int x3), (4, .int x4), (5, .int x5), (6, .int x6), (7, .int x7)] [] (mX12_leftBy_L6 t x1 x2 x3 x4 x5 k62 n x6 x7 σ) := by
  intro n
  induction n with
  | zero => intros; exact tj_none
  | succ n ih =>
    intro x6 x7 σ
    rw [mX12_leftBy_L6]
    refine tj_iload (q := 8) dX12_leftBy_6 rfl (pl := 7) rfl ?_
    refine tj_bipush (q := 10) (v := 99) dX12_leftBy_8 rfl (by decide) ?_
    refine tj_icmp_gt (tgt := 62) (q := 13) dX12_leftBy_10 (by decide) rfl ?_ ?_
    · refine tj_lv [5, 6] rfl ?_
      exact hk62 x6 σ
    · refine tj_aload_n (q := 14) dX12_leftBy_13 rfl (i := 0) rfl (pl := 0) rfl ?_
      refine tj_getR (q := 17) (hT).s (hT).p_spans fok_12_88 wl_RX12_154 dX12_leftBy_14 rfl ?_
      refine tj_iload (q := 19) dX12_leftBy_17 rfl (pl := 7) rfl ?_
      refine tj_zaloadB (q := 20) (hT).s_spans dX12_leftBy_19 rfl (fun v1 => ?_)
      refine tj_bnd (fun k4 => ∀ (j2 : Int32) (σ3 : St_), Tj l D cA h0 ad RX12 cX12_leftBy 8 (some .int) false 6 0 0 (fun b => (some (.int b.1), sh, P, b.2)) 0 0 sh P σ3 56 [(0, .ref (h0 + t)), (1, .int x1), (2, .int x2), (3, .int x3), (4, .int x4), (5, .int x5), (6, .int j2), (7, .int x7)] [] (k4 j2 σ3)) ?_ (fun k4 hk5 => ?_)
      · intro j2 σ3
        refine tj_iinc (q := 59) (v := x7 + 1) dX12_leftBy_56 rfl (pl := 7) rfl rfl (by decide) rfl ?_
        refine tj_goto (q := 6) dX12_leftBy_59 (by decide) ?_
        refine tj_lv [1, 2, 3, 4, 5, 6, 7, 0] rfl ?_
        exact ih j2 (x7 + 1) σ3
      · refine tj_bnz (tgt := 26) (q := 23) dX12_leftBy_20 (by decide) rfl ?_ ?_
        · refine tj_aload_n (q := 27) dX12_leftBy_26 rfl (i := 0) rfl (pl := 0) rfl ?_
          refine tj_iload_n (q := 28) dX12_leftBy_27 rfl (i := 1) rfl (pl := 1) rfl ?_
          refine tj_iload_n (q := 29) dX12_leftBy_28 rfl (i := 2) rfl (pl := 2) rfl ?_
          refine tj_iload (q := 31) dX12_leftBy_29 rfl (pl := 7) rfl ?_
          refine tj_callV (q := 34) (kj_V (As := [.int x1, .int x2, .int x7]) (rest := []) (t := t) wi_RX12_618 (hT).s rfl (rX12_layOther t x1 x2 x7 (hT)) rfl (Nat.le_of_ble_eq_true rfl) ⟨Nat.le_of_ble_eq_true rfl, Nat.le_of_ble_eq_true rfl⟩ (Nat.le_of_ble_eq_true rfl) dX12_leftBy_31) rfl (fun σ6 => ?_)
          refine tj_iload (q := 36) dX12_leftBy_34 rfl (pl := 6) rfl ?_
          refine tj_aload_n (q := 37) dX12_leftBy_36 rfl (i := 0) rfl (pl := 0) rfl ?_
          refine tj_iload_n (q := 38) dX12_leftBy_37 rfl (i := 1) rfl (pl := 1) rfl ?_
          refine tj_iconst (q := 39) (v := 1) dX12_leftBy_38 rfl (by decide) ?_
          refine tj_iload_n (q := 40) dX12_leftBy_39 rfl (i := 3) rfl (pl := 3) rfl ?_
          refine tj_ishl (q := 41) dX12_leftBy_40 rfl ?_
          refine tj_iconst (q := 42) (v := 1) dX12_leftBy_41 rfl (by decide) ?_
          refine tj_iload (q := 44) dX12_leftBy_42 rfl (pl := 4) rfl ?_
          refine tj_ishl (q := 45) dX12_leftBy_44 rfl ?_
          refine tj_iconst (q := 46) (v := 0) dX12_leftBy_45 rfl (by decide) ?_
          refine tj_iconst (q := 47) (v := 0) dX12_leftBy_46 rfl (by decide) ?_
          refine tj_callZ (q := 50) (kj_V (As := [.int x1, .int ((1 : Int32) <<< (x3 &&& 31)), .int ((1 : Int32) <<< (x4 &&& 31)), .int (0 : Int32), .int (0 : Int32)]) (rest := [.int x6]) (t := t) wi_RX12_517 (hT).s rfl (rX12_isLawful t x1 ((1 : Int32) <<< (x3 &&& 31)) ((1 : Int32) <<< (x4 &&& 31)) (0 : Int32) (0 : Int32) (hT)) rfl (Nat.le_of_ble_eq_true rfl) ⟨Nat.le_of_ble_eq_true rfl, Nat.le_of_ble_eq_true rfl⟩ (Nat.le_of_ble_eq_true rfl) dX12_leftBy_47) rfl (fun r7 => ?_)
          refine tj_callIp (q := 53) (kj_S (As := [.int (b2i r7.1)]) (rest := [.int x6]) wi_RX12_337 (rX12_truth r7.1) rfl (Nat.le_of_ble_eq_true rfl) ⟨Nat.le_of_ble_eq_true rfl, Nat.le_of_ble_eq_true rfl⟩ (Nat.le_of_ble_eq_true rfl) dX12_leftBy_50) rfl (fun r8 => ?_)
          refine tj_iadd (q := 54) dX12_leftBy_53 rfl ?_
          refine tj_topI (fun v9 => ?_)
          refine tj_istore (q := 56) dX12_leftBy_54 rfl (by decide) rfl ?_
          refine tj_lv [1, 2, 3, 4, 5, 6, 0, 7] rfl ?_
          exact hk5 v9 r7.2
        · refine tj_goto (q := 56) dX12_leftBy_23 (by decide) ?_
          exact hk5 x6 σ

set_option maxHeartbeats 4000000 in
theorem rX12_leftBy (t : Nat) (p1 : Int32) (p2 : Int32) (p3 : Int32) (p4 : Int32) (p5 : Int32) (hT : LY12 sh P t) : Rj l D cA h0 ad yX12_leftBy cX12_leftBy 8 (some .int) false 6 0 0 (fun b => (some (.int b.1), sh, P, b.2)) [.ref (h0 + t), .int p1, .int p2, .int p3, .int p4, .int p5] sh P σ (mX12_leftBy t p1 p2 p3 p4 p5 σ) := by
  rw [mX12_leftBy]
  refine Rj.of (by decide) (fun h => by cases h) (Nat.le_of_ble_eq_true rfl) ?_
  refine tj_lv0 (lv' := [(0, .ref (h0 + t)), (1, .int p1), (2, .int p2), (3, .int p3), (4, .int p4), (5, .int p5)]) rfl ?_
  refine tj_iconst (q := 1) (v := 0) dX12_leftBy_0 rfl (by decide) ?_
  refine tj_istore (q := 3) dX12_leftBy_1 rfl (by decide) rfl ?_
  refine tj_iconst (q := 4) (v := 0) dX12_leftBy_3 rfl (by decide) ?_
  refine tj_istore (q := 6) dX12_leftBy_4 rfl (by decide) rfl ?_
  refine tj_lv [2, 3, 4, 5, 6, 7, 1, 0] rfl ?_
  refine tmX12_leftBy_L6 t hT p1 p2 p3 p4 p5 _ ?_ FU (0 : Int32) (0 : Int32) σ
  · intro y10 σ11
    refine tj_iload (q := 64) dX12_leftBy_62 rfl (pl := 1) rfl ?_
    refine tj_iload (q := 66) dX12_leftBy_64 rfl (pl := 0) rfl ?_
    refine tj_iload (q := 68) dX12_leftBy_66 rfl (pl := 1) rfl ?_
    refine tj_isub (q := 69) dX12_leftBy_68 rfl ?_
    refine tj_icmp_le (tgt := 77) (q := 72) dX12_leftBy_69 (by decide) rfl ?_ ?_
    · refine tj_iload (q := 79) dX12_leftBy_77 rfl (pl := 0) rfl ?_
      refine tj_iload (q := 81) dX12_leftBy_79 rfl (pl := 1) rfl ?_
      refine tj_isub (q := 82) dX12_leftBy_81 rfl ?_
      exact tj_iret rfl rfl (Nat.le_of_ble_eq_true rfl) (Nat.le_of_ble_eq_true rfl) dX12_leftBy_82
    · refine tj_iload (q := 74) dX12_leftBy_72 rfl (pl := 1) rfl ?_
      refine tj_goto (q := 82) dX12_leftBy_74 (by decide) ?_
      exact tj_iret rfl rfl (Nat.le_of_ble_eq_true rfl) (Nat.le_of_ble_eq_true rfl) dX12_leftBy_82

theorem dX12_ask_0 : decode cX12_ask 0 = .ok (.aload_n 0, 1) := by decide +kernel
theorem dX12_ask_1 : decode cX12_ask 1 = .ok (.iload_n 1, 1) := by decide +kernel
theorem dX12_ask_2 : decode cX12_ask 2 = .ok (.invokevirtual 453, 3) := by decide +kernel
theorem dX12_ask_5 : decode cX12_ask 5 = .ok (.ifCond .eq 20, 3) := by decide +kernel
theorem dX12_ask_8 : decode cX12_ask 8 = .ok (.aload_n 0, 1) := by decide +kernel
theorem dX12_ask_9 : decode cX12_ask 9 = .ok (.iload_n 2, 1) := by decide +kernel
theorem dX12_ask_10 : decode cX12_ask 10 = .ok (.invokevirtual 490, 3) := by decide +kernel
theorem dX12_ask_13 : decode cX12_ask 13 = .ok (.ifCond .eq 12, 3) := by decide +kernel
theorem dX12_ask_16 : decode cX12_ask 16 = .ok (.iload_n 3, 1) := by decide +kernel
theorem dX12_ask_17 : decode cX12_ask 17 = .ok (.iconst 0, 1) := by decide +kernel
theorem dX12_ask_18 : decode cX12_ask 18 = .ok (.iconst 1, 1) := by decide +kernel
theorem dX12_ask_19 : decode cX12_ask 19 = .ok (.invokestatic 446, 3) := by decide +kernel
theorem dX12_ask_22 : decode cX12_ask 22 = .ok (.ifCond .ne 6, 3) := by decide +kernel
theorem dX12_ask_25 : decode cX12_ask 25 = .ok (.bipush (-2), 2) := by decide +kernel
theorem dX12_ask_27 : decode cX12_ask 27 = .ok (.ireturn, 1) := by decide +kernel
theorem dX12_ask_28 : decode cX12_ask 28 = .ok (.aload_n 0, 1) := by decide +kernel
theorem dX12_ask_29 : decode cX12_ask 29 = .ok (.iload_n 1, 1) := by decide +kernel
theorem dX12_ask_30 : decode cX12_ask 30 = .ok (.iload_n 2, 1) := by decide +kernel
theorem dX12_ask_31 : decode cX12_ask 31 = .ok (.iload 4, 2) := by decide +kernel
theorem dX12_ask_33 : decode cX12_ask 33 = .ok (.invokevirtual 622, 3) := by decide +kernel
theorem dX12_ask_36 : decode cX12_ask 36 = .ok (.istore 5, 2) := by decide +kernel
theorem dX12_ask_38 : decode cX12_ask 38 = .ok (.iload 5, 2) := by decide +kernel
theorem dX12_ask_40 : decode cX12_ask 40 = .ok (.ifCond .eq 11, 3) := by decide +kernel
theorem dX12_ask_43 : decode cX12_ask 43 = .ok (.aload_n 0, 1) := by decide +kernel
theorem dX12_ask_44 : decode cX12_ask 44 = .ok (.getfield 419, 3) := by decide +kernel
theorem dX12_ask_47 : decode cX12_ask 47 = .ok (.iconst 2, 1) := by decide +kernel
theorem dX12_ask_48 : decode cX12_ask 48 = .ok (.if_icmp .ge 5, 3) := by decide +kernel
theorem dX12_ask_51 : decode cX12_ask 51 = .ok (.iconst (-1), 1) := by decide +kernel
theorem dX12_ask_52 : decode cX12_ask 52 = .ok (.ireturn, 1) := by decide +kernel
theorem dX12_ask_53 : decode cX12_ask 53 = .ok (.iconst (-1), 1) := by decide +kernel
theorem dX12_ask_54 : decode cX12_ask 54 = .ok (.istore 6, 2) := by decide +kernel
theorem dX12_ask_56 : decode cX12_ask 56 = .ok (.sipush 1000, 3) := by decide +kernel
theorem dX12_ask_59 : decode cX12_ask 59 = .ok (.istore 7, 2) := by decide +kernel
theorem dX12_ask_61 : decode cX12_ask 61 = .ok (.iconst 0, 1) := by decide +kernel
theorem dX12_ask_62 : decode cX12_ask 62 = .ok (.istore 8, 2) := by decide +kernel
theorem dX12_ask_64 : decode cX12_ask 64 = .ok (.iload 8, 2) := by decide +kernel
theorem dX12_ask_66 : decode cX12_ask 66 = .ok (.aload_n 0, 1) := by decide +kernel
theorem dX12_ask_67 : decode cX12_ask 67 = .ok (.getfield 419, 3) := by decide +kernel
theorem dX12_ask_70 : decode cX12_ask 70 = .ok (.if_icmp .ge 78, 3) := by decide +kernel
theorem dX12_ask_73 : decode cX12_ask 73 = .ok (.iconst 0, 1) := by decide +kernel
theorem dX12_ask_74 : decode cX12_ask 74 = .ok (.istore 9, 2) := by decide +kernel
theorem dX12_ask_76 : decode cX12_ask 76 = .ok (.iload 9, 2) := by decide +kernel
theorem dX12_ask_78 : decode cX12_ask 78 = .ok (.aload_n 0, 1) := by decide +kernel
theorem dX12_ask_79 : decode cX12_ask 79 = .ok (.getfield 419, 3) := by decide +kernel
theorem dX12_ask_82 : decode cX12_ask 82 = .ok (.if_icmp .ge 60, 3) := by decide +kernel
theorem dX12_ask_85 : decode cX12_ask 85 = .ok (.iload 8, 2) := by decide +kernel
theorem dX12_ask_87 : decode cX12_ask 87 = .ok (.iload 9, 2) := by decide +kernel
theorem dX12_ask_89 : decode cX12_ask 89 = .ok (.if_icmp .ne 9, 3) := by decide +kernel
theorem dX12_ask_92 : decode cX12_ask 92 = .ok (.sipush 1000, 3) := by decide +kernel
theorem dX12_ask_95 : decode cX12_ask 95 = .ok (.goto 15, 3) := by decide +kernel
theorem dX12_ask_98 : decode cX12_ask 98 = .ok (.aload_n 0, 1) := by decide +kernel
theorem dX12_ask_99 : decode cX12_ask 99 = .ok (.iload_n 1, 1) := by decide +kernel
theorem dX12_ask_100 : decode cX12_ask 100 = .ok (.iload_n 2, 1) := by decide +kernel
theorem dX12_ask_101 : decode cX12_ask 101 = .ok (.iload 8, 2) := by decide +kernel
theorem dX12_ask_103 : decode cX12_ask 103 = .ok (.iload 9, 2) := by decide +kernel
theorem dX12_ask_105 : decode cX12_ask 105 = .ok (.iload 5, 2) := by decide +kernel
theorem dX12_ask_107 : decode cX12_ask 107 = .ok (.invokevirtual 625, 3) := by decide +kernel
theorem dX12_ask_110 : decode cX12_ask 110 = .ok (.istore 10, 2) := by decide +kernel
theorem dX12_ask_112 : decode cX12_ask 112 = .ok (.iload 10, 2) := by decide +kernel
theorem dX12_ask_114 : decode cX12_ask 114 = .ok (.iload 7, 2) := by decide +kernel
theorem dX12_ask_116 : decode cX12_ask 116 = .ok (.if_icmp .lt 6, 3) := by decide +kernel
theorem dX12_ask_119 : decode cX12_ask 119 = .ok (.goto 17, 3) := by decide +kernel
theorem dX12_ask_122 : decode cX12_ask 122 = .ok (.bipush 10, 2) := by decide +kernel
theorem dX12_ask_124 : decode cX12_ask 124 = .ok (.iload 8, 2) := by decide +kernel
theorem dX12_ask_126 : decode cX12_ask 126 = .ok (.imul, 1) := by decide +kernel
theorem dX12_ask_127 : decode cX12_ask 127 = .ok (.iload 9, 2) := by decide +kernel
theorem dX12_ask_129 : decode cX12_ask 129 = .ok (.iadd, 1) := by decide +kernel
theorem dX12_ask_130 : decode cX12_ask 130 = .ok (.istore 6, 2) := by decide +kernel
theorem dX12_ask_132 : decode cX12_ask 132 = .ok (.iload 10, 2) := by decide +kernel
theorem dX12_ask_134 : decode cX12_ask 134 = .ok (.istore 7, 2) := by decide +kernel
theorem dX12_ask_136 : decode cX12_ask 136 = .ok (.iinc 9 1, 3) := by decide +kernel
theorem dX12_ask_139 : decode cX12_ask 139 = .ok (.goto (-63), 3) := by decide +kernel
theorem dX12_ask_142 : decode cX12_ask 142 = .ok (.iinc 8 1, 3) := by decide +kernel
theorem dX12_ask_145 : decode cX12_ask 145 = .ok (.goto (-81), 3) := by decide +kernel
theorem dX12_ask_148 : decode cX12_ask 148 = .ok (.aload_n 0, 1) := by decide +kernel
theorem dX12_ask_149 : decode cX12_ask 149 = .ok (.iconst (-1), 1) := by decide +kernel
theorem dX12_ask_150 : decode cX12_ask 150 = .ok (.iconst (-1), 1) := by decide +kernel
theorem dX12_ask_151 : decode cX12_ask 151 = .ok (.iconst 0, 1) := by decide +kernel
theorem dX12_ask_152 : decode cX12_ask 152 = .ok (.invokevirtual 618, 3) := by decide +kernel
theorem dX12_ask_155 : decode cX12_ask 155 = .ok (.iload_n 3, 1) := by decide +kernel
theorem dX12_ask_156 : decode cX12_ask 156 = .ok (.ifCond .ne 8, 3) := by decide +kernel
theorem dX12_ask_159 : decode cX12_ask 159 = .ok (.iload 6, 2) := by decide +kernel
theorem dX12_ask_161 : decode cX12_ask 161 = .ok (.goto 5, 3) := by decide +kernel
theorem dX12_ask_164 : decode cX12_ask 164 = .ok (.iload 7, 2) := by decide +kernel
theorem dX12_ask_166 : decode cX12_ask 166 = .ok (.ireturn, 1) := by decide +kernel
theorem wm_X12_leftBy : Cond.instanceMethod yX12_leftBy ∈ TB ∧ Cond.selects yX12_leftBy.cls yX12_leftBy yX12_leftBy ∈ TB ∧ Cond.initialized yX12_leftBy.cls ∈ TB ∧ Cond.code yX12_leftBy cX12_leftBy 8 (some .int) ∈ TB ∧ (yX12_leftBy.cls ≠ "java/lang/invoke/MethodHandle" ∧ yX12_leftBy.cls ≠ "java/lang/invoke/VarHandle" ∧ (parseMethodDescriptor yX12_leftBy.desc).map (fun d => d.parameters.length) = some 5) ∧ 8 ≤ 21 := ⟨tbm 2187 (by decide +kernel) (by decide +kernel), tbm 132 (by decide +kernel) (by decide +kernel), tbm 146 (by decide +kernel) (by decide +kernel), tbm 2188 (by decide +kernel) (by decide +kernel), by decide +kernel, by decide⟩
theorem wi_RX12_625 : Iv RX12 625 yX12_leftBy cX12_leftBy 8 (some .int) 5 := ⟨tbm 2185 (by decide +kernel) (by decide +kernel), wm_X12_leftBy⟩
def mX12_ask_L76 (t : Nat) (x1 : Int32) (x2 : Int32) (x3 : Int32) (x5 : Int32) (x8 : Int32) (k142 : Int32 → Int32 → St_ → Option (Int32 × St_)) : Nat → Int32 → Int32 → Int32 → St_ → Option (Int32 × St_)
  | 0, _, _, _, _ => none
  | n + 1, x6, x7, x9, σ => (if (σ.1 t 52) ≤ x9 then
 (k142 x6 x7 σ)
 else (bnd (fun (j5 : Int32) (σ6 : St_) => (bnd (fun (j9 : Int32) (j10 : Int32) => (mX12_ask_L76 t x1 x2 x3 x5 x8 k142 n j9 j10 (x9 + 1) σ6)) fun k11 =>
 (if j5 < x7 then
 (bnd (((10 : Int32) * x8) + x9) fun v13 =>
 (k11 v13 j5))
 else (k11 x6 x7)))) fun k7 =>
 (if x8 = x9 then
 (k7 (1000 : Int32) σ)
 else ((mX12_leftBy t x1 x2 x8 x9 x5 σ).bind fun r14 =>
 (k7 r14.1 r14.2)))))
def mX12_ask_L64 (t : Nat) (x1 : Int32) (x2 : Int32) (x3 : Int32) (x5 : Int32) (k148 : Int32 → Int32 → St_ → Option (Int32 × St_)) : Nat → Int32 → Int32 → Int32 → St_ → Option (Int32 × St_)
  | 0, _, _, _, _ => none
  | n + 1, x6, x7, x8, σ => (if (σ.1 t 52) ≤ x8 then
 (k148 x6 x7 σ)
 else (mX12_ask_L76 t x1 x2 x3 x5 x8
 (fun (y15 : Int32) (y16 : Int32) (σ17 : St_) => (mX12_ask_L64 t x1 x2 x3 x5 k148 n y15 y16 (x8 + 1) σ17)) FU x6 x7 (0 : Int32) σ))
def mX12_ask (t : Nat) (p1 : Int32) (p2 : Int32) (p3 : Int32) (p4 : Int32) (σ : St_) : Option (Int32 × St_) :=
 ((mX12_isHouse t p1 σ).bind fun r1 =>
 (if r1 = true then
 ((mX12_isThing t p2 σ).bind fun r2 =>
 (if r2 = true then
 ((mX12_isIn p3 (0 : Int32) (1 : Int32) σ).bind fun r3 =>
 (if r3 = true then
 ((mX12_laySpan t p1 p2 p4 σ).bind fun r4 =>
 (if r4.1 = 0 then
 (some ((-1 : Int32), r4.2))
 else (if (2 : Int32) ≤ (r4.2.1 t 52) then
 (mX12_ask_L64 t p1 p2 p3 r4.1
 (fun (y18 : Int32) (y19 : Int32) (σ20 : St_) => ((mX12_layOther t (-1 : Int32) (-1 : Int32) (0 : Int32) σ20).bind fun σ21 =>
 (if p3 = 0 then
 (some (y18, σ21))
 else (some (y19, σ21))))) FU (-1 : Int32) (1000 : Int32) (0 : Int32) r4.2)
 else (some ((-1 : Int32), r4.2)))))
 else (some ((-2 : Int32), σ))))
 else (some ((-2 : Int32), σ))))
 else (some ((-2 : Int32), σ))))
set_option maxHeartbeats 4000000 in
theorem tmX12_ask_L76 (t : Nat) (hT : LY12 sh P t) (x1 : Int32) (x2 : Int32) (x3 : Int32) (x5 : Int32) (x8 : Int32) (k142 : Int32 → Int32 → St_ → Option (Int32 × St_)) (hk142 : ∀ (y6 : Int32) (y7 : Int32) (σ1 : St_), Tj l D cA h0 ad RX12 cX12_ask 11 (some .int) false 7 0 0 (fun b => (some (.int b.1), sh, P, b.2)) 0 0 sh P σ1 142 [(0, .ref (h0 + t)), (1, .int x1), (2, .int x2), (3, .int x3), (5, .int x5), (6, .int y6), (7, .int y7), (8, .int x8)] [] (k142 y6 y7 σ1)) : ∀ (n : Nat) (x6 : Int32) (x7 : Int32) (x9 : Int32) (σ : St_), Tj l D cA h0 ad RX12 cX12_ask 11 (some .int) false 7 0 0 (fun b => (some (.int b.1), sh, P, b.2)) 0 0 sh P σ 76 [(0, .ref (h0 + t)), (1, .int x1), (2, .int x2), (3, .int x3), (5, .int x5), (6, .int x6), (7, .int x7), (8, .int x8), (9, .int x9)] [] (mX12_ask_L76 t x1 x2 x3 x5 x8 k142 n x6 x7 x9 σ) := by
  intro n
  induction n with
  | zero => intros; exact tj_none
  | succ n ih =>
    intro x6 x7 x9 σ
    rw [mX12_ask_L76]
    refine tj_iload (q := 78) dX12_ask_76 rfl (pl := 8) rfl ?_
    refine tj_aload_n (q := 79) dX12_ask_78 rfl (i := 0) rfl (pl := 0) rfl ?_
    refine tj_getI (q := 82) (hT).s fok_12_52 wl_RX12_419 dX12_ask_79 rfl ?_
    refine tj_icmp_ge (tgt := 142) (q := 85) dX12_ask_82 (by decide) rfl ?_ ?_
    · refine tj_lv [0, 1, 2, 3, 4, 5, 6, 7] rfl ?_
      exact hk142 x6 x7 σ
    · refine tj_iload (q := 87) dX12_ask_85 rfl (pl := 7) rfl ?_
      refine tj_iload (q := 89) dX12_ask_87 rfl (pl := 8) rfl ?_
      refine tj_bnd (fun k7 => ∀ (j5 : Int32) (σ6 : St_), Tj l D cA h0 ad RX12 cX12_ask 11 (some .int) false 7 0 0 (fun b => (some (.int b.1), sh, P, b.2)) 0 0 sh P σ6 110 [(0, .ref (h0 + t)), (1, .int x1), (2, .int x2), (3, .int x3), (5, .int x5), (6, .int x6), (7, .int x7), (8, .int x8), (9, .int x9)] [.int j5] (k7 j5 σ6)) ?_ (fun k7 hk8 => ?_)
      · intro j5 σ6
        refine tj_istore (q := 112) dX12_ask_110 rfl (by decide) rfl ?_
        refine tj_iload (q := 114) dX12_ask_112 rfl (pl := 0) rfl ?_
        refine tj_iload (q := 116) dX12_ask_114 rfl (pl := 7) rfl ?_
        refine tj_bnd (fun k11 => ∀ (j9 : Int32) (j10 : Int32), Tj l D cA h0 ad RX12 cX12_ask 11 (some .int) false 7 0 0 (fun b => (some (.int b.1), sh, P, b.2)) 0 0 sh P σ6 136 [(0, .ref (h0 + t)), (1, .int x1), (2, .int x2), (3, .int x3), (5, .int x5), (6, .int j9), (7, .int j10), (8, .int x8), (9, .int x9)] [] (k11 j9 j10)) ?_ (fun k11 hk12 => ?_)
        · intro j9 j10
          refine tj_iinc (q := 139) (v := x9 + 1) dX12_ask_136 rfl (pl := 8) rfl rfl (by decide) rfl ?_
          refine tj_goto (q := 76) dX12_ask_139 (by decide) ?_
          refine tj_lv [1, 2, 3, 4, 5, 6, 7, 8, 0] rfl ?_
          exact ih j9 j10 (x9 + 1) σ6
        · refine tj_icmp_lt (tgt := 122) (q := 119) dX12_ask_116 (by decide) rfl ?_ ?_
          · refine tj_bipush (q := 124) (v := 10) dX12_ask_122 rfl (by decide) ?_
            refine tj_iload (q := 126) dX12_ask_124 rfl (pl := 8) rfl ?_
            refine tj_imul (q := 127) dX12_ask_126 rfl ?_
            refine tj_iload (q := 129) dX12_ask_127 rfl (pl := 9) rfl ?_
            refine tj_iadd (q := 130) dX12_ask_129 rfl ?_
            refine tj_topI (fun v13 => ?_)
            refine tj_istore (q := 132) dX12_ask_130 rfl (by decide) rfl ?_
            refine tj_iload (q := 134) dX12_ask_132 rfl (pl := 1) rfl ?_
            refine tj_istore (q := 136) dX12_ask_134 rfl (by decide) rfl ?_
            refine tj_lv [3, 4, 5, 6, 7, 1, 0, 8, 9] rfl ?_
            exact hk12 v13 j5
          · refine tj_goto (q := 136) dX12_ask_119 (by decide) ?_
            refine tj_lv [1, 2, 3, 4, 5, 6, 7, 8, 9] rfl ?_
            exact hk12 x6 x7
      · refine tj_icmp_ne (tgt := 98) (q := 92) dX12_ask_89 (by decide) rfl ?_ ?_
        · refine tj_sipush (q := 95) (v := 1000) dX12_ask_92 rfl (by decide) ?_
          refine tj_goto (q := 110) dX12_ask_95 (by decide) ?_
          exact hk8 (1000 : Int32) σ
        · refine tj_aload_n (q := 99) dX12_ask_98 rfl (i := 0) rfl (pl := 0) rfl ?_
          refine tj_iload_n (q := 100) dX12_ask_99 rfl (i := 1) rfl (pl := 1) rfl ?_
          refine tj_iload_n (q := 101) dX12_ask_100 rfl (i := 2) rfl (pl := 2) rfl ?_
          refine tj_iload (q := 103) dX12_ask_101 rfl (pl := 7) rfl ?_
          refine tj_iload (q := 105) dX12_ask_103 rfl (pl := 8) rfl ?_
          refine tj_iload (q := 107) dX12_ask_105 rfl (pl := 4) rfl ?_
          refine tj_callI (q := 110) (kj_V (As := [.int x1, .int x2, .int x8, .int x9, .int x5]) (rest := []) (t := t) wi_RX12_625 (hT).s rfl (rX12_leftBy t x1 x2 x8 x9 x5 (hT)) rfl (Nat.le_of_ble_eq_true rfl) ⟨Nat.le_of_ble_eq_true rfl, Nat.le_of_ble_eq_true rfl⟩ (Nat.le_of_ble_eq_true rfl) dX12_ask_107) rfl (fun r14 => ?_)
          exact hk8 r14.1 r14.2

set_option maxHeartbeats 4000000 in
theorem tmX12_ask_L64 (t : Nat) (hT : LY12 sh P t) (x1 : Int32) (x2 : Int32) (x3 : Int32) (x5 : Int32) (k148 : Int32 → Int32 → St_ → Option (Int32 × St_)) (hk148 : ∀ (y6 : Int32) (y7 : Int32) (σ1 : St_), Tj l D cA h0 ad RX12 cX12_ask 11 (some .int) false 7 0 0 (fun b => (some (.int b.1), sh, P, b.2)) 0 0 sh P σ1 148 [(0, .ref (h0 + t)), (3, .int x3), (6, .int y6), (7, .int y7)] [] (k148 y6 y7 σ1)) : ∀ (n : Nat) (x6 : Int32) (x7 : Int32) (x8 : Int32) (σ : St_), Tj l D cA h0 ad RX12 cX12_ask 11 (some .int) false 7 0 0 (fun b => (some (.int b.1), sh, P, b.2)) 0 0 sh P σ 64 [(0, .ref (h0 + t)), (1, .int x1), (2, .int x2), (3, .int x3), (5, .int x5), (6, .int x6), (7, .int x7), (8, .int x8)] [] (mX12_ask_L64 t x1 x2 x3 x5 k148 n x6 x7 x8 σ) := by
  intro n
  induction n with
  | zero => intros; exact tj_none
  | succ n ih =>
    intro x6 x7 x8 σ
    rw [mX12_ask_L64]
    refine tj_iload (q := 66) dX12_ask_64 rfl (pl := 7) rfl ?_
    refine tj_aload_n (q := 67) dX12_ask_66 rfl (i := 0) rfl (pl := 0) rfl ?_
    refine tj_getI (q := 70) (hT).s fok_12_52 wl_RX12_419 dX12_ask_67 rfl ?_
    refine tj_icmp_ge (tgt := 148) (q := 73) dX12_ask_70 (by decide) rfl ?_ ?_
    · refine tj_lv [0, 3, 5, 6] rfl ?_
      exact hk148 x6 x7 σ
    · refine tj_iconst (q := 74) (v := 0) dX12_ask_73 rfl (by decide) ?_
      refine tj_istore (q := 76) dX12_ask_74 rfl (by decide) rfl ?_
      refine tj_lv [1, 2, 3, 4, 5, 6, 7, 8, 0] rfl ?_
      refine tmX12_ask_L76 t hT x1 x2 x3 x5 x8 _ ?_ FU x6 x7 (0 : Int32) σ
      · intro y15 y16 σ17
        refine tj_iinc (q := 145) (v := x8 + 1) dX12_ask_142 rfl (pl := 7) rfl rfl (by decide) rfl ?_
        refine tj_goto (q := 64) dX12_ask_145 (by decide) ?_
        refine tj_lv [1, 2, 3, 4, 5, 6, 7, 0] rfl ?_
        exact ih y15 y16 (x8 + 1) σ17

set_option maxHeartbeats 4000000 in
theorem rX12_ask (t : Nat) (p1 : Int32) (p2 : Int32) (p3 : Int32) (p4 : Int32) (hT : LY12 sh P t) : Rj l D cA h0 ad yX12_ask cX12_ask 11 (some .int) false 7 0 0 (fun b => (some (.int b.1), sh, P, b.2)) [.ref (h0 + t), .int p1, .int p2, .int p3, .int p4] sh P σ (mX12_ask t p1 p2 p3 p4 σ) := by
  rw [mX12_ask]
  refine Rj.of (by decide) (fun h => by cases h) (Nat.le_of_ble_eq_true rfl) ?_
  refine tj_lv0 (lv' := [(0, .ref (h0 + t)), (1, .int p1), (2, .int p2), (3, .int p3), (4, .int p4)]) rfl ?_
  refine tj_aload_n (q := 1) dX12_ask_0 rfl (i := 0) rfl (pl := 0) rfl ?_
  refine tj_iload_n (q := 2) dX12_ask_1 rfl (i := 1) rfl (pl := 1) rfl ?_
  refine tj_callZp (q := 5) (kj_V (As := [.int p1]) (rest := []) (t := t) wi_RX12_453 (hT).s rfl (rX12_isHouse t p1 (hT)) rfl (Nat.le_of_ble_eq_true rfl) ⟨Nat.le_of_ble_eq_true rfl, Nat.le_of_ble_eq_true rfl⟩ (Nat.le_of_ble_eq_true rfl) dX12_ask_2) rfl (fun r1 => ?_)
  refine tj_bz (tgt := 25) (q := 8) dX12_ask_5 (by decide) rfl ?_ ?_
  · refine tj_aload_n (q := 9) dX12_ask_8 rfl (i := 0) rfl (pl := 0) rfl ?_
    refine tj_iload_n (q := 10) dX12_ask_9 rfl (i := 2) rfl (pl := 2) rfl ?_
    refine tj_callZp (q := 13) (kj_V (As := [.int p2]) (rest := []) (t := t) wi_RX12_490 (hT).s rfl (rX12_isThing t p2 (hT)) rfl (Nat.le_of_ble_eq_true rfl) ⟨Nat.le_of_ble_eq_true rfl, Nat.le_of_ble_eq_true rfl⟩ (Nat.le_of_ble_eq_true rfl) dX12_ask_10) rfl (fun r2 => ?_)
    refine tj_bz (tgt := 25) (q := 16) dX12_ask_13 (by decide) rfl ?_ ?_
    · refine tj_iload_n (q := 17) dX12_ask_16 rfl (i := 3) rfl (pl := 3) rfl ?_
      refine tj_iconst (q := 18) (v := 0) dX12_ask_17 rfl (by decide) ?_
      refine tj_iconst (q := 19) (v := 1) dX12_ask_18 rfl (by decide) ?_
      refine tj_callZp (q := 22) (kj_S (As := [.int p3, .int (0 : Int32), .int (1 : Int32)]) (rest := []) wi_RX12_446 (rX12_isIn p3 (0 : Int32) (1 : Int32)) rfl (Nat.le_of_ble_eq_true rfl) ⟨Nat.le_of_ble_eq_true rfl, Nat.le_of_ble_eq_true rfl⟩ (Nat.le_of_ble_eq_true rfl) dX12_ask_19) rfl (fun r3 => ?_)
      refine tj_bnz (tgt := 28) (q := 25) dX12_ask_22 (by decide) rfl ?_ ?_
      · refine tj_aload_n (q := 29) dX12_ask_28 rfl (i := 0) rfl (pl := 0) rfl ?_
        refine tj_iload_n (q := 30) dX12_ask_29 rfl (i := 1) rfl (pl := 1) rfl ?_
        refine tj_iload_n (q := 31) dX12_ask_30 rfl (i := 2) rfl (pl := 2) rfl ?_
        refine tj_iload (q := 33) dX12_ask_31 rfl (pl := 4) rfl ?_
        refine tj_callI (q := 36) (kj_V (As := [.int p1, .int p2, .int p4]) (rest := []) (t := t) wi_RX12_622 (hT).s rfl (rX12_laySpan t p1 p2 p4 (hT)) rfl (Nat.le_of_ble_eq_true rfl) ⟨Nat.le_of_ble_eq_true rfl, Nat.le_of_ble_eq_true rfl⟩ (Nat.le_of_ble_eq_true rfl) dX12_ask_33) rfl (fun r4 => ?_)
        refine tj_istore (q := 38) dX12_ask_36 rfl (by decide) rfl ?_
        refine tj_iload (q := 40) dX12_ask_38 rfl (pl := 0) rfl ?_
        refine tj_if_eq (tgt := 51) (q := 43) dX12_ask_40 (by decide) rfl ?_ ?_
        · refine tj_iconst (q := 52) (v := (-1)) dX12_ask_51 rfl (by decide) ?_
          exact tj_iret rfl rfl (Nat.le_of_ble_eq_true rfl) (Nat.le_of_ble_eq_true rfl) dX12_ask_52
        · refine tj_aload_n (q := 44) dX12_ask_43 rfl (i := 0) rfl (pl := 1) rfl ?_
          refine tj_getI (q := 47) (hT).s fok_12_52 wl_RX12_419 dX12_ask_44 rfl ?_
          refine tj_iconst (q := 48) (v := 2) dX12_ask_47 rfl (by decide) ?_
          refine tj_icmp_ge (tgt := 53) (q := 51) dX12_ask_48 (by decide) rfl ?_ ?_
          · refine tj_iconst (q := 54) (v := (-1)) dX12_ask_53 rfl (by decide) ?_
            refine tj_istore (q := 56) dX12_ask_54 rfl (by decide) rfl ?_
            refine tj_sipush (q := 59) (v := 1000) dX12_ask_56 rfl (by decide) ?_
            refine tj_istore (q := 61) dX12_ask_59 rfl (by decide) rfl ?_
            refine tj_iconst (q := 62) (v := 0) dX12_ask_61 rfl (by decide) ?_
            refine tj_istore (q := 64) dX12_ask_62 rfl (by decide) rfl ?_
            refine tj_lv [4, 5, 6, 7, 3, 2, 1, 0] rfl ?_
            refine tmX12_ask_L64 t hT p1 p2 p3 r4.1 _ ?_ FU (-1 : Int32) (1000 : Int32) (0 : Int32) r4.2
            · intro y18 y19 σ20
              refine tj_aload_n (q := 149) dX12_ask_148 rfl (i := 0) rfl (pl := 0) rfl ?_
              refine tj_iconst (q := 150) (v := (-1)) dX12_ask_149 rfl (by decide) ?_
              refine tj_iconst (q := 151) (v := (-1)) dX12_ask_150 rfl (by decide) ?_
              refine tj_iconst (q := 152) (v := 0) dX12_ask_151 rfl (by decide) ?_
              refine tj_callV (q := 155) (kj_V (As := [.int (-1 : Int32), .int (-1 : Int32), .int (0 : Int32)]) (rest := []) (t := t) wi_RX12_618 (hT).s rfl (rX12_layOther t (-1 : Int32) (-1 : Int32) (0 : Int32) (hT)) rfl (Nat.le_of_ble_eq_true rfl) ⟨Nat.le_of_ble_eq_true rfl, Nat.le_of_ble_eq_true rfl⟩ (Nat.le_of_ble_eq_true rfl) dX12_ask_152) rfl (fun σ21 => ?_)
              refine tj_iload_n (q := 156) dX12_ask_155 rfl (i := 3) rfl (pl := 1) rfl ?_
              refine tj_if_ne (tgt := 164) (q := 159) dX12_ask_156 (by decide) rfl ?_ ?_
              · refine tj_iload (q := 161) dX12_ask_159 rfl (pl := 2) rfl ?_
                refine tj_goto (q := 166) dX12_ask_161 (by decide) ?_
                exact tj_iret rfl rfl (Nat.le_of_ble_eq_true rfl) (Nat.le_of_ble_eq_true rfl) dX12_ask_166
              · refine tj_iload (q := 166) dX12_ask_164 rfl (pl := 3) rfl ?_
                exact tj_iret rfl rfl (Nat.le_of_ble_eq_true rfl) (Nat.le_of_ble_eq_true rfl) dX12_ask_166
          · refine tj_iconst (q := 52) (v := (-1)) dX12_ask_51 rfl (by decide) ?_
            exact tj_iret rfl rfl (Nat.le_of_ble_eq_true rfl) (Nat.le_of_ble_eq_true rfl) dX12_ask_52
      · refine tj_bipush (q := 27) (v := (-2)) dX12_ask_25 rfl (by decide) ?_
        exact tj_iret rfl rfl (Nat.le_of_ble_eq_true rfl) (Nat.le_of_ble_eq_true rfl) dX12_ask_27
    · refine tj_bipush (q := 27) (v := (-2)) dX12_ask_25 rfl (by decide) ?_
      exact tj_iret rfl rfl (Nat.le_of_ble_eq_true rfl) (Nat.le_of_ble_eq_true rfl) dX12_ask_27
  · refine tj_bipush (q := 27) (v := (-2)) dX12_ask_25 rfl (by decide) ?_
    exact tj_iret rfl rfl (Nat.le_of_ble_eq_true rfl) (Nat.le_of_ble_eq_true rfl) dX12_ask_27

theorem dX12_image_0 : decode cX12_image 0 = .ok (.iload_n 1, 1) := by decide +kernel
theorem dX12_image_1 : decode cX12_image 1 = .ok (.invokestatic 602, 3) := by decide +kernel
theorem dX12_image_4 : decode cX12_image 4 = .ok (.ifCond .ne 5, 3) := by decide +kernel
theorem dX12_image_7 : decode cX12_image 7 = .ok (.iconst (-1), 1) := by decide +kernel
theorem dX12_image_8 : decode cX12_image 8 = .ok (.ireturn, 1) := by decide +kernel
theorem dX12_image_9 : decode cX12_image 9 = .ok (.aload_n 0, 1) := by decide +kernel
theorem dX12_image_10 : decode cX12_image 10 = .ok (.getfield 157, 3) := by decide +kernel
theorem dX12_image_13 : decode cX12_image 13 = .ok (.iload_n 1, 1) := by decide +kernel
theorem dX12_image_14 : decode cX12_image 14 = .ok (.iconst 1, 1) := by decide +kernel
theorem dX12_image_15 : decode cX12_image 15 = .ok (.bastore, 1) := by decide +kernel
theorem dX12_image_16 : decode cX12_image 16 = .ok (.iconst 0, 1) := by decide +kernel
theorem dX12_image_17 : decode cX12_image 17 = .ok (.istore_n 2, 1) := by decide +kernel
theorem dX12_image_18 : decode cX12_image 18 = .ok (.iload_n 2, 1) := by decide +kernel
theorem dX12_image_19 : decode cX12_image 19 = .ok (.bipush 17, 2) := by decide +kernel
theorem dX12_image_21 : decode cX12_image 21 = .ok (.if_icmp .ge 26, 3) := by decide +kernel
theorem dX12_image_24 : decode cX12_image 24 = .ok (.aload_n 0, 1) := by decide +kernel
theorem dX12_image_25 : decode cX12_image 25 = .ok (.getfield 160, 3) := by decide +kernel
theorem dX12_image_28 : decode cX12_image 28 = .ok (.bipush 20, 2) := by decide +kernel
theorem dX12_image_30 : decode cX12_image 30 = .ok (.iload_n 1, 1) := by decide +kernel
theorem dX12_image_31 : decode cX12_image 31 = .ok (.imul, 1) := by decide +kernel
theorem dX12_image_32 : decode cX12_image 32 = .ok (.iload_n 2, 1) := by decide +kernel
theorem dX12_image_33 : decode cX12_image 33 = .ok (.iadd, 1) := by decide +kernel
theorem dX12_image_34 : decode cX12_image 34 = .ok (.aload_n 0, 1) := by decide +kernel
theorem dX12_image_35 : decode cX12_image 35 = .ok (.getfield 102, 3) := by decide +kernel
theorem dX12_image_38 : decode cX12_image 38 = .ok (.iload_n 2, 1) := by decide +kernel
theorem dX12_image_39 : decode cX12_image 39 = .ok (.iaload, 1) := by decide +kernel
theorem dX12_image_40 : decode cX12_image 40 = .ok (.iastore, 1) := by decide +kernel
theorem dX12_image_41 : decode cX12_image 41 = .ok (.iinc 2 1, 3) := by decide +kernel
theorem dX12_image_44 : decode cX12_image 44 = .ok (.goto (-26), 3) := by decide +kernel
theorem dX12_image_47 : decode cX12_image 47 = .ok (.aload_n 0, 1) := by decide +kernel
theorem dX12_image_48 : decode cX12_image 48 = .ok (.getfield 102, 3) := by decide +kernel
theorem dX12_image_51 : decode cX12_image 51 = .ok (.bipush 10, 2) := by decide +kernel
theorem dX12_image_53 : decode cX12_image 53 = .ok (.iaload, 1) := by decide +kernel
theorem dX12_image_54 : decode cX12_image 54 = .ok (.ireturn, 1) := by decide +kernel
def mX12_image_L18 (t : Nat) (x1 : Int32) : Nat → Int32 → St_ → Option (Int32 × St_)
  | 0, _, _ => none
  | n + 1, x2, σ => (if (17 : Int32) ≤ x2 then
 (if bin (10 : Int32) 20 = true then bnd (σ.1 (t + 29) (10 : Int32).toNatClampNeg) fun v3 =>
 (some (v3, σ))
 else none)
 else (if bin x2 20 = true then bnd (σ.1 (t + 29) x2.toNatClampNeg) fun v4 =>
 (bnd (((20 : Int32) * x1) + x2) fun v5 =>
 (if bin v5 60 = true then bnd (sI σ (t + 46) v5.toNatClampNeg v4) fun σ6 =>
 (mX12_image_L18 t x1 n (x2 + 1) σ6)
 else none))
 else none))
def mX12_image (t : Nat) (p1 : Int32) (σ : St_) : Option (Int32 × St_) :=
 ((mX12_isBox p1 σ).bind fun r1 =>
 (if r1 = true then
 (if bin p1 3 = true then bnd (sI σ (t + 45) p1.toNatClampNeg (b2i true)) fun σ2 =>
 (mX12_image_L18 t p1 FU (0 : Int32) σ2)
 else none)
 else (some ((-1 : Int32), σ))))
set_option maxHeartbeats 4000000 in
theorem tmX12_image_L18 (t : Nat) (hT : LY12 sh P t) (x1 : Int32) : ∀ (n : Nat) (x2 : Int32) (σ : St_), Tj l D cA h0 ad RX12 cX12_image 3 (some .int) false 3 0 0 (fun b => (some (.int b.1), sh, P, b.2)) 0 0 sh P σ 18 [(0, .ref (h0 + t)), (1, .int x1), (2, .int x2)] [] (mX12_image_L18 t x1 n x2 σ) := by
  intro n
  induction n with
  | zero => intros; exact tj_none
  | succ n ih =>
    intro x2 σ
    rw [mX12_image_L18]
    refine tj_iload_n (q := 19) dX12_image_18 rfl (i := 2) rfl (pl := 2) rfl ?_
    refine tj_bipush (q := 21) (v := 17) dX12_image_19 rfl (by decide) ?_
    refine tj_icmp_ge (tgt := 47) (q := 24) dX12_image_21 (by decide) rfl ?_ ?_
    · refine tj_aload_n (q := 48) dX12_image_47 rfl (i := 0) rfl (pl := 0) rfl ?_
      refine tj_getR (q := 51) (hT).s (hT).p_now fok_12_60 wl_RX12_102 dX12_image_48 rfl ?_
      refine tj_bipush (q := 53) (v := 10) dX12_image_51 rfl (by decide) ?_
      refine tj_iaload (q := 54) (hT).s_now dX12_image_53 rfl ?_
      refine tj_topI (fun v3 => ?_)
      exact tj_iret rfl rfl (Nat.le_of_ble_eq_true rfl) (Nat.le_of_ble_eq_true rfl) dX12_image_54
    · refine tj_aload_n (q := 25) dX12_image_24 rfl (i := 0) rfl (pl := 0) rfl ?_
      refine tj_getR (q := 28) (hT).s (hT).p_boxes fok_12_90 wl_RX12_160 dX12_image_25 rfl ?_
      refine tj_bipush (q := 30) (v := 20) dX12_image_28 rfl (by decide) ?_
      refine tj_iload_n (q := 31) dX12_image_30 rfl (i := 1) rfl (pl := 1) rfl ?_
      refine tj_imul (q := 32) dX12_image_31 rfl ?_
      refine tj_iload_n (q := 33) dX12_image_32 rfl (i := 2) rfl (pl := 2) rfl ?_
      refine tj_iadd (q := 34) dX12_image_33 rfl ?_
      refine tj_aload_n (q := 35) dX12_image_34 rfl (i := 0) rfl (pl := 0) rfl ?_
      refine tj_getR (q := 38) (hT).s (hT).p_now fok_12_60 wl_RX12_102 dX12_image_35 rfl ?_
      refine tj_iload_n (q := 39) dX12_image_38 rfl (i := 2) rfl (pl := 2) rfl ?_
      refine tj_iaload (q := 40) (hT).s_now dX12_image_39 rfl ?_
      refine tj_topI (fun v4 => ?_)
      refine tj_sndI (fun v5 => ?_)
      refine tj_iastore (q := 41) (hT).s_boxes dX12_image_40 rfl (fun σ6 => ?_)
      refine tj_iinc (q := 44) (v := x2 + 1) dX12_image_41 rfl (pl := 2) rfl rfl (by decide) rfl ?_
      refine tj_goto (q := 18) dX12_image_44 (by decide) ?_
      refine tj_lv [1, 2, 0] rfl ?_
      exact ih (x2 + 1) σ6

set_option maxHeartbeats 4000000 in
theorem rX12_image (t : Nat) (p1 : Int32) (hT : LY12 sh P t) : Rj l D cA h0 ad yX12_image cX12_image 3 (some .int) false 3 0 0 (fun b => (some (.int b.1), sh, P, b.2)) [.ref (h0 + t), .int p1] sh P σ (mX12_image t p1 σ) := by
  rw [mX12_image]
  refine Rj.of (by decide) (fun h => by cases h) (Nat.le_of_ble_eq_true rfl) ?_
  refine tj_lv0 (lv' := [(0, .ref (h0 + t)), (1, .int p1)]) rfl ?_
  refine tj_iload_n (q := 1) dX12_image_0 rfl (i := 1) rfl (pl := 1) rfl ?_
  refine tj_callZp (q := 4) (kj_S (As := [.int p1]) (rest := []) wi_RX12_602 (rX12_isBox p1) rfl (Nat.le_of_ble_eq_true rfl) ⟨Nat.le_of_ble_eq_true rfl, Nat.le_of_ble_eq_true rfl⟩ (Nat.le_of_ble_eq_true rfl) dX12_image_1) rfl (fun r1 => ?_)
  refine tj_bnz (tgt := 9) (q := 7) dX12_image_4 (by decide) rfl ?_ ?_
  · refine tj_aload_n (q := 10) dX12_image_9 rfl (i := 0) rfl (pl := 0) rfl ?_
    refine tj_getR (q := 13) (hT).s (hT).p_hasBox fok_12_89 wl_RX12_157 dX12_image_10 rfl ?_
    refine tj_iload_n (q := 14) dX12_image_13 rfl (i := 1) rfl (pl := 1) rfl ?_
    refine tj_iconst (q := 15) (v := 1) dX12_image_14 rfl (by decide) ?_
    refine tj_zastore (x := true) (q := 16) (hT).s_hasBox dX12_image_15 rfl (fun σ2 => ?_)
    refine tj_iconst (q := 17) (v := 0) dX12_image_16 rfl (by decide) ?_
    refine tj_istore_n (q := 18) dX12_image_17 rfl (i := 2) rfl (by decide) rfl ?_
    refine tj_lv [1, 2, 0] rfl ?_
    exact tmX12_image_L18 t hT p1 FU (0 : Int32) σ2
  · refine tj_iconst (q := 8) (v := (-1)) dX12_image_7 rfl (by decide) ?_
    exact tj_iret rfl rfl (Nat.le_of_ble_eq_true rfl) (Nat.le_of_ble_eq_true rfl) dX12_image_8

theorem dX12_back_0 : decode cX12_back 0 = .ok (.iload_n 1, 1) := by decide +kernel
theorem dX12_back_1 : decode cX12_back 1 = .ok (.invokestatic 602, 3) := by decide +kernel
theorem dX12_back_4 : decode cX12_back 4 = .ok (.ifCond .eq 12, 3) := by decide +kernel
theorem dX12_back_7 : decode cX12_back 7 = .ok (.aload_n 0, 1) := by decide +kernel
theorem dX12_back_8 : decode cX12_back 8 = .ok (.getfield 157, 3) := by decide +kernel
theorem dX12_back_11 : decode cX12_back 11 = .ok (.iload_n 1, 1) := by decide +kernel
theorem dX12_back_12 : decode cX12_back 12 = .ok (.baload, 1) := by decide +kernel
theorem dX12_back_13 : decode cX12_back 13 = .ok (.ifCond .ne 5, 3) := by decide +kernel
theorem dX12_back_16 : decode cX12_back 16 = .ok (.iconst (-1), 1) := by decide +kernel
theorem dX12_back_17 : decode cX12_back 17 = .ok (.ireturn, 1) := by decide +kernel
theorem dX12_back_18 : decode cX12_back 18 = .ok (.iconst 0, 1) := by decide +kernel
theorem dX12_back_19 : decode cX12_back 19 = .ok (.istore_n 2, 1) := by decide +kernel
theorem dX12_back_20 : decode cX12_back 20 = .ok (.iload_n 2, 1) := by decide +kernel
theorem dX12_back_21 : decode cX12_back 21 = .ok (.bipush 17, 2) := by decide +kernel
theorem dX12_back_23 : decode cX12_back 23 = .ok (.if_icmp .ge 26, 3) := by decide +kernel
theorem dX12_back_26 : decode cX12_back 26 = .ok (.aload_n 0, 1) := by decide +kernel
theorem dX12_back_27 : decode cX12_back 27 = .ok (.getfield 102, 3) := by decide +kernel
theorem dX12_back_30 : decode cX12_back 30 = .ok (.iload_n 2, 1) := by decide +kernel
theorem dX12_back_31 : decode cX12_back 31 = .ok (.aload_n 0, 1) := by decide +kernel
theorem dX12_back_32 : decode cX12_back 32 = .ok (.getfield 160, 3) := by decide +kernel
theorem dX12_back_35 : decode cX12_back 35 = .ok (.bipush 20, 2) := by decide +kernel
theorem dX12_back_37 : decode cX12_back 37 = .ok (.iload_n 1, 1) := by decide +kernel
theorem dX12_back_38 : decode cX12_back 38 = .ok (.imul, 1) := by decide +kernel
theorem dX12_back_39 : decode cX12_back 39 = .ok (.iload_n 2, 1) := by decide +kernel
theorem dX12_back_40 : decode cX12_back 40 = .ok (.iadd, 1) := by decide +kernel
theorem dX12_back_41 : decode cX12_back 41 = .ok (.iaload, 1) := by decide +kernel
theorem dX12_back_42 : decode cX12_back 42 = .ok (.iastore, 1) := by decide +kernel
theorem dX12_back_43 : decode cX12_back 43 = .ok (.iinc 2 1, 3) := by decide +kernel
theorem dX12_back_46 : decode cX12_back 46 = .ok (.goto (-26), 3) := by decide +kernel
theorem dX12_back_49 : decode cX12_back 49 = .ok (.aload_n 0, 1) := by decide +kernel
theorem dX12_back_50 : decode cX12_back 50 = .ok (.iconst 0, 1) := by decide +kernel
theorem dX12_back_51 : decode cX12_back 51 = .ok (.putfield 434, 3) := by decide +kernel
theorem dX12_back_54 : decode cX12_back 54 = .ok (.aload_n 0, 1) := by decide +kernel
theorem dX12_back_55 : decode cX12_back 55 = .ok (.iconst 0, 1) := by decide +kernel
theorem dX12_back_56 : decode cX12_back 56 = .ok (.putfield 437, 3) := by decide +kernel
theorem dX12_back_59 : decode cX12_back 59 = .ok (.aload_n 0, 1) := by decide +kernel
theorem dX12_back_60 : decode cX12_back 60 = .ok (.getfield 102, 3) := by decide +kernel
theorem dX12_back_63 : decode cX12_back 63 = .ok (.bipush 10, 2) := by decide +kernel
theorem dX12_back_65 : decode cX12_back 65 = .ok (.iaload, 1) := by decide +kernel
theorem dX12_back_66 : decode cX12_back 66 = .ok (.ireturn, 1) := by decide +kernel
def mX12_back_L20 (t : Nat) (x1 : Int32) (k49 : St_ → Option (Int32 × St_)) : Nat → Int32 → St_ → Option (Int32 × St_)
  | 0, _, _ => none
  | n + 1, x2, σ => (if (17 : Int32) ≤ x2 then
 (k49 σ)
 else (bnd (((20 : Int32) * x1) + x2) fun v3 =>
 (if bin v3 60 = true then bnd (σ.1 (t + 46) v3.toNatClampNeg) fun v4 =>
 (if bin x2 20 = true then bnd (sI σ (t + 29) x2.toNatClampNeg v4) fun σ5 =>
 (mX12_back_L20 t x1 k49 n (x2 + 1) σ5)
 else none)
 else none)))
def mX12_back (t : Nat) (p1 : Int32) (σ : St_) : Option (Int32 × St_) :=
 ((mX12_isBox p1 σ).bind fun r1 =>
 (if r1 = true then
 (if bin p1 3 = true then if isB (σ.1 (t + 45) p1.toNatClampNeg) = true then bnd (σ.1 (t + 45) p1.toNatClampNeg == 1) fun v2 =>
 (if v2 = true then
 (mX12_back_L20 t p1
 (fun (σ6 : St_) => (bnd (sI σ6 t 68 (0 : Int32)) fun σ7 =>
 (bnd (sI σ7 t 69 (0 : Int32)) fun σ8 =>
 (if bin (10 : Int32) 20 = true then bnd (σ8.1 (t + 29) (10 : Int32).toNatClampNeg) fun v9 =>
 (some (v9, σ8))
 else none)))) FU (0 : Int32) σ)
 else (some ((-1 : Int32), σ)))
 else none else none)
 else (some ((-1 : Int32), σ))))
set_option maxHeartbeats 4000000 in
theorem tmX12_back_L20 (t : Nat) (hT : LY12 sh P t) (x1 : Int32) (k49 : St_ → Option (Int32 × St_)) (hk49 : ∀ (σ1 : St_), Tj l D cA h0 ad RX12 cX12_back 3 (some .int) false 3 0 0 (fun b => (some (.int b.1), sh, P, b.2)) 0 0 sh P σ1 49 [(0, .ref (h0 + t))] [] (k49 σ1)) : ∀ (n : Nat) (x2 : Int32) (σ : St_), Tj l D cA h0 ad RX12 cX12_back 3 (some .int) false 3 0 0 (fun b => (some (.int b.1), sh, P, b.2)) 0 0 sh P σ 20 [(0, .ref (h0 + t)), (1, .int x1), (2, .int x2)] [] (mX12_back_L20 t x1 k49 n x2 σ) := by
  intro n
  induction n with
  | zero => intros; exact tj_none
  | succ n ih =>
    intro x2 σ
    rw [mX12_back_L20]
    refine tj_iload_n (q := 21) dX12_back_20 rfl (i := 2) rfl (pl := 2) rfl ?_
    refine tj_bipush (q := 23) (v := 17) dX12_back_21 rfl (by decide) ?_
    refine tj_icmp_ge (tgt := 49) (q := 26) dX12_back_23 (by decide) rfl ?_ ?_
    · refine tj_lv [0] rfl ?_
      exact hk49 σ
    · refine tj_aload_n (q := 27) dX12_back_26 rfl (i := 0) rfl (pl := 0) rfl ?_
      refine tj_getR (q := 30) (hT).s (hT).p_now fok_12_60 wl_RX12_102 dX12_back_27 rfl ?_
      refine tj_iload_n (q := 31) dX12_back_30 rfl (i := 2) rfl (pl := 2) rfl ?_
      refine tj_aload_n (q := 32) dX12_back_31 rfl (i := 0) rfl (pl := 0) rfl ?_
      refine tj_getR (q := 35) (hT).s (hT).p_boxes fok_12_90 wl_RX12_160 dX12_back_32 rfl ?_
      refine tj_bipush (q := 37) (v := 20) dX12_back_35 rfl (by decide) ?_
      refine tj_iload_n (q := 38) dX12_back_37 rfl (i := 1) rfl (pl := 1) rfl ?_
      refine tj_imul (q := 39) dX12_back_38 rfl ?_
      refine tj_iload_n (q := 40) dX12_back_39 rfl (i := 2) rfl (pl := 2) rfl ?_
      refine tj_iadd (q := 41) dX12_back_40 rfl ?_
      refine tj_topI (fun v3 => ?_)
      refine tj_iaload (q := 42) (hT).s_boxes dX12_back_41 rfl ?_
      refine tj_topI (fun v4 => ?_)
      refine tj_iastore (q := 43) (hT).s_now dX12_back_42 rfl (fun σ5 => ?_)
      refine tj_iinc (q := 46) (v := x2 + 1) dX12_back_43 rfl (pl := 2) rfl rfl (by decide) rfl ?_
      refine tj_goto (q := 20) dX12_back_46 (by decide) ?_
      refine tj_lv [1, 2, 0] rfl ?_
      exact ih (x2 + 1) σ5

set_option maxHeartbeats 4000000 in
theorem rX12_back (t : Nat) (p1 : Int32) (hT : LY12 sh P t) : Rj l D cA h0 ad yX12_back cX12_back 3 (some .int) false 3 0 0 (fun b => (some (.int b.1), sh, P, b.2)) [.ref (h0 + t), .int p1] sh P σ (mX12_back t p1 σ) := by
  rw [mX12_back]
  refine Rj.of (by decide) (fun h => by cases h) (Nat.le_of_ble_eq_true rfl) ?_
  refine tj_lv0 (lv' := [(0, .ref (h0 + t)), (1, .int p1)]) rfl ?_
  refine tj_iload_n (q := 1) dX12_back_0 rfl (i := 1) rfl (pl := 1) rfl ?_
  refine tj_callZp (q := 4) (kj_S (As := [.int p1]) (rest := []) wi_RX12_602 (rX12_isBox p1) rfl (Nat.le_of_ble_eq_true rfl) ⟨Nat.le_of_ble_eq_true rfl, Nat.le_of_ble_eq_true rfl⟩ (Nat.le_of_ble_eq_true rfl) dX12_back_1) rfl (fun r1 => ?_)
  refine tj_bz (tgt := 16) (q := 7) dX12_back_4 (by decide) rfl ?_ ?_
  · refine tj_aload_n (q := 8) dX12_back_7 rfl (i := 0) rfl (pl := 0) rfl ?_
    refine tj_getR (q := 11) (hT).s (hT).p_hasBox fok_12_89 wl_RX12_157 dX12_back_8 rfl ?_
    refine tj_iload_n (q := 12) dX12_back_11 rfl (i := 1) rfl (pl := 1) rfl ?_
    refine tj_zaloadB (q := 13) (hT).s_hasBox dX12_back_12 rfl (fun v2 => ?_)
    refine tj_bnz (tgt := 18) (q := 16) dX12_back_13 (by decide) rfl ?_ ?_
    · refine tj_iconst (q := 19) (v := 0) dX12_back_18 rfl (by decide) ?_
      refine tj_istore_n (q := 20) dX12_back_19 rfl (i := 2) rfl (by decide) rfl ?_
      refine tj_lv [1, 2, 0] rfl ?_
      refine tmX12_back_L20 t hT p1 _ ?_ FU (0 : Int32) σ
      · intro σ6
        refine tj_aload_n (q := 50) dX12_back_49 rfl (i := 0) rfl (pl := 0) rfl ?_
        refine tj_iconst (q := 51) (v := 0) dX12_back_50 rfl (by decide) ?_
        refine tj_putI (q := 54) (hT).s fok_12_68 tok_12 fpk_12_68 wl_RX12_434 dX12_back_51 rfl (fun σ7 => ?_)
        refine tj_aload_n (q := 55) dX12_back_54 rfl (i := 0) rfl (pl := 0) rfl ?_
        refine tj_iconst (q := 56) (v := 0) dX12_back_55 rfl (by decide) ?_
        refine tj_putI (q := 59) (hT).s fok_12_69 tok_12 fpk_12_69 wl_RX12_437 dX12_back_56 rfl (fun σ8 => ?_)
        refine tj_aload_n (q := 60) dX12_back_59 rfl (i := 0) rfl (pl := 0) rfl ?_
        refine tj_getR (q := 63) (hT).s (hT).p_now fok_12_60 wl_RX12_102 dX12_back_60 rfl ?_
        refine tj_bipush (q := 65) (v := 10) dX12_back_63 rfl (by decide) ?_
        refine tj_iaload (q := 66) (hT).s_now dX12_back_65 rfl ?_
        refine tj_topI (fun v9 => ?_)
        exact tj_iret rfl rfl (Nat.le_of_ble_eq_true rfl) (Nat.le_of_ble_eq_true rfl) dX12_back_66
    · refine tj_iconst (q := 17) (v := (-1)) dX12_back_16 rfl (by decide) ?_
      exact tj_iret rfl rfl (Nat.le_of_ble_eq_true rfl) (Nat.le_of_ble_eq_true rfl) dX12_back_17
  · refine tj_iconst (q := 17) (v := (-1)) dX12_back_16 rfl (by decide) ?_
    exact tj_iret rfl rfl (Nat.le_of_ble_eq_true rfl) (Nat.le_of_ble_eq_true rfl) dX12_back_17

theorem dX12_about_0 : decode cX12_about 0 = .ok (.iload_n 1, 1) := by decide +kernel
theorem dX12_about_1 : decode cX12_about 1 = .ok (.tableswitch 195 0 15 #[79, 84, 89, 94, 99, 107, 115, 120, 128, 160, 165, 170, 175, 180, 185, 190], 79) := by decide +kernel
theorem dX12_about_80 : decode cX12_about 80 = .ok (.aload_n 0, 1) := by decide +kernel
theorem dX12_about_81 : decode cX12_about 81 = .ok (.getfield 419, 3) := by decide +kernel
theorem dX12_about_84 : decode cX12_about 84 = .ok (.ireturn, 1) := by decide +kernel
theorem dX12_about_85 : decode cX12_about 85 = .ok (.aload_n 0, 1) := by decide +kernel
theorem dX12_about_86 : decode cX12_about 86 = .ok (.getfield 422, 3) := by decide +kernel
theorem dX12_about_89 : decode cX12_about 89 = .ok (.ireturn, 1) := by decide +kernel
theorem dX12_about_90 : decode cX12_about 90 = .ok (.aload_n 0, 1) := by decide +kernel
theorem dX12_about_91 : decode cX12_about 91 = .ok (.getfield 425, 3) := by decide +kernel
theorem dX12_about_94 : decode cX12_about 94 = .ok (.ireturn, 1) := by decide +kernel
theorem dX12_about_95 : decode cX12_about 95 = .ok (.aload_n 0, 1) := by decide +kernel
theorem dX12_about_96 : decode cX12_about 96 = .ok (.getfield 416, 3) := by decide +kernel
theorem dX12_about_99 : decode cX12_about 99 = .ok (.ireturn, 1) := by decide +kernel
theorem dX12_about_100 : decode cX12_about 100 = .ok (.aload_n 0, 1) := by decide +kernel
theorem dX12_about_101 : decode cX12_about 101 = .ok (.getfield 102, 3) := by decide +kernel
theorem dX12_about_104 : decode cX12_about 104 = .ok (.bipush 10, 2) := by decide +kernel
theorem dX12_about_106 : decode cX12_about 106 = .ok (.iaload, 1) := by decide +kernel
theorem dX12_about_107 : decode cX12_about 107 = .ok (.ireturn, 1) := by decide +kernel
theorem dX12_about_108 : decode cX12_about 108 = .ok (.aload_n 0, 1) := by decide +kernel
theorem dX12_about_109 : decode cX12_about 109 = .ok (.getfield 102, 3) := by decide +kernel
theorem dX12_about_112 : decode cX12_about 112 = .ok (.bipush 11, 2) := by decide +kernel
theorem dX12_about_114 : decode cX12_about 114 = .ok (.iaload, 1) := by decide +kernel
theorem dX12_about_115 : decode cX12_about 115 = .ok (.ireturn, 1) := by decide +kernel
theorem dX12_about_116 : decode cX12_about 116 = .ok (.aload_n 0, 1) := by decide +kernel
theorem dX12_about_117 : decode cX12_about 117 = .ok (.getfield 99, 3) := by decide +kernel
theorem dX12_about_120 : decode cX12_about 120 = .ok (.ireturn, 1) := by decide +kernel
theorem dX12_about_121 : decode cX12_about 121 = .ok (.aload_n 0, 1) := by decide +kernel
theorem dX12_about_122 : decode cX12_about 122 = .ok (.getfield 102, 3) := by decide +kernel
theorem dX12_about_125 : decode cX12_about 125 = .ok (.bipush 12, 2) := by decide +kernel
theorem dX12_about_127 : decode cX12_about 127 = .ok (.iaload, 1) := by decide +kernel
theorem dX12_about_128 : decode cX12_about 128 = .ok (.ireturn, 1) := by decide +kernel
theorem dX12_about_129 : decode cX12_about 129 = .ok (.aload_n 0, 1) := by decide +kernel
theorem dX12_about_130 : decode cX12_about 130 = .ok (.getfield 102, 3) := by decide +kernel
theorem dX12_about_133 : decode cX12_about 133 = .ok (.bipush 13, 2) := by decide +kernel
theorem dX12_about_135 : decode cX12_about 135 = .ok (.iaload, 1) := by decide +kernel
theorem dX12_about_136 : decode cX12_about 136 = .ok (.aload_n 0, 1) := by decide +kernel
theorem dX12_about_137 : decode cX12_about 137 = .ok (.getfield 102, 3) := by decide +kernel
theorem dX12_about_140 : decode cX12_about 140 = .ok (.bipush 14, 2) := by decide +kernel
theorem dX12_about_142 : decode cX12_about 142 = .ok (.iaload, 1) := by decide +kernel
theorem dX12_about_143 : decode cX12_about 143 = .ok (.iadd, 1) := by decide +kernel
theorem dX12_about_144 : decode cX12_about 144 = .ok (.aload_n 0, 1) := by decide +kernel
theorem dX12_about_145 : decode cX12_about 145 = .ok (.getfield 102, 3) := by decide +kernel
theorem dX12_about_148 : decode cX12_about 148 = .ok (.bipush 15, 2) := by decide +kernel
theorem dX12_about_150 : decode cX12_about 150 = .ok (.iaload, 1) := by decide +kernel
theorem dX12_about_151 : decode cX12_about 151 = .ok (.iadd, 1) := by decide +kernel
theorem dX12_about_152 : decode cX12_about 152 = .ok (.aload_n 0, 1) := by decide +kernel
theorem dX12_about_153 : decode cX12_about 153 = .ok (.getfield 102, 3) := by decide +kernel
theorem dX12_about_156 : decode cX12_about 156 = .ok (.bipush 16, 2) := by decide +kernel
theorem dX12_about_158 : decode cX12_about 158 = .ok (.iaload, 1) := by decide +kernel
theorem dX12_about_159 : decode cX12_about 159 = .ok (.iadd, 1) := by decide +kernel
theorem dX12_about_160 : decode cX12_about 160 = .ok (.ireturn, 1) := by decide +kernel
theorem dX12_about_161 : decode cX12_about 161 = .ok (.aload_n 0, 1) := by decide +kernel
theorem dX12_about_162 : decode cX12_about 162 = .ok (.getfield 434, 3) := by decide +kernel
theorem dX12_about_165 : decode cX12_about 165 = .ok (.ireturn, 1) := by decide +kernel
theorem dX12_about_166 : decode cX12_about 166 = .ok (.aload_n 0, 1) := by decide +kernel
theorem dX12_about_167 : decode cX12_about 167 = .ok (.getfield 437, 3) := by decide +kernel
theorem dX12_about_170 : decode cX12_about 170 = .ok (.ireturn, 1) := by decide +kernel
theorem dX12_about_171 : decode cX12_about 171 = .ok (.aload_n 0, 1) := by decide +kernel
theorem dX12_about_172 : decode cX12_about 172 = .ok (.getfield 440, 3) := by decide +kernel
theorem dX12_about_175 : decode cX12_about 175 = .ok (.ireturn, 1) := by decide +kernel
theorem dX12_about_176 : decode cX12_about 176 = .ok (.aload_n 0, 1) := by decide +kernel
theorem dX12_about_177 : decode cX12_about 177 = .ok (.getfield 614, 3) := by decide +kernel
theorem dX12_about_180 : decode cX12_about 180 = .ok (.ireturn, 1) := by decide +kernel
theorem dX12_about_181 : decode cX12_about 181 = .ok (.aload_n 0, 1) := by decide +kernel
theorem dX12_about_182 : decode cX12_about 182 = .ok (.getfield 163, 3) := by decide +kernel
theorem dX12_about_185 : decode cX12_about 185 = .ok (.ireturn, 1) := by decide +kernel
theorem dX12_about_186 : decode cX12_about 186 = .ok (.aload_n 0, 1) := by decide +kernel
theorem dX12_about_187 : decode cX12_about 187 = .ok (.getfield 431, 3) := by decide +kernel
theorem dX12_about_190 : decode cX12_about 190 = .ok (.ireturn, 1) := by decide +kernel
theorem dX12_about_191 : decode cX12_about 191 = .ok (.aload_n 0, 1) := by decide +kernel
theorem dX12_about_192 : decode cX12_about 192 = .ok (.getfield 443, 3) := by decide +kernel
theorem dX12_about_195 : decode cX12_about 195 = .ok (.ireturn, 1) := by decide +kernel
theorem dX12_about_196 : decode cX12_about 196 = .ok (.iconst (-1), 1) := by decide +kernel
theorem dX12_about_197 : decode cX12_about 197 = .ok (.ireturn, 1) := by decide +kernel
def mX12_about (t : Nat) (p1 : Int32) (σ : St_) : Option Int32 :=
 (if p1 = 0 then (some (σ.1 t 52))
 else (if p1 = 1 then (some (σ.1 t 53))
 else (if p1 = 2 then (some (σ.1 t 54))
 else (if p1 = 3 then (some (σ.1 t 51))
 else (if p1 = 4 then (if bin (10 : Int32) 20 = true then bnd (σ.1 (t + 29) (10 : Int32).toNatClampNeg) fun v6 =>
 (some v6)
 else none)
 else (if p1 = 5 then (if bin (11 : Int32) 20 = true then bnd (σ.1 (t + 29) (11 : Int32).toNatClampNeg) fun v8 =>
 (some v8)
 else none)
 else (if p1 = 6 then (some (σ.1 t 55))
 else (if p1 = 7 then (if bin (12 : Int32) 20 = true then bnd (σ.1 (t + 29) (12 : Int32).toNatClampNeg) fun v11 =>
 (some v11)
 else none)
 else (if p1 = 8 then (if bin (13 : Int32) 20 = true then bnd (σ.1 (t + 29) (13 : Int32).toNatClampNeg) fun v13 =>
 (if bin (14 : Int32) 20 = true then bnd (σ.1 (t + 29) (14 : Int32).toNatClampNeg) fun v14 =>
 (if bin (15 : Int32) 20 = true then bnd (σ.1 (t + 29) (15 : Int32).toNatClampNeg) fun v15 =>
 (if bin (16 : Int32) 20 = true then bnd (σ.1 (t + 29) (16 : Int32).toNatClampNeg) fun v16 =>
 (some (((v13 + v14) + v15) + v16))
 else none)
 else none)
 else none)
 else none)
 else (if p1 = 9 then (some (σ.1 t 68))
 else (if p1 = 10 then (some (σ.1 t 69))
 else (if p1 = 11 then (some (σ.1 t 86))
 else (if p1 = 12 then (some (σ.1 t 87))
 else (if p1 = 13 then (some (σ.1 t 1))
 else (if p1 = 14 then (some (σ.1 t 23))
 else (if p1 = 15 then (some (σ.1 t 71))
 else (some (-1 : Int32))))))))))))))))))
set_option maxHeartbeats 4000000 in
theorem rX12_about (t : Nat) (p1 : Int32) (hT : LY12 sh P t) : Rj l D cA h0 ad yX12_about cX12_about 2 (some .int) false 2 0 0 (fun b => (some (.int b), sh, P, σ)) [.ref (h0 + t), .int p1] sh P σ (mX12_about t p1 σ) := by
  rw [mX12_about]
  refine Rj.of (by decide) (fun h => by cases h) (Nat.le_of_ble_eq_true rfl) ?_
  refine tj_lv0 (lv' := [(0, .ref (h0 + t)), (1, .int p1)]) rfl ?_
  refine tj_iload_n (q := 1) dX12_about_0 rfl (i := 1) rfl (pl := 1) rfl ?_
  refine tj_caseI (fun hc1 => ?_) (fun hc1 => ?_)
  · refine tj_tin (tgt := 80) (k := 0) (off := 79) dX12_about_1 hc1 (by decide) (by decide) (by decide) (by decide) ?_
    refine tj_aload_n (q := 81) dX12_about_80 rfl (i := 0) rfl (pl := 0) rfl ?_
    refine tj_getI (q := 84) (hT).s fok_12_52 wl_RX12_419 dX12_about_81 rfl ?_
    exact tj_iret rfl rfl (Nat.le_of_ble_eq_true rfl) (Nat.le_of_ble_eq_true rfl) dX12_about_84
  · refine tj_caseI (fun hc2 => ?_) (fun hc2 => ?_)
    · refine tj_tin (tgt := 85) (k := 1) (off := 84) dX12_about_1 hc2 (by decide) (by decide) (by decide) (by decide) ?_
      refine tj_aload_n (q := 86) dX12_about_85 rfl (i := 0) rfl (pl := 0) rfl ?_
      refine tj_getI (q := 89) (hT).s fok_12_53 wl_RX12_422 dX12_about_86 rfl ?_
      exact tj_iret rfl rfl (Nat.le_of_ble_eq_true rfl) (Nat.le_of_ble_eq_true rfl) dX12_about_89
    · refine tj_caseI (fun hc3 => ?_) (fun hc3 => ?_)
      · refine tj_tin (tgt := 90) (k := 2) (off := 89) dX12_about_1 hc3 (by decide) (by decide) (by decide) (by decide) ?_
        refine tj_aload_n (q := 91) dX12_about_90 rfl (i := 0) rfl (pl := 0) rfl ?_
        refine tj_getI (q := 94) (hT).s fok_12_54 wl_RX12_425 dX12_about_91 rfl ?_
        exact tj_iret rfl rfl (Nat.le_of_ble_eq_true rfl) (Nat.le_of_ble_eq_true rfl) dX12_about_94
      · refine tj_caseI (fun hc4 => ?_) (fun hc4 => ?_)
        · refine tj_tin (tgt := 95) (k := 3) (off := 94) dX12_about_1 hc4 (by decide) (by decide) (by decide) (by decide) ?_
          refine tj_aload_n (q := 96) dX12_about_95 rfl (i := 0) rfl (pl := 0) rfl ?_
          refine tj_getI (q := 99) (hT).s fok_12_51 wl_RX12_416 dX12_about_96 rfl ?_
          exact tj_iret rfl rfl (Nat.le_of_ble_eq_true rfl) (Nat.le_of_ble_eq_true rfl) dX12_about_99
        · refine tj_caseI (fun hc5 => ?_) (fun hc5 => ?_)
          · refine tj_tin (tgt := 100) (k := 4) (off := 99) dX12_about_1 hc5 (by decide) (by decide) (by decide) (by decide) ?_
            refine tj_aload_n (q := 101) dX12_about_100 rfl (i := 0) rfl (pl := 0) rfl ?_
            refine tj_getR (q := 104) (hT).s (hT).p_now fok_12_60 wl_RX12_102 dX12_about_101 rfl ?_
            refine tj_bipush (q := 106) (v := 10) dX12_about_104 rfl (by decide) ?_
            refine tj_iaload (q := 107) (hT).s_now dX12_about_106 rfl ?_
            refine tj_topI (fun v6 => ?_)
            exact tj_iret rfl rfl (Nat.le_of_ble_eq_true rfl) (Nat.le_of_ble_eq_true rfl) dX12_about_107
          · refine tj_caseI (fun hc7 => ?_) (fun hc7 => ?_)
            · refine tj_tin (tgt := 108) (k := 5) (off := 107) dX12_about_1 hc7 (by decide) (by decide) (by decide) (by decide) ?_
              refine tj_aload_n (q := 109) dX12_about_108 rfl (i := 0) rfl (pl := 0) rfl ?_
              refine tj_getR (q := 112) (hT).s (hT).p_now fok_12_60 wl_RX12_102 dX12_about_109 rfl ?_
              refine tj_bipush (q := 114) (v := 11) dX12_about_112 rfl (by decide) ?_
              refine tj_iaload (q := 115) (hT).s_now dX12_about_114 rfl ?_
              refine tj_topI (fun v8 => ?_)
              exact tj_iret rfl rfl (Nat.le_of_ble_eq_true rfl) (Nat.le_of_ble_eq_true rfl) dX12_about_115
            · refine tj_caseI (fun hc9 => ?_) (fun hc9 => ?_)
              · refine tj_tin (tgt := 116) (k := 6) (off := 115) dX12_about_1 hc9 (by decide) (by decide) (by decide) (by decide) ?_
                refine tj_aload_n (q := 117) dX12_about_116 rfl (i := 0) rfl (pl := 0) rfl ?_
                refine tj_getI (q := 120) (hT).s fok_12_55 wl_RX12_99 dX12_about_117 rfl ?_
                exact tj_iret rfl rfl (Nat.le_of_ble_eq_true rfl) (Nat.le_of_ble_eq_true rfl) dX12_about_120
              · refine tj_caseI (fun hc10 => ?_) (fun hc10 => ?_)
                · refine tj_tin (tgt := 121) (k := 7) (off := 120) dX12_about_1 hc10 (by decide) (by decide) (by decide) (by decide) ?_
                  refine tj_aload_n (q := 122) dX12_about_121 rfl (i := 0) rfl (pl := 0) rfl ?_
                  refine tj_getR (q := 125) (hT).s (hT).p_now fok_12_60 wl_RX12_102 dX12_about_122 rfl ?_
                  refine tj_bipush (q := 127) (v := 12) dX12_about_125 rfl (by decide) ?_
                  refine tj_iaload (q := 128) (hT).s_now dX12_about_127 rfl ?_
                  refine tj_topI (fun v11 => ?_)
                  exact tj_iret rfl rfl (Nat.le_of_ble_eq_true rfl) (Nat.le_of_ble_eq_true rfl) dX12_about_128
                · refine tj_caseI (fun hc12 => ?_) (fun hc12 => ?_)
                  · refine tj_tin (tgt := 129) (k := 8) (off := 128) dX12_about_1 hc12 (by decide) (by decide) (by decide) (by decide) ?_
                    refine tj_aload_n (q := 130) dX12_about_129 rfl (i := 0) rfl (pl := 0) rfl ?_
                    refine tj_getR (q := 133) (hT).s (hT).p_now fok_12_60 wl_RX12_102 dX12_about_130 rfl ?_
                    refine tj_bipush (q := 135) (v := 13) dX12_about_133 rfl (by decide) ?_
                    refine tj_iaload (q := 136) (hT).s_now dX12_about_135 rfl ?_
                    refine tj_topI (fun v13 => ?_)
                    refine tj_aload_n (q := 137) dX12_about_136 rfl (i := 0) rfl (pl := 0) rfl ?_
                    refine tj_getR (q := 140) (hT).s (hT).p_now fok_12_60 wl_RX12_102 dX12_about_137 rfl ?_
                    refine tj_bipush (q := 142) (v := 14) dX12_about_140 rfl (by decide) ?_
                    refine tj_iaload (q := 143) (hT).s_now dX12_about_142 rfl ?_
                    refine tj_topI (fun v14 => ?_)
                    refine tj_iadd (q := 144) dX12_about_143 rfl ?_
                    refine tj_aload_n (q := 145) dX12_about_144 rfl (i := 0) rfl (pl := 0) rfl ?_
                    refine tj_getR (q := 148) (hT).s (hT).p_now fok_12_60 wl_RX12_102 dX12_about_145 rfl ?_
                    refine tj_bipush (q := 150) (v := 15) dX12_about_148 rfl (by decide) ?_
                    refine tj_iaload (q := 151) (hT).s_now dX12_about_150 rfl ?_
                    refine tj_topI (fun v15 => ?_)
                    refine tj_iadd (q := 152) dX12_about_151 rfl ?_
                    refine tj_aload_n (q := 153) dX12_about_152 rfl (i := 0) rfl (pl := 0) rfl ?_
                    refine tj_getR (q := 156) (hT).s (hT).p_now fok_12_60 wl_RX12_102 dX12_about_153 rfl ?_
                    refine tj_bipush (q := 158) (v := 16) dX12_about_156 rfl (by decide) ?_
                    refine tj_iaload (q := 159) (hT).s_now dX12_about_158 rfl ?_
                    refine tj_topI (fun v16 => ?_)
                    refine tj_iadd (q := 160) dX12_about_159 rfl ?_
                    exact tj_iret rfl rfl (Nat.le_of_ble_eq_true rfl) (Nat.le_of_ble_eq_true rfl) dX12_about_160
                  · refine tj_caseI (fun hc17 => ?_) (fun hc17 => ?_)
                    · refine tj_tin (tgt := 161) (k := 9) (off := 160) dX12_about_1 hc17 (by decide) (by decide) (by decide) (by decide) ?_
                      refine tj_aload_n (q := 162) dX12_about_161 rfl (i := 0) rfl (pl := 0) rfl ?_
                      refine tj_getI (q := 165) (hT).s fok_12_68 wl_RX12_434 dX12_about_162 rfl ?_
                      exact tj_iret rfl rfl (Nat.le_of_ble_eq_true rfl) (Nat.le_of_ble_eq_true rfl) dX12_about_165
                    · refine tj_caseI (fun hc18 => ?_) (fun hc18 => ?_)
                      · refine tj_tin (tgt := 166) (k := 10) (off := 165) dX12_about_1 hc18 (by decide) (by decide) (by decide) (by decide) ?_
                        refine tj_aload_n (q := 167) dX12_about_166 rfl (i := 0) rfl (pl := 0) rfl ?_
                        refine tj_getI (q := 170) (hT).s fok_12_69 wl_RX12_437 dX12_about_167 rfl ?_
                        exact tj_iret rfl rfl (Nat.le_of_ble_eq_true rfl) (Nat.le_of_ble_eq_true rfl) dX12_about_170
                      · refine tj_caseI (fun hc19 => ?_) (fun hc19 => ?_)
                        · refine tj_tin (tgt := 171) (k := 11) (off := 170) dX12_about_1 hc19 (by decide) (by decide) (by decide) (by decide) ?_
                          refine tj_aload_n (q := 172) dX12_about_171 rfl (i := 0) rfl (pl := 0) rfl ?_
                          refine tj_getI (q := 175) (hT).s fok_12_86 wl_RX12_440 dX12_about_172 rfl ?_
                          exact tj_iret rfl rfl (Nat.le_of_ble_eq_true rfl) (Nat.le_of_ble_eq_true rfl) dX12_about_175
                        · refine tj_caseI (fun hc20 => ?_) (fun hc20 => ?_)
                          · refine tj_tin (tgt := 176) (k := 12) (off := 175) dX12_about_1 hc20 (by decide) (by decide) (by decide) (by decide) ?_
                            refine tj_aload_n (q := 177) dX12_about_176 rfl (i := 0) rfl (pl := 0) rfl ?_
                            refine tj_getI (q := 180) (hT).s fok_12_87 wl_RX12_614 dX12_about_177 rfl ?_
                            exact tj_iret rfl rfl (Nat.le_of_ble_eq_true rfl) (Nat.le_of_ble_eq_true rfl) dX12_about_180
                          · refine tj_caseI (fun hc21 => ?_) (fun hc21 => ?_)
                            · refine tj_tin (tgt := 181) (k := 13) (off := 180) dX12_about_1 hc21 (by decide) (by decide) (by decide) (by decide) ?_
                              refine tj_aload_n (q := 182) dX12_about_181 rfl (i := 0) rfl (pl := 0) rfl ?_
                              refine tj_getI (q := 185) (hT).s fok_12_1 wl_RX12_163 dX12_about_182 rfl ?_
                              exact tj_iret rfl rfl (Nat.le_of_ble_eq_true rfl) (Nat.le_of_ble_eq_true rfl) dX12_about_185
                            · refine tj_caseI (fun hc22 => ?_) (fun hc22 => ?_)
                              · refine tj_tin (tgt := 186) (k := 14) (off := 185) dX12_about_1 hc22 (by decide) (by decide) (by decide) (by decide) ?_
                                refine tj_aload_n (q := 187) dX12_about_186 rfl (i := 0) rfl (pl := 0) rfl ?_
                                refine tj_getI (q := 190) (hT).s fok_12_23 wl_RX12_431 dX12_about_187 rfl ?_
                                exact tj_iret rfl rfl (Nat.le_of_ble_eq_true rfl) (Nat.le_of_ble_eq_true rfl) dX12_about_190
                              · refine tj_caseI (fun hc23 => ?_) (fun hc23 => ?_)
                                · refine tj_tin (tgt := 191) (k := 15) (off := 190) dX12_about_1 hc23 (by decide) (by decide) (by decide) (by decide) ?_
                                  refine tj_aload_n (q := 192) dX12_about_191 rfl (i := 0) rfl (pl := 0) rfl ?_
                                  refine tj_getI (q := 195) (hT).s fok_12_71 wl_RX12_443 dX12_about_192 rfl ?_
                                  exact tj_iret rfl rfl (Nat.le_of_ble_eq_true rfl) (Nat.le_of_ble_eq_true rfl) dX12_about_195
                                · refine tj_dflt (tgt := 196) ?_ (fun hD24 => ?_)
                                  · refine tj_iconst (q := 197) (v := (-1)) dX12_about_196 rfl (by decide) ?_
                                    exact tj_iret rfl rfl (Nat.le_of_ble_eq_true rfl) (Nat.le_of_ble_eq_true rfl) dX12_about_197
                                  · exact tj_tout (tgt := 196) dX12_about_1 (by have e0 := lv_neT (a := 0) hc1 (by decide); have e1 := lv_neT (a := 1) hc2 (by decide); have e2 := lv_neT (a := 2) hc3 (by decide); have e3 := lv_neT (a := 3) hc4 (by decide); have e4 := lv_neT (a := 4) hc5 (by decide); have e5 := lv_neT (a := 5) hc7 (by decide); have e6 := lv_neT (a := 6) hc9 (by decide); have e7 := lv_neT (a := 7) hc10 (by decide); have e8 := lv_neT (a := 8) hc12 (by decide); have e9 := lv_neT (a := 9) hc17 (by decide); have e10 := lv_neT (a := 10) hc18 (by decide); have e11 := lv_neT (a := 11) hc19 (by decide); have e12 := lv_neT (a := 12) hc20 (by decide); have e13 := lv_neT (a := 13) hc21 (by decide); have e14 := lv_neT (a := 14) hc22 (by decide); have e15 := lv_neT (a := 15) hc23 (by decide); omega) (by decide) hD24

end
