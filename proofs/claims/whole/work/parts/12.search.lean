section
variable {l : Launch} {D : va_G} {cA : Nat → ClassId} {h0 : Nat} {ad : Ad_} {sh : Sh_} {P : Px_} {σ : St_}
theorem dX7_come_0 : decode cX7_come 0 = .ok (.lload_n 1, 1) := by decide +kernel
theorem dX7_come_1 : decode cX7_come 1 = .ok (.lload_n 1, 1) := by decide +kernel
theorem dX7_come_2 : decode cX7_come 2 = .ok (.bipush 13, 2) := by decide +kernel
theorem dX7_come_4 : decode cX7_come 4 = .ok (.lushr, 1) := by decide +kernel
theorem dX7_come_5 : decode cX7_come 5 = .ok (.lxor, 1) := by decide +kernel
theorem dX7_come_6 : decode cX7_come 6 = .ok (.lload_n 1, 1) := by decide +kernel
theorem dX7_come_7 : decode cX7_come 7 = .ok (.bipush 27, 2) := by decide +kernel
theorem dX7_come_9 : decode cX7_come 9 = .ok (.lushr, 1) := by decide +kernel
theorem dX7_come_10 : decode cX7_come 10 = .ok (.lxor, 1) := by decide +kernel
theorem dX7_come_11 : decode cX7_come 11 = .ok (.lload_n 1, 1) := by decide +kernel
theorem dX7_come_12 : decode cX7_come 12 = .ok (.bipush 41, 2) := by decide +kernel
theorem dX7_come_14 : decode cX7_come 14 = .ok (.lushr, 1) := by decide +kernel
theorem dX7_come_15 : decode cX7_come 15 = .ok (.lxor, 1) := by decide +kernel
theorem dX7_come_16 : decode cX7_come 16 = .ok (.l2i, 1) := by decide +kernel
theorem dX7_come_17 : decode cX7_come 17 = .ok (.sipush 4095, 3) := by decide +kernel
theorem dX7_come_20 : decode cX7_come 20 = .ok (.iand, 1) := by decide +kernel
theorem dX7_come_21 : decode cX7_come 21 = .ok (.istore 4, 2) := by decide +kernel
theorem dX7_come_23 : decode cX7_come 23 = .ok (.iconst 0, 1) := by decide +kernel
theorem dX7_come_24 : decode cX7_come 24 = .ok (.istore 5, 2) := by decide +kernel
theorem dX7_come_26 : decode cX7_come 26 = .ok (.iload 5, 2) := by decide +kernel
theorem dX7_come_28 : decode cX7_come 28 = .ok (.sipush 4096, 3) := by decide +kernel
theorem dX7_come_31 : decode cX7_come 31 = .ok (.if_icmp .ge 63, 3) := by decide +kernel
theorem dX7_come_34 : decode cX7_come 34 = .ok (.aload_n 0, 1) := by decide +kernel
theorem dX7_come_35 : decode cX7_come 35 = .ok (.getfield 33, 3) := by decide +kernel
theorem dX7_come_38 : decode cX7_come 38 = .ok (.iload 4, 2) := by decide +kernel
theorem dX7_come_40 : decode cX7_come 40 = .ok (.iaload, 1) := by decide +kernel
theorem dX7_come_41 : decode cX7_come 41 = .ok (.istore 6, 2) := by decide +kernel
theorem dX7_come_43 : decode cX7_come 43 = .ok (.iload 6, 2) := by decide +kernel
theorem dX7_come_45 : decode cX7_come 45 = .ok (.aload_n 0, 1) := by decide +kernel
theorem dX7_come_46 : decode cX7_come 46 = .ok (.getfield 40, 3) := by decide +kernel
theorem dX7_come_49 : decode cX7_come 49 = .ok (.if_icmp .lt 45, 3) := by decide +kernel
theorem dX7_come_52 : decode cX7_come 52 = .ok (.iload 6, 2) := by decide +kernel
theorem dX7_come_54 : decode cX7_come 54 = .ok (.aload_n 0, 1) := by decide +kernel
theorem dX7_come_55 : decode cX7_come 55 = .ok (.getfield 36, 3) := by decide +kernel
theorem dX7_come_58 : decode cX7_come 58 = .ok (.if_icmp .lt 6, 3) := by decide +kernel
theorem dX7_come_61 : decode cX7_come 61 = .ok (.goto 33, 3) := by decide +kernel
theorem dX7_come_64 : decode cX7_come 64 = .ok (.aload_n 0, 1) := by decide +kernel
theorem dX7_come_65 : decode cX7_come 65 = .ok (.getfield 25, 3) := by decide +kernel
theorem dX7_come_68 : decode cX7_come 68 = .ok (.iload 6, 2) := by decide +kernel
theorem dX7_come_70 : decode cX7_come 70 = .ok (.laload, 1) := by decide +kernel
theorem dX7_come_71 : decode cX7_come 71 = .ok (.lload_n 1, 1) := by decide +kernel
theorem dX7_come_72 : decode cX7_come 72 = .ok (.lcmp, 1) := by decide +kernel
theorem dX7_come_73 : decode cX7_come 73 = .ok (.ifCond .ne 5, 3) := by decide +kernel
theorem dX7_come_76 : decode cX7_come 76 = .ok (.iconst 1, 1) := by decide +kernel
theorem dX7_come_77 : decode cX7_come 77 = .ok (.ireturn, 1) := by decide +kernel
theorem dX7_come_78 : decode cX7_come 78 = .ok (.iload 4, 2) := by decide +kernel
theorem dX7_come_80 : decode cX7_come 80 = .ok (.iconst 1, 1) := by decide +kernel
theorem dX7_come_81 : decode cX7_come 81 = .ok (.iadd, 1) := by decide +kernel
theorem dX7_come_82 : decode cX7_come 82 = .ok (.sipush 4095, 3) := by decide +kernel
theorem dX7_come_85 : decode cX7_come 85 = .ok (.iand, 1) := by decide +kernel
theorem dX7_come_86 : decode cX7_come 86 = .ok (.istore 4, 2) := by decide +kernel
theorem dX7_come_88 : decode cX7_come 88 = .ok (.iinc 5 1, 3) := by decide +kernel
theorem dX7_come_91 : decode cX7_come 91 = .ok (.goto (-65), 3) := by decide +kernel
theorem dX7_come_94 : decode cX7_come 94 = .ok (.aload_n 0, 1) := by decide +kernel
theorem dX7_come_95 : decode cX7_come 95 = .ok (.getfield 36, 3) := by decide +kernel
theorem dX7_come_98 : decode cX7_come 98 = .ok (.sipush 2000, 3) := by decide +kernel
theorem dX7_come_101 : decode cX7_come 101 = .ok (.if_icmp .lt 5, 3) := by decide +kernel
theorem dX7_come_104 : decode cX7_come 104 = .ok (.iconst 0, 1) := by decide +kernel
theorem dX7_come_105 : decode cX7_come 105 = .ok (.ireturn, 1) := by decide +kernel
theorem dX7_come_106 : decode cX7_come 106 = .ok (.aload_n 0, 1) := by decide +kernel
theorem dX7_come_107 : decode cX7_come 107 = .ok (.getfield 33, 3) := by decide +kernel
theorem dX7_come_110 : decode cX7_come 110 = .ok (.iload 4, 2) := by decide +kernel
theorem dX7_come_112 : decode cX7_come 112 = .ok (.aload_n 0, 1) := by decide +kernel
theorem dX7_come_113 : decode cX7_come 113 = .ok (.getfield 36, 3) := by decide +kernel
theorem dX7_come_116 : decode cX7_come 116 = .ok (.iastore, 1) := by decide +kernel
theorem dX7_come_117 : decode cX7_come 117 = .ok (.aload_n 0, 1) := by decide +kernel
theorem dX7_come_118 : decode cX7_come 118 = .ok (.getfield 25, 3) := by decide +kernel
theorem dX7_come_121 : decode cX7_come 121 = .ok (.aload_n 0, 1) := by decide +kernel
theorem dX7_come_122 : decode cX7_come 122 = .ok (.getfield 36, 3) := by decide +kernel
theorem dX7_come_125 : decode cX7_come 125 = .ok (.lload_n 1, 1) := by decide +kernel
theorem dX7_come_126 : decode cX7_come 126 = .ok (.lastore, 1) := by decide +kernel
theorem dX7_come_127 : decode cX7_come 127 = .ok (.aload_n 0, 1) := by decide +kernel
theorem dX7_come_128 : decode cX7_come 128 = .ok (.getfield 29, 3) := by decide +kernel
theorem dX7_come_131 : decode cX7_come 131 = .ok (.aload_n 0, 1) := by decide +kernel
theorem dX7_come_132 : decode cX7_come 132 = .ok (.getfield 36, 3) := by decide +kernel
theorem dX7_come_135 : decode cX7_come 135 = .ok (.iload_n 3, 1) := by decide +kernel
theorem dX7_come_136 : decode cX7_come 136 = .ok (.iastore, 1) := by decide +kernel
theorem dX7_come_137 : decode cX7_come 137 = .ok (.aload_n 0, 1) := by decide +kernel
theorem dX7_come_138 : decode cX7_come 138 = .ok (.dup, 1) := by decide +kernel
theorem dX7_come_139 : decode cX7_come 139 = .ok (.getfield 36, 3) := by decide +kernel
theorem dX7_come_142 : decode cX7_come 142 = .ok (.iconst 1, 1) := by decide +kernel
theorem dX7_come_143 : decode cX7_come 143 = .ok (.iadd, 1) := by decide +kernel
theorem dX7_come_144 : decode cX7_come 144 = .ok (.putfield 36, 3) := by decide +kernel
theorem dX7_come_147 : decode cX7_come 147 = .ok (.iconst 1, 1) := by decide +kernel
theorem dX7_come_148 : decode cX7_come 148 = .ok (.ireturn, 1) := by decide +kernel
theorem wl_RX7_33 : Cond.fieldLink RX7 33 (TX7 4).1 (TX7 4).2.1 (TX7 4).2.2.1 ∈ TB := tbm 589 (by decide +kernel) (by decide +kernel)
theorem wl_RX7_40 : Cond.fieldLink RX7 40 (TX7 6).1 (TX7 6).2.1 (TX7 6).2.2.1 ∈ TB := tbm 591 (by decide +kernel) (by decide +kernel)
theorem wl_RX7_36 : Cond.fieldLink RX7 36 (TX7 5).1 (TX7 5).2.1 (TX7 5).2.2.1 ∈ TB := tbm 590 (by decide +kernel) (by decide +kernel)
theorem wl_RX7_25 : Cond.fieldLink RX7 25 (TX7 2).1 (TX7 2).2.1 (TX7 2).2.2.1 ∈ TB := tbm 587 (by decide +kernel) (by decide +kernel)
theorem wl_RX7_29 : Cond.fieldLink RX7 29 (TX7 3).1 (TX7 3).2.1 (TX7 3).2.2.1 ∈ TB := tbm 588 (by decide +kernel) (by decide +kernel)
def mX7_come_L26 (t : Nat) (σ : St_) (x1 : Int64) (x3 : Int32) (k94 : Int32 → Option (Bool × St_)) (k61 : Int32 → Option (Bool × St_)) : Nat → Int32 → Int32 → Option (Bool × St_)
  | 0, _, _ => none
  | n + 1, x4, x5 => (if (4096 : Int32) ≤ x5 then
 (k94 x4)
 else (if bin x4 4096 = true then bnd (σ.1 (t + 15) x4.toNatClampNeg) fun v2 =>
 (if v2 < (σ.1 t 6) then
 (k94 x4)
 else (if v2 < (σ.1 t 5) then
 (if bin v2 2000 = true then bnd (σ.2 (t + 13) v2.toNatClampNeg) fun v3 =>
 (if (lg_cmp v3 x1) = 0 then
 (some (true, σ))
 else (bnd ((x4 + (1 : Int32)) &&& (4095 : Int32)) fun v4 =>
 (mX7_come_L26 t σ x1 x3 k94 k61 n v4 (x5 + 1))))
 else none)
 else (k61 x4)))
 else none))
def mX7_come (t : Nat) (p1 : Int64) (p2 : Int32) (σ : St_) : Option (Bool × St_) :=
 (bnd (((((p1 ^^^ ((p1.toUInt64 >>> ((13 : Int32).toInt64.toUInt64 &&& Int64.toUInt64 63)).toInt64)) ^^^ ((p1.toUInt64 >>> ((27 : Int32).toInt64.toUInt64 &&& Int64.toUInt64 63)).toInt64)) ^^^ ((p1.toUInt64 >>> ((41 : Int32).toInt64.toUInt64 &&& Int64.toUInt64 63)).toInt64)).toInt32) &&& (4095 : Int32)) fun v1 =>
 (mX7_come_L26 t σ p1 p2
 (fun (y5 : Int32) => (if (σ.1 t 5) < (2000 : Int32) then
 (if bin y5 4096 = true then bnd (sI σ (t + 15) y5.toNatClampNeg (σ.1 t 5)) fun σ6 =>
 (bnd (σ6.1 t 5) fun v7 =>
 (if bin v7 2000 = true then bnd (sL σ6 (t + 13) v7.toNatClampNeg p1) fun σ8 =>
 (bnd (σ8.1 t 5) fun v9 =>
 (if bin v9 2000 = true then bnd (sI σ8 (t + 14) v9.toNatClampNeg p2) fun σ10 =>
 (bnd (sI σ10 t 5 ((σ10.1 t 5) + (1 : Int32))) fun σ11 =>
 (some (true, σ11)))
 else none))
 else none))
 else none)
 else (some (false, σ))))
 (fun (y12 : Int32) => (if (σ.1 t 5) < (2000 : Int32) then
 (if bin y12 4096 = true then bnd (sI σ (t + 15) y12.toNatClampNeg (σ.1 t 5)) fun σ13 =>
 (bnd (σ13.1 t 5) fun v14 =>
 (if bin v14 2000 = true then bnd (sL σ13 (t + 13) v14.toNatClampNeg p1) fun σ15 =>
 (bnd (σ15.1 t 5) fun v16 =>
 (if bin v16 2000 = true then bnd (sI σ15 (t + 14) v16.toNatClampNeg p2) fun σ17 =>
 (bnd (sI σ17 t 5 ((σ17.1 t 5) + (1 : Int32))) fun σ18 =>
 (some (true, σ18)))
 else none))
 else none))
 else none)
 else (some (false, σ)))) FU v1 (0 : Int32)))
set_option maxHeartbeats 4000000 in
theorem tmX7_come_L26 (σ : St_) (t : Nat) (hT : LY7 sh P t) (x1 : Int64) (x3 : Int32) (k94 : Int32 → Option (Bool × St_)) (k61 : Int32 → Option (Bool × St_)) (hk94 : ∀ (y4 : Int32), Tj l D cA h0 ad RX7 cX7_come 7 (some .boolean) false 2 0 0 (fun b => (some (.int (b2i b.1)), sh, P, b.2)) 0 0 sh P σ 94 [(0, .ref (h0 + t)), (1, .long x1), (3, .int x3), (4, .int y4)] [] (k94 y4)) (hk61 : ∀ (y4 : Int32), Tj l D cA h0 ad RX7 cX7_come 7 (some .boolean) false 2 0 0 (fun b => (some (.int (b2i b.1)), sh, P, b.2)) 0 0 sh P σ 61 [(0, .ref (h0 + t)), (1, .long x1), (3, .int x3), (4, .int y4)] [] (k61 y4)) : ∀ (n : Nat) (x4 : Int32) (x5 : Int32), Tj l D cA h0 ad RX7 cX7_come 7 (some .boolean) false 2 0 0 (fun b => (some (.int (b2i b.1)), sh, P, b.2)) 0 0 sh P σ 26 [(0, .ref (h0 + t)), (1, .long x1), (3, .int x3), (4, .int x4), (5, .int x5)] [] (mX7_come_L26 t σ x1 x3 k94 k61 n x4 x5) := by
  intro n
  induction n with
  | zero => intros; exact tj_none
  | succ n ih =>
    intro x4 x5
    rw [mX7_come_L26]
    refine tj_iload (q := 28) dX7_come_26 rfl (pl := 4) rfl ?_
    refine tj_sipush (q := 31) (v := 4096) dX7_come_28 rfl (by decide) ?_
    refine tj_icmp_ge (tgt := 94) (q := 34) dX7_come_31 (by decide) rfl ?_ ?_
    · refine tj_lv [0, 1, 2, 3] rfl ?_
      exact hk94 x4
    · refine tj_aload_n (q := 35) dX7_come_34 rfl (i := 0) rfl (pl := 0) rfl ?_
      refine tj_getR (q := 38) (hT).s (hT).p_table fok_7_4 wl_RX7_33 dX7_come_35 rfl ?_
      refine tj_iload (q := 40) dX7_come_38 rfl (pl := 3) rfl ?_
      refine tj_iaload (q := 41) (hT).s_table dX7_come_40 rfl ?_
      refine tj_topI (fun v2 => ?_)
      refine tj_istore (q := 43) dX7_come_41 rfl (by decide) rfl ?_
      refine tj_iload (q := 45) dX7_come_43 rfl (pl := 0) rfl ?_
      refine tj_aload_n (q := 46) dX7_come_45 rfl (i := 0) rfl (pl := 1) rfl ?_
      refine tj_getI (q := 49) (hT).s fok_7_6 wl_RX7_40 dX7_come_46 rfl ?_
      refine tj_icmp_lt (tgt := 94) (q := 52) dX7_come_49 (by decide) rfl ?_ ?_
      · refine tj_lv [1, 2, 3, 4] rfl ?_
        exact hk94 x4
      · refine tj_iload (q := 54) dX7_come_52 rfl (pl := 0) rfl ?_
        refine tj_aload_n (q := 55) dX7_come_54 rfl (i := 0) rfl (pl := 1) rfl ?_
        refine tj_getI (q := 58) (hT).s fok_7_5 wl_RX7_36 dX7_come_55 rfl ?_
        refine tj_icmp_lt (tgt := 64) (q := 61) dX7_come_58 (by decide) rfl ?_ ?_
        · refine tj_aload_n (q := 65) dX7_come_64 rfl (i := 0) rfl (pl := 1) rfl ?_
          refine tj_getR (q := 68) (hT).s (hT).p_keys fok_7_2 wl_RX7_25 dX7_come_65 rfl ?_
          refine tj_iload (q := 70) dX7_come_68 rfl (pl := 0) rfl ?_
          refine tj_laload (q := 71) (hT).s_keys dX7_come_70 rfl ?_
          refine tj_topL (fun v3 => ?_)
          refine tj_lload_n (q := 72) dX7_come_71 rfl (i := 1) rfl (pl := 2) rfl ?_
          refine tj_lcmp (q := 73) dX7_come_72 rfl ?_
          refine tj_if_ne (tgt := 78) (q := 76) dX7_come_73 (by decide) rfl ?_ ?_
          · refine tj_iconst (q := 77) (v := 1) dX7_come_76 rfl (by decide) ?_
            exact tj_zret rfl (by decide) rfl (Nat.le_of_ble_eq_true rfl) (Nat.le_of_ble_eq_true rfl) dX7_come_77
          · refine tj_iload (q := 80) dX7_come_78 rfl (pl := 4) rfl ?_
            refine tj_iconst (q := 81) (v := 1) dX7_come_80 rfl (by decide) ?_
            refine tj_iadd (q := 82) dX7_come_81 rfl ?_
            refine tj_sipush (q := 85) (v := 4095) dX7_come_82 rfl (by decide) ?_
            refine tj_iand (q := 86) dX7_come_85 rfl ?_
            refine tj_topI (fun v4 => ?_)
            refine tj_istore (q := 88) dX7_come_86 rfl (by decide) rfl ?_
            refine tj_iinc (q := 91) (v := x5 + 1) dX7_come_88 rfl (pl := 5) rfl rfl (by decide) rfl ?_
            refine tj_goto (q := 26) dX7_come_91 (by decide) ?_
            refine tj_lv [3, 4, 5, 1, 0] rfl ?_
            exact ih v4 (x5 + 1)
        · refine tj_lv [1, 2, 3, 4] rfl ?_
          exact hk61 x4

set_option maxHeartbeats 4000000 in
theorem rX7_come (t : Nat) (p1 : Int64) (p2 : Int32) (hT : LY7 sh P t) : Rj l D cA h0 ad yX7_come cX7_come 7 (some .boolean) false 2 0 0 (fun b => (some (.int (b2i b.1)), sh, P, b.2)) [.ref (h0 + t), .long p1, .int p2] sh P σ (mX7_come t p1 p2 σ) := by
  rw [mX7_come]
  refine Rj.of (by decide) (fun h => by cases h) (Nat.le_of_ble_eq_true rfl) ?_
  refine tj_lv0 (lv' := [(0, .ref (h0 + t)), (1, .long p1), (3, .int p2)]) rfl ?_
  refine tj_lload_n (q := 1) dX7_come_0 rfl (i := 1) rfl (pl := 1) rfl ?_
  refine tj_lload_n (q := 2) dX7_come_1 rfl (i := 1) rfl (pl := 1) rfl ?_
  refine tj_bipush (q := 4) (v := 13) dX7_come_2 rfl (by decide) ?_
  refine tj_lushr (q := 5) dX7_come_4 rfl ?_
  refine tj_lxor (q := 6) dX7_come_5 rfl ?_
  refine tj_lload_n (q := 7) dX7_come_6 rfl (i := 1) rfl (pl := 1) rfl ?_
  refine tj_bipush (q := 9) (v := 27) dX7_come_7 rfl (by decide) ?_
  refine tj_lushr (q := 10) dX7_come_9 rfl ?_
  refine tj_lxor (q := 11) dX7_come_10 rfl ?_
  refine tj_lload_n (q := 12) dX7_come_11 rfl (i := 1) rfl (pl := 1) rfl ?_
  refine tj_bipush (q := 14) (v := 41) dX7_come_12 rfl (by decide) ?_
  refine tj_lushr (q := 15) dX7_come_14 rfl ?_
  refine tj_lxor (q := 16) dX7_come_15 rfl ?_
  refine tj_l2i (q := 17) dX7_come_16 rfl ?_
  refine tj_sipush (q := 20) (v := 4095) dX7_come_17 rfl (by decide) ?_
  refine tj_iand (q := 21) dX7_come_20 rfl ?_
  refine tj_topI (fun v1 => ?_)
  refine tj_istore (q := 23) dX7_come_21 rfl (by decide) rfl ?_
  refine tj_iconst (q := 24) (v := 0) dX7_come_23 rfl (by decide) ?_
  refine tj_istore (q := 26) dX7_come_24 rfl (by decide) rfl ?_
  refine tj_lv [2, 3, 4, 1, 0] rfl ?_
  refine tmX7_come_L26 σ t hT p1 p2 _ _ ?_ ?_ FU v1 (0 : Int32)
  · intro y5
    refine tj_aload_n (q := 95) dX7_come_94 rfl (i := 0) rfl (pl := 0) rfl ?_
    refine tj_getI (q := 98) (hT).s fok_7_5 wl_RX7_36 dX7_come_95 rfl ?_
    refine tj_sipush (q := 101) (v := 2000) dX7_come_98 rfl (by decide) ?_
    refine tj_icmp_lt (tgt := 106) (q := 104) dX7_come_101 (by decide) rfl ?_ ?_
    · refine tj_aload_n (q := 107) dX7_come_106 rfl (i := 0) rfl (pl := 0) rfl ?_
      refine tj_getR (q := 110) (hT).s (hT).p_table fok_7_4 wl_RX7_33 dX7_come_107 rfl ?_
      refine tj_iload (q := 112) dX7_come_110 rfl (pl := 3) rfl ?_
      refine tj_aload_n (q := 113) dX7_come_112 rfl (i := 0) rfl (pl := 0) rfl ?_
      refine tj_getI (q := 116) (hT).s fok_7_5 wl_RX7_36 dX7_come_113 rfl ?_
      refine tj_iastore (q := 117) (hT).s_table dX7_come_116 rfl (fun σ6 => ?_)
      refine tj_aload_n (q := 118) dX7_come_117 rfl (i := 0) rfl (pl := 0) rfl ?_
      refine tj_getR (q := 121) (hT).s (hT).p_keys fok_7_2 wl_RX7_25 dX7_come_118 rfl ?_
      refine tj_aload_n (q := 122) dX7_come_121 rfl (i := 0) rfl (pl := 0) rfl ?_
      refine tj_getI (q := 125) (hT).s fok_7_5 wl_RX7_36 dX7_come_122 rfl ?_
      refine tj_lload_n (q := 126) dX7_come_125 rfl (i := 1) rfl (pl := 1) rfl ?_
      refine tj_sndL (fun v7 => ?_)
      refine tj_lastore (q := 127) (hT).s_keys dX7_come_126 rfl (fun σ8 => ?_)
      refine tj_aload_n (q := 128) dX7_come_127 rfl (i := 0) rfl (pl := 0) rfl ?_
      refine tj_getR (q := 131) (hT).s (hT).p_from fok_7_3 wl_RX7_29 dX7_come_128 rfl ?_
      refine tj_aload_n (q := 132) dX7_come_131 rfl (i := 0) rfl (pl := 0) rfl ?_
      refine tj_getI (q := 135) (hT).s fok_7_5 wl_RX7_36 dX7_come_132 rfl ?_
      refine tj_iload_n (q := 136) dX7_come_135 rfl (i := 3) rfl (pl := 2) rfl ?_
      refine tj_sndI (fun v9 => ?_)
      refine tj_iastore (q := 137) (hT).s_from dX7_come_136 rfl (fun σ10 => ?_)
      refine tj_aload_n (q := 138) dX7_come_137 rfl (i := 0) rfl (pl := 0) rfl ?_
      refine tj_dup (q := 139) dX7_come_138 rfl rfl ?_
      refine tj_getI (q := 142) (hT).s fok_7_5 wl_RX7_36 dX7_come_139 rfl ?_
      refine tj_iconst (q := 143) (v := 1) dX7_come_142 rfl (by decide) ?_
      refine tj_iadd (q := 144) dX7_come_143 rfl ?_
      refine tj_putI (q := 147) (hT).s fok_7_5 tok_7 fpk_7_5 wl_RX7_36 dX7_come_144 rfl (fun σ11 => ?_)
      refine tj_iconst (q := 148) (v := 1) dX7_come_147 rfl (by decide) ?_
      exact tj_zret rfl (by decide) rfl (Nat.le_of_ble_eq_true rfl) (Nat.le_of_ble_eq_true rfl) dX7_come_148
    · refine tj_iconst (q := 105) (v := 0) dX7_come_104 rfl (by decide) ?_
      exact tj_zret rfl (by decide) rfl (Nat.le_of_ble_eq_true rfl) (Nat.le_of_ble_eq_true rfl) dX7_come_105
  · intro y12
    refine tj_goto (q := 94) dX7_come_61 (by decide) ?_
    refine tj_aload_n (q := 95) dX7_come_94 rfl (i := 0) rfl (pl := 0) rfl ?_
    refine tj_getI (q := 98) (hT).s fok_7_5 wl_RX7_36 dX7_come_95 rfl ?_
    refine tj_sipush (q := 101) (v := 2000) dX7_come_98 rfl (by decide) ?_
    refine tj_icmp_lt (tgt := 106) (q := 104) dX7_come_101 (by decide) rfl ?_ ?_
    · refine tj_aload_n (q := 107) dX7_come_106 rfl (i := 0) rfl (pl := 0) rfl ?_
      refine tj_getR (q := 110) (hT).s (hT).p_table fok_7_4 wl_RX7_33 dX7_come_107 rfl ?_
      refine tj_iload (q := 112) dX7_come_110 rfl (pl := 3) rfl ?_
      refine tj_aload_n (q := 113) dX7_come_112 rfl (i := 0) rfl (pl := 0) rfl ?_
      refine tj_getI (q := 116) (hT).s fok_7_5 wl_RX7_36 dX7_come_113 rfl ?_
      refine tj_iastore (q := 117) (hT).s_table dX7_come_116 rfl (fun σ13 => ?_)
      refine tj_aload_n (q := 118) dX7_come_117 rfl (i := 0) rfl (pl := 0) rfl ?_
      refine tj_getR (q := 121) (hT).s (hT).p_keys fok_7_2 wl_RX7_25 dX7_come_118 rfl ?_
      refine tj_aload_n (q := 122) dX7_come_121 rfl (i := 0) rfl (pl := 0) rfl ?_
      refine tj_getI (q := 125) (hT).s fok_7_5 wl_RX7_36 dX7_come_122 rfl ?_
      refine tj_lload_n (q := 126) dX7_come_125 rfl (i := 1) rfl (pl := 1) rfl ?_
      refine tj_sndL (fun v14 => ?_)
      refine tj_lastore (q := 127) (hT).s_keys dX7_come_126 rfl (fun σ15 => ?_)
      refine tj_aload_n (q := 128) dX7_come_127 rfl (i := 0) rfl (pl := 0) rfl ?_
      refine tj_getR (q := 131) (hT).s (hT).p_from fok_7_3 wl_RX7_29 dX7_come_128 rfl ?_
      refine tj_aload_n (q := 132) dX7_come_131 rfl (i := 0) rfl (pl := 0) rfl ?_
      refine tj_getI (q := 135) (hT).s fok_7_5 wl_RX7_36 dX7_come_132 rfl ?_
      refine tj_iload_n (q := 136) dX7_come_135 rfl (i := 3) rfl (pl := 2) rfl ?_
      refine tj_sndI (fun v16 => ?_)
      refine tj_iastore (q := 137) (hT).s_from dX7_come_136 rfl (fun σ17 => ?_)
      refine tj_aload_n (q := 138) dX7_come_137 rfl (i := 0) rfl (pl := 0) rfl ?_
      refine tj_dup (q := 139) dX7_come_138 rfl rfl ?_
      refine tj_getI (q := 142) (hT).s fok_7_5 wl_RX7_36 dX7_come_139 rfl ?_
      refine tj_iconst (q := 143) (v := 1) dX7_come_142 rfl (by decide) ?_
      refine tj_iadd (q := 144) dX7_come_143 rfl ?_
      refine tj_putI (q := 147) (hT).s fok_7_5 tok_7 fpk_7_5 wl_RX7_36 dX7_come_144 rfl (fun σ18 => ?_)
      refine tj_iconst (q := 148) (v := 1) dX7_come_147 rfl (by decide) ?_
      exact tj_zret rfl (by decide) rfl (Nat.le_of_ble_eq_true rfl) (Nat.le_of_ble_eq_true rfl) dX7_come_148
    · refine tj_iconst (q := 105) (v := 0) dX7_come_104 rfl (by decide) ?_
      exact tj_zret rfl (by decide) rfl (Nat.le_of_ble_eq_true rfl) (Nat.le_of_ble_eq_true rfl) dX7_come_105

theorem dX7_begin_0 : decode cX7_begin 0 = .ok (.aload_n 0, 1) := by decide +kernel
theorem dX7_begin_1 : decode cX7_begin 1 = .ok (.getfield 21, 3) := by decide +kernel
theorem dX7_begin_4 : decode cX7_begin 4 = .ok (.aload_n 1, 1) := by decide +kernel
theorem dX7_begin_5 : decode cX7_begin 5 = .ok (.invokevirtual 70, 3) := by decide +kernel
theorem dX7_begin_8 : decode cX7_begin 8 = .ok (.aload_n 0, 1) := by decide +kernel
theorem dX7_begin_9 : decode cX7_begin 9 = .ok (.getfield 33, 3) := by decide +kernel
theorem dX7_begin_12 : decode cX7_begin 12 = .ok (.iconst (-1), 1) := by decide +kernel
theorem dX7_begin_13 : decode cX7_begin 13 = .ok (.invokestatic 74, 3) := by decide +kernel
theorem dX7_begin_16 : decode cX7_begin 16 = .ok (.aload_n 0, 1) := by decide +kernel
theorem dX7_begin_17 : decode cX7_begin 17 = .ok (.iconst 0, 1) := by decide +kernel
theorem dX7_begin_18 : decode cX7_begin 18 = .ok (.putfield 36, 3) := by decide +kernel
theorem dX7_begin_21 : decode cX7_begin 21 = .ok (.aload_n 0, 1) := by decide +kernel
theorem dX7_begin_22 : decode cX7_begin 22 = .ok (.iconst 0, 1) := by decide +kernel
theorem dX7_begin_23 : decode cX7_begin 23 = .ok (.putfield 40, 3) := by decide +kernel
theorem dX7_begin_26 : decode cX7_begin 26 = .ok (.aload_n 0, 1) := by decide +kernel
theorem dX7_begin_27 : decode cX7_begin 27 = .ok (.aload_n 1, 1) := by decide +kernel
theorem dX7_begin_28 : decode cX7_begin 28 = .ok (.getfield 80, 3) := by decide +kernel
theorem dX7_begin_31 : decode cX7_begin 31 = .ok (.iconst 5, 1) := by decide +kernel
theorem dX7_begin_32 : decode cX7_begin 32 = .ok (.iload_n 2, 1) := by decide +kernel
theorem dX7_begin_33 : decode cX7_begin 33 = .ok (.iadd, 1) := by decide +kernel
theorem dX7_begin_34 : decode cX7_begin 34 = .ok (.iaload, 1) := by decide +kernel
theorem dX7_begin_35 : decode cX7_begin 35 = .ok (.putfield 43, 3) := by decide +kernel
theorem dX7_begin_38 : decode cX7_begin 38 = .ok (.lconst 0, 1) := by decide +kernel
theorem dX7_begin_39 : decode cX7_begin 39 = .ok (.lstore_n 3, 1) := by decide +kernel
theorem dX7_begin_40 : decode cX7_begin 40 = .ok (.iconst 0, 1) := by decide +kernel
theorem dX7_begin_41 : decode cX7_begin 41 = .ok (.istore 5, 2) := by decide +kernel
theorem dX7_begin_43 : decode cX7_begin 43 = .ok (.iload 5, 2) := by decide +kernel
theorem dX7_begin_45 : decode cX7_begin 45 = .ok (.iconst 5, 1) := by decide +kernel
theorem dX7_begin_46 : decode cX7_begin 46 = .ok (.if_icmp .ge 42, 3) := by decide +kernel
theorem dX7_begin_49 : decode cX7_begin 49 = .ok (.aload_n 0, 1) := by decide +kernel
theorem dX7_begin_50 : decode cX7_begin 50 = .ok (.dup, 1) := by decide +kernel
theorem dX7_begin_51 : decode cX7_begin 51 = .ok (.getfield 43, 3) := by decide +kernel
theorem dX7_begin_54 : decode cX7_begin 54 = .ok (.aload_n 1, 1) := by decide +kernel
theorem dX7_begin_55 : decode cX7_begin 55 = .ok (.getfield 80, 3) := by decide +kernel
theorem dX7_begin_58 : decode cX7_begin 58 = .ok (.iload 5, 2) := by decide +kernel
theorem dX7_begin_60 : decode cX7_begin 60 = .ok (.iaload, 1) := by decide +kernel
theorem dX7_begin_61 : decode cX7_begin 61 = .ok (.ior, 1) := by decide +kernel
theorem dX7_begin_62 : decode cX7_begin 62 = .ok (.putfield 43, 3) := by decide +kernel
theorem dX7_begin_65 : decode cX7_begin 65 = .ok (.lload_n 3, 1) := by decide +kernel
theorem dX7_begin_66 : decode cX7_begin 66 = .ok (.aload_n 1, 1) := by decide +kernel
theorem dX7_begin_67 : decode cX7_begin 67 = .ok (.getfield 80, 3) := by decide +kernel
theorem dX7_begin_70 : decode cX7_begin 70 = .ok (.iload 5, 2) := by decide +kernel
theorem dX7_begin_72 : decode cX7_begin 72 = .ok (.iaload, 1) := by decide +kernel
theorem dX7_begin_73 : decode cX7_begin 73 = .ok (.i2l, 1) := by decide +kernel
theorem dX7_begin_74 : decode cX7_begin 74 = .ok (.bipush 10, 2) := by decide +kernel
theorem dX7_begin_76 : decode cX7_begin 76 = .ok (.iload 5, 2) := by decide +kernel
theorem dX7_begin_78 : decode cX7_begin 78 = .ok (.imul, 1) := by decide +kernel
theorem dX7_begin_79 : decode cX7_begin 79 = .ok (.lshl, 1) := by decide +kernel
theorem dX7_begin_80 : decode cX7_begin 80 = .ok (.lor, 1) := by decide +kernel
theorem dX7_begin_81 : decode cX7_begin 81 = .ok (.lstore_n 3, 1) := by decide +kernel
theorem dX7_begin_82 : decode cX7_begin 82 = .ok (.iinc 5 1, 3) := by decide +kernel
theorem dX7_begin_85 : decode cX7_begin 85 = .ok (.goto (-42), 3) := by decide +kernel
theorem dX7_begin_88 : decode cX7_begin 88 = .ok (.aload_n 0, 1) := by decide +kernel
theorem dX7_begin_89 : decode cX7_begin 89 = .ok (.lload_n 3, 1) := by decide +kernel
theorem dX7_begin_90 : decode cX7_begin 90 = .ok (.iconst (-1), 1) := by decide +kernel
theorem dX7_begin_91 : decode cX7_begin 91 = .ok (.invokevirtual 83, 3) := by decide +kernel
theorem dX7_begin_94 : decode cX7_begin 94 = .ok (.pop, 1) := by decide +kernel
theorem dX7_begin_95 : decode cX7_begin 95 = .ok (.return_, 1) := by decide +kernel
theorem wl_RX7_21 : Cond.fieldLink RX7 21 (TX7 1).1 (TX7 1).2.1 (TX7 1).2.2.1 ∈ TB := tbm 586 (by decide +kernel) (by decide +kernel)
theorem wi_RX7_70 : Iv RX7 70 yX8_copy cX8_copy 2 none 1 := ⟨tbm 1215 (by decide +kernel) (by decide +kernel), wm_X8_copy⟩
theorem wi_RX7_74 : Is RX7 74 yJ7_fill_53178 cJ7_fill_53178 4 none 2 := ⟨tbm 1216 (by decide +kernel) (by decide +kernel), wm_J7_fill_53178⟩
theorem wl_RX7_80 : Cond.fieldLink RX7 80 (TX8 0).1 (TX8 0).2.1 (TX8 0).2.2.1 ∈ TB := tbm 381 (by decide +kernel) (by decide +kernel)
theorem wl_RX7_43 : Cond.fieldLink RX7 43 (TX7 7).1 (TX7 7).2.1 (TX7 7).2.2.1 ∈ TB := tbm 592 (by decide +kernel) (by decide +kernel)
theorem wm_X7_come : Cond.instanceMethod yX7_come ∈ TB ∧ Cond.selects yX7_come.cls yX7_come yX7_come ∈ TB ∧ Cond.initialized yX7_come.cls ∈ TB ∧ Cond.code yX7_come cX7_come 7 (some .boolean) ∈ TB ∧ (yX7_come.cls ≠ "java/lang/invoke/MethodHandle" ∧ yX7_come.cls ≠ "java/lang/invoke/VarHandle" ∧ (parseMethodDescriptor yX7_come.desc).map (fun d => d.parameters.length) = some 2) ∧ 7 ≤ 21 := ⟨tbm 1219 (by decide +kernel) (by decide +kernel), tbm 42 (by decide +kernel) (by decide +kernel), tbm 145 (by decide +kernel) (by decide +kernel), tbm 1220 (by decide +kernel) (by decide +kernel), by decide +kernel, by decide⟩
theorem wi_RX7_83 : Iv RX7 83 yX7_come cX7_come 7 (some .boolean) 2 := ⟨tbm 1217 (by decide +kernel) (by decide +kernel), wm_X7_come⟩
def mX7_begin_L43 (t : Nat) (p1 : Nat) (k88 : Int64 → St_ → Option St_) : Nat → Int64 → Int32 → St_ → Option St_
  | 0, _, _, _ => none
  | n + 1, x3, x5, σ => (if (5 : Int32) ≤ x5 then
 (k88 x3 σ)
 else (if bin x5 9 = true then bnd (σ.1 (p1 + 1) x5.toNatClampNeg) fun v8 =>
 (bnd (sI σ t 7 ((σ.1 t 7) ||| v8)) fun σ9 =>
 (if bin x5 9 = true then bnd (σ9.1 (p1 + 1) x5.toNatClampNeg) fun v10 =>
 (bnd (x3 ||| (v10.toInt64 <<< (((10 : Int32) * x5).toInt64 &&& 63))) fun v11 =>
 (mX7_begin_L43 t p1 k88 n v11 (x5 + 1) σ9))
 else none))
 else none))
def mX7_begin (t : Nat) (p1 : Nat) (p2 : Int32) (σ : St_) : Option St_ :=
 ((mX8_copy (t + 10) p1 σ).bind fun σ1 =>
 ((mJ7_fill_53178 (t + 15) 4096 (-1 : Int32) σ1).bind fun σ2 =>
 (bnd (sI σ2 t 5 (0 : Int32)) fun σ3 =>
 (bnd (sI σ3 t 6 (0 : Int32)) fun σ4 =>
 (bnd ((5 : Int32) + p2) fun v5 =>
 (if bin v5 9 = true then bnd (σ4.1 (p1 + 1) v5.toNatClampNeg) fun v6 =>
 (bnd (sI σ4 t 7 v6) fun σ7 =>
 (mX7_begin_L43 t p1
 (fun (y12 : Int64) (σ13 : St_) => ((mX7_come t y12 (-1 : Int32) σ13).bind fun r14 =>
 (some r14.2))) FU (0 : Int64) (0 : Int32) σ7))
 else none))))))
set_option maxHeartbeats 4000000 in
theorem tmX7_begin_L43 (t : Nat) (p1 : Nat) (hT : LY7 sh P t) (hp1 : LY8 sh P p1) (k88 : Int64 → St_ → Option St_) (hk88 : ∀ (y3 : Int64) (σ1 : St_), Tj l D cA h0 ad RX7 cX7_begin 6 none false 3 0 0 (fun b => (none, sh, P, b)) 0 0 sh P σ1 88 [(0, .ref (h0 + t)), (3, .long y3)] [] (k88 y3 σ1)) : ∀ (n : Nat) (x3 : Int64) (x5 : Int32) (σ : St_), Tj l D cA h0 ad RX7 cX7_begin 6 none false 3 0 0 (fun b => (none, sh, P, b)) 0 0 sh P σ 43 [(0, .ref (h0 + t)), (1, .ref (h0 + p1)), (3, .long x3), (5, .int x5)] [] (mX7_begin_L43 t p1 k88 n x3 x5 σ) := by
  intro n
  induction n with
  | zero => intros; exact tj_none
  | succ n ih =>
    intro x3 x5 σ
    rw [mX7_begin_L43]
    refine tj_iload (q := 45) dX7_begin_43 rfl (pl := 3) rfl ?_
    refine tj_iconst (q := 46) (v := 5) dX7_begin_45 rfl (by decide) ?_
    refine tj_icmp_ge (tgt := 88) (q := 49) dX7_begin_46 (by decide) rfl ?_ ?_
    · refine tj_lv [0, 2] rfl ?_
      exact hk88 x3 σ
    · refine tj_aload_n (q := 50) dX7_begin_49 rfl (i := 0) rfl (pl := 0) rfl ?_
      refine tj_dup (q := 51) dX7_begin_50 rfl rfl ?_
      refine tj_getI (q := 54) (hT).s fok_7_7 wl_RX7_43 dX7_begin_51 rfl ?_
      refine tj_aload_n (q := 55) dX7_begin_54 rfl (i := 1) rfl (pl := 1) rfl ?_
      refine tj_getR (q := 58) (hp1).s (hp1).p_held fok_8_0 wl_RX7_80 dX7_begin_55 rfl ?_
      refine tj_iload (q := 60) dX7_begin_58 rfl (pl := 3) rfl ?_
      refine tj_iaload (q := 61) (hp1).s_held dX7_begin_60 rfl ?_
      refine tj_topI (fun v8 => ?_)
      refine tj_ior (q := 62) dX7_begin_61 rfl ?_
      refine tj_putI (q := 65) (hT).s fok_7_7 tok_7 fpk_7_7 wl_RX7_43 dX7_begin_62 rfl (fun σ9 => ?_)
      refine tj_lload_n (q := 66) dX7_begin_65 rfl (i := 3) rfl (pl := 2) rfl ?_
      refine tj_aload_n (q := 67) dX7_begin_66 rfl (i := 1) rfl (pl := 1) rfl ?_
      refine tj_getR (q := 70) (hp1).s (hp1).p_held fok_8_0 wl_RX7_80 dX7_begin_67 rfl ?_
      refine tj_iload (q := 72) dX7_begin_70 rfl (pl := 3) rfl ?_
      refine tj_iaload (q := 73) (hp1).s_held dX7_begin_72 rfl ?_
      refine tj_topI (fun v10 => ?_)
      refine tj_i2l (q := 74) dX7_begin_73 rfl ?_
      refine tj_bipush (q := 76) (v := 10) dX7_begin_74 rfl (by decide) ?_
      refine tj_iload (q := 78) dX7_begin_76 rfl (pl := 3) rfl ?_
      refine tj_imul (q := 79) dX7_begin_78 rfl ?_
      refine tj_lshl (q := 80) dX7_begin_79 rfl ?_
      refine tj_lor (q := 81) dX7_begin_80 rfl ?_
      refine tj_topL (fun v11 => ?_)
      refine tj_lstore_n (q := 82) dX7_begin_81 rfl (i := 3) rfl (by decide) rfl ?_
      refine tj_iinc (q := 85) (v := x5 + 1) dX7_begin_82 rfl (pl := 3) rfl rfl (by decide) rfl ?_
      refine tj_goto (q := 43) dX7_begin_85 (by decide) ?_
      refine tj_lv [2, 3, 1, 0] rfl ?_
      exact ih v11 (x5 + 1) σ9

set_option maxHeartbeats 4000000 in
theorem rX7_begin (t : Nat) (p1 : Nat) (p2 : Int32) (hT : LY7 sh P t) (hp1 : LY8 sh P p1) : Rj l D cA h0 ad yX7_begin cX7_begin 6 none false 3 0 0 (fun b => (none, sh, P, b)) [.ref (h0 + t), .ref (h0 + p1), .int p2] sh P σ (mX7_begin t p1 p2 σ) := by
  rw [mX7_begin]
  refine Rj.of (by decide) (fun h => by cases h) (Nat.le_of_ble_eq_true rfl) ?_
  refine tj_lv0 (lv' := [(0, .ref (h0 + t)), (1, .ref (h0 + p1)), (2, .int p2)]) rfl ?_
  refine tj_aload_n (q := 1) dX7_begin_0 rfl (i := 0) rfl (pl := 0) rfl ?_
  refine tj_getR (q := 4) (hT).s (hT).p_scene fok_7_1 wl_RX7_21 dX7_begin_1 rfl ?_
  refine tj_aload_n (q := 5) dX7_begin_4 rfl (i := 1) rfl (pl := 1) rfl ?_
  refine tj_callV (q := 8) (kj_V (As := [.ref (h0 + p1)]) (rest := []) (t := (t + 10)) wi_RX7_70 ((hT).o_scene).s rfl (rX8_copy (t + 10) p1 ((hT).o_scene) (hp1)) rfl (Nat.le_of_ble_eq_true rfl) ⟨Nat.le_of_ble_eq_true rfl, Nat.le_of_ble_eq_true rfl⟩ (Nat.le_of_ble_eq_true rfl) dX7_begin_5) rfl (fun σ1 => ?_)
  refine tj_aload_n (q := 9) dX7_begin_8 rfl (i := 0) rfl (pl := 0) rfl ?_
  refine tj_getR (q := 12) (hT).s (hT).p_table fok_7_4 wl_RX7_33 dX7_begin_9 rfl ?_
  refine tj_iconst (q := 13) (v := (-1)) dX7_begin_12 rfl (by decide) ?_
  refine tj_callV (q := 16) (kj_S (As := [.ref (h0 + (t + 15)), .int (-1 : Int32)]) (rest := []) wi_RX7_74 (rJ7_fill_53178 (t + 15) 4096 (-1 : Int32) ((hT).s_table)) rfl (Nat.le_of_ble_eq_true rfl) ⟨Nat.le_of_ble_eq_true rfl, Nat.le_of_ble_eq_true rfl⟩ (Nat.le_of_ble_eq_true rfl) dX7_begin_13) rfl (fun σ2 => ?_)
  refine tj_aload_n (q := 17) dX7_begin_16 rfl (i := 0) rfl (pl := 0) rfl ?_
  refine tj_iconst (q := 18) (v := 0) dX7_begin_17 rfl (by decide) ?_
  refine tj_putI (q := 21) (hT).s fok_7_5 tok_7 fpk_7_5 wl_RX7_36 dX7_begin_18 rfl (fun σ3 => ?_)
  refine tj_aload_n (q := 22) dX7_begin_21 rfl (i := 0) rfl (pl := 0) rfl ?_
  refine tj_iconst (q := 23) (v := 0) dX7_begin_22 rfl (by decide) ?_
  refine tj_putI (q := 26) (hT).s fok_7_6 tok_7 fpk_7_6 wl_RX7_40 dX7_begin_23 rfl (fun σ4 => ?_)
  refine tj_aload_n (q := 27) dX7_begin_26 rfl (i := 0) rfl (pl := 0) rfl ?_
  refine tj_aload_n (q := 28) dX7_begin_27 rfl (i := 1) rfl (pl := 1) rfl ?_
  refine tj_getR (q := 31) (hp1).s (hp1).p_held fok_8_0 wl_RX7_80 dX7_begin_28 rfl ?_
  refine tj_iconst (q := 32) (v := 5) dX7_begin_31 rfl (by decide) ?_
  refine tj_iload_n (q := 33) dX7_begin_32 rfl (i := 2) rfl (pl := 2) rfl ?_
  refine tj_iadd (q := 34) dX7_begin_33 rfl ?_
  refine tj_topI (fun v5 => ?_)
  refine tj_iaload (q := 35) (hp1).s_held dX7_begin_34 rfl ?_
  refine tj_topI (fun v6 => ?_)
  refine tj_putI (q := 38) (hT).s fok_7_7 tok_7 fpk_7_7 wl_RX7_43 dX7_begin_35 rfl (fun σ7 => ?_)
  refine tj_lconst (q := 39) (v := 0) dX7_begin_38 rfl (by decide) ?_
  refine tj_lstore_n (q := 40) dX7_begin_39 rfl (i := 3) rfl (by decide) rfl ?_
  refine tj_iconst (q := 41) (v := 0) dX7_begin_40 rfl (by decide) ?_
  refine tj_istore (q := 43) dX7_begin_41 rfl (by decide) rfl ?_
  refine tj_lv [2, 3, 1, 0] rfl ?_
  refine tmX7_begin_L43 t p1 hT hp1 _ ?_ FU (0 : Int64) (0 : Int32) σ7
  · intro y12 σ13
    refine tj_aload_n (q := 89) dX7_begin_88 rfl (i := 0) rfl (pl := 0) rfl ?_
    refine tj_lload_n (q := 90) dX7_begin_89 rfl (i := 3) rfl (pl := 1) rfl ?_
    refine tj_iconst (q := 91) (v := (-1)) dX7_begin_90 rfl (by decide) ?_
    refine tj_callZ (q := 94) (kj_V (As := [.long y12, .int (-1 : Int32)]) (rest := []) (t := t) wi_RX7_83 (hT).s rfl (rX7_come t y12 (-1 : Int32) (hT)) rfl (Nat.le_of_ble_eq_true rfl) ⟨Nat.le_of_ble_eq_true rfl, Nat.le_of_ble_eq_true rfl⟩ (Nat.le_of_ble_eq_true rfl) dX7_begin_91) rfl (fun r14 => ?_)
    refine tj_pop (q := 95) dX7_begin_94 rfl rfl ?_
    exact tj_vret rfl rfl (Nat.le_of_ble_eq_true rfl) (Nat.le_of_ble_eq_true rfl) dX7_begin_95

theorem dX7_inHouses_0 : decode cX7_inHouses 0 = .ok (.iconst 0, 1) := by decide +kernel
theorem dX7_inHouses_1 : decode cX7_inHouses 1 = .ok (.istore_n 2, 1) := by decide +kernel
theorem dX7_inHouses_2 : decode cX7_inHouses 2 = .ok (.iconst 0, 1) := by decide +kernel
theorem dX7_inHouses_3 : decode cX7_inHouses 3 = .ok (.istore_n 3, 1) := by decide +kernel
theorem dX7_inHouses_4 : decode cX7_inHouses 4 = .ok (.iload_n 3, 1) := by decide +kernel
theorem dX7_inHouses_5 : decode cX7_inHouses 5 = .ok (.iconst 5, 1) := by decide +kernel
theorem dX7_inHouses_6 : decode cX7_inHouses 6 = .ok (.if_icmp .ge 23, 3) := by decide +kernel
theorem dX7_inHouses_9 : decode cX7_inHouses 9 = .ok (.iload_n 2, 1) := by decide +kernel
theorem dX7_inHouses_10 : decode cX7_inHouses 10 = .ok (.lload_n 0, 1) := by decide +kernel
theorem dX7_inHouses_11 : decode cX7_inHouses 11 = .ok (.bipush 10, 2) := by decide +kernel
theorem dX7_inHouses_13 : decode cX7_inHouses 13 = .ok (.iload_n 3, 1) := by decide +kernel
theorem dX7_inHouses_14 : decode cX7_inHouses 14 = .ok (.imul, 1) := by decide +kernel
theorem dX7_inHouses_15 : decode cX7_inHouses 15 = .ok (.lshr, 1) := by decide +kernel
theorem dX7_inHouses_16 : decode cX7_inHouses 16 = .ok (.l2i, 1) := by decide +kernel
theorem dX7_inHouses_17 : decode cX7_inHouses 17 = .ok (.sipush 1023, 3) := by decide +kernel
theorem dX7_inHouses_20 : decode cX7_inHouses 20 = .ok (.iand, 1) := by decide +kernel
theorem dX7_inHouses_21 : decode cX7_inHouses 21 = .ok (.ior, 1) := by decide +kernel
theorem dX7_inHouses_22 : decode cX7_inHouses 22 = .ok (.istore_n 2, 1) := by decide +kernel
theorem dX7_inHouses_23 : decode cX7_inHouses 23 = .ok (.iinc 3 1, 3) := by decide +kernel
theorem dX7_inHouses_26 : decode cX7_inHouses 26 = .ok (.goto (-22), 3) := by decide +kernel
theorem dX7_inHouses_29 : decode cX7_inHouses 29 = .ok (.iload_n 2, 1) := by decide +kernel
theorem dX7_inHouses_30 : decode cX7_inHouses 30 = .ok (.ireturn, 1) := by decide +kernel
def mX7_inHouses_L4 (σ : St_) (x0 : Int64) : Nat → Int32 → Int32 → Option Int32
  | 0, _, _ => none
  | n + 1, x2, x3 => (if (5 : Int32) ≤ x3 then
 (some x2)
 else (bnd (x2 ||| (((x0 >>> (((10 : Int32) * x3).toInt64 &&& 63)).toInt32) &&& (1023 : Int32))) fun v1 =>
 (mX7_inHouses_L4 σ x0 n v1 (x3 + 1))))
def mX7_inHouses (p1 : Int64) (σ : St_) : Option Int32 :=
 (mX7_inHouses_L4 σ p1 FU (0 : Int32) (0 : Int32))
set_option maxHeartbeats 4000000 in
theorem tmX7_inHouses_L4 (σ : St_) (x0 : Int64) : ∀ (n : Nat) (x2 : Int32) (x3 : Int32), Tj l D cA h0 ad RX7 cX7_inHouses 4 (some .int) false 2 0 0 (fun b => (some (.int b), sh, P, σ)) 0 0 sh P σ 4 [(0, .long x0), (2, .int x2), (3, .int x3)] [] (mX7_inHouses_L4 σ x0 n x2 x3) := by
  intro n
  induction n with
  | zero => intros; exact tj_none
  | succ n ih =>
    intro x2 x3
    rw [mX7_inHouses_L4]
    refine tj_iload_n (q := 5) dX7_inHouses_4 rfl (i := 3) rfl (pl := 2) rfl ?_
    refine tj_iconst (q := 6) (v := 5) dX7_inHouses_5 rfl (by decide) ?_
    refine tj_icmp_ge (tgt := 29) (q := 9) dX7_inHouses_6 (by decide) rfl ?_ ?_
    · refine tj_iload_n (q := 30) dX7_inHouses_29 rfl (i := 2) rfl (pl := 1) rfl ?_
      exact tj_iret rfl rfl (Nat.le_of_ble_eq_true rfl) (Nat.le_of_ble_eq_true rfl) dX7_inHouses_30
    · refine tj_iload_n (q := 10) dX7_inHouses_9 rfl (i := 2) rfl (pl := 1) rfl ?_
      refine tj_lload_n (q := 11) dX7_inHouses_10 rfl (i := 0) rfl (pl := 0) rfl ?_
      refine tj_bipush (q := 13) (v := 10) dX7_inHouses_11 rfl (by decide) ?_
      refine tj_iload_n (q := 14) dX7_inHouses_13 rfl (i := 3) rfl (pl := 2) rfl ?_
      refine tj_imul (q := 15) dX7_inHouses_14 rfl ?_
      refine tj_lshr (q := 16) dX7_inHouses_15 rfl ?_
      refine tj_l2i (q := 17) dX7_inHouses_16 rfl ?_
      refine tj_sipush (q := 20) (v := 1023) dX7_inHouses_17 rfl (by decide) ?_
      refine tj_iand (q := 21) dX7_inHouses_20 rfl ?_
      refine tj_ior (q := 22) dX7_inHouses_21 rfl ?_
      refine tj_topI (fun v1 => ?_)
      refine tj_istore_n (q := 23) dX7_inHouses_22 rfl (i := 2) rfl (by decide) rfl ?_
      refine tj_iinc (q := 26) (v := x3 + 1) dX7_inHouses_23 rfl (pl := 2) rfl rfl (by decide) rfl ?_
      refine tj_goto (q := 4) dX7_inHouses_26 (by decide) ?_
      refine tj_lv [2, 1, 0] rfl ?_
      exact ih v1 (x3 + 1)

set_option maxHeartbeats 4000000 in
theorem rX7_inHouses (p1 : Int64)  : Rj l D cA h0 ad yX7_inHouses cX7_inHouses 4 (some .int) false 2 0 0 (fun b => (some (.int b), sh, P, σ)) [.long p1] sh P σ (mX7_inHouses p1 σ) := by
  rw [mX7_inHouses]
  refine Rj.of (by decide) (fun h => by cases h) (Nat.le_of_ble_eq_true rfl) ?_
  refine tj_lv0 (lv' := [(0, .long p1)]) rfl ?_
  refine tj_iconst (q := 1) (v := 0) dX7_inHouses_0 rfl (by decide) ?_
  refine tj_istore_n (q := 2) dX7_inHouses_1 rfl (i := 2) rfl (by decide) rfl ?_
  refine tj_iconst (q := 3) (v := 0) dX7_inHouses_2 rfl (by decide) ?_
  refine tj_istore_n (q := 4) dX7_inHouses_3 rfl (i := 3) rfl (by decide) rfl ?_
  refine tj_lv [2, 1, 0] rfl ?_
  exact tmX7_inHouses_L4 σ p1 FU (0 : Int32) (0 : Int32)

theorem dX7_firstWith_0 : decode cX7_firstWith 0 = .ok (.aload_n 0, 1) := by decide +kernel
theorem dX7_firstWith_1 : decode cX7_firstWith 1 = .ok (.getfield 43, 3) := by decide +kernel
theorem dX7_firstWith_4 : decode cX7_firstWith 4 = .ok (.iload_n 2, 1) := by decide +kernel
theorem dX7_firstWith_5 : decode cX7_firstWith 5 = .ok (.ishr, 1) := by decide +kernel
theorem dX7_firstWith_6 : decode cX7_firstWith 6 = .ok (.iconst 1, 1) := by decide +kernel
theorem dX7_firstWith_7 : decode cX7_firstWith 7 = .ok (.iand, 1) := by decide +kernel
theorem dX7_firstWith_8 : decode cX7_firstWith 8 = .ok (.ifCond .ne 5, 3) := by decide +kernel
theorem dX7_firstWith_11 : decode cX7_firstWith 11 = .ok (.iconst (-1), 1) := by decide +kernel
theorem dX7_firstWith_12 : decode cX7_firstWith 12 = .ok (.ireturn, 1) := by decide +kernel
theorem dX7_firstWith_13 : decode cX7_firstWith 13 = .ok (.iload_n 1, 1) := by decide +kernel
theorem dX7_firstWith_14 : decode cX7_firstWith 14 = .ok (.istore_n 3, 1) := by decide +kernel
theorem dX7_firstWith_15 : decode cX7_firstWith 15 = .ok (.iload_n 3, 1) := by decide +kernel
theorem dX7_firstWith_16 : decode cX7_firstWith 16 = .ok (.aload_n 0, 1) := by decide +kernel
theorem dX7_firstWith_17 : decode cX7_firstWith 17 = .ok (.getfield 36, 3) := by decide +kernel
theorem dX7_firstWith_20 : decode cX7_firstWith 20 = .ok (.if_icmp .ge 27, 3) := by decide +kernel
theorem dX7_firstWith_23 : decode cX7_firstWith 23 = .ok (.aload_n 0, 1) := by decide +kernel
theorem dX7_firstWith_24 : decode cX7_firstWith 24 = .ok (.getfield 25, 3) := by decide +kernel
theorem dX7_firstWith_27 : decode cX7_firstWith 27 = .ok (.iload_n 3, 1) := by decide +kernel
theorem dX7_firstWith_28 : decode cX7_firstWith 28 = .ok (.laload, 1) := by decide +kernel
theorem dX7_firstWith_29 : decode cX7_firstWith 29 = .ok (.invokestatic 87, 3) := by decide +kernel
theorem dX7_firstWith_32 : decode cX7_firstWith 32 = .ok (.iload_n 2, 1) := by decide +kernel
theorem dX7_firstWith_33 : decode cX7_firstWith 33 = .ok (.ishr, 1) := by decide +kernel
theorem dX7_firstWith_34 : decode cX7_firstWith 34 = .ok (.iconst 1, 1) := by decide +kernel
theorem dX7_firstWith_35 : decode cX7_firstWith 35 = .ok (.iand, 1) := by decide +kernel
theorem dX7_firstWith_36 : decode cX7_firstWith 36 = .ok (.ifCond .ne 5, 3) := by decide +kernel
theorem dX7_firstWith_39 : decode cX7_firstWith 39 = .ok (.iload_n 3, 1) := by decide +kernel
theorem dX7_firstWith_40 : decode cX7_firstWith 40 = .ok (.ireturn, 1) := by decide +kernel
theorem dX7_firstWith_41 : decode cX7_firstWith 41 = .ok (.iinc 3 1, 3) := by decide +kernel
theorem dX7_firstWith_44 : decode cX7_firstWith 44 = .ok (.goto (-29), 3) := by decide +kernel
theorem dX7_firstWith_47 : decode cX7_firstWith 47 = .ok (.iconst (-1), 1) := by decide +kernel
theorem dX7_firstWith_48 : decode cX7_firstWith 48 = .ok (.ireturn, 1) := by decide +kernel
theorem wm_X7_inHouses : Cond.static yX7_inHouses ∈ TB ∧ Cond.initialized yX7_inHouses.cls ∈ TB ∧ Cond.code yX7_inHouses cX7_inHouses 4 (some .int) ∈ TB ∧ (yX7_inHouses.cls ≠ "java/lang/invoke/MethodHandle" ∧ yX7_inHouses.cls ≠ "java/lang/invoke/VarHandle" ∧ (parseMethodDescriptor yX7_inHouses.desc).map (fun d => d.parameters.length) = some 1) ∧ 4 ≤ 21 := ⟨tbm 1226 (by decide +kernel) (by decide +kernel), tbm 145 (by decide +kernel) (by decide +kernel), tbm 1227 (by decide +kernel) (by decide +kernel), by decide +kernel, by decide⟩
theorem wi_RX7_87 : Is RX7 87 yX7_inHouses cX7_inHouses 4 (some .int) 1 := ⟨tbm 1225 (by decide +kernel) (by decide +kernel), wm_X7_inHouses⟩
def mX7_firstWith_L15 (t : Nat) (σ : St_) (x2 : Int32) : Nat → Int32 → Option Int32
  | 0, _ => none
  | n + 1, x3 => (if (σ.1 t 5) ≤ x3 then
 (some (-1 : Int32))
 else (if bin x3 2000 = true then bnd (σ.2 (t + 13) x3.toNatClampNeg) fun v1 =>
 ((mX7_inHouses v1 σ).bind fun r2 =>
 (if ((r2 >>> (x2 &&& 31)) &&& (1 : Int32)) = 0 then
 (some x3)
 else (mX7_firstWith_L15 t σ x2 n (x3 + 1))))
 else none))
def mX7_firstWith (t : Nat) (p1 : Int32) (p2 : Int32) (σ : St_) : Option Int32 :=
 (if (((σ.1 t 7) >>> (p2 &&& 31)) &&& (1 : Int32)) = 0 then
 (some (-1 : Int32))
 else (mX7_firstWith_L15 t σ p2 FU p1))
set_option maxHeartbeats 4000000 in
theorem tmX7_firstWith_L15 (σ : St_) (t : Nat) (hT : LY7 sh P t) (x2 : Int32) : ∀ (n : Nat) (x3 : Int32), Tj l D cA h0 ad RX7 cX7_firstWith 4 (some .int) false 3 0 0 (fun b => (some (.int b), sh, P, σ)) 0 0 sh P σ 15 [(0, .ref (h0 + t)), (2, .int x2), (3, .int x3)] [] (mX7_firstWith_L15 t σ x2 n x3) := by
  intro n
  induction n with
  | zero => intros; exact tj_none
  | succ n ih =>
    intro x3
    rw [mX7_firstWith_L15]
    refine tj_iload_n (q := 16) dX7_firstWith_15 rfl (i := 3) rfl (pl := 2) rfl ?_
    refine tj_aload_n (q := 17) dX7_firstWith_16 rfl (i := 0) rfl (pl := 0) rfl ?_
    refine tj_getI (q := 20) (hT).s fok_7_5 wl_RX7_36 dX7_firstWith_17 rfl ?_
    refine tj_icmp_ge (tgt := 47) (q := 23) dX7_firstWith_20 (by decide) rfl ?_ ?_
    · refine tj_iconst (q := 48) (v := (-1)) dX7_firstWith_47 rfl (by decide) ?_
      exact tj_iret rfl rfl (Nat.le_of_ble_eq_true rfl) (Nat.le_of_ble_eq_true rfl) dX7_firstWith_48
    · refine tj_aload_n (q := 24) dX7_firstWith_23 rfl (i := 0) rfl (pl := 0) rfl ?_
      refine tj_getR (q := 27) (hT).s (hT).p_keys fok_7_2 wl_RX7_25 dX7_firstWith_24 rfl ?_
      refine tj_iload_n (q := 28) dX7_firstWith_27 rfl (i := 3) rfl (pl := 2) rfl ?_
      refine tj_laload (q := 29) (hT).s_keys dX7_firstWith_28 rfl ?_
      refine tj_topL (fun v1 => ?_)
      refine tj_callIp (q := 32) (kj_S (As := [.long v1]) (rest := []) wi_RX7_87 (rX7_inHouses v1) rfl (Nat.le_of_ble_eq_true rfl) ⟨Nat.le_of_ble_eq_true rfl, Nat.le_of_ble_eq_true rfl⟩ (Nat.le_of_ble_eq_true rfl) dX7_firstWith_29) rfl (fun r2 => ?_)
      refine tj_iload_n (q := 33) dX7_firstWith_32 rfl (i := 2) rfl (pl := 1) rfl ?_
      refine tj_ishr (q := 34) dX7_firstWith_33 rfl ?_
      refine tj_iconst (q := 35) (v := 1) dX7_firstWith_34 rfl (by decide) ?_
      refine tj_iand (q := 36) dX7_firstWith_35 rfl ?_
      refine tj_if_ne (tgt := 41) (q := 39) dX7_firstWith_36 (by decide) rfl ?_ ?_
      · refine tj_iload_n (q := 40) dX7_firstWith_39 rfl (i := 3) rfl (pl := 2) rfl ?_
        exact tj_iret rfl rfl (Nat.le_of_ble_eq_true rfl) (Nat.le_of_ble_eq_true rfl) dX7_firstWith_40
      · refine tj_iinc (q := 44) (v := x3 + 1) dX7_firstWith_41 rfl (pl := 2) rfl rfl (by decide) rfl ?_
        refine tj_goto (q := 15) dX7_firstWith_44 (by decide) ?_
        refine tj_lv [1, 2, 0] rfl ?_
        exact ih (x3 + 1)

set_option maxHeartbeats 4000000 in
theorem rX7_firstWith (t : Nat) (p1 : Int32) (p2 : Int32) (hT : LY7 sh P t) : Rj l D cA h0 ad yX7_firstWith cX7_firstWith 4 (some .int) false 3 0 0 (fun b => (some (.int b), sh, P, σ)) [.ref (h0 + t), .int p1, .int p2] sh P σ (mX7_firstWith t p1 p2 σ) := by
  rw [mX7_firstWith]
  refine Rj.of (by decide) (fun h => by cases h) (Nat.le_of_ble_eq_true rfl) ?_
  refine tj_lv0 (lv' := [(0, .ref (h0 + t)), (1, .int p1), (2, .int p2)]) rfl ?_
  refine tj_aload_n (q := 1) dX7_firstWith_0 rfl (i := 0) rfl (pl := 0) rfl ?_
  refine tj_getI (q := 4) (hT).s fok_7_7 wl_RX7_43 dX7_firstWith_1 rfl ?_
  refine tj_iload_n (q := 5) dX7_firstWith_4 rfl (i := 2) rfl (pl := 2) rfl ?_
  refine tj_ishr (q := 6) dX7_firstWith_5 rfl ?_
  refine tj_iconst (q := 7) (v := 1) dX7_firstWith_6 rfl (by decide) ?_
  refine tj_iand (q := 8) dX7_firstWith_7 rfl ?_
  refine tj_if_ne (tgt := 13) (q := 11) dX7_firstWith_8 (by decide) rfl ?_ ?_
  · refine tj_iconst (q := 12) (v := (-1)) dX7_firstWith_11 rfl (by decide) ?_
    exact tj_iret rfl rfl (Nat.le_of_ble_eq_true rfl) (Nat.le_of_ble_eq_true rfl) dX7_firstWith_12
  · refine tj_iload_n (q := 14) dX7_firstWith_13 rfl (i := 1) rfl (pl := 1) rfl ?_
    refine tj_istore_n (q := 15) dX7_firstWith_14 rfl (i := 3) rfl (by decide) rfl ?_
    refine tj_lv [1, 3, 0] rfl ?_
    exact tmX7_firstWith_L15 σ t hT p2 FU p1

theorem dX7_setScene_0 : decode cX7_setScene 0 = .ok (.iconst 0, 1) := by decide +kernel
theorem dX7_setScene_1 : decode cX7_setScene 1 = .ok (.istore 4, 2) := by decide +kernel
theorem dX7_setScene_3 : decode cX7_setScene 3 = .ok (.iload 4, 2) := by decide +kernel
theorem dX7_setScene_5 : decode cX7_setScene 5 = .ok (.iconst 5, 1) := by decide +kernel
theorem dX7_setScene_6 : decode cX7_setScene 6 = .ok (.if_icmp .ge 31, 3) := by decide +kernel
theorem dX7_setScene_9 : decode cX7_setScene 9 = .ok (.aload_n 0, 1) := by decide +kernel
theorem dX7_setScene_10 : decode cX7_setScene 10 = .ok (.getfield 21, 3) := by decide +kernel
theorem dX7_setScene_13 : decode cX7_setScene 13 = .ok (.getfield 80, 3) := by decide +kernel
theorem dX7_setScene_16 : decode cX7_setScene 16 = .ok (.iload 4, 2) := by decide +kernel
theorem dX7_setScene_18 : decode cX7_setScene 18 = .ok (.lload_n 1, 1) := by decide +kernel
theorem dX7_setScene_19 : decode cX7_setScene 19 = .ok (.bipush 10, 2) := by decide +kernel
theorem dX7_setScene_21 : decode cX7_setScene 21 = .ok (.iload 4, 2) := by decide +kernel
theorem dX7_setScene_23 : decode cX7_setScene 23 = .ok (.imul, 1) := by decide +kernel
theorem dX7_setScene_24 : decode cX7_setScene 24 = .ok (.lshr, 1) := by decide +kernel
theorem dX7_setScene_25 : decode cX7_setScene 25 = .ok (.l2i, 1) := by decide +kernel
theorem dX7_setScene_26 : decode cX7_setScene 26 = .ok (.sipush 1023, 3) := by decide +kernel
theorem dX7_setScene_29 : decode cX7_setScene 29 = .ok (.iand, 1) := by decide +kernel
theorem dX7_setScene_30 : decode cX7_setScene 30 = .ok (.iastore, 1) := by decide +kernel
theorem dX7_setScene_31 : decode cX7_setScene 31 = .ok (.iinc 4 1, 3) := by decide +kernel
theorem dX7_setScene_34 : decode cX7_setScene 34 = .ok (.goto (-31), 3) := by decide +kernel
theorem dX7_setScene_37 : decode cX7_setScene 37 = .ok (.aload_n 0, 1) := by decide +kernel
theorem dX7_setScene_38 : decode cX7_setScene 38 = .ok (.getfield 21, 3) := by decide +kernel
theorem dX7_setScene_41 : decode cX7_setScene 41 = .ok (.getfield 80, 3) := by decide +kernel
theorem dX7_setScene_44 : decode cX7_setScene 44 = .ok (.iconst 5, 1) := by decide +kernel
theorem dX7_setScene_45 : decode cX7_setScene 45 = .ok (.iload_n 3, 1) := by decide +kernel
theorem dX7_setScene_46 : decode cX7_setScene 46 = .ok (.iadd, 1) := by decide +kernel
theorem dX7_setScene_47 : decode cX7_setScene 47 = .ok (.aload_n 0, 1) := by decide +kernel
theorem dX7_setScene_48 : decode cX7_setScene 48 = .ok (.getfield 43, 3) := by decide +kernel
theorem dX7_setScene_51 : decode cX7_setScene 51 = .ok (.lload_n 1, 1) := by decide +kernel
theorem dX7_setScene_52 : decode cX7_setScene 52 = .ok (.invokestatic 87, 3) := by decide +kernel
theorem dX7_setScene_55 : decode cX7_setScene 55 = .ok (.iconst (-1), 1) := by decide +kernel
theorem dX7_setScene_56 : decode cX7_setScene 56 = .ok (.ixor, 1) := by decide +kernel
theorem dX7_setScene_57 : decode cX7_setScene 57 = .ok (.iand, 1) := by decide +kernel
theorem dX7_setScene_58 : decode cX7_setScene 58 = .ok (.iastore, 1) := by decide +kernel
theorem dX7_setScene_59 : decode cX7_setScene 59 = .ok (.return_, 1) := by decide +kernel
def mX7_setScene_L3 (t : Nat) (x1 : Int64) (x3 : Int32) (k37 : St_ → Option St_) : Nat → Int32 → St_ → Option St_
  | 0, _, _ => none
  | n + 1, x4, σ => (if (5 : Int32) ≤ x4 then
 (k37 σ)
 else (if bin x4 9 = true then bnd (sI σ (t + 10 + 1) x4.toNatClampNeg (((x1 >>> (((10 : Int32) * x4).toInt64 &&& 63)).toInt32) &&& (1023 : Int32))) fun σ1 =>
 (mX7_setScene_L3 t x1 x3 k37 n (x4 + 1) σ1)
 else none))
def mX7_setScene (t : Nat) (p1 : Int64) (p2 : Int32) (σ : St_) : Option St_ :=
 (mX7_setScene_L3 t p1 p2
 (fun (σ2 : St_) => ((mX7_inHouses p1 σ2).bind fun r3 =>
 (bnd ((5 : Int32) + p2) fun v4 =>
 (if bin v4 9 = true then bnd (sI σ2 (t + 10 + 1) v4.toNatClampNeg ((σ2.1 t 7) &&& (r3 ^^^ (-1 : Int32)))) fun σ5 =>
 (some σ5)
 else none)))) FU (0 : Int32) σ)
set_option maxHeartbeats 4000000 in
theorem tmX7_setScene_L3 (t : Nat) (hT : LY7 sh P t) (x1 : Int64) (x3 : Int32) (k37 : St_ → Option St_) (hk37 : ∀ (σ1 : St_), Tj l D cA h0 ad RX7 cX7_setScene 5 none false 3 0 0 (fun b => (none, sh, P, b)) 0 0 sh P σ1 37 [(0, .ref (h0 + t)), (1, .long x1), (3, .int x3)] [] (k37 σ1)) : ∀ (n : Nat) (x4 : Int32) (σ : St_), Tj l D cA h0 ad RX7 cX7_setScene 5 none false 3 0 0 (fun b => (none, sh, P, b)) 0 0 sh P σ 3 [(0, .ref (h0 + t)), (1, .long x1), (3, .int x3), (4, .int x4)] [] (mX7_setScene_L3 t x1 x3 k37 n x4 σ) := by
  intro n
  induction n with
  | zero => intros; exact tj_none
  | succ n ih =>
    intro x4 σ
    rw [mX7_setScene_L3]
    refine tj_iload (q := 5) dX7_setScene_3 rfl (pl := 3) rfl ?_
    refine tj_iconst (q := 6) (v := 5) dX7_setScene_5 rfl (by decide) ?_
    refine tj_icmp_ge (tgt := 37) (q := 9) dX7_setScene_6 (by decide) rfl ?_ ?_
    · refine tj_lv [0, 1, 2] rfl ?_
      exact hk37 σ
    · refine tj_aload_n (q := 10) dX7_setScene_9 rfl (i := 0) rfl (pl := 0) rfl ?_
      refine tj_getR (q := 13) (hT).s (hT).p_scene fok_7_1 wl_RX7_21 dX7_setScene_10 rfl ?_
      refine tj_getR (q := 16) ((hT).o_scene).s ((hT).o_scene).p_held fok_8_0 wl_RX7_80 dX7_setScene_13 rfl ?_
      refine tj_iload (q := 18) dX7_setScene_16 rfl (pl := 3) rfl ?_
      refine tj_lload_n (q := 19) dX7_setScene_18 rfl (i := 1) rfl (pl := 1) rfl ?_
      refine tj_bipush (q := 21) (v := 10) dX7_setScene_19 rfl (by decide) ?_
      refine tj_iload (q := 23) dX7_setScene_21 rfl (pl := 3) rfl ?_
      refine tj_imul (q := 24) dX7_setScene_23 rfl ?_
      refine tj_lshr (q := 25) dX7_setScene_24 rfl ?_
      refine tj_l2i (q := 26) dX7_setScene_25 rfl ?_
      refine tj_sipush (q := 29) (v := 1023) dX7_setScene_26 rfl (by decide) ?_
      refine tj_iand (q := 30) dX7_setScene_29 rfl ?_
      refine tj_iastore (q := 31) ((hT).o_scene).s_held dX7_setScene_30 rfl (fun σ1 => ?_)
      refine tj_iinc (q := 34) (v := x4 + 1) dX7_setScene_31 rfl (pl := 3) rfl rfl (by decide) rfl ?_
      refine tj_goto (q := 3) dX7_setScene_34 (by decide) ?_
      refine tj_lv [1, 2, 3, 0] rfl ?_
      exact ih (x4 + 1) σ1

set_option maxHeartbeats 4000000 in
theorem rX7_setScene (t : Nat) (p1 : Int64) (p2 : Int32) (hT : LY7 sh P t) : Rj l D cA h0 ad yX7_setScene cX7_setScene 5 none false 3 0 0 (fun b => (none, sh, P, b)) [.ref (h0 + t), .long p1, .int p2] sh P σ (mX7_setScene t p1 p2 σ) := by
  rw [mX7_setScene]
  refine Rj.of (by decide) (fun h => by cases h) (Nat.le_of_ble_eq_true rfl) ?_
  refine tj_lv0 (lv' := [(0, .ref (h0 + t)), (1, .long p1), (3, .int p2)]) rfl ?_
  refine tj_iconst (q := 1) (v := 0) dX7_setScene_0 rfl (by decide) ?_
  refine tj_istore (q := 3) dX7_setScene_1 rfl (by decide) rfl ?_
  refine tj_lv [1, 2, 3, 0] rfl ?_
  refine tmX7_setScene_L3 t hT p1 p2 _ ?_ FU (0 : Int32) σ
  · intro σ2
    refine tj_aload_n (q := 38) dX7_setScene_37 rfl (i := 0) rfl (pl := 0) rfl ?_
    refine tj_getR (q := 41) (hT).s (hT).p_scene fok_7_1 wl_RX7_21 dX7_setScene_38 rfl ?_
    refine tj_getR (q := 44) ((hT).o_scene).s ((hT).o_scene).p_held fok_8_0 wl_RX7_80 dX7_setScene_41 rfl ?_
    refine tj_iconst (q := 45) (v := 5) dX7_setScene_44 rfl (by decide) ?_
    refine tj_iload_n (q := 46) dX7_setScene_45 rfl (i := 3) rfl (pl := 2) rfl ?_
    refine tj_iadd (q := 47) dX7_setScene_46 rfl ?_
    refine tj_aload_n (q := 48) dX7_setScene_47 rfl (i := 0) rfl (pl := 0) rfl ?_
    refine tj_getI (q := 51) (hT).s fok_7_7 wl_RX7_43 dX7_setScene_48 rfl ?_
    refine tj_lload_n (q := 52) dX7_setScene_51 rfl (i := 1) rfl (pl := 1) rfl ?_
    refine tj_callIp (q := 55) (kj_S (As := [.long p1]) (rest := [.int (σ2.1 t 7), .int ((5 : Int32) + p2), .ref (h0 + (t + 10 + 1))]) wi_RX7_87 (rX7_inHouses p1) rfl (Nat.le_of_ble_eq_true rfl) ⟨Nat.le_of_ble_eq_true rfl, Nat.le_of_ble_eq_true rfl⟩ (Nat.le_of_ble_eq_true rfl) dX7_setScene_52) rfl (fun r3 => ?_)
    refine tj_iconst (q := 56) (v := (-1)) dX7_setScene_55 rfl (by decide) ?_
    refine tj_ixor (q := 57) dX7_setScene_56 rfl ?_
    refine tj_iand (q := 58) dX7_setScene_57 rfl ?_
    refine tj_sndI (fun v4 => ?_)
    refine tj_iastore (q := 59) ((hT).o_scene).s_held dX7_setScene_58 rfl (fun σ5 => ?_)
    exact tj_vret rfl rfl (Nat.le_of_ble_eq_true rfl) (Nat.le_of_ble_eq_true rfl) dX7_setScene_59

theorem dX7_goOn_0 : decode cX7_goOn 0 = .ok (.iload_n 3, 1) := by decide +kernel
theorem dX7_goOn_1 : decode cX7_goOn 1 = .ok (.istore 4, 2) := by decide +kernel
theorem dX7_goOn_3 : decode cX7_goOn 3 = .ok (.iload 4, 2) := by decide +kernel
theorem dX7_goOn_5 : decode cX7_goOn 5 = .ok (.aload_n 0, 1) := by decide +kernel
theorem dX7_goOn_6 : decode cX7_goOn 6 = .ok (.getfield 40, 3) := by decide +kernel
theorem dX7_goOn_9 : decode cX7_goOn 9 = .ok (.if_icmp .ge 128, 3) := by decide +kernel
theorem dX7_goOn_12 : decode cX7_goOn 12 = .ok (.aload_n 0, 1) := by decide +kernel
theorem dX7_goOn_13 : decode cX7_goOn 13 = .ok (.getfield 25, 3) := by decide +kernel
theorem dX7_goOn_16 : decode cX7_goOn 16 = .ok (.iload 4, 2) := by decide +kernel
theorem dX7_goOn_18 : decode cX7_goOn 18 = .ok (.laload, 1) := by decide +kernel
theorem dX7_goOn_19 : decode cX7_goOn 19 = .ok (.lstore 5, 2) := by decide +kernel
theorem dX7_goOn_21 : decode cX7_goOn 21 = .ok (.aload_n 0, 1) := by decide +kernel
theorem dX7_goOn_22 : decode cX7_goOn 22 = .ok (.lload 5, 2) := by decide +kernel
theorem dX7_goOn_24 : decode cX7_goOn 24 = .ok (.iload_n 2, 1) := by decide +kernel
theorem dX7_goOn_25 : decode cX7_goOn 25 = .ok (.invokevirtual 91, 3) := by decide +kernel
theorem dX7_goOn_28 : decode cX7_goOn 28 = .ok (.aload_n 0, 1) := by decide +kernel
theorem dX7_goOn_29 : decode cX7_goOn 29 = .ok (.getfield 12, 3) := by decide +kernel
theorem dX7_goOn_32 : decode cX7_goOn 32 = .ok (.aload_n 1, 1) := by decide +kernel
theorem dX7_goOn_33 : decode cX7_goOn 33 = .ok (.aload_n 0, 1) := by decide +kernel
theorem dX7_goOn_34 : decode cX7_goOn 34 = .ok (.getfield 21, 3) := by decide +kernel
theorem dX7_goOn_37 : decode cX7_goOn 37 = .ok (.iload_n 2, 1) := by decide +kernel
theorem dX7_goOn_38 : decode cX7_goOn 38 = .ok (.invokevirtual 95, 3) := by decide +kernel
theorem dX7_goOn_41 : decode cX7_goOn 41 = .ok (.iconst 0, 1) := by decide +kernel
theorem dX7_goOn_42 : decode cX7_goOn 42 = .ok (.istore 7, 2) := by decide +kernel
theorem dX7_goOn_44 : decode cX7_goOn 44 = .ok (.iload 7, 2) := by decide +kernel
theorem dX7_goOn_46 : decode cX7_goOn 46 = .ok (.aload_n 0, 1) := by decide +kernel
theorem dX7_goOn_47 : decode cX7_goOn 47 = .ok (.getfield 12, 3) := by decide +kernel
theorem dX7_goOn_50 : decode cX7_goOn 50 = .ok (.getfield 99, 3) := by decide +kernel
theorem dX7_goOn_53 : decode cX7_goOn 53 = .ok (.if_icmp .ge 65, 3) := by decide +kernel
theorem dX7_goOn_56 : decode cX7_goOn 56 = .ok (.lconst 1, 1) := by decide +kernel
theorem dX7_goOn_57 : decode cX7_goOn 57 = .ok (.aload_n 0, 1) := by decide +kernel
theorem dX7_goOn_58 : decode cX7_goOn 58 = .ok (.getfield 12, 3) := by decide +kernel
theorem dX7_goOn_61 : decode cX7_goOn 61 = .ok (.getfield 100, 3) := by decide +kernel
theorem dX7_goOn_64 : decode cX7_goOn 64 = .ok (.iload 7, 2) := by decide +kernel
theorem dX7_goOn_66 : decode cX7_goOn 66 = .ok (.iaload, 1) := by decide +kernel
theorem dX7_goOn_67 : decode cX7_goOn 67 = .ok (.lshl, 1) := by decide +kernel
theorem dX7_goOn_68 : decode cX7_goOn 68 = .ok (.aload_n 0, 1) := by decide +kernel
theorem dX7_goOn_69 : decode cX7_goOn 69 = .ok (.getfield 12, 3) := by decide +kernel
theorem dX7_goOn_72 : decode cX7_goOn 72 = .ok (.getfield 103, 3) := by decide +kernel
theorem dX7_goOn_75 : decode cX7_goOn 75 = .ok (.iload 7, 2) := by decide +kernel
theorem dX7_goOn_77 : decode cX7_goOn 77 = .ok (.iaload, 1) := by decide +kernel
theorem dX7_goOn_78 : decode cX7_goOn 78 = .ok (.i2l, 1) := by decide +kernel
theorem dX7_goOn_79 : decode cX7_goOn 79 = .ok (.lor, 1) := by decide +kernel
theorem dX7_goOn_80 : decode cX7_goOn 80 = .ok (.lstore 8, 2) := by decide +kernel
theorem dX7_goOn_82 : decode cX7_goOn 82 = .ok (.aload_n 0, 1) := by decide +kernel
theorem dX7_goOn_83 : decode cX7_goOn 83 = .ok (.lload 5, 2) := by decide +kernel
theorem dX7_goOn_85 : decode cX7_goOn 85 = .ok (.lload 8, 2) := by decide +kernel
theorem dX7_goOn_87 : decode cX7_goOn 87 = .ok (.bipush 10, 2) := by decide +kernel
theorem dX7_goOn_89 : decode cX7_goOn 89 = .ok (.aload_n 0, 1) := by decide +kernel
theorem dX7_goOn_90 : decode cX7_goOn 90 = .ok (.getfield 12, 3) := by decide +kernel
theorem dX7_goOn_93 : decode cX7_goOn 93 = .ok (.getfield 106, 3) := by decide +kernel
theorem dX7_goOn_96 : decode cX7_goOn 96 = .ok (.iload 7, 2) := by decide +kernel
theorem dX7_goOn_98 : decode cX7_goOn 98 = .ok (.iaload, 1) := by decide +kernel
theorem dX7_goOn_99 : decode cX7_goOn 99 = .ok (.imul, 1) := by decide +kernel
theorem dX7_goOn_100 : decode cX7_goOn 100 = .ok (.lshl, 1) := by decide +kernel
theorem dX7_goOn_101 : decode cX7_goOn 101 = .ok (.lxor, 1) := by decide +kernel
theorem dX7_goOn_102 : decode cX7_goOn 102 = .ok (.iload 4, 2) := by decide +kernel
theorem dX7_goOn_104 : decode cX7_goOn 104 = .ok (.invokevirtual 83, 3) := by decide +kernel
theorem dX7_goOn_107 : decode cX7_goOn 107 = .ok (.ifCond .ne 5, 3) := by decide +kernel
theorem dX7_goOn_110 : decode cX7_goOn 110 = .ok (.iconst 0, 1) := by decide +kernel
theorem dX7_goOn_111 : decode cX7_goOn 111 = .ok (.ireturn, 1) := by decide +kernel
theorem dX7_goOn_112 : decode cX7_goOn 112 = .ok (.iinc 7 1, 3) := by decide +kernel
theorem dX7_goOn_115 : decode cX7_goOn 115 = .ok (.goto (-71), 3) := by decide +kernel
theorem dX7_goOn_118 : decode cX7_goOn 118 = .ok (.aload_n 0, 1) := by decide +kernel
theorem dX7_goOn_119 : decode cX7_goOn 119 = .ok (.lload 5, 2) := by decide +kernel
theorem dX7_goOn_121 : decode cX7_goOn 121 = .ok (.iload 4, 2) := by decide +kernel
theorem dX7_goOn_123 : decode cX7_goOn 123 = .ok (.invokevirtual 83, 3) := by decide +kernel
theorem dX7_goOn_126 : decode cX7_goOn 126 = .ok (.ifCond .ne 5, 3) := by decide +kernel
theorem dX7_goOn_129 : decode cX7_goOn 129 = .ok (.iconst 0, 1) := by decide +kernel
theorem dX7_goOn_130 : decode cX7_goOn 130 = .ok (.ireturn, 1) := by decide +kernel
theorem dX7_goOn_131 : decode cX7_goOn 131 = .ok (.iinc 4 1, 3) := by decide +kernel
theorem dX7_goOn_134 : decode cX7_goOn 134 = .ok (.goto (-131), 3) := by decide +kernel
theorem dX7_goOn_137 : decode cX7_goOn 137 = .ok (.iconst 1, 1) := by decide +kernel
theorem dX7_goOn_138 : decode cX7_goOn 138 = .ok (.ireturn, 1) := by decide +kernel
theorem wm_X7_setScene : Cond.instanceMethod yX7_setScene ∈ TB ∧ Cond.selects yX7_setScene.cls yX7_setScene yX7_setScene ∈ TB ∧ Cond.initialized yX7_setScene.cls ∈ TB ∧ Cond.code yX7_setScene cX7_setScene 5 none ∈ TB ∧ (yX7_setScene.cls ≠ "java/lang/invoke/MethodHandle" ∧ yX7_setScene.cls ≠ "java/lang/invoke/VarHandle" ∧ (parseMethodDescriptor yX7_setScene.desc).map (fun d => d.parameters.length) = some 2) ∧ 5 ≤ 21 := ⟨tbm 1234 (by decide +kernel) (by decide +kernel), tbm 45 (by decide +kernel) (by decide +kernel), tbm 145 (by decide +kernel) (by decide +kernel), tbm 1235 (by decide +kernel) (by decide +kernel), by decide +kernel, by decide⟩
theorem wi_RX7_91 : Iv RX7 91 yX7_setScene cX7_setScene 5 none 2 := ⟨tbm 1232 (by decide +kernel) (by decide +kernel), wm_X7_setScene⟩
theorem wl_RX7_12 : Cond.fieldLink RX7 12 (TX7 0).1 (TX7 0).2.1 (TX7 0).2.2.1 ∈ TB := tbm 585 (by decide +kernel) (by decide +kernel)
theorem wi_RX7_95 : Iv RX7 95 yX9_gather cX9_gather 7 none 3 := ⟨tbm 1236 (by decide +kernel) (by decide +kernel), wm_X9_gather⟩
theorem wl_RX7_99 : Cond.fieldLink RX7 99 (TX9 4).1 (TX9 4).2.1 (TX9 4).2.2.1 ∈ TB := tbm 514 (by decide +kernel) (by decide +kernel)
theorem wl_RX7_100 : Cond.fieldLink RX7 100 (TX9 1).1 (TX9 1).2.1 (TX9 1).2.2.1 ∈ TB := tbm 504 (by decide +kernel) (by decide +kernel)
theorem wl_RX7_103 : Cond.fieldLink RX7 103 (TX9 2).1 (TX9 2).2.1 (TX9 2).2.2.1 ∈ TB := tbm 508 (by decide +kernel) (by decide +kernel)
theorem wl_RX7_106 : Cond.fieldLink RX7 106 (TX9 0).1 (TX9 0).2.1 (TX9 0).2.2.1 ∈ TB := tbm 500 (by decide +kernel) (by decide +kernel)
def mX7_goOn_L44 (t : Nat) (p1 : Nat) (x2 : Int32) (x4 : Int32) (x5 : Int64) (k118 : St_ → Option (Bool × St_)) : Nat → Int32 → St_ → Option (Bool × St_)
  | 0, _, _ => none
  | n + 1, x7, σ => (if (σ.1 (t + 1) 4) ≤ x7 then
 (k118 σ)
 else (if bin x7 100 = true then bnd (σ.1 (t + 1 + 2) x7.toNatClampNeg) fun v4 =>
 (if bin x7 100 = true then bnd (σ.1 (t + 1 + 3) x7.toNatClampNeg) fun v5 =>
 (bnd (((1 : Int64) <<< (v4.toInt64 &&& 63)) ||| v5.toInt64) fun v6 =>
 (if bin x7 100 = true then bnd (σ.1 (t + 1 + 1) x7.toNatClampNeg) fun v7 =>
 ((mX7_come t (x5 ^^^ (v6 <<< (((10 : Int32) * v7).toInt64 &&& 63))) x4 σ).bind fun r8 =>
 (if r8.1 = true then
 (mX7_goOn_L44 t p1 x2 x4 x5 k118 n (x7 + 1) r8.2)
 else (some (false, r8.2))))
 else none))
 else none)
 else none))
def mX7_goOn_L3 (t : Nat) (p1 : Nat) (x2 : Int32) : Nat → Int32 → St_ → Option (Bool × St_)
  | 0, _, _ => none
  | n + 1, x4, σ => (if (σ.1 t 6) ≤ x4 then
 (some (true, σ))
 else (if bin x4 2000 = true then bnd (σ.2 (t + 13) x4.toNatClampNeg) fun v1 =>
 ((mX7_setScene t v1 x2 σ).bind fun σ2 =>
 ((mX9_gather (t + 1) p1 (t + 10) x2 σ2).bind fun σ3 =>
 (mX7_goOn_L44 t p1 x2 x4 v1
 (fun (σ9 : St_) => ((mX7_come t v1 x4 σ9).bind fun r10 =>
 (if r10.1 = true then
 (mX7_goOn_L3 t p1 x2 n (x4 + 1) r10.2)
 else (some (false, r10.2))))) FU (0 : Int32) σ3)))
 else none))
def mX7_goOn (t : Nat) (p1 : Nat) (p2 : Int32) (p3 : Int32) (σ : St_) : Option (Bool × St_) :=
 (mX7_goOn_L3 t p1 p2 FU p3 σ)
set_option maxHeartbeats 4000000 in
theorem tmX7_goOn_L44 (t : Nat) (p1 : Nat) (hT : LY7 sh P t) (hp1 : LY1 sh P p1) (x2 : Int32) (x4 : Int32) (x5 : Int64) (k118 : St_ → Option (Bool × St_)) (hk118 : ∀ (σ1 : St_), Tj l D cA h0 ad RX7 cX7_goOn 10 (some .boolean) false 7 0 0 (fun b => (some (.int (b2i b.1)), sh, P, b.2)) 0 0 sh P σ1 118 [(0, .ref (h0 + t)), (1, .ref (h0 + p1)), (2, .int x2), (4, .int x4), (5, .long x5)] [] (k118 σ1)) : ∀ (n : Nat) (x7 : Int32) (σ : St_), Tj l D cA h0 ad RX7 cX7_goOn 10 (some .boolean) false 7 0 0 (fun b => (some (.int (b2i b.1)), sh, P, b.2)) 0 0 sh P σ 44 [(0, .ref (h0 + t)), (1, .ref (h0 + p1)), (2, .int x2), (4, .int x4), (5, .long x5), (7, .int x7)] [] (mX7_goOn_L44 t p1 x2 x4 x5 k118 n x7 σ) := by
  intro n
  induction n with
  | zero => intros; exact tj_none
  | succ n ih =>
    intro x7 σ
    rw [mX7_goOn_L44]
    refine tj_iload (q := 46) dX7_goOn_44 rfl (pl := 5) rfl ?_
    refine tj_aload_n (q := 47) dX7_goOn_46 rfl (i := 0) rfl (pl := 0) rfl ?_
    refine tj_getR (q := 50) (hT).s (hT).p_list fok_7_0 wl_RX7_12 dX7_goOn_47 rfl ?_
    refine tj_getI (q := 53) ((hT).o_list).s fok_9_4 wl_RX7_99 dX7_goOn_50 rfl ?_
    refine tj_icmp_ge (tgt := 118) (q := 56) dX7_goOn_53 (by decide) rfl ?_ ?_
    · refine tj_lv [0, 1, 2, 3, 4] rfl ?_
      exact hk118 σ
    · refine tj_lconst (q := 57) (v := 1) dX7_goOn_56 rfl (by decide) ?_
      refine tj_aload_n (q := 58) dX7_goOn_57 rfl (i := 0) rfl (pl := 0) rfl ?_
      refine tj_getR (q := 61) (hT).s (hT).p_list fok_7_0 wl_RX7_12 dX7_goOn_58 rfl ?_
      refine tj_getR (q := 64) ((hT).o_list).s ((hT).o_list).p_thing fok_9_1 wl_RX7_100 dX7_goOn_61 rfl ?_
      refine tj_iload (q := 66) dX7_goOn_64 rfl (pl := 5) rfl ?_
      refine tj_iaload (q := 67) ((hT).o_list).s_thing dX7_goOn_66 rfl ?_
      refine tj_topI (fun v4 => ?_)
      refine tj_lshl (q := 68) dX7_goOn_67 rfl ?_
      refine tj_aload_n (q := 69) dX7_goOn_68 rfl (i := 0) rfl (pl := 0) rfl ?_
      refine tj_getR (q := 72) (hT).s (hT).p_list fok_7_0 wl_RX7_12 dX7_goOn_69 rfl ?_
      refine tj_getR (q := 75) ((hT).o_list).s ((hT).o_list).p_left fok_9_2 wl_RX7_103 dX7_goOn_72 rfl ?_
      refine tj_iload (q := 77) dX7_goOn_75 rfl (pl := 5) rfl ?_
      refine tj_iaload (q := 78) ((hT).o_list).s_left dX7_goOn_77 rfl ?_
      refine tj_topI (fun v5 => ?_)
      refine tj_i2l (q := 79) dX7_goOn_78 rfl ?_
      refine tj_lor (q := 80) dX7_goOn_79 rfl ?_
      refine tj_topL (fun v6 => ?_)
      refine tj_lstore (q := 82) dX7_goOn_80 rfl (by decide) rfl ?_
      refine tj_aload_n (q := 83) dX7_goOn_82 rfl (i := 0) rfl (pl := 1) rfl ?_
      refine tj_lload (q := 85) dX7_goOn_83 rfl (pl := 5) rfl ?_
      refine tj_lload (q := 87) dX7_goOn_85 rfl (pl := 0) rfl ?_
      refine tj_bipush (q := 89) (v := 10) dX7_goOn_87 rfl (by decide) ?_
      refine tj_aload_n (q := 90) dX7_goOn_89 rfl (i := 0) rfl (pl := 1) rfl ?_
      refine tj_getR (q := 93) (hT).s (hT).p_list fok_7_0 wl_RX7_12 dX7_goOn_90 rfl ?_
      refine tj_getR (q := 96) ((hT).o_list).s ((hT).o_list).p_house fok_9_0 wl_RX7_106 dX7_goOn_93 rfl ?_
      refine tj_iload (q := 98) dX7_goOn_96 rfl (pl := 6) rfl ?_
      refine tj_iaload (q := 99) ((hT).o_list).s_house dX7_goOn_98 rfl ?_
      refine tj_topI (fun v7 => ?_)
      refine tj_imul (q := 100) dX7_goOn_99 rfl ?_
      refine tj_lshl (q := 101) dX7_goOn_100 rfl ?_
      refine tj_lxor (q := 102) dX7_goOn_101 rfl ?_
      refine tj_iload (q := 104) dX7_goOn_102 rfl (pl := 4) rfl ?_
      refine tj_callZ (q := 107) (kj_V (As := [.long (x5 ^^^ (v6 <<< (((10 : Int32) * v7).toInt64 &&& 63))), .int x4]) (rest := []) (t := t) wi_RX7_83 (hT).s rfl (rX7_come t (x5 ^^^ (v6 <<< (((10 : Int32) * v7).toInt64 &&& 63))) x4 (hT)) rfl (Nat.le_of_ble_eq_true rfl) ⟨Nat.le_of_ble_eq_true rfl, Nat.le_of_ble_eq_true rfl⟩ (Nat.le_of_ble_eq_true rfl) dX7_goOn_104) rfl (fun r8 => ?_)
      refine tj_bnz (tgt := 112) (q := 110) dX7_goOn_107 (by decide) rfl ?_ ?_
      · refine tj_iinc (q := 115) (v := x7 + 1) dX7_goOn_112 rfl (pl := 6) rfl rfl (by decide) rfl ?_
        refine tj_goto (q := 44) dX7_goOn_115 (by decide) ?_
        refine tj_lv [2, 3, 4, 5, 6, 0] rfl ?_
        exact ih (x7 + 1) r8.2
      · refine tj_iconst (q := 111) (v := 0) dX7_goOn_110 rfl (by decide) ?_
        exact tj_zret rfl (by decide) rfl (Nat.le_of_ble_eq_true rfl) (Nat.le_of_ble_eq_true rfl) dX7_goOn_111

set_option maxHeartbeats 4000000 in
theorem tmX7_goOn_L3 (t : Nat) (p1 : Nat) (hT : LY7 sh P t) (hp1 : LY1 sh P p1) (x2 : Int32) : ∀ (n : Nat) (x4 : Int32) (σ : St_), Tj l D cA h0 ad RX7 cX7_goOn 10 (some .boolean) false 7 0 0 (fun b => (some (.int (b2i b.1)), sh, P, b.2)) 0 0 sh P σ 3 [(0, .ref (h0 + t)), (1, .ref (h0 + p1)), (2, .int x2), (4, .int x4)] [] (mX7_goOn_L3 t p1 x2 n x4 σ) := by
  intro n
  induction n with
  | zero => intros; exact tj_none
  | succ n ih =>
    intro x4 σ
    rw [mX7_goOn_L3]
    refine tj_iload (q := 5) dX7_goOn_3 rfl (pl := 3) rfl ?_
    refine tj_aload_n (q := 6) dX7_goOn_5 rfl (i := 0) rfl (pl := 0) rfl ?_
    refine tj_getI (q := 9) (hT).s fok_7_6 wl_RX7_40 dX7_goOn_6 rfl ?_
    refine tj_icmp_ge (tgt := 137) (q := 12) dX7_goOn_9 (by decide) rfl ?_ ?_
    · refine tj_iconst (q := 138) (v := 1) dX7_goOn_137 rfl (by decide) ?_
      exact tj_zret rfl (by decide) rfl (Nat.le_of_ble_eq_true rfl) (Nat.le_of_ble_eq_true rfl) dX7_goOn_138
    · refine tj_aload_n (q := 13) dX7_goOn_12 rfl (i := 0) rfl (pl := 0) rfl ?_
      refine tj_getR (q := 16) (hT).s (hT).p_keys fok_7_2 wl_RX7_25 dX7_goOn_13 rfl ?_
      refine tj_iload (q := 18) dX7_goOn_16 rfl (pl := 3) rfl ?_
      refine tj_laload (q := 19) (hT).s_keys dX7_goOn_18 rfl ?_
      refine tj_topL (fun v1 => ?_)
      refine tj_lstore (q := 21) dX7_goOn_19 rfl (by decide) rfl ?_
      refine tj_aload_n (q := 22) dX7_goOn_21 rfl (i := 0) rfl (pl := 1) rfl ?_
      refine tj_lload (q := 24) dX7_goOn_22 rfl (pl := 0) rfl ?_
      refine tj_iload_n (q := 25) dX7_goOn_24 rfl (i := 2) rfl (pl := 3) rfl ?_
      refine tj_callV (q := 28) (kj_V (As := [.long v1, .int x2]) (rest := []) (t := t) wi_RX7_91 (hT).s rfl (rX7_setScene t v1 x2 (hT)) rfl (Nat.le_of_ble_eq_true rfl) ⟨Nat.le_of_ble_eq_true rfl, Nat.le_of_ble_eq_true rfl⟩ (Nat.le_of_ble_eq_true rfl) dX7_goOn_25) rfl (fun σ2 => ?_)
      refine tj_aload_n (q := 29) dX7_goOn_28 rfl (i := 0) rfl (pl := 1) rfl ?_
      refine tj_getR (q := 32) (hT).s (hT).p_list fok_7_0 wl_RX7_12 dX7_goOn_29 rfl ?_
      refine tj_aload_n (q := 33) dX7_goOn_32 rfl (i := 1) rfl (pl := 2) rfl ?_
      refine tj_aload_n (q := 34) dX7_goOn_33 rfl (i := 0) rfl (pl := 1) rfl ?_
      refine tj_getR (q := 37) (hT).s (hT).p_scene fok_7_1 wl_RX7_21 dX7_goOn_34 rfl ?_
      refine tj_iload_n (q := 38) dX7_goOn_37 rfl (i := 2) rfl (pl := 3) rfl ?_
      refine tj_callV (q := 41) (kj_V (As := [.ref (h0 + p1), .ref (h0 + (t + 10)), .int x2]) (rest := []) (t := (t + 1)) wi_RX7_95 ((hT).o_list).s rfl (rX9_gather (t + 1) p1 (t + 10) x2 ((hT).o_list) (hp1) ((hT).o_scene)) rfl (Nat.le_of_ble_eq_true rfl) ⟨Nat.le_of_ble_eq_true rfl, Nat.le_of_ble_eq_true rfl⟩ (Nat.le_of_ble_eq_true rfl) dX7_goOn_38) rfl (fun σ3 => ?_)
      refine tj_iconst (q := 42) (v := 0) dX7_goOn_41 rfl (by decide) ?_
      refine tj_istore (q := 44) dX7_goOn_42 rfl (by decide) rfl ?_
      refine tj_lv [2, 3, 4, 5, 1, 0] rfl ?_
      refine tmX7_goOn_L44 t p1 hT hp1 x2 x4 v1 _ ?_ FU (0 : Int32) σ3
      · intro σ9
        refine tj_aload_n (q := 119) dX7_goOn_118 rfl (i := 0) rfl (pl := 0) rfl ?_
        refine tj_lload (q := 121) dX7_goOn_119 rfl (pl := 4) rfl ?_
        refine tj_iload (q := 123) dX7_goOn_121 rfl (pl := 3) rfl ?_
        refine tj_callZ (q := 126) (kj_V (As := [.long v1, .int x4]) (rest := []) (t := t) wi_RX7_83 (hT).s rfl (rX7_come t v1 x4 (hT)) rfl (Nat.le_of_ble_eq_true rfl) ⟨Nat.le_of_ble_eq_true rfl, Nat.le_of_ble_eq_true rfl⟩ (Nat.le_of_ble_eq_true rfl) dX7_goOn_123) rfl (fun r10 => ?_)
        refine tj_bnz (tgt := 131) (q := 129) dX7_goOn_126 (by decide) rfl ?_ ?_
        · refine tj_iinc (q := 134) (v := x4 + 1) dX7_goOn_131 rfl (pl := 3) rfl rfl (by decide) rfl ?_
          refine tj_goto (q := 3) dX7_goOn_134 (by decide) ?_
          refine tj_lv [1, 2, 3, 0] rfl ?_
          exact ih (x4 + 1) r10.2
        · refine tj_iconst (q := 130) (v := 0) dX7_goOn_129 rfl (by decide) ?_
          exact tj_zret rfl (by decide) rfl (Nat.le_of_ble_eq_true rfl) (Nat.le_of_ble_eq_true rfl) dX7_goOn_130

set_option maxHeartbeats 4000000 in
theorem rX7_goOn (t : Nat) (p1 : Nat) (p2 : Int32) (p3 : Int32) (hT : LY7 sh P t) (hp1 : LY1 sh P p1) : Rj l D cA h0 ad yX7_goOn cX7_goOn 10 (some .boolean) false 7 0 0 (fun b => (some (.int (b2i b.1)), sh, P, b.2)) [.ref (h0 + t), .ref (h0 + p1), .int p2, .int p3] sh P σ (mX7_goOn t p1 p2 p3 σ) := by
  rw [mX7_goOn]
  refine Rj.of (by decide) (fun h => by cases h) (Nat.le_of_ble_eq_true rfl) ?_
  refine tj_lv0 (lv' := [(0, .ref (h0 + t)), (1, .ref (h0 + p1)), (2, .int p2), (3, .int p3)]) rfl ?_
  refine tj_iload_n (q := 1) dX7_goOn_0 rfl (i := 3) rfl (pl := 3) rfl ?_
  refine tj_istore (q := 3) dX7_goOn_1 rfl (by decide) rfl ?_
  refine tj_lv [1, 2, 3, 0] rfl ?_
  exact tmX7_goOn_L3 t p1 hT hp1 p2 FU p3 σ

theorem dX7_run_0 : decode cX7_run 0 = .ok (.aload_n 0, 1) := by decide +kernel
theorem dX7_run_1 : decode cX7_run 1 = .ok (.aload_n 2, 1) := by decide +kernel
theorem dX7_run_2 : decode cX7_run 2 = .ok (.iload_n 3, 1) := by decide +kernel
theorem dX7_run_3 : decode cX7_run 3 = .ok (.invokevirtual 49, 3) := by decide +kernel
theorem dX7_run_6 : decode cX7_run 6 = .ok (.iconst 0, 1) := by decide +kernel
theorem dX7_run_7 : decode cX7_run 7 = .ok (.istore 5, 2) := by decide +kernel
theorem dX7_run_9 : decode cX7_run 9 = .ok (.iconst 0, 1) := by decide +kernel
theorem dX7_run_10 : decode cX7_run 10 = .ok (.istore 6, 2) := by decide +kernel
theorem dX7_run_12 : decode cX7_run 12 = .ok (.iload 6, 2) := by decide +kernel
theorem dX7_run_14 : decode cX7_run 14 = .ok (.bipush 9, 2) := by decide +kernel
theorem dX7_run_16 : decode cX7_run 16 = .ok (.if_icmp .gt 78, 3) := by decide +kernel
theorem dX7_run_19 : decode cX7_run 19 = .ok (.aload_n 0, 1) := by decide +kernel
theorem dX7_run_20 : decode cX7_run 20 = .ok (.aload_n 0, 1) := by decide +kernel
theorem dX7_run_21 : decode cX7_run 21 = .ok (.iload 5, 2) := by decide +kernel
theorem dX7_run_23 : decode cX7_run 23 = .ok (.iload 4, 2) := by decide +kernel
theorem dX7_run_25 : decode cX7_run 25 = .ok (.invokevirtual 53, 3) := by decide +kernel
theorem dX7_run_28 : decode cX7_run 28 = .ok (.putfield 46, 3) := by decide +kernel
theorem dX7_run_31 : decode cX7_run 31 = .ok (.aload_n 0, 1) := by decide +kernel
theorem dX7_run_32 : decode cX7_run 32 = .ok (.getfield 46, 3) := by decide +kernel
theorem dX7_run_35 : decode cX7_run 35 = .ok (.iconst (-1), 1) := by decide +kernel
theorem dX7_run_36 : decode cX7_run 36 = .ok (.if_icmp .eq 6, 3) := by decide +kernel
theorem dX7_run_39 : decode cX7_run 39 = .ok (.iload 6, 2) := by decide +kernel
theorem dX7_run_41 : decode cX7_run 41 = .ok (.ireturn, 1) := by decide +kernel
theorem dX7_run_42 : decode cX7_run 42 = .ok (.aload_n 0, 1) := by decide +kernel
theorem dX7_run_43 : decode cX7_run 43 = .ok (.aload_n 0, 1) := by decide +kernel
theorem dX7_run_44 : decode cX7_run 44 = .ok (.getfield 36, 3) := by decide +kernel
theorem dX7_run_47 : decode cX7_run 47 = .ok (.putfield 40, 3) := by decide +kernel
theorem dX7_run_50 : decode cX7_run 50 = .ok (.iload 6, 2) := by decide +kernel
theorem dX7_run_52 : decode cX7_run 52 = .ok (.bipush 9, 2) := by decide +kernel
theorem dX7_run_54 : decode cX7_run 54 = .ok (.if_icmp .ge 17, 3) := by decide +kernel
theorem dX7_run_57 : decode cX7_run 57 = .ok (.aload_n 0, 1) := by decide +kernel
theorem dX7_run_58 : decode cX7_run 58 = .ok (.aload_n 1, 1) := by decide +kernel
theorem dX7_run_59 : decode cX7_run 59 = .ok (.iload_n 3, 1) := by decide +kernel
theorem dX7_run_60 : decode cX7_run 60 = .ok (.iload 5, 2) := by decide +kernel
theorem dX7_run_62 : decode cX7_run 62 = .ok (.invokevirtual 57, 3) := by decide +kernel
theorem dX7_run_65 : decode cX7_run 65 = .ok (.ifCond .ne 6, 3) := by decide +kernel
theorem dX7_run_68 : decode cX7_run 68 = .ok (.bipush (-2), 2) := by decide +kernel
theorem dX7_run_70 : decode cX7_run 70 = .ok (.ireturn, 1) := by decide +kernel
theorem dX7_run_71 : decode cX7_run 71 = .ok (.aload_n 0, 1) := by decide +kernel
theorem dX7_run_72 : decode cX7_run 72 = .ok (.getfield 40, 3) := by decide +kernel
theorem dX7_run_75 : decode cX7_run 75 = .ok (.istore 5, 2) := by decide +kernel
theorem dX7_run_77 : decode cX7_run 77 = .ok (.aload_n 0, 1) := by decide +kernel
theorem dX7_run_78 : decode cX7_run 78 = .ok (.getfield 21, 3) := by decide +kernel
theorem dX7_run_81 : decode cX7_run 81 = .ok (.aload_n 1, 1) := by decide +kernel
theorem dX7_run_82 : decode cX7_run 82 = .ok (.getfield 61, 3) := by decide +kernel
theorem dX7_run_85 : decode cX7_run 85 = .ok (.invokevirtual 66, 3) := by decide +kernel
theorem dX7_run_88 : decode cX7_run 88 = .ok (.iinc 6 1, 3) := by decide +kernel
theorem dX7_run_91 : decode cX7_run 91 = .ok (.goto (-79), 3) := by decide +kernel
theorem dX7_run_94 : decode cX7_run 94 = .ok (.iconst (-1), 1) := by decide +kernel
theorem dX7_run_95 : decode cX7_run 95 = .ok (.ireturn, 1) := by decide +kernel
theorem wm_X7_begin : Cond.instanceMethod yX7_begin ∈ TB ∧ Cond.selects yX7_begin.cls yX7_begin yX7_begin ∈ TB ∧ Cond.initialized yX7_begin.cls ∈ TB ∧ Cond.code yX7_begin cX7_begin 6 none ∈ TB ∧ (yX7_begin.cls ≠ "java/lang/invoke/MethodHandle" ∧ yX7_begin.cls ≠ "java/lang/invoke/VarHandle" ∧ (parseMethodDescriptor yX7_begin.desc).map (fun d => d.parameters.length) = some 2) ∧ 6 ≤ 21 := ⟨tbm 1213 (by decide +kernel) (by decide +kernel), tbm 41 (by decide +kernel) (by decide +kernel), tbm 145 (by decide +kernel) (by decide +kernel), tbm 1214 (by decide +kernel) (by decide +kernel), by decide +kernel, by decide⟩
theorem wi_RX7_49 : Iv RX7 49 yX7_begin cX7_begin 6 none 2 := ⟨tbm 1211 (by decide +kernel) (by decide +kernel), wm_X7_begin⟩
theorem wm_X7_firstWith : Cond.instanceMethod yX7_firstWith ∈ TB ∧ Cond.selects yX7_firstWith.cls yX7_firstWith yX7_firstWith ∈ TB ∧ Cond.initialized yX7_firstWith.cls ∈ TB ∧ Cond.code yX7_firstWith cX7_firstWith 4 (some .int) ∈ TB ∧ (yX7_firstWith.cls ≠ "java/lang/invoke/MethodHandle" ∧ yX7_firstWith.cls ≠ "java/lang/invoke/VarHandle" ∧ (parseMethodDescriptor yX7_firstWith.desc).map (fun d => d.parameters.length) = some 2) ∧ 4 ≤ 21 := ⟨tbm 1223 (by decide +kernel) (by decide +kernel), tbm 43 (by decide +kernel) (by decide +kernel), tbm 145 (by decide +kernel) (by decide +kernel), tbm 1224 (by decide +kernel) (by decide +kernel), by decide +kernel, by decide⟩
theorem wi_RX7_53 : Iv RX7 53 yX7_firstWith cX7_firstWith 4 (some .int) 2 := ⟨tbm 1221 (by decide +kernel) (by decide +kernel), wm_X7_firstWith⟩
theorem wl_RX7_46 : Cond.fieldLink RX7 46 (TX7 8).1 (TX7 8).2.1 (TX7 8).2.2.1 ∈ TB := tbm 593 (by decide +kernel) (by decide +kernel)
theorem wm_X7_goOn : Cond.instanceMethod yX7_goOn ∈ TB ∧ Cond.selects yX7_goOn.cls yX7_goOn yX7_goOn ∈ TB ∧ Cond.initialized yX7_goOn.cls ∈ TB ∧ Cond.code yX7_goOn cX7_goOn 10 (some .boolean) ∈ TB ∧ (yX7_goOn.cls ≠ "java/lang/invoke/MethodHandle" ∧ yX7_goOn.cls ≠ "java/lang/invoke/VarHandle" ∧ (parseMethodDescriptor yX7_goOn.desc).map (fun d => d.parameters.length) = some 3) ∧ 10 ≤ 21 := ⟨tbm 1230 (by decide +kernel) (by decide +kernel), tbm 44 (by decide +kernel) (by decide +kernel), tbm 145 (by decide +kernel) (by decide +kernel), tbm 1231 (by decide +kernel) (by decide +kernel), by decide +kernel, by decide⟩
theorem wi_RX7_57 : Iv RX7 57 yX7_goOn cX7_goOn 10 (some .boolean) 3 := ⟨tbm 1228 (by decide +kernel) (by decide +kernel), wm_X7_goOn⟩
theorem wl_RX7_61 : Cond.fieldLink RX7 61 (TX1 0).1 (TX1 0).2.1 (TX1 0).2.2.1 ∈ TB := tbm 289 (by decide +kernel) (by decide +kernel)
theorem wi_RX7_66 : Iv RX7 66 yX8_passHour cX8_passHour 2 none 1 := ⟨tbm 1237 (by decide +kernel) (by decide +kernel), wm_X8_passHour⟩
def mX7_run_L12 (t : Nat) (p1 : Nat) (p2 : Nat) (x3 : Int32) (x4 : Int32) : Nat → Int32 → Int32 → St_ → Option (Int32 × St_)
  | 0, _, _, _ => none
  | n + 1, x5, x6, σ => (if (9 : Int32) < x6 then
 (some ((-1 : Int32), σ))
 else ((mX7_firstWith t x5 x4 σ).bind fun r2 =>
 (bnd (sI σ t 8 r2) fun σ3 =>
 (if (σ3.1 t 8) = (-1 : Int32) then
 (bnd (sI σ3 t 6 (σ3.1 t 5)) fun σ4 =>
 (bnd (fun (σ5 : St_) => (bnd (σ5.1 t 6) fun v8 =>
 ((mX8_passHour (t + 10) (σ5.1 p1 0) σ5).bind fun σ9 =>
 (mX7_run_L12 t p1 p2 x3 x4 n v8 (x6 + 1) σ9)))) fun k6 =>
 (if (9 : Int32) ≤ x6 then
 (k6 σ4)
 else ((mX7_goOn t p1 x3 x5 σ4).bind fun r10 =>
 (if r10.1 = true then
 (k6 r10.2)
 else (some ((-2 : Int32), r10.2)))))))
 else (some (x6, σ3))))))
def mX7_run (t : Nat) (p1 : Nat) (p2 : Nat) (p3 : Int32) (p4 : Int32) (σ : St_) : Option (Int32 × St_) :=
 ((mX7_begin t p2 p3 σ).bind fun σ1 =>
 (mX7_run_L12 t p1 p2 p3 p4 FU (0 : Int32) (0 : Int32) σ1))
set_option maxHeartbeats 4000000 in
theorem tmX7_run_L12 (t : Nat) (p1 : Nat) (p2 : Nat) (hT : LY7 sh P t) (hp1 : LY1 sh P p1) (hp2 : LY8 sh P p2) (x3 : Int32) (x4 : Int32) : ∀ (n : Nat) (x5 : Int32) (x6 : Int32) (σ : St_), Tj l D cA h0 ad RX7 cX7_run 7 (some .int) false 8 0 0 (fun b => (some (.int b.1), sh, P, b.2)) 0 0 sh P σ 12 [(0, .ref (h0 + t)), (1, .ref (h0 + p1)), (3, .int x3), (4, .int x4), (5, .int x5), (6, .int x6)] [] (mX7_run_L12 t p1 p2 x3 x4 n x5 x6 σ) := by
  intro n
  induction n with
  | zero => intros; exact tj_none
  | succ n ih =>
    intro x5 x6 σ
    rw [mX7_run_L12]
    refine tj_iload (q := 14) dX7_run_12 rfl (pl := 5) rfl ?_
    refine tj_bipush (q := 16) (v := 9) dX7_run_14 rfl (by decide) ?_
    refine tj_icmp_gt (tgt := 94) (q := 19) dX7_run_16 (by decide) rfl ?_ ?_
    · refine tj_iconst (q := 95) (v := (-1)) dX7_run_94 rfl (by decide) ?_
      exact tj_iret rfl rfl (Nat.le_of_ble_eq_true rfl) (Nat.le_of_ble_eq_true rfl) dX7_run_95
    · refine tj_aload_n (q := 20) dX7_run_19 rfl (i := 0) rfl (pl := 0) rfl ?_
      refine tj_aload_n (q := 21) dX7_run_20 rfl (i := 0) rfl (pl := 0) rfl ?_
      refine tj_iload (q := 23) dX7_run_21 rfl (pl := 4) rfl ?_
      refine tj_iload (q := 25) dX7_run_23 rfl (pl := 3) rfl ?_
      refine tj_callIp (q := 28) (kj_V (As := [.int x5, .int x4]) (rest := [.ref (h0 + t)]) (t := t) wi_RX7_53 (hT).s rfl (rX7_firstWith t x5 x4 (hT)) rfl (Nat.le_of_ble_eq_true rfl) ⟨Nat.le_of_ble_eq_true rfl, Nat.le_of_ble_eq_true rfl⟩ (Nat.le_of_ble_eq_true rfl) dX7_run_25) rfl (fun r2 => ?_)
      refine tj_putI (q := 31) (hT).s fok_7_8 tok_7 fpk_7_8 wl_RX7_46 dX7_run_28 rfl (fun σ3 => ?_)
      refine tj_aload_n (q := 32) dX7_run_31 rfl (i := 0) rfl (pl := 0) rfl ?_
      refine tj_getI (q := 35) (hT).s fok_7_8 wl_RX7_46 dX7_run_32 rfl ?_
      refine tj_iconst (q := 36) (v := (-1)) dX7_run_35 rfl (by decide) ?_
      refine tj_icmp_eq (tgt := 42) (q := 39) dX7_run_36 (by decide) rfl ?_ ?_
      · refine tj_aload_n (q := 43) dX7_run_42 rfl (i := 0) rfl (pl := 0) rfl ?_
        refine tj_aload_n (q := 44) dX7_run_43 rfl (i := 0) rfl (pl := 0) rfl ?_
        refine tj_getI (q := 47) (hT).s fok_7_5 wl_RX7_36 dX7_run_44 rfl ?_
        refine tj_putI (q := 50) (hT).s fok_7_6 tok_7 fpk_7_6 wl_RX7_40 dX7_run_47 rfl (fun σ4 => ?_)
        refine tj_iload (q := 52) dX7_run_50 rfl (pl := 5) rfl ?_
        refine tj_bipush (q := 54) (v := 9) dX7_run_52 rfl (by decide) ?_
        refine tj_bnd (fun k6 => ∀ (σ5 : St_), Tj l D cA h0 ad RX7 cX7_run 7 (some .int) false 8 0 0 (fun b => (some (.int b.1), sh, P, b.2)) 0 0 sh P σ5 71 [(0, .ref (h0 + t)), (1, .ref (h0 + p1)), (3, .int x3), (4, .int x4), (6, .int x6)] [] (k6 σ5)) ?_ (fun k6 hk7 => ?_)
        · intro σ5
          refine tj_aload_n (q := 72) dX7_run_71 rfl (i := 0) rfl (pl := 0) rfl ?_
          refine tj_getI (q := 75) (hT).s fok_7_6 wl_RX7_40 dX7_run_72 rfl ?_
          refine tj_topI (fun v8 => ?_)
          refine tj_istore (q := 77) dX7_run_75 rfl (by decide) rfl ?_
          refine tj_aload_n (q := 78) dX7_run_77 rfl (i := 0) rfl (pl := 1) rfl ?_
          refine tj_getR (q := 81) (hT).s (hT).p_scene fok_7_1 wl_RX7_21 dX7_run_78 rfl ?_
          refine tj_aload_n (q := 82) dX7_run_81 rfl (i := 1) rfl (pl := 2) rfl ?_
          refine tj_getI (q := 85) (hp1).s fok_1_0 wl_RX7_61 dX7_run_82 rfl ?_
          refine tj_callV (q := 88) (kj_V (As := [.int (σ5.1 p1 0)]) (rest := []) (t := (t + 10)) wi_RX7_66 ((hT).o_scene).s rfl (rX8_passHour (t + 10) (σ5.1 p1 0) ((hT).o_scene)) rfl (Nat.le_of_ble_eq_true rfl) ⟨Nat.le_of_ble_eq_true rfl, Nat.le_of_ble_eq_true rfl⟩ (Nat.le_of_ble_eq_true rfl) dX7_run_85) rfl (fun σ9 => ?_)
          refine tj_iinc (q := 91) (v := x6 + 1) dX7_run_88 rfl (pl := 5) rfl rfl (by decide) rfl ?_
          refine tj_goto (q := 12) dX7_run_91 (by decide) ?_
          refine tj_lv [2, 3, 4, 5, 1, 0] rfl ?_
          exact ih v8 (x6 + 1) σ9
        · refine tj_icmp_ge (tgt := 71) (q := 57) dX7_run_54 (by decide) rfl ?_ ?_
          · refine tj_lv [0, 1, 2, 3, 5] rfl ?_
            exact hk7 σ4
          · refine tj_aload_n (q := 58) dX7_run_57 rfl (i := 0) rfl (pl := 0) rfl ?_
            refine tj_aload_n (q := 59) dX7_run_58 rfl (i := 1) rfl (pl := 1) rfl ?_
            refine tj_iload_n (q := 60) dX7_run_59 rfl (i := 3) rfl (pl := 2) rfl ?_
            refine tj_iload (q := 62) dX7_run_60 rfl (pl := 4) rfl ?_
            refine tj_callZ (q := 65) (kj_V (As := [.ref (h0 + p1), .int x3, .int x5]) (rest := []) (t := t) wi_RX7_57 (hT).s rfl (rX7_goOn t p1 x3 x5 (hT) (hp1)) rfl (Nat.le_of_ble_eq_true rfl) ⟨Nat.le_of_ble_eq_true rfl, Nat.le_of_ble_eq_true rfl⟩ (Nat.le_of_ble_eq_true rfl) dX7_run_62) rfl (fun r10 => ?_)
            refine tj_bnz (tgt := 71) (q := 68) dX7_run_65 (by decide) rfl ?_ ?_
            · refine tj_lv [0, 1, 2, 3, 5] rfl ?_
              exact hk7 r10.2
            · refine tj_bipush (q := 70) (v := (-2)) dX7_run_68 rfl (by decide) ?_
              exact tj_iret rfl rfl (Nat.le_of_ble_eq_true rfl) (Nat.le_of_ble_eq_true rfl) dX7_run_70
      · refine tj_iload (q := 41) dX7_run_39 rfl (pl := 5) rfl ?_
        exact tj_iret rfl rfl (Nat.le_of_ble_eq_true rfl) (Nat.le_of_ble_eq_true rfl) dX7_run_41

set_option maxHeartbeats 4000000 in
theorem rX7_run (t : Nat) (p1 : Nat) (p2 : Nat) (p3 : Int32) (p4 : Int32) (hT : LY7 sh P t) (hp1 : LY1 sh P p1) (hp2 : LY8 sh P p2) : Rj l D cA h0 ad yX7_run cX7_run 7 (some .int) false 8 0 0 (fun b => (some (.int b.1), sh, P, b.2)) [.ref (h0 + t), .ref (h0 + p1), .ref (h0 + p2), .int p3, .int p4] sh P σ (mX7_run t p1 p2 p3 p4 σ) := by
  rw [mX7_run]
  refine Rj.of (by decide) (fun h => by cases h) (Nat.le_of_ble_eq_true rfl) ?_
  refine tj_lv0 (lv' := [(0, .ref (h0 + t)), (1, .ref (h0 + p1)), (2, .ref (h0 + p2)), (3, .int p3), (4, .int p4)]) rfl ?_
  refine tj_aload_n (q := 1) dX7_run_0 rfl (i := 0) rfl (pl := 0) rfl ?_
  refine tj_aload_n (q := 2) dX7_run_1 rfl (i := 2) rfl (pl := 2) rfl ?_
  refine tj_iload_n (q := 3) dX7_run_2 rfl (i := 3) rfl (pl := 3) rfl ?_
  refine tj_callV (q := 6) (kj_V (As := [.ref (h0 + p2), .int p3]) (rest := []) (t := t) wi_RX7_49 (hT).s rfl (rX7_begin t p2 p3 (hT) (hp2)) rfl (Nat.le_of_ble_eq_true rfl) ⟨Nat.le_of_ble_eq_true rfl, Nat.le_of_ble_eq_true rfl⟩ (Nat.le_of_ble_eq_true rfl) dX7_run_3) rfl (fun σ1 => ?_)
  refine tj_iconst (q := 7) (v := 0) dX7_run_6 rfl (by decide) ?_
  refine tj_istore (q := 9) dX7_run_7 rfl (by decide) rfl ?_
  refine tj_iconst (q := 10) (v := 0) dX7_run_9 rfl (by decide) ?_
  refine tj_istore (q := 12) dX7_run_10 rfl (by decide) rfl ?_
  refine tj_lv [2, 3, 5, 6, 1, 0] rfl ?_
  exact tmX7_run_L12 t p1 p2 hT hp1 hp2 p3 p4 FU (0 : Int32) (0 : Int32) σ1

theorem dX7_layStep_0 : decode cX7_layStep 0 = .ok (.aload 5, 2) := by decide +kernel
theorem dX7_layStep_2 : decode cX7_layStep 2 = .ok (.iload 4, 2) := by decide +kernel
theorem dX7_layStep_4 : decode cX7_layStep 4 = .ok (.iconst (-1), 1) := by decide +kernel
theorem dX7_layStep_5 : decode cX7_layStep 5 = .ok (.iastore, 1) := by decide +kernel
theorem dX7_layStep_6 : decode cX7_layStep 6 = .ok (.aload 5, 2) := by decide +kernel
theorem dX7_layStep_8 : decode cX7_layStep 8 = .ok (.iload 4, 2) := by decide +kernel
theorem dX7_layStep_10 : decode cX7_layStep 10 = .ok (.iconst 1, 1) := by decide +kernel
theorem dX7_layStep_11 : decode cX7_layStep 11 = .ok (.iadd, 1) := by decide +kernel
theorem dX7_layStep_12 : decode cX7_layStep 12 = .ok (.iconst (-1), 1) := by decide +kernel
theorem dX7_layStep_13 : decode cX7_layStep 13 = .ok (.iastore, 1) := by decide +kernel
theorem dX7_layStep_14 : decode cX7_layStep 14 = .ok (.aload 5, 2) := by decide +kernel
theorem dX7_layStep_16 : decode cX7_layStep 16 = .ok (.iload 4, 2) := by decide +kernel
theorem dX7_layStep_18 : decode cX7_layStep 18 = .ok (.iconst 2, 1) := by decide +kernel
theorem dX7_layStep_19 : decode cX7_layStep 19 = .ok (.iadd, 1) := by decide +kernel
theorem dX7_layStep_20 : decode cX7_layStep 20 = .ok (.iconst 0, 1) := by decide +kernel
theorem dX7_layStep_21 : decode cX7_layStep 21 = .ok (.iastore, 1) := by decide +kernel
theorem dX7_layStep_22 : decode cX7_layStep 22 = .ok (.iconst 0, 1) := by decide +kernel
theorem dX7_layStep_23 : decode cX7_layStep 23 = .ok (.istore 6, 2) := by decide +kernel
theorem dX7_layStep_25 : decode cX7_layStep 25 = .ok (.iload 6, 2) := by decide +kernel
theorem dX7_layStep_27 : decode cX7_layStep 27 = .ok (.iconst 5, 1) := by decide +kernel
theorem dX7_layStep_28 : decode cX7_layStep 28 = .ok (.if_icmp .ge 82, 3) := by decide +kernel
theorem dX7_layStep_31 : decode cX7_layStep 31 = .ok (.lload_n 0, 1) := by decide +kernel
theorem dX7_layStep_32 : decode cX7_layStep 32 = .ok (.bipush 10, 2) := by decide +kernel
theorem dX7_layStep_34 : decode cX7_layStep 34 = .ok (.iload 6, 2) := by decide +kernel
theorem dX7_layStep_36 : decode cX7_layStep 36 = .ok (.imul, 1) := by decide +kernel
theorem dX7_layStep_37 : decode cX7_layStep 37 = .ok (.lshr, 1) := by decide +kernel
theorem dX7_layStep_38 : decode cX7_layStep 38 = .ok (.l2i, 1) := by decide +kernel
theorem dX7_layStep_39 : decode cX7_layStep 39 = .ok (.sipush 1023, 3) := by decide +kernel
theorem dX7_layStep_42 : decode cX7_layStep 42 = .ok (.iand, 1) := by decide +kernel
theorem dX7_layStep_43 : decode cX7_layStep 43 = .ok (.istore 7, 2) := by decide +kernel
theorem dX7_layStep_45 : decode cX7_layStep 45 = .ok (.lload_n 2, 1) := by decide +kernel
theorem dX7_layStep_46 : decode cX7_layStep 46 = .ok (.bipush 10, 2) := by decide +kernel
theorem dX7_layStep_48 : decode cX7_layStep 48 = .ok (.iload 6, 2) := by decide +kernel
theorem dX7_layStep_50 : decode cX7_layStep 50 = .ok (.imul, 1) := by decide +kernel
theorem dX7_layStep_51 : decode cX7_layStep 51 = .ok (.lshr, 1) := by decide +kernel
theorem dX7_layStep_52 : decode cX7_layStep 52 = .ok (.l2i, 1) := by decide +kernel
theorem dX7_layStep_53 : decode cX7_layStep 53 = .ok (.sipush 1023, 3) := by decide +kernel
theorem dX7_layStep_56 : decode cX7_layStep 56 = .ok (.iand, 1) := by decide +kernel
theorem dX7_layStep_57 : decode cX7_layStep 57 = .ok (.istore 8, 2) := by decide +kernel
theorem dX7_layStep_59 : decode cX7_layStep 59 = .ok (.iload 7, 2) := by decide +kernel
theorem dX7_layStep_61 : decode cX7_layStep 61 = .ok (.iload 8, 2) := by decide +kernel
theorem dX7_layStep_63 : decode cX7_layStep 63 = .ok (.if_icmp .eq 41, 3) := by decide +kernel
theorem dX7_layStep_66 : decode cX7_layStep 66 = .ok (.aload 5, 2) := by decide +kernel
theorem dX7_layStep_68 : decode cX7_layStep 68 = .ok (.iload 4, 2) := by decide +kernel
theorem dX7_layStep_70 : decode cX7_layStep 70 = .ok (.iload 6, 2) := by decide +kernel
theorem dX7_layStep_72 : decode cX7_layStep 72 = .ok (.iastore, 1) := by decide +kernel
theorem dX7_layStep_73 : decode cX7_layStep 73 = .ok (.aload 5, 2) := by decide +kernel
theorem dX7_layStep_75 : decode cX7_layStep 75 = .ok (.iload 4, 2) := by decide +kernel
theorem dX7_layStep_77 : decode cX7_layStep 77 = .ok (.iconst 1, 1) := by decide +kernel
theorem dX7_layStep_78 : decode cX7_layStep 78 = .ok (.iadd, 1) := by decide +kernel
theorem dX7_layStep_79 : decode cX7_layStep 79 = .ok (.iload 7, 2) := by decide +kernel
theorem dX7_layStep_81 : decode cX7_layStep 81 = .ok (.iload 8, 2) := by decide +kernel
theorem dX7_layStep_83 : decode cX7_layStep 83 = .ok (.iconst (-1), 1) := by decide +kernel
theorem dX7_layStep_84 : decode cX7_layStep 84 = .ok (.ixor, 1) := by decide +kernel
theorem dX7_layStep_85 : decode cX7_layStep 85 = .ok (.iand, 1) := by decide +kernel
theorem dX7_layStep_86 : decode cX7_layStep 86 = .ok (.invokestatic 113, 3) := by decide +kernel
theorem dX7_layStep_89 : decode cX7_layStep 89 = .ok (.iastore, 1) := by decide +kernel
theorem dX7_layStep_90 : decode cX7_layStep 90 = .ok (.aload 5, 2) := by decide +kernel
theorem dX7_layStep_92 : decode cX7_layStep 92 = .ok (.iload 4, 2) := by decide +kernel
theorem dX7_layStep_94 : decode cX7_layStep 94 = .ok (.iconst 2, 1) := by decide +kernel
theorem dX7_layStep_95 : decode cX7_layStep 95 = .ok (.iadd, 1) := by decide +kernel
theorem dX7_layStep_96 : decode cX7_layStep 96 = .ok (.iload 8, 2) := by decide +kernel
theorem dX7_layStep_98 : decode cX7_layStep 98 = .ok (.iload 7, 2) := by decide +kernel
theorem dX7_layStep_100 : decode cX7_layStep 100 = .ok (.iconst (-1), 1) := by decide +kernel
theorem dX7_layStep_101 : decode cX7_layStep 101 = .ok (.ixor, 1) := by decide +kernel
theorem dX7_layStep_102 : decode cX7_layStep 102 = .ok (.iand, 1) := by decide +kernel
theorem dX7_layStep_103 : decode cX7_layStep 103 = .ok (.iastore, 1) := by decide +kernel
theorem dX7_layStep_104 : decode cX7_layStep 104 = .ok (.iinc 6 1, 3) := by decide +kernel
theorem dX7_layStep_107 : decode cX7_layStep 107 = .ok (.goto (-82), 3) := by decide +kernel
theorem dX7_layStep_110 : decode cX7_layStep 110 = .ok (.return_, 1) := by decide +kernel
theorem wm_J6_numberOfTrailingZeros_0f7a4 : Cond.static yJ6_numberOfTrailingZeros_0f7a4 ∈ TB ∧ Cond.initialized yJ6_numberOfTrailingZeros_0f7a4.cls ∈ TB ∧ Cond.code yJ6_numberOfTrailingZeros_0f7a4 cJ6_numberOfTrailingZeros_0f7a4 2 (some .int) ∈ TB ∧ (yJ6_numberOfTrailingZeros_0f7a4.cls ≠ "java/lang/invoke/MethodHandle" ∧ yJ6_numberOfTrailingZeros_0f7a4.cls ≠ "java/lang/invoke/VarHandle" ∧ (parseMethodDescriptor yJ6_numberOfTrailingZeros_0f7a4.desc).map (fun d => d.parameters.length) = some 1) ∧ 2 ≤ 21 := ⟨tbm 1246 (by decide +kernel) (by decide +kernel), tbm 155 (by decide +kernel) (by decide +kernel), tbm 1247 (by decide +kernel) (by decide +kernel), by decide +kernel, by decide⟩
theorem wi_RX7_113 : Is RX7 113 yJ6_numberOfTrailingZeros_0f7a4 cJ6_numberOfTrailingZeros_0f7a4 2 (some .int) 1 := ⟨tbm 1245 (by decide +kernel) (by decide +kernel), wm_J6_numberOfTrailingZeros_0f7a4⟩
def mX7_layStep_L25 (p4 : Nat) (p4n : Nat) (x0 : Int64) (x2 : Int64) (x4 : Int32) : Nat → Int32 → St_ → Option St_
  | 0, _, _ => none
  | n + 1, x6, σ => (if (5 : Int32) ≤ x6 then
 (some σ)
 else (bnd (((x0 >>> (((10 : Int32) * x6).toInt64 &&& 63)).toInt32) &&& (1023 : Int32)) fun v6 =>
 (bnd (((x2 >>> (((10 : Int32) * x6).toInt64 &&& 63)).toInt32) &&& (1023 : Int32)) fun v7 =>
 (bnd (fun (σ8 : St_) => (mX7_layStep_L25 p4 p4n x0 x2 x4 n (x6 + 1) σ8)) fun k9 =>
 (if v6 = v7 then
 (k9 σ)
 else (if bin x4 p4n = true then bnd (sI σ p4 x4.toNatClampNeg x6) fun σ11 =>
 ((mJ6_numberOfTrailingZeros_0f7a4 (v6 &&& (v7 ^^^ (-1 : Int32))) σ11).bind fun r12 =>
 (bnd (x4 + (1 : Int32)) fun v13 =>
 (if bin v13 p4n = true then bnd (sI σ11 p4 v13.toNatClampNeg r12) fun σ14 =>
 (bnd (x4 + (2 : Int32)) fun v15 =>
 (if bin v15 p4n = true then bnd (sI σ14 p4 v15.toNatClampNeg (v7 &&& (v6 ^^^ (-1 : Int32)))) fun σ16 =>
 (k9 σ16)
 else none))
 else none)))
 else none))))))
def mX7_layStep (p1 : Int64) (p2 : Int64) (p3 : Int32) (p4 : Nat) (p4n : Nat) (σ : St_) : Option St_ :=
 (if bin p3 p4n = true then bnd (sI σ p4 p3.toNatClampNeg (-1 : Int32)) fun σ1 =>
 (bnd (p3 + (1 : Int32)) fun v2 =>
 (if bin v2 p4n = true then bnd (sI σ1 p4 v2.toNatClampNeg (-1 : Int32)) fun σ3 =>
 (bnd (p3 + (2 : Int32)) fun v4 =>
 (if bin v4 p4n = true then bnd (sI σ3 p4 v4.toNatClampNeg (0 : Int32)) fun σ5 =>
 (mX7_layStep_L25 p4 p4n p1 p2 p3 FU (0 : Int32) σ5)
 else none))
 else none))
 else none)
set_option maxHeartbeats 4000000 in
theorem tmX7_layStep_L25 (p4 : Nat) (p4n : Nat) (hp4 : sh[p4]? = some (1, p4n)) (x0 : Int64) (x2 : Int64) (x4 : Int32) : ∀ (n : Nat) (x6 : Int32) (σ : St_), Tj l D cA h0 ad RX7 cX7_layStep 9 none false 3 0 0 (fun b => (none, sh, P, b)) 0 0 sh P σ 25 [(0, .long x0), (2, .long x2), (4, .int x4), (5, .ref (h0 + p4)), (6, .int x6)] [] (mX7_layStep_L25 p4 p4n x0 x2 x4 n x6 σ) := by
  intro n
  induction n with
  | zero => intros; exact tj_none
  | succ n ih =>
    intro x6 σ
    rw [mX7_layStep_L25]
    refine tj_iload (q := 27) dX7_layStep_25 rfl (pl := 4) rfl ?_
    refine tj_iconst (q := 28) (v := 5) dX7_layStep_27 rfl (by decide) ?_
    refine tj_icmp_ge (tgt := 110) (q := 31) dX7_layStep_28 (by decide) rfl ?_ ?_
    · exact tj_vret rfl rfl (Nat.le_of_ble_eq_true rfl) (Nat.le_of_ble_eq_true rfl) dX7_layStep_110
    · refine tj_lload_n (q := 32) dX7_layStep_31 rfl (i := 0) rfl (pl := 0) rfl ?_
      refine tj_bipush (q := 34) (v := 10) dX7_layStep_32 rfl (by decide) ?_
      refine tj_iload (q := 36) dX7_layStep_34 rfl (pl := 4) rfl ?_
      refine tj_imul (q := 37) dX7_layStep_36 rfl ?_
      refine tj_lshr (q := 38) dX7_layStep_37 rfl ?_
      refine tj_l2i (q := 39) dX7_layStep_38 rfl ?_
      refine tj_sipush (q := 42) (v := 1023) dX7_layStep_39 rfl (by decide) ?_
      refine tj_iand (q := 43) dX7_layStep_42 rfl ?_
      refine tj_topI (fun v6 => ?_)
      refine tj_istore (q := 45) dX7_layStep_43 rfl (by decide) rfl ?_
      refine tj_lload_n (q := 46) dX7_layStep_45 rfl (i := 2) rfl (pl := 2) rfl ?_
      refine tj_bipush (q := 48) (v := 10) dX7_layStep_46 rfl (by decide) ?_
      refine tj_iload (q := 50) dX7_layStep_48 rfl (pl := 5) rfl ?_
      refine tj_imul (q := 51) dX7_layStep_50 rfl ?_
      refine tj_lshr (q := 52) dX7_layStep_51 rfl ?_
      refine tj_l2i (q := 53) dX7_layStep_52 rfl ?_
      refine tj_sipush (q := 56) (v := 1023) dX7_layStep_53 rfl (by decide) ?_
      refine tj_iand (q := 57) dX7_layStep_56 rfl ?_
      refine tj_topI (fun v7 => ?_)
      refine tj_istore (q := 59) dX7_layStep_57 rfl (by decide) rfl ?_
      refine tj_iload (q := 61) dX7_layStep_59 rfl (pl := 1) rfl ?_
      refine tj_iload (q := 63) dX7_layStep_61 rfl (pl := 0) rfl ?_
      refine tj_bnd (fun k9 => ∀ (σ8 : St_), Tj l D cA h0 ad RX7 cX7_layStep 9 none false 3 0 0 (fun b => (none, sh, P, b)) 0 0 sh P σ8 104 [(0, .long x0), (2, .long x2), (4, .int x4), (5, .ref (h0 + p4)), (6, .int x6)] [] (k9 σ8)) ?_ (fun k9 hk10 => ?_)
      · intro σ8
        refine tj_iinc (q := 107) (v := x6 + 1) dX7_layStep_104 rfl (pl := 4) rfl rfl (by decide) rfl ?_
        refine tj_goto (q := 25) dX7_layStep_107 (by decide) ?_
        refine tj_lv [1, 2, 3, 4, 0] rfl ?_
        exact ih (x6 + 1) σ8
      · refine tj_icmp_eq (tgt := 104) (q := 66) dX7_layStep_63 (by decide) rfl ?_ ?_
        · refine tj_lv [2, 3, 4, 5, 6] rfl ?_
          exact hk10 σ
        · refine tj_aload (q := 68) dX7_layStep_66 rfl (pl := 5) rfl ?_
          refine tj_iload (q := 70) dX7_layStep_68 rfl (pl := 4) rfl ?_
          refine tj_iload (q := 72) dX7_layStep_70 rfl (pl := 6) rfl ?_
          refine tj_iastore (q := 73) hp4 dX7_layStep_72 rfl (fun σ11 => ?_)
          refine tj_aload (q := 75) dX7_layStep_73 rfl (pl := 5) rfl ?_
          refine tj_iload (q := 77) dX7_layStep_75 rfl (pl := 4) rfl ?_
          refine tj_iconst (q := 78) (v := 1) dX7_layStep_77 rfl (by decide) ?_
          refine tj_iadd (q := 79) dX7_layStep_78 rfl ?_
          refine tj_iload (q := 81) dX7_layStep_79 rfl (pl := 1) rfl ?_
          refine tj_iload (q := 83) dX7_layStep_81 rfl (pl := 0) rfl ?_
          refine tj_iconst (q := 84) (v := (-1)) dX7_layStep_83 rfl (by decide) ?_
          refine tj_ixor (q := 85) dX7_layStep_84 rfl ?_
          refine tj_iand (q := 86) dX7_layStep_85 rfl ?_
          refine tj_callIp (q := 89) (kj_S (As := [.int (v6 &&& (v7 ^^^ (-1 : Int32)))]) (rest := [.int (x4 + (1 : Int32)), .ref (h0 + p4)]) wi_RX7_113 (rJ6_numberOfTrailingZeros_0f7a4 (v6 &&& (v7 ^^^ (-1 : Int32)))) rfl (Nat.le_of_ble_eq_true rfl) ⟨Nat.le_of_ble_eq_true rfl, Nat.le_of_ble_eq_true rfl⟩ (Nat.le_of_ble_eq_true rfl) dX7_layStep_86) rfl (fun r12 => ?_)
          refine tj_sndI (fun v13 => ?_)
          refine tj_iastore (q := 90) hp4 dX7_layStep_89 rfl (fun σ14 => ?_)
          refine tj_aload (q := 92) dX7_layStep_90 rfl (pl := 5) rfl ?_
          refine tj_iload (q := 94) dX7_layStep_92 rfl (pl := 4) rfl ?_
          refine tj_iconst (q := 95) (v := 2) dX7_layStep_94 rfl (by decide) ?_
          refine tj_iadd (q := 96) dX7_layStep_95 rfl ?_
          refine tj_iload (q := 98) dX7_layStep_96 rfl (pl := 0) rfl ?_
          refine tj_iload (q := 100) dX7_layStep_98 rfl (pl := 1) rfl ?_
          refine tj_iconst (q := 101) (v := (-1)) dX7_layStep_100 rfl (by decide) ?_
          refine tj_ixor (q := 102) dX7_layStep_101 rfl ?_
          refine tj_iand (q := 103) dX7_layStep_102 rfl ?_
          refine tj_sndI (fun v15 => ?_)
          refine tj_iastore (q := 104) hp4 dX7_layStep_103 rfl (fun σ16 => ?_)
          refine tj_lv [2, 3, 4, 5, 6] rfl ?_
          exact hk10 σ16

set_option maxHeartbeats 4000000 in
theorem rX7_layStep (p1 : Int64) (p2 : Int64) (p3 : Int32) (p4 : Nat) (p4n : Nat) (hp4 : sh[p4]? = some (1, p4n)) : Rj l D cA h0 ad yX7_layStep cX7_layStep 9 none false 3 0 0 (fun b => (none, sh, P, b)) [.long p1, .long p2, .int p3, .ref (h0 + p4)] sh P σ (mX7_layStep p1 p2 p3 p4 p4n σ) := by
  rw [mX7_layStep]
  refine Rj.of (by decide) (fun h => by cases h) (Nat.le_of_ble_eq_true rfl) ?_
  refine tj_lv0 (lv' := [(0, .long p1), (2, .long p2), (4, .int p3), (5, .ref (h0 + p4))]) rfl ?_
  refine tj_aload (q := 2) dX7_layStep_0 rfl (pl := 3) rfl ?_
  refine tj_iload (q := 4) dX7_layStep_2 rfl (pl := 2) rfl ?_
  refine tj_iconst (q := 5) (v := (-1)) dX7_layStep_4 rfl (by decide) ?_
  refine tj_iastore (q := 6) hp4 dX7_layStep_5 rfl (fun σ1 => ?_)
  refine tj_aload (q := 8) dX7_layStep_6 rfl (pl := 3) rfl ?_
  refine tj_iload (q := 10) dX7_layStep_8 rfl (pl := 2) rfl ?_
  refine tj_iconst (q := 11) (v := 1) dX7_layStep_10 rfl (by decide) ?_
  refine tj_iadd (q := 12) dX7_layStep_11 rfl ?_
  refine tj_iconst (q := 13) (v := (-1)) dX7_layStep_12 rfl (by decide) ?_
  refine tj_sndI (fun v2 => ?_)
  refine tj_iastore (q := 14) hp4 dX7_layStep_13 rfl (fun σ3 => ?_)
  refine tj_aload (q := 16) dX7_layStep_14 rfl (pl := 3) rfl ?_
  refine tj_iload (q := 18) dX7_layStep_16 rfl (pl := 2) rfl ?_
  refine tj_iconst (q := 19) (v := 2) dX7_layStep_18 rfl (by decide) ?_
  refine tj_iadd (q := 20) dX7_layStep_19 rfl ?_
  refine tj_iconst (q := 21) (v := 0) dX7_layStep_20 rfl (by decide) ?_
  refine tj_sndI (fun v4 => ?_)
  refine tj_iastore (q := 22) hp4 dX7_layStep_21 rfl (fun σ5 => ?_)
  refine tj_iconst (q := 23) (v := 0) dX7_layStep_22 rfl (by decide) ?_
  refine tj_istore (q := 25) dX7_layStep_23 rfl (by decide) rfl ?_
  refine tj_lv [1, 2, 3, 4, 0] rfl ?_
  exact tmX7_layStep_L25 p4 p4n hp4 p1 p2 p3 FU (0 : Int32) σ5

theorem dX7_layPath_0 : decode cX7_layPath 0 = .ok (.aload_n 0, 1) := by decide +kernel
theorem dX7_layPath_1 : decode cX7_layPath 1 = .ok (.getfield 46, 3) := by decide +kernel
theorem dX7_layPath_4 : decode cX7_layPath 4 = .ok (.istore_n 3, 1) := by decide +kernel
theorem dX7_layPath_5 : decode cX7_layPath 5 = .ok (.iload_n 1, 1) := by decide +kernel
theorem dX7_layPath_6 : decode cX7_layPath 6 = .ok (.iconst 1, 1) := by decide +kernel
theorem dX7_layPath_7 : decode cX7_layPath 7 = .ok (.isub, 1) := by decide +kernel
theorem dX7_layPath_8 : decode cX7_layPath 8 = .ok (.istore 4, 2) := by decide +kernel
theorem dX7_layPath_10 : decode cX7_layPath 10 = .ok (.iload 4, 2) := by decide +kernel
theorem dX7_layPath_12 : decode cX7_layPath 12 = .ok (.ifCond .lt 73, 3) := by decide +kernel
theorem dX7_layPath_15 : decode cX7_layPath 15 = .ok (.iload_n 3, 1) := by decide +kernel
theorem dX7_layPath_16 : decode cX7_layPath 16 = .ok (.ifCond .lt 22, 3) := by decide +kernel
theorem dX7_layPath_19 : decode cX7_layPath 19 = .ok (.iload_n 3, 1) := by decide +kernel
theorem dX7_layPath_20 : decode cX7_layPath 20 = .ok (.aload_n 0, 1) := by decide +kernel
theorem dX7_layPath_21 : decode cX7_layPath 21 = .ok (.getfield 36, 3) := by decide +kernel
theorem dX7_layPath_24 : decode cX7_layPath 24 = .ok (.if_icmp .ge 14, 3) := by decide +kernel
theorem dX7_layPath_27 : decode cX7_layPath 27 = .ok (.iconst 3, 1) := by decide +kernel
theorem dX7_layPath_28 : decode cX7_layPath 28 = .ok (.iload 4, 2) := by decide +kernel
theorem dX7_layPath_30 : decode cX7_layPath 30 = .ok (.imul, 1) := by decide +kernel
theorem dX7_layPath_31 : decode cX7_layPath 31 = .ok (.iconst 2, 1) := by decide +kernel
theorem dX7_layPath_32 : decode cX7_layPath 32 = .ok (.iadd, 1) := by decide +kernel
theorem dX7_layPath_33 : decode cX7_layPath 33 = .ok (.aload_n 2, 1) := by decide +kernel
theorem dX7_layPath_34 : decode cX7_layPath 34 = .ok (.arraylength, 1) := by decide +kernel
theorem dX7_layPath_35 : decode cX7_layPath 35 = .ok (.if_icmp .lt 5, 3) := by decide +kernel
theorem dX7_layPath_38 : decode cX7_layPath 38 = .ok (.iconst 0, 1) := by decide +kernel
theorem dX7_layPath_39 : decode cX7_layPath 39 = .ok (.ireturn, 1) := by decide +kernel
theorem dX7_layPath_40 : decode cX7_layPath 40 = .ok (.aload_n 0, 1) := by decide +kernel
theorem dX7_layPath_41 : decode cX7_layPath 41 = .ok (.getfield 29, 3) := by decide +kernel
theorem dX7_layPath_44 : decode cX7_layPath 44 = .ok (.iload_n 3, 1) := by decide +kernel
theorem dX7_layPath_45 : decode cX7_layPath 45 = .ok (.iaload, 1) := by decide +kernel
theorem dX7_layPath_46 : decode cX7_layPath 46 = .ok (.istore 5, 2) := by decide +kernel
theorem dX7_layPath_48 : decode cX7_layPath 48 = .ok (.iload 5, 2) := by decide +kernel
theorem dX7_layPath_50 : decode cX7_layPath 50 = .ok (.ifCond .ge 5, 3) := by decide +kernel
theorem dX7_layPath_53 : decode cX7_layPath 53 = .ok (.iconst 0, 1) := by decide +kernel
theorem dX7_layPath_54 : decode cX7_layPath 54 = .ok (.ireturn, 1) := by decide +kernel
theorem dX7_layPath_55 : decode cX7_layPath 55 = .ok (.aload_n 0, 1) := by decide +kernel
theorem dX7_layPath_56 : decode cX7_layPath 56 = .ok (.getfield 25, 3) := by decide +kernel
theorem dX7_layPath_59 : decode cX7_layPath 59 = .ok (.iload 5, 2) := by decide +kernel
theorem dX7_layPath_61 : decode cX7_layPath 61 = .ok (.laload, 1) := by decide +kernel
theorem dX7_layPath_62 : decode cX7_layPath 62 = .ok (.aload_n 0, 1) := by decide +kernel
theorem dX7_layPath_63 : decode cX7_layPath 63 = .ok (.getfield 25, 3) := by decide +kernel
theorem dX7_layPath_66 : decode cX7_layPath 66 = .ok (.iload_n 3, 1) := by decide +kernel
theorem dX7_layPath_67 : decode cX7_layPath 67 = .ok (.laload, 1) := by decide +kernel
theorem dX7_layPath_68 : decode cX7_layPath 68 = .ok (.iconst 3, 1) := by decide +kernel
theorem dX7_layPath_69 : decode cX7_layPath 69 = .ok (.iload 4, 2) := by decide +kernel
theorem dX7_layPath_71 : decode cX7_layPath 71 = .ok (.imul, 1) := by decide +kernel
theorem dX7_layPath_72 : decode cX7_layPath 72 = .ok (.aload_n 2, 1) := by decide +kernel
theorem dX7_layPath_73 : decode cX7_layPath 73 = .ok (.invokestatic 109, 3) := by decide +kernel
theorem dX7_layPath_76 : decode cX7_layPath 76 = .ok (.iload 5, 2) := by decide +kernel
theorem dX7_layPath_78 : decode cX7_layPath 78 = .ok (.istore_n 3, 1) := by decide +kernel
theorem dX7_layPath_79 : decode cX7_layPath 79 = .ok (.iinc 4 (-1), 3) := by decide +kernel
theorem dX7_layPath_82 : decode cX7_layPath 82 = .ok (.goto (-72), 3) := by decide +kernel
theorem dX7_layPath_85 : decode cX7_layPath 85 = .ok (.iconst 3, 1) := by decide +kernel
theorem dX7_layPath_86 : decode cX7_layPath 86 = .ok (.iload_n 1, 1) := by decide +kernel
theorem dX7_layPath_87 : decode cX7_layPath 87 = .ok (.imul, 1) := by decide +kernel
theorem dX7_layPath_88 : decode cX7_layPath 88 = .ok (.ireturn, 1) := by decide +kernel
theorem wm_X7_layStep : Cond.static yX7_layStep ∈ TB ∧ Cond.initialized yX7_layStep.cls ∈ TB ∧ Cond.code yX7_layStep cX7_layStep 9 none ∈ TB ∧ (yX7_layStep.cls ≠ "java/lang/invoke/MethodHandle" ∧ yX7_layStep.cls ≠ "java/lang/invoke/VarHandle" ∧ (parseMethodDescriptor yX7_layStep.desc).map (fun d => d.parameters.length) = some 4) ∧ 9 ≤ 21 := ⟨tbm 1243 (by decide +kernel) (by decide +kernel), tbm 145 (by decide +kernel) (by decide +kernel), tbm 1244 (by decide +kernel) (by decide +kernel), by decide +kernel, by decide⟩
theorem wi_RX7_109 : Is RX7 109 yX7_layStep cX7_layStep 9 none 4 := ⟨tbm 1242 (by decide +kernel) (by decide +kernel), wm_X7_layStep⟩
def mX7_layPath_L10 (t : Nat) (p2 : Nat) (p2n : Nat) (x1 : Int32) : Nat → Int32 → Int32 → St_ → Option (Int32 × St_)
  | 0, _, _, _ => none
  | n + 1, x3, x4, σ => (if x4 < 0 then
 (some (((3 : Int32) * x1), σ))
 else (if x3 < 0 then
 (some ((0 : Int32), σ))
 else (if (σ.1 t 5) ≤ x3 then
 (some ((0 : Int32), σ))
 else (if (((3 : Int32) * x4) + (2 : Int32)) < (Int32.ofNat p2n) then
 (if bin x3 2000 = true then bnd (σ.1 (t + 14) x3.toNatClampNeg) fun v3 =>
 (if 0 ≤ v3 then
 (if bin v3 2000 = true then bnd (σ.2 (t + 13) v3.toNatClampNeg) fun v4 =>
 (if bin x3 2000 = true then bnd (σ.2 (t + 13) x3.toNatClampNeg) fun v5 =>
 ((mX7_layStep v4 v5 ((3 : Int32) * x4) p2 p2n σ).bind fun σ6 =>
 (mX7_layPath_L10 t p2 p2n x1 n v3 (x4 + (-1)) σ6))
 else none)
 else none)
 else (some ((0 : Int32), σ)))
 else none)
 else (some ((0 : Int32), σ))))))
def mX7_layPath (t : Nat) (p1 : Int32) (p2 : Nat) (p2n : Nat) (σ : St_) : Option (Int32 × St_) :=
 (bnd (σ.1 t 8) fun v1 =>
 (bnd (p1 - (1 : Int32)) fun v2 =>
 (mX7_layPath_L10 t p2 p2n p1 FU v1 v2 σ)))
set_option maxHeartbeats 4000000 in
theorem tmX7_layPath_L10 (t : Nat) (p2 : Nat) (p2n : Nat) (hT : LY7 sh P t) (hp2 : sh[p2]? = some (1, p2n)) (x1 : Int32) : ∀ (n : Nat) (x3 : Int32) (x4 : Int32) (σ : St_), Tj l D cA h0 ad RX7 cX7_layPath 6 (some .int) false 4 0 0 (fun b => (some (.int b.1), sh, P, b.2)) 0 0 sh P σ 10 [(0, .ref (h0 + t)), (1, .int x1), (2, .ref (h0 + p2)), (3, .int x3), (4, .int x4)] [] (mX7_layPath_L10 t p2 p2n x1 n x3 x4 σ) := by
  intro n
  induction n with
  | zero => intros; exact tj_none
  | succ n ih =>
    intro x3 x4 σ
    rw [mX7_layPath_L10]
    refine tj_iload (q := 12) dX7_layPath_10 rfl (pl := 4) rfl ?_
    refine tj_if_lt (tgt := 85) (q := 15) dX7_layPath_12 (by decide) rfl ?_ ?_
    · refine tj_iconst (q := 86) (v := 3) dX7_layPath_85 rfl (by decide) ?_
      refine tj_iload_n (q := 87) dX7_layPath_86 rfl (i := 1) rfl (pl := 1) rfl ?_
      refine tj_imul (q := 88) dX7_layPath_87 rfl ?_
      exact tj_iret rfl rfl (Nat.le_of_ble_eq_true rfl) (Nat.le_of_ble_eq_true rfl) dX7_layPath_88
    · refine tj_iload_n (q := 16) dX7_layPath_15 rfl (i := 3) rfl (pl := 3) rfl ?_
      refine tj_if_lt (tgt := 38) (q := 19) dX7_layPath_16 (by decide) rfl ?_ ?_
      · refine tj_iconst (q := 39) (v := 0) dX7_layPath_38 rfl (by decide) ?_
        exact tj_iret rfl rfl (Nat.le_of_ble_eq_true rfl) (Nat.le_of_ble_eq_true rfl) dX7_layPath_39
      · refine tj_iload_n (q := 20) dX7_layPath_19 rfl (i := 3) rfl (pl := 3) rfl ?_
        refine tj_aload_n (q := 21) dX7_layPath_20 rfl (i := 0) rfl (pl := 0) rfl ?_
        refine tj_getI (q := 24) (hT).s fok_7_5 wl_RX7_36 dX7_layPath_21 rfl ?_
        refine tj_icmp_ge (tgt := 38) (q := 27) dX7_layPath_24 (by decide) rfl ?_ ?_
        · refine tj_iconst (q := 39) (v := 0) dX7_layPath_38 rfl (by decide) ?_
          exact tj_iret rfl rfl (Nat.le_of_ble_eq_true rfl) (Nat.le_of_ble_eq_true rfl) dX7_layPath_39
        · refine tj_iconst (q := 28) (v := 3) dX7_layPath_27 rfl (by decide) ?_
          refine tj_iload (q := 30) dX7_layPath_28 rfl (pl := 4) rfl ?_
          refine tj_imul (q := 31) dX7_layPath_30 rfl ?_
          refine tj_iconst (q := 32) (v := 2) dX7_layPath_31 rfl (by decide) ?_
          refine tj_iadd (q := 33) dX7_layPath_32 rfl ?_
          refine tj_aload_n (q := 34) dX7_layPath_33 rfl (i := 2) rfl (pl := 2) rfl ?_
          refine tj_alen1 (q := 35) (v := Int32.ofNat p2n) hp2 rfl dX7_layPath_34 rfl ?_
          refine tj_icmp_lt (tgt := 40) (q := 38) dX7_layPath_35 (by decide) rfl ?_ ?_
          · refine tj_aload_n (q := 41) dX7_layPath_40 rfl (i := 0) rfl (pl := 0) rfl ?_
            refine tj_getR (q := 44) (hT).s (hT).p_from fok_7_3 wl_RX7_29 dX7_layPath_41 rfl ?_
            refine tj_iload_n (q := 45) dX7_layPath_44 rfl (i := 3) rfl (pl := 3) rfl ?_
            refine tj_iaload (q := 46) (hT).s_from dX7_layPath_45 rfl ?_
            refine tj_topI (fun v3 => ?_)
            refine tj_istore (q := 48) dX7_layPath_46 rfl (by decide) rfl ?_
            refine tj_iload (q := 50) dX7_layPath_48 rfl (pl := 0) rfl ?_
            refine tj_if_ge (tgt := 55) (q := 53) dX7_layPath_50 (by decide) rfl ?_ ?_
            · refine tj_aload_n (q := 56) dX7_layPath_55 rfl (i := 0) rfl (pl := 1) rfl ?_
              refine tj_getR (q := 59) (hT).s (hT).p_keys fok_7_2 wl_RX7_25 dX7_layPath_56 rfl ?_
              refine tj_iload (q := 61) dX7_layPath_59 rfl (pl := 0) rfl ?_
              refine tj_laload (q := 62) (hT).s_keys dX7_layPath_61 rfl ?_
              refine tj_topL (fun v4 => ?_)
              refine tj_aload_n (q := 63) dX7_layPath_62 rfl (i := 0) rfl (pl := 1) rfl ?_
              refine tj_getR (q := 66) (hT).s (hT).p_keys fok_7_2 wl_RX7_25 dX7_layPath_63 rfl ?_
              refine tj_iload_n (q := 67) dX7_layPath_66 rfl (i := 3) rfl (pl := 4) rfl ?_
              refine tj_laload (q := 68) (hT).s_keys dX7_layPath_67 rfl ?_
              refine tj_topL (fun v5 => ?_)
              refine tj_iconst (q := 69) (v := 3) dX7_layPath_68 rfl (by decide) ?_
              refine tj_iload (q := 71) dX7_layPath_69 rfl (pl := 5) rfl ?_
              refine tj_imul (q := 72) dX7_layPath_71 rfl ?_
              refine tj_aload_n (q := 73) dX7_layPath_72 rfl (i := 2) rfl (pl := 3) rfl ?_
              refine tj_callV (q := 76) (kj_S (As := [.long v4, .long v5, .int ((3 : Int32) * x4), .ref (h0 + p2)]) (rest := []) wi_RX7_109 (rX7_layStep v4 v5 ((3 : Int32) * x4) p2 p2n (hp2)) rfl (Nat.le_of_ble_eq_true rfl) ⟨Nat.le_of_ble_eq_true rfl, Nat.le_of_ble_eq_true rfl⟩ (Nat.le_of_ble_eq_true rfl) dX7_layPath_73) rfl (fun σ6 => ?_)
              refine tj_iload (q := 78) dX7_layPath_76 rfl (pl := 0) rfl ?_
              refine tj_istore_n (q := 79) dX7_layPath_78 rfl (i := 3) rfl (by decide) rfl ?_
              refine tj_iinc (q := 82) (v := x4 + (-1)) dX7_layPath_79 rfl (pl := 5) rfl rfl (by decide) rfl ?_
              refine tj_goto (q := 10) dX7_layPath_82 (by decide) ?_
              refine tj_lv [3, 4, 5, 1, 0] rfl ?_
              exact ih v3 (x4 + (-1)) σ6
            · refine tj_iconst (q := 54) (v := 0) dX7_layPath_53 rfl (by decide) ?_
              exact tj_iret rfl rfl (Nat.le_of_ble_eq_true rfl) (Nat.le_of_ble_eq_true rfl) dX7_layPath_54
          · refine tj_iconst (q := 39) (v := 0) dX7_layPath_38 rfl (by decide) ?_
            exact tj_iret rfl rfl (Nat.le_of_ble_eq_true rfl) (Nat.le_of_ble_eq_true rfl) dX7_layPath_39

set_option maxHeartbeats 4000000 in
theorem rX7_layPath (t : Nat) (p1 : Int32) (p2 : Nat) (p2n : Nat) (hT : LY7 sh P t) (hp2 : sh[p2]? = some (1, p2n)) : Rj l D cA h0 ad yX7_layPath cX7_layPath 6 (some .int) false 4 0 0 (fun b => (some (.int b.1), sh, P, b.2)) [.ref (h0 + t), .int p1, .ref (h0 + p2)] sh P σ (mX7_layPath t p1 p2 p2n σ) := by
  rw [mX7_layPath]
  refine Rj.of (by decide) (fun h => by cases h) (Nat.le_of_ble_eq_true rfl) ?_
  refine tj_lv0 (lv' := [(0, .ref (h0 + t)), (1, .int p1), (2, .ref (h0 + p2))]) rfl ?_
  refine tj_aload_n (q := 1) dX7_layPath_0 rfl (i := 0) rfl (pl := 0) rfl ?_
  refine tj_getI (q := 4) (hT).s fok_7_8 wl_RX7_46 dX7_layPath_1 rfl ?_
  refine tj_topI (fun v1 => ?_)
  refine tj_istore_n (q := 5) dX7_layPath_4 rfl (i := 3) rfl (by decide) rfl ?_
  refine tj_iload_n (q := 6) dX7_layPath_5 rfl (i := 1) rfl (pl := 2) rfl ?_
  refine tj_iconst (q := 7) (v := 1) dX7_layPath_6 rfl (by decide) ?_
  refine tj_isub (q := 8) dX7_layPath_7 rfl ?_
  refine tj_topI (fun v2 => ?_)
  refine tj_istore (q := 10) dX7_layPath_8 rfl (by decide) rfl ?_
  refine tj_lv [2, 3, 4, 1, 0] rfl ?_
  exact tmX7_layPath_L10 t p2 p2n hT hp2 p1 FU v1 v2 σ

end
