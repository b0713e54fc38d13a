section
variable {l : Launch} {D : va_G} {cA : Nat → ClassId} {h0 : Nat} {ad : Ad_} {sh : Sh_} {P : Px_} {σ : St_}
theorem dX9_addSet_0 : decode cX9_addSet 0 = .ok (.aload_n 0, 1) := by decide +kernel
theorem dX9_addSet_1 : decode cX9_addSet 1 = .ok (.getfield 40, 3) := by decide +kernel
theorem dX9_addSet_4 : decode cX9_addSet 4 = .ok (.bipush 55, 2) := by decide +kernel
theorem dX9_addSet_6 : decode cX9_addSet 6 = .ok (.if_icmp .lt 4, 3) := by decide +kernel
theorem dX9_addSet_9 : decode cX9_addSet 9 = .ok (.return_, 1) := by decide +kernel
theorem dX9_addSet_10 : decode cX9_addSet 10 = .ok (.aload_n 0, 1) := by decide +kernel
theorem dX9_addSet_11 : decode cX9_addSet 11 = .ok (.getfield 28, 3) := by decide +kernel
theorem dX9_addSet_14 : decode cX9_addSet 14 = .ok (.aload_n 0, 1) := by decide +kernel
theorem dX9_addSet_15 : decode cX9_addSet 15 = .ok (.getfield 40, 3) := by decide +kernel
theorem dX9_addSet_18 : decode cX9_addSet 18 = .ok (.iload_n 3, 1) := by decide +kernel
theorem dX9_addSet_19 : decode cX9_addSet 19 = .ok (.iastore, 1) := by decide +kernel
theorem dX9_addSet_20 : decode cX9_addSet 20 = .ok (.aload_n 0, 1) := by decide +kernel
theorem dX9_addSet_21 : decode cX9_addSet 21 = .ok (.getfield 31, 3) := by decide +kernel
theorem dX9_addSet_24 : decode cX9_addSet 24 = .ok (.aload_n 0, 1) := by decide +kernel
theorem dX9_addSet_25 : decode cX9_addSet 25 = .ok (.getfield 40, 3) := by decide +kernel
theorem dX9_addSet_28 : decode cX9_addSet 28 = .ok (.iload 4, 2) := by decide +kernel
theorem dX9_addSet_30 : decode cX9_addSet 30 = .ok (.iastore, 1) := by decide +kernel
theorem dX9_addSet_31 : decode cX9_addSet 31 = .ok (.aload_n 0, 1) := by decide +kernel
theorem dX9_addSet_32 : decode cX9_addSet 32 = .ok (.getfield 34, 3) := by decide +kernel
theorem dX9_addSet_35 : decode cX9_addSet 35 = .ok (.aload_n 0, 1) := by decide +kernel
theorem dX9_addSet_36 : decode cX9_addSet 36 = .ok (.getfield 40, 3) := by decide +kernel
theorem dX9_addSet_39 : decode cX9_addSet 39 = .ok (.aload_n 1, 1) := by decide +kernel
theorem dX9_addSet_40 : decode cX9_addSet 40 = .ok (.getfield 57, 3) := by decide +kernel
theorem dX9_addSet_43 : decode cX9_addSet 43 = .ok (.iload_n 3, 1) := by decide +kernel
theorem dX9_addSet_44 : decode cX9_addSet 44 = .ok (.iaload, 1) := by decide +kernel
theorem dX9_addSet_45 : decode cX9_addSet 45 = .ok (.iastore, 1) := by decide +kernel
theorem dX9_addSet_46 : decode cX9_addSet 46 = .ok (.aload_n 0, 1) := by decide +kernel
theorem dX9_addSet_47 : decode cX9_addSet 47 = .ok (.getfield 37, 3) := by decide +kernel
theorem dX9_addSet_50 : decode cX9_addSet 50 = .ok (.aload_n 0, 1) := by decide +kernel
theorem dX9_addSet_51 : decode cX9_addSet 51 = .ok (.getfield 40, 3) := by decide +kernel
theorem dX9_addSet_54 : decode cX9_addSet 54 = .ok (.aload_n 1, 1) := by decide +kernel
theorem dX9_addSet_55 : decode cX9_addSet 55 = .ok (.iconst 5, 1) := by decide +kernel
theorem dX9_addSet_56 : decode cX9_addSet 56 = .ok (.iload_n 2, 1) := by decide +kernel
theorem dX9_addSet_57 : decode cX9_addSet 57 = .ok (.iadd, 1) := by decide +kernel
theorem dX9_addSet_58 : decode cX9_addSet 58 = .ok (.iload_n 3, 1) := by decide +kernel
theorem dX9_addSet_59 : decode cX9_addSet 59 = .ok (.invokevirtual 60, 3) := by decide +kernel
theorem dX9_addSet_62 : decode cX9_addSet 62 = .ok (.iastore, 1) := by decide +kernel
theorem dX9_addSet_63 : decode cX9_addSet 63 = .ok (.iload 4, 2) := by decide +kernel
theorem dX9_addSet_65 : decode cX9_addSet 65 = .ok (.iconst (-1), 1) := by decide +kernel
theorem dX9_addSet_66 : decode cX9_addSet 66 = .ok (.if_icmp .eq 43, 3) := by decide +kernel
theorem dX9_addSet_69 : decode cX9_addSet 69 = .ok (.aload_n 0, 1) := by decide +kernel
theorem dX9_addSet_70 : decode cX9_addSet 70 = .ok (.getfield 34, 3) := by decide +kernel
theorem dX9_addSet_73 : decode cX9_addSet 73 = .ok (.aload_n 0, 1) := by decide +kernel
theorem dX9_addSet_74 : decode cX9_addSet 74 = .ok (.getfield 40, 3) := by decide +kernel
theorem dX9_addSet_77 : decode cX9_addSet 77 = .ok (.dup2, 1) := by decide +kernel
theorem dX9_addSet_78 : decode cX9_addSet 78 = .ok (.iaload, 1) := by decide +kernel
theorem dX9_addSet_79 : decode cX9_addSet 79 = .ok (.aload_n 1, 1) := by decide +kernel
theorem dX9_addSet_80 : decode cX9_addSet 80 = .ok (.getfield 57, 3) := by decide +kernel
theorem dX9_addSet_83 : decode cX9_addSet 83 = .ok (.iload 4, 2) := by decide +kernel
theorem dX9_addSet_85 : decode cX9_addSet 85 = .ok (.iaload, 1) := by decide +kernel
theorem dX9_addSet_86 : decode cX9_addSet 86 = .ok (.iadd, 1) := by decide +kernel
theorem dX9_addSet_87 : decode cX9_addSet 87 = .ok (.iastore, 1) := by decide +kernel
theorem dX9_addSet_88 : decode cX9_addSet 88 = .ok (.aload_n 0, 1) := by decide +kernel
theorem dX9_addSet_89 : decode cX9_addSet 89 = .ok (.getfield 37, 3) := by decide +kernel
theorem dX9_addSet_92 : decode cX9_addSet 92 = .ok (.aload_n 0, 1) := by decide +kernel
theorem dX9_addSet_93 : decode cX9_addSet 93 = .ok (.getfield 40, 3) := by decide +kernel
theorem dX9_addSet_96 : decode cX9_addSet 96 = .ok (.dup2, 1) := by decide +kernel
theorem dX9_addSet_97 : decode cX9_addSet 97 = .ok (.iaload, 1) := by decide +kernel
theorem dX9_addSet_98 : decode cX9_addSet 98 = .ok (.aload_n 1, 1) := by decide +kernel
theorem dX9_addSet_99 : decode cX9_addSet 99 = .ok (.iconst 5, 1) := by decide +kernel
theorem dX9_addSet_100 : decode cX9_addSet 100 = .ok (.iload_n 2, 1) := by decide +kernel
theorem dX9_addSet_101 : decode cX9_addSet 101 = .ok (.iadd, 1) := by decide +kernel
theorem dX9_addSet_102 : decode cX9_addSet 102 = .ok (.iload 4, 2) := by decide +kernel
theorem dX9_addSet_104 : decode cX9_addSet 104 = .ok (.invokevirtual 60, 3) := by decide +kernel
theorem dX9_addSet_107 : decode cX9_addSet 107 = .ok (.iadd, 1) := by decide +kernel
theorem dX9_addSet_108 : decode cX9_addSet 108 = .ok (.iastore, 1) := by decide +kernel
theorem dX9_addSet_109 : decode cX9_addSet 109 = .ok (.aload_n 0, 1) := by decide +kernel
theorem dX9_addSet_110 : decode cX9_addSet 110 = .ok (.dup, 1) := by decide +kernel
theorem dX9_addSet_111 : decode cX9_addSet 111 = .ok (.getfield 40, 3) := by decide +kernel
theorem dX9_addSet_114 : decode cX9_addSet 114 = .ok (.iconst 1, 1) := by decide +kernel
theorem dX9_addSet_115 : decode cX9_addSet 115 = .ok (.iadd, 1) := by decide +kernel
theorem dX9_addSet_116 : decode cX9_addSet 116 = .ok (.putfield 40, 3) := by decide +kernel
theorem dX9_addSet_119 : decode cX9_addSet 119 = .ok (.return_, 1) := by decide +kernel
theorem wl_RX9_40 : Cond.fieldLink RX9 40 (TX9 9).1 (TX9 9).2.1 (TX9 9).2.2.1 ∈ TB := tbm 522 (by decide +kernel) (by decide +kernel)
theorem wl_RX9_28 : Cond.fieldLink RX9 28 (TX9 5).1 (TX9 5).2.1 (TX9 5).2.2.1 ∈ TB := tbm 516 (by decide +kernel) (by decide +kernel)
theorem wl_RX9_31 : Cond.fieldLink RX9 31 (TX9 6).1 (TX9 6).2.1 (TX9 6).2.2.1 ∈ TB := tbm 518 (by decide +kernel) (by decide +kernel)
theorem wl_RX9_34 : Cond.fieldLink RX9 34 (TX9 7).1 (TX9 7).2.1 (TX9 7).2.2.1 ∈ TB := tbm 520 (by decide +kernel) (by decide +kernel)
theorem wl_RX9_57 : Cond.fieldLink RX9 57 (TX1 6).1 (TX1 6).2.1 (TX1 6).2.2.1 ∈ TB := tbm 314 (by decide +kernel) (by decide +kernel)
theorem wl_RX9_37 : Cond.fieldLink RX9 37 (TX9 8).1 (TX9 8).2.1 (TX9 8).2.2.1 ∈ TB := tbm 521 (by decide +kernel) (by decide +kernel)
theorem wi_RX9_60 : Iv RX9 60 yX1_valueTo cX1_valueTo 3 (some .int) 2 := ⟨tbm 1174 (by decide +kernel) (by decide +kernel), wm_X1_valueTo⟩
def mX9_addSet (t : Nat) (p1 : Nat) (p2 : Int32) (p3 : Int32) (p4 : Int32) (σ : St_) : Option St_ :=
 (if (σ.1 t 9) < (55 : Int32) then
 (bnd (σ.1 t 9) fun v1 =>
 (if bin v1 55 = true then bnd (sI σ (t + 5) v1.toNatClampNeg p3) fun σ2 =>
 (bnd (σ2.1 t 9) fun v3 =>
 (if bin v3 55 = true then bnd (sI σ2 (t + 6) v3.toNatClampNeg p4) fun σ4 =>
 (if bin p3 10 = true then bnd (σ4.1 (p1 + 2) p3.toNatClampNeg) fun v5 =>
 (bnd (σ4.1 t 9) fun v6 =>
 (if bin v6 55 = true then bnd (sI σ4 (t + 7) v6.toNatClampNeg v5) fun σ7 =>
 ((mX1_valueTo p1 ((5 : Int32) + p2) p3 σ7).bind fun r8 =>
 (bnd (σ7.1 t 9) fun v9 =>
 (if bin v9 55 = true then bnd (sI σ7 (t + 8) v9.toNatClampNeg r8) fun σ10 =>
 (bnd (fun (σ11 : St_) => (bnd (sI σ11 t 9 ((σ11.1 t 9) + (1 : Int32))) fun σ14 =>
 (some σ14))) fun k12 =>
 (if p4 = (-1 : Int32) then
 (k12 σ10)
 else (bnd (σ10.1 t 9) fun v15 =>
 (if bin v15 55 = true then bnd (σ10.1 (t + 7) v15.toNatClampNeg) fun v16 =>
 (if bin p4 10 = true then bnd (σ10.1 (p1 + 2) p4.toNatClampNeg) fun v17 =>
 (if bin v15 55 = true then bnd (sI σ10 (t + 7) v15.toNatClampNeg (v16 + v17)) fun σ18 =>
 (bnd (σ18.1 t 9) fun v19 =>
 (if bin v19 55 = true then bnd (σ18.1 (t + 8) v19.toNatClampNeg) fun v20 =>
 ((mX1_valueTo p1 ((5 : Int32) + p2) p4 σ18).bind fun r21 =>
 (if bin v19 55 = true then bnd (sI σ18 (t + 8) v19.toNatClampNeg (v20 + r21)) fun σ22 =>
 (k12 σ22)
 else none))
 else none))
 else none)
 else none)
 else none))))
 else none)))
 else none))
 else none)
 else none))
 else none))
 else (some σ))
set_option maxHeartbeats 4000000 in
theorem rX9_addSet (t : Nat) (p1 : Nat) (p2 : Int32) (p3 : Int32) (p4 : Int32) (hT : LY9 sh P t) (hp1 : LY1 sh P p1) : Rj l D cA h0 ad yX9_addSet cX9_addSet 5 none false 3 0 0 (fun b => (none, sh, P, b)) [.ref (h0 + t), .ref (h0 + p1), .int p2, .int p3, .int p4] sh P σ (mX9_addSet t p1 p2 p3 p4 σ) := by
  rw [mX9_addSet]
  refine Rj.of (by decide) (fun h => by cases h) (Nat.le_of_ble_eq_true rfl) ?_
  refine tj_lv0 (lv' := [(0, .ref (h0 + t)), (1, .ref (h0 + p1)), (2, .int p2), (3, .int p3), (4, .int p4)]) rfl ?_
  refine tj_aload_n (q := 1) dX9_addSet_0 rfl (i := 0) rfl (pl := 0) rfl ?_
  refine tj_getI (q := 4) (hT).s fok_9_9 wl_RX9_40 dX9_addSet_1 rfl ?_
  refine tj_bipush (q := 6) (v := 55) dX9_addSet_4 rfl (by decide) ?_
  refine tj_icmp_lt (tgt := 10) (q := 9) dX9_addSet_6 (by decide) rfl ?_ ?_
  · refine tj_aload_n (q := 11) dX9_addSet_10 rfl (i := 0) rfl (pl := 0) rfl ?_
    refine tj_getR (q := 14) (hT).s (hT).p_high fok_9_5 wl_RX9_28 dX9_addSet_11 rfl ?_
    refine tj_aload_n (q := 15) dX9_addSet_14 rfl (i := 0) rfl (pl := 0) rfl ?_
    refine tj_getI (q := 18) (hT).s fok_9_9 wl_RX9_40 dX9_addSet_15 rfl ?_
    refine tj_iload_n (q := 19) dX9_addSet_18 rfl (i := 3) rfl (pl := 3) rfl ?_
    refine tj_sndI (fun v1 => ?_)
    refine tj_iastore (q := 20) (hT).s_high dX9_addSet_19 rfl (fun σ2 => ?_)
    refine tj_aload_n (q := 21) dX9_addSet_20 rfl (i := 0) rfl (pl := 0) rfl ?_
    refine tj_getR (q := 24) (hT).s (hT).p_low fok_9_6 wl_RX9_31 dX9_addSet_21 rfl ?_
    refine tj_aload_n (q := 25) dX9_addSet_24 rfl (i := 0) rfl (pl := 0) rfl ?_
    refine tj_getI (q := 28) (hT).s fok_9_9 wl_RX9_40 dX9_addSet_25 rfl ?_
    refine tj_iload (q := 30) dX9_addSet_28 rfl (pl := 4) rfl ?_
    refine tj_sndI (fun v3 => ?_)
    refine tj_iastore (q := 31) (hT).s_low dX9_addSet_30 rfl (fun σ4 => ?_)
    refine tj_aload_n (q := 32) dX9_addSet_31 rfl (i := 0) rfl (pl := 0) rfl ?_
    refine tj_getR (q := 35) (hT).s (hT).p_setWeight fok_9_7 wl_RX9_34 dX9_addSet_32 rfl ?_
    refine tj_aload_n (q := 36) dX9_addSet_35 rfl (i := 0) rfl (pl := 0) rfl ?_
    refine tj_getI (q := 39) (hT).s fok_9_9 wl_RX9_40 dX9_addSet_36 rfl ?_
    refine tj_aload_n (q := 40) dX9_addSet_39 rfl (i := 1) rfl (pl := 1) rfl ?_
    refine tj_getR (q := 43) (hp1).s (hp1).p_weight fok_1_6 wl_RX9_57 dX9_addSet_40 rfl ?_
    refine tj_iload_n (q := 44) dX9_addSet_43 rfl (i := 3) rfl (pl := 3) rfl ?_
    refine tj_iaload (q := 45) (hp1).s_weight dX9_addSet_44 rfl ?_
    refine tj_topI (fun v5 => ?_)
    refine tj_sndI (fun v6 => ?_)
    refine tj_iastore (q := 46) (hT).s_setWeight dX9_addSet_45 rfl (fun σ7 => ?_)
    refine tj_aload_n (q := 47) dX9_addSet_46 rfl (i := 0) rfl (pl := 0) rfl ?_
    refine tj_getR (q := 50) (hT).s (hT).p_setValue fok_9_8 wl_RX9_37 dX9_addSet_47 rfl ?_
    refine tj_aload_n (q := 51) dX9_addSet_50 rfl (i := 0) rfl (pl := 0) rfl ?_
    refine tj_getI (q := 54) (hT).s fok_9_9 wl_RX9_40 dX9_addSet_51 rfl ?_
    refine tj_aload_n (q := 55) dX9_addSet_54 rfl (i := 1) rfl (pl := 1) rfl ?_
    refine tj_iconst (q := 56) (v := 5) dX9_addSet_55 rfl (by decide) ?_
    refine tj_iload_n (q := 57) dX9_addSet_56 rfl (i := 2) rfl (pl := 2) rfl ?_
    refine tj_iadd (q := 58) dX9_addSet_57 rfl ?_
    refine tj_iload_n (q := 59) dX9_addSet_58 rfl (i := 3) rfl (pl := 3) rfl ?_
    refine tj_callIp (q := 62) (kj_V (As := [.int ((5 : Int32) + p2), .int p3]) (rest := [.int (σ7.1 t 9), .ref (h0 + (t + 8))]) (t := p1) wi_RX9_60 (hp1).s rfl (rX1_valueTo p1 ((5 : Int32) + p2) p3 (hp1)) rfl (Nat.le_of_ble_eq_true rfl) ⟨Nat.le_of_ble_eq_true rfl, Nat.le_of_ble_eq_true rfl⟩ (Nat.le_of_ble_eq_true rfl) dX9_addSet_59) rfl (fun r8 => ?_)
    refine tj_sndI (fun v9 => ?_)
    refine tj_iastore (q := 63) (hT).s_setValue dX9_addSet_62 rfl (fun σ10 => ?_)
    refine tj_iload (q := 65) dX9_addSet_63 rfl (pl := 4) rfl ?_
    refine tj_iconst (q := 66) (v := (-1)) dX9_addSet_65 rfl (by decide) ?_
    refine tj_bnd (fun k12 => ∀ (σ11 : St_), Tj l D cA h0 ad RX9 cX9_addSet 5 none false 3 0 0 (fun b => (none, sh, P, b)) 0 0 sh P σ11 109 [(0, .ref (h0 + t))] [] (k12 σ11)) ?_ (fun k12 hk13 => ?_)
    · intro σ11
      refine tj_aload_n (q := 110) dX9_addSet_109 rfl (i := 0) rfl (pl := 0) rfl ?_
      refine tj_dup (q := 111) dX9_addSet_110 rfl rfl ?_
      refine tj_getI (q := 114) (hT).s fok_9_9 wl_RX9_40 dX9_addSet_111 rfl ?_
      refine tj_iconst (q := 115) (v := 1) dX9_addSet_114 rfl (by decide) ?_
      refine tj_iadd (q := 116) dX9_addSet_115 rfl ?_
      refine tj_putI (q := 119) (hT).s fok_9_9 tok_9 fpk_9_9 wl_RX9_40 dX9_addSet_116 rfl (fun σ14 => ?_)
      exact tj_vret rfl rfl (Nat.le_of_ble_eq_true rfl) (Nat.le_of_ble_eq_true rfl) dX9_addSet_119
    · refine tj_icmp_eq (tgt := 109) (q := 69) dX9_addSet_66 (by decide) rfl ?_ ?_
      · refine tj_lv [0] rfl ?_
        exact hk13 σ10
      · refine tj_aload_n (q := 70) dX9_addSet_69 rfl (i := 0) rfl (pl := 0) rfl ?_
        refine tj_getR (q := 73) (hT).s (hT).p_setWeight fok_9_7 wl_RX9_34 dX9_addSet_70 rfl ?_
        refine tj_aload_n (q := 74) dX9_addSet_73 rfl (i := 0) rfl (pl := 0) rfl ?_
        refine tj_getI (q := 77) (hT).s fok_9_9 wl_RX9_40 dX9_addSet_74 rfl ?_
        refine tj_topI (fun v15 => ?_)
        refine tj_dup2 (q := 78) dX9_addSet_77 rfl rfl rfl ?_
        refine tj_iaload (q := 79) (hT).s_setWeight dX9_addSet_78 rfl ?_
        refine tj_topI (fun v16 => ?_)
        refine tj_aload_n (q := 80) dX9_addSet_79 rfl (i := 1) rfl (pl := 1) rfl ?_
        refine tj_getR (q := 83) (hp1).s (hp1).p_weight fok_1_6 wl_RX9_57 dX9_addSet_80 rfl ?_
        refine tj_iload (q := 85) dX9_addSet_83 rfl (pl := 4) rfl ?_
        refine tj_iaload (q := 86) (hp1).s_weight dX9_addSet_85 rfl ?_
        refine tj_topI (fun v17 => ?_)
        refine tj_iadd (q := 87) dX9_addSet_86 rfl ?_
        refine tj_iastore (q := 88) (hT).s_setWeight dX9_addSet_87 rfl (fun σ18 => ?_)
        refine tj_aload_n (q := 89) dX9_addSet_88 rfl (i := 0) rfl (pl := 0) rfl ?_
        refine tj_getR (q := 92) (hT).s (hT).p_setValue fok_9_8 wl_RX9_37 dX9_addSet_89 rfl ?_
        refine tj_aload_n (q := 93) dX9_addSet_92 rfl (i := 0) rfl (pl := 0) rfl ?_
        refine tj_getI (q := 96) (hT).s fok_9_9 wl_RX9_40 dX9_addSet_93 rfl ?_
        refine tj_topI (fun v19 => ?_)
        refine tj_dup2 (q := 97) dX9_addSet_96 rfl rfl rfl ?_
        refine tj_iaload (q := 98) (hT).s_setValue dX9_addSet_97 rfl ?_
        refine tj_topI (fun v20 => ?_)
        refine tj_aload_n (q := 99) dX9_addSet_98 rfl (i := 1) rfl (pl := 1) rfl ?_
        refine tj_iconst (q := 100) (v := 5) dX9_addSet_99 rfl (by decide) ?_
        refine tj_iload_n (q := 101) dX9_addSet_100 rfl (i := 2) rfl (pl := 2) rfl ?_
        refine tj_iadd (q := 102) dX9_addSet_101 rfl ?_
        refine tj_iload (q := 104) dX9_addSet_102 rfl (pl := 4) rfl ?_
        refine tj_callIp (q := 107) (kj_V (As := [.int ((5 : Int32) + p2), .int p4]) (rest := [.int v20, .int v19, .ref (h0 + (t + 8))]) (t := p1) wi_RX9_60 (hp1).s rfl (rX1_valueTo p1 ((5 : Int32) + p2) p4 (hp1)) rfl (Nat.le_of_ble_eq_true rfl) ⟨Nat.le_of_ble_eq_true rfl, Nat.le_of_ble_eq_true rfl⟩ (Nat.le_of_ble_eq_true rfl) dX9_addSet_104) rfl (fun r21 => ?_)
        refine tj_iadd (q := 108) dX9_addSet_107 rfl ?_
        refine tj_iastore (q := 109) (hT).s_setValue dX9_addSet_108 rfl (fun σ22 => ?_)
        refine tj_lv [0] rfl ?_
        exact hk13 σ22
  · exact tj_vret rfl rfl (Nat.le_of_ble_eq_true rfl) (Nat.le_of_ble_eq_true rfl) dX9_addSet_9

theorem dX9_splitStock_0 : decode cX9_splitStock 0 = .ok (.aload_n 2, 1) := by decide +kernel
theorem dX9_splitStock_1 : decode cX9_splitStock 1 = .ok (.getfield 43, 3) := by decide +kernel
theorem dX9_splitStock_4 : decode cX9_splitStock 4 = .ok (.iconst 5, 1) := by decide +kernel
theorem dX9_splitStock_5 : decode cX9_splitStock 5 = .ok (.iload_n 3, 1) := by decide +kernel
theorem dX9_splitStock_6 : decode cX9_splitStock 6 = .ok (.iadd, 1) := by decide +kernel
theorem dX9_splitStock_7 : decode cX9_splitStock 7 = .ok (.iaload, 1) := by decide +kernel
theorem dX9_splitStock_8 : decode cX9_splitStock 8 = .ok (.istore 4, 2) := by decide +kernel
theorem dX9_splitStock_10 : decode cX9_splitStock 10 = .ok (.aload_n 0, 1) := by decide +kernel
theorem dX9_splitStock_11 : decode cX9_splitStock 11 = .ok (.iconst 0, 1) := by decide +kernel
theorem dX9_splitStock_12 : decode cX9_splitStock 12 = .ok (.putfield 40, 3) := by decide +kernel
theorem dX9_splitStock_15 : decode cX9_splitStock 15 = .ok (.iconst 0, 1) := by decide +kernel
theorem dX9_splitStock_16 : decode cX9_splitStock 16 = .ok (.istore 5, 2) := by decide +kernel
theorem dX9_splitStock_18 : decode cX9_splitStock 18 = .ok (.iload 5, 2) := by decide +kernel
theorem dX9_splitStock_20 : decode cX9_splitStock 20 = .ok (.aload_n 1, 1) := by decide +kernel
theorem dX9_splitStock_21 : decode cX9_splitStock 21 = .ok (.getfield 48, 3) := by decide +kernel
theorem dX9_splitStock_24 : decode cX9_splitStock 24 = .ok (.if_icmp .ge 64, 3) := by decide +kernel
theorem dX9_splitStock_27 : decode cX9_splitStock 27 = .ok (.iload 4, 2) := by decide +kernel
theorem dX9_splitStock_29 : decode cX9_splitStock 29 = .ok (.iload 5, 2) := by decide +kernel
theorem dX9_splitStock_31 : decode cX9_splitStock 31 = .ok (.ishr, 1) := by decide +kernel
theorem dX9_splitStock_32 : decode cX9_splitStock 32 = .ok (.iconst 1, 1) := by decide +kernel
theorem dX9_splitStock_33 : decode cX9_splitStock 33 = .ok (.iand, 1) := by decide +kernel
theorem dX9_splitStock_34 : decode cX9_splitStock 34 = .ok (.ifCond .eq 48, 3) := by decide +kernel
theorem dX9_splitStock_37 : decode cX9_splitStock 37 = .ok (.aload_n 0, 1) := by decide +kernel
theorem dX9_splitStock_38 : decode cX9_splitStock 38 = .ok (.aload_n 1, 1) := by decide +kernel
theorem dX9_splitStock_39 : decode cX9_splitStock 39 = .ok (.iload_n 3, 1) := by decide +kernel
theorem dX9_splitStock_40 : decode cX9_splitStock 40 = .ok (.iload 5, 2) := by decide +kernel
theorem dX9_splitStock_42 : decode cX9_splitStock 42 = .ok (.iconst (-1), 1) := by decide +kernel
theorem dX9_splitStock_43 : decode cX9_splitStock 43 = .ok (.invokevirtual 53, 3) := by decide +kernel
theorem dX9_splitStock_46 : decode cX9_splitStock 46 = .ok (.iconst 0, 1) := by decide +kernel
theorem dX9_splitStock_47 : decode cX9_splitStock 47 = .ok (.istore 6, 2) := by decide +kernel
theorem dX9_splitStock_49 : decode cX9_splitStock 49 = .ok (.iload 6, 2) := by decide +kernel
theorem dX9_splitStock_51 : decode cX9_splitStock 51 = .ok (.iload 5, 2) := by decide +kernel
theorem dX9_splitStock_53 : decode cX9_splitStock 53 = .ok (.if_icmp .ge 29, 3) := by decide +kernel
theorem dX9_splitStock_56 : decode cX9_splitStock 56 = .ok (.iload 4, 2) := by decide +kernel
theorem dX9_splitStock_58 : decode cX9_splitStock 58 = .ok (.iload 6, 2) := by decide +kernel
theorem dX9_splitStock_60 : decode cX9_splitStock 60 = .ok (.ishr, 1) := by decide +kernel
theorem dX9_splitStock_61 : decode cX9_splitStock 61 = .ok (.iconst 1, 1) := by decide +kernel
theorem dX9_splitStock_62 : decode cX9_splitStock 62 = .ok (.iand, 1) := by decide +kernel
theorem dX9_splitStock_63 : decode cX9_splitStock 63 = .ok (.ifCond .eq 13, 3) := by decide +kernel
theorem dX9_splitStock_66 : decode cX9_splitStock 66 = .ok (.aload_n 0, 1) := by decide +kernel
theorem dX9_splitStock_67 : decode cX9_splitStock 67 = .ok (.aload_n 1, 1) := by decide +kernel
theorem dX9_splitStock_68 : decode cX9_splitStock 68 = .ok (.iload_n 3, 1) := by decide +kernel
theorem dX9_splitStock_69 : decode cX9_splitStock 69 = .ok (.iload 5, 2) := by decide +kernel
theorem dX9_splitStock_71 : decode cX9_splitStock 71 = .ok (.iload 6, 2) := by decide +kernel
theorem dX9_splitStock_73 : decode cX9_splitStock 73 = .ok (.invokevirtual 53, 3) := by decide +kernel
theorem dX9_splitStock_76 : decode cX9_splitStock 76 = .ok (.iinc 6 1, 3) := by decide +kernel
theorem dX9_splitStock_79 : decode cX9_splitStock 79 = .ok (.goto (-30), 3) := by decide +kernel
theorem dX9_splitStock_82 : decode cX9_splitStock 82 = .ok (.iinc 5 1, 3) := by decide +kernel
theorem dX9_splitStock_85 : decode cX9_splitStock 85 = .ok (.goto (-67), 3) := by decide +kernel
theorem dX9_splitStock_88 : decode cX9_splitStock 88 = .ok (.return_, 1) := by decide +kernel
theorem wl_RX9_43 : Cond.fieldLink RX9 43 (TX8 0).1 (TX8 0).2.1 (TX8 0).2.2.1 ∈ TB := tbm 380 (by decide +kernel) (by decide +kernel)
theorem wl_RX9_48 : Cond.fieldLink RX9 48 (TX1 2).1 (TX1 2).2.1 (TX1 2).2.2.1 ∈ TB := tbm 297 (by decide +kernel) (by decide +kernel)
theorem wm_X9_addSet : Cond.instanceMethod yX9_addSet ∈ TB ∧ Cond.selects yX9_addSet.cls yX9_addSet yX9_addSet ∈ TB ∧ Cond.initialized yX9_addSet.cls ∈ TB ∧ Cond.code yX9_addSet cX9_addSet 5 none ∈ TB ∧ (yX9_addSet.cls ≠ "java/lang/invoke/MethodHandle" ∧ yX9_addSet.cls ≠ "java/lang/invoke/VarHandle" ∧ (parseMethodDescriptor yX9_addSet.desc).map (fun d => d.parameters.length) = some 4) ∧ 5 ≤ 21 := ⟨tbm 1172 (by decide +kernel) (by decide +kernel), tbm 37 (by decide +kernel) (by decide +kernel), tbm 143 (by decide +kernel) (by decide +kernel), tbm 1173 (by decide +kernel) (by decide +kernel), by decide +kernel, by decide⟩
theorem wi_RX9_53 : Iv RX9 53 yX9_addSet cX9_addSet 5 none 4 := ⟨tbm 1170 (by decide +kernel) (by decide +kernel), wm_X9_addSet⟩
def mX9_splitStock_L49 (t : Nat) (p1 : Nat) (p2 : Nat) (x3 : Int32) (x4 : Int32) (x5 : Int32) (k82 : St_ → Option St_) : Nat → Int32 → St_ → Option St_
  | 0, _, _ => none
  | n + 1, x6, σ => (if x5 ≤ x6 then
 (k82 σ)
 else (bnd (fun (σ8 : St_) => (mX9_splitStock_L49 t p1 p2 x3 x4 x5 k82 n (x6 + 1) σ8)) fun k9 =>
 (if ((x4 >>> (x6 &&& 31)) &&& (1 : Int32)) = 0 then
 (k9 σ)
 else ((mX9_addSet t p1 x3 x5 x6 σ).bind fun σ11 =>
 (k9 σ11)))))
def mX9_splitStock_L18 (t : Nat) (p1 : Nat) (p2 : Nat) (x3 : Int32) (x4 : Int32) : Nat → Int32 → St_ → Option St_
  | 0, _, _ => none
  | n + 1, x5, σ => (if (σ.1 p1 2) ≤ x5 then
 (some σ)
 else (bnd (fun (σ4 : St_) => (mX9_splitStock_L18 t p1 p2 x3 x4 n (x5 + 1) σ4)) fun k5 =>
 (if ((x4 >>> (x5 &&& 31)) &&& (1 : Int32)) = 0 then
 (k5 σ)
 else ((mX9_addSet t p1 x3 x5 (-1 : Int32) σ).bind fun σ7 =>
 (mX9_splitStock_L49 t p1 p2 x3 x4 x5
 (fun (σ12 : St_) => (k5 σ12)) FU (0 : Int32) σ7)))))
def mX9_splitStock (t : Nat) (p1 : Nat) (p2 : Nat) (p3 : Int32) (σ : St_) : Option St_ :=
 (bnd ((5 : Int32) + p3) fun v1 =>
 (if bin v1 9 = true then bnd (σ.1 (p2 + 1) v1.toNatClampNeg) fun v2 =>
 (bnd (sI σ t 9 (0 : Int32)) fun σ3 =>
 (mX9_splitStock_L18 t p1 p2 p3 v2 FU (0 : Int32) σ3))
 else none))
set_option maxHeartbeats 4000000 in
theorem tmX9_splitStock_L49 (t : Nat) (p1 : Nat) (p2 : Nat) (hT : LY9 sh P t) (hp1 : LY1 sh P p1) (hp2 : LY8 sh P p2) (x3 : Int32) (x4 : Int32) (x5 : Int32) (k82 : St_ → Option St_) (hk82 : ∀ (σ1 : St_), Tj l D cA h0 ad RX9 cX9_splitStock 7 none false 4 0 0 (fun b => (none, sh, P, b)) 0 0 sh P σ1 82 [(0, .ref (h0 + t)), (1, .ref (h0 + p1)), (3, .int x3), (4, .int x4), (5, .int x5)] [] (k82 σ1)) : ∀ (n : Nat) (x6 : Int32) (σ : St_), Tj l D cA h0 ad RX9 cX9_splitStock 7 none false 4 0 0 (fun b => (none, sh, P, b)) 0 0 sh P σ 49 [(0, .ref (h0 + t)), (1, .ref (h0 + p1)), (3, .int x3), (4, .int x4), (5, .int x5), (6, .int x6)] [] (mX9_splitStock_L49 t p1 p2 x3 x4 x5 k82 n x6 σ) := by
  intro n
  induction n with
  | zero => intros; exact tj_none
  | succ n ih =>
    intro x6 σ
    rw [mX9_splitStock_L49]
    refine tj_iload (q := 51) dX9_splitStock_49 rfl (pl := 5) rfl ?_
    refine tj_iload (q := 53) dX9_splitStock_51 rfl (pl := 4) rfl ?_
    refine tj_icmp_ge (tgt := 82) (q := 56) dX9_splitStock_53 (by decide) rfl ?_ ?_
    · refine tj_lv [0, 1, 2, 3, 4] rfl ?_
      exact hk82 σ
    · refine tj_iload (q := 58) dX9_splitStock_56 rfl (pl := 3) rfl ?_
      refine tj_iload (q := 60) dX9_splitStock_58 rfl (pl := 5) rfl ?_
      refine tj_ishr (q := 61) dX9_splitStock_60 rfl ?_
      refine tj_iconst (q := 62) (v := 1) dX9_splitStock_61 rfl (by decide) ?_
      refine tj_iand (q := 63) dX9_splitStock_62 rfl ?_
      refine tj_bnd (fun k9 => ∀ (σ8 : St_), Tj l D cA h0 ad RX9 cX9_splitStock 7 none false 4 0 0 (fun b => (none, sh, P, b)) 0 0 sh P σ8 76 [(0, .ref (h0 + t)), (1, .ref (h0 + p1)), (3, .int x3), (4, .int x4), (5, .int x5), (6, .int x6)] [] (k9 σ8)) ?_ (fun k9 hk10 => ?_)
      · intro σ8
        refine tj_iinc (q := 79) (v := x6 + 1) dX9_splitStock_76 rfl (pl := 5) rfl rfl (by decide) rfl ?_
        refine tj_goto (q := 49) dX9_splitStock_79 (by decide) ?_
        refine tj_lv [1, 2, 3, 4, 5, 0] rfl ?_
        exact ih (x6 + 1) σ8
      · refine tj_if_eq (tgt := 76) (q := 66) dX9_splitStock_63 (by decide) rfl ?_ ?_
        · exact hk10 σ
        · refine tj_aload_n (q := 67) dX9_splitStock_66 rfl (i := 0) rfl (pl := 0) rfl ?_
          refine tj_aload_n (q := 68) dX9_splitStock_67 rfl (i := 1) rfl (pl := 1) rfl ?_
          refine tj_iload_n (q := 69) dX9_splitStock_68 rfl (i := 3) rfl (pl := 2) rfl ?_
          refine tj_iload (q := 71) dX9_splitStock_69 rfl (pl := 4) rfl ?_
          refine tj_iload (q := 73) dX9_splitStock_71 rfl (pl := 5) rfl ?_
          refine tj_callV (q := 76) (kj_V (As := [.ref (h0 + p1), .int x3, .int x5, .int x6]) (rest := []) (t := t) wi_RX9_53 (hT).s rfl (rX9_addSet t p1 x3 x5 x6 (hT) (hp1)) rfl (Nat.le_of_ble_eq_true rfl) ⟨Nat.le_of_ble_eq_true rfl, Nat.le_of_ble_eq_true rfl⟩ (Nat.le_of_ble_eq_true rfl) dX9_splitStock_73) rfl (fun σ11 => ?_)
          exact hk10 σ11

set_option maxHeartbeats 4000000 in
theorem tmX9_splitStock_L18 (t : Nat) (p1 : Nat) (p2 : Nat) (hT : LY9 sh P t) (hp1 : LY1 sh P p1) (hp2 : LY8 sh P p2) (x3 : Int32) (x4 : Int32) : ∀ (n : Nat) (x5 : Int32) (σ : St_), Tj l D cA h0 ad RX9 cX9_splitStock 7 none false 4 0 0 (fun b => (none, sh, P, b)) 0 0 sh P σ 18 [(0, .ref (h0 + t)), (1, .ref (h0 + p1)), (3, .int x3), (4, .int x4), (5, .int x5)] [] (mX9_splitStock_L18 t p1 p2 x3 x4 n x5 σ) := by
  intro n
  induction n with
  | zero => intros; exact tj_none
  | succ n ih =>
    intro x5 σ
    rw [mX9_splitStock_L18]
    refine tj_iload (q := 20) dX9_splitStock_18 rfl (pl := 4) rfl ?_
    refine tj_aload_n (q := 21) dX9_splitStock_20 rfl (i := 1) rfl (pl := 1) rfl ?_
    refine tj_getI (q := 24) (hp1).s fok_1_2 wl_RX9_48 dX9_splitStock_21 rfl ?_
    refine tj_icmp_ge (tgt := 88) (q := 27) dX9_splitStock_24 (by decide) rfl ?_ ?_
    · exact tj_vret rfl rfl (Nat.le_of_ble_eq_true rfl) (Nat.le_of_ble_eq_true rfl) dX9_splitStock_88
    · refine tj_iload (q := 29) dX9_splitStock_27 rfl (pl := 3) rfl ?_
      refine tj_iload (q := 31) dX9_splitStock_29 rfl (pl := 4) rfl ?_
      refine tj_ishr (q := 32) dX9_splitStock_31 rfl ?_
      refine tj_iconst (q := 33) (v := 1) dX9_splitStock_32 rfl (by decide) ?_
      refine tj_iand (q := 34) dX9_splitStock_33 rfl ?_
      refine tj_bnd (fun k5 => ∀ (σ4 : St_), Tj l D cA h0 ad RX9 cX9_splitStock 7 none false 4 0 0 (fun b => (none, sh, P, b)) 0 0 sh P σ4 82 [(0, .ref (h0 + t)), (1, .ref (h0 + p1)), (3, .int x3), (4, .int x4), (5, .int x5)] [] (k5 σ4)) ?_ (fun k5 hk6 => ?_)
      · intro σ4
        refine tj_iinc (q := 85) (v := x5 + 1) dX9_splitStock_82 rfl (pl := 4) rfl rfl (by decide) rfl ?_
        refine tj_goto (q := 18) dX9_splitStock_85 (by decide) ?_
        refine tj_lv [1, 2, 3, 4, 0] rfl ?_
        exact ih (x5 + 1) σ4
      · refine tj_if_eq (tgt := 82) (q := 37) dX9_splitStock_34 (by decide) rfl ?_ ?_
        · exact hk6 σ
        · refine tj_aload_n (q := 38) dX9_splitStock_37 rfl (i := 0) rfl (pl := 0) rfl ?_
          refine tj_aload_n (q := 39) dX9_splitStock_38 rfl (i := 1) rfl (pl := 1) rfl ?_
          refine tj_iload_n (q := 40) dX9_splitStock_39 rfl (i := 3) rfl (pl := 2) rfl ?_
          refine tj_iload (q := 42) dX9_splitStock_40 rfl (pl := 4) rfl ?_
          refine tj_iconst (q := 43) (v := (-1)) dX9_splitStock_42 rfl (by decide) ?_
          refine tj_callV (q := 46) (kj_V (As := [.ref (h0 + p1), .int x3, .int x5, .int (-1 : Int32)]) (rest := []) (t := t) wi_RX9_53 (hT).s rfl (rX9_addSet t p1 x3 x5 (-1 : Int32) (hT) (hp1)) rfl (Nat.le_of_ble_eq_true rfl) ⟨Nat.le_of_ble_eq_true rfl, Nat.le_of_ble_eq_true rfl⟩ (Nat.le_of_ble_eq_true rfl) dX9_splitStock_43) rfl (fun σ7 => ?_)
          refine tj_iconst (q := 47) (v := 0) dX9_splitStock_46 rfl (by decide) ?_
          refine tj_istore (q := 49) dX9_splitStock_47 rfl (by decide) rfl ?_
          refine tj_lv [1, 2, 3, 4, 5, 0] rfl ?_
          refine tmX9_splitStock_L49 t p1 p2 hT hp1 hp2 x3 x4 x5 _ ?_ FU (0 : Int32) σ7
          · intro σ12
            exact hk6 σ12

set_option maxHeartbeats 4000000 in
theorem rX9_splitStock (t : Nat) (p1 : Nat) (p2 : Nat) (p3 : Int32) (hT : LY9 sh P t) (hp1 : LY1 sh P p1) (hp2 : LY8 sh P p2) : Rj l D cA h0 ad yX9_splitStock cX9_splitStock 7 none false 4 0 0 (fun b => (none, sh, P, b)) [.ref (h0 + t), .ref (h0 + p1), .ref (h0 + p2), .int p3] sh P σ (mX9_splitStock t p1 p2 p3 σ) := by
  rw [mX9_splitStock]
  refine Rj.of (by decide) (fun h => by cases h) (Nat.le_of_ble_eq_true rfl) ?_
  refine tj_lv0 (lv' := [(0, .ref (h0 + t)), (1, .ref (h0 + p1)), (2, .ref (h0 + p2)), (3, .int p3)]) rfl ?_
  refine tj_aload_n (q := 1) dX9_splitStock_0 rfl (i := 2) rfl (pl := 2) rfl ?_
  refine tj_getR (q := 4) (hp2).s (hp2).p_held fok_8_0 wl_RX9_43 dX9_splitStock_1 rfl ?_
  refine tj_iconst (q := 5) (v := 5) dX9_splitStock_4 rfl (by decide) ?_
  refine tj_iload_n (q := 6) dX9_splitStock_5 rfl (i := 3) rfl (pl := 3) rfl ?_
  refine tj_iadd (q := 7) dX9_splitStock_6 rfl ?_
  refine tj_topI (fun v1 => ?_)
  refine tj_iaload (q := 8) (hp2).s_held dX9_splitStock_7 rfl ?_
  refine tj_topI (fun v2 => ?_)
  refine tj_istore (q := 10) dX9_splitStock_8 rfl (by decide) rfl ?_
  refine tj_aload_n (q := 11) dX9_splitStock_10 rfl (i := 0) rfl (pl := 1) rfl ?_
  refine tj_iconst (q := 12) (v := 0) dX9_splitStock_11 rfl (by decide) ?_
  refine tj_putI (q := 15) (hT).s fok_9_9 tok_9 fpk_9_9 wl_RX9_40 dX9_splitStock_12 rfl (fun σ3 => ?_)
  refine tj_iconst (q := 16) (v := 0) dX9_splitStock_15 rfl (by decide) ?_
  refine tj_istore (q := 18) dX9_splitStock_16 rfl (by decide) rfl ?_
  refine tj_lv [2, 3, 5, 1, 0] rfl ?_
  exact tmX9_splitStock_L18 t p1 p2 hT hp1 hp2 p3 v2 FU (0 : Int32) σ3

theorem dX9_addSwap_0 : decode cX9_addSwap 0 = .ok (.aload_n 0, 1) := by decide +kernel
theorem dX9_addSwap_1 : decode cX9_addSwap 1 = .ok (.getfield 24, 3) := by decide +kernel
theorem dX9_addSwap_4 : decode cX9_addSwap 4 = .ok (.bipush 100, 2) := by decide +kernel
theorem dX9_addSwap_6 : decode cX9_addSwap 6 = .ok (.if_icmp .lt 4, 3) := by decide +kernel
theorem dX9_addSwap_9 : decode cX9_addSwap 9 = .ok (.return_, 1) := by decide +kernel
theorem dX9_addSwap_10 : decode cX9_addSwap 10 = .ok (.aload_n 0, 1) := by decide +kernel
theorem dX9_addSwap_11 : decode cX9_addSwap 11 = .ok (.getfield 11, 3) := by decide +kernel
theorem dX9_addSwap_14 : decode cX9_addSwap 14 = .ok (.aload_n 0, 1) := by decide +kernel
theorem dX9_addSwap_15 : decode cX9_addSwap 15 = .ok (.getfield 24, 3) := by decide +kernel
theorem dX9_addSwap_18 : decode cX9_addSwap 18 = .ok (.iload_n 3, 1) := by decide +kernel
theorem dX9_addSwap_19 : decode cX9_addSwap 19 = .ok (.iastore, 1) := by decide +kernel
theorem dX9_addSwap_20 : decode cX9_addSwap 20 = .ok (.aload_n 0, 1) := by decide +kernel
theorem dX9_addSwap_21 : decode cX9_addSwap 21 = .ok (.getfield 15, 3) := by decide +kernel
theorem dX9_addSwap_24 : decode cX9_addSwap 24 = .ok (.aload_n 0, 1) := by decide +kernel
theorem dX9_addSwap_25 : decode cX9_addSwap 25 = .ok (.getfield 24, 3) := by decide +kernel
theorem dX9_addSwap_28 : decode cX9_addSwap 28 = .ok (.iload 4, 2) := by decide +kernel
theorem dX9_addSwap_30 : decode cX9_addSwap 30 = .ok (.iastore, 1) := by decide +kernel
theorem dX9_addSwap_31 : decode cX9_addSwap 31 = .ok (.aload_n 0, 1) := by decide +kernel
theorem dX9_addSwap_32 : decode cX9_addSwap 32 = .ok (.getfield 18, 3) := by decide +kernel
theorem dX9_addSwap_35 : decode cX9_addSwap 35 = .ok (.aload_n 0, 1) := by decide +kernel
theorem dX9_addSwap_36 : decode cX9_addSwap 36 = .ok (.getfield 24, 3) := by decide +kernel
theorem dX9_addSwap_39 : decode cX9_addSwap 39 = .ok (.aload_n 0, 1) := by decide +kernel
theorem dX9_addSwap_40 : decode cX9_addSwap 40 = .ok (.getfield 31, 3) := by decide +kernel
theorem dX9_addSwap_43 : decode cX9_addSwap 43 = .ok (.iload 5, 2) := by decide +kernel
theorem dX9_addSwap_45 : decode cX9_addSwap 45 = .ok (.iaload, 1) := by decide +kernel
theorem dX9_addSwap_46 : decode cX9_addSwap 46 = .ok (.iconst (-1), 1) := by decide +kernel
theorem dX9_addSwap_47 : decode cX9_addSwap 47 = .ok (.if_icmp .ne 15, 3) := by decide +kernel
theorem dX9_addSwap_50 : decode cX9_addSwap 50 = .ok (.iconst 1, 1) := by decide +kernel
theorem dX9_addSwap_51 : decode cX9_addSwap 51 = .ok (.aload_n 0, 1) := by decide +kernel
theorem dX9_addSwap_52 : decode cX9_addSwap 52 = .ok (.getfield 28, 3) := by decide +kernel
theorem dX9_addSwap_55 : decode cX9_addSwap 55 = .ok (.iload 5, 2) := by decide +kernel
theorem dX9_addSwap_57 : decode cX9_addSwap 57 = .ok (.iaload, 1) := by decide +kernel
theorem dX9_addSwap_58 : decode cX9_addSwap 58 = .ok (.ishl, 1) := by decide +kernel
theorem dX9_addSwap_59 : decode cX9_addSwap 59 = .ok (.goto 22, 3) := by decide +kernel
theorem dX9_addSwap_62 : decode cX9_addSwap 62 = .ok (.iconst 1, 1) := by decide +kernel
theorem dX9_addSwap_63 : decode cX9_addSwap 63 = .ok (.aload_n 0, 1) := by decide +kernel
theorem dX9_addSwap_64 : decode cX9_addSwap 64 = .ok (.getfield 28, 3) := by decide +kernel
theorem dX9_addSwap_67 : decode cX9_addSwap 67 = .ok (.iload 5, 2) := by decide +kernel
theorem dX9_addSwap_69 : decode cX9_addSwap 69 = .ok (.iaload, 1) := by decide +kernel
theorem dX9_addSwap_70 : decode cX9_addSwap 70 = .ok (.ishl, 1) := by decide +kernel
theorem dX9_addSwap_71 : decode cX9_addSwap 71 = .ok (.iconst 1, 1) := by decide +kernel
theorem dX9_addSwap_72 : decode cX9_addSwap 72 = .ok (.aload_n 0, 1) := by decide +kernel
theorem dX9_addSwap_73 : decode cX9_addSwap 73 = .ok (.getfield 31, 3) := by decide +kernel
theorem dX9_addSwap_76 : decode cX9_addSwap 76 = .ok (.iload 5, 2) := by decide +kernel
theorem dX9_addSwap_78 : decode cX9_addSwap 78 = .ok (.iaload, 1) := by decide +kernel
theorem dX9_addSwap_79 : decode cX9_addSwap 79 = .ok (.ishl, 1) := by decide +kernel
theorem dX9_addSwap_80 : decode cX9_addSwap 80 = .ok (.ior, 1) := by decide +kernel
theorem dX9_addSwap_81 : decode cX9_addSwap 81 = .ok (.iastore, 1) := by decide +kernel
theorem dX9_addSwap_82 : decode cX9_addSwap 82 = .ok (.aload_n 0, 1) := by decide +kernel
theorem dX9_addSwap_83 : decode cX9_addSwap 83 = .ok (.getfield 21, 3) := by decide +kernel
theorem dX9_addSwap_86 : decode cX9_addSwap 86 = .ok (.aload_n 0, 1) := by decide +kernel
theorem dX9_addSwap_87 : decode cX9_addSwap 87 = .ok (.getfield 24, 3) := by decide +kernel
theorem dX9_addSwap_90 : decode cX9_addSwap 90 = .ok (.aload_n 1, 1) := by decide +kernel
theorem dX9_addSwap_91 : decode cX9_addSwap 91 = .ok (.iconst 5, 1) := by decide +kernel
theorem dX9_addSwap_92 : decode cX9_addSwap 92 = .ok (.iload_n 2, 1) := by decide +kernel
theorem dX9_addSwap_93 : decode cX9_addSwap 93 = .ok (.iadd, 1) := by decide +kernel
theorem dX9_addSwap_94 : decode cX9_addSwap 94 = .ok (.iload 4, 2) := by decide +kernel
theorem dX9_addSwap_96 : decode cX9_addSwap 96 = .ok (.invokevirtual 60, 3) := by decide +kernel
theorem dX9_addSwap_99 : decode cX9_addSwap 99 = .ok (.aload_n 0, 1) := by decide +kernel
theorem dX9_addSwap_100 : decode cX9_addSwap 100 = .ok (.getfield 37, 3) := by decide +kernel
theorem dX9_addSwap_103 : decode cX9_addSwap 103 = .ok (.iload 5, 2) := by decide +kernel
theorem dX9_addSwap_105 : decode cX9_addSwap 105 = .ok (.iaload, 1) := by decide +kernel
theorem dX9_addSwap_106 : decode cX9_addSwap 106 = .ok (.isub, 1) := by decide +kernel
theorem dX9_addSwap_107 : decode cX9_addSwap 107 = .ok (.iastore, 1) := by decide +kernel
theorem dX9_addSwap_108 : decode cX9_addSwap 108 = .ok (.aload_n 0, 1) := by decide +kernel
theorem dX9_addSwap_109 : decode cX9_addSwap 109 = .ok (.dup, 1) := by decide +kernel
theorem dX9_addSwap_110 : decode cX9_addSwap 110 = .ok (.getfield 24, 3) := by decide +kernel
theorem dX9_addSwap_113 : decode cX9_addSwap 113 = .ok (.iconst 1, 1) := by decide +kernel
theorem dX9_addSwap_114 : decode cX9_addSwap 114 = .ok (.iadd, 1) := by decide +kernel
theorem dX9_addSwap_115 : decode cX9_addSwap 115 = .ok (.putfield 24, 3) := by decide +kernel
theorem dX9_addSwap_118 : decode cX9_addSwap 118 = .ok (.return_, 1) := by decide +kernel
theorem wl_RX9_24 : Cond.fieldLink RX9 24 (TX9 4).1 (TX9 4).2.1 (TX9 4).2.2.1 ∈ TB := tbm 513 (by decide +kernel) (by decide +kernel)
theorem wl_RX9_11 : Cond.fieldLink RX9 11 (TX9 0).1 (TX9 0).2.1 (TX9 0).2.2.1 ∈ TB := tbm 498 (by decide +kernel) (by decide +kernel)
theorem wl_RX9_15 : Cond.fieldLink RX9 15 (TX9 1).1 (TX9 1).2.1 (TX9 1).2.2.1 ∈ TB := tbm 502 (by decide +kernel) (by decide +kernel)
theorem wl_RX9_18 : Cond.fieldLink RX9 18 (TX9 2).1 (TX9 2).2.1 (TX9 2).2.2.1 ∈ TB := tbm 506 (by decide +kernel) (by decide +kernel)
theorem wl_RX9_21 : Cond.fieldLink RX9 21 (TX9 3).1 (TX9 3).2.1 (TX9 3).2.2.1 ∈ TB := tbm 510 (by decide +kernel) (by decide +kernel)
def mX9_addSwap (t : Nat) (p1 : Nat) (p2 : Int32) (p3 : Int32) (p4 : Int32) (p5 : Int32) (σ : St_) : Option St_ :=
 (if (σ.1 t 4) < (100 : Int32) then
 (bnd (σ.1 t 4) fun v1 =>
 (if bin v1 100 = true then bnd (sI σ (t + 1) v1.toNatClampNeg p3) fun σ2 =>
 (bnd (σ2.1 t 4) fun v3 =>
 (if bin v3 100 = true then bnd (sI σ2 (t + 2) v3.toNatClampNeg p4) fun σ4 =>
 (if bin p5 55 = true then bnd (σ4.1 (t + 6) p5.toNatClampNeg) fun v5 =>
 (bnd (fun (j6 : Int32) => (bnd (σ4.1 t 4) fun v9 =>
 (if bin v9 100 = true then bnd (sI σ4 (t + 3) v9.toNatClampNeg j6) fun σ10 =>
 ((mX1_valueTo p1 ((5 : Int32) + p2) p4 σ10).bind fun r11 =>
 (if bin p5 55 = true then bnd (σ10.1 (t + 8) p5.toNatClampNeg) fun v12 =>
 (bnd (σ10.1 t 4) fun v13 =>
 (if bin v13 100 = true then bnd (sI σ10 (t + 4) v13.toNatClampNeg (r11 - v12)) fun σ14 =>
 (bnd (sI σ14 t 4 ((σ14.1 t 4) + (1 : Int32))) fun σ15 =>
 (some σ15))
 else none))
 else none))
 else none))) fun k7 =>
 (if v5 = (-1 : Int32) then
 (if bin p5 55 = true then bnd (σ4.1 (t + 5) p5.toNatClampNeg) fun v16 =>
 (k7 ((1 : Int32) <<< (v16 &&& 31)))
 else none)
 else (if bin p5 55 = true then bnd (σ4.1 (t + 5) p5.toNatClampNeg) fun v17 =>
 (if bin p5 55 = true then bnd (σ4.1 (t + 6) p5.toNatClampNeg) fun v18 =>
 (k7 (((1 : Int32) <<< (v17 &&& 31)) ||| ((1 : Int32) <<< (v18 &&& 31))))
 else none)
 else none)))
 else none)
 else none))
 else none))
 else (some σ))
set_option maxHeartbeats 4000000 in
theorem rX9_addSwap (t : Nat) (p1 : Nat) (p2 : Int32) (p3 : Int32) (p4 : Int32) (p5 : Int32) (hT : LY9 sh P t) (hp1 : LY1 sh P p1) : Rj l D cA h0 ad yX9_addSwap cX9_addSwap 6 none false 3 0 0 (fun b => (none, sh, P, b)) [.ref (h0 + t), .ref (h0 + p1), .int p2, .int p3, .int p4, .int p5] sh P σ (mX9_addSwap t p1 p2 p3 p4 p5 σ) := by
  rw [mX9_addSwap]
  refine Rj.of (by decide) (fun h => by cases h) (Nat.le_of_ble_eq_true rfl) ?_
  refine tj_lv0 (lv' := [(0, .ref (h0 + t)), (1, .ref (h0 + p1)), (2, .int p2), (3, .int p3), (4, .int p4), (5, .int p5)]) rfl ?_
  refine tj_aload_n (q := 1) dX9_addSwap_0 rfl (i := 0) rfl (pl := 0) rfl ?_
  refine tj_getI (q := 4) (hT).s fok_9_4 wl_RX9_24 dX9_addSwap_1 rfl ?_
  refine tj_bipush (q := 6) (v := 100) dX9_addSwap_4 rfl (by decide) ?_
  refine tj_icmp_lt (tgt := 10) (q := 9) dX9_addSwap_6 (by decide) rfl ?_ ?_
  · refine tj_aload_n (q := 11) dX9_addSwap_10 rfl (i := 0) rfl (pl := 0) rfl ?_
    refine tj_getR (q := 14) (hT).s (hT).p_house fok_9_0 wl_RX9_11 dX9_addSwap_11 rfl ?_
    refine tj_aload_n (q := 15) dX9_addSwap_14 rfl (i := 0) rfl (pl := 0) rfl ?_
    refine tj_getI (q := 18) (hT).s fok_9_4 wl_RX9_24 dX9_addSwap_15 rfl ?_
    refine tj_iload_n (q := 19) dX9_addSwap_18 rfl (i := 3) rfl (pl := 3) rfl ?_
    refine tj_sndI (fun v1 => ?_)
    refine tj_iastore (q := 20) (hT).s_house dX9_addSwap_19 rfl (fun σ2 => ?_)
    refine tj_aload_n (q := 21) dX9_addSwap_20 rfl (i := 0) rfl (pl := 0) rfl ?_
    refine tj_getR (q := 24) (hT).s (hT).p_thing fok_9_1 wl_RX9_15 dX9_addSwap_21 rfl ?_
    refine tj_aload_n (q := 25) dX9_addSwap_24 rfl (i := 0) rfl (pl := 0) rfl ?_
    refine tj_getI (q := 28) (hT).s fok_9_4 wl_RX9_24 dX9_addSwap_25 rfl ?_
    refine tj_iload (q := 30) dX9_addSwap_28 rfl (pl := 4) rfl ?_
    refine tj_sndI (fun v3 => ?_)
    refine tj_iastore (q := 31) (hT).s_thing dX9_addSwap_30 rfl (fun σ4 => ?_)
    refine tj_aload_n (q := 32) dX9_addSwap_31 rfl (i := 0) rfl (pl := 0) rfl ?_
    refine tj_getR (q := 35) (hT).s (hT).p_left fok_9_2 wl_RX9_18 dX9_addSwap_32 rfl ?_
    refine tj_aload_n (q := 36) dX9_addSwap_35 rfl (i := 0) rfl (pl := 0) rfl ?_
    refine tj_getI (q := 39) (hT).s fok_9_4 wl_RX9_24 dX9_addSwap_36 rfl ?_
    refine tj_aload_n (q := 40) dX9_addSwap_39 rfl (i := 0) rfl (pl := 0) rfl ?_
    refine tj_getR (q := 43) (hT).s (hT).p_low fok_9_6 wl_RX9_31 dX9_addSwap_40 rfl ?_
    refine tj_iload (q := 45) dX9_addSwap_43 rfl (pl := 5) rfl ?_
    refine tj_iaload (q := 46) (hT).s_low dX9_addSwap_45 rfl ?_
    refine tj_topI (fun v5 => ?_)
    refine tj_iconst (q := 47) (v := (-1)) dX9_addSwap_46 rfl (by decide) ?_
    refine tj_bnd (fun k7 => ∀ (j6 : Int32), Tj l D cA h0 ad RX9 cX9_addSwap 6 none false 3 0 0 (fun b => (none, sh, P, b)) 0 0 sh P σ4 81 [(0, .ref (h0 + t)), (1, .ref (h0 + p1)), (2, .int p2), (4, .int p4), (5, .int p5)] [.int j6, .int (σ4.1 t 4), .ref (h0 + (t + 3))] (k7 j6)) ?_ (fun k7 hk8 => ?_)
    · intro j6
      refine tj_sndI (fun v9 => ?_)
      refine tj_iastore (q := 82) (hT).s_left dX9_addSwap_81 rfl (fun σ10 => ?_)
      refine tj_aload_n (q := 83) dX9_addSwap_82 rfl (i := 0) rfl (pl := 0) rfl ?_
      refine tj_getR (q := 86) (hT).s (hT).p_gain fok_9_3 wl_RX9_21 dX9_addSwap_83 rfl ?_
      refine tj_aload_n (q := 87) dX9_addSwap_86 rfl (i := 0) rfl (pl := 0) rfl ?_
      refine tj_getI (q := 90) (hT).s fok_9_4 wl_RX9_24 dX9_addSwap_87 rfl ?_
      refine tj_aload_n (q := 91) dX9_addSwap_90 rfl (i := 1) rfl (pl := 1) rfl ?_
      refine tj_iconst (q := 92) (v := 5) dX9_addSwap_91 rfl (by decide) ?_
      refine tj_iload_n (q := 93) dX9_addSwap_92 rfl (i := 2) rfl (pl := 2) rfl ?_
      refine tj_iadd (q := 94) dX9_addSwap_93 rfl ?_
      refine tj_iload (q := 96) dX9_addSwap_94 rfl (pl := 3) rfl ?_
      refine tj_callIp (q := 99) (kj_V (As := [.int ((5 : Int32) + p2), .int p4]) (rest := [.int (σ10.1 t 4), .ref (h0 + (t + 4))]) (t := p1) wi_RX9_60 (hp1).s rfl (rX1_valueTo p1 ((5 : Int32) + p2) p4 (hp1)) rfl (Nat.le_of_ble_eq_true rfl) ⟨Nat.le_of_ble_eq_true rfl, Nat.le_of_ble_eq_true rfl⟩ (Nat.le_of_ble_eq_true rfl) dX9_addSwap_96) rfl (fun r11 => ?_)
      refine tj_aload_n (q := 100) dX9_addSwap_99 rfl (i := 0) rfl (pl := 0) rfl ?_
      refine tj_getR (q := 103) (hT).s (hT).p_setValue fok_9_8 wl_RX9_37 dX9_addSwap_100 rfl ?_
      refine tj_iload (q := 105) dX9_addSwap_103 rfl (pl := 4) rfl ?_
      refine tj_iaload (q := 106) (hT).s_setValue dX9_addSwap_105 rfl ?_
      refine tj_topI (fun v12 => ?_)
      refine tj_isub (q := 107) dX9_addSwap_106 rfl ?_
      refine tj_sndI (fun v13 => ?_)
      refine tj_iastore (q := 108) (hT).s_gain dX9_addSwap_107 rfl (fun σ14 => ?_)
      refine tj_aload_n (q := 109) dX9_addSwap_108 rfl (i := 0) rfl (pl := 0) rfl ?_
      refine tj_dup (q := 110) dX9_addSwap_109 rfl rfl ?_
      refine tj_getI (q := 113) (hT).s fok_9_4 wl_RX9_24 dX9_addSwap_110 rfl ?_
      refine tj_iconst (q := 114) (v := 1) dX9_addSwap_113 rfl (by decide) ?_
      refine tj_iadd (q := 115) dX9_addSwap_114 rfl ?_
      refine tj_putI (q := 118) (hT).s fok_9_4 tok_9 fpk_9_4 wl_RX9_24 dX9_addSwap_115 rfl (fun σ15 => ?_)
      exact tj_vret rfl rfl (Nat.le_of_ble_eq_true rfl) (Nat.le_of_ble_eq_true rfl) dX9_addSwap_118
    · refine tj_icmp_ne (tgt := 62) (q := 50) dX9_addSwap_47 (by decide) rfl ?_ ?_
      · refine tj_iconst (q := 51) (v := 1) dX9_addSwap_50 rfl (by decide) ?_
        refine tj_aload_n (q := 52) dX9_addSwap_51 rfl (i := 0) rfl (pl := 0) rfl ?_
        refine tj_getR (q := 55) (hT).s (hT).p_high fok_9_5 wl_RX9_28 dX9_addSwap_52 rfl ?_
        refine tj_iload (q := 57) dX9_addSwap_55 rfl (pl := 5) rfl ?_
        refine tj_iaload (q := 58) (hT).s_high dX9_addSwap_57 rfl ?_
        refine tj_topI (fun v16 => ?_)
        refine tj_ishl (q := 59) dX9_addSwap_58 rfl ?_
        refine tj_goto (q := 81) dX9_addSwap_59 (by decide) ?_
        refine tj_lv [0, 1, 2, 4, 5] rfl ?_
        exact hk8 ((1 : Int32) <<< (v16 &&& 31))
      · refine tj_iconst (q := 63) (v := 1) dX9_addSwap_62 rfl (by decide) ?_
        refine tj_aload_n (q := 64) dX9_addSwap_63 rfl (i := 0) rfl (pl := 0) rfl ?_
        refine tj_getR (q := 67) (hT).s (hT).p_high fok_9_5 wl_RX9_28 dX9_addSwap_64 rfl ?_
        refine tj_iload (q := 69) dX9_addSwap_67 rfl (pl := 5) rfl ?_
        refine tj_iaload (q := 70) (hT).s_high dX9_addSwap_69 rfl ?_
        refine tj_topI (fun v17 => ?_)
        refine tj_ishl (q := 71) dX9_addSwap_70 rfl ?_
        refine tj_iconst (q := 72) (v := 1) dX9_addSwap_71 rfl (by decide) ?_
        refine tj_aload_n (q := 73) dX9_addSwap_72 rfl (i := 0) rfl (pl := 0) rfl ?_
        refine tj_getR (q := 76) (hT).s (hT).p_low fok_9_6 wl_RX9_31 dX9_addSwap_73 rfl ?_
        refine tj_iload (q := 78) dX9_addSwap_76 rfl (pl := 5) rfl ?_
        refine tj_iaload (q := 79) (hT).s_low dX9_addSwap_78 rfl ?_
        refine tj_topI (fun v18 => ?_)
        refine tj_ishl (q := 80) dX9_addSwap_79 rfl ?_
        refine tj_ior (q := 81) dX9_addSwap_80 rfl ?_
        refine tj_lv [0, 1, 2, 4, 5] rfl ?_
        exact hk8 (((1 : Int32) <<< (v17 &&& 31)) ||| ((1 : Int32) <<< (v18 &&& 31)))
  · exact tj_vret rfl rfl (Nat.le_of_ble_eq_true rfl) (Nat.le_of_ble_eq_true rfl) dX9_addSwap_9

theorem dX9_gatherFor_0 : decode cX9_gatherFor 0 = .ok (.iconst 0, 1) := by decide +kernel
theorem dX9_gatherFor_1 : decode cX9_gatherFor 1 = .ok (.istore 7, 2) := by decide +kernel
theorem dX9_gatherFor_3 : decode cX9_gatherFor 3 = .ok (.iload 7, 2) := by decide +kernel
theorem dX9_gatherFor_5 : decode cX9_gatherFor 5 = .ok (.aload_n 0, 1) := by decide +kernel
theorem dX9_gatherFor_6 : decode cX9_gatherFor 6 = .ok (.getfield 40, 3) := by decide +kernel
theorem dX9_gatherFor_9 : decode cX9_gatherFor 9 = .ok (.if_icmp .ge 105, 3) := by decide +kernel
theorem dX9_gatherFor_12 : decode cX9_gatherFor 12 = .ok (.aload_n 0, 1) := by decide +kernel
theorem dX9_gatherFor_13 : decode cX9_gatherFor 13 = .ok (.getfield 31, 3) := by decide +kernel
theorem dX9_gatherFor_16 : decode cX9_gatherFor 16 = .ok (.iload 7, 2) := by decide +kernel
theorem dX9_gatherFor_18 : decode cX9_gatherFor 18 = .ok (.iaload, 1) := by decide +kernel
theorem dX9_gatherFor_19 : decode cX9_gatherFor 19 = .ok (.iconst (-1), 1) := by decide +kernel
theorem dX9_gatherFor_20 : decode cX9_gatherFor 20 = .ok (.if_icmp .ne 7, 3) := by decide +kernel
theorem dX9_gatherFor_23 : decode cX9_gatherFor 23 = .ok (.iconst 2, 1) := by decide +kernel
theorem dX9_gatherFor_24 : decode cX9_gatherFor 24 = .ok (.goto 4, 3) := by decide +kernel
theorem dX9_gatherFor_27 : decode cX9_gatherFor 27 = .ok (.iconst 3, 1) := by decide +kernel
theorem dX9_gatherFor_28 : decode cX9_gatherFor 28 = .ok (.istore 8, 2) := by decide +kernel
theorem dX9_gatherFor_30 : decode cX9_gatherFor 30 = .ok (.aload_n 1, 1) := by decide +kernel
theorem dX9_gatherFor_31 : decode cX9_gatherFor 31 = .ok (.getfield 57, 3) := by decide +kernel
theorem dX9_gatherFor_34 : decode cX9_gatherFor 34 = .ok (.iload 5, 2) := by decide +kernel
theorem dX9_gatherFor_36 : decode cX9_gatherFor 36 = .ok (.iaload, 1) := by decide +kernel
theorem dX9_gatherFor_37 : decode cX9_gatherFor 37 = .ok (.aload_n 0, 1) := by decide +kernel
theorem dX9_gatherFor_38 : decode cX9_gatherFor 38 = .ok (.getfield 34, 3) := by decide +kernel
theorem dX9_gatherFor_41 : decode cX9_gatherFor 41 = .ok (.iload 7, 2) := by decide +kernel
theorem dX9_gatherFor_43 : decode cX9_gatherFor 43 = .ok (.iaload, 1) := by decide +kernel
theorem dX9_gatherFor_44 : decode cX9_gatherFor 44 = .ok (.isub, 1) := by decide +kernel
theorem dX9_gatherFor_45 : decode cX9_gatherFor 45 = .ok (.iload 6, 2) := by decide +kernel
theorem dX9_gatherFor_47 : decode cX9_gatherFor 47 = .ok (.if_icmp .gt 61, 3) := by decide +kernel
theorem dX9_gatherFor_50 : decode cX9_gatherFor 50 = .ok (.aload_n 1, 1) := by decide +kernel
theorem dX9_gatherFor_51 : decode cX9_gatherFor 51 = .ok (.iload_n 3, 1) := by decide +kernel
theorem dX9_gatherFor_52 : decode cX9_gatherFor 52 = .ok (.iload 4, 2) := by decide +kernel
theorem dX9_gatherFor_54 : decode cX9_gatherFor 54 = .ok (.iload 8, 2) := by decide +kernel
theorem dX9_gatherFor_56 : decode cX9_gatherFor 56 = .ok (.invokevirtual 92, 3) := by decide +kernel
theorem dX9_gatherFor_59 : decode cX9_gatherFor 59 = .ok (.bipush 15, 2) := by decide +kernel
theorem dX9_gatherFor_61 : decode cX9_gatherFor 61 = .ok (.if_icmp .gt 47, 3) := by decide +kernel
theorem dX9_gatherFor_64 : decode cX9_gatherFor 64 = .ok (.aload_n 1, 1) := by decide +kernel
theorem dX9_gatherFor_65 : decode cX9_gatherFor 65 = .ok (.iload 4, 2) := by decide +kernel
theorem dX9_gatherFor_67 : decode cX9_gatherFor 67 = .ok (.iload 5, 2) := by decide +kernel
theorem dX9_gatherFor_69 : decode cX9_gatherFor 69 = .ok (.aload_n 0, 1) := by decide +kernel
theorem dX9_gatherFor_70 : decode cX9_gatherFor 70 = .ok (.getfield 28, 3) := by decide +kernel
theorem dX9_gatherFor_73 : decode cX9_gatherFor 73 = .ok (.iload 7, 2) := by decide +kernel
theorem dX9_gatherFor_75 : decode cX9_gatherFor 75 = .ok (.iaload, 1) := by decide +kernel
theorem dX9_gatherFor_76 : decode cX9_gatherFor 76 = .ok (.aload_n 0, 1) := by decide +kernel
theorem dX9_gatherFor_77 : decode cX9_gatherFor 77 = .ok (.getfield 31, 3) := by decide +kernel
theorem dX9_gatherFor_80 : decode cX9_gatherFor 80 = .ok (.iload 7, 2) := by decide +kernel
theorem dX9_gatherFor_82 : decode cX9_gatherFor 82 = .ok (.iaload, 1) := by decide +kernel
theorem dX9_gatherFor_83 : decode cX9_gatherFor 83 = .ok (.iload_n 2, 1) := by decide +kernel
theorem dX9_gatherFor_84 : decode cX9_gatherFor 84 = .ok (.aload_n 1, 1) := by decide +kernel
theorem dX9_gatherFor_85 : decode cX9_gatherFor 85 = .ok (.getfield 96, 3) := by decide +kernel
theorem dX9_gatherFor_88 : decode cX9_gatherFor 88 = .ok (.iload_n 3, 1) := by decide +kernel
theorem dX9_gatherFor_89 : decode cX9_gatherFor 89 = .ok (.iaload, 1) := by decide +kernel
theorem dX9_gatherFor_90 : decode cX9_gatherFor 90 = .ok (.invokevirtual 99, 3) := by decide +kernel
theorem dX9_gatherFor_93 : decode cX9_gatherFor 93 = .ok (.ifCond .eq 15, 3) := by decide +kernel
theorem dX9_gatherFor_96 : decode cX9_gatherFor 96 = .ok (.aload_n 0, 1) := by decide +kernel
theorem dX9_gatherFor_97 : decode cX9_gatherFor 97 = .ok (.aload_n 1, 1) := by decide +kernel
theorem dX9_gatherFor_98 : decode cX9_gatherFor 98 = .ok (.iload_n 3, 1) := by decide +kernel
theorem dX9_gatherFor_99 : decode cX9_gatherFor 99 = .ok (.iload 4, 2) := by decide +kernel
theorem dX9_gatherFor_101 : decode cX9_gatherFor 101 = .ok (.iload 5, 2) := by decide +kernel
theorem dX9_gatherFor_103 : decode cX9_gatherFor 103 = .ok (.iload 7, 2) := by decide +kernel
theorem dX9_gatherFor_105 : decode cX9_gatherFor 105 = .ok (.invokevirtual 103, 3) := by decide +kernel
theorem dX9_gatherFor_108 : decode cX9_gatherFor 108 = .ok (.iinc 7 1, 3) := by decide +kernel
theorem dX9_gatherFor_111 : decode cX9_gatherFor 111 = .ok (.goto (-108), 3) := by decide +kernel
theorem dX9_gatherFor_114 : decode cX9_gatherFor 114 = .ok (.return_, 1) := by decide +kernel
theorem wi_RX9_92 : Iv RX9 92 yX1_minutesOf cX1_minutesOf 4 (some .int) 3 := ⟨tbm 1181 (by decide +kernel) (by decide +kernel), wm_X1_minutesOf⟩
theorem wl_RX9_96 : Cond.fieldLink RX9 96 (TX1 11).1 (TX1 11).2.1 (TX1 11).2.2.1 ∈ TB := tbm 328 (by decide +kernel) (by decide +kernel)
theorem wm_X1_isLawfulFor : Cond.instanceMethod yX1_isLawfulFor ∈ TB ∧ Cond.selects yX1_isLawfulFor.cls yX1_isLawfulFor yX1_isLawfulFor ∈ TB ∧ Cond.initialized yX1_isLawfulFor.cls ∈ TB ∧ Cond.code yX1_isLawfulFor cX1_isLawfulFor 11 (some .boolean) ∈ TB ∧ (yX1_isLawfulFor.cls ≠ "java/lang/invoke/MethodHandle" ∧ yX1_isLawfulFor.cls ≠ "java/lang/invoke/VarHandle" ∧ (parseMethodDescriptor yX1_isLawfulFor.desc).map (fun d => d.parameters.length) = some 6) ∧ 11 ≤ 21 := ⟨tbm 1183 (by decide +kernel) (by decide +kernel), tbm 1184 (by decide +kernel) (by decide +kernel), tbm 138 (by decide +kernel) (by decide +kernel), tbm 1185 (by decide +kernel) (by decide +kernel), by decide +kernel, by decide⟩
theorem wi_RX9_99 : Iv RX9 99 yX1_isLawfulFor cX1_isLawfulFor 11 (some .boolean) 6 := ⟨tbm 1182 (by decide +kernel) (by decide +kernel), wm_X1_isLawfulFor⟩
theorem wm_X9_addSwap : Cond.instanceMethod yX9_addSwap ∈ TB ∧ Cond.selects yX9_addSwap.cls yX9_addSwap yX9_addSwap ∈ TB ∧ Cond.initialized yX9_addSwap.cls ∈ TB ∧ Cond.code yX9_addSwap cX9_addSwap 6 none ∈ TB ∧ (yX9_addSwap.cls ≠ "java/lang/invoke/MethodHandle" ∧ yX9_addSwap.cls ≠ "java/lang/invoke/VarHandle" ∧ (parseMethodDescriptor yX9_addSwap.desc).map (fun d => d.parameters.length) = some 5) ∧ 6 ≤ 21 := ⟨tbm 1188 (by decide +kernel) (by decide +kernel), tbm 39 (by decide +kernel) (by decide +kernel), tbm 143 (by decide +kernel) (by decide +kernel), tbm 1189 (by decide +kernel) (by decide +kernel), by decide +kernel, by decide⟩
theorem wi_RX9_103 : Iv RX9 103 yX9_addSwap cX9_addSwap 6 none 5 := ⟨tbm 1186 (by decide +kernel) (by decide +kernel), wm_X9_addSwap⟩
def mX9_gatherFor_L3 (t : Nat) (p1 : Nat) (x2 : Int32) (x3 : Int32) (x4 : Int32) (x5 : Int32) (x6 : Int32) : Nat → Int32 → St_ → Option St_
  | 0, _, _ => none
  | n + 1, x7, σ => (if (σ.1 t 9) ≤ x7 then
 (some σ)
 else (if bin x7 55 = true then bnd (σ.1 (t + 6) x7.toNatClampNeg) fun v1 =>
 (bnd (fun (j2 : Int32) => (if bin x5 10 = true then bnd (σ.1 (p1 + 2) x5.toNatClampNeg) fun v5 =>
 (if bin x7 55 = true then bnd (σ.1 (t + 7) x7.toNatClampNeg) fun v6 =>
 (bnd (fun (σ7 : St_) => (mX9_gatherFor_L3 t p1 x2 x3 x4 x5 x6 n (x7 + 1) σ7)) fun k8 =>
 (if x6 < (v5 - v6) then
 (k8 σ)
 else ((mX1_minutesOf p1 x3 x4 j2 σ).bind fun r10 =>
 (if (15 : Int32) < r10 then
 (k8 σ)
 else (if bin x7 55 = true then bnd (σ.1 (t + 5) x7.toNatClampNeg) fun v11 =>
 (if bin x7 55 = true then bnd (σ.1 (t + 6) x7.toNatClampNeg) fun v12 =>
 (if bin x3 4 = true then bnd (σ.1 (p1 + 7) x3.toNatClampNeg) fun v13 =>
 ((mX1_isLawfulFor p1 x4 x5 v11 v12 x2 v13 σ).bind fun r14 =>
 (if r14.1 = true then
 ((mX9_addSwap t p1 x3 x4 x5 x7 r14.2).bind fun σ15 =>
 (k8 σ15))
 else (k8 r14.2)))
 else none)
 else none)
 else none)))))
 else none)
 else none)) fun k3 =>
 (if v1 = (-1 : Int32) then
 (k3 (2 : Int32))
 else (k3 (3 : Int32))))
 else none))
def mX9_gatherFor (t : Nat) (p1 : Nat) (p2 : Int32) (p3 : Int32) (p4 : Int32) (p5 : Int32) (p6 : Int32) (σ : St_) : Option St_ :=
 (mX9_gatherFor_L3 t p1 p2 p3 p4 p5 p6 FU (0 : Int32) σ)
set_option maxHeartbeats 4000000 in
theorem tmX9_gatherFor_L3 (t : Nat) (p1 : Nat) (hT : LY9 sh P t) (hp1 : LY1 sh P p1) (x2 : Int32) (x3 : Int32) (x4 : Int32) (x5 : Int32) (x6 : Int32) : ∀ (n : Nat) (x7 : Int32) (σ : St_), Tj l D cA h0 ad RX9 cX9_gatherFor 9 none false 5 0 0 (fun b => (none, sh, P, b)) 0 0 sh P σ 3 [(0, .ref (h0 + t)), (1, .ref (h0 + p1)), (2, .int x2), (3, .int x3), (4, .int x4), (5, .int x5), (6, .int x6), (7, .int x7)] [] (mX9_gatherFor_L3 t p1 x2 x3 x4 x5 x6 n x7 σ) := by
  intro n
  induction n with
  | zero => intros; exact tj_none
  | succ n ih =>
    intro x7 σ
    rw [mX9_gatherFor_L3]
    refine tj_iload (q := 5) dX9_gatherFor_3 rfl (pl := 7) rfl ?_
    refine tj_aload_n (q := 6) dX9_gatherFor_5 rfl (i := 0) rfl (pl := 0) rfl ?_
    refine tj_getI (q := 9) (hT).s fok_9_9 wl_RX9_40 dX9_gatherFor_6 rfl ?_
    refine tj_icmp_ge (tgt := 114) (q := 12) dX9_gatherFor_9 (by decide) rfl ?_ ?_
    · exact tj_vret rfl rfl (Nat.le_of_ble_eq_true rfl) (Nat.le_of_ble_eq_true rfl) dX9_gatherFor_114
    · refine tj_aload_n (q := 13) dX9_gatherFor_12 rfl (i := 0) rfl (pl := 0) rfl ?_
      refine tj_getR (q := 16) (hT).s (hT).p_low fok_9_6 wl_RX9_31 dX9_gatherFor_13 rfl ?_
      refine tj_iload (q := 18) dX9_gatherFor_16 rfl (pl := 7) rfl ?_
      refine tj_iaload (q := 19) (hT).s_low dX9_gatherFor_18 rfl ?_
      refine tj_topI (fun v1 => ?_)
      refine tj_iconst (q := 20) (v := (-1)) dX9_gatherFor_19 rfl (by decide) ?_
      refine tj_bnd (fun k3 => ∀ (j2 : Int32), Tj l D cA h0 ad RX9 cX9_gatherFor 9 none false 5 0 0 (fun b => (none, sh, P, b)) 0 0 sh P σ 28 [(0, .ref (h0 + t)), (1, .ref (h0 + p1)), (2, .int x2), (3, .int x3), (4, .int x4), (5, .int x5), (6, .int x6), (7, .int x7)] [.int j2] (k3 j2)) ?_ (fun k3 hk4 => ?_)
      · intro j2
        refine tj_istore (q := 30) dX9_gatherFor_28 rfl (by decide) rfl ?_
        refine tj_aload_n (q := 31) dX9_gatherFor_30 rfl (i := 1) rfl (pl := 2) rfl ?_
        refine tj_getR (q := 34) (hp1).s (hp1).p_weight fok_1_6 wl_RX9_57 dX9_gatherFor_31 rfl ?_
        refine tj_iload (q := 36) dX9_gatherFor_34 rfl (pl := 6) rfl ?_
        refine tj_iaload (q := 37) (hp1).s_weight dX9_gatherFor_36 rfl ?_
        refine tj_topI (fun v5 => ?_)
        refine tj_aload_n (q := 38) dX9_gatherFor_37 rfl (i := 0) rfl (pl := 1) rfl ?_
        refine tj_getR (q := 41) (hT).s (hT).p_setWeight fok_9_7 wl_RX9_34 dX9_gatherFor_38 rfl ?_
        refine tj_iload (q := 43) dX9_gatherFor_41 rfl (pl := 8) rfl ?_
        refine tj_iaload (q := 44) (hT).s_setWeight dX9_gatherFor_43 rfl ?_
        refine tj_topI (fun v6 => ?_)
        refine tj_isub (q := 45) dX9_gatherFor_44 rfl ?_
        refine tj_iload (q := 47) dX9_gatherFor_45 rfl (pl := 7) rfl ?_
        refine tj_bnd (fun k8 => ∀ (σ7 : St_), Tj l D cA h0 ad RX9 cX9_gatherFor 9 none false 5 0 0 (fun b => (none, sh, P, b)) 0 0 sh P σ7 108 [(0, .ref (h0 + t)), (1, .ref (h0 + p1)), (2, .int x2), (3, .int x3), (4, .int x4), (5, .int x5), (6, .int x6), (7, .int x7)] [] (k8 σ7)) ?_ (fun k8 hk9 => ?_)
        · intro σ7
          refine tj_iinc (q := 111) (v := x7 + 1) dX9_gatherFor_108 rfl (pl := 7) rfl rfl (by decide) rfl ?_
          refine tj_goto (q := 3) dX9_gatherFor_111 (by decide) ?_
          refine tj_lv [1, 2, 3, 4, 5, 6, 7, 0] rfl ?_
          exact ih (x7 + 1) σ7
        · refine tj_icmp_gt (tgt := 108) (q := 50) dX9_gatherFor_47 (by decide) rfl ?_ ?_
          · refine tj_lv [1, 2, 3, 4, 5, 6, 7, 8] rfl ?_
            exact hk9 σ
          · refine tj_aload_n (q := 51) dX9_gatherFor_50 rfl (i := 1) rfl (pl := 2) rfl ?_
            refine tj_iload_n (q := 52) dX9_gatherFor_51 rfl (i := 3) rfl (pl := 4) rfl ?_
            refine tj_iload (q := 54) dX9_gatherFor_52 rfl (pl := 5) rfl ?_
            refine tj_iload (q := 56) dX9_gatherFor_54 rfl (pl := 0) rfl ?_
            refine tj_callIp (q := 59) (kj_V (As := [.int x3, .int x4, .int j2]) (rest := []) (t := p1) wi_RX9_92 (hp1).s rfl (rX1_minutesOf p1 x3 x4 j2 (hp1)) rfl (Nat.le_of_ble_eq_true rfl) ⟨Nat.le_of_ble_eq_true rfl, Nat.le_of_ble_eq_true rfl⟩ (Nat.le_of_ble_eq_true rfl) dX9_gatherFor_56) rfl (fun r10 => ?_)
            refine tj_bipush (q := 61) (v := 15) dX9_gatherFor_59 rfl (by decide) ?_
            refine tj_icmp_gt (tgt := 108) (q := 64) dX9_gatherFor_61 (by decide) rfl ?_ ?_
            · refine tj_lv [1, 2, 3, 4, 5, 6, 7, 8] rfl ?_
              exact hk9 σ
            · refine tj_aload_n (q := 65) dX9_gatherFor_64 rfl (i := 1) rfl (pl := 2) rfl ?_
              refine tj_iload (q := 67) dX9_gatherFor_65 rfl (pl := 5) rfl ?_
              refine tj_iload (q := 69) dX9_gatherFor_67 rfl (pl := 6) rfl ?_
              refine tj_aload_n (q := 70) dX9_gatherFor_69 rfl (i := 0) rfl (pl := 1) rfl ?_
              refine tj_getR (q := 73) (hT).s (hT).p_high fok_9_5 wl_RX9_28 dX9_gatherFor_70 rfl ?_
              refine tj_iload (q := 75) dX9_gatherFor_73 rfl (pl := 8) rfl ?_
              refine tj_iaload (q := 76) (hT).s_high dX9_gatherFor_75 rfl ?_
              refine tj_topI (fun v11 => ?_)
              refine tj_aload_n (q := 77) dX9_gatherFor_76 rfl (i := 0) rfl (pl := 1) rfl ?_
              refine tj_getR (q := 80) (hT).s (hT).p_low fok_9_6 wl_RX9_31 dX9_gatherFor_77 rfl ?_
              refine tj_iload (q := 82) dX9_gatherFor_80 rfl (pl := 8) rfl ?_
              refine tj_iaload (q := 83) (hT).s_low dX9_gatherFor_82 rfl ?_
              refine tj_topI (fun v12 => ?_)
              refine tj_iload_n (q := 84) dX9_gatherFor_83 rfl (i := 2) rfl (pl := 3) rfl ?_
              refine tj_aload_n (q := 85) dX9_gatherFor_84 rfl (i := 1) rfl (pl := 2) rfl ?_
              refine tj_getR (q := 88) (hp1).s (hp1).p_skill fok_1_11 wl_RX9_96 dX9_gatherFor_85 rfl ?_
              refine tj_iload_n (q := 89) dX9_gatherFor_88 rfl (i := 3) rfl (pl := 4) rfl ?_
              refine tj_iaload (q := 90) (hp1).s_skill dX9_gatherFor_89 rfl ?_
              refine tj_topI (fun v13 => ?_)
              refine tj_callZ (q := 93) (kj_V (As := [.int x4, .int x5, .int v11, .int v12, .int x2, .int v13]) (rest := []) (t := p1) wi_RX9_99 (hp1).s rfl (rX1_isLawfulFor p1 x4 x5 v11 v12 x2 v13 (hp1)) rfl (Nat.le_of_ble_eq_true rfl) ⟨Nat.le_of_ble_eq_true rfl, Nat.le_of_ble_eq_true rfl⟩ (Nat.le_of_ble_eq_true rfl) dX9_gatherFor_90) rfl (fun r14 => ?_)
              refine tj_bz (tgt := 108) (q := 96) dX9_gatherFor_93 (by decide) rfl ?_ ?_
              · refine tj_aload_n (q := 97) dX9_gatherFor_96 rfl (i := 0) rfl (pl := 1) rfl ?_
                refine tj_aload_n (q := 98) dX9_gatherFor_97 rfl (i := 1) rfl (pl := 2) rfl ?_
                refine tj_iload_n (q := 99) dX9_gatherFor_98 rfl (i := 3) rfl (pl := 4) rfl ?_
                refine tj_iload (q := 101) dX9_gatherFor_99 rfl (pl := 5) rfl ?_
                refine tj_iload (q := 103) dX9_gatherFor_101 rfl (pl := 6) rfl ?_
                refine tj_iload (q := 105) dX9_gatherFor_103 rfl (pl := 8) rfl ?_
                refine tj_callV (q := 108) (kj_V (As := [.ref (h0 + p1), .int x3, .int x4, .int x5, .int x7]) (rest := []) (t := t) wi_RX9_103 (hT).s rfl (rX9_addSwap t p1 x3 x4 x5 x7 (hT) (hp1)) rfl (Nat.le_of_ble_eq_true rfl) ⟨Nat.le_of_ble_eq_true rfl, Nat.le_of_ble_eq_true rfl⟩ (Nat.le_of_ble_eq_true rfl) dX9_gatherFor_105) rfl (fun σ15 => ?_)
                refine tj_lv [1, 2, 3, 4, 5, 6, 7, 8] rfl ?_
                exact hk9 σ15
              · refine tj_lv [1, 2, 3, 4, 5, 6, 7, 8] rfl ?_
                exact hk9 r14.2
      · refine tj_icmp_ne (tgt := 27) (q := 23) dX9_gatherFor_20 (by decide) rfl ?_ ?_
        · refine tj_iconst (q := 24) (v := 2) dX9_gatherFor_23 rfl (by decide) ?_
          refine tj_goto (q := 28) dX9_gatherFor_24 (by decide) ?_
          exact hk4 (2 : Int32)
        · refine tj_iconst (q := 28) (v := 3) dX9_gatherFor_27 rfl (by decide) ?_
          exact hk4 (3 : Int32)

set_option maxHeartbeats 4000000 in
theorem rX9_gatherFor (t : Nat) (p1 : Nat) (p2 : Int32) (p3 : Int32) (p4 : Int32) (p5 : Int32) (p6 : Int32) (hT : LY9 sh P t) (hp1 : LY1 sh P p1) : Rj l D cA h0 ad yX9_gatherFor cX9_gatherFor 9 none false 5 0 0 (fun b => (none, sh, P, b)) [.ref (h0 + t), .ref (h0 + p1), .int p2, .int p3, .int p4, .int p5, .int p6] sh P σ (mX9_gatherFor t p1 p2 p3 p4 p5 p6 σ) := by
  rw [mX9_gatherFor]
  refine Rj.of (by decide) (fun h => by cases h) (Nat.le_of_ble_eq_true rfl) ?_
  refine tj_lv0 (lv' := [(0, .ref (h0 + t)), (1, .ref (h0 + p1)), (2, .int p2), (3, .int p3), (4, .int p4), (5, .int p5), (6, .int p6)]) rfl ?_
  refine tj_iconst (q := 1) (v := 0) dX9_gatherFor_0 rfl (by decide) ?_
  refine tj_istore (q := 3) dX9_gatherFor_1 rfl (by decide) rfl ?_
  refine tj_lv [1, 2, 3, 4, 5, 6, 7, 0] rfl ?_
  exact tmX9_gatherFor_L3 t p1 hT hp1 p2 p3 p4 p5 p6 FU (0 : Int32) σ

theorem dX9_gather_0 : decode cX9_gather 0 = .ok (.aload_n 0, 1) := by decide +kernel
theorem dX9_gather_1 : decode cX9_gather 1 = .ok (.iconst 0, 1) := by decide +kernel
theorem dX9_gather_2 : decode cX9_gather 2 = .ok (.putfield 24, 3) := by decide +kernel
theorem dX9_gather_5 : decode cX9_gather 5 = .ok (.aload_n 2, 1) := by decide +kernel
theorem dX9_gather_6 : decode cX9_gather 6 = .ok (.getfield 64, 3) := by decide +kernel
theorem dX9_gather_9 : decode cX9_gather 9 = .ok (.iload_n 3, 1) := by decide +kernel
theorem dX9_gather_10 : decode cX9_gather 10 = .ok (.ishr, 1) := by decide +kernel
theorem dX9_gather_11 : decode cX9_gather 11 = .ok (.iconst 1, 1) := by decide +kernel
theorem dX9_gather_12 : decode cX9_gather 12 = .ok (.iand, 1) := by decide +kernel
theorem dX9_gather_13 : decode cX9_gather 13 = .ok (.ifCond .eq 4, 3) := by decide +kernel
theorem dX9_gather_16 : decode cX9_gather 16 = .ok (.return_, 1) := by decide +kernel
theorem dX9_gather_17 : decode cX9_gather 17 = .ok (.aload_n 0, 1) := by decide +kernel
theorem dX9_gather_18 : decode cX9_gather 18 = .ok (.aload_n 1, 1) := by decide +kernel
theorem dX9_gather_19 : decode cX9_gather 19 = .ok (.aload_n 2, 1) := by decide +kernel
theorem dX9_gather_20 : decode cX9_gather 20 = .ok (.iload_n 3, 1) := by decide +kernel
theorem dX9_gather_21 : decode cX9_gather 21 = .ok (.invokevirtual 67, 3) := by decide +kernel
theorem dX9_gather_24 : decode cX9_gather 24 = .ok (.aload_n 1, 1) := by decide +kernel
theorem dX9_gather_25 : decode cX9_gather 25 = .ok (.getfield 71, 3) := by decide +kernel
theorem dX9_gather_28 : decode cX9_gather 28 = .ok (.iload_n 3, 1) := by decide +kernel
theorem dX9_gather_29 : decode cX9_gather 29 = .ok (.iaload, 1) := by decide +kernel
theorem dX9_gather_30 : decode cX9_gather 30 = .ok (.aload_n 1, 1) := by decide +kernel
theorem dX9_gather_31 : decode cX9_gather 31 = .ok (.aload_n 2, 1) := by decide +kernel
theorem dX9_gather_32 : decode cX9_gather 32 = .ok (.getfield 43, 3) := by decide +kernel
theorem dX9_gather_35 : decode cX9_gather 35 = .ok (.iconst 5, 1) := by decide +kernel
theorem dX9_gather_36 : decode cX9_gather 36 = .ok (.iload_n 3, 1) := by decide +kernel
theorem dX9_gather_37 : decode cX9_gather 37 = .ok (.iadd, 1) := by decide +kernel
theorem dX9_gather_38 : decode cX9_gather 38 = .ok (.iaload, 1) := by decide +kernel
theorem dX9_gather_39 : decode cX9_gather 39 = .ok (.invokevirtual 74, 3) := by decide +kernel
theorem dX9_gather_42 : decode cX9_gather 42 = .ok (.isub, 1) := by decide +kernel
theorem dX9_gather_43 : decode cX9_gather 43 = .ok (.istore 4, 2) := by decide +kernel
theorem dX9_gather_45 : decode cX9_gather 45 = .ok (.iconst 0, 1) := by decide +kernel
theorem dX9_gather_46 : decode cX9_gather 46 = .ok (.istore 5, 2) := by decide +kernel
theorem dX9_gather_48 : decode cX9_gather 48 = .ok (.iload 5, 2) := by decide +kernel
theorem dX9_gather_50 : decode cX9_gather 50 = .ok (.aload_n 1, 1) := by decide +kernel
theorem dX9_gather_51 : decode cX9_gather 51 = .ok (.getfield 78, 3) := by decide +kernel
theorem dX9_gather_54 : decode cX9_gather 54 = .ok (.if_icmp .ge 71, 3) := by decide +kernel
theorem dX9_gather_57 : decode cX9_gather 57 = .ok (.iconst 0, 1) := by decide +kernel
theorem dX9_gather_58 : decode cX9_gather 58 = .ok (.istore 6, 2) := by decide +kernel
theorem dX9_gather_60 : decode cX9_gather 60 = .ok (.iload 6, 2) := by decide +kernel
theorem dX9_gather_62 : decode cX9_gather 62 = .ok (.aload_n 1, 1) := by decide +kernel
theorem dX9_gather_63 : decode cX9_gather 63 = .ok (.getfield 48, 3) := by decide +kernel
theorem dX9_gather_66 : decode cX9_gather 66 = .ok (.if_icmp .ge 53, 3) := by decide +kernel
theorem dX9_gather_69 : decode cX9_gather 69 = .ok (.aload_n 1, 1) := by decide +kernel
theorem dX9_gather_70 : decode cX9_gather 70 = .ok (.iload 5, 2) := by decide +kernel
theorem dX9_gather_72 : decode cX9_gather 72 = .ok (.aload_n 2, 1) := by decide +kernel
theorem dX9_gather_73 : decode cX9_gather 73 = .ok (.getfield 81, 3) := by decide +kernel
theorem dX9_gather_76 : decode cX9_gather 76 = .ok (.invokevirtual 84, 3) := by decide +kernel
theorem dX9_gather_79 : decode cX9_gather 79 = .ok (.ifCond .ne 40, 3) := by decide +kernel
theorem dX9_gather_82 : decode cX9_gather 82 = .ok (.aload_n 2, 1) := by decide +kernel
theorem dX9_gather_83 : decode cX9_gather 83 = .ok (.getfield 43, 3) := by decide +kernel
theorem dX9_gather_86 : decode cX9_gather 86 = .ok (.iload 5, 2) := by decide +kernel
theorem dX9_gather_88 : decode cX9_gather 88 = .ok (.iaload, 1) := by decide +kernel
theorem dX9_gather_89 : decode cX9_gather 89 = .ok (.iload 6, 2) := by decide +kernel
theorem dX9_gather_91 : decode cX9_gather 91 = .ok (.ishr, 1) := by decide +kernel
theorem dX9_gather_92 : decode cX9_gather 92 = .ok (.iconst 1, 1) := by decide +kernel
theorem dX9_gather_93 : decode cX9_gather 93 = .ok (.iand, 1) := by decide +kernel
theorem dX9_gather_94 : decode cX9_gather 94 = .ok (.ifCond .eq 19, 3) := by decide +kernel
theorem dX9_gather_97 : decode cX9_gather 97 = .ok (.aload_n 0, 1) := by decide +kernel
theorem dX9_gather_98 : decode cX9_gather 98 = .ok (.aload_n 1, 1) := by decide +kernel
theorem dX9_gather_99 : decode cX9_gather 99 = .ok (.aload_n 2, 1) := by decide +kernel
theorem dX9_gather_100 : decode cX9_gather 100 = .ok (.getfield 81, 3) := by decide +kernel
theorem dX9_gather_103 : decode cX9_gather 103 = .ok (.iload_n 3, 1) := by decide +kernel
theorem dX9_gather_104 : decode cX9_gather 104 = .ok (.iload 5, 2) := by decide +kernel
theorem dX9_gather_106 : decode cX9_gather 106 = .ok (.iload 6, 2) := by decide +kernel
theorem dX9_gather_108 : decode cX9_gather 108 = .ok (.iload 4, 2) := by decide +kernel
theorem dX9_gather_110 : decode cX9_gather 110 = .ok (.invokevirtual 88, 3) := by decide +kernel
theorem dX9_gather_113 : decode cX9_gather 113 = .ok (.iinc 6 1, 3) := by decide +kernel
theorem dX9_gather_116 : decode cX9_gather 116 = .ok (.goto (-56), 3) := by decide +kernel
theorem dX9_gather_119 : decode cX9_gather 119 = .ok (.iinc 5 1, 3) := by decide +kernel
theorem dX9_gather_122 : decode cX9_gather 122 = .ok (.goto (-74), 3) := by decide +kernel
theorem dX9_gather_125 : decode cX9_gather 125 = .ok (.return_, 1) := by decide +kernel
theorem wl_RX9_64 : Cond.fieldLink RX9 64 (TX8 4).1 (TX8 4).2.1 (TX8 4).2.2.1 ∈ TB := tbm 394 (by decide +kernel) (by decide +kernel)
theorem wm_X9_splitStock : Cond.instanceMethod yX9_splitStock ∈ TB ∧ Cond.selects yX9_splitStock.cls yX9_splitStock yX9_splitStock ∈ TB ∧ Cond.initialized yX9_splitStock.cls ∈ TB ∧ Cond.code yX9_splitStock cX9_splitStock 7 none ∈ TB ∧ (yX9_splitStock.cls ≠ "java/lang/invoke/MethodHandle" ∧ yX9_splitStock.cls ≠ "java/lang/invoke/VarHandle" ∧ (parseMethodDescriptor yX9_splitStock.desc).map (fun d => d.parameters.length) = some 3) ∧ 7 ≤ 21 := ⟨tbm 1167 (by decide +kernel) (by decide +kernel), tbm 1168 (by decide +kernel) (by decide +kernel), tbm 143 (by decide +kernel) (by decide +kernel), tbm 1169 (by decide +kernel) (by decide +kernel), by decide +kernel, by decide⟩
theorem wi_RX9_67 : Iv RX9 67 yX9_splitStock cX9_splitStock 7 none 3 := ⟨tbm 1166 (by decide +kernel) (by decide +kernel), wm_X9_splitStock⟩
theorem wl_RX9_71 : Cond.fieldLink RX9 71 (TX1 10).1 (TX1 10).2.1 (TX1 10).2.2.1 ∈ TB := tbm 325 (by decide +kernel) (by decide +kernel)
theorem wi_RX9_74 : Iv RX9 74 yX1_weightOfSet cX1_weightOfSet 4 (some .int) 1 := ⟨tbm 1175 (by decide +kernel) (by decide +kernel), wm_X1_weightOfSet⟩
theorem wl_RX9_78 : Cond.fieldLink RX9 78 (TX1 3).1 (TX1 3).2.1 (TX1 3).2.2.1 ∈ TB := tbm 303 (by decide +kernel) (by decide +kernel)
theorem wl_RX9_81 : Cond.fieldLink RX9 81 (TX8 3).1 (TX8 3).2.1 (TX8 3).2.2.1 ∈ TB := tbm 390 (by decide +kernel) (by decide +kernel)
theorem wi_RX9_84 : Iv RX9 84 yX1_isSeen cX1_isSeen 3 (some .boolean) 2 := ⟨tbm 1176 (by decide +kernel) (by decide +kernel), wm_X1_isSeen⟩
theorem wm_X9_gatherFor : Cond.instanceMethod yX9_gatherFor ∈ TB ∧ Cond.selects yX9_gatherFor.cls yX9_gatherFor yX9_gatherFor ∈ TB ∧ Cond.initialized yX9_gatherFor.cls ∈ TB ∧ Cond.code yX9_gatherFor cX9_gatherFor 9 none ∈ TB ∧ (yX9_gatherFor.cls ≠ "java/lang/invoke/MethodHandle" ∧ yX9_gatherFor.cls ≠ "java/lang/invoke/VarHandle" ∧ (parseMethodDescriptor yX9_gatherFor.desc).map (fun d => d.parameters.length) = some 6) ∧ 9 ≤ 21 := ⟨tbm 1179 (by decide +kernel) (by decide +kernel), tbm 38 (by decide +kernel) (by decide +kernel), tbm 143 (by decide +kernel) (by decide +kernel), tbm 1180 (by decide +kernel) (by decide +kernel), by decide +kernel, by decide⟩
theorem wi_RX9_88 : Iv RX9 88 yX9_gatherFor cX9_gatherFor 9 none 6 := ⟨tbm 1177 (by decide +kernel) (by decide +kernel), wm_X9_gatherFor⟩
def mX9_gather_L60 (t : Nat) (p1 : Nat) (p2 : Nat) (x3 : Int32) (x4 : Int32) (x5 : Int32) (k119 : St_ → Option St_) : Nat → Int32 → St_ → Option St_
  | 0, _, _ => none
  | n + 1, x6, σ => (if (σ.1 p1 2) ≤ x6 then
 (k119 σ)
 else ((mX1_isSeen p1 x5 (σ.1 p2 3) σ).bind fun r8 =>
 (if r8 = true then
 (k119 σ)
 else (if bin x5 9 = true then bnd (σ.1 (p2 + 1) x5.toNatClampNeg) fun v9 =>
 (bnd (fun (σ10 : St_) => (mX9_gather_L60 t p1 p2 x3 x4 x5 k119 n (x6 + 1) σ10)) fun k11 =>
 (if ((v9 >>> (x6 &&& 31)) &&& (1 : Int32)) = 0 then
 (k11 σ)
 else ((mX9_gatherFor t p1 (σ.1 p2 3) x3 x5 x6 x4 σ).bind fun σ13 =>
 (k11 σ13))))
 else none))))
def mX9_gather_L48 (t : Nat) (p1 : Nat) (p2 : Nat) (x3 : Int32) (x4 : Int32) : Nat → Int32 → St_ → Option St_
  | 0, _, _ => none
  | n + 1, x5, σ => (if (σ.1 p1 3) ≤ x5 then
 (some σ)
 else (mX9_gather_L60 t p1 p2 x3 x4 x5
 (fun (σ14 : St_) => (mX9_gather_L48 t p1 p2 x3 x4 n (x5 + 1) σ14)) FU (0 : Int32) σ))
def mX9_gather (t : Nat) (p1 : Nat) (p2 : Nat) (p3 : Int32) (σ : St_) : Option St_ :=
 (bnd (sI σ t 4 (0 : Int32)) fun σ1 =>
 (if (((σ1.1 p2 4) >>> (p3 &&& 31)) &&& (1 : Int32)) = 0 then
 ((mX9_splitStock t p1 p2 p3 σ1).bind fun σ2 =>
 (if bin p3 4 = true then bnd (σ2.1 (p1 + 6) p3.toNatClampNeg) fun v3 =>
 (bnd ((5 : Int32) + p3) fun v4 =>
 (if bin v4 9 = true then bnd (σ2.1 (p2 + 1) v4.toNatClampNeg) fun v5 =>
 ((mX1_weightOfSet p1 v5 σ2).bind fun r6 =>
 (bnd (v3 - r6) fun v7 =>
 (mX9_gather_L48 t p1 p2 p3 v7 FU (0 : Int32) σ2)))
 else none))
 else none))
 else (some σ1)))
set_option maxHeartbeats 4000000 in
theorem tmX9_gather_L60 (t : Nat) (p1 : Nat) (p2 : Nat) (hT : LY9 sh P t) (hp1 : LY1 sh P p1) (hp2 : LY8 sh P p2) (x3 : Int32) (x4 : Int32) (x5 : Int32) (k119 : St_ → Option St_) (hk119 : ∀ (σ1 : St_), Tj l D cA h0 ad RX9 cX9_gather 7 none false 6 0 0 (fun b => (none, sh, P, b)) 0 0 sh P σ1 119 [(0, .ref (h0 + t)), (1, .ref (h0 + p1)), (2, .ref (h0 + p2)), (3, .int x3), (4, .int x4), (5, .int x5)] [] (k119 σ1)) : ∀ (n : Nat) (x6 : Int32) (σ : St_), Tj l D cA h0 ad RX9 cX9_gather 7 none false 6 0 0 (fun b => (none, sh, P, b)) 0 0 sh P σ 60 [(0, .ref (h0 + t)), (1, .ref (h0 + p1)), (2, .ref (h0 + p2)), (3, .int x3), (4, .int x4), (5, .int x5), (6, .int x6)] [] (mX9_gather_L60 t p1 p2 x3 x4 x5 k119 n x6 σ) := by
  intro n
  induction n with
  | zero => intros; exact tj_none
  | succ n ih =>
    intro x6 σ
    rw [mX9_gather_L60]
    refine tj_iload (q := 62) dX9_gather_60 rfl (pl := 6) rfl ?_
    refine tj_aload_n (q := 63) dX9_gather_62 rfl (i := 1) rfl (pl := 1) rfl ?_
    refine tj_getI (q := 66) (hp1).s fok_1_2 wl_RX9_48 dX9_gather_63 rfl ?_
    refine tj_icmp_ge (tgt := 119) (q := 69) dX9_gather_66 (by decide) rfl ?_ ?_
    · refine tj_lv [0, 1, 2, 3, 4, 5] rfl ?_
      exact hk119 σ
    · refine tj_aload_n (q := 70) dX9_gather_69 rfl (i := 1) rfl (pl := 1) rfl ?_
      refine tj_iload (q := 72) dX9_gather_70 rfl (pl := 5) rfl ?_
      refine tj_aload_n (q := 73) dX9_gather_72 rfl (i := 2) rfl (pl := 2) rfl ?_
      refine tj_getI (q := 76) (hp2).s fok_8_3 wl_RX9_81 dX9_gather_73 rfl ?_
      refine tj_callZp (q := 79) (kj_V (As := [.int x5, .int (σ.1 p2 3)]) (rest := []) (t := p1) wi_RX9_84 (hp1).s rfl (rX1_isSeen p1 x5 (σ.1 p2 3) (hp1)) rfl (Nat.le_of_ble_eq_true rfl) ⟨Nat.le_of_ble_eq_true rfl, Nat.le_of_ble_eq_true rfl⟩ (Nat.le_of_ble_eq_true rfl) dX9_gather_76) rfl (fun r8 => ?_)
      refine tj_bnz (tgt := 119) (q := 82) dX9_gather_79 (by decide) rfl ?_ ?_
      · refine tj_lv [0, 1, 2, 3, 4, 5] rfl ?_
        exact hk119 σ
      · refine tj_aload_n (q := 83) dX9_gather_82 rfl (i := 2) rfl (pl := 2) rfl ?_
        refine tj_getR (q := 86) (hp2).s (hp2).p_held fok_8_0 wl_RX9_43 dX9_gather_83 rfl ?_
        refine tj_iload (q := 88) dX9_gather_86 rfl (pl := 5) rfl ?_
        refine tj_iaload (q := 89) (hp2).s_held dX9_gather_88 rfl ?_
        refine tj_topI (fun v9 => ?_)
        refine tj_iload (q := 91) dX9_gather_89 rfl (pl := 6) rfl ?_
        refine tj_ishr (q := 92) dX9_gather_91 rfl ?_
        refine tj_iconst (q := 93) (v := 1) dX9_gather_92 rfl (by decide) ?_
        refine tj_iand (q := 94) dX9_gather_93 rfl ?_
        refine tj_bnd (fun k11 => ∀ (σ10 : St_), Tj l D cA h0 ad RX9 cX9_gather 7 none false 6 0 0 (fun b => (none, sh, P, b)) 0 0 sh P σ10 113 [(0, .ref (h0 + t)), (1, .ref (h0 + p1)), (2, .ref (h0 + p2)), (3, .int x3), (4, .int x4), (5, .int x5), (6, .int x6)] [] (k11 σ10)) ?_ (fun k11 hk12 => ?_)
        · intro σ10
          refine tj_iinc (q := 116) (v := x6 + 1) dX9_gather_113 rfl (pl := 6) rfl rfl (by decide) rfl ?_
          refine tj_goto (q := 60) dX9_gather_116 (by decide) ?_
          refine tj_lv [1, 2, 3, 4, 5, 6, 0] rfl ?_
          exact ih (x6 + 1) σ10
        · refine tj_if_eq (tgt := 113) (q := 97) dX9_gather_94 (by decide) rfl ?_ ?_
          · exact hk12 σ
          · refine tj_aload_n (q := 98) dX9_gather_97 rfl (i := 0) rfl (pl := 0) rfl ?_
            refine tj_aload_n (q := 99) dX9_gather_98 rfl (i := 1) rfl (pl := 1) rfl ?_
            refine tj_aload_n (q := 100) dX9_gather_99 rfl (i := 2) rfl (pl := 2) rfl ?_
            refine tj_getI (q := 103) (hp2).s fok_8_3 wl_RX9_81 dX9_gather_100 rfl ?_
            refine tj_iload_n (q := 104) dX9_gather_103 rfl (i := 3) rfl (pl := 3) rfl ?_
            refine tj_iload (q := 106) dX9_gather_104 rfl (pl := 5) rfl ?_
            refine tj_iload (q := 108) dX9_gather_106 rfl (pl := 6) rfl ?_
            refine tj_iload (q := 110) dX9_gather_108 rfl (pl := 4) rfl ?_
            refine tj_callV (q := 113) (kj_V (As := [.ref (h0 + p1), .int (σ.1 p2 3), .int x3, .int x5, .int x6, .int x4]) (rest := []) (t := t) wi_RX9_88 (hT).s rfl (rX9_gatherFor t p1 (σ.1 p2 3) x3 x5 x6 x4 (hT) (hp1)) rfl (Nat.le_of_ble_eq_true rfl) ⟨Nat.le_of_ble_eq_true rfl, Nat.le_of_ble_eq_true rfl⟩ (Nat.le_of_ble_eq_true rfl) dX9_gather_110) rfl (fun σ13 => ?_)
            exact hk12 σ13

set_option maxHeartbeats 4000000 in
theorem tmX9_gather_L48 (t : Nat) (p1 : Nat) (p2 : Nat) (hT : LY9 sh P t) (hp1 : LY1 sh P p1) (hp2 : LY8 sh P p2) (x3 : Int32) (x4 : Int32) : ∀ (n : Nat) (x5 : Int32) (σ : St_), Tj l D cA h0 ad RX9 cX9_gather 7 none false 6 0 0 (fun b => (none, sh, P, b)) 0 0 sh P σ 48 [(0, .ref (h0 + t)), (1, .ref (h0 + p1)), (2, .ref (h0 + p2)), (3, .int x3), (4, .int x4), (5, .int x5)] [] (mX9_gather_L48 t p1 p2 x3 x4 n x5 σ) := by
  intro n
  induction n with
  | zero => intros; exact tj_none
  | succ n ih =>
    intro x5 σ
    rw [mX9_gather_L48]
    refine tj_iload (q := 50) dX9_gather_48 rfl (pl := 5) rfl ?_
    refine tj_aload_n (q := 51) dX9_gather_50 rfl (i := 1) rfl (pl := 1) rfl ?_
    refine tj_getI (q := 54) (hp1).s fok_1_3 wl_RX9_78 dX9_gather_51 rfl ?_
    refine tj_icmp_ge (tgt := 125) (q := 57) dX9_gather_54 (by decide) rfl ?_ ?_
    · exact tj_vret rfl rfl (Nat.le_of_ble_eq_true rfl) (Nat.le_of_ble_eq_true rfl) dX9_gather_125
    · refine tj_iconst (q := 58) (v := 0) dX9_gather_57 rfl (by decide) ?_
      refine tj_istore (q := 60) dX9_gather_58 rfl (by decide) rfl ?_
      refine tj_lv [1, 2, 3, 4, 5, 6, 0] rfl ?_
      refine tmX9_gather_L60 t p1 p2 hT hp1 hp2 x3 x4 x5 _ ?_ FU (0 : Int32) σ
      · intro σ14
        refine tj_iinc (q := 122) (v := x5 + 1) dX9_gather_119 rfl (pl := 5) rfl rfl (by decide) rfl ?_
        refine tj_goto (q := 48) dX9_gather_122 (by decide) ?_
        refine tj_lv [1, 2, 3, 4, 5, 0] rfl ?_
        exact ih (x5 + 1) σ14

set_option maxHeartbeats 4000000 in
theorem rX9_gather (t : Nat) (p1 : Nat) (p2 : Nat) (p3 : Int32) (hT : LY9 sh P t) (hp1 : LY1 sh P p1) (hp2 : LY8 sh P p2) : Rj l D cA h0 ad yX9_gather cX9_gather 7 none false 6 0 0 (fun b => (none, sh, P, b)) [.ref (h0 + t), .ref (h0 + p1), .ref (h0 + p2), .int p3] sh P σ (mX9_gather t p1 p2 p3 σ) := by
  rw [mX9_gather]
  refine Rj.of (by decide) (fun h => by cases h) (Nat.le_of_ble_eq_true rfl) ?_
  refine tj_lv0 (lv' := [(0, .ref (h0 + t)), (1, .ref (h0 + p1)), (2, .ref (h0 + p2)), (3, .int p3)]) rfl ?_
  refine tj_aload_n (q := 1) dX9_gather_0 rfl (i := 0) rfl (pl := 0) rfl ?_
  refine tj_iconst (q := 2) (v := 0) dX9_gather_1 rfl (by decide) ?_
  refine tj_putI (q := 5) (hT).s fok_9_4 tok_9 fpk_9_4 wl_RX9_24 dX9_gather_2 rfl (fun σ1 => ?_)
  refine tj_aload_n (q := 6) dX9_gather_5 rfl (i := 2) rfl (pl := 2) rfl ?_
  refine tj_getI (q := 9) (hp2).s fok_8_4 wl_RX9_64 dX9_gather_6 rfl ?_
  refine tj_iload_n (q := 10) dX9_gather_9 rfl (i := 3) rfl (pl := 3) rfl ?_
  refine tj_ishr (q := 11) dX9_gather_10 rfl ?_
  refine tj_iconst (q := 12) (v := 1) dX9_gather_11 rfl (by decide) ?_
  refine tj_iand (q := 13) dX9_gather_12 rfl ?_
  refine tj_if_eq (tgt := 17) (q := 16) dX9_gather_13 (by decide) rfl ?_ ?_
  · refine tj_aload_n (q := 18) dX9_gather_17 rfl (i := 0) rfl (pl := 0) rfl ?_
    refine tj_aload_n (q := 19) dX9_gather_18 rfl (i := 1) rfl (pl := 1) rfl ?_
    refine tj_aload_n (q := 20) dX9_gather_19 rfl (i := 2) rfl (pl := 2) rfl ?_
    refine tj_iload_n (q := 21) dX9_gather_20 rfl (i := 3) rfl (pl := 3) rfl ?_
    refine tj_callV (q := 24) (kj_V (As := [.ref (h0 + p1), .ref (h0 + p2), .int p3]) (rest := []) (t := t) wi_RX9_67 (hT).s rfl (rX9_splitStock t p1 p2 p3 (hT) (hp1) (hp2)) rfl (Nat.le_of_ble_eq_true rfl) ⟨Nat.le_of_ble_eq_true rfl, Nat.le_of_ble_eq_true rfl⟩ (Nat.le_of_ble_eq_true rfl) dX9_gather_21) rfl (fun σ2 => ?_)
    refine tj_aload_n (q := 25) dX9_gather_24 rfl (i := 1) rfl (pl := 1) rfl ?_
    refine tj_getR (q := 28) (hp1).s (hp1).p_sack fok_1_10 wl_RX9_71 dX9_gather_25 rfl ?_
    refine tj_iload_n (q := 29) dX9_gather_28 rfl (i := 3) rfl (pl := 3) rfl ?_
    refine tj_iaload (q := 30) (hp1).s_sack dX9_gather_29 rfl ?_
    refine tj_topI (fun v3 => ?_)
    refine tj_aload_n (q := 31) dX9_gather_30 rfl (i := 1) rfl (pl := 1) rfl ?_
    refine tj_aload_n (q := 32) dX9_gather_31 rfl (i := 2) rfl (pl := 2) rfl ?_
    refine tj_getR (q := 35) (hp2).s (hp2).p_held fok_8_0 wl_RX9_43 dX9_gather_32 rfl ?_
    refine tj_iconst (q := 36) (v := 5) dX9_gather_35 rfl (by decide) ?_
    refine tj_iload_n (q := 37) dX9_gather_36 rfl (i := 3) rfl (pl := 3) rfl ?_
    refine tj_iadd (q := 38) dX9_gather_37 rfl ?_
    refine tj_topI (fun v4 => ?_)
    refine tj_iaload (q := 39) (hp2).s_held dX9_gather_38 rfl ?_
    refine tj_topI (fun v5 => ?_)
    refine tj_callIp (q := 42) (kj_V (As := [.int v5]) (rest := [.int v3]) (t := p1) wi_RX9_74 (hp1).s rfl (rX1_weightOfSet p1 v5 (hp1)) rfl (Nat.le_of_ble_eq_true rfl) ⟨Nat.le_of_ble_eq_true rfl, Nat.le_of_ble_eq_true rfl⟩ (Nat.le_of_ble_eq_true rfl) dX9_gather_39) rfl (fun r6 => ?_)
    refine tj_isub (q := 43) dX9_gather_42 rfl ?_
    refine tj_topI (fun v7 => ?_)
    refine tj_istore (q := 45) dX9_gather_43 rfl (by decide) rfl ?_
    refine tj_iconst (q := 46) (v := 0) dX9_gather_45 rfl (by decide) ?_
    refine tj_istore (q := 48) dX9_gather_46 rfl (by decide) rfl ?_
    refine tj_lv [2, 3, 4, 5, 1, 0] rfl ?_
    exact tmX9_gather_L48 t p1 p2 hT hp1 hp2 p3 v7 FU (0 : Int32) σ2
  · exact tj_vret rfl rfl (Nat.le_of_ble_eq_true rfl) (Nat.le_of_ble_eq_true rfl) dX9_gather_16

theorem dX9_pick_0 : decode cX9_pick 0 = .ok (.iconst (-1), 1) := by decide +kernel
theorem dX9_pick_1 : decode cX9_pick 1 = .ok (.istore_n 1, 1) := by decide +kernel
theorem dX9_pick_2 : decode cX9_pick 2 = .ok (.iconst 0, 1) := by decide +kernel
theorem dX9_pick_3 : decode cX9_pick 3 = .ok (.istore_n 2, 1) := by decide +kernel
theorem dX9_pick_4 : decode cX9_pick 4 = .ok (.iload_n 2, 1) := by decide +kernel
theorem dX9_pick_5 : decode cX9_pick 5 = .ok (.aload_n 0, 1) := by decide +kernel
theorem dX9_pick_6 : decode cX9_pick 6 = .ok (.getfield 24, 3) := by decide +kernel
theorem dX9_pick_9 : decode cX9_pick 9 = .ok (.if_icmp .ge 31, 3) := by decide +kernel
theorem dX9_pick_12 : decode cX9_pick 12 = .ok (.iload_n 1, 1) := by decide +kernel
theorem dX9_pick_13 : decode cX9_pick 13 = .ok (.iconst (-1), 1) := by decide +kernel
theorem dX9_pick_14 : decode cX9_pick 14 = .ok (.if_icmp .eq 18, 3) := by decide +kernel
theorem dX9_pick_17 : decode cX9_pick 17 = .ok (.aload_n 0, 1) := by decide +kernel
theorem dX9_pick_18 : decode cX9_pick 18 = .ok (.getfield 21, 3) := by decide +kernel
theorem dX9_pick_21 : decode cX9_pick 21 = .ok (.iload_n 2, 1) := by decide +kernel
theorem dX9_pick_22 : decode cX9_pick 22 = .ok (.iaload, 1) := by decide +kernel
theorem dX9_pick_23 : decode cX9_pick 23 = .ok (.aload_n 0, 1) := by decide +kernel
theorem dX9_pick_24 : decode cX9_pick 24 = .ok (.getfield 21, 3) := by decide +kernel
theorem dX9_pick_27 : decode cX9_pick 27 = .ok (.iload_n 1, 1) := by decide +kernel
theorem dX9_pick_28 : decode cX9_pick 28 = .ok (.iaload, 1) := by decide +kernel
theorem dX9_pick_29 : decode cX9_pick 29 = .ok (.if_icmp .le 5, 3) := by decide +kernel
theorem dX9_pick_32 : decode cX9_pick 32 = .ok (.iload_n 2, 1) := by decide +kernel
theorem dX9_pick_33 : decode cX9_pick 33 = .ok (.istore_n 1, 1) := by decide +kernel
theorem dX9_pick_34 : decode cX9_pick 34 = .ok (.iinc 2 1, 3) := by decide +kernel
theorem dX9_pick_37 : decode cX9_pick 37 = .ok (.goto (-33), 3) := by decide +kernel
theorem dX9_pick_40 : decode cX9_pick 40 = .ok (.iload_n 1, 1) := by decide +kernel
theorem dX9_pick_41 : decode cX9_pick 41 = .ok (.ireturn, 1) := by decide +kernel
def mX9_pick_L4 (t : Nat) (σ : St_) : Nat → Int32 → Int32 → Option Int32
  | 0, _, _ => none
  | n + 1, x1, x2 => (if (σ.1 t 4) ≤ x2 then
 (some x1)
 else (bnd (fun (j1 : Int32) => (mX9_pick_L4 t σ n j1 (x2 + 1))) fun k2 =>
 (bnd (k2 x2) fun k4 =>
 (if x1 = (-1 : Int32) then
 (k4)
 else (if bin x2 100 = true then bnd (σ.1 (t + 4) x2.toNatClampNeg) fun v6 =>
 (if bin x1 100 = true then bnd (σ.1 (t + 4) x1.toNatClampNeg) fun v7 =>
 (if v6 ≤ v7 then
 (k2 x1)
 else (k4))
 else none)
 else none)))))
def mX9_pick (t : Nat) (σ : St_) : Option Int32 :=
 (mX9_pick_L4 t σ FU (-1 : Int32) (0 : Int32))
set_option maxHeartbeats 4000000 in
theorem tmX9_pick_L4 (σ : St_) (t : Nat) (hT : LY9 sh P t) : ∀ (n : Nat) (x1 : Int32) (x2 : Int32), Tj l D cA h0 ad RX9 cX9_pick 3 (some .int) false 2 0 0 (fun b => (some (.int b), sh, P, σ)) 0 0 sh P σ 4 [(0, .ref (h0 + t)), (1, .int x1), (2, .int x2)] [] (mX9_pick_L4 t σ n x1 x2) := by
  intro n
  induction n with
  | zero => intros; exact tj_none
  | succ n ih =>
    intro x1 x2
    rw [mX9_pick_L4]
    refine tj_iload_n (q := 5) dX9_pick_4 rfl (i := 2) rfl (pl := 2) rfl ?_
    refine tj_aload_n (q := 6) dX9_pick_5 rfl (i := 0) rfl (pl := 0) rfl ?_
    refine tj_getI (q := 9) (hT).s fok_9_4 wl_RX9_24 dX9_pick_6 rfl ?_
    refine tj_icmp_ge (tgt := 40) (q := 12) dX9_pick_9 (by decide) rfl ?_ ?_
    · refine tj_iload_n (q := 41) dX9_pick_40 rfl (i := 1) rfl (pl := 1) rfl ?_
      exact tj_iret rfl rfl (Nat.le_of_ble_eq_true rfl) (Nat.le_of_ble_eq_true rfl) dX9_pick_41
    · refine tj_iload_n (q := 13) dX9_pick_12 rfl (i := 1) rfl (pl := 1) rfl ?_
      refine tj_iconst (q := 14) (v := (-1)) dX9_pick_13 rfl (by decide) ?_
      refine tj_bnd (fun k2 => ∀ (j1 : Int32), Tj l D cA h0 ad RX9 cX9_pick 3 (some .int) false 2 0 0 (fun b => (some (.int b), sh, P, σ)) 0 0 sh P σ 34 [(0, .ref (h0 + t)), (1, .int j1), (2, .int x2)] [] (k2 j1)) ?_ (fun k2 hk3 => ?_)
      · intro j1
        refine tj_iinc (q := 37) (v := x2 + 1) dX9_pick_34 rfl (pl := 2) rfl rfl (by decide) rfl ?_
        refine tj_goto (q := 4) dX9_pick_37 (by decide) ?_
        refine tj_lv [1, 2, 0] rfl ?_
        exact ih j1 (x2 + 1)
      · refine tj_bnd (fun k4 => Tj l D cA h0 ad RX9 cX9_pick 3 (some .int) false 2 0 0 (fun b => (some (.int b), sh, P, σ)) 0 0 sh P σ 32 [(0, .ref (h0 + t)), (2, .int x2)] [] k4) ?_ (fun k4 hk5 => ?_)
        · refine tj_iload_n (q := 33) dX9_pick_32 rfl (i := 2) rfl (pl := 1) rfl ?_
          refine tj_istore_n (q := 34) dX9_pick_33 rfl (i := 1) rfl (by decide) rfl ?_
          refine tj_lv [1, 0, 2] rfl ?_
          exact hk3 x2
        · refine tj_icmp_eq (tgt := 32) (q := 17) dX9_pick_14 (by decide) rfl ?_ ?_
          · refine tj_lv [0, 2] rfl ?_
            exact hk5
          · refine tj_aload_n (q := 18) dX9_pick_17 rfl (i := 0) rfl (pl := 0) rfl ?_
            refine tj_getR (q := 21) (hT).s (hT).p_gain fok_9_3 wl_RX9_21 dX9_pick_18 rfl ?_
            refine tj_iload_n (q := 22) dX9_pick_21 rfl (i := 2) rfl (pl := 2) rfl ?_
            refine tj_iaload (q := 23) (hT).s_gain dX9_pick_22 rfl ?_
            refine tj_topI (fun v6 => ?_)
            refine tj_aload_n (q := 24) dX9_pick_23 rfl (i := 0) rfl (pl := 0) rfl ?_
            refine tj_getR (q := 27) (hT).s (hT).p_gain fok_9_3 wl_RX9_21 dX9_pick_24 rfl ?_
            refine tj_iload_n (q := 28) dX9_pick_27 rfl (i := 1) rfl (pl := 1) rfl ?_
            refine tj_iaload (q := 29) (hT).s_gain dX9_pick_28 rfl ?_
            refine tj_topI (fun v7 => ?_)
            refine tj_icmp_le (tgt := 34) (q := 32) dX9_pick_29 (by decide) rfl ?_ ?_
            · exact hk3 x1
            · refine tj_lv [0, 2] rfl ?_
              exact hk5

set_option maxHeartbeats 4000000 in
theorem rX9_pick (t : Nat) (hT : LY9 sh P t) : Rj l D cA h0 ad yX9_pick cX9_pick 3 (some .int) false 2 0 0 (fun b => (some (.int b), sh, P, σ)) [.ref (h0 + t)] sh P σ (mX9_pick t σ) := by
  rw [mX9_pick]
  refine Rj.of (by decide) (fun h => by cases h) (Nat.le_of_ble_eq_true rfl) ?_
  refine tj_lv0 (lv' := [(0, .ref (h0 + t))]) rfl ?_
  refine tj_iconst (q := 1) (v := (-1)) dX9_pick_0 rfl (by decide) ?_
  refine tj_istore_n (q := 2) dX9_pick_1 rfl (i := 1) rfl (by decide) rfl ?_
  refine tj_iconst (q := 3) (v := 0) dX9_pick_2 rfl (by decide) ?_
  refine tj_istore_n (q := 4) dX9_pick_3 rfl (i := 2) rfl (by decide) rfl ?_
  refine tj_lv [2, 1, 0] rfl ?_
  exact tmX9_pick_L4 σ t hT FU (-1 : Int32) (0 : Int32)

end
