section
variable {l : Launch} {D : va_G} {cA : Nat → ClassId} {h0 : Nat} {ad : Ad_} {sh : Sh_} {P : Px_} {σ : St_}
theorem dX0_init_0 : decode cX0_init 0 = .ok (.aload_n 0, 1) := by decide +kernel
theorem dX0_init_1 : decode cX0_init 1 = .ok (.invokespecial 1, 3) := by decide +kernel
theorem dX0_init_4 : decode cX0_init 4 = .ok (.aload_n 0, 1) := by decide +kernel
theorem dX0_init_5 : decode cX0_init 5 = .ok (.bipush 41, 2) := by decide +kernel
theorem dX0_init_7 : decode cX0_init 7 = .ok (.anewarray 9, 3) := by decide +kernel
theorem dX0_init_10 : decode cX0_init 10 = .ok (.putfield 11, 3) := by decide +kernel
theorem dX0_init_13 : decode cX0_init 13 = .ok (.aload_n 0, 1) := by decide +kernel
theorem dX0_init_14 : decode cX0_init 14 = .ok (.iconst 0, 1) := by decide +kernel
theorem dX0_init_15 : decode cX0_init 15 = .ok (.putfield 15, 3) := by decide +kernel
theorem dX0_init_18 : decode cX0_init 18 = .ok (.aload_n 0, 1) := by decide +kernel
theorem dX0_init_19 : decode cX0_init 19 = .ok (.iconst 0, 1) := by decide +kernel
theorem dX0_init_20 : decode cX0_init 20 = .ok (.putfield 19, 3) := by decide +kernel
theorem dX0_init_23 : decode cX0_init 23 = .ok (.aload_n 0, 1) := by decide +kernel
theorem dX0_init_24 : decode cX0_init 24 = .ok (.iconst 0, 1) := by decide +kernel
theorem dX0_init_25 : decode cX0_init 25 = .ok (.putfield 22, 3) := by decide +kernel
theorem dX0_init_28 : decode cX0_init 28 = .ok (.iconst 0, 1) := by decide +kernel
theorem dX0_init_29 : decode cX0_init 29 = .ok (.istore_n 1, 1) := by decide +kernel
theorem dX0_init_30 : decode cX0_init 30 = .ok (.iload_n 1, 1) := by decide +kernel
theorem dX0_init_31 : decode cX0_init 31 = .ok (.bipush 40, 2) := by decide +kernel
theorem dX0_init_33 : decode cX0_init 33 = .ok (.if_icmp .gt 22, 3) := by decide +kernel
theorem dX0_init_36 : decode cX0_init 36 = .ok (.aload_n 0, 1) := by decide +kernel
theorem dX0_init_37 : decode cX0_init 37 = .ok (.getfield 11, 3) := by decide +kernel
theorem dX0_init_40 : decode cX0_init 40 = .ok (.iload_n 1, 1) := by decide +kernel
theorem dX0_init_41 : decode cX0_init 41 = .ok (.new 9, 3) := by decide +kernel
theorem dX0_init_44 : decode cX0_init 44 = .ok (.dup, 1) := by decide +kernel
theorem dX0_init_45 : decode cX0_init 45 = .ok (.invokespecial 25, 3) := by decide +kernel
theorem dX0_init_48 : decode cX0_init 48 = .ok (.aastore, 1) := by decide +kernel
theorem dX0_init_49 : decode cX0_init 49 = .ok (.iinc 1 1, 3) := by decide +kernel
theorem dX0_init_52 : decode cX0_init 52 = .ok (.goto (-22), 3) := by decide +kernel
theorem dX0_init_55 : decode cX0_init 55 = .ok (.return_, 1) := by decide +kernel
theorem wo_RX0_1 : Cond.methodLink RX0 1 objectInit ∈ TB := tbm 413 (by decide +kernel) (by decide +kernel)
theorem wn_RX0_9 : Cond.classLink RX0 9 RX8 ∈ TB := tbm 414 (by decide +kernel) (by decide +kernel)
theorem fpf_0_0 : Fpk TX0 0 true (.array (.object "BetterThieves$State")) := ⟨rfl, by decide +kernel⟩
theorem wk_RX0_25 : Ic RX0 25 yX8_init cX8_init 1 := ⟨Or.inr ⟨"BetterThieves", by decide +kernel⟩, tbm 376 (by decide +kernel) (by decide +kernel), tbm 140 (by decide +kernel) (by decide +kernel), tbm 377 (by decide +kernel) (by decide +kernel), rfl, by decide +kernel, by decide⟩
theorem shl_ring : ∀ i, i < 41 → SHL[49 + 3 * i]? = some (0, 8) ∧ SHL[49 + 3 * i + 1]? = some (1, 9) ∧ SHL[49 + 3 * i + 2]? = some (1, 4) := by decide +kernel
def itA : Nat → Nat → Rh_ → Rh_
  | 0, _, ρ => ρ
  | k + 1, i, ρ => itA k (i + 1) (pR (cE8 (49 + 3 * i) (nwR ρ (49 + 3 * i))) 48 i (49 + 3 * i))
theorem itA_ring {ρ : Rh_} {i : Nat} (h : ρ.1 47 0 = some 48) : (pR (cE8 (49 + 3 * i) (nwR ρ (49 + 3 * i))) 48 i (49 + 3 * i)).1 47 0 = some 48 := by
  have h1 : ¬ 47 = 49 + 3 * i := by omega
  have h2 : ¬ 47 = 49 + 3 * i + 1 := by omega
  have h3 : ¬ 47 = 49 + 3 * i + 2 := by omega
  simp [pR, pI, cE8, nwR, clP, up2, h1, h2, h3, h]
theorem le40 : ∀ i, i < 41 → ¬ (40 : Int32) < Int32.ofNat i := by decide +kernel
set_option maxHeartbeats 4000000 in
theorem k0_loop {f : Unit → Out_} : ∀ (k i : Nat) (ρ : Rh_), i + k = 41 → ρ.1 47 0 = some 48 → f () = (none, SHL.take 172, (itA k i ρ).1, (itA k i ρ).2) → Tj l D cA h0 ad RX0 cX0_init 2 none true 3 124 779 f (1 + 3 * i) (41 + 18 * i) (SHL.take (49 + 3 * i)) (ρ).1 (ρ).2 30 [(1, .int (Int32.ofNat i)), (0, .ref (h0 + 47))] [] (some ()) := by
  intro k
  induction k with
  | zero =>
    intro i ρ hi hr hf
    obtain rfl : i = 41 := by omega
    refine tj_iload_n (q := 31) dX0_init_30 rfl (i := 1) rfl (pl := 0) rfl ?_
    refine tj_bipush (q := 33) (v := 40) dX0_init_31 rfl (by decide) ?_
    refine c_gtY (tgt := 55) (by decide) dX0_init_33 (by decide) ?_
    exact tj_vret rfl hf (Nat.le_of_ble_eq_true rfl) (Nat.le_of_ble_eq_true rfl) dX0_init_55
  | succ k ih =>
    intro i ρ hi hr hf
    have hlt : i < 41 := by omega
    obtain ⟨s0, s1, s2⟩ := shl_ring i hlt
    refine tj_iload_n (q := 31) dX0_init_30 rfl (i := 1) rfl (pl := 0) rfl ?_
    refine tj_bipush (q := 33) (v := 40) dX0_init_31 rfl (by decide) ?_
    refine c_gtN (tgt := 55) (q := 36) (le40 i hlt) dX0_init_33 (by decide) rfl ?_
    refine tj_aload_n (q := 37) dX0_init_36 rfl (i := 0) rfl (pl := 1) rfl ?_
    refine tj_getR (q := 40) (j := 48) (tk_at (i := 47) shl_47 (by omega)) hr fok_0_0 wl_RX0_11 dX0_init_37 rfl ?_
    refine tj_iload_n (q := 41) dX0_init_40 rfl (i := 1) rfl (pl := 0) rfl ?_
    refine c_new (q := 44) (ci := 8) rfl iX8 tok_8 dok_8 rfl s0 wn_RX0_9 wn2_8 wn3_8 (by omega) (by omega) dX0_init_41 rfl ?_
    refine tj_dup (q := 45) dX0_init_44 rfl rfl ?_
    refine c_call (q := 48) wk_RX0_25 (k8 (49 + 3 * i) _ s0 s1 s2) (Nat.le_of_ble_eq_true rfl) ⟨by omega, by omega⟩ (Nat.le_of_ble_eq_true rfl) dX0_init_45 rfl ?_
    refine c_aast (q := 49) (k := i) (N := 41) (v := 49 + 3 * i) (t := 48) (tk_at (i := 48) shl_48 (by omega)) (tk_at (i := 49 + 3 * i) s0 (by omega)) rfl hlt (by decide) dX0_init_48 rfl ?_
    refine tj_iinc (q := 52) (v := Int32.ofNat (i + 1)) dX0_init_49 rfl (pl := 0) rfl (inc_ofNat i).symm (by decide) rfl ?_
    refine tj_goto (q := 30) dX0_init_52 (by decide) ?_
    have K := ih (i + 1) (pR (cE8 (49 + 3 * i) (nwR ρ (49 + 3 * i))) 48 i (49 + 3 * i)) (by omega) (itA_ring hr) hf
    have e1 : 1 + 3 * (i + 1) = 1 + 3 * i + 1 + 2 := by omega
    have e2 : 41 + 18 * (i + 1) = 41 + 18 * i + 5 + 13 := by omega
    have e3 : 49 + 3 * (i + 1) = 49 + 3 * i + 3 := by omega
    rw [e1, e2, e3] at K
    exact K
def cE0 (ρ : Rh_) : Rh_ := itA 41 0 (pI (pI (pI (pR (nwR ρ 48) 47 0 48) 47 1 (0 : Int32)) 47 2 (0 : Int32)) 47 3 (0 : Int32))
set_option maxHeartbeats 4000000 in
set_option maxRecDepth 20000 in
theorem k0 (ρ : Rh_) : Rj l D cA h0 ad yX0_init cX0_init 2 none true 3 124 779 (fun _ : Unit => (none, SHL.take 172, (cE0 ρ).1, (cE0 ρ).2)) [.ref (h0 + 47)] (SHL.take 48) ρ.1 ρ.2 (some ()) := by
  refine Rj.of (by decide) (fun _ => rfl) (Nat.le_of_ble_eq_true rfl) ?_
  refine tj_lv0 (lv' := [(0, .ref (h0 + 47))]) rfl ?_
  refine tj_aload_n (q := 1) dX0_init_0 rfl (i := 0) rfl (pl := 0) rfl ?_
  refine c_obj (q := 4) wo_RX0_1 wo_i wo_c dX0_init_1 rfl (Nat.le_of_ble_eq_true rfl) (Nat.le_of_ble_eq_true rfl) ?_
  refine tj_aload_n (q := 5) dX0_init_4 rfl (i := 0) rfl (pl := 0) rfl ?_
  refine tj_bipush (q := 7) (v := 41) dX0_init_5 rfl (by decide) ?_
  refine c_anew (q := 10) (N := 41) (by decide) (by decide) shl_48 wn_RX0_9 (Nat.le_of_ble_eq_true rfl) (Nat.le_of_ble_eq_true rfl) dX0_init_7 rfl ?_
  refine c_putF (q := 13) (j := 48) (tk_at (i := 47) shl_47 (by decide)) fok_0_0 tok_0 fpf_0_0 wl_RX0_11 dX0_init_10 rfl rfl rfl rfl ?_
  refine tj_aload_n (q := 14) dX0_init_13 rfl (i := 0) rfl (pl := 0) rfl ?_
  refine tj_iconst (q := 15) (v := 0) dX0_init_14 rfl (by decide) ?_
  refine c_putI (q := 18) (tk_at (i := 47) shl_47 (by decide)) fok_0_1 tok_0 fpk_0_1 wl_RX0_15 dX0_init_15 rfl rfl rfl ?_
  refine tj_aload_n (q := 19) dX0_init_18 rfl (i := 0) rfl (pl := 0) rfl ?_
  refine tj_iconst (q := 20) (v := 0) dX0_init_19 rfl (by decide) ?_
  refine c_putI (q := 23) (tk_at (i := 47) shl_47 (by decide)) fok_0_2 tok_0 fpk_0_2 wl_RX0_19 dX0_init_20 rfl rfl rfl ?_
  refine tj_aload_n (q := 24) dX0_init_23 rfl (i := 0) rfl (pl := 0) rfl ?_
  refine tj_iconst (q := 25) (v := 0) dX0_init_24 rfl (by decide) ?_
  refine c_putI (q := 28) (tk_at (i := 47) shl_47 (by decide)) fok_0_3 tok_0 fpk_0_3 wl_RX0_22 dX0_init_25 rfl rfl rfl ?_
  refine tj_iconst (q := 29) (v := 0) dX0_init_28 rfl (by decide) ?_
  refine tj_istore_n (q := 30) dX0_init_29 rfl (i := 1) rfl (by decide) rfl ?_
  exact k0_loop 41 0 _ rfl rfl rfl

theorem dX11_init_0 : decode cX11_init 0 = .ok (.aload_n 0, 1) := by decide +kernel
theorem dX11_init_1 : decode cX11_init 1 = .ok (.invokespecial 1, 3) := by decide +kernel
theorem dX11_init_4 : decode cX11_init 4 = .ok (.aload_n 0, 1) := by decide +kernel
theorem dX11_init_5 : decode cX11_init 5 = .ok (.new 7, 3) := by decide +kernel
theorem dX11_init_8 : decode cX11_init 8 = .ok (.dup, 1) := by decide +kernel
theorem dX11_init_9 : decode cX11_init 9 = .ok (.invokespecial 9, 3) := by decide +kernel
theorem dX11_init_12 : decode cX11_init 12 = .ok (.putfield 10, 3) := by decide +kernel
theorem dX11_init_15 : decode cX11_init 15 = .ok (.aload_n 0, 1) := by decide +kernel
theorem dX11_init_16 : decode cX11_init 16 = .ok (.aload_n 0, 1) := by decide +kernel
theorem dX11_init_17 : decode cX11_init 17 = .ok (.getfield 10, 3) := by decide +kernel
theorem dX11_init_20 : decode cX11_init 20 = .ok (.getfield 16, 3) := by decide +kernel
theorem dX11_init_23 : decode cX11_init 23 = .ok (.putfield 20, 3) := by decide +kernel
theorem dX11_init_26 : decode cX11_init 26 = .ok (.aload_n 0, 1) := by decide +kernel
theorem dX11_init_27 : decode cX11_init 27 = .ok (.new 23, 3) := by decide +kernel
theorem dX11_init_30 : decode cX11_init 30 = .ok (.dup, 1) := by decide +kernel
theorem dX11_init_31 : decode cX11_init 31 = .ok (.invokespecial 25, 3) := by decide +kernel
theorem dX11_init_34 : decode cX11_init 34 = .ok (.putfield 26, 3) := by decide +kernel
theorem dX11_init_37 : decode cX11_init 37 = .ok (.aload_n 0, 1) := by decide +kernel
theorem dX11_init_38 : decode cX11_init 38 = .ok (.new 23, 3) := by decide +kernel
theorem dX11_init_41 : decode cX11_init 41 = .ok (.dup, 1) := by decide +kernel
theorem dX11_init_42 : decode cX11_init 42 = .ok (.invokespecial 25, 3) := by decide +kernel
theorem dX11_init_45 : decode cX11_init 45 = .ok (.putfield 30, 3) := by decide +kernel
theorem dX11_init_48 : decode cX11_init 48 = .ok (.aload_n 0, 1) := by decide +kernel
theorem dX11_init_49 : decode cX11_init 49 = .ok (.new 33, 3) := by decide +kernel
theorem dX11_init_52 : decode cX11_init 52 = .ok (.dup, 1) := by decide +kernel
theorem dX11_init_53 : decode cX11_init 53 = .ok (.invokespecial 35, 3) := by decide +kernel
theorem dX11_init_56 : decode cX11_init 56 = .ok (.putfield 36, 3) := by decide +kernel
theorem dX11_init_59 : decode cX11_init 59 = .ok (.aload_n 0, 1) := by decide +kernel
theorem dX11_init_60 : decode cX11_init 60 = .ok (.new 40, 3) := by decide +kernel
theorem dX11_init_63 : decode cX11_init 63 = .ok (.dup, 1) := by decide +kernel
theorem dX11_init_64 : decode cX11_init 64 = .ok (.invokespecial 42, 3) := by decide +kernel
theorem dX11_init_67 : decode cX11_init 67 = .ok (.putfield 43, 3) := by decide +kernel
theorem dX11_init_70 : decode cX11_init 70 = .ok (.aload_n 0, 1) := by decide +kernel
theorem dX11_init_71 : decode cX11_init 71 = .ok (.iconst 3, 1) := by decide +kernel
theorem dX11_init_72 : decode cX11_init 72 = .ok (.anewarray 33, 3) := by decide +kernel
theorem dX11_init_75 : decode cX11_init 75 = .ok (.putfield 47, 3) := by decide +kernel
theorem dX11_init_78 : decode cX11_init 78 = .ok (.aload_n 0, 1) := by decide +kernel
theorem dX11_init_79 : decode cX11_init 79 = .ok (.iconst 0, 1) := by decide +kernel
theorem dX11_init_80 : decode cX11_init 80 = .ok (.putfield 51, 3) := by decide +kernel
theorem dX11_init_83 : decode cX11_init 83 = .ok (.aload_n 0, 1) := by decide +kernel
theorem dX11_init_84 : decode cX11_init 84 = .ok (.bipush 30, 2) := by decide +kernel
theorem dX11_init_86 : decode cX11_init 86 = .ok (.newarray .int, 2) := by decide +kernel
theorem dX11_init_88 : decode cX11_init 88 = .ok (.putfield 55, 3) := by decide +kernel
theorem dX11_init_91 : decode cX11_init 91 = .ok (.aload_n 0, 1) := by decide +kernel
theorem dX11_init_92 : decode cX11_init 92 = .ok (.iconst 0, 1) := by decide +kernel
theorem dX11_init_93 : decode cX11_init 93 = .ok (.putfield 59, 3) := by decide +kernel
theorem dX11_init_96 : decode cX11_init 96 = .ok (.aload_n 0, 1) := by decide +kernel
theorem dX11_init_97 : decode cX11_init 97 = .ok (.new 62, 3) := by decide +kernel
theorem dX11_init_100 : decode cX11_init 100 = .ok (.dup, 1) := by decide +kernel
theorem dX11_init_101 : decode cX11_init 101 = .ok (.invokespecial 64, 3) := by decide +kernel
theorem dX11_init_104 : decode cX11_init 104 = .ok (.putfield 65, 3) := by decide +kernel
theorem dX11_init_107 : decode cX11_init 107 = .ok (.aload_n 0, 1) := by decide +kernel
theorem dX11_init_108 : decode cX11_init 108 = .ok (.iconst 0, 1) := by decide +kernel
theorem dX11_init_109 : decode cX11_init 109 = .ok (.putfield 69, 3) := by decide +kernel
theorem dX11_init_112 : decode cX11_init 112 = .ok (.aload_n 0, 1) := by decide +kernel
theorem dX11_init_113 : decode cX11_init 113 = .ok (.new 72, 3) := by decide +kernel
theorem dX11_init_116 : decode cX11_init 116 = .ok (.dup, 1) := by decide +kernel
theorem dX11_init_117 : decode cX11_init 117 = .ok (.invokespecial 74, 3) := by decide +kernel
theorem dX11_init_120 : decode cX11_init 120 = .ok (.putfield 75, 3) := by decide +kernel
theorem dX11_init_123 : decode cX11_init 123 = .ok (.aload_n 0, 1) := by decide +kernel
theorem dX11_init_124 : decode cX11_init 124 = .ok (.new 79, 3) := by decide +kernel
theorem dX11_init_127 : decode cX11_init 127 = .ok (.dup, 1) := by decide +kernel
theorem dX11_init_128 : decode cX11_init 128 = .ok (.invokespecial 81, 3) := by decide +kernel
theorem dX11_init_131 : decode cX11_init 131 = .ok (.putfield 82, 3) := by decide +kernel
theorem dX11_init_134 : decode cX11_init 134 = .ok (.aload_n 0, 1) := by decide +kernel
theorem dX11_init_135 : decode cX11_init 135 = .ok (.new 86, 3) := by decide +kernel
theorem dX11_init_138 : decode cX11_init 138 = .ok (.dup, 1) := by decide +kernel
theorem dX11_init_139 : decode cX11_init 139 = .ok (.invokespecial 88, 3) := by decide +kernel
theorem dX11_init_142 : decode cX11_init 142 = .ok (.putfield 89, 3) := by decide +kernel
theorem dX11_init_145 : decode cX11_init 145 = .ok (.aload_n 0, 1) := by decide +kernel
theorem dX11_init_146 : decode cX11_init 146 = .ok (.new 33, 3) := by decide +kernel
theorem dX11_init_149 : decode cX11_init 149 = .ok (.dup, 1) := by decide +kernel
theorem dX11_init_150 : decode cX11_init 150 = .ok (.invokespecial 35, 3) := by decide +kernel
theorem dX11_init_153 : decode cX11_init 153 = .ok (.putfield 93, 3) := by decide +kernel
theorem dX11_init_156 : decode cX11_init 156 = .ok (.iconst 0, 1) := by decide +kernel
theorem dX11_init_157 : decode cX11_init 157 = .ok (.istore_n 1, 1) := by decide +kernel
theorem dX11_init_158 : decode cX11_init 158 = .ok (.iload_n 1, 1) := by decide +kernel
theorem dX11_init_159 : decode cX11_init 159 = .ok (.iconst 3, 1) := by decide +kernel
theorem dX11_init_160 : decode cX11_init 160 = .ok (.if_icmp .ge 22, 3) := by decide +kernel
theorem dX11_init_163 : decode cX11_init 163 = .ok (.aload_n 0, 1) := by decide +kernel
theorem dX11_init_164 : decode cX11_init 164 = .ok (.getfield 47, 3) := by decide +kernel
theorem dX11_init_167 : decode cX11_init 167 = .ok (.iload_n 1, 1) := by decide +kernel
theorem dX11_init_168 : decode cX11_init 168 = .ok (.new 33, 3) := by decide +kernel
theorem dX11_init_171 : decode cX11_init 171 = .ok (.dup, 1) := by decide +kernel
theorem dX11_init_172 : decode cX11_init 172 = .ok (.invokespecial 35, 3) := by decide +kernel
theorem dX11_init_175 : decode cX11_init 175 = .ok (.aastore, 1) := by decide +kernel
theorem dX11_init_176 : decode cX11_init 176 = .ok (.iinc 1 1, 3) := by decide +kernel
theorem dX11_init_179 : decode cX11_init 179 = .ok (.goto (-21), 3) := by decide +kernel
theorem dX11_init_182 : decode cX11_init 182 = .ok (.return_, 1) := by decide +kernel
theorem wo_RX11_1 : Cond.methodLink RX11 1 objectInit ∈ TB := tbm 161 (by decide +kernel) (by decide +kernel)
theorem wn_RX11_7 : Cond.classLink RX11 7 RX4 ∈ TB := tbm 164 (by decide +kernel) (by decide +kernel)
theorem wn2_4 : Cond.instantiable RX4 10 ∈ TB := tbm 165 (by decide +kernel) (by decide +kernel)
theorem wn3_4 : Cond.initialized RX4 ∈ TB := tbm 135 (by decide +kernel) (by decide +kernel)
theorem wk_RX11_9 : Ic RX11 9 yX4_init cX4_init 1 := ⟨Or.inr ⟨"BetterThieves", by decide +kernel⟩, tbm 167 (by decide +kernel) (by decide +kernel), tbm 135 (by decide +kernel) (by decide +kernel), tbm 168 (by decide +kernel) (by decide +kernel), rfl, by decide +kernel, by decide⟩
theorem wl_RX11_10 : Cond.fieldLink RX11 10 (TX11 0).1 (TX11 0).2.1 (TX11 0).2.2.1 ∈ TB := tbm 613 (by decide +kernel) (by decide +kernel)
theorem fpf_11_0 : Fpk TX11 0 true (.object "BetterThieves$Reader") := ⟨rfl, by decide +kernel⟩
theorem wl_RX11_16 : Cond.fieldLink RX11 16 (TX4 1).1 (TX4 1).2.1 (TX4 1).2.2.1 ∈ TB := tbm 223 (by decide +kernel) (by decide +kernel)
theorem fpf_11_1 : Fpk TX11 1 true (.object "BetterThieves$Tokens") := ⟨rfl, by decide +kernel⟩
theorem wn_RX11_23 : Cond.classLink RX11 23 RX1 ∈ TB := tbm 254 (by decide +kernel) (by decide +kernel)
theorem wn2_1 : Cond.instantiable RX1 16 ∈ TB := tbm 255 (by decide +kernel) (by decide +kernel)
theorem wn3_1 : Cond.initialized RX1 ∈ TB := tbm 138 (by decide +kernel) (by decide +kernel)
theorem wk_RX11_25 : Ic RX11 25 yX1_init cX1_init 1 := ⟨Or.inr ⟨"BetterThieves", by decide +kernel⟩, tbm 257 (by decide +kernel) (by decide +kernel), tbm 138 (by decide +kernel) (by decide +kernel), tbm 258 (by decide +kernel) (by decide +kernel), rfl, by decide +kernel, by decide⟩
theorem wl_RX11_30 : Cond.fieldLink RX11 30 (TX11 3).1 (TX11 3).2.1 (TX11 3).2.2.1 ∈ TB := tbm 616 (by decide +kernel) (by decide +kernel)
theorem wn_RX11_33 : Cond.classLink RX11 33 RX8 ∈ TB := tbm 373 (by decide +kernel) (by decide +kernel)
theorem wk_RX11_35 : Ic RX11 35 yX8_init cX8_init 1 := ⟨Or.inr ⟨"BetterThieves", by decide +kernel⟩, tbm 376 (by decide +kernel) (by decide +kernel), tbm 140 (by decide +kernel) (by decide +kernel), tbm 377 (by decide +kernel) (by decide +kernel), rfl, by decide +kernel, by decide⟩
theorem fpf_11_4 : Fpk TX11 4 true (.object "BetterThieves$State") := ⟨rfl, by decide +kernel⟩
theorem wn_RX11_40 : Cond.classLink RX11 40 RX0 ∈ TB := tbm 408 (by decide +kernel) (by decide +kernel)
theorem wn2_0 : Cond.instantiable RX0 4 ∈ TB := tbm 409 (by decide +kernel) (by decide +kernel)
theorem wn3_0 : Cond.initialized RX0 ∈ TB := tbm 141 (by decide +kernel) (by decide +kernel)
theorem wk_RX11_42 : Ic RX11 42 yX0_init cX0_init 2 := ⟨Or.inl (tbm 410 (by decide +kernel) (by decide +kernel)), tbm 411 (by decide +kernel) (by decide +kernel), tbm 141 (by decide +kernel) (by decide +kernel), tbm 412 (by decide +kernel) (by decide +kernel), rfl, by decide +kernel, by decide⟩
theorem fpf_11_5 : Fpk TX11 5 true (.object "BetterThieves$Acts") := ⟨rfl, by decide +kernel⟩
theorem fpf_11_6 : Fpk TX11 6 true (.array (.object "BetterThieves$State")) := ⟨rfl, by decide +kernel⟩
theorem fpf_11_8 : Fpk TX11 8 true (.array .int) := ⟨rfl, by decide +kernel⟩
theorem wn_RX11_62 : Cond.classLink RX11 62 RX5 ∈ TB := tbm 432 (by decide +kernel) (by decide +kernel)
theorem wn2_5 : Cond.instantiable RX5 15 ∈ TB := tbm 433 (by decide +kernel) (by decide +kernel)
theorem wn3_5 : Cond.initialized RX5 ∈ TB := tbm 142 (by decide +kernel) (by decide +kernel)
theorem wk_RX11_64 : Ic RX11 64 yX5_init cX5_init 1 := ⟨Or.inr ⟨"BetterThieves", by decide +kernel⟩, tbm 435 (by decide +kernel) (by decide +kernel), tbm 142 (by decide +kernel) (by decide +kernel), tbm 436 (by decide +kernel) (by decide +kernel), rfl, by decide +kernel, by decide⟩
theorem fpf_11_10 : Fpk TX11 10 true (.object "BetterThieves$Reports") := ⟨rfl, by decide +kernel⟩
theorem wn_RX11_72 : Cond.classLink RX11 72 RX9 ∈ TB := tbm 492 (by decide +kernel) (by decide +kernel)
theorem wk_RX11_74 : Ic RX11 74 yX9_init cX9_init 1 := ⟨Or.inr ⟨"BetterThieves", by decide +kernel⟩, tbm 495 (by decide +kernel) (by decide +kernel), tbm 143 (by decide +kernel) (by decide +kernel), tbm 496 (by decide +kernel) (by decide +kernel), rfl, by decide +kernel, by decide⟩
theorem fpf_11_12 : Fpk TX11 12 true (.object "BetterThieves$Swaps") := ⟨rfl, by decide +kernel⟩
theorem wn_RX11_79 : Cond.classLink RX11 79 RX6 ∈ TB := tbm 545 (by decide +kernel) (by decide +kernel)
theorem wn2_6 : Cond.instantiable RX6 5 ∈ TB := tbm 546 (by decide +kernel) (by decide +kernel)
theorem wn3_6 : Cond.initialized RX6 ∈ TB := tbm 144 (by decide +kernel) (by decide +kernel)
theorem wk_RX11_81 : Ic RX11 81 yX6_init cX6_init 1 := ⟨Or.inr ⟨"BetterThieves", by decide +kernel⟩, tbm 548 (by decide +kernel) (by decide +kernel), tbm 144 (by decide +kernel) (by decide +kernel), tbm 549 (by decide +kernel) (by decide +kernel), rfl, by decide +kernel, by decide⟩
theorem fpf_11_13 : Fpk TX11 13 true (.object "BetterThieves$Rounds") := ⟨rfl, by decide +kernel⟩
theorem wn_RX11_86 : Cond.classLink RX11 86 RX7 ∈ TB := tbm 575 (by decide +kernel) (by decide +kernel)
theorem wn2_7 : Cond.instantiable RX7 9 ∈ TB := tbm 576 (by decide +kernel) (by decide +kernel)
theorem wn3_7 : Cond.initialized RX7 ∈ TB := tbm 145 (by decide +kernel) (by decide +kernel)
theorem wk_RX11_88 : Ic RX11 88 yX7_init cX7_init 1 := ⟨Or.inr ⟨"BetterThieves", by decide +kernel⟩, tbm 578 (by decide +kernel) (by decide +kernel), tbm 145 (by decide +kernel) (by decide +kernel), tbm 579 (by decide +kernel) (by decide +kernel), rfl, by decide +kernel, by decide⟩
theorem fpf_11_14 : Fpk TX11 14 true (.object "BetterThieves$Search") := ⟨rfl, by decide +kernel⟩
theorem fpf_11_15 : Fpk TX11 15 true (.object "BetterThieves$State") := ⟨rfl, by decide +kernel⟩
def cS11_0 (ρ : Rh_) : Rh_ :=
 (pR (cE1 28 (nwR (pR (cE1 12 (nwR (pR (pR (cE4 (nwR ρ 1)) 0 0 1) 0 1 3) 12)) 0 2 12) 28)) 0 3 28)
set_option maxHeartbeats 4000000 in
set_option maxRecDepth 20000 in
theorem k11_0 {f : Unit → Out_} (ρ : Rh_) (kk : Tj l D cA h0 ad RX11 cX11_init 2 none true 5 232 19836 f 43 8569 (SHL.take 44) (cS11_0 ρ).1 (cS11_0 ρ).2 48 [(0, .ref (h0 + 0))] [] (some ())) : Tj l D cA h0 ad RX11 cX11_init 2 none true 5 232 19836 f 0 0 (SHL.take 1) (ρ).1 (ρ).2 0 [(0, .ref (h0 + 0))] [] (some ()) := by
  refine tj_aload_n (q := 1) dX11_init_0 rfl (i := 0) rfl (pl := 0) rfl ?_
  refine c_obj (q := 4) wo_RX11_1 wo_i wo_c dX11_init_1 rfl (Nat.le_of_ble_eq_true rfl) (Nat.le_of_ble_eq_true rfl) ?_
  refine tj_aload_n (q := 5) dX11_init_4 rfl (i := 0) rfl (pl := 0) rfl ?_
  refine c_new (q := 8) (ci := 4) rfl iX4 tok_4 dok_4 rfl shl_1 wn_RX11_7 wn2_4 wn3_4 (Nat.le_of_ble_eq_true rfl) (Nat.le_of_ble_eq_true rfl) dX11_init_5 rfl ?_
  refine tj_dup (q := 9) dX11_init_8 rfl rfl ?_
  refine c_call (q := 12) wk_RX11_9 (k4 _) (Nat.le_of_ble_eq_true rfl) ⟨(Nat.le_of_ble_eq_true rfl), (Nat.le_of_ble_eq_true rfl)⟩ (Nat.le_of_ble_eq_true rfl) dX11_init_9 rfl ?_
  refine c_putF (q := 15) (j := 1) (tk_at (i := 0) shl_0 (by decide)) fok_11_0 tok_11 fpf_11_0 wl_RX11_10 dX11_init_12 rfl rfl rfl rfl ?_
  refine tj_aload_n (q := 16) dX11_init_15 rfl (i := 0) rfl (pl := 0) rfl ?_
  refine tj_aload_n (q := 17) dX11_init_16 rfl (i := 0) rfl (pl := 0) rfl ?_
  refine tj_getR (k := 0) (q := 20) (j := 1) (tk_at (i := 0) shl_0 (by decide)) rfl fok_11_0 wl_RX11_10 dX11_init_17 rfl ?_
  refine tj_getR (k := 1) (q := 23) (j := 3) (tk_at (i := 1) shl_1 (by decide)) rfl fok_4_1 wl_RX11_16 dX11_init_20 rfl ?_
  refine c_putF (q := 26) (j := 3) (tk_at (i := 0) shl_0 (by decide)) fok_11_1 tok_11 fpf_11_1 wl_RX11_20 dX11_init_23 rfl rfl rfl rfl ?_
  refine tj_aload_n (q := 27) dX11_init_26 rfl (i := 0) rfl (pl := 0) rfl ?_
  refine c_new (q := 30) (ci := 1) rfl iX1 tok_1 dok_1 rfl shl_12 wn_RX11_23 wn2_1 wn3_1 (Nat.le_of_ble_eq_true rfl) (Nat.le_of_ble_eq_true rfl) dX11_init_27 rfl ?_
  refine tj_dup (q := 31) dX11_init_30 rfl rfl ?_
  refine c_call (q := 34) wk_RX11_25 (k1 12 _ shl_12 shl_13 shl_14 shl_15 shl_16 shl_17 shl_18 shl_19 shl_20 shl_21 shl_22 shl_23 shl_24 shl_25 shl_26 shl_27) (Nat.le_of_ble_eq_true rfl) ⟨(Nat.le_of_ble_eq_true rfl), (Nat.le_of_ble_eq_true rfl)⟩ (Nat.le_of_ble_eq_true rfl) dX11_init_31 rfl ?_
  refine c_putR (q := 37) (j := 12) (tk_at (i := 0) shl_0 (by decide)) fok_11_2 tok_11 fpk_11_2 wl_RX11_26 dX11_init_34 rfl rfl rfl ?_
  refine tj_aload_n (q := 38) dX11_init_37 rfl (i := 0) rfl (pl := 0) rfl ?_
  refine c_new (q := 41) (ci := 1) rfl iX1 tok_1 dok_1 rfl shl_28 wn_RX11_23 wn2_1 wn3_1 (Nat.le_of_ble_eq_true rfl) (Nat.le_of_ble_eq_true rfl) dX11_init_38 rfl ?_
  refine tj_dup (q := 42) dX11_init_41 rfl rfl ?_
  refine c_call (q := 45) wk_RX11_25 (k1 28 _ shl_28 shl_29 shl_30 shl_31 shl_32 shl_33 shl_34 shl_35 shl_36 shl_37 shl_38 shl_39 shl_40 shl_41 shl_42 shl_43) (Nat.le_of_ble_eq_true rfl) ⟨(Nat.le_of_ble_eq_true rfl), (Nat.le_of_ble_eq_true rfl)⟩ (Nat.le_of_ble_eq_true rfl) dX11_init_42 rfl ?_
  refine c_putR (q := 48) (j := 28) (tk_at (i := 0) shl_0 (by decide)) fok_11_3 tok_11 fpk_11_3 wl_RX11_30 dX11_init_45 rfl rfl rfl ?_
  exact kk

def cS11_1 (ρ : Rh_) : Rh_ :=
 (pI (pR (nwR (pI (pR (nwR (pR (cE0 (nwR (pR (cE8 44 (nwR ρ 44)) 0 4 44) 47)) 0 5 47) 172) 0 6 172) 0 7 (0 : Int32)) 173) 0 8 173) 0 9 (0 : Int32))
set_option maxHeartbeats 4000000 in
set_option maxRecDepth 20000 in
theorem k11_1 {f : Unit → Out_} (ρ : Rh_) (kk : Tj l D cA h0 ad RX11 cX11_init 2 none true 5 232 19836 f 173 9403 (SHL.take 174) (cS11_1 ρ).1 (cS11_1 ρ).2 96 [(0, .ref (h0 + 0))] [] (some ())) : Tj l D cA h0 ad RX11 cX11_init 2 none true 5 232 19836 f 43 8569 (SHL.take 44) (ρ).1 (ρ).2 48 [(0, .ref (h0 + 0))] [] (some ()) := by
  refine tj_aload_n (q := 49) dX11_init_48 rfl (i := 0) rfl (pl := 0) rfl ?_
  refine c_new (q := 52) (ci := 8) rfl iX8 tok_8 dok_8 rfl shl_44 wn_RX11_33 wn2_8 wn3_8 (Nat.le_of_ble_eq_true rfl) (Nat.le_of_ble_eq_true rfl) dX11_init_49 rfl ?_
  refine tj_dup (q := 53) dX11_init_52 rfl rfl ?_
  refine c_call (q := 56) wk_RX11_35 (k8 44 _ shl_44 shl_45 shl_46) (Nat.le_of_ble_eq_true rfl) ⟨(Nat.le_of_ble_eq_true rfl), (Nat.le_of_ble_eq_true rfl)⟩ (Nat.le_of_ble_eq_true rfl) dX11_init_53 rfl ?_
  refine c_putF (q := 59) (j := 44) (tk_at (i := 0) shl_0 (by decide)) fok_11_4 tok_11 fpf_11_4 wl_RX11_36 dX11_init_56 rfl rfl rfl rfl ?_
  refine tj_aload_n (q := 60) dX11_init_59 rfl (i := 0) rfl (pl := 0) rfl ?_
  refine c_new (q := 63) (ci := 0) rfl iX0 tok_0 dok_0 rfl shl_47 wn_RX11_40 wn2_0 wn3_0 (Nat.le_of_ble_eq_true rfl) (Nat.le_of_ble_eq_true rfl) dX11_init_60 rfl ?_
  refine tj_dup (q := 64) dX11_init_63 rfl rfl ?_
  refine c_call (q := 67) wk_RX11_42 (k0 _) (Nat.le_of_ble_eq_true rfl) ⟨(Nat.le_of_ble_eq_true rfl), (Nat.le_of_ble_eq_true rfl)⟩ (Nat.le_of_ble_eq_true rfl) dX11_init_64 rfl ?_
  refine c_putF (q := 70) (j := 47) (tk_at (i := 0) shl_0 (by decide)) fok_11_5 tok_11 fpf_11_5 wl_RX11_43 dX11_init_67 rfl rfl rfl rfl ?_
  refine tj_aload_n (q := 71) dX11_init_70 rfl (i := 0) rfl (pl := 0) rfl ?_
  refine tj_iconst (q := 72) (v := 3) dX11_init_71 rfl (by decide) ?_
  refine c_anew (q := 75) (N := 3) (by decide) (by decide) shl_172 wn_RX11_33 (Nat.le_of_ble_eq_true rfl) (Nat.le_of_ble_eq_true rfl) dX11_init_72 rfl ?_
  refine c_putF (q := 78) (j := 172) (tk_at (i := 0) shl_0 (by decide)) fok_11_6 tok_11 fpf_11_6 wl_RX11_47 dX11_init_75 rfl rfl rfl rfl ?_
  refine tj_aload_n (q := 79) dX11_init_78 rfl (i := 0) rfl (pl := 0) rfl ?_
  refine tj_iconst (q := 80) (v := 0) dX11_init_79 rfl (by decide) ?_
  refine c_putI (q := 83) (tk_at (i := 0) shl_0 (by decide)) fok_11_7 tok_11 fpk_11_7 wl_RX11_51 dX11_init_80 rfl rfl rfl ?_
  refine tj_aload_n (q := 84) dX11_init_83 rfl (i := 0) rfl (pl := 0) rfl ?_
  refine tj_bipush (q := 86) (v := 30) dX11_init_84 rfl (by decide) ?_
  refine c_newaI (q := 88) (N := 30) (by decide) (by decide) shl_173 wa_int (Nat.le_of_ble_eq_true rfl) (Nat.le_of_ble_eq_true rfl) dX11_init_86 rfl ?_
  refine c_putF (q := 91) (j := 173) (tk_at (i := 0) shl_0 (by decide)) fok_11_8 tok_11 fpf_11_8 wl_RX11_55 dX11_init_88 rfl rfl rfl rfl ?_
  refine tj_aload_n (q := 92) dX11_init_91 rfl (i := 0) rfl (pl := 0) rfl ?_
  refine tj_iconst (q := 93) (v := 0) dX11_init_92 rfl (by decide) ?_
  refine c_putI (q := 96) (tk_at (i := 0) shl_0 (by decide)) fok_11_9 tok_11 fpk_11_9 wl_RX11_59 dX11_init_93 rfl rfl rfl ?_
  exact kk

def cS11_2 (ρ : Rh_) : Rh_ :=
 (pR (cE7 (nwR (pR (cE6 (nwR (pR (cE9 183 (nwR (pI (pR (cE5 (nwR ρ 174)) 0 10 174) 0 11 (0 : Int32)) 183)) 0 12 183) 192)) 0 13 192) 205)) 0 14 205)
set_option maxHeartbeats 4000000 in
set_option maxRecDepth 20000 in
theorem k11_2 {f : Unit → Out_} (ρ : Rh_) (kk : Tj l D cA h0 ad RX11 cX11_init 2 none true 5 232 19836 f 220 19764 (SHL.take 221) (cS11_2 ρ).1 (cS11_2 ρ).2 145 [(0, .ref (h0 + 0))] [] (some ())) : Tj l D cA h0 ad RX11 cX11_init 2 none true 5 232 19836 f 173 9403 (SHL.take 174) (ρ).1 (ρ).2 96 [(0, .ref (h0 + 0))] [] (some ()) := by
  refine tj_aload_n (q := 97) dX11_init_96 rfl (i := 0) rfl (pl := 0) rfl ?_
  refine c_new (q := 100) (ci := 5) rfl iX5 tok_5 dok_5 rfl shl_174 wn_RX11_62 wn2_5 wn3_5 (Nat.le_of_ble_eq_true rfl) (Nat.le_of_ble_eq_true rfl) dX11_init_97 rfl ?_
  refine tj_dup (q := 101) dX11_init_100 rfl rfl ?_
  refine c_call (q := 104) wk_RX11_64 (k5 _) (Nat.le_of_ble_eq_true rfl) ⟨(Nat.le_of_ble_eq_true rfl), (Nat.le_of_ble_eq_true rfl)⟩ (Nat.le_of_ble_eq_true rfl) dX11_init_101 rfl ?_
  refine c_putF (q := 107) (j := 174) (tk_at (i := 0) shl_0 (by decide)) fok_11_10 tok_11 fpf_11_10 wl_RX11_65 dX11_init_104 rfl rfl rfl rfl ?_
  refine tj_aload_n (q := 108) dX11_init_107 rfl (i := 0) rfl (pl := 0) rfl ?_
  refine tj_iconst (q := 109) (v := 0) dX11_init_108 rfl (by decide) ?_
  refine c_putI (q := 112) (tk_at (i := 0) shl_0 (by decide)) fok_11_11 tok_11 fpk_11_11 wl_RX11_69 dX11_init_109 rfl rfl rfl ?_
  refine tj_aload_n (q := 113) dX11_init_112 rfl (i := 0) rfl (pl := 0) rfl ?_
  refine c_new (q := 116) (ci := 9) rfl iX9 tok_9 dok_9 rfl shl_183 wn_RX11_72 wn2_9 wn3_9 (Nat.le_of_ble_eq_true rfl) (Nat.le_of_ble_eq_true rfl) dX11_init_113 rfl ?_
  refine tj_dup (q := 117) dX11_init_116 rfl rfl ?_
  refine c_call (q := 120) wk_RX11_74 (k9 183 _ shl_183 shl_184 shl_185 shl_186 shl_187 shl_188 shl_189 shl_190 shl_191) (Nat.le_of_ble_eq_true rfl) ⟨(Nat.le_of_ble_eq_true rfl), (Nat.le_of_ble_eq_true rfl)⟩ (Nat.le_of_ble_eq_true rfl) dX11_init_117 rfl ?_
  refine c_putF (q := 123) (j := 183) (tk_at (i := 0) shl_0 (by decide)) fok_11_12 tok_11 fpf_11_12 wl_RX11_75 dX11_init_120 rfl rfl rfl rfl ?_
  refine tj_aload_n (q := 124) dX11_init_123 rfl (i := 0) rfl (pl := 0) rfl ?_
  refine c_new (q := 127) (ci := 6) rfl iX6 tok_6 dok_6 rfl shl_192 wn_RX11_79 wn2_6 wn3_6 (Nat.le_of_ble_eq_true rfl) (Nat.le_of_ble_eq_true rfl) dX11_init_124 rfl ?_
  refine tj_dup (q := 128) dX11_init_127 rfl rfl ?_
  refine c_call (q := 131) wk_RX11_81 (k6 _) (Nat.le_of_ble_eq_true rfl) ⟨(Nat.le_of_ble_eq_true rfl), (Nat.le_of_ble_eq_true rfl)⟩ (Nat.le_of_ble_eq_true rfl) dX11_init_128 rfl ?_
  refine c_putF (q := 134) (j := 192) (tk_at (i := 0) shl_0 (by decide)) fok_11_13 tok_11 fpf_11_13 wl_RX11_82 dX11_init_131 rfl rfl rfl rfl ?_
  refine tj_aload_n (q := 135) dX11_init_134 rfl (i := 0) rfl (pl := 0) rfl ?_
  refine c_new (q := 138) (ci := 7) rfl iX7 tok_7 dok_7 rfl shl_205 wn_RX11_86 wn2_7 wn3_7 (Nat.le_of_ble_eq_true rfl) (Nat.le_of_ble_eq_true rfl) dX11_init_135 rfl ?_
  refine tj_dup (q := 139) dX11_init_138 rfl rfl ?_
  refine c_call (q := 142) wk_RX11_88 (k7 _) (Nat.le_of_ble_eq_true rfl) ⟨(Nat.le_of_ble_eq_true rfl), (Nat.le_of_ble_eq_true rfl)⟩ (Nat.le_of_ble_eq_true rfl) dX11_init_139 rfl ?_
  refine c_putF (q := 145) (j := 205) (tk_at (i := 0) shl_0 (by decide)) fok_11_14 tok_11 fpf_11_14 wl_RX11_89 dX11_init_142 rfl rfl rfl rfl ?_
  exact kk

def cS11_3 (ρ : Rh_) : Rh_ :=
 (pR (cE8 224 (nwR (pR (cE8 221 (nwR ρ 221)) 0 15 221) 224)) 172 0 224)
set_option maxHeartbeats 4000000 in
set_option maxRecDepth 20000 in
theorem k11_3 {f : Unit → Out_} (ρ : Rh_) (hp_0_6 : ρ.1 0 6 = some (172)) (kk : Tj l D cA h0 ad RX11 cX11_init 2 none true 5 232 19836 f 226 19800 (SHL.take 227) (cS11_3 ρ).1 (cS11_3 ρ).2 163 [(1, .int 1), (0, .ref (h0 + 0))] [] (some ())) : Tj l D cA h0 ad RX11 cX11_init 2 none true 5 232 19836 f 220 19764 (SHL.take 221) (ρ).1 (ρ).2 145 [(0, .ref (h0 + 0))] [] (some ()) := by
  refine tj_aload_n (q := 146) dX11_init_145 rfl (i := 0) rfl (pl := 0) rfl ?_
  refine c_new (q := 149) (ci := 8) rfl iX8 tok_8 dok_8 rfl shl_221 wn_RX11_33 wn2_8 wn3_8 (Nat.le_of_ble_eq_true rfl) (Nat.le_of_ble_eq_true rfl) dX11_init_146 rfl ?_
  refine tj_dup (q := 150) dX11_init_149 rfl rfl ?_
  refine c_call (q := 153) wk_RX11_35 (k8 221 _ shl_221 shl_222 shl_223) (Nat.le_of_ble_eq_true rfl) ⟨(Nat.le_of_ble_eq_true rfl), (Nat.le_of_ble_eq_true rfl)⟩ (Nat.le_of_ble_eq_true rfl) dX11_init_150 rfl ?_
  refine c_putF (q := 156) (j := 221) (tk_at (i := 0) shl_0 (by decide)) fok_11_15 tok_11 fpf_11_15 wl_RX11_93 dX11_init_153 rfl rfl rfl rfl ?_
  refine tj_iconst (q := 157) (v := 0) dX11_init_156 rfl (by decide) ?_
  refine tj_istore_n (q := 158) dX11_init_157 rfl (i := 1) rfl (by decide) rfl ?_
  refine tj_iload_n (q := 159) dX11_init_158 rfl (i := 1) rfl (pl := 0) rfl ?_
  refine tj_iconst (q := 160) (v := 3) dX11_init_159 rfl (by decide) ?_
  refine c_geN (tgt := 182) (q := 163) (by decide) dX11_init_160 (by decide) rfl ?_
  refine tj_aload_n (q := 164) dX11_init_163 rfl (i := 0) rfl (pl := 1) rfl ?_
  refine tj_getR (k := 6) (q := 167) (j := 172) (tk_at (i := 0) shl_0 (by decide)) (show _ = some (172) from hp_0_6) fok_11_6 wl_RX11_47 dX11_init_164 rfl ?_
  refine tj_iload_n (q := 168) dX11_init_167 rfl (i := 1) rfl (pl := 0) rfl ?_
  refine c_new (q := 171) (ci := 8) rfl iX8 tok_8 dok_8 rfl shl_224 wn_RX11_33 wn2_8 wn3_8 (Nat.le_of_ble_eq_true rfl) (Nat.le_of_ble_eq_true rfl) dX11_init_168 rfl ?_
  refine tj_dup (q := 172) dX11_init_171 rfl rfl ?_
  refine c_call (q := 175) wk_RX11_35 (k8 224 _ shl_224 shl_225 shl_226) (Nat.le_of_ble_eq_true rfl) ⟨(Nat.le_of_ble_eq_true rfl), (Nat.le_of_ble_eq_true rfl)⟩ (Nat.le_of_ble_eq_true rfl) dX11_init_172 rfl ?_
  refine c_aast (q := 176) (k := 0) (N := 3) (v := 224) (t := 172) (tk_at (i := 172) shl_172 (by decide)) (tk_at (i := 224) shl_224 (by decide)) (by decide) (by decide) (by decide) dX11_init_175 rfl ?_
  refine tj_iinc (q := 179) (v := 1) dX11_init_176 rfl (pl := 0) rfl (by decide) (by decide) rfl ?_
  refine tj_goto (q := 158) dX11_init_179 (by decide) ?_
  refine tj_iload_n (q := 159) dX11_init_158 rfl (i := 1) rfl (pl := 0) rfl ?_
  refine tj_iconst (q := 160) (v := 3) dX11_init_159 rfl (by decide) ?_
  refine c_geN (tgt := 182) (q := 163) (by decide) dX11_init_160 (by decide) rfl ?_
  exact kk

def cS11_4 (ρ : Rh_) : Rh_ :=
 (pR (cE8 230 (nwR (pR (cE8 227 (nwR ρ 227)) 172 1 227) 230)) 172 2 230)
set_option maxHeartbeats 4000000 in
set_option maxRecDepth 20000 in
theorem k11_4 {f : Unit → Out_} (ρ : Rh_) (hp_0_6 : ρ.1 0 6 = some (172)) (kk : Tj l D cA h0 ad RX11 cX11_init 2 none true 5 232 19836 f 232 19836 (SHL.take 233) (cS11_4 ρ).1 (cS11_4 ρ).2 182 [(1, .int 3), (0, .ref (h0 + 0))] [] (some ())) : Tj l D cA h0 ad RX11 cX11_init 2 none true 5 232 19836 f 226 19800 (SHL.take 227) (ρ).1 (ρ).2 163 [(1, .int 1), (0, .ref (h0 + 0))] [] (some ()) := by
  refine tj_aload_n (q := 164) dX11_init_163 rfl (i := 0) rfl (pl := 1) rfl ?_
  refine tj_getR (k := 6) (q := 167) (j := 172) (tk_at (i := 0) shl_0 (by decide)) (show _ = some (172) from hp_0_6) fok_11_6 wl_RX11_47 dX11_init_164 rfl ?_
  refine tj_iload_n (q := 168) dX11_init_167 rfl (i := 1) rfl (pl := 0) rfl ?_
  refine c_new (q := 171) (ci := 8) rfl iX8 tok_8 dok_8 rfl shl_227 wn_RX11_33 wn2_8 wn3_8 (Nat.le_of_ble_eq_true rfl) (Nat.le_of_ble_eq_true rfl) dX11_init_168 rfl ?_
  refine tj_dup (q := 172) dX11_init_171 rfl rfl ?_
  refine c_call (q := 175) wk_RX11_35 (k8 227 _ shl_227 shl_228 shl_229) (Nat.le_of_ble_eq_true rfl) ⟨(Nat.le_of_ble_eq_true rfl), (Nat.le_of_ble_eq_true rfl)⟩ (Nat.le_of_ble_eq_true rfl) dX11_init_172 rfl ?_
  refine c_aast (q := 176) (k := 1) (N := 3) (v := 227) (t := 172) (tk_at (i := 172) shl_172 (by decide)) (tk_at (i := 227) shl_227 (by decide)) (by decide) (by decide) (by decide) dX11_init_175 rfl ?_
  refine tj_iinc (q := 179) (v := 2) dX11_init_176 rfl (pl := 0) rfl (by decide) (by decide) rfl ?_
  refine tj_goto (q := 158) dX11_init_179 (by decide) ?_
  refine tj_iload_n (q := 159) dX11_init_158 rfl (i := 1) rfl (pl := 0) rfl ?_
  refine tj_iconst (q := 160) (v := 3) dX11_init_159 rfl (by decide) ?_
  refine c_geN (tgt := 182) (q := 163) (by decide) dX11_init_160 (by decide) rfl ?_
  refine tj_aload_n (q := 164) dX11_init_163 rfl (i := 0) rfl (pl := 1) rfl ?_
  refine tj_getR (k := 6) (q := 167) (j := 172) (tk_at (i := 0) shl_0 (by decide)) (show _ = some (172) from hp_0_6) fok_11_6 wl_RX11_47 dX11_init_164 rfl ?_
  refine tj_iload_n (q := 168) dX11_init_167 rfl (i := 1) rfl (pl := 0) rfl ?_
  refine c_new (q := 171) (ci := 8) rfl iX8 tok_8 dok_8 rfl shl_230 wn_RX11_33 wn2_8 wn3_8 (Nat.le_of_ble_eq_true rfl) (Nat.le_of_ble_eq_true rfl) dX11_init_168 rfl ?_
  refine tj_dup (q := 172) dX11_init_171 rfl rfl ?_
  refine c_call (q := 175) wk_RX11_35 (k8 230 _ shl_230 shl_231 shl_232) (Nat.le_of_ble_eq_true rfl) ⟨(Nat.le_of_ble_eq_true rfl), (Nat.le_of_ble_eq_true rfl)⟩ (Nat.le_of_ble_eq_true rfl) dX11_init_172 rfl ?_
  refine c_aast (q := 176) (k := 2) (N := 3) (v := 230) (t := 172) (tk_at (i := 172) shl_172 (by decide)) (tk_at (i := 230) shl_230 (by decide)) (by decide) (by decide) (by decide) dX11_init_175 rfl ?_
  refine tj_iinc (q := 179) (v := 3) dX11_init_176 rfl (pl := 0) rfl (by decide) (by decide) rfl ?_
  refine tj_goto (q := 158) dX11_init_179 (by decide) ?_
  refine tj_iload_n (q := 159) dX11_init_158 rfl (i := 1) rfl (pl := 0) rfl ?_
  refine tj_iconst (q := 160) (v := 3) dX11_init_159 rfl (by decide) ?_
  refine c_geY (tgt := 182) (by decide) dX11_init_160 (by decide) ?_
  exact kk

def cS11_5 (ρ : Rh_) : Rh_ :=
 ρ
set_option maxHeartbeats 4000000 in
set_option maxRecDepth 20000 in
theorem k11_5 {f : Unit → Out_} (ρ : Rh_) (hf : f () = (none, SHL.take 233, (cS11_5 ρ).1, (cS11_5 ρ).2)) : Tj l D cA h0 ad RX11 cX11_init 2 none true 5 232 19836 f 232 19836 (SHL.take 233) (ρ).1 (ρ).2 182 [(1, .int 3), (0, .ref (h0 + 0))] [] (some ()) := by
  exact tj_vret rfl hf (Nat.le_of_ble_eq_true rfl) (Nat.le_of_ble_eq_true rfl) dX11_init_182

def cE11 (ρ : Rh_) : Rh_ := cS11_5 (cS11_4 (cS11_3 (cS11_2 (cS11_1 (cS11_0 ρ)))))
set_option maxHeartbeats 4000000 in
set_option maxRecDepth 20000 in
theorem k11 (ρ : Rh_) : Rj l D cA h0 ad yX11_init cX11_init 2 none true 5 232 19836 (fun _ : Unit => (none, SHL.take 233, (cE11 ρ).1, (cE11 ρ).2)) [.ref (h0 + 0)] (SHL.take 1) ρ.1 ρ.2 (some ()) := by
  refine Rj.of (by decide) (fun _ => rfl) (Nat.le_of_ble_eq_true rfl) ?_
  refine tj_lv0 (lv' := [(0, .ref (h0 + 0))]) rfl ?_
  refine k11_0 _ ?_
  refine k11_1 _ ?_
  refine k11_2 _ ?_
  refine k11_3 _ rfl ?_
  refine k11_4 _ rfl ?_
  exact k11_5 _ rfl

end
