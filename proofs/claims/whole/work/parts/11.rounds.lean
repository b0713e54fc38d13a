section
variable {l : Launch} {D : va_G} {cA : Nat → ClassId} {h0 : Nat} {ad : Ad_} {sh : Sh_} {P : Px_} {σ : St_}
theorem dX6_run_0 : decode cX6_run 0 = .ok (.aload_n 0, 1) := by decide +kernel
theorem dX6_run_1 : decode cX6_run 1 = .ok (.getfield 21, 3) := by decide +kernel
theorem dX6_run_4 : decode cX6_run 4 = .ok (.aload_n 2, 1) := by decide +kernel
theorem dX6_run_5 : decode cX6_run 5 = .ok (.invokevirtual 35, 3) := by decide +kernel
theorem dX6_run_8 : decode cX6_run 8 = .ok (.iconst 0, 1) := by decide +kernel
theorem dX6_run_9 : decode cX6_run 9 = .ok (.istore 5, 2) := by decide +kernel
theorem dX6_run_11 : decode cX6_run 11 = .ok (.iconst 1, 1) := by decide +kernel
theorem dX6_run_12 : decode cX6_run 12 = .ok (.istore 6, 2) := by decide +kernel
theorem dX6_run_14 : decode cX6_run 14 = .ok (.iload 6, 2) := by decide +kernel
theorem dX6_run_16 : decode cX6_run 16 = .ok (.iload_n 3, 1) := by decide +kernel
theorem dX6_run_17 : decode cX6_run 17 = .ok (.if_icmp .gt 137, 3) := by decide +kernel
theorem dX6_run_20 : decode cX6_run 20 = .ok (.iinc 5 1, 3) := by decide +kernel
theorem dX6_run_23 : decode cX6_run 23 = .ok (.iconst 0, 1) := by decide +kernel
theorem dX6_run_24 : decode cX6_run 24 = .ok (.istore 7, 2) := by decide +kernel
theorem dX6_run_26 : decode cX6_run 26 = .ok (.iload 7, 2) := by decide +kernel
theorem dX6_run_28 : decode cX6_run 28 = .ok (.aload_n 1, 1) := by decide +kernel
theorem dX6_run_29 : decode cX6_run 29 = .ok (.getfield 39, 3) := by decide +kernel
theorem dX6_run_32 : decode cX6_run 32 = .ok (.if_icmp .ge 95, 3) := by decide +kernel
theorem dX6_run_35 : decode cX6_run 35 = .ok (.aload_n 0, 1) := by decide +kernel
theorem dX6_run_36 : decode cX6_run 36 = .ok (.getfield 12, 3) := by decide +kernel
theorem dX6_run_39 : decode cX6_run 39 = .ok (.aload_n 1, 1) := by decide +kernel
theorem dX6_run_40 : decode cX6_run 40 = .ok (.aload_n 0, 1) := by decide +kernel
theorem dX6_run_41 : decode cX6_run 41 = .ok (.getfield 21, 3) := by decide +kernel
theorem dX6_run_44 : decode cX6_run 44 = .ok (.iload 7, 2) := by decide +kernel
theorem dX6_run_46 : decode cX6_run 46 = .ok (.invokevirtual 44, 3) := by decide +kernel
theorem dX6_run_49 : decode cX6_run 49 = .ok (.aload_n 0, 1) := by decide +kernel
theorem dX6_run_50 : decode cX6_run 50 = .ok (.getfield 12, 3) := by decide +kernel
theorem dX6_run_53 : decode cX6_run 53 = .ok (.invokevirtual 48, 3) := by decide +kernel
theorem dX6_run_56 : decode cX6_run 56 = .ok (.istore 8, 2) := by decide +kernel
theorem dX6_run_58 : decode cX6_run 58 = .ok (.iload 8, 2) := by decide +kernel
theorem dX6_run_60 : decode cX6_run 60 = .ok (.iconst (-1), 1) := by decide +kernel
theorem dX6_run_61 : decode cX6_run 61 = .ok (.if_icmp .eq 60, 3) := by decide +kernel
theorem dX6_run_64 : decode cX6_run 64 = .ok (.aload_n 0, 1) := by decide +kernel
theorem dX6_run_65 : decode cX6_run 65 = .ok (.getfield 12, 3) := by decide +kernel
theorem dX6_run_68 : decode cX6_run 68 = .ok (.getfield 52, 3) := by decide +kernel
theorem dX6_run_71 : decode cX6_run 71 = .ok (.iload 8, 2) := by decide +kernel
theorem dX6_run_73 : decode cX6_run 73 = .ok (.iaload, 1) := by decide +kernel
theorem dX6_run_74 : decode cX6_run 74 = .ok (.ifCond .le 47, 3) := by decide +kernel
theorem dX6_run_77 : decode cX6_run 77 = .ok (.aload_n 0, 1) := by decide +kernel
theorem dX6_run_78 : decode cX6_run 78 = .ok (.getfield 21, 3) := by decide +kernel
theorem dX6_run_81 : decode cX6_run 81 = .ok (.iload 7, 2) := by decide +kernel
theorem dX6_run_83 : decode cX6_run 83 = .ok (.aload_n 0, 1) := by decide +kernel
theorem dX6_run_84 : decode cX6_run 84 = .ok (.getfield 12, 3) := by decide +kernel
theorem dX6_run_87 : decode cX6_run 87 = .ok (.getfield 56, 3) := by decide +kernel
theorem dX6_run_90 : decode cX6_run 90 = .ok (.iload 8, 2) := by decide +kernel
theorem dX6_run_92 : decode cX6_run 92 = .ok (.iaload, 1) := by decide +kernel
theorem dX6_run_93 : decode cX6_run 93 = .ok (.iconst 1, 1) := by decide +kernel
theorem dX6_run_94 : decode cX6_run 94 = .ok (.aload_n 0, 1) := by decide +kernel
theorem dX6_run_95 : decode cX6_run 95 = .ok (.getfield 12, 3) := by decide +kernel
theorem dX6_run_98 : decode cX6_run 98 = .ok (.getfield 59, 3) := by decide +kernel
theorem dX6_run_101 : decode cX6_run 101 = .ok (.iload 8, 2) := by decide +kernel
theorem dX6_run_103 : decode cX6_run 103 = .ok (.iaload, 1) := by decide +kernel
theorem dX6_run_104 : decode cX6_run 104 = .ok (.ishl, 1) := by decide +kernel
theorem dX6_run_105 : decode cX6_run 105 = .ok (.aload_n 0, 1) := by decide +kernel
theorem dX6_run_106 : decode cX6_run 106 = .ok (.getfield 12, 3) := by decide +kernel
theorem dX6_run_109 : decode cX6_run 109 = .ok (.getfield 62, 3) := by decide +kernel
theorem dX6_run_112 : decode cX6_run 112 = .ok (.iload 8, 2) := by decide +kernel
theorem dX6_run_114 : decode cX6_run 114 = .ok (.iaload, 1) := by decide +kernel
theorem dX6_run_115 : decode cX6_run 115 = .ok (.invokevirtual 65, 3) := by decide +kernel
theorem dX6_run_118 : decode cX6_run 118 = .ok (.iconst 0, 1) := by decide +kernel
theorem dX6_run_119 : decode cX6_run 119 = .ok (.istore 5, 2) := by decide +kernel
theorem dX6_run_121 : decode cX6_run 121 = .ok (.iinc 7 1, 3) := by decide +kernel
theorem dX6_run_124 : decode cX6_run 124 = .ok (.goto (-98), 3) := by decide +kernel
theorem dX6_run_127 : decode cX6_run 127 = .ok (.aload_n 0, 1) := by decide +kernel
theorem dX6_run_128 : decode cX6_run 128 = .ok (.getfield 21, 3) := by decide +kernel
theorem dX6_run_131 : decode cX6_run 131 = .ok (.aload_n 1, 1) := by decide +kernel
theorem dX6_run_132 : decode cX6_run 132 = .ok (.getfield 69, 3) := by decide +kernel
theorem dX6_run_135 : decode cX6_run 135 = .ok (.invokevirtual 72, 3) := by decide +kernel
theorem dX6_run_138 : decode cX6_run 138 = .ok (.iload 5, 2) := by decide +kernel
theorem dX6_run_140 : decode cX6_run 140 = .ok (.iload 4, 2) := by decide +kernel
theorem dX6_run_142 : decode cX6_run 142 = .ok (.if_icmp .lt 6, 3) := by decide +kernel
theorem dX6_run_145 : decode cX6_run 145 = .ok (.iload 6, 2) := by decide +kernel
theorem dX6_run_147 : decode cX6_run 147 = .ok (.ireturn, 1) := by decide +kernel
theorem dX6_run_148 : decode cX6_run 148 = .ok (.iinc 6 1, 3) := by decide +kernel
theorem dX6_run_151 : decode cX6_run 151 = .ok (.goto (-137), 3) := by decide +kernel
theorem dX6_run_154 : decode cX6_run 154 = .ok (.iconst (-1), 1) := by decide +kernel
theorem dX6_run_155 : decode cX6_run 155 = .ok (.ireturn, 1) := by decide +kernel
theorem wl_RX6_21 : Cond.fieldLink RX6 21 (TX6 1).1 (TX6 1).2.1 (TX6 1).2.2.1 ∈ TB := tbm 556 (by decide +kernel) (by decide +kernel)
theorem wm_X8_copy : Cond.instanceMethod yX8_copy ∈ TB ∧ Cond.selects yX8_copy.cls yX8_copy yX8_copy ∈ TB ∧ Cond.initialized yX8_copy.cls ∈ TB ∧ Cond.code yX8_copy cX8_copy 2 none ∈ TB ∧ (yX8_copy.cls ≠ "java/lang/invoke/MethodHandle" ∧ yX8_copy.cls ≠ "java/lang/invoke/VarHandle" ∧ (parseMethodDescriptor yX8_copy.desc).map (fun d => d.parameters.length) = some 1) ∧ 2 ≤ 21 := ⟨tbm 1012 (by decide +kernel) (by decide +kernel), tbm 1013 (by decide +kernel) (by decide +kernel), tbm 140 (by decide +kernel) (by decide +kernel), tbm 1014 (by decide +kernel) (by decide +kernel), by decide +kernel, by decide⟩
theorem wi_RX6_35 : Iv RX6 35 yX8_copy cX8_copy 2 none 1 := ⟨tbm 1257 (by decide +kernel) (by decide +kernel), wm_X8_copy⟩
theorem wl_RX6_39 : Cond.fieldLink RX6 39 (TX1 4).1 (TX1 4).2.1 (TX1 4).2.2.1 ∈ TB := tbm 307 (by decide +kernel) (by decide +kernel)
theorem wl_RX6_12 : Cond.fieldLink RX6 12 (TX6 0).1 (TX6 0).2.1 (TX6 0).2.2.1 ∈ TB := tbm 555 (by decide +kernel) (by decide +kernel)
theorem wm_X9_gather : Cond.instanceMethod yX9_gather ∈ TB ∧ Cond.selects yX9_gather.cls yX9_gather yX9_gather ∈ TB ∧ Cond.initialized yX9_gather.cls ∈ TB ∧ Cond.code yX9_gather cX9_gather 7 none ∈ TB ∧ (yX9_gather.cls ≠ "java/lang/invoke/MethodHandle" ∧ yX9_gather.cls ≠ "java/lang/invoke/VarHandle" ∧ (parseMethodDescriptor yX9_gather.desc).map (fun d => d.parameters.length) = some 3) ∧ 7 ≤ 21 := ⟨tbm 1163 (by decide +kernel) (by decide +kernel), tbm 1164 (by decide +kernel) (by decide +kernel), tbm 143 (by decide +kernel) (by decide +kernel), tbm 1165 (by decide +kernel) (by decide +kernel), by decide +kernel, by decide⟩
theorem wi_RX6_44 : Iv RX6 44 yX9_gather cX9_gather 7 none 3 := ⟨tbm 1258 (by decide +kernel) (by decide +kernel), wm_X9_gather⟩
theorem wm_X9_pick : Cond.instanceMethod yX9_pick ∈ TB ∧ Cond.selects yX9_pick.cls yX9_pick yX9_pick ∈ TB ∧ Cond.initialized yX9_pick.cls ∈ TB ∧ Cond.code yX9_pick cX9_pick 3 (some .int) ∈ TB ∧ (yX9_pick.cls ≠ "java/lang/invoke/MethodHandle" ∧ yX9_pick.cls ≠ "java/lang/invoke/VarHandle" ∧ (parseMethodDescriptor yX9_pick.desc).map (fun d => d.parameters.length) = some 0) ∧ 3 ≤ 21 := ⟨tbm 1196 (by decide +kernel) (by decide +kernel), tbm 1197 (by decide +kernel) (by decide +kernel), tbm 143 (by decide +kernel) (by decide +kernel), tbm 1198 (by decide +kernel) (by decide +kernel), by decide +kernel, by decide⟩
theorem wi_RX6_48 : Iv RX6 48 yX9_pick cX9_pick 3 (some .int) 0 := ⟨tbm 1259 (by decide +kernel) (by decide +kernel), wm_X9_pick⟩
theorem wl_RX6_52 : Cond.fieldLink RX6 52 (TX9 3).1 (TX9 3).2.1 (TX9 3).2.2.1 ∈ TB := tbm 511 (by decide +kernel) (by decide +kernel)
theorem wl_RX6_56 : Cond.fieldLink RX6 56 (TX9 0).1 (TX9 0).2.1 (TX9 0).2.2.1 ∈ TB := tbm 499 (by decide +kernel) (by decide +kernel)
theorem wl_RX6_59 : Cond.fieldLink RX6 59 (TX9 1).1 (TX9 1).2.1 (TX9 1).2.2.1 ∈ TB := tbm 503 (by decide +kernel) (by decide +kernel)
theorem wl_RX6_62 : Cond.fieldLink RX6 62 (TX9 2).1 (TX9 2).2.1 (TX9 2).2.2.1 ∈ TB := tbm 507 (by decide +kernel) (by decide +kernel)
theorem wm_X8_exchange : Cond.instanceMethod yX8_exchange ∈ TB ∧ Cond.selects yX8_exchange.cls yX8_exchange yX8_exchange ∈ TB ∧ Cond.initialized yX8_exchange.cls ∈ TB ∧ Cond.code yX8_exchange cX8_exchange 5 none ∈ TB ∧ (yX8_exchange.cls ≠ "java/lang/invoke/MethodHandle" ∧ yX8_exchange.cls ≠ "java/lang/invoke/VarHandle" ∧ (parseMethodDescriptor yX8_exchange.desc).map (fun d => d.parameters.length) = some 4) ∧ 5 ≤ 21 := ⟨tbm 1123 (by decide +kernel) (by decide +kernel), tbm 1124 (by decide +kernel) (by decide +kernel), tbm 140 (by decide +kernel) (by decide +kernel), tbm 1125 (by decide +kernel) (by decide +kernel), by decide +kernel, by decide⟩
theorem wi_RX6_65 : Iv RX6 65 yX8_exchange cX8_exchange 5 none 4 := ⟨tbm 1260 (by decide +kernel) (by decide +kernel), wm_X8_exchange⟩
theorem wl_RX6_69 : Cond.fieldLink RX6 69 (TX1 0).1 (TX1 0).2.1 (TX1 0).2.2.1 ∈ TB := tbm 290 (by decide +kernel) (by decide +kernel)
theorem wm_X8_passHour : Cond.instanceMethod yX8_passHour ∈ TB ∧ Cond.selects yX8_passHour.cls yX8_passHour yX8_passHour ∈ TB ∧ Cond.initialized yX8_passHour.cls ∈ TB ∧ Cond.code yX8_passHour cX8_passHour 2 none ∈ TB ∧ (yX8_passHour.cls ≠ "java/lang/invoke/MethodHandle" ∧ yX8_passHour.cls ≠ "java/lang/invoke/VarHandle" ∧ (parseMethodDescriptor yX8_passHour.desc).map (fun d => d.parameters.length) = some 1) ∧ 2 ≤ 21 := ⟨tbm 1127 (by decide +kernel) (by decide +kernel), tbm 1128 (by decide +kernel) (by decide +kernel), tbm 140 (by decide +kernel) (by decide +kernel), tbm 1129 (by decide +kernel) (by decide +kernel), by decide +kernel, by decide⟩
theorem wi_RX6_72 : Iv RX6 72 yX8_passHour cX8_passHour 2 none 1 := ⟨tbm 1261 (by decide +kernel) (by decide +kernel), wm_X8_passHour⟩
def mX6_run_L26 (t : Nat) (p1 : Nat) (p2 : Nat) (x3 : Int32) (x4 : Int32) (x6 : Int32) (k127 : Int32 → St_ → Option (Int32 × St_)) : Nat → Int32 → Int32 → St_ → Option (Int32 × St_)
  | 0, _, _, _ => none
  | n + 1, x5, x7, σ => (if (σ.1 p1 4) ≤ x7 then
 (k127 x5 σ)
 else ((mX9_gather (t + 1) p1 (t + 10) x7 σ).bind fun σ2 =>
 ((mX9_pick (t + 1) σ2).bind fun r3 =>
 (bnd (fun (j4 : Int32) (σ5 : St_) => (mX6_run_L26 t p1 p2 x3 x4 x6 k127 n j4 (x7 + 1) σ5)) fun k6 =>
 (if r3 = (-1 : Int32) then
 (k6 x5 σ2)
 else (if bin r3 100 = true then bnd (σ2.1 (t + 1 + 4) r3.toNatClampNeg) fun v8 =>
 (if v8 ≤ 0 then
 (k6 x5 σ2)
 else (if bin r3 100 = true then bnd (σ2.1 (t + 1 + 1) r3.toNatClampNeg) fun v9 =>
 (if bin r3 100 = true then bnd (σ2.1 (t + 1 + 2) r3.toNatClampNeg) fun v10 =>
 (if bin r3 100 = true then bnd (σ2.1 (t + 1 + 3) r3.toNatClampNeg) fun v11 =>
 ((mX8_exchange (t + 10) x7 v9 ((1 : Int32) <<< (v10 &&& 31)) v11 σ2).bind fun σ12 =>
 (k6 (0 : Int32) σ12))
 else none)
 else none)
 else none))
 else none))))))
def mX6_run_L14 (t : Nat) (p1 : Nat) (p2 : Nat) (x3 : Int32) (x4 : Int32) : Nat → Int32 → Int32 → St_ → Option (Int32 × St_)
  | 0, _, _, _ => none
  | n + 1, x5, x6, σ => (if x3 < x6 then
 (some ((-1 : Int32), σ))
 else (mX6_run_L26 t p1 p2 x3 x4 x6
 (fun (y13 : Int32) (σ14 : St_) => ((mX8_passHour (t + 10) (σ14.1 p1 0) σ14).bind fun σ15 =>
 (if y13 < x4 then
 (mX6_run_L14 t p1 p2 x3 x4 n y13 (x6 + 1) σ15)
 else (some (x6, σ15))))) FU (x5 + 1) (0 : Int32) σ))
def mX6_run (t : Nat) (p1 : Nat) (p2 : Nat) (p3 : Int32) (p4 : Int32) (σ : St_) : Option (Int32 × St_) :=
 ((mX8_copy (t + 10) p2 σ).bind fun σ1 =>
 (mX6_run_L14 t p1 p2 p3 p4 FU (0 : Int32) (1 : Int32) σ1))
set_option maxHeartbeats 4000000 in
theorem tmX6_run_L26 (t : Nat) (p1 : Nat) (p2 : Nat) (hT : LY6 sh P t) (hp1 : LY1 sh P p1) (hp2 : LY8 sh P p2) (x3 : Int32) (x4 : Int32) (x6 : Int32) (k127 : Int32 → St_ → Option (Int32 × St_)) (hk127 : ∀ (y5 : Int32) (σ1 : St_), Tj l D cA h0 ad RX6 cX6_run 9 (some .int) false 7 0 0 (fun b => (some (.int b.1), sh, P, b.2)) 0 0 sh P σ1 127 [(0, .ref (h0 + t)), (1, .ref (h0 + p1)), (3, .int x3), (4, .int x4), (5, .int y5), (6, .int x6)] [] (k127 y5 σ1)) : ∀ (n : Nat) (x5 : Int32) (x7 : Int32) (σ : St_), Tj l D cA h0 ad RX6 cX6_run 9 (some .int) false 7 0 0 (fun b => (some (.int b.1), sh, P, b.2)) 0 0 sh P σ 26 [(0, .ref (h0 + t)), (1, .ref (h0 + p1)), (3, .int x3), (4, .int x4), (5, .int x5), (6, .int x6), (7, .int x7)] [] (mX6_run_L26 t p1 p2 x3 x4 x6 k127 n x5 x7 σ) := by
  intro n
  induction n with
  | zero => intros; exact tj_none
  | succ n ih =>
    intro x5 x7 σ
    rw [mX6_run_L26]
    refine tj_iload (q := 28) dX6_run_26 rfl (pl := 6) rfl ?_
    refine tj_aload_n (q := 29) dX6_run_28 rfl (i := 1) rfl (pl := 1) rfl ?_
    refine tj_getI (q := 32) (hp1).s fok_1_4 wl_RX6_39 dX6_run_29 rfl ?_
    refine tj_icmp_ge (tgt := 127) (q := 35) dX6_run_32 (by decide) rfl ?_ ?_
    · refine tj_lv [0, 1, 2, 3, 4, 5] rfl ?_
      exact hk127 x5 σ
    · refine tj_aload_n (q := 36) dX6_run_35 rfl (i := 0) rfl (pl := 0) rfl ?_
      refine tj_getR (q := 39) (hT).s (hT).p_list fok_6_0 wl_RX6_12 dX6_run_36 rfl ?_
      refine tj_aload_n (q := 40) dX6_run_39 rfl (i := 1) rfl (pl := 1) rfl ?_
      refine tj_aload_n (q := 41) dX6_run_40 rfl (i := 0) rfl (pl := 0) rfl ?_
      refine tj_getR (q := 44) (hT).s (hT).p_scene fok_6_1 wl_RX6_21 dX6_run_41 rfl ?_
      refine tj_iload (q := 46) dX6_run_44 rfl (pl := 6) rfl ?_
      refine tj_callV (q := 49) (kj_V (As := [.ref (h0 + p1), .ref (h0 + (t + 10)), .int x7]) (rest := []) (t := (t + 1)) wi_RX6_44 ((hT).o_list).s rfl (rX9_gather (t + 1) p1 (t + 10) x7 ((hT).o_list) (hp1) ((hT).o_scene)) rfl (Nat.le_of_ble_eq_true rfl) ⟨Nat.le_of_ble_eq_true rfl, Nat.le_of_ble_eq_true rfl⟩ (Nat.le_of_ble_eq_true rfl) dX6_run_46) rfl (fun σ2 => ?_)
      refine tj_aload_n (q := 50) dX6_run_49 rfl (i := 0) rfl (pl := 0) rfl ?_
      refine tj_getR (q := 53) (hT).s (hT).p_list fok_6_0 wl_RX6_12 dX6_run_50 rfl ?_
      refine tj_callIp (q := 56) (kj_V (As := []) (rest := []) (t := (t + 1)) wi_RX6_48 ((hT).o_list).s rfl (rX9_pick (t + 1) ((hT).o_list)) rfl (Nat.le_of_ble_eq_true rfl) ⟨Nat.le_of_ble_eq_true rfl, Nat.le_of_ble_eq_true rfl⟩ (Nat.le_of_ble_eq_true rfl) dX6_run_53) rfl (fun r3 => ?_)
      refine tj_istore (q := 58) dX6_run_56 rfl (by decide) rfl ?_
      refine tj_iload (q := 60) dX6_run_58 rfl (pl := 0) rfl ?_
      refine tj_iconst (q := 61) (v := (-1)) dX6_run_60 rfl (by decide) ?_
      refine tj_bnd (fun k6 => ∀ (j4 : Int32) (σ5 : St_), Tj l D cA h0 ad RX6 cX6_run 9 (some .int) false 7 0 0 (fun b => (some (.int b.1), sh, P, b.2)) 0 0 sh P σ5 121 [(0, .ref (h0 + t)), (1, .ref (h0 + p1)), (3, .int x3), (4, .int x4), (5, .int j4), (6, .int x6), (7, .int x7)] [] (k6 j4 σ5)) ?_ (fun k6 hk7 => ?_)
      · intro j4 σ5
        refine tj_iinc (q := 124) (v := x7 + 1) dX6_run_121 rfl (pl := 6) rfl rfl (by decide) rfl ?_
        refine tj_goto (q := 26) dX6_run_124 (by decide) ?_
        refine tj_lv [1, 2, 3, 4, 5, 6, 0] rfl ?_
        exact ih j4 (x7 + 1) σ5
      · refine tj_icmp_eq (tgt := 121) (q := 64) dX6_run_61 (by decide) rfl ?_ ?_
        · refine tj_lv [1, 2, 3, 4, 5, 6, 7] rfl ?_
          exact hk7 x5 σ2
        · refine tj_aload_n (q := 65) dX6_run_64 rfl (i := 0) rfl (pl := 1) rfl ?_
          refine tj_getR (q := 68) (hT).s (hT).p_list fok_6_0 wl_RX6_12 dX6_run_65 rfl ?_
          refine tj_getR (q := 71) ((hT).o_list).s ((hT).o_list).p_gain fok_9_3 wl_RX6_52 dX6_run_68 rfl ?_
          refine tj_iload (q := 73) dX6_run_71 rfl (pl := 0) rfl ?_
          refine tj_iaload (q := 74) ((hT).o_list).s_gain dX6_run_73 rfl ?_
          refine tj_topI (fun v8 => ?_)
          refine tj_if_le (tgt := 121) (q := 77) dX6_run_74 (by decide) rfl ?_ ?_
          · refine tj_lv [1, 2, 3, 4, 5, 6, 7] rfl ?_
            exact hk7 x5 σ2
          · refine tj_aload_n (q := 78) dX6_run_77 rfl (i := 0) rfl (pl := 1) rfl ?_
            refine tj_getR (q := 81) (hT).s (hT).p_scene fok_6_1 wl_RX6_21 dX6_run_78 rfl ?_
            refine tj_iload (q := 83) dX6_run_81 rfl (pl := 7) rfl ?_
            refine tj_aload_n (q := 84) dX6_run_83 rfl (i := 0) rfl (pl := 1) rfl ?_
            refine tj_getR (q := 87) (hT).s (hT).p_list fok_6_0 wl_RX6_12 dX6_run_84 rfl ?_
            refine tj_getR (q := 90) ((hT).o_list).s ((hT).o_list).p_house fok_9_0 wl_RX6_56 dX6_run_87 rfl ?_
            refine tj_iload (q := 92) dX6_run_90 rfl (pl := 0) rfl ?_
            refine tj_iaload (q := 93) ((hT).o_list).s_house dX6_run_92 rfl ?_
            refine tj_topI (fun v9 => ?_)
            refine tj_iconst (q := 94) (v := 1) dX6_run_93 rfl (by decide) ?_
            refine tj_aload_n (q := 95) dX6_run_94 rfl (i := 0) rfl (pl := 1) rfl ?_
            refine tj_getR (q := 98) (hT).s (hT).p_list fok_6_0 wl_RX6_12 dX6_run_95 rfl ?_
            refine tj_getR (q := 101) ((hT).o_list).s ((hT).o_list).p_thing fok_9_1 wl_RX6_59 dX6_run_98 rfl ?_
            refine tj_iload (q := 103) dX6_run_101 rfl (pl := 0) rfl ?_
            refine tj_iaload (q := 104) ((hT).o_list).s_thing dX6_run_103 rfl ?_
            refine tj_topI (fun v10 => ?_)
            refine tj_ishl (q := 105) dX6_run_104 rfl ?_
            refine tj_aload_n (q := 106) dX6_run_105 rfl (i := 0) rfl (pl := 1) rfl ?_
            refine tj_getR (q := 109) (hT).s (hT).p_list fok_6_0 wl_RX6_12 dX6_run_106 rfl ?_
            refine tj_getR (q := 112) ((hT).o_list).s ((hT).o_list).p_left fok_9_2 wl_RX6_62 dX6_run_109 rfl ?_
            refine tj_iload (q := 114) dX6_run_112 rfl (pl := 0) rfl ?_
            refine tj_iaload (q := 115) ((hT).o_list).s_left dX6_run_114 rfl ?_
            refine tj_topI (fun v11 => ?_)
            refine tj_callV (q := 118) (kj_V (As := [.int x7, .int v9, .int ((1 : Int32) <<< (v10 &&& 31)), .int v11]) (rest := []) (t := (t + 10)) wi_RX6_65 ((hT).o_scene).s rfl (rX8_exchange (t + 10) x7 v9 ((1 : Int32) <<< (v10 &&& 31)) v11 ((hT).o_scene)) rfl (Nat.le_of_ble_eq_true rfl) ⟨Nat.le_of_ble_eq_true rfl, Nat.le_of_ble_eq_true rfl⟩ (Nat.le_of_ble_eq_true rfl) dX6_run_115) rfl (fun σ12 => ?_)
            refine tj_iconst (q := 119) (v := 0) dX6_run_118 rfl (by decide) ?_
            refine tj_istore (q := 121) dX6_run_119 rfl (by decide) rfl ?_
            refine tj_lv [2, 3, 4, 5, 0, 6, 7] rfl ?_
            exact hk7 (0 : Int32) σ12

set_option maxHeartbeats 4000000 in
theorem tmX6_run_L14 (t : Nat) (p1 : Nat) (p2 : Nat) (hT : LY6 sh P t) (hp1 : LY1 sh P p1) (hp2 : LY8 sh P p2) (x3 : Int32) (x4 : Int32) : ∀ (n : Nat) (x5 : Int32) (x6 : Int32) (σ : St_), Tj l D cA h0 ad RX6 cX6_run 9 (some .int) false 7 0 0 (fun b => (some (.int b.1), sh, P, b.2)) 0 0 sh P σ 14 [(0, .ref (h0 + t)), (1, .ref (h0 + p1)), (3, .int x3), (4, .int x4), (5, .int x5), (6, .int x6)] [] (mX6_run_L14 t p1 p2 x3 x4 n x5 x6 σ) := by
  intro n
  induction n with
  | zero => intros; exact tj_none
  | succ n ih =>
    intro x5 x6 σ
    rw [mX6_run_L14]
    refine tj_iload (q := 16) dX6_run_14 rfl (pl := 5) rfl ?_
    refine tj_iload_n (q := 17) dX6_run_16 rfl (i := 3) rfl (pl := 2) rfl ?_
    refine tj_icmp_gt (tgt := 154) (q := 20) dX6_run_17 (by decide) rfl ?_ ?_
    · refine tj_iconst (q := 155) (v := (-1)) dX6_run_154 rfl (by decide) ?_
      exact tj_iret rfl rfl (Nat.le_of_ble_eq_true rfl) (Nat.le_of_ble_eq_true rfl) dX6_run_155
    · refine tj_iinc (q := 23) (v := x5 + 1) dX6_run_20 rfl (pl := 4) rfl rfl (by decide) rfl ?_
      refine tj_iconst (q := 24) (v := 0) dX6_run_23 rfl (by decide) ?_
      refine tj_istore (q := 26) dX6_run_24 rfl (by decide) rfl ?_
      refine tj_lv [2, 3, 4, 5, 1, 6, 0] rfl ?_
      refine tmX6_run_L26 t p1 p2 hT hp1 hp2 x3 x4 x6 _ ?_ FU (x5 + 1) (0 : Int32) σ
      · intro y13 σ14
        refine tj_aload_n (q := 128) dX6_run_127 rfl (i := 0) rfl (pl := 0) rfl ?_
        refine tj_getR (q := 131) (hT).s (hT).p_scene fok_6_1 wl_RX6_21 dX6_run_128 rfl ?_
        refine tj_aload_n (q := 132) dX6_run_131 rfl (i := 1) rfl (pl := 1) rfl ?_
        refine tj_getI (q := 135) (hp1).s fok_1_0 wl_RX6_69 dX6_run_132 rfl ?_
        refine tj_callV (q := 138) (kj_V (As := [.int (σ14.1 p1 0)]) (rest := []) (t := (t + 10)) wi_RX6_72 ((hT).o_scene).s rfl (rX8_passHour (t + 10) (σ14.1 p1 0) ((hT).o_scene)) rfl (Nat.le_of_ble_eq_true rfl) ⟨Nat.le_of_ble_eq_true rfl, Nat.le_of_ble_eq_true rfl⟩ (Nat.le_of_ble_eq_true rfl) dX6_run_135) rfl (fun σ15 => ?_)
        refine tj_iload (q := 140) dX6_run_138 rfl (pl := 4) rfl ?_
        refine tj_iload (q := 142) dX6_run_140 rfl (pl := 3) rfl ?_
        refine tj_icmp_lt (tgt := 148) (q := 145) dX6_run_142 (by decide) rfl ?_ ?_
        · refine tj_iinc (q := 151) (v := x6 + 1) dX6_run_148 rfl (pl := 5) rfl rfl (by decide) rfl ?_
          refine tj_goto (q := 14) dX6_run_151 (by decide) ?_
          refine tj_lv [1, 2, 3, 4, 5, 0] rfl ?_
          exact ih y13 (x6 + 1) σ15
        · refine tj_iload (q := 147) dX6_run_145 rfl (pl := 5) rfl ?_
          exact tj_iret rfl rfl (Nat.le_of_ble_eq_true rfl) (Nat.le_of_ble_eq_true rfl) dX6_run_147

set_option maxHeartbeats 4000000 in
theorem rX6_run (t : Nat) (p1 : Nat) (p2 : Nat) (p3 : Int32) (p4 : Int32) (hT : LY6 sh P t) (hp1 : LY1 sh P p1) (hp2 : LY8 sh P p2) : Rj l D cA h0 ad yX6_run cX6_run 9 (some .int) false 7 0 0 (fun b => (some (.int b.1), sh, P, b.2)) [.ref (h0 + t), .ref (h0 + p1), .ref (h0 + p2), .int p3, .int p4] sh P σ (mX6_run t p1 p2 p3 p4 σ) := by
  rw [mX6_run]
  refine Rj.of (by decide) (fun h => by cases h) (Nat.le_of_ble_eq_true rfl) ?_
  refine tj_lv0 (lv' := [(0, .ref (h0 + t)), (1, .ref (h0 + p1)), (2, .ref (h0 + p2)), (3, .int p3), (4, .int p4)]) rfl ?_
  refine tj_aload_n (q := 1) dX6_run_0 rfl (i := 0) rfl (pl := 0) rfl ?_
  refine tj_getR (q := 4) (hT).s (hT).p_scene fok_6_1 wl_RX6_21 dX6_run_1 rfl ?_
  refine tj_aload_n (q := 5) dX6_run_4 rfl (i := 2) rfl (pl := 2) rfl ?_
  refine tj_callV (q := 8) (kj_V (As := [.ref (h0 + p2)]) (rest := []) (t := (t + 10)) wi_RX6_35 ((hT).o_scene).s rfl (rX8_copy (t + 10) p2 ((hT).o_scene) (hp2)) rfl (Nat.le_of_ble_eq_true rfl) ⟨Nat.le_of_ble_eq_true rfl, Nat.le_of_ble_eq_true rfl⟩ (Nat.le_of_ble_eq_true rfl) dX6_run_5) rfl (fun σ1 => ?_)
  refine tj_iconst (q := 9) (v := 0) dX6_run_8 rfl (by decide) ?_
  refine tj_istore (q := 11) dX6_run_9 rfl (by decide) rfl ?_
  refine tj_iconst (q := 12) (v := 1) dX6_run_11 rfl (by decide) ?_
  refine tj_istore (q := 14) dX6_run_12 rfl (by decide) rfl ?_
  refine tj_lv [2, 3, 5, 6, 1, 0] rfl ?_
  exact tmX6_run_L14 t p1 p2 hT hp1 hp2 p3 p4 FU (0 : Int32) (1 : Int32) σ1

theorem dX6_findLie_0 : decode cX6_findLie 0 = .ok (.aload_n 0, 1) := by decide +kernel
theorem dX6_findLie_1 : decode cX6_findLie 1 = .ok (.iconst (-1), 1) := by decide +kernel
theorem dX6_findLie_2 : decode cX6_findLie 2 = .ok (.putfield 29, 3) := by decide +kernel
theorem dX6_findLie_5 : decode cX6_findLie 5 = .ok (.aload_n 0, 1) := by decide +kernel
theorem dX6_findLie_6 : decode cX6_findLie 6 = .ok (.iconst (-1), 1) := by decide +kernel
theorem dX6_findLie_7 : decode cX6_findLie 7 = .ok (.putfield 32, 3) := by decide +kernel
theorem dX6_findLie_10 : decode cX6_findLie 10 = .ok (.aload_n 0, 1) := by decide +kernel
theorem dX6_findLie_11 : decode cX6_findLie 11 = .ok (.aload_n 1, 1) := by decide +kernel
theorem dX6_findLie_12 : decode cX6_findLie 12 = .ok (.aload_n 2, 1) := by decide +kernel
theorem dX6_findLie_13 : decode cX6_findLie 13 = .ok (.iload 4, 2) := by decide +kernel
theorem dX6_findLie_15 : decode cX6_findLie 15 = .ok (.bipush 61, 2) := by decide +kernel
theorem dX6_findLie_17 : decode cX6_findLie 17 = .ok (.invokevirtual 76, 3) := by decide +kernel
theorem dX6_findLie_20 : decode cX6_findLie 20 = .ok (.pop, 1) := by decide +kernel
theorem dX6_findLie_21 : decode cX6_findLie 21 = .ok (.aload_n 0, 1) := by decide +kernel
theorem dX6_findLie_22 : decode cX6_findLie 22 = .ok (.aload_n 1, 1) := by decide +kernel
theorem dX6_findLie_23 : decode cX6_findLie 23 = .ok (.iload_n 3, 1) := by decide +kernel
theorem dX6_findLie_24 : decode cX6_findLie 24 = .ok (.aload_n 0, 1) := by decide +kernel
theorem dX6_findLie_25 : decode cX6_findLie 25 = .ok (.getfield 21, 3) := by decide +kernel
theorem dX6_findLie_28 : decode cX6_findLie 28 = .ok (.getfield 80, 3) := by decide +kernel
theorem dX6_findLie_31 : decode cX6_findLie 31 = .ok (.iload_n 3, 1) := by decide +kernel
theorem dX6_findLie_32 : decode cX6_findLie 32 = .ok (.iaload, 1) := by decide +kernel
theorem dX6_findLie_33 : decode cX6_findLie 33 = .ok (.invokevirtual 83, 3) := by decide +kernel
theorem dX6_findLie_36 : decode cX6_findLie 36 = .ok (.putfield 25, 3) := by decide +kernel
theorem dX6_findLie_39 : decode cX6_findLie 39 = .ok (.iconst 0, 1) := by decide +kernel
theorem dX6_findLie_40 : decode cX6_findLie 40 = .ok (.istore 5, 2) := by decide +kernel
theorem dX6_findLie_42 : decode cX6_findLie 42 = .ok (.iload 5, 2) := by decide +kernel
theorem dX6_findLie_44 : decode cX6_findLie 44 = .ok (.aload_n 1, 1) := by decide +kernel
theorem dX6_findLie_45 : decode cX6_findLie 45 = .ok (.getfield 87, 3) := by decide +kernel
theorem dX6_findLie_48 : decode cX6_findLie 48 = .ok (.if_icmp .ge 95, 3) := by decide +kernel
theorem dX6_findLie_51 : decode cX6_findLie 51 = .ok (.iconst 0, 1) := by decide +kernel
theorem dX6_findLie_52 : decode cX6_findLie 52 = .ok (.istore 6, 2) := by decide +kernel
theorem dX6_findLie_54 : decode cX6_findLie 54 = .ok (.iload 6, 2) := by decide +kernel
theorem dX6_findLie_56 : decode cX6_findLie 56 = .ok (.bipush 20, 2) := by decide +kernel
theorem dX6_findLie_58 : decode cX6_findLie 58 = .ok (.if_icmp .gt 72, 3) := by decide +kernel
theorem dX6_findLie_61 : decode cX6_findLie 61 = .ok (.aload_n 1, 1) := by decide +kernel
theorem dX6_findLie_62 : decode cX6_findLie 62 = .ok (.iload_n 3, 1) := by decide +kernel
theorem dX6_findLie_63 : decode cX6_findLie 63 = .ok (.iload 5, 2) := by decide +kernel
theorem dX6_findLie_65 : decode cX6_findLie 65 = .ok (.iload 6, 2) := by decide +kernel
theorem dX6_findLie_67 : decode cX6_findLie 67 = .ok (.invokevirtual 90, 3) := by decide +kernel
theorem dX6_findLie_70 : decode cX6_findLie 70 = .ok (.aload_n 0, 1) := by decide +kernel
theorem dX6_findLie_71 : decode cX6_findLie 71 = .ok (.aload_n 1, 1) := by decide +kernel
theorem dX6_findLie_72 : decode cX6_findLie 72 = .ok (.aload_n 2, 1) := by decide +kernel
theorem dX6_findLie_73 : decode cX6_findLie 73 = .ok (.iload 4, 2) := by decide +kernel
theorem dX6_findLie_75 : decode cX6_findLie 75 = .ok (.bipush 61, 2) := by decide +kernel
theorem dX6_findLie_77 : decode cX6_findLie 77 = .ok (.invokevirtual 76, 3) := by decide +kernel
theorem dX6_findLie_80 : decode cX6_findLie 80 = .ok (.pop, 1) := by decide +kernel
theorem dX6_findLie_81 : decode cX6_findLie 81 = .ok (.aload_n 1, 1) := by decide +kernel
theorem dX6_findLie_82 : decode cX6_findLie 82 = .ok (.iload_n 3, 1) := by decide +kernel
theorem dX6_findLie_83 : decode cX6_findLie 83 = .ok (.aload_n 0, 1) := by decide +kernel
theorem dX6_findLie_84 : decode cX6_findLie 84 = .ok (.getfield 21, 3) := by decide +kernel
theorem dX6_findLie_87 : decode cX6_findLie 87 = .ok (.getfield 80, 3) := by decide +kernel
theorem dX6_findLie_90 : decode cX6_findLie 90 = .ok (.iload_n 3, 1) := by decide +kernel
theorem dX6_findLie_91 : decode cX6_findLie 91 = .ok (.iaload, 1) := by decide +kernel
theorem dX6_findLie_92 : decode cX6_findLie 92 = .ok (.invokevirtual 83, 3) := by decide +kernel
theorem dX6_findLie_95 : decode cX6_findLie 95 = .ok (.istore 7, 2) := by decide +kernel
theorem dX6_findLie_97 : decode cX6_findLie 97 = .ok (.iload 7, 2) := by decide +kernel
theorem dX6_findLie_99 : decode cX6_findLie 99 = .ok (.aload_n 0, 1) := by decide +kernel
theorem dX6_findLie_100 : decode cX6_findLie 100 = .ok (.getfield 25, 3) := by decide +kernel
theorem dX6_findLie_103 : decode cX6_findLie 103 = .ok (.if_icmp .le 21, 3) := by decide +kernel
theorem dX6_findLie_106 : decode cX6_findLie 106 = .ok (.aload_n 0, 1) := by decide +kernel
theorem dX6_findLie_107 : decode cX6_findLie 107 = .ok (.iload 7, 2) := by decide +kernel
theorem dX6_findLie_109 : decode cX6_findLie 109 = .ok (.putfield 25, 3) := by decide +kernel
theorem dX6_findLie_112 : decode cX6_findLie 112 = .ok (.aload_n 0, 1) := by decide +kernel
theorem dX6_findLie_113 : decode cX6_findLie 113 = .ok (.iload 5, 2) := by decide +kernel
theorem dX6_findLie_115 : decode cX6_findLie 115 = .ok (.putfield 29, 3) := by decide +kernel
theorem dX6_findLie_118 : decode cX6_findLie 118 = .ok (.aload_n 0, 1) := by decide +kernel
theorem dX6_findLie_119 : decode cX6_findLie 119 = .ok (.iload 6, 2) := by decide +kernel
theorem dX6_findLie_121 : decode cX6_findLie 121 = .ok (.putfield 32, 3) := by decide +kernel
theorem dX6_findLie_124 : decode cX6_findLie 124 = .ok (.iinc 6 1, 3) := by decide +kernel
theorem dX6_findLie_127 : decode cX6_findLie 127 = .ok (.goto (-73), 3) := by decide +kernel
theorem dX6_findLie_130 : decode cX6_findLie 130 = .ok (.aload_n 1, 1) := by decide +kernel
theorem dX6_findLie_131 : decode cX6_findLie 131 = .ok (.iload_n 3, 1) := by decide +kernel
theorem dX6_findLie_132 : decode cX6_findLie 132 = .ok (.iload 5, 2) := by decide +kernel
theorem dX6_findLie_134 : decode cX6_findLie 134 = .ok (.invokevirtual 94, 3) := by decide +kernel
theorem dX6_findLie_137 : decode cX6_findLie 137 = .ok (.iinc 5 1, 3) := by decide +kernel
theorem dX6_findLie_140 : decode cX6_findLie 140 = .ok (.goto (-98), 3) := by decide +kernel
theorem dX6_findLie_143 : decode cX6_findLie 143 = .ok (.return_, 1) := by decide +kernel
theorem wl_RX6_29 : Cond.fieldLink RX6 29 (TX6 3).1 (TX6 3).2.1 (TX6 3).2.2.1 ∈ TB := tbm 560 (by decide +kernel) (by decide +kernel)
theorem wl_RX6_32 : Cond.fieldLink RX6 32 (TX6 4).1 (TX6 4).2.1 (TX6 4).2.2.1 ∈ TB := tbm 562 (by decide +kernel) (by decide +kernel)
theorem wm_X6_run : Cond.instanceMethod yX6_run ∈ TB ∧ Cond.selects yX6_run.cls yX6_run yX6_run ∈ TB ∧ Cond.initialized yX6_run.cls ∈ TB ∧ Cond.code yX6_run cX6_run 9 (some .int) ∈ TB ∧ (yX6_run.cls ≠ "java/lang/invoke/MethodHandle" ∧ yX6_run.cls ≠ "java/lang/invoke/VarHandle" ∧ (parseMethodDescriptor yX6_run.desc).map (fun d => d.parameters.length) = some 4) ∧ 9 ≤ 21 := ⟨tbm 1254 (by decide +kernel) (by decide +kernel), tbm 1255 (by decide +kernel) (by decide +kernel), tbm 144 (by decide +kernel) (by decide +kernel), tbm 1256 (by decide +kernel) (by decide +kernel), by decide +kernel, by decide⟩
theorem wi_RX6_76 : Iv RX6 76 yX6_run cX6_run 9 (some .int) 4 := ⟨tbm 1278 (by decide +kernel) (by decide +kernel), wm_X6_run⟩
theorem wl_RX6_80 : Cond.fieldLink RX6 80 (TX8 0).1 (TX8 0).2.1 (TX8 0).2.2.1 ∈ TB := tbm 382 (by decide +kernel) (by decide +kernel)
theorem wm_X1_valueOfSet : Cond.instanceMethod yX1_valueOfSet ∈ TB ∧ Cond.selects yX1_valueOfSet.cls yX1_valueOfSet yX1_valueOfSet ∈ TB ∧ Cond.initialized yX1_valueOfSet.cls ∈ TB ∧ Cond.code yX1_valueOfSet cX1_valueOfSet 5 (some .int) ∈ TB ∧ (yX1_valueOfSet.cls ≠ "java/lang/invoke/MethodHandle" ∧ yX1_valueOfSet.cls ≠ "java/lang/invoke/VarHandle" ∧ (parseMethodDescriptor yX1_valueOfSet.desc).map (fun d => d.parameters.length) = some 2) ∧ 5 ≤ 21 := ⟨tbm 1061 (by decide +kernel) (by decide +kernel), tbm 1062 (by decide +kernel) (by decide +kernel), tbm 138 (by decide +kernel) (by decide +kernel), tbm 1063 (by decide +kernel) (by decide +kernel), by decide +kernel, by decide⟩
theorem wi_RX6_83 : Iv RX6 83 yX1_valueOfSet cX1_valueOfSet 5 (some .int) 2 := ⟨tbm 1279 (by decide +kernel) (by decide +kernel), wm_X1_valueOfSet⟩
theorem wl_RX6_25 : Cond.fieldLink RX6 25 (TX6 2).1 (TX6 2).2.1 (TX6 2).2.2.1 ∈ TB := tbm 558 (by decide +kernel) (by decide +kernel)
theorem wl_RX6_87 : Cond.fieldLink RX6 87 (TX1 2).1 (TX1 2).2.1 (TX1 2).2.2.1 ∈ TB := tbm 298 (by decide +kernel) (by decide +kernel)
theorem wi_RX6_90 : Iv RX6 90 yX1_say cX1_say 4 none 3 := ⟨tbm 1280 (by decide +kernel) (by decide +kernel), wm_X1_say⟩
theorem wm_X1_sayTruth : Cond.instanceMethod yX1_sayTruth ∈ TB ∧ Cond.selects yX1_sayTruth.cls yX1_sayTruth yX1_sayTruth ∈ TB ∧ Cond.initialized yX1_sayTruth.cls ∈ TB ∧ Cond.code yX1_sayTruth cX1_sayTruth 3 none ∈ TB ∧ (yX1_sayTruth.cls ≠ "java/lang/invoke/MethodHandle" ∧ yX1_sayTruth.cls ≠ "java/lang/invoke/VarHandle" ∧ (parseMethodDescriptor yX1_sayTruth.desc).map (fun d => d.parameters.length) = some 2) ∧ 3 ≤ 21 := ⟨tbm 1285 (by decide +kernel) (by decide +kernel), tbm 1286 (by decide +kernel) (by decide +kernel), tbm 138 (by decide +kernel) (by decide +kernel), tbm 1287 (by decide +kernel) (by decide +kernel), by decide +kernel, by decide⟩
theorem wi_RX6_94 : Iv RX6 94 yX1_sayTruth cX1_sayTruth 3 none 2 := ⟨tbm 1284 (by decide +kernel) (by decide +kernel), wm_X1_sayTruth⟩
def mX6_findLie_L54 (t : Nat) (p1 : Nat) (p2 : Nat) (x3 : Int32) (x4 : Int32) (x5 : Int32) (k130 : St_ → Option St_) : Nat → Int32 → St_ → Option St_
  | 0, _, _ => none
  | n + 1, x6, σ => (if (20 : Int32) < x6 then
 (k130 σ)
 else ((mX1_say p1 x3 x5 x6 σ).bind fun σ7 =>
 ((mX6_run t p1 p2 x4 (61 : Int32) σ7).bind fun r8 =>
 (if bin x3 9 = true then bnd (r8.2.1 (t + 10 + 1) x3.toNatClampNeg) fun v9 =>
 ((mX1_valueOfSet p1 x3 v9 r8.2).bind fun r10 =>
 (bnd (fun (σ11 : St_) => (mX6_findLie_L54 t p1 p2 x3 x4 x5 k130 n (x6 + 1) σ11)) fun k12 =>
 (if r10 ≤ (r8.2.1 t 2) then
 (k12 r8.2)
 else (bnd (sI r8.2 t 2 r10) fun σ14 =>
 (bnd (sI σ14 t 3 x5) fun σ15 =>
 (bnd (sI σ15 t 4 x6) fun σ16 =>
 (k12 σ16)))))))
 else none))))
def mX6_findLie_L42 (t : Nat) (p1 : Nat) (p2 : Nat) (x3 : Int32) (x4 : Int32) : Nat → Int32 → St_ → Option St_
  | 0, _, _ => none
  | n + 1, x5, σ => (if (σ.1 p1 2) ≤ x5 then
 (some σ)
 else (mX6_findLie_L54 t p1 p2 x3 x4 x5
 (fun (σ17 : St_) => ((mX1_sayTruth p1 x3 x5 σ17).bind fun σ18 =>
 (mX6_findLie_L42 t p1 p2 x3 x4 n (x5 + 1) σ18))) FU (0 : Int32) σ))
def mX6_findLie (t : Nat) (p1 : Nat) (p2 : Nat) (p3 : Int32) (p4 : Int32) (σ : St_) : Option St_ :=
 (bnd (sI σ t 3 (-1 : Int32)) fun σ1 =>
 (bnd (sI σ1 t 4 (-1 : Int32)) fun σ2 =>
 ((mX6_run t p1 p2 p4 (61 : Int32) σ2).bind fun r3 =>
 (if bin p3 9 = true then bnd (r3.2.1 (t + 10 + 1) p3.toNatClampNeg) fun v4 =>
 ((mX1_valueOfSet p1 p3 v4 r3.2).bind fun r5 =>
 (bnd (sI r3.2 t 2 r5) fun σ6 =>
 (mX6_findLie_L42 t p1 p2 p3 p4 FU (0 : Int32) σ6)))
 else none))))
set_option maxHeartbeats 4000000 in
theorem tmX6_findLie_L54 (t : Nat) (p1 : Nat) (p2 : Nat) (hT : LY6 sh P t) (hp1 : LY1 sh P p1) (hp2 : LY8 sh P p2) (x3 : Int32) (x4 : Int32) (x5 : Int32) (k130 : St_ → Option St_) (hk130 : ∀ (σ1 : St_), Tj l D cA h0 ad RX6 cX6_findLie 8 none false 8 0 0 (fun b => (none, sh, P, b)) 0 0 sh P σ1 130 [(0, .ref (h0 + t)), (1, .ref (h0 + p1)), (2, .ref (h0 + p2)), (3, .int x3), (4, .int x4), (5, .int x5)] [] (k130 σ1)) : ∀ (n : Nat) (x6 : Int32) (σ : St_), Tj l D cA h0 ad RX6 cX6_findLie 8 none false 8 0 0 (fun b => (none, sh, P, b)) 0 0 sh P σ 54 [(0, .ref (h0 + t)), (1, .ref (h0 + p1)), (2, .ref (h0 + p2)), (3, .int x3), (4, .int x4), (5, .int x5), (6, .int x6)] [] (mX6_findLie_L54 t p1 p2 x3 x4 x5 k130 n x6 σ) := by
  intro n
  induction n with
  | zero => intros; exact tj_none
  | succ n ih =>
    intro x6 σ
    rw [mX6_findLie_L54]
    refine tj_iload (q := 56) dX6_findLie_54 rfl (pl := 6) rfl ?_
    refine tj_bipush (q := 58) (v := 20) dX6_findLie_56 rfl (by decide) ?_
    refine tj_icmp_gt (tgt := 130) (q := 61) dX6_findLie_58 (by decide) rfl ?_ ?_
    · refine tj_lv [0, 1, 2, 3, 4, 5] rfl ?_
      exact hk130 σ
    · refine tj_aload_n (q := 62) dX6_findLie_61 rfl (i := 1) rfl (pl := 1) rfl ?_
      refine tj_iload_n (q := 63) dX6_findLie_62 rfl (i := 3) rfl (pl := 3) rfl ?_
      refine tj_iload (q := 65) dX6_findLie_63 rfl (pl := 5) rfl ?_
      refine tj_iload (q := 67) dX6_findLie_65 rfl (pl := 6) rfl ?_
      refine tj_callV (q := 70) (kj_V (As := [.int x3, .int x5, .int x6]) (rest := []) (t := p1) wi_RX6_90 (hp1).s rfl (rX1_say p1 x3 x5 x6 (hp1)) rfl (Nat.le_of_ble_eq_true rfl) ⟨Nat.le_of_ble_eq_true rfl, Nat.le_of_ble_eq_true rfl⟩ (Nat.le_of_ble_eq_true rfl) dX6_findLie_67) rfl (fun σ7 => ?_)
      refine tj_aload_n (q := 71) dX6_findLie_70 rfl (i := 0) rfl (pl := 0) rfl ?_
      refine tj_aload_n (q := 72) dX6_findLie_71 rfl (i := 1) rfl (pl := 1) rfl ?_
      refine tj_aload_n (q := 73) dX6_findLie_72 rfl (i := 2) rfl (pl := 2) rfl ?_
      refine tj_iload (q := 75) dX6_findLie_73 rfl (pl := 4) rfl ?_
      refine tj_bipush (q := 77) (v := 61) dX6_findLie_75 rfl (by decide) ?_
      refine tj_callI (q := 80) (kj_V (As := [.ref (h0 + p1), .ref (h0 + p2), .int x4, .int (61 : Int32)]) (rest := []) (t := t) wi_RX6_76 (hT).s rfl (rX6_run t p1 p2 x4 (61 : Int32) (hT) (hp1) (hp2)) rfl (Nat.le_of_ble_eq_true rfl) ⟨Nat.le_of_ble_eq_true rfl, Nat.le_of_ble_eq_true rfl⟩ (Nat.le_of_ble_eq_true rfl) dX6_findLie_77) rfl (fun r8 => ?_)
      refine tj_pop (q := 81) dX6_findLie_80 rfl rfl ?_
      refine tj_aload_n (q := 82) dX6_findLie_81 rfl (i := 1) rfl (pl := 1) rfl ?_
      refine tj_iload_n (q := 83) dX6_findLie_82 rfl (i := 3) rfl (pl := 3) rfl ?_
      refine tj_aload_n (q := 84) dX6_findLie_83 rfl (i := 0) rfl (pl := 0) rfl ?_
      refine tj_getR (q := 87) (hT).s (hT).p_scene fok_6_1 wl_RX6_21 dX6_findLie_84 rfl ?_
      refine tj_getR (q := 90) ((hT).o_scene).s ((hT).o_scene).p_held fok_8_0 wl_RX6_80 dX6_findLie_87 rfl ?_
      refine tj_iload_n (q := 91) dX6_findLie_90 rfl (i := 3) rfl (pl := 3) rfl ?_
      refine tj_iaload (q := 92) ((hT).o_scene).s_held dX6_findLie_91 rfl ?_
      refine tj_topI (fun v9 => ?_)
      refine tj_callIp (q := 95) (kj_V (As := [.int x3, .int v9]) (rest := []) (t := p1) wi_RX6_83 (hp1).s rfl (rX1_valueOfSet p1 x3 v9 (hp1)) rfl (Nat.le_of_ble_eq_true rfl) ⟨Nat.le_of_ble_eq_true rfl, Nat.le_of_ble_eq_true rfl⟩ (Nat.le_of_ble_eq_true rfl) dX6_findLie_92) rfl (fun r10 => ?_)
      refine tj_istore (q := 97) dX6_findLie_95 rfl (by decide) rfl ?_
      refine tj_iload (q := 99) dX6_findLie_97 rfl (pl := 0) rfl ?_
      refine tj_aload_n (q := 100) dX6_findLie_99 rfl (i := 0) rfl (pl := 1) rfl ?_
      refine tj_getI (q := 103) (hT).s fok_6_2 wl_RX6_25 dX6_findLie_100 rfl ?_
      refine tj_bnd (fun k12 => ∀ (σ11 : St_), Tj l D cA h0 ad RX6 cX6_findLie 8 none false 8 0 0 (fun b => (none, sh, P, b)) 0 0 sh P σ11 124 [(0, .ref (h0 + t)), (1, .ref (h0 + p1)), (2, .ref (h0 + p2)), (3, .int x3), (4, .int x4), (5, .int x5), (6, .int x6)] [] (k12 σ11)) ?_ (fun k12 hk13 => ?_)
      · intro σ11
        refine tj_iinc (q := 127) (v := x6 + 1) dX6_findLie_124 rfl (pl := 6) rfl rfl (by decide) rfl ?_
        refine tj_goto (q := 54) dX6_findLie_127 (by decide) ?_
        refine tj_lv [1, 2, 3, 4, 5, 6, 0] rfl ?_
        exact ih (x6 + 1) σ11
      · refine tj_icmp_le (tgt := 124) (q := 106) dX6_findLie_103 (by decide) rfl ?_ ?_
        · refine tj_lv [1, 2, 3, 4, 5, 6, 7] rfl ?_
          exact hk13 r8.2
        · refine tj_aload_n (q := 107) dX6_findLie_106 rfl (i := 0) rfl (pl := 1) rfl ?_
          refine tj_iload (q := 109) dX6_findLie_107 rfl (pl := 0) rfl ?_
          refine tj_putI (q := 112) (hT).s fok_6_2 tok_6 fpk_6_2 wl_RX6_25 dX6_findLie_109 rfl (fun σ14 => ?_)
          refine tj_aload_n (q := 113) dX6_findLie_112 rfl (i := 0) rfl (pl := 1) rfl ?_
          refine tj_iload (q := 115) dX6_findLie_113 rfl (pl := 6) rfl ?_
          refine tj_putI (q := 118) (hT).s fok_6_3 tok_6 fpk_6_3 wl_RX6_29 dX6_findLie_115 rfl (fun σ15 => ?_)
          refine tj_aload_n (q := 119) dX6_findLie_118 rfl (i := 0) rfl (pl := 1) rfl ?_
          refine tj_iload (q := 121) dX6_findLie_119 rfl (pl := 7) rfl ?_
          refine tj_putI (q := 124) (hT).s fok_6_4 tok_6 fpk_6_4 wl_RX6_32 dX6_findLie_121 rfl (fun σ16 => ?_)
          refine tj_lv [1, 2, 3, 4, 5, 6, 7] rfl ?_
          exact hk13 σ16

set_option maxHeartbeats 4000000 in
theorem tmX6_findLie_L42 (t : Nat) (p1 : Nat) (p2 : Nat) (hT : LY6 sh P t) (hp1 : LY1 sh P p1) (hp2 : LY8 sh P p2) (x3 : Int32) (x4 : Int32) : ∀ (n : Nat) (x5 : Int32) (σ : St_), Tj l D cA h0 ad RX6 cX6_findLie 8 none false 8 0 0 (fun b => (none, sh, P, b)) 0 0 sh P σ 42 [(0, .ref (h0 + t)), (1, .ref (h0 + p1)), (2, .ref (h0 + p2)), (3, .int x3), (4, .int x4), (5, .int x5)] [] (mX6_findLie_L42 t p1 p2 x3 x4 n x5 σ) := by
  intro n
  induction n with
  | zero => intros; exact tj_none
  | succ n ih =>
    intro x5 σ
    rw [mX6_findLie_L42]
    refine tj_iload (q := 44) dX6_findLie_42 rfl (pl := 5) rfl ?_
    refine tj_aload_n (q := 45) dX6_findLie_44 rfl (i := 1) rfl (pl := 1) rfl ?_
    refine tj_getI (q := 48) (hp1).s fok_1_2 wl_RX6_87 dX6_findLie_45 rfl ?_
    refine tj_icmp_ge (tgt := 143) (q := 51) dX6_findLie_48 (by decide) rfl ?_ ?_
    · exact tj_vret rfl rfl (Nat.le_of_ble_eq_true rfl) (Nat.le_of_ble_eq_true rfl) dX6_findLie_143
    · refine tj_iconst (q := 52) (v := 0) dX6_findLie_51 rfl (by decide) ?_
      refine tj_istore (q := 54) dX6_findLie_52 rfl (by decide) rfl ?_
      refine tj_lv [1, 2, 3, 4, 5, 6, 0] rfl ?_
      refine tmX6_findLie_L54 t p1 p2 hT hp1 hp2 x3 x4 x5 _ ?_ FU (0 : Int32) σ
      · intro σ17
        refine tj_aload_n (q := 131) dX6_findLie_130 rfl (i := 1) rfl (pl := 1) rfl ?_
        refine tj_iload_n (q := 132) dX6_findLie_131 rfl (i := 3) rfl (pl := 3) rfl ?_
        refine tj_iload (q := 134) dX6_findLie_132 rfl (pl := 5) rfl ?_
        refine tj_callV (q := 137) (kj_V (As := [.int x3, .int x5]) (rest := []) (t := p1) wi_RX6_94 (hp1).s rfl (rX1_sayTruth p1 x3 x5 (hp1)) rfl (Nat.le_of_ble_eq_true rfl) ⟨Nat.le_of_ble_eq_true rfl, Nat.le_of_ble_eq_true rfl⟩ (Nat.le_of_ble_eq_true rfl) dX6_findLie_134) rfl (fun σ18 => ?_)
        refine tj_iinc (q := 140) (v := x5 + 1) dX6_findLie_137 rfl (pl := 5) rfl rfl (by decide) rfl ?_
        refine tj_goto (q := 42) dX6_findLie_140 (by decide) ?_
        refine tj_lv [1, 2, 3, 4, 5, 0] rfl ?_
        exact ih (x5 + 1) σ18

set_option maxHeartbeats 4000000 in
theorem rX6_findLie (t : Nat) (p1 : Nat) (p2 : Nat) (p3 : Int32) (p4 : Int32) (hT : LY6 sh P t) (hp1 : LY1 sh P p1) (hp2 : LY8 sh P p2) : Rj l D cA h0 ad yX6_findLie cX6_findLie 8 none false 8 0 0 (fun b => (none, sh, P, b)) [.ref (h0 + t), .ref (h0 + p1), .ref (h0 + p2), .int p3, .int p4] sh P σ (mX6_findLie t p1 p2 p3 p4 σ) := by
  rw [mX6_findLie]
  refine Rj.of (by decide) (fun h => by cases h) (Nat.le_of_ble_eq_true rfl) ?_
  refine tj_lv0 (lv' := [(0, .ref (h0 + t)), (1, .ref (h0 + p1)), (2, .ref (h0 + p2)), (3, .int p3), (4, .int p4)]) rfl ?_
  refine tj_aload_n (q := 1) dX6_findLie_0 rfl (i := 0) rfl (pl := 0) rfl ?_
  refine tj_iconst (q := 2) (v := (-1)) dX6_findLie_1 rfl (by decide) ?_
  refine tj_putI (q := 5) (hT).s fok_6_3 tok_6 fpk_6_3 wl_RX6_29 dX6_findLie_2 rfl (fun σ1 => ?_)
  refine tj_aload_n (q := 6) dX6_findLie_5 rfl (i := 0) rfl (pl := 0) rfl ?_
  refine tj_iconst (q := 7) (v := (-1)) dX6_findLie_6 rfl (by decide) ?_
  refine tj_putI (q := 10) (hT).s fok_6_4 tok_6 fpk_6_4 wl_RX6_32 dX6_findLie_7 rfl (fun σ2 => ?_)
  refine tj_aload_n (q := 11) dX6_findLie_10 rfl (i := 0) rfl (pl := 0) rfl ?_
  refine tj_aload_n (q := 12) dX6_findLie_11 rfl (i := 1) rfl (pl := 1) rfl ?_
  refine tj_aload_n (q := 13) dX6_findLie_12 rfl (i := 2) rfl (pl := 2) rfl ?_
  refine tj_iload (q := 15) dX6_findLie_13 rfl (pl := 4) rfl ?_
  refine tj_bipush (q := 17) (v := 61) dX6_findLie_15 rfl (by decide) ?_
  refine tj_callI (q := 20) (kj_V (As := [.ref (h0 + p1), .ref (h0 + p2), .int p4, .int (61 : Int32)]) (rest := []) (t := t) wi_RX6_76 (hT).s rfl (rX6_run t p1 p2 p4 (61 : Int32) (hT) (hp1) (hp2)) rfl (Nat.le_of_ble_eq_true rfl) ⟨Nat.le_of_ble_eq_true rfl, Nat.le_of_ble_eq_true rfl⟩ (Nat.le_of_ble_eq_true rfl) dX6_findLie_17) rfl (fun r3 => ?_)
  refine tj_pop (q := 21) dX6_findLie_20 rfl rfl ?_
  refine tj_aload_n (q := 22) dX6_findLie_21 rfl (i := 0) rfl (pl := 0) rfl ?_
  refine tj_aload_n (q := 23) dX6_findLie_22 rfl (i := 1) rfl (pl := 1) rfl ?_
  refine tj_iload_n (q := 24) dX6_findLie_23 rfl (i := 3) rfl (pl := 3) rfl ?_
  refine tj_aload_n (q := 25) dX6_findLie_24 rfl (i := 0) rfl (pl := 0) rfl ?_
  refine tj_getR (q := 28) (hT).s (hT).p_scene fok_6_1 wl_RX6_21 dX6_findLie_25 rfl ?_
  refine tj_getR (q := 31) ((hT).o_scene).s ((hT).o_scene).p_held fok_8_0 wl_RX6_80 dX6_findLie_28 rfl ?_
  refine tj_iload_n (q := 32) dX6_findLie_31 rfl (i := 3) rfl (pl := 3) rfl ?_
  refine tj_iaload (q := 33) ((hT).o_scene).s_held dX6_findLie_32 rfl ?_
  refine tj_topI (fun v4 => ?_)
  refine tj_callIp (q := 36) (kj_V (As := [.int p3, .int v4]) (rest := [.ref (h0 + t)]) (t := p1) wi_RX6_83 (hp1).s rfl (rX1_valueOfSet p1 p3 v4 (hp1)) rfl (Nat.le_of_ble_eq_true rfl) ⟨Nat.le_of_ble_eq_true rfl, Nat.le_of_ble_eq_true rfl⟩ (Nat.le_of_ble_eq_true rfl) dX6_findLie_33) rfl (fun r5 => ?_)
  refine tj_putI (q := 39) (hT).s fok_6_2 tok_6 fpk_6_2 wl_RX6_25 dX6_findLie_36 rfl (fun σ6 => ?_)
  refine tj_iconst (q := 40) (v := 0) dX6_findLie_39 rfl (by decide) ?_
  refine tj_istore (q := 42) dX6_findLie_40 rfl (by decide) rfl ?_
  refine tj_lv [1, 2, 3, 4, 5, 0] rfl ?_
  exact tmX6_findLie_L42 t p1 p2 hT hp1 hp2 p3 p4 FU (0 : Int32) σ6

end
