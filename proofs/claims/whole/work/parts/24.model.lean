section
variable {l : Launch} {D : va_G} {cA : Nat → ClassId} {h0 : Nat} {ad : Ad_} {sh : Sh_} {P : Px_} {σ : St_}
theorem dX12_goOn_0 : decode cX12_goOn 0 = .ok (.aload_n 0, 1) := by decide +kernel
theorem dX12_goOn_1 : decode cX12_goOn 1 = .ok (.getfield 557, 3) := by decide +kernel
theorem dX12_goOn_4 : decode cX12_goOn 4 = .ok (.istore_n 2, 1) := by decide +kernel
theorem dX12_goOn_5 : decode cX12_goOn 5 = .ok (.aload_n 0, 1) := by decide +kernel
theorem dX12_goOn_6 : decode cX12_goOn 6 = .ok (.getfield 560, 3) := by decide +kernel
theorem dX12_goOn_9 : decode cX12_goOn 9 = .ok (.istore_n 3, 1) := by decide +kernel
theorem dX12_goOn_10 : decode cX12_goOn 10 = .ok (.aload_n 0, 1) := by decide +kernel
theorem dX12_goOn_11 : decode cX12_goOn 11 = .ok (.aload_n 0, 1) := by decide +kernel
theorem dX12_goOn_12 : decode cX12_goOn 12 = .ok (.getfield 560, 3) := by decide +kernel
theorem dX12_goOn_15 : decode cX12_goOn 15 = .ok (.putfield 557, 3) := by decide +kernel
theorem dX12_goOn_18 : decode cX12_goOn 18 = .ok (.iload_n 2, 1) := by decide +kernel
theorem dX12_goOn_19 : decode cX12_goOn 19 = .ok (.istore 4, 2) := by decide +kernel
theorem dX12_goOn_21 : decode cX12_goOn 21 = .ok (.iload 4, 2) := by decide +kernel
theorem dX12_goOn_23 : decode cX12_goOn 23 = .ok (.iload_n 3, 1) := by decide +kernel
theorem dX12_goOn_24 : decode cX12_goOn 24 = .ok (.if_icmp .ge 80, 3) := by decide +kernel
theorem dX12_goOn_27 : decode cX12_goOn 27 = .ok (.aload_n 0, 1) := by decide +kernel
theorem dX12_goOn_28 : decode cX12_goOn 28 = .ok (.iload 4, 2) := by decide +kernel
theorem dX12_goOn_30 : decode cX12_goOn 30 = .ok (.invokevirtual 566, 3) := by decide +kernel
theorem dX12_goOn_33 : decode cX12_goOn 33 = .ok (.aload_n 0, 1) := by decide +kernel
theorem dX12_goOn_34 : decode cX12_goOn 34 = .ok (.iload_n 1, 1) := by decide +kernel
theorem dX12_goOn_35 : decode cX12_goOn 35 = .ok (.iconst 0, 1) := by decide +kernel
theorem dX12_goOn_36 : decode cX12_goOn 36 = .ok (.invokevirtual 541, 3) := by decide +kernel
theorem dX12_goOn_39 : decode cX12_goOn 39 = .ok (.istore 5, 2) := by decide +kernel
theorem dX12_goOn_41 : decode cX12_goOn 41 = .ok (.iload 5, 2) := by decide +kernel
theorem dX12_goOn_43 : decode cX12_goOn 43 = .ok (.ifCond .lt 43, 3) := by decide +kernel
theorem dX12_goOn_46 : decode cX12_goOn 46 = .ok (.aload_n 0, 1) := by decide +kernel
theorem dX12_goOn_47 : decode cX12_goOn 47 = .ok (.iload_n 1, 1) := by decide +kernel
theorem dX12_goOn_48 : decode cX12_goOn 48 = .ok (.iload 5, 2) := by decide +kernel
theorem dX12_goOn_50 : decode cX12_goOn 50 = .ok (.invokevirtual 569, 3) := by decide +kernel
theorem dX12_goOn_53 : decode cX12_goOn 53 = .ok (.aload_n 0, 1) := by decide +kernel
theorem dX12_goOn_54 : decode cX12_goOn 54 = .ok (.iload 4, 2) := by decide +kernel
theorem dX12_goOn_56 : decode cX12_goOn 56 = .ok (.iload 5, 2) := by decide +kernel
theorem dX12_goOn_58 : decode cX12_goOn 58 = .ok (.invokevirtual 572, 3) := by decide +kernel
theorem dX12_goOn_61 : decode cX12_goOn 61 = .ok (.ifCond .ne 5, 3) := by decide +kernel
theorem dX12_goOn_64 : decode cX12_goOn 64 = .ok (.iconst 0, 1) := by decide +kernel
theorem dX12_goOn_65 : decode cX12_goOn 65 = .ok (.ireturn, 1) := by decide +kernel
theorem dX12_goOn_66 : decode cX12_goOn 66 = .ok (.aload_n 0, 1) := by decide +kernel
theorem dX12_goOn_67 : decode cX12_goOn 67 = .ok (.iload 4, 2) := by decide +kernel
theorem dX12_goOn_69 : decode cX12_goOn 69 = .ok (.invokevirtual 566, 3) := by decide +kernel
theorem dX12_goOn_72 : decode cX12_goOn 72 = .ok (.aload_n 0, 1) := by decide +kernel
theorem dX12_goOn_73 : decode cX12_goOn 73 = .ok (.iload_n 1, 1) := by decide +kernel
theorem dX12_goOn_74 : decode cX12_goOn 74 = .ok (.iload 5, 2) := by decide +kernel
theorem dX12_goOn_76 : decode cX12_goOn 76 = .ok (.iconst 1, 1) := by decide +kernel
theorem dX12_goOn_77 : decode cX12_goOn 77 = .ok (.iadd, 1) := by decide +kernel
theorem dX12_goOn_78 : decode cX12_goOn 78 = .ok (.invokevirtual 541, 3) := by decide +kernel
theorem dX12_goOn_81 : decode cX12_goOn 81 = .ok (.istore 5, 2) := by decide +kernel
theorem dX12_goOn_83 : decode cX12_goOn 83 = .ok (.goto (-42), 3) := by decide +kernel
theorem dX12_goOn_86 : decode cX12_goOn 86 = .ok (.aload_n 0, 1) := by decide +kernel
theorem dX12_goOn_87 : decode cX12_goOn 87 = .ok (.iload 4, 2) := by decide +kernel
theorem dX12_goOn_89 : decode cX12_goOn 89 = .ok (.iconst (-1), 1) := by decide +kernel
theorem dX12_goOn_90 : decode cX12_goOn 90 = .ok (.invokevirtual 572, 3) := by decide +kernel
theorem dX12_goOn_93 : decode cX12_goOn 93 = .ok (.ifCond .ne 5, 3) := by decide +kernel
theorem dX12_goOn_96 : decode cX12_goOn 96 = .ok (.iconst 0, 1) := by decide +kernel
theorem dX12_goOn_97 : decode cX12_goOn 97 = .ok (.ireturn, 1) := by decide +kernel
theorem dX12_goOn_98 : decode cX12_goOn 98 = .ok (.iinc 4 1, 3) := by decide +kernel
theorem dX12_goOn_101 : decode cX12_goOn 101 = .ok (.goto (-80), 3) := by decide +kernel
theorem dX12_goOn_104 : decode cX12_goOn 104 = .ok (.aload_n 0, 1) := by decide +kernel
theorem dX12_goOn_105 : decode cX12_goOn 105 = .ok (.invokevirtual 521, 3) := by decide +kernel
theorem dX12_goOn_108 : decode cX12_goOn 108 = .ok (.iconst 1, 1) := by decide +kernel
theorem dX12_goOn_109 : decode cX12_goOn 109 = .ok (.ireturn, 1) := by decide +kernel
theorem wm_X12_loadCome : Cond.instanceMethod yX12_loadCome ∈ TB ∧ Cond.selects yX12_loadCome.cls yX12_loadCome yX12_loadCome ∈ TB ∧ Cond.initialized yX12_loadCome.cls ∈ TB ∧ Cond.code yX12_loadCome cX12_loadCome 3 none ∈ TB ∧ (yX12_loadCome.cls ≠ "java/lang/invoke/MethodHandle" ∧ yX12_loadCome.cls ≠ "java/lang/invoke/VarHandle" ∧ (parseMethodDescriptor yX12_loadCome.desc).map (fun d => d.parameters.length) = some 1) ∧ 3 ≤ 21 := ⟨tbm 2080 (by decide +kernel) (by decide +kernel), tbm 120 (by decide +kernel) (by decide +kernel), tbm 146 (by decide +kernel) (by decide +kernel), tbm 2081 (by decide +kernel) (by decide +kernel), by decide +kernel, by decide⟩
theorem wi_RX12_566 : Iv RX12 566 yX12_loadCome cX12_loadCome 3 none 1 := ⟨tbm 2078 (by decide +kernel) (by decide +kernel), wm_X12_loadCome⟩
theorem wm_X12_doSwap : Cond.instanceMethod yX12_doSwap ∈ TB ∧ Cond.selects yX12_doSwap.cls yX12_doSwap yX12_doSwap ∈ TB ∧ Cond.initialized yX12_doSwap.cls ∈ TB ∧ Cond.code yX12_doSwap cX12_doSwap 3 none ∈ TB ∧ (yX12_doSwap.cls ≠ "java/lang/invoke/MethodHandle" ∧ yX12_doSwap.cls ≠ "java/lang/invoke/VarHandle" ∧ (parseMethodDescriptor yX12_doSwap.desc).map (fun d => d.parameters.length) = some 2) ∧ 3 ≤ 21 := ⟨tbm 2084 (by decide +kernel) (by decide +kernel), tbm 121 (by decide +kernel) (by decide +kernel), tbm 146 (by decide +kernel) (by decide +kernel), tbm 2085 (by decide +kernel) (by decide +kernel), by decide +kernel, by decide⟩
theorem wi_RX12_569 : Iv RX12 569 yX12_doSwap cX12_doSwap 3 none 2 := ⟨tbm 2082 (by decide +kernel) (by decide +kernel), wm_X12_doSwap⟩
theorem wm_X12_put : Cond.instanceMethod yX12_put ∈ TB ∧ Cond.selects yX12_put.cls yX12_put yX12_put ∈ TB ∧ Cond.initialized yX12_put.cls ∈ TB ∧ Cond.code yX12_put cX12_put 4 (some .boolean) ∈ TB ∧ (yX12_put.cls ≠ "java/lang/invoke/MethodHandle" ∧ yX12_put.cls ≠ "java/lang/invoke/VarHandle" ∧ (parseMethodDescriptor yX12_put.desc).map (fun d => d.parameters.length) = some 2) ∧ 4 ≤ 21 := ⟨tbm 2064 (by decide +kernel) (by decide +kernel), tbm 116 (by decide +kernel) (by decide +kernel), tbm 146 (by decide +kernel) (by decide +kernel), tbm 2065 (by decide +kernel) (by decide +kernel), by decide +kernel, by decide⟩
theorem wi_RX12_572 : Iv RX12 572 yX12_put cX12_put 4 (some .boolean) 2 := ⟨tbm 2062 (by decide +kernel) (by decide +kernel), wm_X12_put⟩
def mX12_goOn_L41 (t : Nat) (x1 : Int32) (x3 : Int32) (x4 : Int32) (k86 : St_ → Option (Bool × St_)) : Nat → Int32 → St_ → Option (Bool × St_)
  | 0, _, _ => none
  | n + 1, x5, σ => (if x5 < 0 then
 (k86 σ)
 else ((mX12_doSwap t x1 x5 σ).bind fun σ6 =>
 ((mX12_put t x4 x5 σ6).bind fun r7 =>
 (if r7.1 = true then
 ((mX12_loadCome t x4 r7.2).bind fun σ8 =>
 ((mX12_nextSwap t x1 (x5 + (1 : Int32)) σ8).bind fun r9 =>
 (mX12_goOn_L41 t x1 x3 x4 k86 n r9.1 r9.2)))
 else (some (false, r7.2))))))
def mX12_goOn_L21 (t : Nat) (x1 : Int32) (x3 : Int32) (k104 : St_ → Option (Bool × St_)) : Nat → Int32 → St_ → Option (Bool × St_)
  | 0, _, _ => none
  | n + 1, x4, σ => (if x3 ≤ x4 then
 (k104 σ)
 else ((mX12_loadCome t x4 σ).bind fun σ4 =>
 ((mX12_nextSwap t x1 (0 : Int32) σ4).bind fun r5 =>
 (mX12_goOn_L41 t x1 x3 x4
 (fun (σ10 : St_) => ((mX12_put t x4 (-1 : Int32) σ10).bind fun r11 =>
 (if r11.1 = true then
 (mX12_goOn_L21 t x1 x3 k104 n (x4 + 1) r11.2)
 else (some (false, r11.2))))) FU r5.1 r5.2))))
def mX12_goOn (t : Nat) (p1 : Int32) (σ : St_) : Option (Bool × St_) :=
 (bnd (σ.1 t 77) fun v1 =>
 (bnd (σ.1 t 76) fun v2 =>
 (bnd (sI σ t 77 (σ.1 t 76)) fun σ3 =>
 (mX12_goOn_L21 t p1 v2
 (fun (σ12 : St_) => ((mX12_tick t σ12).bind fun σ13 =>
 (some (true, σ13)))) FU v1 σ3))))
set_option maxHeartbeats 4000000 in
theorem tmX12_goOn_L41 (t : Nat) (hT : LY12 sh P t) (x1 : Int32) (x3 : Int32) (x4 : Int32) (k86 : St_ → Option (Bool × St_)) (hk86 : ∀ (σ1 : St_), Tj l D cA h0 ad RX12 cX12_goOn 6 (some .boolean) false 8 0 0 (fun b => (some (.int (b2i b.1)), sh, P, b.2)) 0 0 sh P σ1 86 [(0, .ref (h0 + t)), (1, .int x1), (3, .int x3), (4, .int x4)] [] (k86 σ1)) : ∀ (n : Nat) (x5 : Int32) (σ : St_), Tj l D cA h0 ad RX12 cX12_goOn 6 (some .boolean) false 8 0 0 (fun b => (some (.int (b2i b.1)), sh, P, b.2)) 0 0 sh P σ 41 [(0, .ref (h0 + t)), (1, .int x1), (3, .int x3), (4, .int x4), (5, .int x5)] [] (mX12_goOn_L41 t x1 x3 x4 k86 n x5 σ) := by
  intro n
  induction n with
  | zero => intros; exact tj_none
  | succ n ih =>
    intro x5 σ
    rw [mX12_goOn_L41]
    refine tj_iload (q := 43) dX12_goOn_41 rfl (pl := 4) rfl ?_
    refine tj_if_lt (tgt := 86) (q := 46) dX12_goOn_43 (by decide) rfl ?_ ?_
    · refine tj_lv [0, 1, 2, 3] rfl ?_
      exact hk86 σ
    · refine tj_aload_n (q := 47) dX12_goOn_46 rfl (i := 0) rfl (pl := 0) rfl ?_
      refine tj_iload_n (q := 48) dX12_goOn_47 rfl (i := 1) rfl (pl := 1) rfl ?_
      refine tj_iload (q := 50) dX12_goOn_48 rfl (pl := 4) rfl ?_
      refine tj_callV (q := 53) (kj_V (As := [.int x1, .int x5]) (rest := []) (t := t) wi_RX12_569 (hT).s rfl (rX12_doSwap t x1 x5 (hT)) rfl (Nat.le_of_ble_eq_true rfl) ⟨Nat.le_of_ble_eq_true rfl, Nat.le_of_ble_eq_true rfl⟩ (Nat.le_of_ble_eq_true rfl) dX12_goOn_50) rfl (fun σ6 => ?_)
      refine tj_aload_n (q := 54) dX12_goOn_53 rfl (i := 0) rfl (pl := 0) rfl ?_
      refine tj_iload (q := 56) dX12_goOn_54 rfl (pl := 3) rfl ?_
      refine tj_iload (q := 58) dX12_goOn_56 rfl (pl := 4) rfl ?_
      refine tj_callZ (q := 61) (kj_V (As := [.int x4, .int x5]) (rest := []) (t := t) wi_RX12_572 (hT).s rfl (rX12_put t x4 x5 (hT)) rfl (Nat.le_of_ble_eq_true rfl) ⟨Nat.le_of_ble_eq_true rfl, Nat.le_of_ble_eq_true rfl⟩ (Nat.le_of_ble_eq_true rfl) dX12_goOn_58) rfl (fun r7 => ?_)
      refine tj_bnz (tgt := 66) (q := 64) dX12_goOn_61 (by decide) rfl ?_ ?_
      · refine tj_aload_n (q := 67) dX12_goOn_66 rfl (i := 0) rfl (pl := 0) rfl ?_
        refine tj_iload (q := 69) dX12_goOn_67 rfl (pl := 3) rfl ?_
        refine tj_callV (q := 72) (kj_V (As := [.int x4]) (rest := []) (t := t) wi_RX12_566 (hT).s rfl (rX12_loadCome t x4 (hT)) rfl (Nat.le_of_ble_eq_true rfl) ⟨Nat.le_of_ble_eq_true rfl, Nat.le_of_ble_eq_true rfl⟩ (Nat.le_of_ble_eq_true rfl) dX12_goOn_69) rfl (fun σ8 => ?_)
        refine tj_aload_n (q := 73) dX12_goOn_72 rfl (i := 0) rfl (pl := 0) rfl ?_
        refine tj_iload_n (q := 74) dX12_goOn_73 rfl (i := 1) rfl (pl := 1) rfl ?_
        refine tj_iload (q := 76) dX12_goOn_74 rfl (pl := 4) rfl ?_
        refine tj_iconst (q := 77) (v := 1) dX12_goOn_76 rfl (by decide) ?_
        refine tj_iadd (q := 78) dX12_goOn_77 rfl ?_
        refine tj_callI (q := 81) (kj_V (As := [.int x1, .int (x5 + (1 : Int32))]) (rest := []) (t := t) wi_RX12_541 (hT).s rfl (rX12_nextSwap t x1 (x5 + (1 : Int32)) (hT)) rfl (Nat.le_of_ble_eq_true rfl) ⟨Nat.le_of_ble_eq_true rfl, Nat.le_of_ble_eq_true rfl⟩ (Nat.le_of_ble_eq_true rfl) dX12_goOn_78) rfl (fun r9 => ?_)
        refine tj_istore (q := 83) dX12_goOn_81 rfl (by decide) rfl ?_
        refine tj_goto (q := 41) dX12_goOn_83 (by decide) ?_
        refine tj_lv [1, 2, 3, 4, 0] rfl ?_
        exact ih r9.1 r9.2
      · refine tj_iconst (q := 65) (v := 0) dX12_goOn_64 rfl (by decide) ?_
        exact tj_zret rfl (by decide) rfl (Nat.le_of_ble_eq_true rfl) (Nat.le_of_ble_eq_true rfl) dX12_goOn_65

set_option maxHeartbeats 4000000 in
theorem tmX12_goOn_L21 (t : Nat) (hT : LY12 sh P t) (x1 : Int32) (x3 : Int32) (k104 : St_ → Option (Bool × St_)) (hk104 : ∀ (σ1 : St_), Tj l D cA h0 ad RX12 cX12_goOn 6 (some .boolean) false 8 0 0 (fun b => (some (.int (b2i b.1)), sh, P, b.2)) 0 0 sh P σ1 104 [(0, .ref (h0 + t))] [] (k104 σ1)) : ∀ (n : Nat) (x4 : Int32) (σ : St_), Tj l D cA h0 ad RX12 cX12_goOn 6 (some .boolean) false 8 0 0 (fun b => (some (.int (b2i b.1)), sh, P, b.2)) 0 0 sh P σ 21 [(0, .ref (h0 + t)), (1, .int x1), (3, .int x3), (4, .int x4)] [] (mX12_goOn_L21 t x1 x3 k104 n x4 σ) := by
  intro n
  induction n with
  | zero => intros; exact tj_none
  | succ n ih =>
    intro x4 σ
    rw [mX12_goOn_L21]
    refine tj_iload (q := 23) dX12_goOn_21 rfl (pl := 3) rfl ?_
    refine tj_iload_n (q := 24) dX12_goOn_23 rfl (i := 3) rfl (pl := 2) rfl ?_
    refine tj_icmp_ge (tgt := 104) (q := 27) dX12_goOn_24 (by decide) rfl ?_ ?_
    · refine tj_lv [0] rfl ?_
      exact hk104 σ
    · refine tj_aload_n (q := 28) dX12_goOn_27 rfl (i := 0) rfl (pl := 0) rfl ?_
      refine tj_iload (q := 30) dX12_goOn_28 rfl (pl := 3) rfl ?_
      refine tj_callV (q := 33) (kj_V (As := [.int x4]) (rest := []) (t := t) wi_RX12_566 (hT).s rfl (rX12_loadCome t x4 (hT)) rfl (Nat.le_of_ble_eq_true rfl) ⟨Nat.le_of_ble_eq_true rfl, Nat.le_of_ble_eq_true rfl⟩ (Nat.le_of_ble_eq_true rfl) dX12_goOn_30) rfl (fun σ4 => ?_)
      refine tj_aload_n (q := 34) dX12_goOn_33 rfl (i := 0) rfl (pl := 0) rfl ?_
      refine tj_iload_n (q := 35) dX12_goOn_34 rfl (i := 1) rfl (pl := 1) rfl ?_
      refine tj_iconst (q := 36) (v := 0) dX12_goOn_35 rfl (by decide) ?_
      refine tj_callI (q := 39) (kj_V (As := [.int x1, .int (0 : Int32)]) (rest := []) (t := t) wi_RX12_541 (hT).s rfl (rX12_nextSwap t x1 (0 : Int32) (hT)) rfl (Nat.le_of_ble_eq_true rfl) ⟨Nat.le_of_ble_eq_true rfl, Nat.le_of_ble_eq_true rfl⟩ (Nat.le_of_ble_eq_true rfl) dX12_goOn_36) rfl (fun r5 => ?_)
      refine tj_istore (q := 41) dX12_goOn_39 rfl (by decide) rfl ?_
      refine tj_lv [1, 2, 3, 4, 0] rfl ?_
      refine tmX12_goOn_L41 t hT x1 x3 x4 _ ?_ FU r5.1 r5.2
      · intro σ10
        refine tj_aload_n (q := 87) dX12_goOn_86 rfl (i := 0) rfl (pl := 0) rfl ?_
        refine tj_iload (q := 89) dX12_goOn_87 rfl (pl := 3) rfl ?_
        refine tj_iconst (q := 90) (v := (-1)) dX12_goOn_89 rfl (by decide) ?_
        refine tj_callZ (q := 93) (kj_V (As := [.int x4, .int (-1 : Int32)]) (rest := []) (t := t) wi_RX12_572 (hT).s rfl (rX12_put t x4 (-1 : Int32) (hT)) rfl (Nat.le_of_ble_eq_true rfl) ⟨Nat.le_of_ble_eq_true rfl, Nat.le_of_ble_eq_true rfl⟩ (Nat.le_of_ble_eq_true rfl) dX12_goOn_90) rfl (fun r11 => ?_)
        refine tj_bnz (tgt := 98) (q := 96) dX12_goOn_93 (by decide) rfl ?_ ?_
        · refine tj_iinc (q := 101) (v := x4 + 1) dX12_goOn_98 rfl (pl := 3) rfl rfl (by decide) rfl ?_
          refine tj_goto (q := 21) dX12_goOn_101 (by decide) ?_
          refine tj_lv [1, 2, 3, 0] rfl ?_
          exact ih (x4 + 1) r11.2
        · refine tj_iconst (q := 97) (v := 0) dX12_goOn_96 rfl (by decide) ?_
          exact tj_zret rfl (by decide) rfl (Nat.le_of_ble_eq_true rfl) (Nat.le_of_ble_eq_true rfl) dX12_goOn_97

set_option maxHeartbeats 4000000 in
theorem rX12_goOn (t : Nat) (p1 : Int32) (hT : LY12 sh P t) : Rj l D cA h0 ad yX12_goOn cX12_goOn 6 (some .boolean) false 8 0 0 (fun b => (some (.int (b2i b.1)), sh, P, b.2)) [.ref (h0 + t), .int p1] sh P σ (mX12_goOn t p1 σ) := by
  rw [mX12_goOn]
  refine Rj.of (by decide) (fun h => by cases h) (Nat.le_of_ble_eq_true rfl) ?_
  refine tj_lv0 (lv' := [(0, .ref (h0 + t)), (1, .int p1)]) rfl ?_
  refine tj_aload_n (q := 1) dX12_goOn_0 rfl (i := 0) rfl (pl := 0) rfl ?_
  refine tj_getI (q := 4) (hT).s fok_12_77 wl_RX12_557 dX12_goOn_1 rfl ?_
  refine tj_topI (fun v1 => ?_)
  refine tj_istore_n (q := 5) dX12_goOn_4 rfl (i := 2) rfl (by decide) rfl ?_
  refine tj_aload_n (q := 6) dX12_goOn_5 rfl (i := 0) rfl (pl := 1) rfl ?_
  refine tj_getI (q := 9) (hT).s fok_12_76 wl_RX12_560 dX12_goOn_6 rfl ?_
  refine tj_topI (fun v2 => ?_)
  refine tj_istore_n (q := 10) dX12_goOn_9 rfl (i := 3) rfl (by decide) rfl ?_
  refine tj_aload_n (q := 11) dX12_goOn_10 rfl (i := 0) rfl (pl := 2) rfl ?_
  refine tj_aload_n (q := 12) dX12_goOn_11 rfl (i := 0) rfl (pl := 2) rfl ?_
  refine tj_getI (q := 15) (hT).s fok_12_76 wl_RX12_560 dX12_goOn_12 rfl ?_
  refine tj_putI (q := 18) (hT).s fok_12_77 tok_12 fpk_12_77 wl_RX12_557 dX12_goOn_15 rfl (fun σ3 => ?_)
  refine tj_iload_n (q := 19) dX12_goOn_18 rfl (i := 2) rfl (pl := 1) rfl ?_
  refine tj_istore (q := 21) dX12_goOn_19 rfl (by decide) rfl ?_
  refine tj_lv [3, 4, 1, 0] rfl ?_
  refine tmX12_goOn_L21 t hT p1 v2 _ ?_ FU v1 σ3
  · intro σ12
    refine tj_aload_n (q := 105) dX12_goOn_104 rfl (i := 0) rfl (pl := 0) rfl ?_
    refine tj_callV (q := 108) (kj_V (As := []) (rest := []) (t := t) wi_RX12_521 (hT).s rfl (rX12_tick t (hT)) rfl (Nat.le_of_ble_eq_true rfl) ⟨Nat.le_of_ble_eq_true rfl, Nat.le_of_ble_eq_true rfl⟩ (Nat.le_of_ble_eq_true rfl) dX12_goOn_105) rfl (fun σ13 => ?_)
    refine tj_iconst (q := 109) (v := 1) dX12_goOn_108 rfl (by decide) ?_
    exact tj_zret rfl (by decide) rfl (Nat.le_of_ble_eq_true rfl) (Nat.le_of_ble_eq_true rfl) dX12_goOn_109

theorem dX12_putWay_0 : decode cX12_putWay 0 = .ok (.iload_n 1, 1) := by decide +kernel
theorem dX12_putWay_1 : decode cX12_putWay 1 = .ok (.istore_n 3, 1) := by decide +kernel
theorem dX12_putWay_2 : decode cX12_putWay 2 = .ok (.iload_n 2, 1) := by decide +kernel
theorem dX12_putWay_3 : decode cX12_putWay 3 = .ok (.iconst 1, 1) := by decide +kernel
theorem dX12_putWay_4 : decode cX12_putWay 4 = .ok (.isub, 1) := by decide +kernel
theorem dX12_putWay_5 : decode cX12_putWay 5 = .ok (.istore 4, 2) := by decide +kernel
theorem dX12_putWay_7 : decode cX12_putWay 7 = .ok (.iload 4, 2) := by decide +kernel
theorem dX12_putWay_9 : decode cX12_putWay 9 = .ok (.ifCond .lt 29, 3) := by decide +kernel
theorem dX12_putWay_12 : decode cX12_putWay 12 = .ok (.aload_n 0, 1) := by decide +kernel
theorem dX12_putWay_13 : decode cX12_putWay 13 = .ok (.getfield 129, 3) := by decide +kernel
theorem dX12_putWay_16 : decode cX12_putWay 16 = .ok (.iload 4, 2) := by decide +kernel
theorem dX12_putWay_18 : decode cX12_putWay 18 = .ok (.aload_n 0, 1) := by decide +kernel
theorem dX12_putWay_19 : decode cX12_putWay 19 = .ok (.getfield 126, 3) := by decide +kernel
theorem dX12_putWay_22 : decode cX12_putWay 22 = .ok (.iload_n 3, 1) := by decide +kernel
theorem dX12_putWay_23 : decode cX12_putWay 23 = .ok (.iaload, 1) := by decide +kernel
theorem dX12_putWay_24 : decode cX12_putWay 24 = .ok (.iastore, 1) := by decide +kernel
theorem dX12_putWay_25 : decode cX12_putWay 25 = .ok (.aload_n 0, 1) := by decide +kernel
theorem dX12_putWay_26 : decode cX12_putWay 26 = .ok (.getfield 123, 3) := by decide +kernel
theorem dX12_putWay_29 : decode cX12_putWay 29 = .ok (.iload_n 3, 1) := by decide +kernel
theorem dX12_putWay_30 : decode cX12_putWay 30 = .ok (.iaload, 1) := by decide +kernel
theorem dX12_putWay_31 : decode cX12_putWay 31 = .ok (.istore_n 3, 1) := by decide +kernel
theorem dX12_putWay_32 : decode cX12_putWay 32 = .ok (.iinc 4 (-1), 3) := by decide +kernel
theorem dX12_putWay_35 : decode cX12_putWay 35 = .ok (.goto (-28), 3) := by decide +kernel
theorem dX12_putWay_38 : decode cX12_putWay 38 = .ok (.iconst 0, 1) := by decide +kernel
theorem dX12_putWay_39 : decode cX12_putWay 39 = .ok (.istore 4, 2) := by decide +kernel
theorem dX12_putWay_41 : decode cX12_putWay 41 = .ok (.iload 4, 2) := by decide +kernel
theorem dX12_putWay_43 : decode cX12_putWay 43 = .ok (.iload_n 2, 1) := by decide +kernel
theorem dX12_putWay_44 : decode cX12_putWay 44 = .ok (.if_icmp .ge 20, 3) := by decide +kernel
theorem dX12_putWay_47 : decode cX12_putWay 47 = .ok (.aload_n 0, 1) := by decide +kernel
theorem dX12_putWay_48 : decode cX12_putWay 48 = .ok (.aload_n 0, 1) := by decide +kernel
theorem dX12_putWay_49 : decode cX12_putWay 49 = .ok (.getfield 129, 3) := by decide +kernel
theorem dX12_putWay_52 : decode cX12_putWay 52 = .ok (.iload 4, 2) := by decide +kernel
theorem dX12_putWay_54 : decode cX12_putWay 54 = .ok (.iaload, 1) := by decide +kernel
theorem dX12_putWay_55 : decode cX12_putWay 55 = .ok (.invokevirtual 554, 3) := by decide +kernel
theorem dX12_putWay_58 : decode cX12_putWay 58 = .ok (.iinc 4 1, 3) := by decide +kernel
theorem dX12_putWay_61 : decode cX12_putWay 61 = .ok (.goto (-20), 3) := by decide +kernel
theorem dX12_putWay_64 : decode cX12_putWay 64 = .ok (.iload_n 2, 1) := by decide +kernel
theorem dX12_putWay_65 : decode cX12_putWay 65 = .ok (.ireturn, 1) := by decide +kernel
theorem wl_RX12_129 : Cond.fieldLink RX12 129 (TX12 75).1 (TX12 75).2.1 (TX12 75).2.2.1 ∈ TB := tbm 1490 (by decide +kernel) (by decide +kernel)
def mX12_putWay_L7 (t : Nat) (x2 : Int32) (k38 : St_ → Option (Int32 × St_)) : Nat → Int32 → Int32 → St_ → Option (Int32 × St_)
  | 0, _, _, _ => none
  | n + 1, x3, x4, σ => (if x4 < 0 then
 (k38 σ)
 else (if bin x3 2002 = true then bnd (σ.1 (t + 35) x3.toNatClampNeg) fun v2 =>
 (if bin x4 10 = true then bnd (sI σ (t + 36) x4.toNatClampNeg v2) fun σ3 =>
 (if bin x3 2002 = true then bnd (σ3.1 (t + 34) x3.toNatClampNeg) fun v4 =>
 (mX12_putWay_L7 t x2 k38 n v4 (x4 + (-1)) σ3)
 else none)
 else none)
 else none))
def mX12_putWay_L41 (t : Nat) (x2 : Int32) : Nat → Int32 → St_ → Option (Int32 × St_)
  | 0, _, _ => none
  | n + 1, x4, σ => (if x2 ≤ x4 then
 (some (x2, σ))
 else (if bin x4 10 = true then bnd (σ.1 (t + 36) x4.toNatClampNeg) fun v6 =>
 ((mX12_laySwap t v6 σ).bind fun σ7 =>
 (mX12_putWay_L41 t x2 n (x4 + 1) σ7))
 else none))
def mX12_putWay (t : Nat) (p1 : Int32) (p2 : Int32) (σ : St_) : Option (Int32 × St_) :=
 (bnd (p2 - (1 : Int32)) fun v1 =>
 (mX12_putWay_L7 t p2
 (fun (σ5 : St_) => (mX12_putWay_L41 t p2 FU (0 : Int32) σ5)) FU p1 v1 σ))
set_option maxHeartbeats 4000000 in
theorem tmX12_putWay_L7 (t : Nat) (hT : LY12 sh P t) (x2 : Int32) (k38 : St_ → Option (Int32 × St_)) (hk38 : ∀ (σ1 : St_), Tj l D cA h0 ad RX12 cX12_putWay 5 (some .int) false 4 0 0 (fun b => (some (.int b.1), sh, P, b.2)) 0 0 sh P σ1 38 [(0, .ref (h0 + t)), (2, .int x2)] [] (k38 σ1)) : ∀ (n : Nat) (x3 : Int32) (x4 : Int32) (σ : St_), Tj l D cA h0 ad RX12 cX12_putWay 5 (some .int) false 4 0 0 (fun b => (some (.int b.1), sh, P, b.2)) 0 0 sh P σ 7 [(0, .ref (h0 + t)), (2, .int x2), (3, .int x3), (4, .int x4)] [] (mX12_putWay_L7 t x2 k38 n x3 x4 σ) := by
  intro n
  induction n with
  | zero => intros; exact tj_none
  | succ n ih =>
    intro x3 x4 σ
    rw [mX12_putWay_L7]
    refine tj_iload (q := 9) dX12_putWay_7 rfl (pl := 3) rfl ?_
    refine tj_if_lt (tgt := 38) (q := 12) dX12_putWay_9 (by decide) rfl ?_ ?_
    · refine tj_lv [0, 1] rfl ?_
      exact hk38 σ
    · refine tj_aload_n (q := 13) dX12_putWay_12 rfl (i := 0) rfl (pl := 0) rfl ?_
      refine tj_getR (q := 16) (hT).s (hT).p_way fok_12_75 wl_RX12_129 dX12_putWay_13 rfl ?_
      refine tj_iload (q := 18) dX12_putWay_16 rfl (pl := 3) rfl ?_
      refine tj_aload_n (q := 19) dX12_putWay_18 rfl (i := 0) rfl (pl := 0) rfl ?_
      refine tj_getR (q := 22) (hT).s (hT).p_by fok_12_74 wl_RX12_126 dX12_putWay_19 rfl ?_
      refine tj_iload_n (q := 23) dX12_putWay_22 rfl (i := 3) rfl (pl := 2) rfl ?_
      refine tj_iaload (q := 24) (hT).s_by dX12_putWay_23 rfl ?_
      refine tj_topI (fun v2 => ?_)
      refine tj_iastore (q := 25) (hT).s_way dX12_putWay_24 rfl (fun σ3 => ?_)
      refine tj_aload_n (q := 26) dX12_putWay_25 rfl (i := 0) rfl (pl := 0) rfl ?_
      refine tj_getR (q := 29) (hT).s (hT).p_from fok_12_73 wl_RX12_123 dX12_putWay_26 rfl ?_
      refine tj_iload_n (q := 30) dX12_putWay_29 rfl (i := 3) rfl (pl := 2) rfl ?_
      refine tj_iaload (q := 31) (hT).s_from dX12_putWay_30 rfl ?_
      refine tj_topI (fun v4 => ?_)
      refine tj_istore_n (q := 32) dX12_putWay_31 rfl (i := 3) rfl (by decide) rfl ?_
      refine tj_iinc (q := 35) (v := x4 + (-1)) dX12_putWay_32 rfl (pl := 3) rfl rfl (by decide) rfl ?_
      refine tj_goto (q := 7) dX12_putWay_35 (by decide) ?_
      refine tj_lv [2, 3, 1, 0] rfl ?_
      exact ih v4 (x4 + (-1)) σ3

set_option maxHeartbeats 4000000 in
theorem tmX12_putWay_L41 (t : Nat) (hT : LY12 sh P t) (x2 : Int32) : ∀ (n : Nat) (x4 : Int32) (σ : St_), Tj l D cA h0 ad RX12 cX12_putWay 5 (some .int) false 4 0 0 (fun b => (some (.int b.1), sh, P, b.2)) 0 0 sh P σ 41 [(0, .ref (h0 + t)), (2, .int x2), (4, .int x4)] [] (mX12_putWay_L41 t x2 n x4 σ) := by
  intro n
  induction n with
  | zero => intros; exact tj_none
  | succ n ih =>
    intro x4 σ
    rw [mX12_putWay_L41]
    refine tj_iload (q := 43) dX12_putWay_41 rfl (pl := 2) rfl ?_
    refine tj_iload_n (q := 44) dX12_putWay_43 rfl (i := 2) rfl (pl := 1) rfl ?_
    refine tj_icmp_ge (tgt := 64) (q := 47) dX12_putWay_44 (by decide) rfl ?_ ?_
    · refine tj_iload_n (q := 65) dX12_putWay_64 rfl (i := 2) rfl (pl := 1) rfl ?_
      exact tj_iret rfl rfl (Nat.le_of_ble_eq_true rfl) (Nat.le_of_ble_eq_true rfl) dX12_putWay_65
    · refine tj_aload_n (q := 48) dX12_putWay_47 rfl (i := 0) rfl (pl := 0) rfl ?_
      refine tj_aload_n (q := 49) dX12_putWay_48 rfl (i := 0) rfl (pl := 0) rfl ?_
      refine tj_getR (q := 52) (hT).s (hT).p_way fok_12_75 wl_RX12_129 dX12_putWay_49 rfl ?_
      refine tj_iload (q := 54) dX12_putWay_52 rfl (pl := 2) rfl ?_
      refine tj_iaload (q := 55) (hT).s_way dX12_putWay_54 rfl ?_
      refine tj_topI (fun v6 => ?_)
      refine tj_callV (q := 58) (kj_V (As := [.int v6]) (rest := []) (t := t) wi_RX12_554 (hT).s rfl (rX12_laySwap t v6 (hT)) rfl (Nat.le_of_ble_eq_true rfl) ⟨Nat.le_of_ble_eq_true rfl, Nat.le_of_ble_eq_true rfl⟩ (Nat.le_of_ble_eq_true rfl) dX12_putWay_55) rfl (fun σ7 => ?_)
      refine tj_iinc (q := 61) (v := x4 + 1) dX12_putWay_58 rfl (pl := 2) rfl rfl (by decide) rfl ?_
      refine tj_goto (q := 41) dX12_putWay_61 (by decide) ?_
      refine tj_lv [1, 2, 0] rfl ?_
      exact ih (x4 + 1) σ7

set_option maxHeartbeats 4000000 in
theorem rX12_putWay (t : Nat) (p1 : Int32) (p2 : Int32) (hT : LY12 sh P t) : Rj l D cA h0 ad yX12_putWay cX12_putWay 5 (some .int) false 4 0 0 (fun b => (some (.int b.1), sh, P, b.2)) [.ref (h0 + t), .int p1, .int p2] sh P σ (mX12_putWay t p1 p2 σ) := by
  rw [mX12_putWay]
  refine Rj.of (by decide) (fun h => by cases h) (Nat.le_of_ble_eq_true rfl) ?_
  refine tj_lv0 (lv' := [(0, .ref (h0 + t)), (1, .int p1), (2, .int p2)]) rfl ?_
  refine tj_iload_n (q := 1) dX12_putWay_0 rfl (i := 1) rfl (pl := 1) rfl ?_
  refine tj_istore_n (q := 2) dX12_putWay_1 rfl (i := 3) rfl (by decide) rfl ?_
  refine tj_iload_n (q := 3) dX12_putWay_2 rfl (i := 2) rfl (pl := 3) rfl ?_
  refine tj_iconst (q := 4) (v := 1) dX12_putWay_3 rfl (by decide) ?_
  refine tj_isub (q := 5) dX12_putWay_4 rfl ?_
  refine tj_topI (fun v1 => ?_)
  refine tj_istore (q := 7) dX12_putWay_5 rfl (by decide) rfl ?_
  refine tj_lv [2, 4, 1, 0] rfl ?_
  refine tmX12_putWay_L7 t hT p2 _ ?_ FU p1 v1 σ
  · intro σ5
    refine tj_iconst (q := 39) (v := 0) dX12_putWay_38 rfl (by decide) ?_
    refine tj_istore (q := 41) dX12_putWay_39 rfl (by decide) rfl ?_
    refine tj_lv [1, 2, 0] rfl ?_
    exact tmX12_putWay_L41 t hT p2 FU (0 : Int32) σ5

theorem dX12_tour_0 : decode cX12_tour 0 = .ok (.aload_n 0, 1) := by decide +kernel
theorem dX12_tour_1 : decode cX12_tour 1 = .ok (.iconst 0, 1) := by decide +kernel
theorem dX12_tour_2 : decode cX12_tour 2 = .ok (.putfield 443, 3) := by decide +kernel
theorem dX12_tour_5 : decode cX12_tour 5 = .ok (.aload_n 0, 1) := by decide +kernel
theorem dX12_tour_6 : decode cX12_tour 6 = .ok (.iload_n 1, 1) := by decide +kernel
theorem dX12_tour_7 : decode cX12_tour 7 = .ok (.invokevirtual 450, 3) := by decide +kernel
theorem dX12_tour_10 : decode cX12_tour 10 = .ok (.ifCond .eq 11, 3) := by decide +kernel
theorem dX12_tour_13 : decode cX12_tour 13 = .ok (.aload_n 0, 1) := by decide +kernel
theorem dX12_tour_14 : decode cX12_tour 14 = .ok (.iload_n 2, 1) := by decide +kernel
theorem dX12_tour_15 : decode cX12_tour 15 = .ok (.invokevirtual 490, 3) := by decide +kernel
theorem dX12_tour_18 : decode cX12_tour 18 = .ok (.ifCond .ne 5, 3) := by decide +kernel
theorem dX12_tour_21 : decode cX12_tour 21 = .ok (.iconst (-1), 1) := by decide +kernel
theorem dX12_tour_22 : decode cX12_tour 22 = .ok (.ireturn, 1) := by decide +kernel
theorem dX12_tour_23 : decode cX12_tour 23 = .ok (.aload_n 0, 1) := by decide +kernel
theorem dX12_tour_24 : decode cX12_tour 24 = .ok (.invokevirtual 497, 3) := by decide +kernel
theorem dX12_tour_27 : decode cX12_tour 27 = .ok (.aload_n 0, 1) := by decide +kernel
theorem dX12_tour_28 : decode cX12_tour 28 = .ok (.iconst 0, 1) := by decide +kernel
theorem dX12_tour_29 : decode cX12_tour 29 = .ok (.putfield 560, 3) := by decide +kernel
theorem dX12_tour_32 : decode cX12_tour 32 = .ok (.aload_n 0, 1) := by decide +kernel
theorem dX12_tour_33 : decode cX12_tour 33 = .ok (.iconst 0, 1) := by decide +kernel
theorem dX12_tour_34 : decode cX12_tour 34 = .ok (.putfield 557, 3) := by decide +kernel
theorem dX12_tour_37 : decode cX12_tour 37 = .ok (.aload_n 0, 1) := by decide +kernel
theorem dX12_tour_38 : decode cX12_tour 38 = .ok (.iconst (-1), 1) := by decide +kernel
theorem dX12_tour_39 : decode cX12_tour 39 = .ok (.iconst (-1), 1) := by decide +kernel
theorem dX12_tour_40 : decode cX12_tour 40 = .ok (.invokevirtual 572, 3) := by decide +kernel
theorem dX12_tour_43 : decode cX12_tour 43 = .ok (.istore_n 3, 1) := by decide +kernel
theorem dX12_tour_44 : decode cX12_tour 44 = .ok (.iconst 0, 1) := by decide +kernel
theorem dX12_tour_45 : decode cX12_tour 45 = .ok (.istore 4, 2) := by decide +kernel
theorem dX12_tour_47 : decode cX12_tour 47 = .ok (.iload 4, 2) := by decide +kernel
theorem dX12_tour_49 : decode cX12_tour 49 = .ok (.bipush 9, 2) := by decide +kernel
theorem dX12_tour_51 : decode cX12_tour 51 = .ok (.if_icmp .gt 75, 3) := by decide +kernel
theorem dX12_tour_54 : decode cX12_tour 54 = .ok (.iload_n 3, 1) := by decide +kernel
theorem dX12_tour_55 : decode cX12_tour 55 = .ok (.ifCond .eq 71, 3) := by decide +kernel
theorem dX12_tour_58 : decode cX12_tour 58 = .ok (.aload_n 0, 1) := by decide +kernel
theorem dX12_tour_59 : decode cX12_tour 59 = .ok (.getfield 557, 3) := by decide +kernel
theorem dX12_tour_62 : decode cX12_tour 62 = .ok (.istore 5, 2) := by decide +kernel
theorem dX12_tour_64 : decode cX12_tour 64 = .ok (.iload 5, 2) := by decide +kernel
theorem dX12_tour_66 : decode cX12_tour 66 = .ok (.aload_n 0, 1) := by decide +kernel
theorem dX12_tour_67 : decode cX12_tour 67 = .ok (.getfield 560, 3) := by decide +kernel
theorem dX12_tour_70 : decode cX12_tour 70 = .ok (.if_icmp .ge 37, 3) := by decide +kernel
theorem dX12_tour_73 : decode cX12_tour 73 = .ok (.aload_n 0, 1) := by decide +kernel
theorem dX12_tour_74 : decode cX12_tour 74 = .ok (.getfield 120, 3) := by decide +kernel
theorem dX12_tour_77 : decode cX12_tour 77 = .ok (.bipush 10, 2) := by decide +kernel
theorem dX12_tour_79 : decode cX12_tour 79 = .ok (.iload 5, 2) := by decide +kernel
theorem dX12_tour_81 : decode cX12_tour 81 = .ok (.imul, 1) := by decide +kernel
theorem dX12_tour_82 : decode cX12_tour 82 = .ok (.iload_n 2, 1) := by decide +kernel
theorem dX12_tour_83 : decode cX12_tour 83 = .ok (.iadd, 1) := by decide +kernel
theorem dX12_tour_84 : decode cX12_tour 84 = .ok (.iaload, 1) := by decide +kernel
theorem dX12_tour_85 : decode cX12_tour 85 = .ok (.bipush 10, 2) := by decide +kernel
theorem dX12_tour_87 : decode cX12_tour 87 = .ok (.iload_n 1, 1) := by decide +kernel
theorem dX12_tour_88 : decode cX12_tour 88 = .ok (.iadd, 1) := by decide +kernel
theorem dX12_tour_89 : decode cX12_tour 89 = .ok (.if_icmp .ne 12, 3) := by decide +kernel
theorem dX12_tour_92 : decode cX12_tour 92 = .ok (.aload_n 0, 1) := by decide +kernel
theorem dX12_tour_93 : decode cX12_tour 93 = .ok (.iload 5, 2) := by decide +kernel
theorem dX12_tour_95 : decode cX12_tour 95 = .ok (.iload 4, 2) := by decide +kernel
theorem dX12_tour_97 : decode cX12_tour 97 = .ok (.invokevirtual 575, 3) := by decide +kernel
theorem dX12_tour_100 : decode cX12_tour 100 = .ok (.ireturn, 1) := by decide +kernel
theorem dX12_tour_101 : decode cX12_tour 101 = .ok (.iinc 5 1, 3) := by decide +kernel
theorem dX12_tour_104 : decode cX12_tour 104 = .ok (.goto (-40), 3) := by decide +kernel
theorem dX12_tour_107 : decode cX12_tour 107 = .ok (.iload 4, 2) := by decide +kernel
theorem dX12_tour_109 : decode cX12_tour 109 = .ok (.bipush 9, 2) := by decide +kernel
theorem dX12_tour_111 : decode cX12_tour 111 = .ok (.if_icmp .ge 9, 3) := by decide +kernel
theorem dX12_tour_114 : decode cX12_tour 114 = .ok (.aload_n 0, 1) := by decide +kernel
theorem dX12_tour_115 : decode cX12_tour 115 = .ok (.iload_n 1, 1) := by decide +kernel
theorem dX12_tour_116 : decode cX12_tour 116 = .ok (.invokevirtual 578, 3) := by decide +kernel
theorem dX12_tour_119 : decode cX12_tour 119 = .ok (.istore_n 3, 1) := by decide +kernel
theorem dX12_tour_120 : decode cX12_tour 120 = .ok (.iinc 4 1, 3) := by decide +kernel
theorem dX12_tour_123 : decode cX12_tour 123 = .ok (.goto (-76), 3) := by decide +kernel
theorem dX12_tour_126 : decode cX12_tour 126 = .ok (.iload_n 3, 1) := by decide +kernel
theorem dX12_tour_127 : decode cX12_tour 127 = .ok (.ifCond .eq 7, 3) := by decide +kernel
theorem dX12_tour_130 : decode cX12_tour 130 = .ok (.iconst (-1), 1) := by decide +kernel
theorem dX12_tour_131 : decode cX12_tour 131 = .ok (.goto 5, 3) := by decide +kernel
theorem dX12_tour_134 : decode cX12_tour 134 = .ok (.bipush (-2), 2) := by decide +kernel
theorem dX12_tour_136 : decode cX12_tour 136 = .ok (.ireturn, 1) := by decide +kernel
theorem wm_X12_putWay : Cond.instanceMethod yX12_putWay ∈ TB ∧ Cond.selects yX12_putWay.cls yX12_putWay yX12_putWay ∈ TB ∧ Cond.initialized yX12_putWay.cls ∈ TB ∧ Cond.code yX12_putWay cX12_putWay 5 (some .int) ∈ TB ∧ (yX12_putWay.cls ≠ "java/lang/invoke/MethodHandle" ∧ yX12_putWay.cls ≠ "java/lang/invoke/VarHandle" ∧ (parseMethodDescriptor yX12_putWay.desc).map (fun d => d.parameters.length) = some 2) ∧ 5 ≤ 21 := ⟨tbm 2072 (by decide +kernel) (by decide +kernel), tbm 118 (by decide +kernel) (by decide +kernel), tbm 146 (by decide +kernel) (by decide +kernel), tbm 2073 (by decide +kernel) (by decide +kernel), by decide +kernel, by decide⟩
theorem wi_RX12_575 : Iv RX12 575 yX12_putWay cX12_putWay 5 (some .int) 2 := ⟨tbm 2070 (by decide +kernel) (by decide +kernel), wm_X12_putWay⟩
theorem wm_X12_goOn : Cond.instanceMethod yX12_goOn ∈ TB ∧ Cond.selects yX12_goOn.cls yX12_goOn yX12_goOn ∈ TB ∧ Cond.initialized yX12_goOn.cls ∈ TB ∧ Cond.code yX12_goOn cX12_goOn 6 (some .boolean) ∈ TB ∧ (yX12_goOn.cls ≠ "java/lang/invoke/MethodHandle" ∧ yX12_goOn.cls ≠ "java/lang/invoke/VarHandle" ∧ (parseMethodDescriptor yX12_goOn.desc).map (fun d => d.parameters.length) = some 1) ∧ 6 ≤ 21 := ⟨tbm 2076 (by decide +kernel) (by decide +kernel), tbm 119 (by decide +kernel) (by decide +kernel), tbm 146 (by decide +kernel) (by decide +kernel), tbm 2077 (by decide +kernel) (by decide +kernel), by decide +kernel, by decide⟩
theorem wi_RX12_578 : Iv RX12 578 yX12_goOn cX12_goOn 6 (some .boolean) 1 := ⟨tbm 2074 (by decide +kernel) (by decide +kernel), wm_X12_goOn⟩
def mX12_tour_L64 (t : Nat) (σ : St_) (x1 : Int32) (x2 : Int32) (x3 : Bool) (x4 : Int32) (k107 : Option (Int32 × St_)) (k92 : Int32 → Option (Int32 × St_)) : Nat → Int32 → Option (Int32 × St_)
  | 0, _ => none
  | n + 1, x5 => (if (σ.1 t 76) ≤ x5 then
 (k107)
 else (bnd (((10 : Int32) * x5) + x2) fun v9 =>
 (if bin v9 20020 = true then bnd (σ.1 (t + 33) v9.toNatClampNeg) fun v10 =>
 (if v10 = ((10 : Int32) + x1) then
 (k92 x5)
 else (mX12_tour_L64 t σ x1 x2 x3 x4 k107 k92 n (x5 + 1)))
 else none)))
def mX12_tour_L47 (t : Nat) (x1 : Int32) (x2 : Int32) (k126 : Bool → St_ → Option (Int32 × St_)) (k92 : Int32 → Int32 → St_ → Option (Int32 × St_)) : Nat → Bool → Int32 → St_ → Option (Int32 × St_)
  | 0, _, _, _ => none
  | n + 1, x3, x4, σ => (if (9 : Int32) < x4 then
 (k126 x3 σ)
 else (if x3 = true then
 (bnd (σ.1 t 77) fun v8 =>
 (mX12_tour_L64 t σ x1 x2 x3 x4
 (bnd (fun (j11 : Bool) (σ12 : St_) => (mX12_tour_L47 t x1 x2 k126 k92 n j11 (x4 + 1) σ12)) fun k13 =>
 (if (9 : Int32) ≤ x4 then
 (k13 x3 σ)
 else ((mX12_goOn t x1 σ).bind fun r15 =>
 (k13 r15.1 r15.2))))
 (fun (y16 : Int32) => (k92 x4 y16 σ)) FU v8))
 else (k126 x3 σ)))
def mX12_tour (t : Nat) (p1 : Int32) (p2 : Int32) (σ : St_) : Option (Int32 × St_) :=
 (bnd (sI σ t 71 (0 : Int32)) fun σ1 =>
 ((mX12_isThief t p1 σ1).bind fun r2 =>
 (if r2 = true then
 ((mX12_isThing t p2 σ1).bind fun r3 =>
 (if r3 = true then
 ((mX12_load t σ1).bind fun σ4 =>
 (bnd (sI σ4 t 76 (0 : Int32)) fun σ5 =>
 (bnd (sI σ5 t 77 (0 : Int32)) fun σ6 =>
 ((mX12_put t (-1 : Int32) (-1 : Int32) σ6).bind fun r7 =>
 (mX12_tour_L47 t p1 p2
 (fun (y17 : Bool) (σ18 : St_) => (if y17 = true then
 (some ((-1 : Int32), σ18))
 else (some ((-2 : Int32), σ18))))
 (fun (y19 : Int32) (y20 : Int32) (σ21 : St_) => ((mX12_putWay t y20 y19 σ21).bind fun r22 =>
 (some (r22.1, r22.2)))) FU r7.1 (0 : Int32) r7.2)))))
 else (some ((-1 : Int32), σ1))))
 else (some ((-1 : Int32), σ1)))))
set_option maxHeartbeats 4000000 in
theorem tmX12_tour_L64 (σ : St_) (t : Nat) (hT : LY12 sh P t) (x1 : Int32) (x2 : Int32) (x3 : Bool) (x4 : Int32) (k107 : Option (Int32 × St_)) (k92 : Int32 → Option (Int32 × St_)) (hk107 : Tj l D cA h0 ad RX12 cX12_tour 6 (some .int) false 9 0 0 (fun b => (some (.int b.1), sh, P, b.2)) 0 0 sh P σ 107 [(0, .ref (h0 + t)), (1, .int x1), (2, .int x2), (3, .int (b2i x3)), (4, .int x4)] [] (k107)) (hk92 : ∀ (y5 : Int32), Tj l D cA h0 ad RX12 cX12_tour 6 (some .int) false 9 0 0 (fun b => (some (.int b.1), sh, P, b.2)) 0 0 sh P σ 92 [(0, .ref (h0 + t)), (4, .int x4), (5, .int y5)] [] (k92 y5)) : ∀ (n : Nat) (x5 : Int32), Tj l D cA h0 ad RX12 cX12_tour 6 (some .int) false 9 0 0 (fun b => (some (.int b.1), sh, P, b.2)) 0 0 sh P σ 64 [(0, .ref (h0 + t)), (1, .int x1), (2, .int x2), (3, .int (b2i x3)), (4, .int x4), (5, .int x5)] [] (mX12_tour_L64 t σ x1 x2 x3 x4 k107 k92 n x5) := by
  intro n
  induction n with
  | zero => intros; exact tj_none
  | succ n ih =>
    intro x5
    rw [mX12_tour_L64]
    refine tj_iload (q := 66) dX12_tour_64 rfl (pl := 5) rfl ?_
    refine tj_aload_n (q := 67) dX12_tour_66 rfl (i := 0) rfl (pl := 0) rfl ?_
    refine tj_getI (q := 70) (hT).s fok_12_76 wl_RX12_560 dX12_tour_67 rfl ?_
    refine tj_icmp_ge (tgt := 107) (q := 73) dX12_tour_70 (by decide) rfl ?_ ?_
    · refine tj_lv [0, 1, 2, 3, 4] rfl ?_
      exact hk107
    · refine tj_aload_n (q := 74) dX12_tour_73 rfl (i := 0) rfl (pl := 0) rfl ?_
      refine tj_getR (q := 77) (hT).s (hT).p_come fok_12_72 wl_RX12_120 dX12_tour_74 rfl ?_
      refine tj_bipush (q := 79) (v := 10) dX12_tour_77 rfl (by decide) ?_
      refine tj_iload (q := 81) dX12_tour_79 rfl (pl := 5) rfl ?_
      refine tj_imul (q := 82) dX12_tour_81 rfl ?_
      refine tj_iload_n (q := 83) dX12_tour_82 rfl (i := 2) rfl (pl := 2) rfl ?_
      refine tj_iadd (q := 84) dX12_tour_83 rfl ?_
      refine tj_topI (fun v9 => ?_)
      refine tj_iaload (q := 85) (hT).s_come dX12_tour_84 rfl ?_
      refine tj_topI (fun v10 => ?_)
      refine tj_bipush (q := 87) (v := 10) dX12_tour_85 rfl (by decide) ?_
      refine tj_iload_n (q := 88) dX12_tour_87 rfl (i := 1) rfl (pl := 1) rfl ?_
      refine tj_iadd (q := 89) dX12_tour_88 rfl ?_
      refine tj_icmp_ne (tgt := 101) (q := 92) dX12_tour_89 (by decide) rfl ?_ ?_
      · refine tj_lv [0, 4, 5] rfl ?_
        exact hk92 x5
      · refine tj_iinc (q := 104) (v := x5 + 1) dX12_tour_101 rfl (pl := 5) rfl rfl (by decide) rfl ?_
        refine tj_goto (q := 64) dX12_tour_104 (by decide) ?_
        refine tj_lv [1, 2, 3, 4, 5, 0] rfl ?_
        exact ih (x5 + 1)

set_option maxHeartbeats 4000000 in
theorem tmX12_tour_L47 (t : Nat) (hT : LY12 sh P t) (x1 : Int32) (x2 : Int32) (k126 : Bool → St_ → Option (Int32 × St_)) (k92 : Int32 → Int32 → St_ → Option (Int32 × St_)) (hk126 : ∀ (y3 : Bool) (σ1 : St_), Tj l D cA h0 ad RX12 cX12_tour 6 (some .int) false 9 0 0 (fun b => (some (.int b.1), sh, P, b.2)) 0 0 sh P σ1 126 [(3, .int (b2i y3))] [] (k126 y3 σ1)) (hk92 : ∀ (y4 : Int32) (y5 : Int32) (σ1 : St_), Tj l D cA h0 ad RX12 cX12_tour 6 (some .int) false 9 0 0 (fun b => (some (.int b.1), sh, P, b.2)) 0 0 sh P σ1 92 [(0, .ref (h0 + t)), (4, .int y4), (5, .int y5)] [] (k92 y4 y5 σ1)) : ∀ (n : Nat) (x3 : Bool) (x4 : Int32) (σ : St_), Tj l D cA h0 ad RX12 cX12_tour 6 (some .int) false 9 0 0 (fun b => (some (.int b.1), sh, P, b.2)) 0 0 sh P σ 47 [(0, .ref (h0 + t)), (1, .int x1), (2, .int x2), (3, .int (b2i x3)), (4, .int x4)] [] (mX12_tour_L47 t x1 x2 k126 k92 n x3 x4 σ) := by
  intro n
  induction n with
  | zero => intros; exact tj_none
  | succ n ih =>
    intro x3 x4 σ
    rw [mX12_tour_L47]
    refine tj_iload (q := 49) dX12_tour_47 rfl (pl := 4) rfl ?_
    refine tj_bipush (q := 51) (v := 9) dX12_tour_49 rfl (by decide) ?_
    refine tj_icmp_gt (tgt := 126) (q := 54) dX12_tour_51 (by decide) rfl ?_ ?_
    · refine tj_lv [3] rfl ?_
      exact hk126 x3 σ
    · refine tj_iload_n (q := 55) dX12_tour_54 rfl (i := 3) rfl (pl := 3) rfl ?_
      refine tj_bz (tgt := 126) (q := 58) dX12_tour_55 (by decide) rfl ?_ ?_
      · refine tj_aload_n (q := 59) dX12_tour_58 rfl (i := 0) rfl (pl := 0) rfl ?_
        refine tj_getI (q := 62) (hT).s fok_12_77 wl_RX12_557 dX12_tour_59 rfl ?_
        refine tj_topI (fun v8 => ?_)
        refine tj_istore (q := 64) dX12_tour_62 rfl (by decide) rfl ?_
        refine tj_lv [1, 2, 3, 4, 5, 0] rfl ?_
        refine tmX12_tour_L64 σ t hT x1 x2 x3 x4 _ _ ?_ ?_ FU v8
        · refine tj_iload (q := 109) dX12_tour_107 rfl (pl := 4) rfl ?_
          refine tj_bipush (q := 111) (v := 9) dX12_tour_109 rfl (by decide) ?_
          refine tj_bnd (fun k13 => ∀ (j11 : Bool) (σ12 : St_), Tj l D cA h0 ad RX12 cX12_tour 6 (some .int) false 9 0 0 (fun b => (some (.int b.1), sh, P, b.2)) 0 0 sh P σ12 120 [(0, .ref (h0 + t)), (1, .int x1), (2, .int x2), (3, .int (b2i j11)), (4, .int x4)] [] (k13 j11 σ12)) ?_ (fun k13 hk14 => ?_)
          · intro j11 σ12
            refine tj_iinc (q := 123) (v := x4 + 1) dX12_tour_120 rfl (pl := 4) rfl rfl (by decide) rfl ?_
            refine tj_goto (q := 47) dX12_tour_123 (by decide) ?_
            refine tj_lv [1, 2, 3, 4, 0] rfl ?_
            exact ih j11 (x4 + 1) σ12
          · refine tj_icmp_ge (tgt := 120) (q := 114) dX12_tour_111 (by decide) rfl ?_ ?_
            · exact hk14 x3 σ
            · refine tj_aload_n (q := 115) dX12_tour_114 rfl (i := 0) rfl (pl := 0) rfl ?_
              refine tj_iload_n (q := 116) dX12_tour_115 rfl (i := 1) rfl (pl := 1) rfl ?_
              refine tj_callZ (q := 119) (kj_V (As := [.int x1]) (rest := []) (t := t) wi_RX12_578 (hT).s rfl (rX12_goOn t x1 (hT)) rfl (Nat.le_of_ble_eq_true rfl) ⟨Nat.le_of_ble_eq_true rfl, Nat.le_of_ble_eq_true rfl⟩ (Nat.le_of_ble_eq_true rfl) dX12_tour_116) rfl (fun r15 => ?_)
              refine tj_istore_n (q := 120) dX12_tour_119 rfl (i := 3) rfl (by decide) rfl ?_
              refine tj_lv [1, 2, 3, 0, 4] rfl ?_
              exact hk14 r15.1 r15.2
        · intro y16
          exact hk92 x4 y16 σ
      · refine tj_lv [3] rfl ?_
        exact hk126 x3 σ

set_option maxHeartbeats 4000000 in
theorem rX12_tour (t : Nat) (p1 : Int32) (p2 : Int32) (hT : LY12 sh P t) : Rj l D cA h0 ad yX12_tour cX12_tour 6 (some .int) false 9 0 0 (fun b => (some (.int b.1), sh, P, b.2)) [.ref (h0 + t), .int p1, .int p2] sh P σ (mX12_tour t p1 p2 σ) := by
  rw [mX12_tour]
  refine Rj.of (by decide) (fun h => by cases h) (Nat.le_of_ble_eq_true rfl) ?_
  refine tj_lv0 (lv' := [(0, .ref (h0 + t)), (1, .int p1), (2, .int p2)]) rfl ?_
  refine tj_aload_n (q := 1) dX12_tour_0 rfl (i := 0) rfl (pl := 0) rfl ?_
  refine tj_iconst (q := 2) (v := 0) dX12_tour_1 rfl (by decide) ?_
  refine tj_putI (q := 5) (hT).s fok_12_71 tok_12 fpk_12_71 wl_RX12_443 dX12_tour_2 rfl (fun σ1 => ?_)
  refine tj_aload_n (q := 6) dX12_tour_5 rfl (i := 0) rfl (pl := 0) rfl ?_
  refine tj_iload_n (q := 7) dX12_tour_6 rfl (i := 1) rfl (pl := 1) rfl ?_
  refine tj_callZp (q := 10) (kj_V (As := [.int p1]) (rest := []) (t := t) wi_RX12_450 (hT).s rfl (rX12_isThief t p1 (hT)) rfl (Nat.le_of_ble_eq_true rfl) ⟨Nat.le_of_ble_eq_true rfl, Nat.le_of_ble_eq_true rfl⟩ (Nat.le_of_ble_eq_true rfl) dX12_tour_7) rfl (fun r2 => ?_)
  refine tj_bz (tgt := 21) (q := 13) dX12_tour_10 (by decide) rfl ?_ ?_
  · refine tj_aload_n (q := 14) dX12_tour_13 rfl (i := 0) rfl (pl := 0) rfl ?_
    refine tj_iload_n (q := 15) dX12_tour_14 rfl (i := 2) rfl (pl := 2) rfl ?_
    refine tj_callZp (q := 18) (kj_V (As := [.int p2]) (rest := []) (t := t) wi_RX12_490 (hT).s rfl (rX12_isThing t p2 (hT)) rfl (Nat.le_of_ble_eq_true rfl) ⟨Nat.le_of_ble_eq_true rfl, Nat.le_of_ble_eq_true rfl⟩ (Nat.le_of_ble_eq_true rfl) dX12_tour_15) rfl (fun r3 => ?_)
    refine tj_bnz (tgt := 23) (q := 21) dX12_tour_18 (by decide) rfl ?_ ?_
    · refine tj_aload_n (q := 24) dX12_tour_23 rfl (i := 0) rfl (pl := 0) rfl ?_
      refine tj_callV (q := 27) (kj_V (As := []) (rest := []) (t := t) wi_RX12_497 (hT).s rfl (rX12_load t (hT)) rfl (Nat.le_of_ble_eq_true rfl) ⟨Nat.le_of_ble_eq_true rfl, Nat.le_of_ble_eq_true rfl⟩ (Nat.le_of_ble_eq_true rfl) dX12_tour_24) rfl (fun σ4 => ?_)
      refine tj_aload_n (q := 28) dX12_tour_27 rfl (i := 0) rfl (pl := 0) rfl ?_
      refine tj_iconst (q := 29) (v := 0) dX12_tour_28 rfl (by decide) ?_
      refine tj_putI (q := 32) (hT).s fok_12_76 tok_12 fpk_12_76 wl_RX12_560 dX12_tour_29 rfl (fun σ5 => ?_)
      refine tj_aload_n (q := 33) dX12_tour_32 rfl (i := 0) rfl (pl := 0) rfl ?_
      refine tj_iconst (q := 34) (v := 0) dX12_tour_33 rfl (by decide) ?_
      refine tj_putI (q := 37) (hT).s fok_12_77 tok_12 fpk_12_77 wl_RX12_557 dX12_tour_34 rfl (fun σ6 => ?_)
      refine tj_aload_n (q := 38) dX12_tour_37 rfl (i := 0) rfl (pl := 0) rfl ?_
      refine tj_iconst (q := 39) (v := (-1)) dX12_tour_38 rfl (by decide) ?_
      refine tj_iconst (q := 40) (v := (-1)) dX12_tour_39 rfl (by decide) ?_
      refine tj_callZ (q := 43) (kj_V (As := [.int (-1 : Int32), .int (-1 : Int32)]) (rest := []) (t := t) wi_RX12_572 (hT).s rfl (rX12_put t (-1 : Int32) (-1 : Int32) (hT)) rfl (Nat.le_of_ble_eq_true rfl) ⟨Nat.le_of_ble_eq_true rfl, Nat.le_of_ble_eq_true rfl⟩ (Nat.le_of_ble_eq_true rfl) dX12_tour_40) rfl (fun r7 => ?_)
      refine tj_istore_n (q := 44) dX12_tour_43 rfl (i := 3) rfl (by decide) rfl ?_
      refine tj_iconst (q := 45) (v := 0) dX12_tour_44 rfl (by decide) ?_
      refine tj_istore (q := 47) dX12_tour_45 rfl (by decide) rfl ?_
      refine tj_lv [2, 3, 4, 1, 0] rfl ?_
      refine tmX12_tour_L47 t hT p1 p2 _ _ ?_ ?_ FU r7.1 (0 : Int32) r7.2
      · intro y17 σ18
        refine tj_iload_n (q := 127) dX12_tour_126 rfl (i := 3) rfl (pl := 0) rfl ?_
        refine tj_bz (tgt := 134) (q := 130) dX12_tour_127 (by decide) rfl ?_ ?_
        · refine tj_iconst (q := 131) (v := (-1)) dX12_tour_130 rfl (by decide) ?_
          refine tj_goto (q := 136) dX12_tour_131 (by decide) ?_
          exact tj_iret rfl rfl (Nat.le_of_ble_eq_true rfl) (Nat.le_of_ble_eq_true rfl) dX12_tour_136
        · refine tj_bipush (q := 136) (v := (-2)) dX12_tour_134 rfl (by decide) ?_
          exact tj_iret rfl rfl (Nat.le_of_ble_eq_true rfl) (Nat.le_of_ble_eq_true rfl) dX12_tour_136
      · intro y19 y20 σ21
        refine tj_aload_n (q := 93) dX12_tour_92 rfl (i := 0) rfl (pl := 0) rfl ?_
        refine tj_iload (q := 95) dX12_tour_93 rfl (pl := 2) rfl ?_
        refine tj_iload (q := 97) dX12_tour_95 rfl (pl := 1) rfl ?_
        refine tj_callI (q := 100) (kj_V (As := [.int y20, .int y19]) (rest := []) (t := t) wi_RX12_575 (hT).s rfl (rX12_putWay t y20 y19 (hT)) rfl (Nat.le_of_ble_eq_true rfl) ⟨Nat.le_of_ble_eq_true rfl, Nat.le_of_ble_eq_true rfl⟩ (Nat.le_of_ble_eq_true rfl) dX12_tour_97) rfl (fun r22 => ?_)
        exact tj_iret rfl rfl (Nat.le_of_ble_eq_true rfl) (Nat.le_of_ble_eq_true rfl) dX12_tour_100
    · refine tj_iconst (q := 22) (v := (-1)) dX12_tour_21 rfl (by decide) ?_
      exact tj_iret rfl rfl (Nat.le_of_ble_eq_true rfl) (Nat.le_of_ble_eq_true rfl) dX12_tour_22
  · refine tj_iconst (q := 22) (v := (-1)) dX12_tour_21 rfl (by decide) ?_
    exact tj_iret rfl rfl (Nat.le_of_ble_eq_true rfl) (Nat.le_of_ble_eq_true rfl) dX12_tour_22

theorem dX12_goRound_0 : decode cX12_goRound 0 = .ok (.iconst 0, 1) := by decide +kernel
theorem dX12_goRound_1 : decode cX12_goRound 1 = .ok (.istore_n 1, 1) := by decide +kernel
theorem dX12_goRound_2 : decode cX12_goRound 2 = .ok (.iconst 0, 1) := by decide +kernel
theorem dX12_goRound_3 : decode cX12_goRound 3 = .ok (.istore_n 2, 1) := by decide +kernel
theorem dX12_goRound_4 : decode cX12_goRound 4 = .ok (.iload_n 2, 1) := by decide +kernel
theorem dX12_goRound_5 : decode cX12_goRound 5 = .ok (.aload_n 0, 1) := by decide +kernel
theorem dX12_goRound_6 : decode cX12_goRound 6 = .ok (.getfield 425, 3) := by decide +kernel
theorem dX12_goRound_9 : decode cX12_goRound 9 = .ok (.if_icmp .ge 39, 3) := by decide +kernel
theorem dX12_goRound_12 : decode cX12_goRound 12 = .ok (.aload_n 0, 1) := by decide +kernel
theorem dX12_goRound_13 : decode cX12_goRound 13 = .ok (.iload_n 2, 1) := by decide +kernel
theorem dX12_goRound_14 : decode cX12_goRound 14 = .ok (.invokevirtual 551, 3) := by decide +kernel
theorem dX12_goRound_17 : decode cX12_goRound 17 = .ok (.istore_n 3, 1) := by decide +kernel
theorem dX12_goRound_18 : decode cX12_goRound 18 = .ok (.iload_n 3, 1) := by decide +kernel
theorem dX12_goRound_19 : decode cX12_goRound 19 = .ok (.ifCond .lt 23, 3) := by decide +kernel
theorem dX12_goRound_22 : decode cX12_goRound 22 = .ok (.aload_n 0, 1) := by decide +kernel
theorem dX12_goRound_23 : decode cX12_goRound 23 = .ok (.iload_n 2, 1) := by decide +kernel
theorem dX12_goRound_24 : decode cX12_goRound 24 = .ok (.iload_n 3, 1) := by decide +kernel
theorem dX12_goRound_25 : decode cX12_goRound 25 = .ok (.invokevirtual 544, 3) := by decide +kernel
theorem dX12_goRound_28 : decode cX12_goRound 28 = .ok (.ifCond .gt 6, 3) := by decide +kernel
theorem dX12_goRound_31 : decode cX12_goRound 31 = .ok (.goto 11, 3) := by decide +kernel
theorem dX12_goRound_34 : decode cX12_goRound 34 = .ok (.aload_n 0, 1) := by decide +kernel
theorem dX12_goRound_35 : decode cX12_goRound 35 = .ok (.iload_n 2, 1) := by decide +kernel
theorem dX12_goRound_36 : decode cX12_goRound 36 = .ok (.iload_n 3, 1) := by decide +kernel
theorem dX12_goRound_37 : decode cX12_goRound 37 = .ok (.invokevirtual 569, 3) := by decide +kernel
theorem dX12_goRound_40 : decode cX12_goRound 40 = .ok (.iconst 1, 1) := by decide +kernel
theorem dX12_goRound_41 : decode cX12_goRound 41 = .ok (.istore_n 1, 1) := by decide +kernel
theorem dX12_goRound_42 : decode cX12_goRound 42 = .ok (.iinc 2 1, 3) := by decide +kernel
theorem dX12_goRound_45 : decode cX12_goRound 45 = .ok (.goto (-41), 3) := by decide +kernel
theorem dX12_goRound_48 : decode cX12_goRound 48 = .ok (.aload_n 0, 1) := by decide +kernel
theorem dX12_goRound_49 : decode cX12_goRound 49 = .ok (.invokevirtual 521, 3) := by decide +kernel
theorem dX12_goRound_52 : decode cX12_goRound 52 = .ok (.iload_n 1, 1) := by decide +kernel
theorem dX12_goRound_53 : decode cX12_goRound 53 = .ok (.ireturn, 1) := by decide +kernel
def mX12_goRound_L4 (t : Nat) (k48 : Bool → St_ → Option (Bool × St_)) : Nat → Bool → Int32 → St_ → Option (Bool × St_)
  | 0, _, _, _ => none
  | n + 1, x1, x2, σ => (if (σ.1 t 54) ≤ x2 then
 (k48 x1 σ)
 else ((mX12_bestOf t x2 σ).bind fun r1 =>
 (bnd (fun (j2 : Bool) (σ3 : St_) => (mX12_goRound_L4 t k48 n j2 (x2 + 1) σ3)) fun k4 =>
 (if r1.1 < 0 then
 (k4 x1 r1.2)
 else ((mX12_gainOf t x2 r1.1 r1.2).bind fun r6 =>
 (if 0 < r6 then
 ((mX12_doSwap t x2 r1.1 r1.2).bind fun σ7 =>
 (k4 true σ7))
 else (k4 x1 r1.2)))))))
def mX12_goRound (t : Nat) (σ : St_) : Option (Bool × St_) :=
 (mX12_goRound_L4 t
 (fun (y8 : Bool) (σ9 : St_) => ((mX12_tick t σ9).bind fun σ10 =>
 (some (y8, σ10)))) FU false (0 : Int32) σ)
set_option maxHeartbeats 4000000 in
theorem tmX12_goRound_L4 (t : Nat) (hT : LY12 sh P t) (k48 : Bool → St_ → Option (Bool × St_)) (hk48 : ∀ (y1 : Bool) (σ1 : St_), Tj l D cA h0 ad RX12 cX12_goRound 4 (some .boolean) false 9 0 0 (fun b => (some (.int (b2i b.1)), sh, P, b.2)) 0 0 sh P σ1 48 [(0, .ref (h0 + t)), (1, .int (b2i y1))] [] (k48 y1 σ1)) : ∀ (n : Nat) (x1 : Bool) (x2 : Int32) (σ : St_), Tj l D cA h0 ad RX12 cX12_goRound 4 (some .boolean) false 9 0 0 (fun b => (some (.int (b2i b.1)), sh, P, b.2)) 0 0 sh P σ 4 [(0, .ref (h0 + t)), (1, .int (b2i x1)), (2, .int x2)] [] (mX12_goRound_L4 t k48 n x1 x2 σ) := by
  intro n
  induction n with
  | zero => intros; exact tj_none
  | succ n ih =>
    intro x1 x2 σ
    rw [mX12_goRound_L4]
    refine tj_iload_n (q := 5) dX12_goRound_4 rfl (i := 2) rfl (pl := 2) rfl ?_
    refine tj_aload_n (q := 6) dX12_goRound_5 rfl (i := 0) rfl (pl := 0) rfl ?_
    refine tj_getI (q := 9) (hT).s fok_12_54 wl_RX12_425 dX12_goRound_6 rfl ?_
    refine tj_icmp_ge (tgt := 48) (q := 12) dX12_goRound_9 (by decide) rfl ?_ ?_
    · refine tj_lv [0, 1] rfl ?_
      exact hk48 x1 σ
    · refine tj_aload_n (q := 13) dX12_goRound_12 rfl (i := 0) rfl (pl := 0) rfl ?_
      refine tj_iload_n (q := 14) dX12_goRound_13 rfl (i := 2) rfl (pl := 2) rfl ?_
      refine tj_callI (q := 17) (kj_V (As := [.int x2]) (rest := []) (t := t) wi_RX12_551 (hT).s rfl (rX12_bestOf t x2 (hT)) rfl (Nat.le_of_ble_eq_true rfl) ⟨Nat.le_of_ble_eq_true rfl, Nat.le_of_ble_eq_true rfl⟩ (Nat.le_of_ble_eq_true rfl) dX12_goRound_14) rfl (fun r1 => ?_)
      refine tj_istore_n (q := 18) dX12_goRound_17 rfl (i := 3) rfl (by decide) rfl ?_
      refine tj_iload_n (q := 19) dX12_goRound_18 rfl (i := 3) rfl (pl := 0) rfl ?_
      refine tj_bnd (fun k4 => ∀ (j2 : Bool) (σ3 : St_), Tj l D cA h0 ad RX12 cX12_goRound 4 (some .boolean) false 9 0 0 (fun b => (some (.int (b2i b.1)), sh, P, b.2)) 0 0 sh P σ3 42 [(0, .ref (h0 + t)), (1, .int (b2i j2)), (2, .int x2)] [] (k4 j2 σ3)) ?_ (fun k4 hk5 => ?_)
      · intro j2 σ3
        refine tj_iinc (q := 45) (v := x2 + 1) dX12_goRound_42 rfl (pl := 2) rfl rfl (by decide) rfl ?_
        refine tj_goto (q := 4) dX12_goRound_45 (by decide) ?_
        refine tj_lv [1, 2, 0] rfl ?_
        exact ih j2 (x2 + 1) σ3
      · refine tj_if_lt (tgt := 42) (q := 22) dX12_goRound_19 (by decide) rfl ?_ ?_
        · refine tj_lv [1, 2, 3] rfl ?_
          exact hk5 x1 r1.2
        · refine tj_aload_n (q := 23) dX12_goRound_22 rfl (i := 0) rfl (pl := 1) rfl ?_
          refine tj_iload_n (q := 24) dX12_goRound_23 rfl (i := 2) rfl (pl := 3) rfl ?_
          refine tj_iload_n (q := 25) dX12_goRound_24 rfl (i := 3) rfl (pl := 0) rfl ?_
          refine tj_callIp (q := 28) (kj_V (As := [.int x2, .int r1.1]) (rest := []) (t := t) wi_RX12_544 (hT).s rfl (rX12_gainOf t x2 r1.1 (hT)) rfl (Nat.le_of_ble_eq_true rfl) ⟨Nat.le_of_ble_eq_true rfl, Nat.le_of_ble_eq_true rfl⟩ (Nat.le_of_ble_eq_true rfl) dX12_goRound_25) rfl (fun r6 => ?_)
          refine tj_if_gt (tgt := 34) (q := 31) dX12_goRound_28 (by decide) rfl ?_ ?_
          · refine tj_aload_n (q := 35) dX12_goRound_34 rfl (i := 0) rfl (pl := 1) rfl ?_
            refine tj_iload_n (q := 36) dX12_goRound_35 rfl (i := 2) rfl (pl := 3) rfl ?_
            refine tj_iload_n (q := 37) dX12_goRound_36 rfl (i := 3) rfl (pl := 0) rfl ?_
            refine tj_callV (q := 40) (kj_V (As := [.int x2, .int r1.1]) (rest := []) (t := t) wi_RX12_569 (hT).s rfl (rX12_doSwap t x2 r1.1 (hT)) rfl (Nat.le_of_ble_eq_true rfl) ⟨Nat.le_of_ble_eq_true rfl, Nat.le_of_ble_eq_true rfl⟩ (Nat.le_of_ble_eq_true rfl) dX12_goRound_37) rfl (fun σ7 => ?_)
            refine tj_iconst (q := 41) (v := 1) dX12_goRound_40 rfl (by decide) ?_
            refine tj_istore_n (q := 42) dX12_goRound_41 rfl (i := 1) rfl (by decide) rfl ?_
            refine tj_lv [2, 0, 3] rfl ?_
            exact hk5 true σ7
          · refine tj_goto (q := 42) dX12_goRound_31 (by decide) ?_
            refine tj_lv [1, 2, 3] rfl ?_
            exact hk5 x1 r1.2

set_option maxHeartbeats 4000000 in
theorem rX12_goRound (t : Nat) (hT : LY12 sh P t) : Rj l D cA h0 ad yX12_goRound cX12_goRound 4 (some .boolean) false 9 0 0 (fun b => (some (.int (b2i b.1)), sh, P, b.2)) [.ref (h0 + t)] sh P σ (mX12_goRound t σ) := by
  rw [mX12_goRound]
  refine Rj.of (by decide) (fun h => by cases h) (Nat.le_of_ble_eq_true rfl) ?_
  refine tj_lv0 (lv' := [(0, .ref (h0 + t))]) rfl ?_
  refine tj_iconst (q := 1) (v := 0) dX12_goRound_0 rfl (by decide) ?_
  refine tj_istore_n (q := 2) dX12_goRound_1 rfl (i := 1) rfl (by decide) rfl ?_
  refine tj_iconst (q := 3) (v := 0) dX12_goRound_2 rfl (by decide) ?_
  refine tj_istore_n (q := 4) dX12_goRound_3 rfl (i := 2) rfl (by decide) rfl ?_
  refine tj_lv [2, 1, 0] rfl ?_
  refine tmX12_goRound_L4 t hT _ ?_ FU false (0 : Int32) σ
  · intro y8 σ9
    refine tj_aload_n (q := 49) dX12_goRound_48 rfl (i := 0) rfl (pl := 0) rfl ?_
    refine tj_callV (q := 52) (kj_V (As := []) (rest := []) (t := t) wi_RX12_521 (hT).s rfl (rX12_tick t (hT)) rfl (Nat.le_of_ble_eq_true rfl) ⟨Nat.le_of_ble_eq_true rfl, Nat.le_of_ble_eq_true rfl⟩ (Nat.le_of_ble_eq_true rfl) dX12_goRound_49) rfl (fun σ10 => ?_)
    refine tj_iload_n (q := 53) dX12_goRound_52 rfl (i := 1) rfl (pl := 1) rfl ?_
    exact tj_zret rfl (nar_b2i _) rfl (Nat.le_of_ble_eq_true rfl) (Nat.le_of_ble_eq_true rfl) dX12_goRound_53

theorem dX12_goRounds_0 : decode cX12_goRounds 0 = .ok (.iconst 0, 1) := by decide +kernel
theorem dX12_goRounds_1 : decode cX12_goRounds 1 = .ok (.istore_n 2, 1) := by decide +kernel
theorem dX12_goRounds_2 : decode cX12_goRounds 2 = .ok (.iload_n 2, 1) := by decide +kernel
theorem dX12_goRounds_3 : decode cX12_goRounds 3 = .ok (.iload_n 1, 1) := by decide +kernel
theorem dX12_goRounds_4 : decode cX12_goRounds 4 = .ok (.if_icmp .ge 32, 3) := by decide +kernel
theorem dX12_goRounds_7 : decode cX12_goRounds 7 = .ok (.aload_n 0, 1) := by decide +kernel
theorem dX12_goRounds_8 : decode cX12_goRounds 8 = .ok (.invokevirtual 581, 3) := by decide +kernel
theorem dX12_goRounds_11 : decode cX12_goRounds 11 = .ok (.istore_n 3, 1) := by decide +kernel
theorem dX12_goRounds_12 : decode cX12_goRounds 12 = .ok (.aload_n 0, 1) := by decide +kernel
theorem dX12_goRounds_13 : decode cX12_goRounds 13 = .ok (.iload_n 3, 1) := by decide +kernel
theorem dX12_goRounds_14 : decode cX12_goRounds 14 = .ok (.ifCond .eq 7, 3) := by decide +kernel
theorem dX12_goRounds_17 : decode cX12_goRounds 17 = .ok (.iconst 0, 1) := by decide +kernel
theorem dX12_goRounds_18 : decode cX12_goRounds 18 = .ok (.goto 9, 3) := by decide +kernel
theorem dX12_goRounds_21 : decode cX12_goRounds 21 = .ok (.aload_n 0, 1) := by decide +kernel
theorem dX12_goRounds_22 : decode cX12_goRounds 22 = .ok (.getfield 584, 3) := by decide +kernel
theorem dX12_goRounds_25 : decode cX12_goRounds 25 = .ok (.iconst 1, 1) := by decide +kernel
theorem dX12_goRounds_26 : decode cX12_goRounds 26 = .ok (.iadd, 1) := by decide +kernel
theorem dX12_goRounds_27 : decode cX12_goRounds 27 = .ok (.putfield 584, 3) := by decide +kernel
theorem dX12_goRounds_30 : decode cX12_goRounds 30 = .ok (.iinc 2 1, 3) := by decide +kernel
theorem dX12_goRounds_33 : decode cX12_goRounds 33 = .ok (.goto (-31), 3) := by decide +kernel
theorem dX12_goRounds_36 : decode cX12_goRounds 36 = .ok (.return_, 1) := by decide +kernel
theorem wm_X12_goRound : Cond.instanceMethod yX12_goRound ∈ TB ∧ Cond.selects yX12_goRound.cls yX12_goRound yX12_goRound ∈ TB ∧ Cond.initialized yX12_goRound.cls ∈ TB ∧ Cond.code yX12_goRound cX12_goRound 4 (some .boolean) ∈ TB ∧ (yX12_goRound.cls ≠ "java/lang/invoke/MethodHandle" ∧ yX12_goRound.cls ≠ "java/lang/invoke/VarHandle" ∧ (parseMethodDescriptor yX12_goRound.desc).map (fun d => d.parameters.length) = some 0) ∧ 4 ≤ 21 := ⟨tbm 2096 (by decide +kernel) (by decide +kernel), tbm 123 (by decide +kernel) (by decide +kernel), tbm 146 (by decide +kernel) (by decide +kernel), tbm 2097 (by decide +kernel) (by decide +kernel), by decide +kernel, by decide⟩
theorem wi_RX12_581 : Iv RX12 581 yX12_goRound cX12_goRound 4 (some .boolean) 0 := ⟨tbm 2094 (by decide +kernel) (by decide +kernel), wm_X12_goRound⟩
theorem wl_RX12_584 : Cond.fieldLink RX12 584 (TX12 78).1 (TX12 78).2.1 (TX12 78).2.2.1 ∈ TB := tbm 1493 (by decide +kernel) (by decide +kernel)
def mX12_goRounds_L2 (t : Nat) (x1 : Int32) : Nat → Int32 → St_ → Option St_
  | 0, _, _ => none
  | n + 1, x2, σ => (if x1 ≤ x2 then
 (some σ)
 else ((mX12_goRound t σ).bind fun r1 =>
 (bnd (fun (j2 : Int32) => (bnd (sI r1.2 t 78 j2) fun σ5 =>
 (mX12_goRounds_L2 t x1 n (x2 + 1) σ5))) fun k3 =>
 (if r1.1 = true then
 (k3 (0 : Int32))
 else (k3 ((r1.2.1 t 78) + (1 : Int32)))))))
def mX12_goRounds (t : Nat) (p1 : Int32) (σ : St_) : Option St_ :=
 (mX12_goRounds_L2 t p1 FU (0 : Int32) σ)
set_option maxHeartbeats 4000000 in
theorem tmX12_goRounds_L2 (t : Nat) (hT : LY12 sh P t) (x1 : Int32) : ∀ (n : Nat) (x2 : Int32) (σ : St_), Tj l D cA h0 ad RX12 cX12_goRounds 4 none false 10 0 0 (fun b => (none, sh, P, b)) 0 0 sh P σ 2 [(0, .ref (h0 + t)), (1, .int x1), (2, .int x2)] [] (mX12_goRounds_L2 t x1 n x2 σ) := by
  intro n
  induction n with
  | zero => intros; exact tj_none
  | succ n ih =>
    intro x2 σ
    rw [mX12_goRounds_L2]
    refine tj_iload_n (q := 3) dX12_goRounds_2 rfl (i := 2) rfl (pl := 2) rfl ?_
    refine tj_iload_n (q := 4) dX12_goRounds_3 rfl (i := 1) rfl (pl := 1) rfl ?_
    refine tj_icmp_ge (tgt := 36) (q := 7) dX12_goRounds_4 (by decide) rfl ?_ ?_
    · exact tj_vret rfl rfl (Nat.le_of_ble_eq_true rfl) (Nat.le_of_ble_eq_true rfl) dX12_goRounds_36
    · refine tj_aload_n (q := 8) dX12_goRounds_7 rfl (i := 0) rfl (pl := 0) rfl ?_
      refine tj_callZ (q := 11) (kj_V (As := []) (rest := []) (t := t) wi_RX12_581 (hT).s rfl (rX12_goRound t (hT)) rfl (Nat.le_of_ble_eq_true rfl) ⟨Nat.le_of_ble_eq_true rfl, Nat.le_of_ble_eq_true rfl⟩ (Nat.le_of_ble_eq_true rfl) dX12_goRounds_8) rfl (fun r1 => ?_)
      refine tj_istore_n (q := 12) dX12_goRounds_11 rfl (i := 3) rfl (by decide) rfl ?_
      refine tj_aload_n (q := 13) dX12_goRounds_12 rfl (i := 0) rfl (pl := 1) rfl ?_
      refine tj_iload_n (q := 14) dX12_goRounds_13 rfl (i := 3) rfl (pl := 0) rfl ?_
      refine tj_bnd (fun k3 => ∀ (j2 : Int32), Tj l D cA h0 ad RX12 cX12_goRounds 4 none false 10 0 0 (fun b => (none, sh, P, b)) 0 0 sh P r1.2 27 [(0, .ref (h0 + t)), (1, .int x1), (2, .int x2)] [.int j2, .ref (h0 + t)] (k3 j2)) ?_ (fun k3 hk4 => ?_)
      · intro j2
        refine tj_putI (q := 30) (hT).s fok_12_78 tok_12 fpk_12_78 wl_RX12_584 dX12_goRounds_27 rfl (fun σ5 => ?_)
        refine tj_iinc (q := 33) (v := x2 + 1) dX12_goRounds_30 rfl (pl := 2) rfl rfl (by decide) rfl ?_
        refine tj_goto (q := 2) dX12_goRounds_33 (by decide) ?_
        refine tj_lv [1, 2, 0] rfl ?_
        exact ih (x2 + 1) σ5
      · refine tj_bz (tgt := 21) (q := 17) dX12_goRounds_14 (by decide) rfl ?_ ?_
        · refine tj_iconst (q := 18) (v := 0) dX12_goRounds_17 rfl (by decide) ?_
          refine tj_goto (q := 27) dX12_goRounds_18 (by decide) ?_
          refine tj_lv [1, 2, 3] rfl ?_
          exact hk4 (0 : Int32)
        · refine tj_aload_n (q := 22) dX12_goRounds_21 rfl (i := 0) rfl (pl := 1) rfl ?_
          refine tj_getI (q := 25) (hT).s fok_12_78 wl_RX12_584 dX12_goRounds_22 rfl ?_
          refine tj_iconst (q := 26) (v := 1) dX12_goRounds_25 rfl (by decide) ?_
          refine tj_iadd (q := 27) dX12_goRounds_26 rfl ?_
          refine tj_lv [1, 2, 3] rfl ?_
          exact hk4 ((r1.2.1 t 78) + (1 : Int32))

set_option maxHeartbeats 4000000 in
theorem rX12_goRounds (t : Nat) (p1 : Int32) (hT : LY12 sh P t) : Rj l D cA h0 ad yX12_goRounds cX12_goRounds 4 none false 10 0 0 (fun b => (none, sh, P, b)) [.ref (h0 + t), .int p1] sh P σ (mX12_goRounds t p1 σ) := by
  rw [mX12_goRounds]
  refine Rj.of (by decide) (fun h => by cases h) (Nat.le_of_ble_eq_true rfl) ?_
  refine tj_lv0 (lv' := [(0, .ref (h0 + t)), (1, .int p1)]) rfl ?_
  refine tj_iconst (q := 1) (v := 0) dX12_goRounds_0 rfl (by decide) ?_
  refine tj_istore_n (q := 2) dX12_goRounds_1 rfl (i := 2) rfl (by decide) rfl ?_
  refine tj_lv [1, 2, 0] rfl ?_
  exact tmX12_goRounds_L2 t hT p1 FU (0 : Int32) σ

theorem dX12_drift_0 : decode cX12_drift 0 = .ok (.aload_n 0, 1) := by decide +kernel
theorem dX12_drift_1 : decode cX12_drift 1 = .ok (.iload_n 1, 1) := by decide +kernel
theorem dX12_drift_2 : decode cX12_drift 2 = .ok (.invokevirtual 490, 3) := by decide +kernel
theorem dX12_drift_5 : decode cX12_drift 5 = .ok (.ifCond .eq 13, 3) := by decide +kernel
theorem dX12_drift_8 : decode cX12_drift 8 = .ok (.iload_n 2, 1) := by decide +kernel
theorem dX12_drift_9 : decode cX12_drift 9 = .ok (.iconst 0, 1) := by decide +kernel
theorem dX12_drift_10 : decode cX12_drift 10 = .ok (.bipush 60, 2) := by decide +kernel
theorem dX12_drift_12 : decode cX12_drift 12 = .ok (.invokestatic 446, 3) := by decide +kernel
theorem dX12_drift_15 : decode cX12_drift 15 = .ok (.ifCond .ne 6, 3) := by decide +kernel
theorem dX12_drift_18 : decode cX12_drift 18 = .ok (.bipush (-2), 2) := by decide +kernel
theorem dX12_drift_20 : decode cX12_drift 20 = .ok (.ireturn, 1) := by decide +kernel
theorem dX12_drift_21 : decode cX12_drift 21 = .ok (.aload_n 0, 1) := by decide +kernel
theorem dX12_drift_22 : decode cX12_drift 22 = .ok (.invokevirtual 497, 3) := by decide +kernel
theorem dX12_drift_25 : decode cX12_drift 25 = .ok (.aload_n 0, 1) := by decide +kernel
theorem dX12_drift_26 : decode cX12_drift 26 = .ok (.iload_n 2, 1) := by decide +kernel
theorem dX12_drift_27 : decode cX12_drift 27 = .ok (.invokevirtual 587, 3) := by decide +kernel
theorem dX12_drift_30 : decode cX12_drift 30 = .ok (.aload_n 0, 1) := by decide +kernel
theorem dX12_drift_31 : decode cX12_drift 31 = .ok (.getfield 105, 3) := by decide +kernel
theorem dX12_drift_34 : decode cX12_drift 34 = .ok (.iload_n 1, 1) := by decide +kernel
theorem dX12_drift_35 : decode cX12_drift 35 = .ok (.iaload, 1) := by decide +kernel
theorem dX12_drift_36 : decode cX12_drift 36 = .ok (.ireturn, 1) := by decide +kernel
theorem wm_X12_goRounds : Cond.instanceMethod yX12_goRounds ∈ TB ∧ Cond.selects yX12_goRounds.cls yX12_goRounds yX12_goRounds ∈ TB ∧ Cond.initialized yX12_goRounds.cls ∈ TB ∧ Cond.code yX12_goRounds cX12_goRounds 4 none ∈ TB ∧ (yX12_goRounds.cls ≠ "java/lang/invoke/MethodHandle" ∧ yX12_goRounds.cls ≠ "java/lang/invoke/VarHandle" ∧ (parseMethodDescriptor yX12_goRounds.desc).map (fun d => d.parameters.length) = some 1) ∧ 4 ≤ 21 := ⟨tbm 2092 (by decide +kernel) (by decide +kernel), tbm 122 (by decide +kernel) (by decide +kernel), tbm 146 (by decide +kernel) (by decide +kernel), tbm 2093 (by decide +kernel) (by decide +kernel), by decide +kernel, by decide⟩
theorem wi_RX12_587 : Iv RX12 587 yX12_goRounds cX12_goRounds 4 none 1 := ⟨tbm 2090 (by decide +kernel) (by decide +kernel), wm_X12_goRounds⟩
def mX12_drift (t : Nat) (p1 : Int32) (p2 : Int32) (σ : St_) : Option (Int32 × St_) :=
 ((mX12_isThing t p1 σ).bind fun r1 =>
 (if r1 = true then
 ((mX12_isIn p2 (0 : Int32) (60 : Int32) σ).bind fun r2 =>
 (if r2 = true then
 ((mX12_load t σ).bind fun σ3 =>
 ((mX12_goRounds t p2 σ3).bind fun σ4 =>
 (if bin p1 10 = true then bnd (σ4.1 (t + 30) p1.toNatClampNeg) fun v5 =>
 (some (v5, σ4))
 else none)))
 else (some ((-2 : Int32), σ))))
 else (some ((-2 : Int32), σ))))
set_option maxHeartbeats 4000000 in
theorem rX12_drift (t : Nat) (p1 : Int32) (p2 : Int32) (hT : LY12 sh P t) : Rj l D cA h0 ad yX12_drift cX12_drift 3 (some .int) false 11 0 0 (fun b => (some (.int b.1), sh, P, b.2)) [.ref (h0 + t), .int p1, .int p2] sh P σ (mX12_drift t p1 p2 σ) := by
  rw [mX12_drift]
  refine Rj.of (by decide) (fun h => by cases h) (Nat.le_of_ble_eq_true rfl) ?_
  refine tj_lv0 (lv' := [(0, .ref (h0 + t)), (1, .int p1), (2, .int p2)]) rfl ?_
  refine tj_aload_n (q := 1) dX12_drift_0 rfl (i := 0) rfl (pl := 0) rfl ?_
  refine tj_iload_n (q := 2) dX12_drift_1 rfl (i := 1) rfl (pl := 1) rfl ?_
  refine tj_callZp (q := 5) (kj_V (As := [.int p1]) (rest := []) (t := t) wi_RX12_490 (hT).s rfl (rX12_isThing t p1 (hT)) rfl (Nat.le_of_ble_eq_true rfl) ⟨Nat.le_of_ble_eq_true rfl, Nat.le_of_ble_eq_true rfl⟩ (Nat.le_of_ble_eq_true rfl) dX12_drift_2) rfl (fun r1 => ?_)
  refine tj_bz (tgt := 18) (q := 8) dX12_drift_5 (by decide) rfl ?_ ?_
  · refine tj_iload_n (q := 9) dX12_drift_8 rfl (i := 2) rfl (pl := 2) rfl ?_
    refine tj_iconst (q := 10) (v := 0) dX12_drift_9 rfl (by decide) ?_
    refine tj_bipush (q := 12) (v := 60) dX12_drift_10 rfl (by decide) ?_
    refine tj_callZp (q := 15) (kj_S (As := [.int p2, .int (0 : Int32), .int (60 : Int32)]) (rest := []) wi_RX12_446 (rX12_isIn p2 (0 : Int32) (60 : Int32)) rfl (Nat.le_of_ble_eq_true rfl) ⟨Nat.le_of_ble_eq_true rfl, Nat.le_of_ble_eq_true rfl⟩ (Nat.le_of_ble_eq_true rfl) dX12_drift_12) rfl (fun r2 => ?_)
    refine tj_bnz (tgt := 21) (q := 18) dX12_drift_15 (by decide) rfl ?_ ?_
    · refine tj_aload_n (q := 22) dX12_drift_21 rfl (i := 0) rfl (pl := 0) rfl ?_
      refine tj_callV (q := 25) (kj_V (As := []) (rest := []) (t := t) wi_RX12_497 (hT).s rfl (rX12_load t (hT)) rfl (Nat.le_of_ble_eq_true rfl) ⟨Nat.le_of_ble_eq_true rfl, Nat.le_of_ble_eq_true rfl⟩ (Nat.le_of_ble_eq_true rfl) dX12_drift_22) rfl (fun σ3 => ?_)
      refine tj_aload_n (q := 26) dX12_drift_25 rfl (i := 0) rfl (pl := 0) rfl ?_
      refine tj_iload_n (q := 27) dX12_drift_26 rfl (i := 2) rfl (pl := 2) rfl ?_
      refine tj_callV (q := 30) (kj_V (As := [.int p2]) (rest := []) (t := t) wi_RX12_587 (hT).s rfl (rX12_goRounds t p2 (hT)) rfl (Nat.le_of_ble_eq_true rfl) ⟨Nat.le_of_ble_eq_true rfl, Nat.le_of_ble_eq_true rfl⟩ (Nat.le_of_ble_eq_true rfl) dX12_drift_27) rfl (fun σ4 => ?_)
      refine tj_aload_n (q := 31) dX12_drift_30 rfl (i := 0) rfl (pl := 0) rfl ?_
      refine tj_getR (q := 34) (hT).s (hT).p_w fok_12_61 wl_RX12_105 dX12_drift_31 rfl ?_
      refine tj_iload_n (q := 35) dX12_drift_34 rfl (i := 1) rfl (pl := 1) rfl ?_
      refine tj_iaload (q := 36) (hT).s_w dX12_drift_35 rfl ?_
      refine tj_topI (fun v5 => ?_)
      exact tj_iret rfl rfl (Nat.le_of_ble_eq_true rfl) (Nat.le_of_ble_eq_true rfl) dX12_drift_36
    · refine tj_bipush (q := 20) (v := (-2)) dX12_drift_18 rfl (by decide) ?_
      exact tj_iret rfl rfl (Nat.le_of_ble_eq_true rfl) (Nat.le_of_ble_eq_true rfl) dX12_drift_20
  · refine tj_bipush (q := 20) (v := (-2)) dX12_drift_18 rfl (by decide) ?_
    exact tj_iret rfl rfl (Nat.le_of_ble_eq_true rfl) (Nat.le_of_ble_eq_true rfl) dX12_drift_20

theorem dX12_sums_0 : decode cX12_sums 0 = .ok (.aload_n 0, 1) := by decide +kernel
theorem dX12_sums_1 : decode cX12_sums 1 = .ok (.iload_n 1, 1) := by decide +kernel
theorem dX12_sums_2 : decode cX12_sums 2 = .ok (.iload_n 2, 1) := by decide +kernel
theorem dX12_sums_3 : decode cX12_sums 3 = .ok (.invokevirtual 493, 3) := by decide +kernel
theorem dX12_sums_6 : decode cX12_sums 6 = .ok (.ifCond .eq 13, 3) := by decide +kernel
theorem dX12_sums_9 : decode cX12_sums 9 = .ok (.iload_n 3, 1) := by decide +kernel
theorem dX12_sums_10 : decode cX12_sums 10 = .ok (.iconst 0, 1) := by decide +kernel
theorem dX12_sums_11 : decode cX12_sums 11 = .ok (.bipush 60, 2) := by decide +kernel
theorem dX12_sums_13 : decode cX12_sums 13 = .ok (.invokestatic 446, 3) := by decide +kernel
theorem dX12_sums_16 : decode cX12_sums 16 = .ok (.ifCond .ne 5, 3) := by decide +kernel
theorem dX12_sums_19 : decode cX12_sums 19 = .ok (.iconst (-1), 1) := by decide +kernel
theorem dX12_sums_20 : decode cX12_sums 20 = .ok (.ireturn, 1) := by decide +kernel
theorem dX12_sums_21 : decode cX12_sums 21 = .ok (.aload_n 0, 1) := by decide +kernel
theorem dX12_sums_22 : decode cX12_sums 22 = .ok (.invokevirtual 497, 3) := by decide +kernel
theorem dX12_sums_25 : decode cX12_sums 25 = .ok (.aload_n 0, 1) := by decide +kernel
theorem dX12_sums_26 : decode cX12_sums 26 = .ok (.iload_n 3, 1) := by decide +kernel
theorem dX12_sums_27 : decode cX12_sums 27 = .ok (.invokevirtual 587, 3) := by decide +kernel
theorem dX12_sums_30 : decode cX12_sums 30 = .ok (.aload_n 0, 1) := by decide +kernel
theorem dX12_sums_31 : decode cX12_sums 31 = .ok (.iload_n 1, 1) := by decide +kernel
theorem dX12_sums_32 : decode cX12_sums 32 = .ok (.iload_n 2, 1) := by decide +kernel
theorem dX12_sums_33 : decode cX12_sums 33 = .ok (.invokestatic 500, 3) := by decide +kernel
theorem dX12_sums_36 : decode cX12_sums 36 = .ok (.iload_n 1, 1) := by decide +kernel
theorem dX12_sums_37 : decode cX12_sums 37 = .ok (.iload_n 2, 1) := by decide +kernel
theorem dX12_sums_38 : decode cX12_sums 38 = .ok (.invokevirtual 504, 3) := by decide +kernel
theorem dX12_sums_41 : decode cX12_sums 41 = .ok (.ireturn, 1) := by decide +kernel
def mX12_sums (t : Nat) (p1 : Int32) (p2 : Bool) (p3 : Int32) (σ : St_) : Option (Int32 × St_) :=
 ((mX12_isHolder t p1 p2 σ).bind fun r1 =>
 (if r1 = true then
 ((mX12_isIn p3 (0 : Int32) (60 : Int32) σ).bind fun r2 =>
 (if r2 = true then
 ((mX12_load t σ).bind fun σ3 =>
 ((mX12_goRounds t p3 σ3).bind fun σ4 =>
 ((mX12_whereOf p1 p2 σ4).bind fun r5 =>
 ((mX12_sumAt t r5 p1 p2 σ4).bind fun r6 =>
 (some (r6, σ4))))))
 else (some ((-1 : Int32), σ))))
 else (some ((-1 : Int32), σ))))
set_option maxHeartbeats 4000000 in
theorem rX12_sums (t : Nat) (p1 : Int32) (p2 : Bool) (p3 : Int32) (hT : LY12 sh P t) : Rj l D cA h0 ad yX12_sums cX12_sums 4 (some .int) false 11 0 0 (fun b => (some (.int b.1), sh, P, b.2)) [.ref (h0 + t), .int p1, .int (b2i p2), .int p3] sh P σ (mX12_sums t p1 p2 p3 σ) := by
  rw [mX12_sums]
  refine Rj.of (by decide) (fun h => by cases h) (Nat.le_of_ble_eq_true rfl) ?_
  refine tj_lv0 (lv' := [(0, .ref (h0 + t)), (1, .int p1), (2, .int (b2i p2)), (3, .int p3)]) rfl ?_
  refine tj_aload_n (q := 1) dX12_sums_0 rfl (i := 0) rfl (pl := 0) rfl ?_
  refine tj_iload_n (q := 2) dX12_sums_1 rfl (i := 1) rfl (pl := 1) rfl ?_
  refine tj_iload_n (q := 3) dX12_sums_2 rfl (i := 2) rfl (pl := 2) rfl ?_
  refine tj_callZp (q := 6) (kj_V (As := [.int p1, .int (b2i p2)]) (rest := []) (t := t) wi_RX12_493 (hT).s rfl (rX12_isHolder t p1 p2 (hT)) rfl (Nat.le_of_ble_eq_true rfl) ⟨Nat.le_of_ble_eq_true rfl, Nat.le_of_ble_eq_true rfl⟩ (Nat.le_of_ble_eq_true rfl) dX12_sums_3) rfl (fun r1 => ?_)
  refine tj_bz (tgt := 19) (q := 9) dX12_sums_6 (by decide) rfl ?_ ?_
  · refine tj_iload_n (q := 10) dX12_sums_9 rfl (i := 3) rfl (pl := 3) rfl ?_
    refine tj_iconst (q := 11) (v := 0) dX12_sums_10 rfl (by decide) ?_
    refine tj_bipush (q := 13) (v := 60) dX12_sums_11 rfl (by decide) ?_
    refine tj_callZp (q := 16) (kj_S (As := [.int p3, .int (0 : Int32), .int (60 : Int32)]) (rest := []) wi_RX12_446 (rX12_isIn p3 (0 : Int32) (60 : Int32)) rfl (Nat.le_of_ble_eq_true rfl) ⟨Nat.le_of_ble_eq_true rfl, Nat.le_of_ble_eq_true rfl⟩ (Nat.le_of_ble_eq_true rfl) dX12_sums_13) rfl (fun r2 => ?_)
    refine tj_bnz (tgt := 21) (q := 19) dX12_sums_16 (by decide) rfl ?_ ?_
    · refine tj_aload_n (q := 22) dX12_sums_21 rfl (i := 0) rfl (pl := 0) rfl ?_
      refine tj_callV (q := 25) (kj_V (As := []) (rest := []) (t := t) wi_RX12_497 (hT).s rfl (rX12_load t (hT)) rfl (Nat.le_of_ble_eq_true rfl) ⟨Nat.le_of_ble_eq_true rfl, Nat.le_of_ble_eq_true rfl⟩ (Nat.le_of_ble_eq_true rfl) dX12_sums_22) rfl (fun σ3 => ?_)
      refine tj_aload_n (q := 26) dX12_sums_25 rfl (i := 0) rfl (pl := 0) rfl ?_
      refine tj_iload_n (q := 27) dX12_sums_26 rfl (i := 3) rfl (pl := 3) rfl ?_
      refine tj_callV (q := 30) (kj_V (As := [.int p3]) (rest := []) (t := t) wi_RX12_587 (hT).s rfl (rX12_goRounds t p3 (hT)) rfl (Nat.le_of_ble_eq_true rfl) ⟨Nat.le_of_ble_eq_true rfl, Nat.le_of_ble_eq_true rfl⟩ (Nat.le_of_ble_eq_true rfl) dX12_sums_27) rfl (fun σ4 => ?_)
      refine tj_aload_n (q := 31) dX12_sums_30 rfl (i := 0) rfl (pl := 0) rfl ?_
      refine tj_iload_n (q := 32) dX12_sums_31 rfl (i := 1) rfl (pl := 1) rfl ?_
      refine tj_iload_n (q := 33) dX12_sums_32 rfl (i := 2) rfl (pl := 2) rfl ?_
      refine tj_callIp (q := 36) (kj_S (As := [.int p1, .int (b2i p2)]) (rest := [.ref (h0 + t)]) wi_RX12_500 (rX12_whereOf p1 p2) rfl (Nat.le_of_ble_eq_true rfl) ⟨Nat.le_of_ble_eq_true rfl, Nat.le_of_ble_eq_true rfl⟩ (Nat.le_of_ble_eq_true rfl) dX12_sums_33) rfl (fun r5 => ?_)
      refine tj_iload_n (q := 37) dX12_sums_36 rfl (i := 1) rfl (pl := 1) rfl ?_
      refine tj_iload_n (q := 38) dX12_sums_37 rfl (i := 2) rfl (pl := 2) rfl ?_
      refine tj_callIp (q := 41) (kj_V (As := [.int r5, .int p1, .int (b2i p2)]) (rest := []) (t := t) wi_RX12_504 (hT).s rfl (rX12_sumAt t r5 p1 p2 (hT)) rfl (Nat.le_of_ble_eq_true rfl) ⟨Nat.le_of_ble_eq_true rfl, Nat.le_of_ble_eq_true rfl⟩ (Nat.le_of_ble_eq_true rfl) dX12_sums_38) rfl (fun r6 => ?_)
      exact tj_iret rfl rfl (Nat.le_of_ble_eq_true rfl) (Nat.le_of_ble_eq_true rfl) dX12_sums_41
    · refine tj_iconst (q := 20) (v := (-1)) dX12_sums_19 rfl (by decide) ?_
      exact tj_iret rfl rfl (Nat.le_of_ble_eq_true rfl) (Nat.le_of_ble_eq_true rfl) dX12_sums_20
  · refine tj_iconst (q := 20) (v := (-1)) dX12_sums_19 rfl (by decide) ?_
    exact tj_iret rfl rfl (Nat.le_of_ble_eq_true rfl) (Nat.le_of_ble_eq_true rfl) dX12_sums_20

theorem dX12_rests_0 : decode cX12_rests 0 = .ok (.aload_n 0, 1) := by decide +kernel
theorem dX12_rests_1 : decode cX12_rests 1 = .ok (.invokevirtual 497, 3) := by decide +kernel
theorem dX12_rests_4 : decode cX12_rests 4 = .ok (.aload_n 0, 1) := by decide +kernel
theorem dX12_rests_5 : decode cX12_rests 5 = .ok (.iconst 0, 1) := by decide +kernel
theorem dX12_rests_6 : decode cX12_rests 6 = .ok (.putfield 584, 3) := by decide +kernel
theorem dX12_rests_9 : decode cX12_rests 9 = .ok (.iconst 1, 1) := by decide +kernel
theorem dX12_rests_10 : decode cX12_rests 10 = .ok (.istore_n 1, 1) := by decide +kernel
theorem dX12_rests_11 : decode cX12_rests 11 = .ok (.iload_n 1, 1) := by decide +kernel
theorem dX12_rests_12 : decode cX12_rests 12 = .ok (.bipush 60, 2) := by decide +kernel
theorem dX12_rests_14 : decode cX12_rests 14 = .ok (.if_icmp .gt 27, 3) := by decide +kernel
theorem dX12_rests_17 : decode cX12_rests 17 = .ok (.aload_n 0, 1) := by decide +kernel
theorem dX12_rests_18 : decode cX12_rests 18 = .ok (.iconst 1, 1) := by decide +kernel
theorem dX12_rests_19 : decode cX12_rests 19 = .ok (.invokevirtual 587, 3) := by decide +kernel
theorem dX12_rests_22 : decode cX12_rests 22 = .ok (.aload_n 0, 1) := by decide +kernel
theorem dX12_rests_23 : decode cX12_rests 23 = .ok (.getfield 584, 3) := by decide +kernel
theorem dX12_rests_26 : decode cX12_rests 26 = .ok (.aload_n 0, 1) := by decide +kernel
theorem dX12_rests_27 : decode cX12_rests 27 = .ok (.getfield 99, 3) := by decide +kernel
theorem dX12_rests_30 : decode cX12_rests 30 = .ok (.if_icmp .lt 5, 3) := by decide +kernel
theorem dX12_rests_33 : decode cX12_rests 33 = .ok (.iload_n 1, 1) := by decide +kernel
theorem dX12_rests_34 : decode cX12_rests 34 = .ok (.ireturn, 1) := by decide +kernel
theorem dX12_rests_35 : decode cX12_rests 35 = .ok (.iinc 1 1, 3) := by decide +kernel
theorem dX12_rests_38 : decode cX12_rests 38 = .ok (.goto (-27), 3) := by decide +kernel
theorem dX12_rests_41 : decode cX12_rests 41 = .ok (.iconst (-1), 1) := by decide +kernel
theorem dX12_rests_42 : decode cX12_rests 42 = .ok (.ireturn, 1) := by decide +kernel
def mX12_rests_L11 (t : Nat) : Nat → Int32 → St_ → Option (Int32 × St_)
  | 0, _, _ => none
  | n + 1, x1, σ => (if (60 : Int32) < x1 then
 (some ((-1 : Int32), σ))
 else ((mX12_goRounds t (1 : Int32) σ).bind fun σ3 =>
 (if (σ3.1 t 78) < (σ3.1 t 55) then
 (mX12_rests_L11 t n (x1 + 1) σ3)
 else (some (x1, σ3)))))
def mX12_rests (t : Nat) (σ : St_) : Option (Int32 × St_) :=
 ((mX12_load t σ).bind fun σ1 =>
 (bnd (sI σ1 t 78 (0 : Int32)) fun σ2 =>
 (mX12_rests_L11 t FU (1 : Int32) σ2)))
set_option maxHeartbeats 4000000 in
theorem tmX12_rests_L11 (t : Nat) (hT : LY12 sh P t) : ∀ (n : Nat) (x1 : Int32) (σ : St_), Tj l D cA h0 ad RX12 cX12_rests 2 (some .int) false 11 0 0 (fun b => (some (.int b.1), sh, P, b.2)) 0 0 sh P σ 11 [(0, .ref (h0 + t)), (1, .int x1)] [] (mX12_rests_L11 t n x1 σ) := by
  intro n
  induction n with
  | zero => intros; exact tj_none
  | succ n ih =>
    intro x1 σ
    rw [mX12_rests_L11]
    refine tj_iload_n (q := 12) dX12_rests_11 rfl (i := 1) rfl (pl := 1) rfl ?_
    refine tj_bipush (q := 14) (v := 60) dX12_rests_12 rfl (by decide) ?_
    refine tj_icmp_gt (tgt := 41) (q := 17) dX12_rests_14 (by decide) rfl ?_ ?_
    · refine tj_iconst (q := 42) (v := (-1)) dX12_rests_41 rfl (by decide) ?_
      exact tj_iret rfl rfl (Nat.le_of_ble_eq_true rfl) (Nat.le_of_ble_eq_true rfl) dX12_rests_42
    · refine tj_aload_n (q := 18) dX12_rests_17 rfl (i := 0) rfl (pl := 0) rfl ?_
      refine tj_iconst (q := 19) (v := 1) dX12_rests_18 rfl (by decide) ?_
      refine tj_callV (q := 22) (kj_V (As := [.int (1 : Int32)]) (rest := []) (t := t) wi_RX12_587 (hT).s rfl (rX12_goRounds t (1 : Int32) (hT)) rfl (Nat.le_of_ble_eq_true rfl) ⟨Nat.le_of_ble_eq_true rfl, Nat.le_of_ble_eq_true rfl⟩ (Nat.le_of_ble_eq_true rfl) dX12_rests_19) rfl (fun σ3 => ?_)
      refine tj_aload_n (q := 23) dX12_rests_22 rfl (i := 0) rfl (pl := 0) rfl ?_
      refine tj_getI (q := 26) (hT).s fok_12_78 wl_RX12_584 dX12_rests_23 rfl ?_
      refine tj_aload_n (q := 27) dX12_rests_26 rfl (i := 0) rfl (pl := 0) rfl ?_
      refine tj_getI (q := 30) (hT).s fok_12_55 wl_RX12_99 dX12_rests_27 rfl ?_
      refine tj_icmp_lt (tgt := 35) (q := 33) dX12_rests_30 (by decide) rfl ?_ ?_
      · refine tj_iinc (q := 38) (v := x1 + 1) dX12_rests_35 rfl (pl := 1) rfl rfl (by decide) rfl ?_
        refine tj_goto (q := 11) dX12_rests_38 (by decide) ?_
        refine tj_lv [1, 0] rfl ?_
        exact ih (x1 + 1) σ3
      · refine tj_iload_n (q := 34) dX12_rests_33 rfl (i := 1) rfl (pl := 1) rfl ?_
        exact tj_iret rfl rfl (Nat.le_of_ble_eq_true rfl) (Nat.le_of_ble_eq_true rfl) dX12_rests_34

set_option maxHeartbeats 4000000 in
theorem rX12_rests (t : Nat) (hT : LY12 sh P t) : Rj l D cA h0 ad yX12_rests cX12_rests 2 (some .int) false 11 0 0 (fun b => (some (.int b.1), sh, P, b.2)) [.ref (h0 + t)] sh P σ (mX12_rests t σ) := by
  rw [mX12_rests]
  refine Rj.of (by decide) (fun h => by cases h) (Nat.le_of_ble_eq_true rfl) ?_
  refine tj_lv0 (lv' := [(0, .ref (h0 + t))]) rfl ?_
  refine tj_aload_n (q := 1) dX12_rests_0 rfl (i := 0) rfl (pl := 0) rfl ?_
  refine tj_callV (q := 4) (kj_V (As := []) (rest := []) (t := t) wi_RX12_497 (hT).s rfl (rX12_load t (hT)) rfl (Nat.le_of_ble_eq_true rfl) ⟨Nat.le_of_ble_eq_true rfl, Nat.le_of_ble_eq_true rfl⟩ (Nat.le_of_ble_eq_true rfl) dX12_rests_1) rfl (fun σ1 => ?_)
  refine tj_aload_n (q := 5) dX12_rests_4 rfl (i := 0) rfl (pl := 0) rfl ?_
  refine tj_iconst (q := 6) (v := 0) dX12_rests_5 rfl (by decide) ?_
  refine tj_putI (q := 9) (hT).s fok_12_78 tok_12 fpk_12_78 wl_RX12_584 dX12_rests_6 rfl (fun σ2 => ?_)
  refine tj_iconst (q := 10) (v := 1) dX12_rests_9 rfl (by decide) ?_
  refine tj_istore_n (q := 11) dX12_rests_10 rfl (i := 1) rfl (by decide) rfl ?_
  refine tj_lv [1, 0] rfl ?_
  exact tmX12_rests_L11 t hT FU (1 : Int32) σ2

theorem dX12_hasThen_0 : decode cX12_hasThen 0 = .ok (.aload_n 0, 1) := by decide +kernel
theorem dX12_hasThen_1 : decode cX12_hasThen 1 = .ok (.invokevirtual 497, 3) := by decide +kernel
theorem dX12_hasThen_4 : decode cX12_hasThen 4 = .ok (.aload_n 0, 1) := by decide +kernel
theorem dX12_hasThen_5 : decode cX12_hasThen 5 = .ok (.iload_n 2, 1) := by decide +kernel
theorem dX12_hasThen_6 : decode cX12_hasThen 6 = .ok (.invokevirtual 587, 3) := by decide +kernel
theorem dX12_hasThen_9 : decode cX12_hasThen 9 = .ok (.aload_n 0, 1) := by decide +kernel
theorem dX12_hasThen_10 : decode cX12_hasThen 10 = .ok (.iload_n 1, 1) := by decide +kernel
theorem dX12_hasThen_11 : decode cX12_hasThen 11 = .ok (.iload_n 1, 1) := by decide +kernel
theorem dX12_hasThen_12 : decode cX12_hasThen 12 = .ok (.iconst 0, 1) := by decide +kernel
theorem dX12_hasThen_13 : decode cX12_hasThen 13 = .ok (.invokevirtual 504, 3) := by decide +kernel
theorem dX12_hasThen_16 : decode cX12_hasThen 16 = .ok (.ireturn, 1) := by decide +kernel
def mX12_hasThen (t : Nat) (p1 : Int32) (p2 : Int32) (σ : St_) : Option (Int32 × St_) :=
 ((mX12_load t σ).bind fun σ1 =>
 ((mX12_goRounds t p2 σ1).bind fun σ2 =>
 ((mX12_sumAt t p1 p1 false σ2).bind fun r3 =>
 (some (r3, σ2)))))
set_option maxHeartbeats 4000000 in
theorem rX12_hasThen (t : Nat) (p1 : Int32) (p2 : Int32) (hT : LY12 sh P t) : Rj l D cA h0 ad yX12_hasThen cX12_hasThen 3 (some .int) false 11 0 0 (fun b => (some (.int b.1), sh, P, b.2)) [.ref (h0 + t), .int p1, .int p2] sh P σ (mX12_hasThen t p1 p2 σ) := by
  rw [mX12_hasThen]
  refine Rj.of (by decide) (fun h => by cases h) (Nat.le_of_ble_eq_true rfl) ?_
  refine tj_lv0 (lv' := [(0, .ref (h0 + t)), (1, .int p1), (2, .int p2)]) rfl ?_
  refine tj_aload_n (q := 1) dX12_hasThen_0 rfl (i := 0) rfl (pl := 0) rfl ?_
  refine tj_callV (q := 4) (kj_V (As := []) (rest := []) (t := t) wi_RX12_497 (hT).s rfl (rX12_load t (hT)) rfl (Nat.le_of_ble_eq_true rfl) ⟨Nat.le_of_ble_eq_true rfl, Nat.le_of_ble_eq_true rfl⟩ (Nat.le_of_ble_eq_true rfl) dX12_hasThen_1) rfl (fun σ1 => ?_)
  refine tj_aload_n (q := 5) dX12_hasThen_4 rfl (i := 0) rfl (pl := 0) rfl ?_
  refine tj_iload_n (q := 6) dX12_hasThen_5 rfl (i := 2) rfl (pl := 2) rfl ?_
  refine tj_callV (q := 9) (kj_V (As := [.int p2]) (rest := []) (t := t) wi_RX12_587 (hT).s rfl (rX12_goRounds t p2 (hT)) rfl (Nat.le_of_ble_eq_true rfl) ⟨Nat.le_of_ble_eq_true rfl, Nat.le_of_ble_eq_true rfl⟩ (Nat.le_of_ble_eq_true rfl) dX12_hasThen_6) rfl (fun σ2 => ?_)
  refine tj_aload_n (q := 10) dX12_hasThen_9 rfl (i := 0) rfl (pl := 0) rfl ?_
  refine tj_iload_n (q := 11) dX12_hasThen_10 rfl (i := 1) rfl (pl := 1) rfl ?_
  refine tj_iload_n (q := 12) dX12_hasThen_11 rfl (i := 1) rfl (pl := 1) rfl ?_
  refine tj_iconst (q := 13) (v := 0) dX12_hasThen_12 rfl (by decide) ?_
  refine tj_callIp (q := 16) (kj_V (As := [.int p1, .int p1, .int (0 : Int32)]) (rest := []) (t := t) wi_RX12_504 (hT).s rfl (rX12_sumAt t p1 p1 false (hT)) rfl (Nat.le_of_ble_eq_true rfl) ⟨Nat.le_of_ble_eq_true rfl, Nat.le_of_ble_eq_true rfl⟩ (Nat.le_of_ble_eq_true rfl) dX12_hasThen_13) rfl (fun r3 => ?_)
  exact tj_iret rfl rfl (Nat.le_of_ble_eq_true rfl) (Nat.le_of_ble_eq_true rfl) dX12_hasThen_16

theorem dX12_lie_0 : decode cX12_lie 0 = .ok (.aload_n 0, 1) := by decide +kernel
theorem dX12_lie_1 : decode cX12_lie 1 = .ok (.iload_n 1, 1) := by decide +kernel
theorem dX12_lie_2 : decode cX12_lie 2 = .ok (.invokevirtual 453, 3) := by decide +kernel
theorem dX12_lie_5 : decode cX12_lie 5 = .ok (.ifCond .eq 21, 3) := by decide +kernel
theorem dX12_lie_8 : decode cX12_lie 8 = .ok (.iload_n 2, 1) := by decide +kernel
theorem dX12_lie_9 : decode cX12_lie 9 = .ok (.iconst 1, 1) := by decide +kernel
theorem dX12_lie_10 : decode cX12_lie 10 = .ok (.iconst 4, 1) := by decide +kernel
theorem dX12_lie_11 : decode cX12_lie 11 = .ok (.invokestatic 446, 3) := by decide +kernel
theorem dX12_lie_14 : decode cX12_lie 14 = .ok (.ifCond .eq 12, 3) := by decide +kernel
theorem dX12_lie_17 : decode cX12_lie 17 = .ok (.iload_n 3, 1) := by decide +kernel
theorem dX12_lie_18 : decode cX12_lie 18 = .ok (.iconst 0, 1) := by decide +kernel
theorem dX12_lie_19 : decode cX12_lie 19 = .ok (.iconst 2, 1) := by decide +kernel
theorem dX12_lie_20 : decode cX12_lie 20 = .ok (.invokestatic 446, 3) := by decide +kernel
theorem dX12_lie_23 : decode cX12_lie 23 = .ok (.ifCond .ne 6, 3) := by decide +kernel
theorem dX12_lie_26 : decode cX12_lie 26 = .ok (.bipush (-2), 2) := by decide +kernel
theorem dX12_lie_28 : decode cX12_lie 28 = .ok (.ireturn, 1) := by decide +kernel
theorem dX12_lie_29 : decode cX12_lie 29 = .ok (.aload_n 0, 1) := by decide +kernel
theorem dX12_lie_30 : decode cX12_lie 30 = .ok (.iload_n 1, 1) := by decide +kernel
theorem dX12_lie_31 : decode cX12_lie 31 = .ok (.iload_n 2, 1) := by decide +kernel
theorem dX12_lie_32 : decode cX12_lie 32 = .ok (.invokevirtual 590, 3) := by decide +kernel
theorem dX12_lie_35 : decode cX12_lie 35 = .ok (.istore 4, 2) := by decide +kernel
theorem dX12_lie_37 : decode cX12_lie 37 = .ok (.iconst (-1), 1) := by decide +kernel
theorem dX12_lie_38 : decode cX12_lie 38 = .ok (.istore 5, 2) := by decide +kernel
theorem dX12_lie_40 : decode cX12_lie 40 = .ok (.iconst (-1), 1) := by decide +kernel
theorem dX12_lie_41 : decode cX12_lie 41 = .ok (.istore 6, 2) := by decide +kernel
theorem dX12_lie_43 : decode cX12_lie 43 = .ok (.aload_n 0, 1) := by decide +kernel
theorem dX12_lie_44 : decode cX12_lie 44 = .ok (.iload_n 1, 1) := by decide +kernel
theorem dX12_lie_45 : decode cX12_lie 45 = .ok (.putfield 111, 3) := by decide +kernel
theorem dX12_lie_48 : decode cX12_lie 48 = .ok (.iconst 0, 1) := by decide +kernel
theorem dX12_lie_49 : decode cX12_lie 49 = .ok (.istore 7, 2) := by decide +kernel
theorem dX12_lie_51 : decode cX12_lie 51 = .ok (.iload 7, 2) := by decide +kernel
theorem dX12_lie_53 : decode cX12_lie 53 = .ok (.aload_n 0, 1) := by decide +kernel
theorem dX12_lie_54 : decode cX12_lie 54 = .ok (.getfield 419, 3) := by decide +kernel
theorem dX12_lie_57 : decode cX12_lie 57 = .ok (.if_icmp .ge 67, 3) := by decide +kernel
theorem dX12_lie_60 : decode cX12_lie 60 = .ok (.iconst 0, 1) := by decide +kernel
theorem dX12_lie_61 : decode cX12_lie 61 = .ok (.istore 8, 2) := by decide +kernel
theorem dX12_lie_63 : decode cX12_lie 63 = .ok (.iload 8, 2) := by decide +kernel
theorem dX12_lie_65 : decode cX12_lie 65 = .ok (.bipush 20, 2) := by decide +kernel
theorem dX12_lie_67 : decode cX12_lie 67 = .ok (.if_icmp .gt 51, 3) := by decide +kernel
theorem dX12_lie_70 : decode cX12_lie 70 = .ok (.aload_n 0, 1) := by decide +kernel
theorem dX12_lie_71 : decode cX12_lie 71 = .ok (.iload 7, 2) := by decide +kernel
theorem dX12_lie_73 : decode cX12_lie 73 = .ok (.putfield 108, 3) := by decide +kernel
theorem dX12_lie_76 : decode cX12_lie 76 = .ok (.aload_n 0, 1) := by decide +kernel
theorem dX12_lie_77 : decode cX12_lie 77 = .ok (.iload 8, 2) := by decide +kernel
theorem dX12_lie_79 : decode cX12_lie 79 = .ok (.putfield 462, 3) := by decide +kernel
theorem dX12_lie_82 : decode cX12_lie 82 = .ok (.aload_n 0, 1) := by decide +kernel
theorem dX12_lie_83 : decode cX12_lie 83 = .ok (.iload_n 1, 1) := by decide +kernel
theorem dX12_lie_84 : decode cX12_lie 84 = .ok (.iload_n 2, 1) := by decide +kernel
theorem dX12_lie_85 : decode cX12_lie 85 = .ok (.invokevirtual 590, 3) := by decide +kernel
theorem dX12_lie_88 : decode cX12_lie 88 = .ok (.istore 9, 2) := by decide +kernel
theorem dX12_lie_90 : decode cX12_lie 90 = .ok (.iload 9, 2) := by decide +kernel
theorem dX12_lie_92 : decode cX12_lie 92 = .ok (.iload 4, 2) := by decide +kernel
theorem dX12_lie_94 : decode cX12_lie 94 = .ok (.if_icmp .gt 6, 3) := by decide +kernel
theorem dX12_lie_97 : decode cX12_lie 97 = .ok (.goto 15, 3) := by decide +kernel
theorem dX12_lie_100 : decode cX12_lie 100 = .ok (.iload 9, 2) := by decide +kernel
theorem dX12_lie_102 : decode cX12_lie 102 = .ok (.istore 4, 2) := by decide +kernel
theorem dX12_lie_104 : decode cX12_lie 104 = .ok (.iload 7, 2) := by decide +kernel
theorem dX12_lie_106 : decode cX12_lie 106 = .ok (.istore 5, 2) := by decide +kernel
theorem dX12_lie_108 : decode cX12_lie 108 = .ok (.iload 8, 2) := by decide +kernel
theorem dX12_lie_110 : decode cX12_lie 110 = .ok (.istore 6, 2) := by decide +kernel
theorem dX12_lie_112 : decode cX12_lie 112 = .ok (.iinc 8 1, 3) := by decide +kernel
theorem dX12_lie_115 : decode cX12_lie 115 = .ok (.goto (-52), 3) := by decide +kernel
theorem dX12_lie_118 : decode cX12_lie 118 = .ok (.iinc 7 1, 3) := by decide +kernel
theorem dX12_lie_121 : decode cX12_lie 121 = .ok (.goto (-70), 3) := by decide +kernel
theorem dX12_lie_124 : decode cX12_lie 124 = .ok (.aload_n 0, 1) := by decide +kernel
theorem dX12_lie_125 : decode cX12_lie 125 = .ok (.iconst (-1), 1) := by decide +kernel
theorem dX12_lie_126 : decode cX12_lie 126 = .ok (.putfield 111, 3) := by decide +kernel
theorem dX12_lie_129 : decode cX12_lie 129 = .ok (.aload_n 0, 1) := by decide +kernel
theorem dX12_lie_130 : decode cX12_lie 130 = .ok (.iconst (-1), 1) := by decide +kernel
theorem dX12_lie_131 : decode cX12_lie 131 = .ok (.putfield 108, 3) := by decide +kernel
theorem dX12_lie_134 : decode cX12_lie 134 = .ok (.iload_n 3, 1) := by decide +kernel
theorem dX12_lie_135 : decode cX12_lie 135 = .ok (.ifCond .ne 8, 3) := by decide +kernel
theorem dX12_lie_138 : decode cX12_lie 138 = .ok (.iload 4, 2) := by decide +kernel
theorem dX12_lie_140 : decode cX12_lie 140 = .ok (.goto 15, 3) := by decide +kernel
theorem dX12_lie_143 : decode cX12_lie 143 = .ok (.iload_n 3, 1) := by decide +kernel
theorem dX12_lie_144 : decode cX12_lie 144 = .ok (.iconst 1, 1) := by decide +kernel
theorem dX12_lie_145 : decode cX12_lie 145 = .ok (.if_icmp .ne 8, 3) := by decide +kernel
theorem dX12_lie_148 : decode cX12_lie 148 = .ok (.iload 5, 2) := by decide +kernel
theorem dX12_lie_150 : decode cX12_lie 150 = .ok (.goto 5, 3) := by decide +kernel
theorem dX12_lie_153 : decode cX12_lie 153 = .ok (.iload 6, 2) := by decide +kernel
theorem dX12_lie_155 : decode cX12_lie 155 = .ok (.ireturn, 1) := by decide +kernel
theorem wm_X12_hasThen : Cond.instanceMethod yX12_hasThen ∈ TB ∧ Cond.selects yX12_hasThen.cls yX12_hasThen yX12_hasThen ∈ TB ∧ Cond.initialized yX12_hasThen.cls ∈ TB ∧ Cond.code yX12_hasThen cX12_hasThen 3 (some .int) ∈ TB ∧ (yX12_hasThen.cls ≠ "java/lang/invoke/MethodHandle" ∧ yX12_hasThen.cls ≠ "java/lang/invoke/VarHandle" ∧ (parseMethodDescriptor yX12_hasThen.desc).map (fun d => d.parameters.length) = some 2) ∧ 3 ≤ 21 := ⟨tbm 2112 (by decide +kernel) (by decide +kernel), tbm 124 (by decide +kernel) (by decide +kernel), tbm 146 (by decide +kernel) (by decide +kernel), tbm 2113 (by decide +kernel) (by decide +kernel), by decide +kernel, by decide⟩
theorem wi_RX12_590 : Iv RX12 590 yX12_hasThen cX12_hasThen 3 (some .int) 2 := ⟨tbm 2110 (by decide +kernel) (by decide +kernel), wm_X12_hasThen⟩
def mX12_lie_L63 (t : Nat) (x1 : Int32) (x2 : Int32) (x3 : Int32) (x7 : Int32) (k118 : Int32 → Int32 → Int32 → St_ → Option (Int32 × St_)) : Nat → Int32 → Int32 → Int32 → Int32 → St_ → Option (Int32 × St_)
  | 0, _, _, _, _, _ => none
  | n + 1, x4, x5, x6, x8, σ => (if (20 : Int32) < x8 then
 (k118 x4 x5 x6 σ)
 else (bnd (sI σ t 64 x7) fun σ6 =>
 (bnd (sI σ6 t 66 x8) fun σ7 =>
 ((mX12_hasThen t x1 x2 σ7).bind fun r8 =>
 (bnd (fun (j9 : Int32) (j10 : Int32) (j11 : Int32) => (mX12_lie_L63 t x1 x2 x3 x7 k118 n j9 j10 j11 (x8 + 1) r8.2)) fun k12 =>
 (if x4 < r8.1 then
 (k12 r8.1 x7 x8)
 else (k12 x4 x5 x6)))))))
def mX12_lie_L51 (t : Nat) (x1 : Int32) (x2 : Int32) (x3 : Int32) (k124 : Int32 → Int32 → Int32 → St_ → Option (Int32 × St_)) : Nat → Int32 → Int32 → Int32 → Int32 → St_ → Option (Int32 × St_)
  | 0, _, _, _, _, _ => none
  | n + 1, x4, x5, x6, x7, σ => (if (σ.1 t 52) ≤ x7 then
 (k124 x4 x5 x6 σ)
 else (mX12_lie_L63 t x1 x2 x3 x7
 (fun (y14 : Int32) (y15 : Int32) (y16 : Int32) (σ17 : St_) => (mX12_lie_L51 t x1 x2 x3 k124 n y14 y15 y16 (x7 + 1) σ17)) FU x4 x5 x6 (0 : Int32) σ))
def mX12_lie (t : Nat) (p1 : Int32) (p2 : Int32) (p3 : Int32) (σ : St_) : Option (Int32 × St_) :=
 ((mX12_isHouse t p1 σ).bind fun r1 =>
 (if r1 = true then
 ((mX12_isIn p2 (1 : Int32) (4 : Int32) σ).bind fun r2 =>
 (if r2 = true then
 ((mX12_isIn p3 (0 : Int32) (2 : Int32) σ).bind fun r3 =>
 (if r3 = true then
 ((mX12_hasThen t p1 p2 σ).bind fun r4 =>
 (bnd (sI r4.2 t 65 p1) fun σ5 =>
 (mX12_lie_L51 t p1 p2 p3
 (fun (y18 : Int32) (y19 : Int32) (y20 : Int32) (σ21 : St_) => (bnd (sI σ21 t 65 (-1 : Int32)) fun σ22 =>
 (bnd (sI σ22 t 64 (-1 : Int32)) fun σ23 =>
 (if p3 = 0 then
 (some (y18, σ23))
 else (if p3 = (1 : Int32) then
 (some (y19, σ23))
 else (some (y20, σ23))))))) FU r4.1 (-1 : Int32) (-1 : Int32) (0 : Int32) σ5)))
 else (some ((-2 : Int32), σ))))
 else (some ((-2 : Int32), σ))))
 else (some ((-2 : Int32), σ))))
set_option maxHeartbeats 4000000 in
theorem tmX12_lie_L63 (t : Nat) (hT : LY12 sh P t) (x1 : Int32) (x2 : Int32) (x3 : Int32) (x7 : Int32) (k118 : Int32 → Int32 → Int32 → St_ → Option (Int32 × St_)) (hk118 : ∀ (y4 : Int32) (y5 : Int32) (y6 : Int32) (σ1 : St_), Tj l D cA h0 ad RX12 cX12_lie 10 (some .int) false 12 0 0 (fun b => (some (.int b.1), sh, P, b.2)) 0 0 sh P σ1 118 [(0, .ref (h0 + t)), (1, .int x1), (2, .int x2), (3, .int x3), (4, .int y4), (5, .int y5), (6, .int y6), (7, .int x7)] [] (k118 y4 y5 y6 σ1)) : ∀ (n : Nat) (x4 : Int32) (x5 : Int32) (x6 : Int32) (x8 : Int32) (σ : St_), Tj l D cA h0 ad RX12 cX12_lie 10 (some .int) false 12 0 0 (fun b => (some (.int b.1), sh, P, b.2)) 0 0 sh P σ 63 [(0, .ref (h0 + t)), (1, .int x1), (2, .int x2), (3, .int x3), (4, .int x4), (5, .int x5), (6, .int x6), (7, .int x7), (8, .int x8)] [] (mX12_lie_L63 t x1 x2 x3 x7 k118 n x4 x5 x6 x8 σ) := by
  intro n
  induction n with
  | zero => intros; exact tj_none
  | succ n ih =>
    intro x4 x5 x6 x8 σ
    rw [mX12_lie_L63]
    refine tj_iload (q := 65) dX12_lie_63 rfl (pl := 8) rfl ?_
    refine tj_bipush (q := 67) (v := 20) dX12_lie_65 rfl (by decide) ?_
    refine tj_icmp_gt (tgt := 118) (q := 70) dX12_lie_67 (by decide) rfl ?_ ?_
    · refine tj_lv [0, 1, 2, 3, 4, 5, 6, 7] rfl ?_
      exact hk118 x4 x5 x6 σ
    · refine tj_aload_n (q := 71) dX12_lie_70 rfl (i := 0) rfl (pl := 0) rfl ?_
      refine tj_iload (q := 73) dX12_lie_71 rfl (pl := 7) rfl ?_
      refine tj_putI (q := 76) (hT).s fok_12_64 tok_12 fpk_12_64 wl_RX12_108 dX12_lie_73 rfl (fun σ6 => ?_)
      refine tj_aload_n (q := 77) dX12_lie_76 rfl (i := 0) rfl (pl := 0) rfl ?_
      refine tj_iload (q := 79) dX12_lie_77 rfl (pl := 8) rfl ?_
      refine tj_putI (q := 82) (hT).s fok_12_66 tok_12 fpk_12_66 wl_RX12_462 dX12_lie_79 rfl (fun σ7 => ?_)
      refine tj_aload_n (q := 83) dX12_lie_82 rfl (i := 0) rfl (pl := 0) rfl ?_
      refine tj_iload_n (q := 84) dX12_lie_83 rfl (i := 1) rfl (pl := 1) rfl ?_
      refine tj_iload_n (q := 85) dX12_lie_84 rfl (i := 2) rfl (pl := 2) rfl ?_
      refine tj_callI (q := 88) (kj_V (As := [.int x1, .int x2]) (rest := []) (t := t) wi_RX12_590 (hT).s rfl (rX12_hasThen t x1 x2 (hT)) rfl (Nat.le_of_ble_eq_true rfl) ⟨Nat.le_of_ble_eq_true rfl, Nat.le_of_ble_eq_true rfl⟩ (Nat.le_of_ble_eq_true rfl) dX12_lie_85) rfl (fun r8 => ?_)
      refine tj_istore (q := 90) dX12_lie_88 rfl (by decide) rfl ?_
      refine tj_iload (q := 92) dX12_lie_90 rfl (pl := 0) rfl ?_
      refine tj_iload (q := 94) dX12_lie_92 rfl (pl := 5) rfl ?_
      refine tj_bnd (fun k12 => ∀ (j9 : Int32) (j10 : Int32) (j11 : Int32), Tj l D cA h0 ad RX12 cX12_lie 10 (some .int) false 12 0 0 (fun b => (some (.int b.1), sh, P, b.2)) 0 0 sh P r8.2 112 [(0, .ref (h0 + t)), (1, .int x1), (2, .int x2), (3, .int x3), (4, .int j9), (5, .int j10), (6, .int j11), (7, .int x7), (8, .int x8)] [] (k12 j9 j10 j11)) ?_ (fun k12 hk13 => ?_)
      · intro j9 j10 j11
        refine tj_iinc (q := 115) (v := x8 + 1) dX12_lie_112 rfl (pl := 8) rfl rfl (by decide) rfl ?_
        refine tj_goto (q := 63) dX12_lie_115 (by decide) ?_
        refine tj_lv [1, 2, 3, 4, 5, 6, 7, 8, 0] rfl ?_
        exact ih j9 j10 j11 (x8 + 1) r8.2
      · refine tj_icmp_gt (tgt := 100) (q := 97) dX12_lie_94 (by decide) rfl ?_ ?_
        · refine tj_iload (q := 102) dX12_lie_100 rfl (pl := 0) rfl ?_
          refine tj_istore (q := 104) dX12_lie_102 rfl (by decide) rfl ?_
          refine tj_iload (q := 106) dX12_lie_104 rfl (pl := 8) rfl ?_
          refine tj_istore (q := 108) dX12_lie_106 rfl (by decide) rfl ?_
          refine tj_iload (q := 110) dX12_lie_108 rfl (pl := 9) rfl ?_
          refine tj_istore (q := 112) dX12_lie_110 rfl (by decide) rfl ?_
          refine tj_lv [4, 5, 6, 7, 2, 1, 0, 8, 9] rfl ?_
          exact hk13 r8.1 x7 x8
        · refine tj_goto (q := 112) dX12_lie_97 (by decide) ?_
          refine tj_lv [1, 2, 3, 4, 5, 6, 7, 8, 9] rfl ?_
          exact hk13 x4 x5 x6

set_option maxHeartbeats 4000000 in
theorem tmX12_lie_L51 (t : Nat) (hT : LY12 sh P t) (x1 : Int32) (x2 : Int32) (x3 : Int32) (k124 : Int32 → Int32 → Int32 → St_ → Option (Int32 × St_)) (hk124 : ∀ (y4 : Int32) (y5 : Int32) (y6 : Int32) (σ1 : St_), Tj l D cA h0 ad RX12 cX12_lie 10 (some .int) false 12 0 0 (fun b => (some (.int b.1), sh, P, b.2)) 0 0 sh P σ1 124 [(0, .ref (h0 + t)), (3, .int x3), (4, .int y4), (5, .int y5), (6, .int y6)] [] (k124 y4 y5 y6 σ1)) : ∀ (n : Nat) (x4 : Int32) (x5 : Int32) (x6 : Int32) (x7 : Int32) (σ : St_), Tj l D cA h0 ad RX12 cX12_lie 10 (some .int) false 12 0 0 (fun b => (some (.int b.1), sh, P, b.2)) 0 0 sh P σ 51 [(0, .ref (h0 + t)), (1, .int x1), (2, .int x2), (3, .int x3), (4, .int x4), (5, .int x5), (6, .int x6), (7, .int x7)] [] (mX12_lie_L51 t x1 x2 x3 k124 n x4 x5 x6 x7 σ) := by
  intro n
  induction n with
  | zero => intros; exact tj_none
  | succ n ih =>
    intro x4 x5 x6 x7 σ
    rw [mX12_lie_L51]
    refine tj_iload (q := 53) dX12_lie_51 rfl (pl := 7) rfl ?_
    refine tj_aload_n (q := 54) dX12_lie_53 rfl (i := 0) rfl (pl := 0) rfl ?_
    refine tj_getI (q := 57) (hT).s fok_12_52 wl_RX12_419 dX12_lie_54 rfl ?_
    refine tj_icmp_ge (tgt := 124) (q := 60) dX12_lie_57 (by decide) rfl ?_ ?_
    · refine tj_lv [0, 3, 4, 5, 6] rfl ?_
      exact hk124 x4 x5 x6 σ
    · refine tj_iconst (q := 61) (v := 0) dX12_lie_60 rfl (by decide) ?_
      refine tj_istore (q := 63) dX12_lie_61 rfl (by decide) rfl ?_
      refine tj_lv [1, 2, 3, 4, 5, 6, 7, 8, 0] rfl ?_
      refine tmX12_lie_L63 t hT x1 x2 x3 x7 _ ?_ FU x4 x5 x6 (0 : Int32) σ
      · intro y14 y15 y16 σ17
        refine tj_iinc (q := 121) (v := x7 + 1) dX12_lie_118 rfl (pl := 7) rfl rfl (by decide) rfl ?_
        refine tj_goto (q := 51) dX12_lie_121 (by decide) ?_
        refine tj_lv [1, 2, 3, 4, 5, 6, 7, 0] rfl ?_
        exact ih y14 y15 y16 (x7 + 1) σ17

set_option maxHeartbeats 4000000 in
theorem rX12_lie (t : Nat) (p1 : Int32) (p2 : Int32) (p3 : Int32) (hT : LY12 sh P t) : Rj l D cA h0 ad yX12_lie cX12_lie 10 (some .int) false 12 0 0 (fun b => (some (.int b.1), sh, P, b.2)) [.ref (h0 + t), .int p1, .int p2, .int p3] sh P σ (mX12_lie t p1 p2 p3 σ) := by
  rw [mX12_lie]
  refine Rj.of (by decide) (fun h => by cases h) (Nat.le_of_ble_eq_true rfl) ?_
  refine tj_lv0 (lv' := [(0, .ref (h0 + t)), (1, .int p1), (2, .int p2), (3, .int p3)]) rfl ?_
  refine tj_aload_n (q := 1) dX12_lie_0 rfl (i := 0) rfl (pl := 0) rfl ?_
  refine tj_iload_n (q := 2) dX12_lie_1 rfl (i := 1) rfl (pl := 1) rfl ?_
  refine tj_callZp (q := 5) (kj_V (As := [.int p1]) (rest := []) (t := t) wi_RX12_453 (hT).s rfl (rX12_isHouse t p1 (hT)) rfl (Nat.le_of_ble_eq_true rfl) ⟨Nat.le_of_ble_eq_true rfl, Nat.le_of_ble_eq_true rfl⟩ (Nat.le_of_ble_eq_true rfl) dX12_lie_2) rfl (fun r1 => ?_)
  refine tj_bz (tgt := 26) (q := 8) dX12_lie_5 (by decide) rfl ?_ ?_
  · refine tj_iload_n (q := 9) dX12_lie_8 rfl (i := 2) rfl (pl := 2) rfl ?_
    refine tj_iconst (q := 10) (v := 1) dX12_lie_9 rfl (by decide) ?_
    refine tj_iconst (q := 11) (v := 4) dX12_lie_10 rfl (by decide) ?_
    refine tj_callZp (q := 14) (kj_S (As := [.int p2, .int (1 : Int32), .int (4 : Int32)]) (rest := []) wi_RX12_446 (rX12_isIn p2 (1 : Int32) (4 : Int32)) rfl (Nat.le_of_ble_eq_true rfl) ⟨Nat.le_of_ble_eq_true rfl, Nat.le_of_ble_eq_true rfl⟩ (Nat.le_of_ble_eq_true rfl) dX12_lie_11) rfl (fun r2 => ?_)
    refine tj_bz (tgt := 26) (q := 17) dX12_lie_14 (by decide) rfl ?_ ?_
    · refine tj_iload_n (q := 18) dX12_lie_17 rfl (i := 3) rfl (pl := 3) rfl ?_
      refine tj_iconst (q := 19) (v := 0) dX12_lie_18 rfl (by decide) ?_
      refine tj_iconst (q := 20) (v := 2) dX12_lie_19 rfl (by decide) ?_
      refine tj_callZp (q := 23) (kj_S (As := [.int p3, .int (0 : Int32), .int (2 : Int32)]) (rest := []) wi_RX12_446 (rX12_isIn p3 (0 : Int32) (2 : Int32)) rfl (Nat.le_of_ble_eq_true rfl) ⟨Nat.le_of_ble_eq_true rfl, Nat.le_of_ble_eq_true rfl⟩ (Nat.le_of_ble_eq_true rfl) dX12_lie_20) rfl (fun r3 => ?_)
      refine tj_bnz (tgt := 29) (q := 26) dX12_lie_23 (by decide) rfl ?_ ?_
      · refine tj_aload_n (q := 30) dX12_lie_29 rfl (i := 0) rfl (pl := 0) rfl ?_
        refine tj_iload_n (q := 31) dX12_lie_30 rfl (i := 1) rfl (pl := 1) rfl ?_
        refine tj_iload_n (q := 32) dX12_lie_31 rfl (i := 2) rfl (pl := 2) rfl ?_
        refine tj_callI (q := 35) (kj_V (As := [.int p1, .int p2]) (rest := []) (t := t) wi_RX12_590 (hT).s rfl (rX12_hasThen t p1 p2 (hT)) rfl (Nat.le_of_ble_eq_true rfl) ⟨Nat.le_of_ble_eq_true rfl, Nat.le_of_ble_eq_true rfl⟩ (Nat.le_of_ble_eq_true rfl) dX12_lie_32) rfl (fun r4 => ?_)
        refine tj_istore (q := 37) dX12_lie_35 rfl (by decide) rfl ?_
        refine tj_iconst (q := 38) (v := (-1)) dX12_lie_37 rfl (by decide) ?_
        refine tj_istore (q := 40) dX12_lie_38 rfl (by decide) rfl ?_
        refine tj_iconst (q := 41) (v := (-1)) dX12_lie_40 rfl (by decide) ?_
        refine tj_istore (q := 43) dX12_lie_41 rfl (by decide) rfl ?_
        refine tj_aload_n (q := 44) dX12_lie_43 rfl (i := 0) rfl (pl := 3) rfl ?_
        refine tj_iload_n (q := 45) dX12_lie_44 rfl (i := 1) rfl (pl := 4) rfl ?_
        refine tj_putI (q := 48) (hT).s fok_12_65 tok_12 fpk_12_65 wl_RX12_111 dX12_lie_45 rfl (fun σ5 => ?_)
        refine tj_iconst (q := 49) (v := 0) dX12_lie_48 rfl (by decide) ?_
        refine tj_istore (q := 51) dX12_lie_49 rfl (by decide) rfl ?_
        refine tj_lv [4, 5, 6, 7, 3, 2, 1, 0] rfl ?_
        refine tmX12_lie_L51 t hT p1 p2 p3 _ ?_ FU r4.1 (-1 : Int32) (-1 : Int32) (0 : Int32) σ5
        · intro y18 y19 y20 σ21
          refine tj_aload_n (q := 125) dX12_lie_124 rfl (i := 0) rfl (pl := 0) rfl ?_
          refine tj_iconst (q := 126) (v := (-1)) dX12_lie_125 rfl (by decide) ?_
          refine tj_putI (q := 129) (hT).s fok_12_65 tok_12 fpk_12_65 wl_RX12_111 dX12_lie_126 rfl (fun σ22 => ?_)
          refine tj_aload_n (q := 130) dX12_lie_129 rfl (i := 0) rfl (pl := 0) rfl ?_
          refine tj_iconst (q := 131) (v := (-1)) dX12_lie_130 rfl (by decide) ?_
          refine tj_putI (q := 134) (hT).s fok_12_64 tok_12 fpk_12_64 wl_RX12_108 dX12_lie_131 rfl (fun σ23 => ?_)
          refine tj_iload_n (q := 135) dX12_lie_134 rfl (i := 3) rfl (pl := 1) rfl ?_
          refine tj_if_ne (tgt := 143) (q := 138) dX12_lie_135 (by decide) rfl ?_ ?_
          · refine tj_iload (q := 140) dX12_lie_138 rfl (pl := 2) rfl ?_
            refine tj_goto (q := 155) dX12_lie_140 (by decide) ?_
            exact tj_iret rfl rfl (Nat.le_of_ble_eq_true rfl) (Nat.le_of_ble_eq_true rfl) dX12_lie_155
          · refine tj_iload_n (q := 144) dX12_lie_143 rfl (i := 3) rfl (pl := 1) rfl ?_
            refine tj_iconst (q := 145) (v := 1) dX12_lie_144 rfl (by decide) ?_
            refine tj_icmp_ne (tgt := 153) (q := 148) dX12_lie_145 (by decide) rfl ?_ ?_
            · refine tj_iload (q := 150) dX12_lie_148 rfl (pl := 3) rfl ?_
              refine tj_goto (q := 155) dX12_lie_150 (by decide) ?_
              exact tj_iret rfl rfl (Nat.le_of_ble_eq_true rfl) (Nat.le_of_ble_eq_true rfl) dX12_lie_155
            · refine tj_iload (q := 155) dX12_lie_153 rfl (pl := 4) rfl ?_
              exact tj_iret rfl rfl (Nat.le_of_ble_eq_true rfl) (Nat.le_of_ble_eq_true rfl) dX12_lie_155
      · refine tj_bipush (q := 28) (v := (-2)) dX12_lie_26 rfl (by decide) ?_
        exact tj_iret rfl rfl (Nat.le_of_ble_eq_true rfl) (Nat.le_of_ble_eq_true rfl) dX12_lie_28
    · refine tj_bipush (q := 28) (v := (-2)) dX12_lie_26 rfl (by decide) ?_
      exact tj_iret rfl rfl (Nat.le_of_ble_eq_true rfl) (Nat.le_of_ble_eq_true rfl) dX12_lie_28
  · refine tj_bipush (q := 28) (v := (-2)) dX12_lie_26 rfl (by decide) ?_
    exact tj_iret rfl rfl (Nat.le_of_ble_eq_true rfl) (Nat.le_of_ble_eq_true rfl) dX12_lie_28

theorem dX12_isBettered_0 : decode cX12_isBettered 0 = .ok (.iconst 0, 1) := by decide +kernel
theorem dX12_isBettered_1 : decode cX12_isBettered 1 = .ok (.istore_n 3, 1) := by decide +kernel
theorem dX12_isBettered_2 : decode cX12_isBettered 2 = .ok (.iconst 0, 1) := by decide +kernel
theorem dX12_isBettered_3 : decode cX12_isBettered 3 = .ok (.istore 4, 2) := by decide +kernel
theorem dX12_isBettered_5 : decode cX12_isBettered 5 = .ok (.iload 4, 2) := by decide +kernel
theorem dX12_isBettered_7 : decode cX12_isBettered 7 = .ok (.aload_n 0, 1) := by decide +kernel
theorem dX12_isBettered_8 : decode cX12_isBettered 8 = .ok (.getfield 425, 3) := by decide +kernel
theorem dX12_isBettered_11 : decode cX12_isBettered 11 = .ok (.if_icmp .ge 94, 3) := by decide +kernel
theorem dX12_isBettered_14 : decode cX12_isBettered 14 = .ok (.iload_n 3, 1) := by decide +kernel
theorem dX12_isBettered_15 : decode cX12_isBettered 15 = .ok (.ifCond .ne 90, 3) := by decide +kernel
theorem dX12_isBettered_18 : decode cX12_isBettered 18 = .ok (.aload_n 0, 1) := by decide +kernel
theorem dX12_isBettered_19 : decode cX12_isBettered 19 = .ok (.bipush 10, 2) := by decide +kernel
theorem dX12_isBettered_21 : decode cX12_isBettered 21 = .ok (.iload 4, 2) := by decide +kernel
theorem dX12_isBettered_23 : decode cX12_isBettered 23 = .ok (.iadd, 1) := by decide +kernel
theorem dX12_isBettered_24 : decode cX12_isBettered 24 = .ok (.invokevirtual 469, 3) := by decide +kernel
theorem dX12_isBettered_27 : decode cX12_isBettered 27 = .ok (.istore 5, 2) := by decide +kernel
theorem dX12_isBettered_29 : decode cX12_isBettered 29 = .ok (.iconst 1, 1) := by decide +kernel
theorem dX12_isBettered_30 : decode cX12_isBettered 30 = .ok (.istore 6, 2) := by decide +kernel
theorem dX12_isBettered_32 : decode cX12_isBettered 32 = .ok (.iload 6, 2) := by decide +kernel
theorem dX12_isBettered_34 : decode cX12_isBettered 34 = .ok (.sipush 1024, 3) := by decide +kernel
theorem dX12_isBettered_37 : decode cX12_isBettered 37 = .ok (.if_icmp .ge 62, 3) := by decide +kernel
theorem dX12_isBettered_40 : decode cX12_isBettered 40 = .ok (.iload_n 3, 1) := by decide +kernel
theorem dX12_isBettered_41 : decode cX12_isBettered 41 = .ok (.ifCond .ne 58, 3) := by decide +kernel
theorem dX12_isBettered_44 : decode cX12_isBettered 44 = .ok (.iload 6, 2) := by decide +kernel
theorem dX12_isBettered_46 : decode cX12_isBettered 46 = .ok (.iload 5, 2) := by decide +kernel
theorem dX12_isBettered_48 : decode cX12_isBettered 48 = .ok (.iconst (-1), 1) := by decide +kernel
theorem dX12_isBettered_49 : decode cX12_isBettered 49 = .ok (.ixor, 1) := by decide +kernel
theorem dX12_isBettered_50 : decode cX12_isBettered 50 = .ok (.iand, 1) := by decide +kernel
theorem dX12_isBettered_51 : decode cX12_isBettered 51 = .ok (.ifCond .ne 40, 3) := by decide +kernel
theorem dX12_isBettered_54 : decode cX12_isBettered 54 = .ok (.iload 6, 2) := by decide +kernel
theorem dX12_isBettered_56 : decode cX12_isBettered 56 = .ok (.invokestatic 475, 3) := by decide +kernel
theorem dX12_isBettered_59 : decode cX12_isBettered 59 = .ok (.iconst 3, 1) := by decide +kernel
theorem dX12_isBettered_60 : decode cX12_isBettered 60 = .ok (.if_icmp .ge 31, 3) := by decide +kernel
theorem dX12_isBettered_63 : decode cX12_isBettered 63 = .ok (.aload_n 0, 1) := by decide +kernel
theorem dX12_isBettered_64 : decode cX12_isBettered 64 = .ok (.iload_n 1, 1) := by decide +kernel
theorem dX12_isBettered_65 : decode cX12_isBettered 65 = .ok (.iconst 1, 1) := by decide +kernel
theorem dX12_isBettered_66 : decode cX12_isBettered 66 = .ok (.iload_n 2, 1) := by decide +kernel
theorem dX12_isBettered_67 : decode cX12_isBettered 67 = .ok (.ishl, 1) := by decide +kernel
theorem dX12_isBettered_68 : decode cX12_isBettered 68 = .ok (.iload 6, 2) := by decide +kernel
theorem dX12_isBettered_70 : decode cX12_isBettered 70 = .ok (.aload_n 0, 1) := by decide +kernel
theorem dX12_isBettered_71 : decode cX12_isBettered 71 = .ok (.getfield 456, 3) := by decide +kernel
theorem dX12_isBettered_74 : decode cX12_isBettered 74 = .ok (.aload_n 0, 1) := by decide +kernel
theorem dX12_isBettered_75 : decode cX12_isBettered 75 = .ok (.getfield 93, 3) := by decide +kernel
theorem dX12_isBettered_78 : decode cX12_isBettered 78 = .ok (.iload 4, 2) := by decide +kernel
theorem dX12_isBettered_80 : decode cX12_isBettered 80 = .ok (.iaload, 1) := by decide +kernel
theorem dX12_isBettered_81 : decode cX12_isBettered 81 = .ok (.invokevirtual 517, 3) := by decide +kernel
theorem dX12_isBettered_84 : decode cX12_isBettered 84 = .ok (.ifCond .eq 7, 3) := by decide +kernel
theorem dX12_isBettered_87 : decode cX12_isBettered 87 = .ok (.iconst 1, 1) := by decide +kernel
theorem dX12_isBettered_88 : decode cX12_isBettered 88 = .ok (.goto 4, 3) := by decide +kernel
theorem dX12_isBettered_91 : decode cX12_isBettered 91 = .ok (.iconst 0, 1) := by decide +kernel
theorem dX12_isBettered_92 : decode cX12_isBettered 92 = .ok (.istore_n 3, 1) := by decide +kernel
theorem dX12_isBettered_93 : decode cX12_isBettered 93 = .ok (.iinc 6 1, 3) := by decide +kernel
theorem dX12_isBettered_96 : decode cX12_isBettered 96 = .ok (.goto (-64), 3) := by decide +kernel
theorem dX12_isBettered_99 : decode cX12_isBettered 99 = .ok (.iinc 4 1, 3) := by decide +kernel
theorem dX12_isBettered_102 : decode cX12_isBettered 102 = .ok (.goto (-97), 3) := by decide +kernel
theorem dX12_isBettered_105 : decode cX12_isBettered 105 = .ok (.iload_n 3, 1) := by decide +kernel
theorem dX12_isBettered_106 : decode cX12_isBettered 106 = .ok (.ireturn, 1) := by decide +kernel
def mX12_isBettered_L32 (t : Nat) (x1 : Int32) (x2 : Int32) (x4 : Int32) (x5 : Int32) (k99 : Bool → St_ → Option (Bool × St_)) : Nat → Bool → Int32 → St_ → Option (Bool × St_)
  | 0, _, _, _ => none
  | n + 1, x3, x6, σ => (if (1024 : Int32) ≤ x6 then
 (k99 x3 σ)
 else (if x3 = true then
 (k99 x3 σ)
 else (bnd (fun (j2 : Bool) (σ3 : St_) => (mX12_isBettered_L32 t x1 x2 x4 x5 k99 n j2 (x6 + 1) σ3)) fun k4 =>
 (bnd (fun (σ6 : St_) => (k4 false σ6)) fun k7 =>
 (if (x6 &&& (x5 ^^^ (-1 : Int32))) = 0 then
 ((mX12_members x6 σ).bind fun r9 =>
 (if (3 : Int32) ≤ r9 then
 (k7 σ)
 else (if bin x4 4 = true then bnd (σ.1 (t + 27) x4.toNatClampNeg) fun v10 =>
 ((mX12_isLawful t x1 ((1 : Int32) <<< (x2 &&& 31)) x6 (σ.1 t 62) v10 σ).bind fun r11 =>
 (if r11.1 = true then
 (k4 true r11.2)
 else (k7 r11.2)))
 else none)))
 else (k7 σ))))))
def mX12_isBettered_L5 (t : Nat) (x1 : Int32) (x2 : Int32) : Nat → Bool → Int32 → St_ → Option (Bool × St_)
  | 0, _, _, _ => none
  | n + 1, x3, x4, σ => (if (σ.1 t 54) ≤ x4 then
 (some (x3, σ))
 else (if x3 = true then
 (some (x3, σ))
 else ((mX12_hasAt t ((10 : Int32) + x4) σ).bind fun r1 =>
 (mX12_isBettered_L32 t x1 x2 x4 r1
 (fun (y12 : Bool) (σ13 : St_) => (mX12_isBettered_L5 t x1 x2 n y12 (x4 + 1) σ13)) FU x3 (1 : Int32) σ))))
def mX12_isBettered (t : Nat) (p1 : Int32) (p2 : Int32) (σ : St_) : Option (Bool × St_) :=
 (mX12_isBettered_L5 t p1 p2 FU false (0 : Int32) σ)
set_option maxHeartbeats 4000000 in
theorem tmX12_isBettered_L32 (t : Nat) (hT : LY12 sh P t) (x1 : Int32) (x2 : Int32) (x4 : Int32) (x5 : Int32) (k99 : Bool → St_ → Option (Bool × St_)) (hk99 : ∀ (y3 : Bool) (σ1 : St_), Tj l D cA h0 ad RX12 cX12_isBettered 7 (some .boolean) false 6 0 0 (fun b => (some (.int (b2i b.1)), sh, P, b.2)) 0 0 sh P σ1 99 [(0, .ref (h0 + t)), (1, .int x1), (2, .int x2), (3, .int (b2i y3)), (4, .int x4)] [] (k99 y3 σ1)) : ∀ (n : Nat) (x3 : Bool) (x6 : Int32) (σ : St_), Tj l D cA h0 ad RX12 cX12_isBettered 7 (some .boolean) false 6 0 0 (fun b => (some (.int (b2i b.1)), sh, P, b.2)) 0 0 sh P σ 32 [(0, .ref (h0 + t)), (1, .int x1), (2, .int x2), (3, .int (b2i x3)), (4, .int x4), (5, .int x5), (6, .int x6)] [] (mX12_isBettered_L32 t x1 x2 x4 x5 k99 n x3 x6 σ) := by
  intro n
  induction n with
  | zero => intros; exact tj_none
  | succ n ih =>
    intro x3 x6 σ
    rw [mX12_isBettered_L32]
    refine tj_iload (q := 34) dX12_isBettered_32 rfl (pl := 6) rfl ?_
    refine tj_sipush (q := 37) (v := 1024) dX12_isBettered_34 rfl (by decide) ?_
    refine tj_icmp_ge (tgt := 99) (q := 40) dX12_isBettered_37 (by decide) rfl ?_ ?_
    · refine tj_lv [0, 1, 2, 3, 4] rfl ?_
      exact hk99 x3 σ
    · refine tj_iload_n (q := 41) dX12_isBettered_40 rfl (i := 3) rfl (pl := 3) rfl ?_
      refine tj_bnz (tgt := 99) (q := 44) dX12_isBettered_41 (by decide) rfl ?_ ?_
      · refine tj_lv [0, 1, 2, 3, 4] rfl ?_
        exact hk99 x3 σ
      · refine tj_iload (q := 46) dX12_isBettered_44 rfl (pl := 6) rfl ?_
        refine tj_iload (q := 48) dX12_isBettered_46 rfl (pl := 5) rfl ?_
        refine tj_iconst (q := 49) (v := (-1)) dX12_isBettered_48 rfl (by decide) ?_
        refine tj_ixor (q := 50) dX12_isBettered_49 rfl ?_
        refine tj_iand (q := 51) dX12_isBettered_50 rfl ?_
        refine tj_bnd (fun k4 => ∀ (j2 : Bool) (σ3 : St_), Tj l D cA h0 ad RX12 cX12_isBettered 7 (some .boolean) false 6 0 0 (fun b => (some (.int (b2i b.1)), sh, P, b.2)) 0 0 sh P σ3 92 [(0, .ref (h0 + t)), (1, .int x1), (2, .int x2), (4, .int x4), (5, .int x5), (6, .int x6)] [.int (b2i j2)] (k4 j2 σ3)) ?_ (fun k4 hk5 => ?_)
        · intro j2 σ3
          refine tj_istore_n (q := 93) dX12_isBettered_92 rfl (i := 3) rfl (by decide) rfl ?_
          refine tj_iinc (q := 96) (v := x6 + 1) dX12_isBettered_93 rfl (pl := 6) rfl rfl (by decide) rfl ?_
          refine tj_goto (q := 32) dX12_isBettered_96 (by decide) ?_
          refine tj_lv [2, 3, 4, 1, 5, 6, 0] rfl ?_
          exact ih j2 (x6 + 1) σ3
        · refine tj_bnd (fun k7 => ∀ (σ6 : St_), Tj l D cA h0 ad RX12 cX12_isBettered 7 (some .boolean) false 6 0 0 (fun b => (some (.int (b2i b.1)), sh, P, b.2)) 0 0 sh P σ6 91 [(0, .ref (h0 + t)), (1, .int x1), (2, .int x2), (4, .int x4), (5, .int x5), (6, .int x6)] [] (k7 σ6)) ?_ (fun k7 hk8 => ?_)
          · intro σ6
            refine tj_iconst (q := 92) (v := 0) dX12_isBettered_91 rfl (by decide) ?_
            exact hk5 false σ6
          · refine tj_if_ne (tgt := 91) (q := 54) dX12_isBettered_51 (by decide) rfl ?_ ?_
            · refine tj_iload (q := 56) dX12_isBettered_54 rfl (pl := 6) rfl ?_
              refine tj_callIp (q := 59) (kj_S (As := [.int x6]) (rest := []) wi_RX12_475 (rX12_members x6) rfl (Nat.le_of_ble_eq_true rfl) ⟨Nat.le_of_ble_eq_true rfl, Nat.le_of_ble_eq_true rfl⟩ (Nat.le_of_ble_eq_true rfl) dX12_isBettered_56) rfl (fun r9 => ?_)
              refine tj_iconst (q := 60) (v := 3) dX12_isBettered_59 rfl (by decide) ?_
              refine tj_icmp_ge (tgt := 91) (q := 63) dX12_isBettered_60 (by decide) rfl ?_ ?_
              · refine tj_lv [0, 1, 2, 4, 5, 6] rfl ?_
                exact hk8 σ
              · refine tj_aload_n (q := 64) dX12_isBettered_63 rfl (i := 0) rfl (pl := 0) rfl ?_
                refine tj_iload_n (q := 65) dX12_isBettered_64 rfl (i := 1) rfl (pl := 1) rfl ?_
                refine tj_iconst (q := 66) (v := 1) dX12_isBettered_65 rfl (by decide) ?_
                refine tj_iload_n (q := 67) dX12_isBettered_66 rfl (i := 2) rfl (pl := 2) rfl ?_
                refine tj_ishl (q := 68) dX12_isBettered_67 rfl ?_
                refine tj_iload (q := 70) dX12_isBettered_68 rfl (pl := 6) rfl ?_
                refine tj_aload_n (q := 71) dX12_isBettered_70 rfl (i := 0) rfl (pl := 0) rfl ?_
                refine tj_getI (q := 74) (hT).s fok_12_62 wl_RX12_456 dX12_isBettered_71 rfl ?_
                refine tj_aload_n (q := 75) dX12_isBettered_74 rfl (i := 0) rfl (pl := 0) rfl ?_
                refine tj_getR (q := 78) (hT).s (hT).p_skill fok_12_43 wl_RX12_93 dX12_isBettered_75 rfl ?_
                refine tj_iload (q := 80) dX12_isBettered_78 rfl (pl := 4) rfl ?_
                refine tj_iaload (q := 81) (hT).s_skill dX12_isBettered_80 rfl ?_
                refine tj_topI (fun v10 => ?_)
                refine tj_callZ (q := 84) (kj_V (As := [.int x1, .int ((1 : Int32) <<< (x2 &&& 31)), .int x6, .int (σ.1 t 62), .int v10]) (rest := []) (t := t) wi_RX12_517 (hT).s rfl (rX12_isLawful t x1 ((1 : Int32) <<< (x2 &&& 31)) x6 (σ.1 t 62) v10 (hT)) rfl (Nat.le_of_ble_eq_true rfl) ⟨Nat.le_of_ble_eq_true rfl, Nat.le_of_ble_eq_true rfl⟩ (Nat.le_of_ble_eq_true rfl) dX12_isBettered_81) rfl (fun r11 => ?_)
                refine tj_bz (tgt := 91) (q := 87) dX12_isBettered_84 (by decide) rfl ?_ ?_
                · refine tj_iconst (q := 88) (v := 1) dX12_isBettered_87 rfl (by decide) ?_
                  refine tj_goto (q := 92) dX12_isBettered_88 (by decide) ?_
                  refine tj_lv [0, 1, 2, 4, 5, 6] rfl ?_
                  exact hk5 true r11.2
                · refine tj_lv [0, 1, 2, 4, 5, 6] rfl ?_
                  exact hk8 r11.2
            · refine tj_lv [0, 1, 2, 4, 5, 6] rfl ?_
              exact hk8 σ

set_option maxHeartbeats 4000000 in
theorem tmX12_isBettered_L5 (t : Nat) (hT : LY12 sh P t) (x1 : Int32) (x2 : Int32) : ∀ (n : Nat) (x3 : Bool) (x4 : Int32) (σ : St_), Tj l D cA h0 ad RX12 cX12_isBettered 7 (some .boolean) false 6 0 0 (fun b => (some (.int (b2i b.1)), sh, P, b.2)) 0 0 sh P σ 5 [(0, .ref (h0 + t)), (1, .int x1), (2, .int x2), (3, .int (b2i x3)), (4, .int x4)] [] (mX12_isBettered_L5 t x1 x2 n x3 x4 σ) := by
  intro n
  induction n with
  | zero => intros; exact tj_none
  | succ n ih =>
    intro x3 x4 σ
    rw [mX12_isBettered_L5]
    refine tj_iload (q := 7) dX12_isBettered_5 rfl (pl := 4) rfl ?_
    refine tj_aload_n (q := 8) dX12_isBettered_7 rfl (i := 0) rfl (pl := 0) rfl ?_
    refine tj_getI (q := 11) (hT).s fok_12_54 wl_RX12_425 dX12_isBettered_8 rfl ?_
    refine tj_icmp_ge (tgt := 105) (q := 14) dX12_isBettered_11 (by decide) rfl ?_ ?_
    · refine tj_iload_n (q := 106) dX12_isBettered_105 rfl (i := 3) rfl (pl := 3) rfl ?_
      exact tj_zret rfl (nar_b2i _) rfl (Nat.le_of_ble_eq_true rfl) (Nat.le_of_ble_eq_true rfl) dX12_isBettered_106
    · refine tj_iload_n (q := 15) dX12_isBettered_14 rfl (i := 3) rfl (pl := 3) rfl ?_
      refine tj_bnz (tgt := 105) (q := 18) dX12_isBettered_15 (by decide) rfl ?_ ?_
      · refine tj_iload_n (q := 106) dX12_isBettered_105 rfl (i := 3) rfl (pl := 3) rfl ?_
        exact tj_zret rfl (nar_b2i _) rfl (Nat.le_of_ble_eq_true rfl) (Nat.le_of_ble_eq_true rfl) dX12_isBettered_106
      · refine tj_aload_n (q := 19) dX12_isBettered_18 rfl (i := 0) rfl (pl := 0) rfl ?_
        refine tj_bipush (q := 21) (v := 10) dX12_isBettered_19 rfl (by decide) ?_
        refine tj_iload (q := 23) dX12_isBettered_21 rfl (pl := 4) rfl ?_
        refine tj_iadd (q := 24) dX12_isBettered_23 rfl ?_
        refine tj_callIp (q := 27) (kj_V (As := [.int ((10 : Int32) + x4)]) (rest := []) (t := t) wi_RX12_469 (hT).s rfl (rX12_hasAt t ((10 : Int32) + x4) (hT)) rfl (Nat.le_of_ble_eq_true rfl) ⟨Nat.le_of_ble_eq_true rfl, Nat.le_of_ble_eq_true rfl⟩ (Nat.le_of_ble_eq_true rfl) dX12_isBettered_24) rfl (fun r1 => ?_)
        refine tj_istore (q := 29) dX12_isBettered_27 rfl (by decide) rfl ?_
        refine tj_iconst (q := 30) (v := 1) dX12_isBettered_29 rfl (by decide) ?_
        refine tj_istore (q := 32) dX12_isBettered_30 rfl (by decide) rfl ?_
        refine tj_lv [2, 3, 4, 5, 6, 1, 0] rfl ?_
        refine tmX12_isBettered_L32 t hT x1 x2 x4 r1 _ ?_ FU x3 (1 : Int32) σ
        · intro y12 σ13
          refine tj_iinc (q := 102) (v := x4 + 1) dX12_isBettered_99 rfl (pl := 4) rfl rfl (by decide) rfl ?_
          refine tj_goto (q := 5) dX12_isBettered_102 (by decide) ?_
          refine tj_lv [1, 2, 3, 4, 0] rfl ?_
          exact ih y12 (x4 + 1) σ13

set_option maxHeartbeats 4000000 in
theorem rX12_isBettered (t : Nat) (p1 : Int32) (p2 : Int32) (hT : LY12 sh P t) : Rj l D cA h0 ad yX12_isBettered cX12_isBettered 7 (some .boolean) false 6 0 0 (fun b => (some (.int (b2i b.1)), sh, P, b.2)) [.ref (h0 + t), .int p1, .int p2] sh P σ (mX12_isBettered t p1 p2 σ) := by
  rw [mX12_isBettered]
  refine Rj.of (by decide) (fun h => by cases h) (Nat.le_of_ble_eq_true rfl) ?_
  refine tj_lv0 (lv' := [(0, .ref (h0 + t)), (1, .int p1), (2, .int p2)]) rfl ?_
  refine tj_iconst (q := 1) (v := 0) dX12_isBettered_0 rfl (by decide) ?_
  refine tj_istore_n (q := 2) dX12_isBettered_1 rfl (i := 3) rfl (by decide) rfl ?_
  refine tj_iconst (q := 3) (v := 0) dX12_isBettered_2 rfl (by decide) ?_
  refine tj_istore (q := 5) dX12_isBettered_3 rfl (by decide) rfl ?_
  refine tj_lv [2, 3, 4, 1, 0] rfl ?_
  exact tmX12_isBettered_L5 t hT p1 p2 FU false (0 : Int32) σ

theorem dX12_unbettered_0 : decode cX12_unbettered 0 = .ok (.aload_n 0, 1) := by decide +kernel
theorem dX12_unbettered_1 : decode cX12_unbettered 1 = .ok (.iload_n 1, 1) := by decide +kernel
theorem dX12_unbettered_2 : decode cX12_unbettered 2 = .ok (.invokevirtual 453, 3) := by decide +kernel
theorem dX12_unbettered_5 : decode cX12_unbettered 5 = .ok (.ifCond .ne 5, 3) := by decide +kernel
theorem dX12_unbettered_8 : decode cX12_unbettered 8 = .ok (.iconst (-1), 1) := by decide +kernel
theorem dX12_unbettered_9 : decode cX12_unbettered 9 = .ok (.ireturn, 1) := by decide +kernel
theorem dX12_unbettered_10 : decode cX12_unbettered 10 = .ok (.aload_n 0, 1) := by decide +kernel
theorem dX12_unbettered_11 : decode cX12_unbettered 11 = .ok (.invokevirtual 497, 3) := by decide +kernel
theorem dX12_unbettered_14 : decode cX12_unbettered 14 = .ok (.iconst 0, 1) := by decide +kernel
theorem dX12_unbettered_15 : decode cX12_unbettered 15 = .ok (.istore_n 2, 1) := by decide +kernel
theorem dX12_unbettered_16 : decode cX12_unbettered 16 = .ok (.iconst 0, 1) := by decide +kernel
theorem dX12_unbettered_17 : decode cX12_unbettered 17 = .ok (.istore_n 3, 1) := by decide +kernel
theorem dX12_unbettered_18 : decode cX12_unbettered 18 = .ok (.iload_n 3, 1) := by decide +kernel
theorem dX12_unbettered_19 : decode cX12_unbettered 19 = .ok (.aload_n 0, 1) := by decide +kernel
theorem dX12_unbettered_20 : decode cX12_unbettered 20 = .ok (.getfield 419, 3) := by decide +kernel
theorem dX12_unbettered_23 : decode cX12_unbettered 23 = .ok (.if_icmp .ge 38, 3) := by decide +kernel
theorem dX12_unbettered_26 : decode cX12_unbettered 26 = .ok (.iload_n 2, 1) := by decide +kernel
theorem dX12_unbettered_27 : decode cX12_unbettered 27 = .ok (.aload_n 0, 1) := by decide +kernel
theorem dX12_unbettered_28 : decode cX12_unbettered 28 = .ok (.getfield 105, 3) := by decide +kernel
theorem dX12_unbettered_31 : decode cX12_unbettered 31 = .ok (.iload_n 3, 1) := by decide +kernel
theorem dX12_unbettered_32 : decode cX12_unbettered 32 = .ok (.iaload, 1) := by decide +kernel
theorem dX12_unbettered_33 : decode cX12_unbettered 33 = .ok (.iload_n 1, 1) := by decide +kernel
theorem dX12_unbettered_34 : decode cX12_unbettered 34 = .ok (.if_icmp .ne 18, 3) := by decide +kernel
theorem dX12_unbettered_37 : decode cX12_unbettered 37 = .ok (.aload_n 0, 1) := by decide +kernel
theorem dX12_unbettered_38 : decode cX12_unbettered 38 = .ok (.iload_n 1, 1) := by decide +kernel
theorem dX12_unbettered_39 : decode cX12_unbettered 39 = .ok (.iload_n 3, 1) := by decide +kernel
theorem dX12_unbettered_40 : decode cX12_unbettered 40 = .ok (.invokevirtual 593, 3) := by decide +kernel
theorem dX12_unbettered_43 : decode cX12_unbettered 43 = .ok (.ifCond .ne 9, 3) := by decide +kernel
theorem dX12_unbettered_46 : decode cX12_unbettered 46 = .ok (.iconst 1, 1) := by decide +kernel
theorem dX12_unbettered_47 : decode cX12_unbettered 47 = .ok (.iload_n 3, 1) := by decide +kernel
theorem dX12_unbettered_48 : decode cX12_unbettered 48 = .ok (.ishl, 1) := by decide +kernel
theorem dX12_unbettered_49 : decode cX12_unbettered 49 = .ok (.goto 4, 3) := by decide +kernel
theorem dX12_unbettered_52 : decode cX12_unbettered 52 = .ok (.iconst 0, 1) := by decide +kernel
theorem dX12_unbettered_53 : decode cX12_unbettered 53 = .ok (.ior, 1) := by decide +kernel
theorem dX12_unbettered_54 : decode cX12_unbettered 54 = .ok (.istore_n 2, 1) := by decide +kernel
theorem dX12_unbettered_55 : decode cX12_unbettered 55 = .ok (.iinc 3 1, 3) := by decide +kernel
theorem dX12_unbettered_58 : decode cX12_unbettered 58 = .ok (.goto (-40), 3) := by decide +kernel
theorem dX12_unbettered_61 : decode cX12_unbettered 61 = .ok (.iload_n 2, 1) := by decide +kernel
theorem dX12_unbettered_62 : decode cX12_unbettered 62 = .ok (.ireturn, 1) := by decide +kernel
theorem wm_X12_isBettered : Cond.instanceMethod yX12_isBettered ∈ TB ∧ Cond.selects yX12_isBettered.cls yX12_isBettered yX12_isBettered ∈ TB ∧ Cond.initialized yX12_isBettered.cls ∈ TB ∧ Cond.code yX12_isBettered cX12_isBettered 7 (some .boolean) ∈ TB ∧ (yX12_isBettered.cls ≠ "java/lang/invoke/MethodHandle" ∧ yX12_isBettered.cls ≠ "java/lang/invoke/VarHandle" ∧ (parseMethodDescriptor yX12_isBettered.desc).map (fun d => d.parameters.length) = some 2) ∧ 7 ≤ 21 := ⟨tbm 2120 (by decide +kernel) (by decide +kernel), tbm 125 (by decide +kernel) (by decide +kernel), tbm 146 (by decide +kernel) (by decide +kernel), tbm 2121 (by decide +kernel) (by decide +kernel), by decide +kernel, by decide⟩
theorem wi_RX12_593 : Iv RX12 593 yX12_isBettered cX12_isBettered 7 (some .boolean) 2 := ⟨tbm 2118 (by decide +kernel) (by decide +kernel), wm_X12_isBettered⟩
def mX12_unbettered_L18 (t : Nat) (x1 : Int32) : Nat → Int32 → Int32 → St_ → Option (Int32 × St_)
  | 0, _, _, _ => none
  | n + 1, x2, x3, σ => (if (σ.1 t 52) ≤ x3 then
 (some (x2, σ))
 else (if bin x3 10 = true then bnd (σ.1 (t + 30) x3.toNatClampNeg) fun v3 =>
 (bnd (fun (j4 : Int32) (σ5 : St_) => (bnd (x2 ||| j4) fun v8 =>
 (mX12_unbettered_L18 t x1 n v8 (x3 + 1) σ5))) fun k6 =>
 (bnd (fun (σ9 : St_) => (k6 (0 : Int32) σ9)) fun k10 =>
 (if v3 = x1 then
 ((mX12_isBettered t x1 x3 σ).bind fun r12 =>
 (if r12.1 = true then
 (k10 r12.2)
 else (k6 ((1 : Int32) <<< (x3 &&& 31)) r12.2)))
 else (k10 σ))))
 else none))
def mX12_unbettered (t : Nat) (p1 : Int32) (σ : St_) : Option (Int32 × St_) :=
 ((mX12_isHouse t p1 σ).bind fun r1 =>
 (if r1 = true then
 ((mX12_load t σ).bind fun σ2 =>
 (mX12_unbettered_L18 t p1 FU (0 : Int32) (0 : Int32) σ2))
 else (some ((-1 : Int32), σ))))
set_option maxHeartbeats 4000000 in
theorem tmX12_unbettered_L18 (t : Nat) (hT : LY12 sh P t) (x1 : Int32) : ∀ (n : Nat) (x2 : Int32) (x3 : Int32) (σ : St_), Tj l D cA h0 ad RX12 cX12_unbettered 4 (some .int) false 7 0 0 (fun b => (some (.int b.1), sh, P, b.2)) 0 0 sh P σ 18 [(0, .ref (h0 + t)), (1, .int x1), (2, .int x2), (3, .int x3)] [] (mX12_unbettered_L18 t x1 n x2 x3 σ) := by
  intro n
  induction n with
  | zero => intros; exact tj_none
  | succ n ih =>
    intro x2 x3 σ
    rw [mX12_unbettered_L18]
    refine tj_iload_n (q := 19) dX12_unbettered_18 rfl (i := 3) rfl (pl := 3) rfl ?_
    refine tj_aload_n (q := 20) dX12_unbettered_19 rfl (i := 0) rfl (pl := 0) rfl ?_
    refine tj_getI (q := 23) (hT).s fok_12_52 wl_RX12_419 dX12_unbettered_20 rfl ?_
    refine tj_icmp_ge (tgt := 61) (q := 26) dX12_unbettered_23 (by decide) rfl ?_ ?_
    · refine tj_iload_n (q := 62) dX12_unbettered_61 rfl (i := 2) rfl (pl := 2) rfl ?_
      exact tj_iret rfl rfl (Nat.le_of_ble_eq_true rfl) (Nat.le_of_ble_eq_true rfl) dX12_unbettered_62
    · refine tj_iload_n (q := 27) dX12_unbettered_26 rfl (i := 2) rfl (pl := 2) rfl ?_
      refine tj_aload_n (q := 28) dX12_unbettered_27 rfl (i := 0) rfl (pl := 0) rfl ?_
      refine tj_getR (q := 31) (hT).s (hT).p_w fok_12_61 wl_RX12_105 dX12_unbettered_28 rfl ?_
      refine tj_iload_n (q := 32) dX12_unbettered_31 rfl (i := 3) rfl (pl := 3) rfl ?_
      refine tj_iaload (q := 33) (hT).s_w dX12_unbettered_32 rfl ?_
      refine tj_topI (fun v3 => ?_)
      refine tj_iload_n (q := 34) dX12_unbettered_33 rfl (i := 1) rfl (pl := 1) rfl ?_
      refine tj_bnd (fun k6 => ∀ (j4 : Int32) (σ5 : St_), Tj l D cA h0 ad RX12 cX12_unbettered 4 (some .int) false 7 0 0 (fun b => (some (.int b.1), sh, P, b.2)) 0 0 sh P σ5 53 [(0, .ref (h0 + t)), (1, .int x1), (3, .int x3)] [.int j4, .int x2] (k6 j4 σ5)) ?_ (fun k6 hk7 => ?_)
      · intro j4 σ5
        refine tj_ior (q := 54) dX12_unbettered_53 rfl ?_
        refine tj_topI (fun v8 => ?_)
        refine tj_istore_n (q := 55) dX12_unbettered_54 rfl (i := 2) rfl (by decide) rfl ?_
        refine tj_iinc (q := 58) (v := x3 + 1) dX12_unbettered_55 rfl (pl := 3) rfl rfl (by decide) rfl ?_
        refine tj_goto (q := 18) dX12_unbettered_58 (by decide) ?_
        refine tj_lv [2, 3, 1, 0] rfl ?_
        exact ih v8 (x3 + 1) σ5
      · refine tj_bnd (fun k10 => ∀ (σ9 : St_), Tj l D cA h0 ad RX12 cX12_unbettered 4 (some .int) false 7 0 0 (fun b => (some (.int b.1), sh, P, b.2)) 0 0 sh P σ9 52 [(0, .ref (h0 + t)), (1, .int x1), (3, .int x3)] [.int x2] (k10 σ9)) ?_ (fun k10 hk11 => ?_)
        · intro σ9
          refine tj_iconst (q := 53) (v := 0) dX12_unbettered_52 rfl (by decide) ?_
          exact hk7 (0 : Int32) σ9
        · refine tj_icmp_ne (tgt := 52) (q := 37) dX12_unbettered_34 (by decide) rfl ?_ ?_
          · refine tj_aload_n (q := 38) dX12_unbettered_37 rfl (i := 0) rfl (pl := 0) rfl ?_
            refine tj_iload_n (q := 39) dX12_unbettered_38 rfl (i := 1) rfl (pl := 1) rfl ?_
            refine tj_iload_n (q := 40) dX12_unbettered_39 rfl (i := 3) rfl (pl := 3) rfl ?_
            refine tj_callZ (q := 43) (kj_V (As := [.int x1, .int x3]) (rest := [.int x2]) (t := t) wi_RX12_593 (hT).s rfl (rX12_isBettered t x1 x3 (hT)) rfl (Nat.le_of_ble_eq_true rfl) ⟨Nat.le_of_ble_eq_true rfl, Nat.le_of_ble_eq_true rfl⟩ (Nat.le_of_ble_eq_true rfl) dX12_unbettered_40) rfl (fun r12 => ?_)
            refine tj_bnz (tgt := 52) (q := 46) dX12_unbettered_43 (by decide) rfl ?_ ?_
            · refine tj_lv [0, 1, 3] rfl ?_
              exact hk11 r12.2
            · refine tj_iconst (q := 47) (v := 1) dX12_unbettered_46 rfl (by decide) ?_
              refine tj_iload_n (q := 48) dX12_unbettered_47 rfl (i := 3) rfl (pl := 3) rfl ?_
              refine tj_ishl (q := 49) dX12_unbettered_48 rfl ?_
              refine tj_goto (q := 53) dX12_unbettered_49 (by decide) ?_
              refine tj_lv [0, 1, 3] rfl ?_
              exact hk7 ((1 : Int32) <<< (x3 &&& 31)) r12.2
          · refine tj_lv [0, 1, 3] rfl ?_
            exact hk11 σ

set_option maxHeartbeats 4000000 in
theorem rX12_unbettered (t : Nat) (p1 : Int32) (hT : LY12 sh P t) : Rj l D cA h0 ad yX12_unbettered cX12_unbettered 4 (some .int) false 7 0 0 (fun b => (some (.int b.1), sh, P, b.2)) [.ref (h0 + t), .int p1] sh P σ (mX12_unbettered t p1 σ) := by
  rw [mX12_unbettered]
  refine Rj.of (by decide) (fun h => by cases h) (Nat.le_of_ble_eq_true rfl) ?_
  refine tj_lv0 (lv' := [(0, .ref (h0 + t)), (1, .int p1)]) rfl ?_
  refine tj_aload_n (q := 1) dX12_unbettered_0 rfl (i := 0) rfl (pl := 0) rfl ?_
  refine tj_iload_n (q := 2) dX12_unbettered_1 rfl (i := 1) rfl (pl := 1) rfl ?_
  refine tj_callZp (q := 5) (kj_V (As := [.int p1]) (rest := []) (t := t) wi_RX12_453 (hT).s rfl (rX12_isHouse t p1 (hT)) rfl (Nat.le_of_ble_eq_true rfl) ⟨Nat.le_of_ble_eq_true rfl, Nat.le_of_ble_eq_true rfl⟩ (Nat.le_of_ble_eq_true rfl) dX12_unbettered_2) rfl (fun r1 => ?_)
  refine tj_bnz (tgt := 10) (q := 8) dX12_unbettered_5 (by decide) rfl ?_ ?_
  · refine tj_aload_n (q := 11) dX12_unbettered_10 rfl (i := 0) rfl (pl := 0) rfl ?_
    refine tj_callV (q := 14) (kj_V (As := []) (rest := []) (t := t) wi_RX12_497 (hT).s rfl (rX12_load t (hT)) rfl (Nat.le_of_ble_eq_true rfl) ⟨Nat.le_of_ble_eq_true rfl, Nat.le_of_ble_eq_true rfl⟩ (Nat.le_of_ble_eq_true rfl) dX12_unbettered_11) rfl (fun σ2 => ?_)
    refine tj_iconst (q := 15) (v := 0) dX12_unbettered_14 rfl (by decide) ?_
    refine tj_istore_n (q := 16) dX12_unbettered_15 rfl (i := 2) rfl (by decide) rfl ?_
    refine tj_iconst (q := 17) (v := 0) dX12_unbettered_16 rfl (by decide) ?_
    refine tj_istore_n (q := 18) dX12_unbettered_17 rfl (i := 3) rfl (by decide) rfl ?_
    refine tj_lv [2, 3, 1, 0] rfl ?_
    exact tmX12_unbettered_L18 t hT p1 FU (0 : Int32) (0 : Int32) σ2
  · refine tj_iconst (q := 9) (v := (-1)) dX12_unbettered_8 rfl (by decide) ?_
    exact tj_iret rfl rfl (Nat.le_of_ble_eq_true rfl) (Nat.le_of_ble_eq_true rfl) dX12_unbettered_9

theorem dX12_swapOf_0 : decode cX12_swapOf 0 = .ok (.sipush 10240, 3) := by decide +kernel
theorem dX12_swapOf_3 : decode cX12_swapOf 3 = .ok (.iload_n 0, 1) := by decide +kernel
theorem dX12_swapOf_4 : decode cX12_swapOf 4 = .ok (.imul, 1) := by decide +kernel
theorem dX12_swapOf_5 : decode cX12_swapOf 5 = .ok (.sipush 1024, 3) := by decide +kernel
theorem dX12_swapOf_8 : decode cX12_swapOf 8 = .ok (.iload_n 1, 1) := by decide +kernel
theorem dX12_swapOf_9 : decode cX12_swapOf 9 = .ok (.imul, 1) := by decide +kernel
theorem dX12_swapOf_10 : decode cX12_swapOf 10 = .ok (.iadd, 1) := by decide +kernel
theorem dX12_swapOf_11 : decode cX12_swapOf 11 = .ok (.iload_n 2, 1) := by decide +kernel
theorem dX12_swapOf_12 : decode cX12_swapOf 12 = .ok (.iadd, 1) := by decide +kernel
theorem dX12_swapOf_13 : decode cX12_swapOf 13 = .ok (.ireturn, 1) := by decide +kernel
def mX12_swapOf (p1 : Int32) (p2 : Int32) (p3 : Int32) (σ : St_) : Option Int32 :=
 (some ((((10240 : Int32) * p1) + ((1024 : Int32) * p2)) + p3))
set_option maxHeartbeats 4000000 in
theorem rX12_swapOf (p1 : Int32) (p2 : Int32) (p3 : Int32)  : Rj l D cA h0 ad yX12_swapOf cX12_swapOf 3 (some .int) false 2 0 0 (fun b => (some (.int b), sh, P, σ)) [.int p1, .int p2, .int p3] sh P σ (mX12_swapOf p1 p2 p3 σ) := by
  rw [mX12_swapOf]
  refine Rj.of (by decide) (fun h => by cases h) (Nat.le_of_ble_eq_true rfl) ?_
  refine tj_lv0 (lv' := [(0, .int p1), (1, .int p2), (2, .int p3)]) rfl ?_
  refine tj_sipush (q := 3) (v := 10240) dX12_swapOf_0 rfl (by decide) ?_
  refine tj_iload_n (q := 4) dX12_swapOf_3 rfl (i := 0) rfl (pl := 0) rfl ?_
  refine tj_imul (q := 5) dX12_swapOf_4 rfl ?_
  refine tj_sipush (q := 8) (v := 1024) dX12_swapOf_5 rfl (by decide) ?_
  refine tj_iload_n (q := 9) dX12_swapOf_8 rfl (i := 1) rfl (pl := 1) rfl ?_
  refine tj_imul (q := 10) dX12_swapOf_9 rfl ?_
  refine tj_iadd (q := 11) dX12_swapOf_10 rfl ?_
  refine tj_iload_n (q := 12) dX12_swapOf_11 rfl (i := 2) rfl (pl := 2) rfl ?_
  refine tj_iadd (q := 13) dX12_swapOf_12 rfl ?_
  exact tj_iret rfl rfl (Nat.le_of_ble_eq_true rfl) (Nat.le_of_ble_eq_true rfl) dX12_swapOf_13

theorem dX12_isLoophole_0 : decode cX12_isLoophole 0 = .ok (.aload_n 0, 1) := by decide +kernel
theorem dX12_isLoophole_1 : decode cX12_isLoophole 1 = .ok (.invokevirtual 497, 3) := by decide +kernel
theorem dX12_isLoophole_4 : decode cX12_isLoophole 4 = .ok (.aload_n 0, 1) := by decide +kernel
theorem dX12_isLoophole_5 : decode cX12_isLoophole 5 = .ok (.getfield 105, 3) := by decide +kernel
theorem dX12_isLoophole_8 : decode cX12_isLoophole 8 = .ok (.iload_n 3, 1) := by decide +kernel
theorem dX12_isLoophole_9 : decode cX12_isLoophole 9 = .ok (.iaload, 1) := by decide +kernel
theorem dX12_isLoophole_10 : decode cX12_isLoophole 10 = .ok (.iload_n 2, 1) := by decide +kernel
theorem dX12_isLoophole_11 : decode cX12_isLoophole 11 = .ok (.if_icmp .ne 34, 3) := by decide +kernel
theorem dX12_isLoophole_14 : decode cX12_isLoophole 14 = .ok (.aload_n 0, 1) := by decide +kernel
theorem dX12_isLoophole_15 : decode cX12_isLoophole 15 = .ok (.getfield 105, 3) := by decide +kernel
theorem dX12_isLoophole_18 : decode cX12_isLoophole 18 = .ok (.iload 4, 2) := by decide +kernel
theorem dX12_isLoophole_20 : decode cX12_isLoophole 20 = .ok (.iaload, 1) := by decide +kernel
theorem dX12_isLoophole_21 : decode cX12_isLoophole 21 = .ok (.bipush 10, 2) := by decide +kernel
theorem dX12_isLoophole_23 : decode cX12_isLoophole 23 = .ok (.iload_n 1, 1) := by decide +kernel
theorem dX12_isLoophole_24 : decode cX12_isLoophole 24 = .ok (.iadd, 1) := by decide +kernel
theorem dX12_isLoophole_25 : decode cX12_isLoophole 25 = .ok (.if_icmp .ne 20, 3) := by decide +kernel
theorem dX12_isLoophole_28 : decode cX12_isLoophole 28 = .ok (.aload_n 0, 1) := by decide +kernel
theorem dX12_isLoophole_29 : decode cX12_isLoophole 29 = .ok (.iload_n 1, 1) := by decide +kernel
theorem dX12_isLoophole_30 : decode cX12_isLoophole 30 = .ok (.iload_n 2, 1) := by decide +kernel
theorem dX12_isLoophole_31 : decode cX12_isLoophole 31 = .ok (.iload_n 3, 1) := by decide +kernel
theorem dX12_isLoophole_32 : decode cX12_isLoophole 32 = .ok (.iconst 1, 1) := by decide +kernel
theorem dX12_isLoophole_33 : decode cX12_isLoophole 33 = .ok (.iload 4, 2) := by decide +kernel
theorem dX12_isLoophole_35 : decode cX12_isLoophole 35 = .ok (.ishl, 1) := by decide +kernel
theorem dX12_isLoophole_36 : decode cX12_isLoophole 36 = .ok (.invokestatic 596, 3) := by decide +kernel
theorem dX12_isLoophole_39 : decode cX12_isLoophole 39 = .ok (.invokevirtual 537, 3) := by decide +kernel
theorem dX12_isLoophole_42 : decode cX12_isLoophole 42 = .ok (.ifCond .ne 5, 3) := by decide +kernel
theorem dX12_isLoophole_45 : decode cX12_isLoophole 45 = .ok (.iconst 0, 1) := by decide +kernel
theorem dX12_isLoophole_46 : decode cX12_isLoophole 46 = .ok (.ireturn, 1) := by decide +kernel
theorem dX12_isLoophole_47 : decode cX12_isLoophole 47 = .ok (.aload_n 0, 1) := by decide +kernel
theorem dX12_isLoophole_48 : decode cX12_isLoophole 48 = .ok (.iload_n 1, 1) := by decide +kernel
theorem dX12_isLoophole_49 : decode cX12_isLoophole 49 = .ok (.iload_n 2, 1) := by decide +kernel
theorem dX12_isLoophole_50 : decode cX12_isLoophole 50 = .ok (.iload_n 3, 1) := by decide +kernel
theorem dX12_isLoophole_51 : decode cX12_isLoophole 51 = .ok (.iconst 1, 1) := by decide +kernel
theorem dX12_isLoophole_52 : decode cX12_isLoophole 52 = .ok (.iload 4, 2) := by decide +kernel
theorem dX12_isLoophole_54 : decode cX12_isLoophole 54 = .ok (.ishl, 1) := by decide +kernel
theorem dX12_isLoophole_55 : decode cX12_isLoophole 55 = .ok (.invokestatic 596, 3) := by decide +kernel
theorem dX12_isLoophole_58 : decode cX12_isLoophole 58 = .ok (.invokevirtual 569, 3) := by decide +kernel
theorem dX12_isLoophole_61 : decode cX12_isLoophole 61 = .ok (.aload_n 0, 1) := by decide +kernel
theorem dX12_isLoophole_62 : decode cX12_isLoophole 62 = .ok (.iload_n 1, 1) := by decide +kernel
theorem dX12_isLoophole_63 : decode cX12_isLoophole 63 = .ok (.iload_n 2, 1) := by decide +kernel
theorem dX12_isLoophole_64 : decode cX12_isLoophole 64 = .ok (.iload 4, 2) := by decide +kernel
theorem dX12_isLoophole_66 : decode cX12_isLoophole 66 = .ok (.iconst 1, 1) := by decide +kernel
theorem dX12_isLoophole_67 : decode cX12_isLoophole 67 = .ok (.iload_n 3, 1) := by decide +kernel
theorem dX12_isLoophole_68 : decode cX12_isLoophole 68 = .ok (.ishl, 1) := by decide +kernel
theorem dX12_isLoophole_69 : decode cX12_isLoophole 69 = .ok (.invokestatic 596, 3) := by decide +kernel
theorem dX12_isLoophole_72 : decode cX12_isLoophole 72 = .ok (.invokevirtual 537, 3) := by decide +kernel
theorem dX12_isLoophole_75 : decode cX12_isLoophole 75 = .ok (.ireturn, 1) := by decide +kernel
theorem wm_X12_swapOf : Cond.static yX12_swapOf ∈ TB ∧ Cond.initialized yX12_swapOf.cls ∈ TB ∧ Cond.code yX12_swapOf cX12_swapOf 3 (some .int) ∈ TB ∧ (yX12_swapOf.cls ≠ "java/lang/invoke/MethodHandle" ∧ yX12_swapOf.cls ≠ "java/lang/invoke/VarHandle" ∧ (parseMethodDescriptor yX12_swapOf.desc).map (fun d => d.parameters.length) = some 3) ∧ 3 ≤ 21 := ⟨tbm 2131 (by decide +kernel) (by decide +kernel), tbm 146 (by decide +kernel) (by decide +kernel), tbm 2132 (by decide +kernel) (by decide +kernel), by decide +kernel, by decide⟩
theorem wi_RX12_596 : Is RX12 596 yX12_swapOf cX12_swapOf 3 (some .int) 3 := ⟨tbm 2130 (by decide +kernel) (by decide +kernel), wm_X12_swapOf⟩
def mX12_isLoophole (t : Nat) (p1 : Int32) (p2 : Int32) (p3 : Int32) (p4 : Int32) (σ : St_) : Option (Bool × St_) :=
 ((mX12_load t σ).bind fun σ1 =>
 (if bin p3 10 = true then bnd (σ1.1 (t + 30) p3.toNatClampNeg) fun v2 =>
 (if v2 = p2 then
 (if bin p4 10 = true then bnd (σ1.1 (t + 30) p4.toNatClampNeg) fun v3 =>
 (if v3 = ((10 : Int32) + p1) then
 ((mX12_swapOf p2 p3 ((1 : Int32) <<< (p4 &&& 31)) σ1).bind fun r4 =>
 ((mX12_isSwap t p1 r4 σ1).bind fun r5 =>
 (if r5.1 = true then
 ((mX12_swapOf p2 p3 ((1 : Int32) <<< (p4 &&& 31)) r5.2).bind fun r6 =>
 ((mX12_doSwap t p1 r6 r5.2).bind fun σ7 =>
 ((mX12_swapOf p2 p4 ((1 : Int32) <<< (p3 &&& 31)) σ7).bind fun r8 =>
 ((mX12_isSwap t p1 r8 σ7).bind fun r9 =>
 (some (r9.1, r9.2))))))
 else (some (false, r5.2)))))
 else (some (false, σ1)))
 else none)
 else (some (false, σ1)))
 else none))
set_option maxHeartbeats 4000000 in
theorem rX12_isLoophole (t : Nat) (p1 : Int32) (p2 : Int32) (p3 : Int32) (p4 : Int32) (hT : LY12 sh P t) : Rj l D cA h0 ad yX12_isLoophole cX12_isLoophole 5 (some .boolean) false 7 0 0 (fun b => (some (.int (b2i b.1)), sh, P, b.2)) [.ref (h0 + t), .int p1, .int p2, .int p3, .int p4] sh P σ (mX12_isLoophole t p1 p2 p3 p4 σ) := by
  rw [mX12_isLoophole]
  refine Rj.of (by decide) (fun h => by cases h) (Nat.le_of_ble_eq_true rfl) ?_
  refine tj_lv0 (lv' := [(0, .ref (h0 + t)), (1, .int p1), (2, .int p2), (3, .int p3), (4, .int p4)]) rfl ?_
  refine tj_aload_n (q := 1) dX12_isLoophole_0 rfl (i := 0) rfl (pl := 0) rfl ?_
  refine tj_callV (q := 4) (kj_V (As := []) (rest := []) (t := t) wi_RX12_497 (hT).s rfl (rX12_load t (hT)) rfl (Nat.le_of_ble_eq_true rfl) ⟨Nat.le_of_ble_eq_true rfl, Nat.le_of_ble_eq_true rfl⟩ (Nat.le_of_ble_eq_true rfl) dX12_isLoophole_1) rfl (fun σ1 => ?_)
  refine tj_aload_n (q := 5) dX12_isLoophole_4 rfl (i := 0) rfl (pl := 0) rfl ?_
  refine tj_getR (q := 8) (hT).s (hT).p_w fok_12_61 wl_RX12_105 dX12_isLoophole_5 rfl ?_
  refine tj_iload_n (q := 9) dX12_isLoophole_8 rfl (i := 3) rfl (pl := 3) rfl ?_
  refine tj_iaload (q := 10) (hT).s_w dX12_isLoophole_9 rfl ?_
  refine tj_topI (fun v2 => ?_)
  refine tj_iload_n (q := 11) dX12_isLoophole_10 rfl (i := 2) rfl (pl := 2) rfl ?_
  refine tj_icmp_ne (tgt := 45) (q := 14) dX12_isLoophole_11 (by decide) rfl ?_ ?_
  · refine tj_aload_n (q := 15) dX12_isLoophole_14 rfl (i := 0) rfl (pl := 0) rfl ?_
    refine tj_getR (q := 18) (hT).s (hT).p_w fok_12_61 wl_RX12_105 dX12_isLoophole_15 rfl ?_
    refine tj_iload (q := 20) dX12_isLoophole_18 rfl (pl := 4) rfl ?_
    refine tj_iaload (q := 21) (hT).s_w dX12_isLoophole_20 rfl ?_
    refine tj_topI (fun v3 => ?_)
    refine tj_bipush (q := 23) (v := 10) dX12_isLoophole_21 rfl (by decide) ?_
    refine tj_iload_n (q := 24) dX12_isLoophole_23 rfl (i := 1) rfl (pl := 1) rfl ?_
    refine tj_iadd (q := 25) dX12_isLoophole_24 rfl ?_
    refine tj_icmp_ne (tgt := 45) (q := 28) dX12_isLoophole_25 (by decide) rfl ?_ ?_
    · refine tj_aload_n (q := 29) dX12_isLoophole_28 rfl (i := 0) rfl (pl := 0) rfl ?_
      refine tj_iload_n (q := 30) dX12_isLoophole_29 rfl (i := 1) rfl (pl := 1) rfl ?_
      refine tj_iload_n (q := 31) dX12_isLoophole_30 rfl (i := 2) rfl (pl := 2) rfl ?_
      refine tj_iload_n (q := 32) dX12_isLoophole_31 rfl (i := 3) rfl (pl := 3) rfl ?_
      refine tj_iconst (q := 33) (v := 1) dX12_isLoophole_32 rfl (by decide) ?_
      refine tj_iload (q := 35) dX12_isLoophole_33 rfl (pl := 4) rfl ?_
      refine tj_ishl (q := 36) dX12_isLoophole_35 rfl ?_
      refine tj_callIp (q := 39) (kj_S (As := [.int p2, .int p3, .int ((1 : Int32) <<< (p4 &&& 31))]) (rest := [.int p1, .ref (h0 + t)]) wi_RX12_596 (rX12_swapOf p2 p3 ((1 : Int32) <<< (p4 &&& 31))) rfl (Nat.le_of_ble_eq_true rfl) ⟨Nat.le_of_ble_eq_true rfl, Nat.le_of_ble_eq_true rfl⟩ (Nat.le_of_ble_eq_true rfl) dX12_isLoophole_36) rfl (fun r4 => ?_)
      refine tj_callZ (q := 42) (kj_V (As := [.int p1, .int r4]) (rest := []) (t := t) wi_RX12_537 (hT).s rfl (rX12_isSwap t p1 r4 (hT)) rfl (Nat.le_of_ble_eq_true rfl) ⟨Nat.le_of_ble_eq_true rfl, Nat.le_of_ble_eq_true rfl⟩ (Nat.le_of_ble_eq_true rfl) dX12_isLoophole_39) rfl (fun r5 => ?_)
      refine tj_bnz (tgt := 47) (q := 45) dX12_isLoophole_42 (by decide) rfl ?_ ?_
      · refine tj_aload_n (q := 48) dX12_isLoophole_47 rfl (i := 0) rfl (pl := 0) rfl ?_
        refine tj_iload_n (q := 49) dX12_isLoophole_48 rfl (i := 1) rfl (pl := 1) rfl ?_
        refine tj_iload_n (q := 50) dX12_isLoophole_49 rfl (i := 2) rfl (pl := 2) rfl ?_
        refine tj_iload_n (q := 51) dX12_isLoophole_50 rfl (i := 3) rfl (pl := 3) rfl ?_
        refine tj_iconst (q := 52) (v := 1) dX12_isLoophole_51 rfl (by decide) ?_
        refine tj_iload (q := 54) dX12_isLoophole_52 rfl (pl := 4) rfl ?_
        refine tj_ishl (q := 55) dX12_isLoophole_54 rfl ?_
        refine tj_callIp (q := 58) (kj_S (As := [.int p2, .int p3, .int ((1 : Int32) <<< (p4 &&& 31))]) (rest := [.int p1, .ref (h0 + t)]) wi_RX12_596 (rX12_swapOf p2 p3 ((1 : Int32) <<< (p4 &&& 31))) rfl (Nat.le_of_ble_eq_true rfl) ⟨Nat.le_of_ble_eq_true rfl, Nat.le_of_ble_eq_true rfl⟩ (Nat.le_of_ble_eq_true rfl) dX12_isLoophole_55) rfl (fun r6 => ?_)
        refine tj_callV (q := 61) (kj_V (As := [.int p1, .int r6]) (rest := []) (t := t) wi_RX12_569 (hT).s rfl (rX12_doSwap t p1 r6 (hT)) rfl (Nat.le_of_ble_eq_true rfl) ⟨Nat.le_of_ble_eq_true rfl, Nat.le_of_ble_eq_true rfl⟩ (Nat.le_of_ble_eq_true rfl) dX12_isLoophole_58) rfl (fun σ7 => ?_)
        refine tj_aload_n (q := 62) dX12_isLoophole_61 rfl (i := 0) rfl (pl := 0) rfl ?_
        refine tj_iload_n (q := 63) dX12_isLoophole_62 rfl (i := 1) rfl (pl := 1) rfl ?_
        refine tj_iload_n (q := 64) dX12_isLoophole_63 rfl (i := 2) rfl (pl := 2) rfl ?_
        refine tj_iload (q := 66) dX12_isLoophole_64 rfl (pl := 4) rfl ?_
        refine tj_iconst (q := 67) (v := 1) dX12_isLoophole_66 rfl (by decide) ?_
        refine tj_iload_n (q := 68) dX12_isLoophole_67 rfl (i := 3) rfl (pl := 3) rfl ?_
        refine tj_ishl (q := 69) dX12_isLoophole_68 rfl ?_
        refine tj_callIp (q := 72) (kj_S (As := [.int p2, .int p4, .int ((1 : Int32) <<< (p3 &&& 31))]) (rest := [.int p1, .ref (h0 + t)]) wi_RX12_596 (rX12_swapOf p2 p4 ((1 : Int32) <<< (p3 &&& 31))) rfl (Nat.le_of_ble_eq_true rfl) ⟨Nat.le_of_ble_eq_true rfl, Nat.le_of_ble_eq_true rfl⟩ (Nat.le_of_ble_eq_true rfl) dX12_isLoophole_69) rfl (fun r8 => ?_)
        refine tj_callZ (q := 75) (kj_V (As := [.int p1, .int r8]) (rest := []) (t := t) wi_RX12_537 (hT).s rfl (rX12_isSwap t p1 r8 (hT)) rfl (Nat.le_of_ble_eq_true rfl) ⟨Nat.le_of_ble_eq_true rfl, Nat.le_of_ble_eq_true rfl⟩ (Nat.le_of_ble_eq_true rfl) dX12_isLoophole_72) rfl (fun r9 => ?_)
        exact tj_zret rfl (nar_b2i _) rfl (Nat.le_of_ble_eq_true rfl) (Nat.le_of_ble_eq_true rfl) dX12_isLoophole_75
      · refine tj_iconst (q := 46) (v := 0) dX12_isLoophole_45 rfl (by decide) ?_
        exact tj_zret rfl (by decide) rfl (Nat.le_of_ble_eq_true rfl) (Nat.le_of_ble_eq_true rfl) dX12_isLoophole_46
    · refine tj_iconst (q := 46) (v := 0) dX12_isLoophole_45 rfl (by decide) ?_
      exact tj_zret rfl (by decide) rfl (Nat.le_of_ble_eq_true rfl) (Nat.le_of_ble_eq_true rfl) dX12_isLoophole_46
  · refine tj_iconst (q := 46) (v := 0) dX12_isLoophole_45 rfl (by decide) ?_
    exact tj_zret rfl (by decide) rfl (Nat.le_of_ble_eq_true rfl) (Nat.le_of_ble_eq_true rfl) dX12_isLoophole_46

theorem dX12_loopholes_0 : decode cX12_loopholes 0 = .ok (.aload_n 0, 1) := by decide +kernel
theorem dX12_loopholes_1 : decode cX12_loopholes 1 = .ok (.iconst 0, 1) := by decide +kernel
theorem dX12_loopholes_2 : decode cX12_loopholes 2 = .ok (.putfield 443, 3) := by decide +kernel
theorem dX12_loopholes_5 : decode cX12_loopholes 5 = .ok (.iconst 0, 1) := by decide +kernel
theorem dX12_loopholes_6 : decode cX12_loopholes 6 = .ok (.istore_n 1, 1) := by decide +kernel
theorem dX12_loopholes_7 : decode cX12_loopholes 7 = .ok (.iconst 0, 1) := by decide +kernel
theorem dX12_loopholes_8 : decode cX12_loopholes 8 = .ok (.istore_n 2, 1) := by decide +kernel
theorem dX12_loopholes_9 : decode cX12_loopholes 9 = .ok (.iload_n 2, 1) := by decide +kernel
theorem dX12_loopholes_10 : decode cX12_loopholes 10 = .ok (.aload_n 0, 1) := by decide +kernel
theorem dX12_loopholes_11 : decode cX12_loopholes 11 = .ok (.getfield 425, 3) := by decide +kernel
theorem dX12_loopholes_14 : decode cX12_loopholes 14 = .ok (.aload_n 0, 1) := by decide +kernel
theorem dX12_loopholes_15 : decode cX12_loopholes 15 = .ok (.getfield 422, 3) := by decide +kernel
theorem dX12_loopholes_18 : decode cX12_loopholes 18 = .ok (.imul, 1) := by decide +kernel
theorem dX12_loopholes_19 : decode cX12_loopholes 19 = .ok (.aload_n 0, 1) := by decide +kernel
theorem dX12_loopholes_20 : decode cX12_loopholes 20 = .ok (.getfield 419, 3) := by decide +kernel
theorem dX12_loopholes_23 : decode cX12_loopholes 23 = .ok (.imul, 1) := by decide +kernel
theorem dX12_loopholes_24 : decode cX12_loopholes 24 = .ok (.aload_n 0, 1) := by decide +kernel
theorem dX12_loopholes_25 : decode cX12_loopholes 25 = .ok (.getfield 419, 3) := by decide +kernel
theorem dX12_loopholes_28 : decode cX12_loopholes 28 = .ok (.imul, 1) := by decide +kernel
theorem dX12_loopholes_29 : decode cX12_loopholes 29 = .ok (.if_icmp .ge 112, 3) := by decide +kernel
theorem dX12_loopholes_32 : decode cX12_loopholes 32 = .ok (.iload_n 2, 1) := by decide +kernel
theorem dX12_loopholes_33 : decode cX12_loopholes 33 = .ok (.aload_n 0, 1) := by decide +kernel
theorem dX12_loopholes_34 : decode cX12_loopholes 34 = .ok (.getfield 422, 3) := by decide +kernel
theorem dX12_loopholes_37 : decode cX12_loopholes 37 = .ok (.aload_n 0, 1) := by decide +kernel
theorem dX12_loopholes_38 : decode cX12_loopholes 38 = .ok (.getfield 419, 3) := by decide +kernel
theorem dX12_loopholes_41 : decode cX12_loopholes 41 = .ok (.imul, 1) := by decide +kernel
theorem dX12_loopholes_42 : decode cX12_loopholes 42 = .ok (.aload_n 0, 1) := by decide +kernel
theorem dX12_loopholes_43 : decode cX12_loopholes 43 = .ok (.getfield 419, 3) := by decide +kernel
theorem dX12_loopholes_46 : decode cX12_loopholes 46 = .ok (.imul, 1) := by decide +kernel
theorem dX12_loopholes_47 : decode cX12_loopholes 47 = .ok (.idiv, 1) := by decide +kernel
theorem dX12_loopholes_48 : decode cX12_loopholes 48 = .ok (.istore_n 3, 1) := by decide +kernel
theorem dX12_loopholes_49 : decode cX12_loopholes 49 = .ok (.iload_n 2, 1) := by decide +kernel
theorem dX12_loopholes_50 : decode cX12_loopholes 50 = .ok (.aload_n 0, 1) := by decide +kernel
theorem dX12_loopholes_51 : decode cX12_loopholes 51 = .ok (.getfield 419, 3) := by decide +kernel
theorem dX12_loopholes_54 : decode cX12_loopholes 54 = .ok (.aload_n 0, 1) := by decide +kernel
theorem dX12_loopholes_55 : decode cX12_loopholes 55 = .ok (.getfield 419, 3) := by decide +kernel
theorem dX12_loopholes_58 : decode cX12_loopholes 58 = .ok (.imul, 1) := by decide +kernel
theorem dX12_loopholes_59 : decode cX12_loopholes 59 = .ok (.idiv, 1) := by decide +kernel
theorem dX12_loopholes_60 : decode cX12_loopholes 60 = .ok (.aload_n 0, 1) := by decide +kernel
theorem dX12_loopholes_61 : decode cX12_loopholes 61 = .ok (.getfield 422, 3) := by decide +kernel
theorem dX12_loopholes_64 : decode cX12_loopholes 64 = .ok (.irem, 1) := by decide +kernel
theorem dX12_loopholes_65 : decode cX12_loopholes 65 = .ok (.istore 4, 2) := by decide +kernel
theorem dX12_loopholes_67 : decode cX12_loopholes 67 = .ok (.iload_n 2, 1) := by decide +kernel
theorem dX12_loopholes_68 : decode cX12_loopholes 68 = .ok (.aload_n 0, 1) := by decide +kernel
theorem dX12_loopholes_69 : decode cX12_loopholes 69 = .ok (.getfield 419, 3) := by decide +kernel
theorem dX12_loopholes_72 : decode cX12_loopholes 72 = .ok (.idiv, 1) := by decide +kernel
theorem dX12_loopholes_73 : decode cX12_loopholes 73 = .ok (.aload_n 0, 1) := by decide +kernel
theorem dX12_loopholes_74 : decode cX12_loopholes 74 = .ok (.getfield 419, 3) := by decide +kernel
theorem dX12_loopholes_77 : decode cX12_loopholes 77 = .ok (.irem, 1) := by decide +kernel
theorem dX12_loopholes_78 : decode cX12_loopholes 78 = .ok (.istore 5, 2) := by decide +kernel
theorem dX12_loopholes_80 : decode cX12_loopholes 80 = .ok (.iload_n 2, 1) := by decide +kernel
theorem dX12_loopholes_81 : decode cX12_loopholes 81 = .ok (.aload_n 0, 1) := by decide +kernel
theorem dX12_loopholes_82 : decode cX12_loopholes 82 = .ok (.getfield 419, 3) := by decide +kernel
theorem dX12_loopholes_85 : decode cX12_loopholes 85 = .ok (.irem, 1) := by decide +kernel
theorem dX12_loopholes_86 : decode cX12_loopholes 86 = .ok (.istore 6, 2) := by decide +kernel
theorem dX12_loopholes_88 : decode cX12_loopholes 88 = .ok (.aload_n 0, 1) := by decide +kernel
theorem dX12_loopholes_89 : decode cX12_loopholes 89 = .ok (.iload_n 3, 1) := by decide +kernel
theorem dX12_loopholes_90 : decode cX12_loopholes 90 = .ok (.iload 4, 2) := by decide +kernel
theorem dX12_loopholes_92 : decode cX12_loopholes 92 = .ok (.iload 5, 2) := by decide +kernel
theorem dX12_loopholes_94 : decode cX12_loopholes 94 = .ok (.iload 6, 2) := by decide +kernel
theorem dX12_loopholes_96 : decode cX12_loopholes 96 = .ok (.invokevirtual 599, 3) := by decide +kernel
theorem dX12_loopholes_99 : decode cX12_loopholes 99 = .ok (.ifCond .ne 6, 3) := by decide +kernel
theorem dX12_loopholes_102 : decode cX12_loopholes 102 = .ok (.goto 33, 3) := by decide +kernel
theorem dX12_loopholes_105 : decode cX12_loopholes 105 = .ok (.iload_n 1, 1) := by decide +kernel
theorem dX12_loopholes_106 : decode cX12_loopholes 106 = .ok (.ifCond .ne 26, 3) := by decide +kernel
theorem dX12_loopholes_109 : decode cX12_loopholes 109 = .ok (.aload_n 0, 1) := by decide +kernel
theorem dX12_loopholes_110 : decode cX12_loopholes 110 = .ok (.iload_n 3, 1) := by decide +kernel
theorem dX12_loopholes_111 : decode cX12_loopholes 111 = .ok (.invokevirtual 547, 3) := by decide +kernel
theorem dX12_loopholes_114 : decode cX12_loopholes 114 = .ok (.aload_n 0, 1) := by decide +kernel
theorem dX12_loopholes_115 : decode cX12_loopholes 115 = .ok (.iload 4, 2) := by decide +kernel
theorem dX12_loopholes_117 : decode cX12_loopholes 117 = .ok (.invokevirtual 547, 3) := by decide +kernel
theorem dX12_loopholes_120 : decode cX12_loopholes 120 = .ok (.aload_n 0, 1) := by decide +kernel
theorem dX12_loopholes_121 : decode cX12_loopholes 121 = .ok (.iload 5, 2) := by decide +kernel
theorem dX12_loopholes_123 : decode cX12_loopholes 123 = .ok (.invokevirtual 547, 3) := by decide +kernel
theorem dX12_loopholes_126 : decode cX12_loopholes 126 = .ok (.aload_n 0, 1) := by decide +kernel
theorem dX12_loopholes_127 : decode cX12_loopholes 127 = .ok (.iload 6, 2) := by decide +kernel
theorem dX12_loopholes_129 : decode cX12_loopholes 129 = .ok (.invokevirtual 547, 3) := by decide +kernel
theorem dX12_loopholes_132 : decode cX12_loopholes 132 = .ok (.iinc 1 1, 3) := by decide +kernel
theorem dX12_loopholes_135 : decode cX12_loopholes 135 = .ok (.iinc 2 1, 3) := by decide +kernel
theorem dX12_loopholes_138 : decode cX12_loopholes 138 = .ok (.goto (-129), 3) := by decide +kernel
theorem dX12_loopholes_141 : decode cX12_loopholes 141 = .ok (.iload_n 1, 1) := by decide +kernel
theorem dX12_loopholes_142 : decode cX12_loopholes 142 = .ok (.ireturn, 1) := by decide +kernel
theorem wm_X12_isLoophole : Cond.instanceMethod yX12_isLoophole ∈ TB ∧ Cond.selects yX12_isLoophole.cls yX12_isLoophole yX12_isLoophole ∈ TB ∧ Cond.initialized yX12_isLoophole.cls ∈ TB ∧ Cond.code yX12_isLoophole cX12_isLoophole 5 (some .boolean) ∈ TB ∧ (yX12_isLoophole.cls ≠ "java/lang/invoke/MethodHandle" ∧ yX12_isLoophole.cls ≠ "java/lang/invoke/VarHandle" ∧ (parseMethodDescriptor yX12_isLoophole.desc).map (fun d => d.parameters.length) = some 4) ∧ 5 ≤ 21 := ⟨tbm 2128 (by decide +kernel) (by decide +kernel), tbm 126 (by decide +kernel) (by decide +kernel), tbm 146 (by decide +kernel) (by decide +kernel), tbm 2129 (by decide +kernel) (by decide +kernel), by decide +kernel, by decide⟩
theorem wi_RX12_599 : Iv RX12 599 yX12_isLoophole cX12_isLoophole 5 (some .boolean) 4 := ⟨tbm 2126 (by decide +kernel) (by decide +kernel), wm_X12_isLoophole⟩
def mX12_loopholes_L9 (t : Nat) : Nat → Int32 → Int32 → St_ → Option (Int32 × St_)
  | 0, _, _, _ => none
  | n + 1, x1, x2, σ => (if ((((σ.1 t 54) * (σ.1 t 53)) * (σ.1 t 52)) * (σ.1 t 52)) ≤ x2 then
 (some (x1, σ))
 else (if (((σ.1 t 53) * (σ.1 t 52)) * (σ.1 t 52)) = 0 then none else
 (bnd (x2 / (((σ.1 t 53) * (σ.1 t 52)) * (σ.1 t 52))) fun v3 =>
 (if ((σ.1 t 52) * (σ.1 t 52)) = 0 then none else
 (bnd (x2 / ((σ.1 t 52) * (σ.1 t 52))) fun v5 =>
 (bnd (σ.1 t 53) fun v6 =>
 (if v6 = 0 then none else
 (bnd (v5 - v5 / v6 * v6) fun v8 =>
 (if (σ.1 t 52) = 0 then none else
 (bnd (x2 / (σ.1 t 52)) fun v10 =>
 (bnd (σ.1 t 52) fun v11 =>
 (if v11 = 0 then none else
 (bnd (v10 - v10 / v11 * v11) fun v13 =>
 (bnd (σ.1 t 52) fun v14 =>
 (if v14 = 0 then none else
 (bnd (x2 - x2 / v14 * v14) fun v16 =>
 ((mX12_isLoophole t v3 v8 v13 v16 σ).bind fun r17 =>
 (bnd (fun (j18 : Int32) (σ19 : St_) => (mX12_loopholes_L9 t n j18 (x2 + 1) σ19)) fun k20 =>
 (if r17.1 = true then
 (bnd (fun (σ22 : St_) => (k20 (x1 + 1) σ22)) fun k23 =>
 (if x1 = 0 then
 ((mX12_lay t v3 r17.2).bind fun σ25 =>
 ((mX12_lay t v8 σ25).bind fun σ26 =>
 ((mX12_lay t v13 σ26).bind fun σ27 =>
 ((mX12_lay t v16 σ27).bind fun σ28 =>
 (k23 σ28)))))
 else (k23 r17.2)))
 else (k20 x1 r17.2))))))))))))))))))))
def mX12_loopholes (t : Nat) (σ : St_) : Option (Int32 × St_) :=
 (bnd (sI σ t 71 (0 : Int32)) fun σ1 =>
 (mX12_loopholes_L9 t FU (0 : Int32) (0 : Int32) σ1))
set_option maxHeartbeats 4000000 in
theorem tmX12_loopholes_L9 (t : Nat) (hT : LY12 sh P t) : ∀ (n : Nat) (x1 : Int32) (x2 : Int32) (σ : St_), Tj l D cA h0 ad RX12 cX12_loopholes 7 (some .int) false 8 0 0 (fun b => (some (.int b.1), sh, P, b.2)) 0 0 sh P σ 9 [(0, .ref (h0 + t)), (1, .int x1), (2, .int x2)] [] (mX12_loopholes_L9 t n x1 x2 σ) := by
  intro n
  induction n with
  | zero => intros; exact tj_none
  | succ n ih =>
    intro x1 x2 σ
    rw [mX12_loopholes_L9]
    refine tj_iload_n (q := 10) dX12_loopholes_9 rfl (i := 2) rfl (pl := 2) rfl ?_
    refine tj_aload_n (q := 11) dX12_loopholes_10 rfl (i := 0) rfl (pl := 0) rfl ?_
    refine tj_getI (q := 14) (hT).s fok_12_54 wl_RX12_425 dX12_loopholes_11 rfl ?_
    refine tj_aload_n (q := 15) dX12_loopholes_14 rfl (i := 0) rfl (pl := 0) rfl ?_
    refine tj_getI (q := 18) (hT).s fok_12_53 wl_RX12_422 dX12_loopholes_15 rfl ?_
    refine tj_imul (q := 19) dX12_loopholes_18 rfl ?_
    refine tj_aload_n (q := 20) dX12_loopholes_19 rfl (i := 0) rfl (pl := 0) rfl ?_
    refine tj_getI (q := 23) (hT).s fok_12_52 wl_RX12_419 dX12_loopholes_20 rfl ?_
    refine tj_imul (q := 24) dX12_loopholes_23 rfl ?_
    refine tj_aload_n (q := 25) dX12_loopholes_24 rfl (i := 0) rfl (pl := 0) rfl ?_
    refine tj_getI (q := 28) (hT).s fok_12_52 wl_RX12_419 dX12_loopholes_25 rfl ?_
    refine tj_imul (q := 29) dX12_loopholes_28 rfl ?_
    refine tj_icmp_ge (tgt := 141) (q := 32) dX12_loopholes_29 (by decide) rfl ?_ ?_
    · refine tj_iload_n (q := 142) dX12_loopholes_141 rfl (i := 1) rfl (pl := 1) rfl ?_
      exact tj_iret rfl rfl (Nat.le_of_ble_eq_true rfl) (Nat.le_of_ble_eq_true rfl) dX12_loopholes_142
    · refine tj_iload_n (q := 33) dX12_loopholes_32 rfl (i := 2) rfl (pl := 2) rfl ?_
      refine tj_aload_n (q := 34) dX12_loopholes_33 rfl (i := 0) rfl (pl := 0) rfl ?_
      refine tj_getI (q := 37) (hT).s fok_12_53 wl_RX12_422 dX12_loopholes_34 rfl ?_
      refine tj_aload_n (q := 38) dX12_loopholes_37 rfl (i := 0) rfl (pl := 0) rfl ?_
      refine tj_getI (q := 41) (hT).s fok_12_52 wl_RX12_419 dX12_loopholes_38 rfl ?_
      refine tj_imul (q := 42) dX12_loopholes_41 rfl ?_
      refine tj_aload_n (q := 43) dX12_loopholes_42 rfl (i := 0) rfl (pl := 0) rfl ?_
      refine tj_getI (q := 46) (hT).s fok_12_52 wl_RX12_419 dX12_loopholes_43 rfl ?_
      refine tj_imul (q := 47) dX12_loopholes_46 rfl ?_
      refine tj_gne (y := (((σ.1 t 53) * (σ.1 t 52)) * (σ.1 t 52))) (fun hn2 => ?_)
      refine tj_idiv (q := 48) dX12_loopholes_47 rfl hn2 ?_
      refine tj_topI (fun v3 => ?_)
      refine tj_istore_n (q := 49) dX12_loopholes_48 rfl (i := 3) rfl (by decide) rfl ?_
      refine tj_iload_n (q := 50) dX12_loopholes_49 rfl (i := 2) rfl (pl := 3) rfl ?_
      refine tj_aload_n (q := 51) dX12_loopholes_50 rfl (i := 0) rfl (pl := 1) rfl ?_
      refine tj_getI (q := 54) (hT).s fok_12_52 wl_RX12_419 dX12_loopholes_51 rfl ?_
      refine tj_aload_n (q := 55) dX12_loopholes_54 rfl (i := 0) rfl (pl := 1) rfl ?_
      refine tj_getI (q := 58) (hT).s fok_12_52 wl_RX12_419 dX12_loopholes_55 rfl ?_
      refine tj_imul (q := 59) dX12_loopholes_58 rfl ?_
      refine tj_gne (y := ((σ.1 t 52) * (σ.1 t 52))) (fun hn4 => ?_)
      refine tj_idiv (q := 60) dX12_loopholes_59 rfl hn4 ?_
      refine tj_aload_n (q := 61) dX12_loopholes_60 rfl (i := 0) rfl (pl := 1) rfl ?_
      refine tj_getI (q := 64) (hT).s fok_12_53 wl_RX12_422 dX12_loopholes_61 rfl ?_
      refine tj_sndI (fun v5 => ?_)
      refine tj_topI (fun v6 => ?_)
      refine tj_gne (y := v6) (fun hn7 => ?_)
      refine tj_irem (q := 65) dX12_loopholes_64 rfl hn7 ?_
      refine tj_topI (fun v8 => ?_)
      refine tj_istore (q := 67) dX12_loopholes_65 rfl (by decide) rfl ?_
      refine tj_iload_n (q := 68) dX12_loopholes_67 rfl (i := 2) rfl (pl := 4) rfl ?_
      refine tj_aload_n (q := 69) dX12_loopholes_68 rfl (i := 0) rfl (pl := 2) rfl ?_
      refine tj_getI (q := 72) (hT).s fok_12_52 wl_RX12_419 dX12_loopholes_69 rfl ?_
      refine tj_gne (y := (σ.1 t 52)) (fun hn9 => ?_)
      refine tj_idiv (q := 73) dX12_loopholes_72 rfl hn9 ?_
      refine tj_aload_n (q := 74) dX12_loopholes_73 rfl (i := 0) rfl (pl := 2) rfl ?_
      refine tj_getI (q := 77) (hT).s fok_12_52 wl_RX12_419 dX12_loopholes_74 rfl ?_
      refine tj_sndI (fun v10 => ?_)
      refine tj_topI (fun v11 => ?_)
      refine tj_gne (y := v11) (fun hn12 => ?_)
      refine tj_irem (q := 78) dX12_loopholes_77 rfl hn12 ?_
      refine tj_topI (fun v13 => ?_)
      refine tj_istore (q := 80) dX12_loopholes_78 rfl (by decide) rfl ?_
      refine tj_iload_n (q := 81) dX12_loopholes_80 rfl (i := 2) rfl (pl := 5) rfl ?_
      refine tj_aload_n (q := 82) dX12_loopholes_81 rfl (i := 0) rfl (pl := 3) rfl ?_
      refine tj_getI (q := 85) (hT).s fok_12_52 wl_RX12_419 dX12_loopholes_82 rfl ?_
      refine tj_topI (fun v14 => ?_)
      refine tj_gne (y := v14) (fun hn15 => ?_)
      refine tj_irem (q := 86) dX12_loopholes_85 rfl hn15 ?_
      refine tj_topI (fun v16 => ?_)
      refine tj_istore (q := 88) dX12_loopholes_86 rfl (by decide) rfl ?_
      refine tj_aload_n (q := 89) dX12_loopholes_88 rfl (i := 0) rfl (pl := 4) rfl ?_
      refine tj_iload_n (q := 90) dX12_loopholes_89 rfl (i := 3) rfl (pl := 3) rfl ?_
      refine tj_iload (q := 92) dX12_loopholes_90 rfl (pl := 2) rfl ?_
      refine tj_iload (q := 94) dX12_loopholes_92 rfl (pl := 1) rfl ?_
      refine tj_iload (q := 96) dX12_loopholes_94 rfl (pl := 0) rfl ?_
      refine tj_callZ (q := 99) (kj_V (As := [.int v3, .int v8, .int v13, .int v16]) (rest := []) (t := t) wi_RX12_599 (hT).s rfl (rX12_isLoophole t v3 v8 v13 v16 (hT)) rfl (Nat.le_of_ble_eq_true rfl) ⟨Nat.le_of_ble_eq_true rfl, Nat.le_of_ble_eq_true rfl⟩ (Nat.le_of_ble_eq_true rfl) dX12_loopholes_96) rfl (fun r17 => ?_)
      refine tj_bnd (fun k20 => ∀ (j18 : Int32) (σ19 : St_), Tj l D cA h0 ad RX12 cX12_loopholes 7 (some .int) false 8 0 0 (fun b => (some (.int b.1), sh, P, b.2)) 0 0 sh P σ19 135 [(0, .ref (h0 + t)), (1, .int j18), (2, .int x2)] [] (k20 j18 σ19)) ?_ (fun k20 hk21 => ?_)
      · intro j18 σ19
        refine tj_iinc (q := 138) (v := x2 + 1) dX12_loopholes_135 rfl (pl := 2) rfl rfl (by decide) rfl ?_
        refine tj_goto (q := 9) dX12_loopholes_138 (by decide) ?_
        refine tj_lv [1, 2, 0] rfl ?_
        exact ih j18 (x2 + 1) σ19
      · refine tj_bnz (tgt := 105) (q := 102) dX12_loopholes_99 (by decide) rfl ?_ ?_
        · refine tj_iload_n (q := 106) dX12_loopholes_105 rfl (i := 1) rfl (pl := 5) rfl ?_
          refine tj_bnd (fun k23 => ∀ (σ22 : St_), Tj l D cA h0 ad RX12 cX12_loopholes 7 (some .int) false 8 0 0 (fun b => (some (.int b.1), sh, P, b.2)) 0 0 sh P σ22 132 [(0, .ref (h0 + t)), (1, .int x1), (2, .int x2)] [] (k23 σ22)) ?_ (fun k23 hk24 => ?_)
          · intro σ22
            refine tj_iinc (q := 135) (v := x1 + 1) dX12_loopholes_132 rfl (pl := 1) rfl rfl (by decide) rfl ?_
            refine tj_lv [1, 0, 2] rfl ?_
            exact hk21 (x1 + 1) σ22
          · refine tj_if_ne (tgt := 132) (q := 109) dX12_loopholes_106 (by decide) rfl ?_ ?_
            · refine tj_aload_n (q := 110) dX12_loopholes_109 rfl (i := 0) rfl (pl := 4) rfl ?_
              refine tj_iload_n (q := 111) dX12_loopholes_110 rfl (i := 3) rfl (pl := 3) rfl ?_
              refine tj_callV (q := 114) (kj_V (As := [.int v3]) (rest := []) (t := t) wi_RX12_547 (hT).s rfl (rX12_lay t v3 (hT)) rfl (Nat.le_of_ble_eq_true rfl) ⟨Nat.le_of_ble_eq_true rfl, Nat.le_of_ble_eq_true rfl⟩ (Nat.le_of_ble_eq_true rfl) dX12_loopholes_111) rfl (fun σ25 => ?_)
              refine tj_aload_n (q := 115) dX12_loopholes_114 rfl (i := 0) rfl (pl := 4) rfl ?_
              refine tj_iload (q := 117) dX12_loopholes_115 rfl (pl := 2) rfl ?_
              refine tj_callV (q := 120) (kj_V (As := [.int v8]) (rest := []) (t := t) wi_RX12_547 (hT).s rfl (rX12_lay t v8 (hT)) rfl (Nat.le_of_ble_eq_true rfl) ⟨Nat.le_of_ble_eq_true rfl, Nat.le_of_ble_eq_true rfl⟩ (Nat.le_of_ble_eq_true rfl) dX12_loopholes_117) rfl (fun σ26 => ?_)
              refine tj_aload_n (q := 121) dX12_loopholes_120 rfl (i := 0) rfl (pl := 4) rfl ?_
              refine tj_iload (q := 123) dX12_loopholes_121 rfl (pl := 1) rfl ?_
              refine tj_callV (q := 126) (kj_V (As := [.int v13]) (rest := []) (t := t) wi_RX12_547 (hT).s rfl (rX12_lay t v13 (hT)) rfl (Nat.le_of_ble_eq_true rfl) ⟨Nat.le_of_ble_eq_true rfl, Nat.le_of_ble_eq_true rfl⟩ (Nat.le_of_ble_eq_true rfl) dX12_loopholes_123) rfl (fun σ27 => ?_)
              refine tj_aload_n (q := 127) dX12_loopholes_126 rfl (i := 0) rfl (pl := 4) rfl ?_
              refine tj_iload (q := 129) dX12_loopholes_127 rfl (pl := 0) rfl ?_
              refine tj_callV (q := 132) (kj_V (As := [.int v16]) (rest := []) (t := t) wi_RX12_547 (hT).s rfl (rX12_lay t v16 (hT)) rfl (Nat.le_of_ble_eq_true rfl) ⟨Nat.le_of_ble_eq_true rfl, Nat.le_of_ble_eq_true rfl⟩ (Nat.le_of_ble_eq_true rfl) dX12_loopholes_129) rfl (fun σ28 => ?_)
              refine tj_lv [4, 5, 6] rfl ?_
              exact hk24 σ28
            · refine tj_lv [4, 5, 6] rfl ?_
              exact hk24 r17.2
        · refine tj_goto (q := 135) dX12_loopholes_102 (by decide) ?_
          refine tj_lv [4, 5, 6] rfl ?_
          exact hk21 x1 r17.2

set_option maxHeartbeats 4000000 in
theorem rX12_loopholes (t : Nat) (hT : LY12 sh P t) : Rj l D cA h0 ad yX12_loopholes cX12_loopholes 7 (some .int) false 8 0 0 (fun b => (some (.int b.1), sh, P, b.2)) [.ref (h0 + t)] sh P σ (mX12_loopholes t σ) := by
  rw [mX12_loopholes]
  refine Rj.of (by decide) (fun h => by cases h) (Nat.le_of_ble_eq_true rfl) ?_
  refine tj_lv0 (lv' := [(0, .ref (h0 + t))]) rfl ?_
  refine tj_aload_n (q := 1) dX12_loopholes_0 rfl (i := 0) rfl (pl := 0) rfl ?_
  refine tj_iconst (q := 2) (v := 0) dX12_loopholes_1 rfl (by decide) ?_
  refine tj_putI (q := 5) (hT).s fok_12_71 tok_12 fpk_12_71 wl_RX12_443 dX12_loopholes_2 rfl (fun σ1 => ?_)
  refine tj_iconst (q := 6) (v := 0) dX12_loopholes_5 rfl (by decide) ?_
  refine tj_istore_n (q := 7) dX12_loopholes_6 rfl (i := 1) rfl (by decide) rfl ?_
  refine tj_iconst (q := 8) (v := 0) dX12_loopholes_7 rfl (by decide) ?_
  refine tj_istore_n (q := 9) dX12_loopholes_8 rfl (i := 2) rfl (by decide) rfl ?_
  refine tj_lv [2, 1, 0] rfl ?_
  exact tmX12_loopholes_L9 t hT FU (0 : Int32) (0 : Int32) σ1

theorem dX12_loadBox_0 : decode cX12_loadBox 0 = .ok (.iconst 0, 1) := by decide +kernel
theorem dX12_loadBox_1 : decode cX12_loadBox 1 = .ok (.istore_n 2, 1) := by decide +kernel
theorem dX12_loadBox_2 : decode cX12_loadBox 2 = .ok (.iload_n 2, 1) := by decide +kernel
theorem dX12_loadBox_3 : decode cX12_loadBox 3 = .ok (.bipush 10, 2) := by decide +kernel
theorem dX12_loadBox_5 : decode cX12_loadBox 5 = .ok (.if_icmp .ge 26, 3) := by decide +kernel
theorem dX12_loadBox_8 : decode cX12_loadBox 8 = .ok (.aload_n 0, 1) := by decide +kernel
theorem dX12_loadBox_9 : decode cX12_loadBox 9 = .ok (.getfield 105, 3) := by decide +kernel
theorem dX12_loadBox_12 : decode cX12_loadBox 12 = .ok (.iload_n 2, 1) := by decide +kernel
theorem dX12_loadBox_13 : decode cX12_loadBox 13 = .ok (.aload_n 0, 1) := by decide +kernel
theorem dX12_loadBox_14 : decode cX12_loadBox 14 = .ok (.getfield 160, 3) := by decide +kernel
theorem dX12_loadBox_17 : decode cX12_loadBox 17 = .ok (.bipush 20, 2) := by decide +kernel
theorem dX12_loadBox_19 : decode cX12_loadBox 19 = .ok (.iload_n 1, 1) := by decide +kernel
theorem dX12_loadBox_20 : decode cX12_loadBox 20 = .ok (.imul, 1) := by decide +kernel
theorem dX12_loadBox_21 : decode cX12_loadBox 21 = .ok (.iload_n 2, 1) := by decide +kernel
theorem dX12_loadBox_22 : decode cX12_loadBox 22 = .ok (.iadd, 1) := by decide +kernel
theorem dX12_loadBox_23 : decode cX12_loadBox 23 = .ok (.iaload, 1) := by decide +kernel
theorem dX12_loadBox_24 : decode cX12_loadBox 24 = .ok (.iastore, 1) := by decide +kernel
theorem dX12_loadBox_25 : decode cX12_loadBox 25 = .ok (.iinc 2 1, 3) := by decide +kernel
theorem dX12_loadBox_28 : decode cX12_loadBox 28 = .ok (.goto (-26), 3) := by decide +kernel
theorem dX12_loadBox_31 : decode cX12_loadBox 31 = .ok (.return_, 1) := by decide +kernel
theorem wl_RX12_160 : Cond.fieldLink RX12 160 (TX12 90).1 (TX12 90).2.1 (TX12 90).2.2.1 ∈ TB := tbm 1505 (by decide +kernel) (by decide +kernel)
def mX12_loadBox_L2 (t : Nat) (x1 : Int32) : Nat → Int32 → St_ → Option St_
  | 0, _, _ => none
  | n + 1, x2, σ => (if (10 : Int32) ≤ x2 then
 (some σ)
 else (bnd (((20 : Int32) * x1) + x2) fun v1 =>
 (if bin v1 60 = true then bnd (σ.1 (t + 46) v1.toNatClampNeg) fun v2 =>
 (if bin x2 10 = true then bnd (sI σ (t + 30) x2.toNatClampNeg v2) fun σ3 =>
 (mX12_loadBox_L2 t x1 n (x2 + 1) σ3)
 else none)
 else none)))
def mX12_loadBox (t : Nat) (p1 : Int32) (σ : St_) : Option St_ :=
 (mX12_loadBox_L2 t p1 FU (0 : Int32) σ)
set_option maxHeartbeats 4000000 in
theorem tmX12_loadBox_L2 (t : Nat) (hT : LY12 sh P t) (x1 : Int32) : ∀ (n : Nat) (x2 : Int32) (σ : St_), Tj l D cA h0 ad RX12 cX12_loadBox 3 none false 2 0 0 (fun b => (none, sh, P, b)) 0 0 sh P σ 2 [(0, .ref (h0 + t)), (1, .int x1), (2, .int x2)] [] (mX12_loadBox_L2 t x1 n x2 σ) := by
  intro n
  induction n with
  | zero => intros; exact tj_none
  | succ n ih =>
    intro x2 σ
    rw [mX12_loadBox_L2]
    refine tj_iload_n (q := 3) dX12_loadBox_2 rfl (i := 2) rfl (pl := 2) rfl ?_
    refine tj_bipush (q := 5) (v := 10) dX12_loadBox_3 rfl (by decide) ?_
    refine tj_icmp_ge (tgt := 31) (q := 8) dX12_loadBox_5 (by decide) rfl ?_ ?_
    · exact tj_vret rfl rfl (Nat.le_of_ble_eq_true rfl) (Nat.le_of_ble_eq_true rfl) dX12_loadBox_31
    · refine tj_aload_n (q := 9) dX12_loadBox_8 rfl (i := 0) rfl (pl := 0) rfl ?_
      refine tj_getR (q := 12) (hT).s (hT).p_w fok_12_61 wl_RX12_105 dX12_loadBox_9 rfl ?_
      refine tj_iload_n (q := 13) dX12_loadBox_12 rfl (i := 2) rfl (pl := 2) rfl ?_
      refine tj_aload_n (q := 14) dX12_loadBox_13 rfl (i := 0) rfl (pl := 0) rfl ?_
      refine tj_getR (q := 17) (hT).s (hT).p_boxes fok_12_90 wl_RX12_160 dX12_loadBox_14 rfl ?_
      refine tj_bipush (q := 19) (v := 20) dX12_loadBox_17 rfl (by decide) ?_
      refine tj_iload_n (q := 20) dX12_loadBox_19 rfl (i := 1) rfl (pl := 1) rfl ?_
      refine tj_imul (q := 21) dX12_loadBox_20 rfl ?_
      refine tj_iload_n (q := 22) dX12_loadBox_21 rfl (i := 2) rfl (pl := 2) rfl ?_
      refine tj_iadd (q := 23) dX12_loadBox_22 rfl ?_
      refine tj_topI (fun v1 => ?_)
      refine tj_iaload (q := 24) (hT).s_boxes dX12_loadBox_23 rfl ?_
      refine tj_topI (fun v2 => ?_)
      refine tj_iastore (q := 25) (hT).s_w dX12_loadBox_24 rfl (fun σ3 => ?_)
      refine tj_iinc (q := 28) (v := x2 + 1) dX12_loadBox_25 rfl (pl := 2) rfl rfl (by decide) rfl ?_
      refine tj_goto (q := 2) dX12_loadBox_28 (by decide) ?_
      refine tj_lv [1, 2, 0] rfl ?_
      exact ih (x2 + 1) σ3

set_option maxHeartbeats 4000000 in
theorem rX12_loadBox (t : Nat) (p1 : Int32) (hT : LY12 sh P t) : Rj l D cA h0 ad yX12_loadBox cX12_loadBox 3 none false 2 0 0 (fun b => (none, sh, P, b)) [.ref (h0 + t), .int p1] sh P σ (mX12_loadBox t p1 σ) := by
  rw [mX12_loadBox]
  refine Rj.of (by decide) (fun h => by cases h) (Nat.le_of_ble_eq_true rfl) ?_
  refine tj_lv0 (lv' := [(0, .ref (h0 + t)), (1, .int p1)]) rfl ?_
  refine tj_iconst (q := 1) (v := 0) dX12_loadBox_0 rfl (by decide) ?_
  refine tj_istore_n (q := 2) dX12_loadBox_1 rfl (i := 2) rfl (by decide) rfl ?_
  refine tj_lv [1, 2, 0] rfl ?_
  exact tmX12_loadBox_L2 t hT p1 FU (0 : Int32) σ

theorem dX12_isNow_0 : decode cX12_isNow 0 = .ok (.iconst 1, 1) := by decide +kernel
theorem dX12_isNow_1 : decode cX12_isNow 1 = .ok (.istore_n 1, 1) := by decide +kernel
theorem dX12_isNow_2 : decode cX12_isNow 2 = .ok (.iconst 0, 1) := by decide +kernel
theorem dX12_isNow_3 : decode cX12_isNow 3 = .ok (.istore_n 2, 1) := by decide +kernel
theorem dX12_isNow_4 : decode cX12_isNow 4 = .ok (.iload_n 2, 1) := by decide +kernel
theorem dX12_isNow_5 : decode cX12_isNow 5 = .ok (.aload_n 0, 1) := by decide +kernel
theorem dX12_isNow_6 : decode cX12_isNow 6 = .ok (.getfield 419, 3) := by decide +kernel
theorem dX12_isNow_9 : decode cX12_isNow 9 = .ok (.if_icmp .ge 34, 3) := by decide +kernel
theorem dX12_isNow_12 : decode cX12_isNow 12 = .ok (.iload_n 1, 1) := by decide +kernel
theorem dX12_isNow_13 : decode cX12_isNow 13 = .ok (.ifCond .eq 22, 3) := by decide +kernel
theorem dX12_isNow_16 : decode cX12_isNow 16 = .ok (.aload_n 0, 1) := by decide +kernel
theorem dX12_isNow_17 : decode cX12_isNow 17 = .ok (.getfield 105, 3) := by decide +kernel
theorem dX12_isNow_20 : decode cX12_isNow 20 = .ok (.iload_n 2, 1) := by decide +kernel
theorem dX12_isNow_21 : decode cX12_isNow 21 = .ok (.iaload, 1) := by decide +kernel
theorem dX12_isNow_22 : decode cX12_isNow 22 = .ok (.aload_n 0, 1) := by decide +kernel
theorem dX12_isNow_23 : decode cX12_isNow 23 = .ok (.getfield 102, 3) := by decide +kernel
theorem dX12_isNow_26 : decode cX12_isNow 26 = .ok (.iload_n 2, 1) := by decide +kernel
theorem dX12_isNow_27 : decode cX12_isNow 27 = .ok (.iaload, 1) := by decide +kernel
theorem dX12_isNow_28 : decode cX12_isNow 28 = .ok (.if_icmp .ne 7, 3) := by decide +kernel
theorem dX12_isNow_31 : decode cX12_isNow 31 = .ok (.iconst 1, 1) := by decide +kernel
theorem dX12_isNow_32 : decode cX12_isNow 32 = .ok (.goto 4, 3) := by decide +kernel
theorem dX12_isNow_35 : decode cX12_isNow 35 = .ok (.iconst 0, 1) := by decide +kernel
theorem dX12_isNow_36 : decode cX12_isNow 36 = .ok (.istore_n 1, 1) := by decide +kernel
theorem dX12_isNow_37 : decode cX12_isNow 37 = .ok (.iinc 2 1, 3) := by decide +kernel
theorem dX12_isNow_40 : decode cX12_isNow 40 = .ok (.goto (-36), 3) := by decide +kernel
theorem dX12_isNow_43 : decode cX12_isNow 43 = .ok (.iload_n 1, 1) := by decide +kernel
theorem dX12_isNow_44 : decode cX12_isNow 44 = .ok (.ireturn, 1) := by decide +kernel
def mX12_isNow_L4 (t : Nat) (σ : St_) : Nat → Bool → Int32 → Option Bool
  | 0, _, _ => none
  | n + 1, x1, x2 => (if (σ.1 t 52) ≤ x2 then
 (some x1)
 else (bnd (fun (j1 : Bool) => (mX12_isNow_L4 t σ n j1 (x2 + 1))) fun k2 =>
 (bnd (k2 false) fun k4 =>
 (if x1 = true then
 (if bin x2 10 = true then bnd (σ.1 (t + 30) x2.toNatClampNeg) fun v6 =>
 (if bin x2 20 = true then bnd (σ.1 (t + 29) x2.toNatClampNeg) fun v7 =>
 (if v6 = v7 then
 (k2 true)
 else (k4))
 else none)
 else none)
 else (k4)))))
def mX12_isNow (t : Nat) (σ : St_) : Option Bool :=
 (mX12_isNow_L4 t σ FU true (0 : Int32))
set_option maxHeartbeats 4000000 in
theorem tmX12_isNow_L4 (σ : St_) (t : Nat) (hT : LY12 sh P t) : ∀ (n : Nat) (x1 : Bool) (x2 : Int32), Tj l D cA h0 ad RX12 cX12_isNow 3 (some .boolean) false 2 0 0 (fun b => (some (.int (b2i b)), sh, P, σ)) 0 0 sh P σ 4 [(0, .ref (h0 + t)), (1, .int (b2i x1)), (2, .int x2)] [] (mX12_isNow_L4 t σ n x1 x2) := by
  intro n
  induction n with
  | zero => intros; exact tj_none
  | succ n ih =>
    intro x1 x2
    rw [mX12_isNow_L4]
    refine tj_iload_n (q := 5) dX12_isNow_4 rfl (i := 2) rfl (pl := 2) rfl ?_
    refine tj_aload_n (q := 6) dX12_isNow_5 rfl (i := 0) rfl (pl := 0) rfl ?_
    refine tj_getI (q := 9) (hT).s fok_12_52 wl_RX12_419 dX12_isNow_6 rfl ?_
    refine tj_icmp_ge (tgt := 43) (q := 12) dX12_isNow_9 (by decide) rfl ?_ ?_
    · refine tj_iload_n (q := 44) dX12_isNow_43 rfl (i := 1) rfl (pl := 1) rfl ?_
      exact tj_zret rfl (nar_b2i _) rfl (Nat.le_of_ble_eq_true rfl) (Nat.le_of_ble_eq_true rfl) dX12_isNow_44
    · refine tj_iload_n (q := 13) dX12_isNow_12 rfl (i := 1) rfl (pl := 1) rfl ?_
      refine tj_bnd (fun k2 => ∀ (j1 : Bool), Tj l D cA h0 ad RX12 cX12_isNow 3 (some .boolean) false 2 0 0 (fun b => (some (.int (b2i b)), sh, P, σ)) 0 0 sh P σ 36 [(0, .ref (h0 + t)), (2, .int x2)] [.int (b2i j1)] (k2 j1)) ?_ (fun k2 hk3 => ?_)
      · intro j1
        refine tj_istore_n (q := 37) dX12_isNow_36 rfl (i := 1) rfl (by decide) rfl ?_
        refine tj_iinc (q := 40) (v := x2 + 1) dX12_isNow_37 rfl (pl := 2) rfl rfl (by decide) rfl ?_
        refine tj_goto (q := 4) dX12_isNow_40 (by decide) ?_
        refine tj_lv [2, 1, 0] rfl ?_
        exact ih j1 (x2 + 1)
      · refine tj_bnd (fun k4 => Tj l D cA h0 ad RX12 cX12_isNow 3 (some .boolean) false 2 0 0 (fun b => (some (.int (b2i b)), sh, P, σ)) 0 0 sh P σ 35 [(0, .ref (h0 + t)), (2, .int x2)] [] k4) ?_ (fun k4 hk5 => ?_)
        · refine tj_iconst (q := 36) (v := 0) dX12_isNow_35 rfl (by decide) ?_
          exact hk3 false
        · refine tj_bz (tgt := 35) (q := 16) dX12_isNow_13 (by decide) rfl ?_ ?_
          · refine tj_aload_n (q := 17) dX12_isNow_16 rfl (i := 0) rfl (pl := 0) rfl ?_
            refine tj_getR (q := 20) (hT).s (hT).p_w fok_12_61 wl_RX12_105 dX12_isNow_17 rfl ?_
            refine tj_iload_n (q := 21) dX12_isNow_20 rfl (i := 2) rfl (pl := 2) rfl ?_
            refine tj_iaload (q := 22) (hT).s_w dX12_isNow_21 rfl ?_
            refine tj_topI (fun v6 => ?_)
            refine tj_aload_n (q := 23) dX12_isNow_22 rfl (i := 0) rfl (pl := 0) rfl ?_
            refine tj_getR (q := 26) (hT).s (hT).p_now fok_12_60 wl_RX12_102 dX12_isNow_23 rfl ?_
            refine tj_iload_n (q := 27) dX12_isNow_26 rfl (i := 2) rfl (pl := 2) rfl ?_
            refine tj_iaload (q := 28) (hT).s_now dX12_isNow_27 rfl ?_
            refine tj_topI (fun v7 => ?_)
            refine tj_icmp_ne (tgt := 35) (q := 31) dX12_isNow_28 (by decide) rfl ?_ ?_
            · refine tj_iconst (q := 32) (v := 1) dX12_isNow_31 rfl (by decide) ?_
              refine tj_goto (q := 36) dX12_isNow_32 (by decide) ?_
              refine tj_lv [0, 2] rfl ?_
              exact hk3 true
            · refine tj_lv [0, 2] rfl ?_
              exact hk5
          · refine tj_lv [0, 2] rfl ?_
            exact hk5

set_option maxHeartbeats 4000000 in
theorem rX12_isNow (t : Nat) (hT : LY12 sh P t) : Rj l D cA h0 ad yX12_isNow cX12_isNow 3 (some .boolean) false 2 0 0 (fun b => (some (.int (b2i b)), sh, P, σ)) [.ref (h0 + t)] sh P σ (mX12_isNow t σ) := by
  rw [mX12_isNow]
  refine Rj.of (by decide) (fun h => by cases h) (Nat.le_of_ble_eq_true rfl) ?_
  refine tj_lv0 (lv' := [(0, .ref (h0 + t))]) rfl ?_
  refine tj_iconst (q := 1) (v := 1) dX12_isNow_0 rfl (by decide) ?_
  refine tj_istore_n (q := 2) dX12_isNow_1 rfl (i := 1) rfl (by decide) rfl ?_
  refine tj_iconst (q := 3) (v := 0) dX12_isNow_2 rfl (by decide) ?_
  refine tj_istore_n (q := 4) dX12_isNow_3 rfl (i := 2) rfl (by decide) rfl ?_
  refine tj_lv [2, 1, 0] rfl ?_
  exact tmX12_isNow_L4 σ t hT FU true (0 : Int32)

theorem dX12_isBox_0 : decode cX12_isBox 0 = .ok (.iload_n 0, 1) := by decide +kernel
theorem dX12_isBox_1 : decode cX12_isBox 1 = .ok (.ifCond .lt 12, 3) := by decide +kernel
theorem dX12_isBox_4 : decode cX12_isBox 4 = .ok (.iload_n 0, 1) := by decide +kernel
theorem dX12_isBox_5 : decode cX12_isBox 5 = .ok (.iconst 3, 1) := by decide +kernel
theorem dX12_isBox_6 : decode cX12_isBox 6 = .ok (.if_icmp .ge 7, 3) := by decide +kernel
theorem dX12_isBox_9 : decode cX12_isBox 9 = .ok (.iconst 1, 1) := by decide +kernel
theorem dX12_isBox_10 : decode cX12_isBox 10 = .ok (.goto 4, 3) := by decide +kernel
theorem dX12_isBox_13 : decode cX12_isBox 13 = .ok (.iconst 0, 1) := by decide +kernel
theorem dX12_isBox_14 : decode cX12_isBox 14 = .ok (.ireturn, 1) := by decide +kernel
def mX12_isBox (p1 : Int32) (σ : St_) : Option Bool :=
 (if p1 < 0 then
 (some false)
 else (if (3 : Int32) ≤ p1 then
 (some false)
 else (some true)))
set_option maxHeartbeats 4000000 in
theorem rX12_isBox (p1 : Int32)  : Rj l D cA h0 ad yX12_isBox cX12_isBox 1 (some .boolean) false 2 0 0 (fun b => (some (.int (b2i b)), sh, P, σ)) [.int p1] sh P σ (mX12_isBox p1 σ) := by
  rw [mX12_isBox]
  refine Rj.of (by decide) (fun h => by cases h) (Nat.le_of_ble_eq_true rfl) ?_
  refine tj_lv0 (lv' := [(0, .int p1)]) rfl ?_
  refine tj_iload_n (q := 1) dX12_isBox_0 rfl (i := 0) rfl (pl := 0) rfl ?_
  refine tj_if_lt (tgt := 13) (q := 4) dX12_isBox_1 (by decide) rfl ?_ ?_
  · refine tj_iconst (q := 14) (v := 0) dX12_isBox_13 rfl (by decide) ?_
    exact tj_zret rfl (by decide) rfl (Nat.le_of_ble_eq_true rfl) (Nat.le_of_ble_eq_true rfl) dX12_isBox_14
  · refine tj_iload_n (q := 5) dX12_isBox_4 rfl (i := 0) rfl (pl := 0) rfl ?_
    refine tj_iconst (q := 6) (v := 3) dX12_isBox_5 rfl (by decide) ?_
    refine tj_icmp_ge (tgt := 13) (q := 9) dX12_isBox_6 (by decide) rfl ?_ ?_
    · refine tj_iconst (q := 14) (v := 0) dX12_isBox_13 rfl (by decide) ?_
      exact tj_zret rfl (by decide) rfl (Nat.le_of_ble_eq_true rfl) (Nat.le_of_ble_eq_true rfl) dX12_isBox_14
    · refine tj_iconst (q := 10) (v := 1) dX12_isBox_9 rfl (by decide) ?_
      refine tj_goto (q := 14) dX12_isBox_10 (by decide) ?_
      exact tj_zret rfl (by decide) rfl (Nat.le_of_ble_eq_true rfl) (Nat.le_of_ble_eq_true rfl) dX12_isBox_14

theorem dX12_putWho_0 : decode cX12_putWho 0 = .ok (.aload_n 0, 1) := by decide +kernel
theorem dX12_putWho_1 : decode cX12_putWho 1 = .ok (.iload_n 1, 1) := by decide +kernel
theorem dX12_putWho_2 : decode cX12_putWho 2 = .ok (.invokevirtual 547, 3) := by decide +kernel
theorem dX12_putWho_5 : decode cX12_putWho 5 = .ok (.aload_n 0, 1) := by decide +kernel
theorem dX12_putWho_6 : decode cX12_putWho 6 = .ok (.aload_n 0, 1) := by decide +kernel
theorem dX12_putWho_7 : decode cX12_putWho 7 = .ok (.getfield 456, 3) := by decide +kernel
theorem dX12_putWho_10 : decode cX12_putWho 10 = .ok (.invokevirtual 547, 3) := by decide +kernel
theorem dX12_putWho_13 : decode cX12_putWho 13 = .ok (.aload_n 0, 1) := by decide +kernel
theorem dX12_putWho_14 : decode cX12_putWho 14 = .ok (.iload_n 2, 1) := by decide +kernel
theorem dX12_putWho_15 : decode cX12_putWho 15 = .ok (.invokevirtual 554, 3) := by decide +kernel
theorem dX12_putWho_18 : decode cX12_putWho 18 = .ok (.return_, 1) := by decide +kernel
def mX12_putWho (t : Nat) (p1 : Int32) (p2 : Int32) (σ : St_) : Option St_ :=
 ((mX12_lay t p1 σ).bind fun σ1 =>
 ((mX12_lay t (σ1.1 t 62) σ1).bind fun σ2 =>
 ((mX12_laySwap t p2 σ2).bind fun σ3 =>
 (some σ3))))
set_option maxHeartbeats 4000000 in
theorem rX12_putWho (t : Nat) (p1 : Int32) (p2 : Int32) (hT : LY12 sh P t) : Rj l D cA h0 ad yX12_putWho cX12_putWho 3 none false 4 0 0 (fun b => (none, sh, P, b)) [.ref (h0 + t), .int p1, .int p2] sh P σ (mX12_putWho t p1 p2 σ) := by
  rw [mX12_putWho]
  refine Rj.of (by decide) (fun h => by cases h) (Nat.le_of_ble_eq_true rfl) ?_
  refine tj_lv0 (lv' := [(0, .ref (h0 + t)), (1, .int p1), (2, .int p2)]) rfl ?_
  refine tj_aload_n (q := 1) dX12_putWho_0 rfl (i := 0) rfl (pl := 0) rfl ?_
  refine tj_iload_n (q := 2) dX12_putWho_1 rfl (i := 1) rfl (pl := 1) rfl ?_
  refine tj_callV (q := 5) (kj_V (As := [.int p1]) (rest := []) (t := t) wi_RX12_547 (hT).s rfl (rX12_lay t p1 (hT)) rfl (Nat.le_of_ble_eq_true rfl) ⟨Nat.le_of_ble_eq_true rfl, Nat.le_of_ble_eq_true rfl⟩ (Nat.le_of_ble_eq_true rfl) dX12_putWho_2) rfl (fun σ1 => ?_)
  refine tj_aload_n (q := 6) dX12_putWho_5 rfl (i := 0) rfl (pl := 0) rfl ?_
  refine tj_aload_n (q := 7) dX12_putWho_6 rfl (i := 0) rfl (pl := 0) rfl ?_
  refine tj_getI (q := 10) (hT).s fok_12_62 wl_RX12_456 dX12_putWho_7 rfl ?_
  refine tj_callV (q := 13) (kj_V (As := [.int (σ1.1 t 62)]) (rest := []) (t := t) wi_RX12_547 (hT).s rfl (rX12_lay t (σ1.1 t 62) (hT)) rfl (Nat.le_of_ble_eq_true rfl) ⟨Nat.le_of_ble_eq_true rfl, Nat.le_of_ble_eq_true rfl⟩ (Nat.le_of_ble_eq_true rfl) dX12_putWho_10) rfl (fun σ2 => ?_)
  refine tj_aload_n (q := 14) dX12_putWho_13 rfl (i := 0) rfl (pl := 0) rfl ?_
  refine tj_iload_n (q := 15) dX12_putWho_14 rfl (i := 2) rfl (pl := 2) rfl ?_
  refine tj_callV (q := 18) (kj_V (As := [.int p2]) (rest := []) (t := t) wi_RX12_554 (hT).s rfl (rX12_laySwap t p2 (hT)) rfl (Nat.le_of_ble_eq_true rfl) ⟨Nat.le_of_ble_eq_true rfl, Nat.le_of_ble_eq_true rfl⟩ (Nat.le_of_ble_eq_true rfl) dX12_putWho_15) rfl (fun σ3 => ?_)
  exact tj_vret rfl rfl (Nat.le_of_ble_eq_true rfl) (Nat.le_of_ble_eq_true rfl) dX12_putWho_18

theorem dX12_who_0 : decode cX12_who 0 = .ok (.aload_n 0, 1) := by decide +kernel
theorem dX12_who_1 : decode cX12_who 1 = .ok (.iconst 0, 1) := by decide +kernel
theorem dX12_who_2 : decode cX12_who 2 = .ok (.putfield 443, 3) := by decide +kernel
theorem dX12_who_5 : decode cX12_who 5 = .ok (.iload_n 1, 1) := by decide +kernel
theorem dX12_who_6 : decode cX12_who 6 = .ok (.invokestatic 602, 3) := by decide +kernel
theorem dX12_who_9 : decode cX12_who 9 = .ok (.ifCond .eq 12, 3) := by decide +kernel
theorem dX12_who_12 : decode cX12_who 12 = .ok (.aload_n 0, 1) := by decide +kernel
theorem dX12_who_13 : decode cX12_who 13 = .ok (.getfield 157, 3) := by decide +kernel
theorem dX12_who_16 : decode cX12_who 16 = .ok (.iload_n 1, 1) := by decide +kernel
theorem dX12_who_17 : decode cX12_who 17 = .ok (.baload, 1) := by decide +kernel
theorem dX12_who_18 : decode cX12_who 18 = .ok (.ifCond .ne 5, 3) := by decide +kernel
theorem dX12_who_21 : decode cX12_who 21 = .ok (.iconst (-1), 1) := by decide +kernel
theorem dX12_who_22 : decode cX12_who 22 = .ok (.ireturn, 1) := by decide +kernel
theorem dX12_who_23 : decode cX12_who 23 = .ok (.iconst 0, 1) := by decide +kernel
theorem dX12_who_24 : decode cX12_who 24 = .ok (.istore_n 2, 1) := by decide +kernel
theorem dX12_who_25 : decode cX12_who 25 = .ok (.aload_n 0, 1) := by decide +kernel
theorem dX12_who_26 : decode cX12_who 26 = .ok (.iconst 0, 1) := by decide +kernel
theorem dX12_who_27 : decode cX12_who 27 = .ok (.putfield 459, 3) := by decide +kernel
theorem dX12_who_30 : decode cX12_who 30 = .ok (.iconst 0, 1) := by decide +kernel
theorem dX12_who_31 : decode cX12_who 31 = .ok (.istore_n 3, 1) := by decide +kernel
theorem dX12_who_32 : decode cX12_who 32 = .ok (.iload_n 3, 1) := by decide +kernel
theorem dX12_who_33 : decode cX12_who 33 = .ok (.aload_n 0, 1) := by decide +kernel
theorem dX12_who_34 : decode cX12_who 34 = .ok (.getfield 425, 3) := by decide +kernel
theorem dX12_who_37 : decode cX12_who 37 = .ok (.aload_n 0, 1) := by decide +kernel
theorem dX12_who_38 : decode cX12_who 38 = .ok (.getfield 99, 3) := by decide +kernel
theorem dX12_who_41 : decode cX12_who 41 = .ok (.imul, 1) := by decide +kernel
theorem dX12_who_42 : decode cX12_who 42 = .ok (.if_icmp .ge 96, 3) := by decide +kernel
theorem dX12_who_45 : decode cX12_who 45 = .ok (.iload_n 3, 1) := by decide +kernel
theorem dX12_who_46 : decode cX12_who 46 = .ok (.aload_n 0, 1) := by decide +kernel
theorem dX12_who_47 : decode cX12_who 47 = .ok (.getfield 99, 3) := by decide +kernel
theorem dX12_who_50 : decode cX12_who 50 = .ok (.idiv, 1) := by decide +kernel
theorem dX12_who_51 : decode cX12_who 51 = .ok (.istore 4, 2) := by decide +kernel
theorem dX12_who_53 : decode cX12_who 53 = .ok (.aload_n 0, 1) := by decide +kernel
theorem dX12_who_54 : decode cX12_who 54 = .ok (.iload_n 3, 1) := by decide +kernel
theorem dX12_who_55 : decode cX12_who 55 = .ok (.aload_n 0, 1) := by decide +kernel
theorem dX12_who_56 : decode cX12_who 56 = .ok (.getfield 99, 3) := by decide +kernel
theorem dX12_who_59 : decode cX12_who 59 = .ok (.irem, 1) := by decide +kernel
theorem dX12_who_60 : decode cX12_who 60 = .ok (.putfield 456, 3) := by decide +kernel
theorem dX12_who_63 : decode cX12_who 63 = .ok (.aload_n 0, 1) := by decide +kernel
theorem dX12_who_64 : decode cX12_who 64 = .ok (.iload_n 1, 1) := by decide +kernel
theorem dX12_who_65 : decode cX12_who 65 = .ok (.invokevirtual 605, 3) := by decide +kernel
theorem dX12_who_68 : decode cX12_who 68 = .ok (.aload_n 0, 1) := by decide +kernel
theorem dX12_who_69 : decode cX12_who 69 = .ok (.iload 4, 2) := by decide +kernel
theorem dX12_who_71 : decode cX12_who 71 = .ok (.iconst 0, 1) := by decide +kernel
theorem dX12_who_72 : decode cX12_who 72 = .ok (.invokevirtual 541, 3) := by decide +kernel
theorem dX12_who_75 : decode cX12_who 75 = .ok (.istore 5, 2) := by decide +kernel
theorem dX12_who_77 : decode cX12_who 77 = .ok (.iload 5, 2) := by decide +kernel
theorem dX12_who_79 : decode cX12_who 79 = .ok (.ifCond .lt 53, 3) := by decide +kernel
theorem dX12_who_82 : decode cX12_who 82 = .ok (.aload_n 0, 1) := by decide +kernel
theorem dX12_who_83 : decode cX12_who 83 = .ok (.iload 4, 2) := by decide +kernel
theorem dX12_who_85 : decode cX12_who 85 = .ok (.iload 5, 2) := by decide +kernel
theorem dX12_who_87 : decode cX12_who 87 = .ok (.invokevirtual 569, 3) := by decide +kernel
theorem dX12_who_90 : decode cX12_who 90 = .ok (.aload_n 0, 1) := by decide +kernel
theorem dX12_who_91 : decode cX12_who 91 = .ok (.invokevirtual 608, 3) := by decide +kernel
theorem dX12_who_94 : decode cX12_who 94 = .ok (.ifCond .eq 18, 3) := by decide +kernel
theorem dX12_who_97 : decode cX12_who 97 = .ok (.iload_n 2, 1) := by decide +kernel
theorem dX12_who_98 : decode cX12_who 98 = .ok (.ifCond .ne 11, 3) := by decide +kernel
theorem dX12_who_101 : decode cX12_who 101 = .ok (.aload_n 0, 1) := by decide +kernel
theorem dX12_who_102 : decode cX12_who 102 = .ok (.iload 4, 2) := by decide +kernel
theorem dX12_who_104 : decode cX12_who 104 = .ok (.iload 5, 2) := by decide +kernel
theorem dX12_who_106 : decode cX12_who 106 = .ok (.invokevirtual 611, 3) := by decide +kernel
theorem dX12_who_109 : decode cX12_who 109 = .ok (.iinc 2 1, 3) := by decide +kernel
theorem dX12_who_112 : decode cX12_who 112 = .ok (.aload_n 0, 1) := by decide +kernel
theorem dX12_who_113 : decode cX12_who 113 = .ok (.iload_n 1, 1) := by decide +kernel
theorem dX12_who_114 : decode cX12_who 114 = .ok (.invokevirtual 605, 3) := by decide +kernel
theorem dX12_who_117 : decode cX12_who 117 = .ok (.aload_n 0, 1) := by decide +kernel
theorem dX12_who_118 : decode cX12_who 118 = .ok (.iload 4, 2) := by decide +kernel
theorem dX12_who_120 : decode cX12_who 120 = .ok (.iload 5, 2) := by decide +kernel
theorem dX12_who_122 : decode cX12_who 122 = .ok (.iconst 1, 1) := by decide +kernel
theorem dX12_who_123 : decode cX12_who 123 = .ok (.iadd, 1) := by decide +kernel
theorem dX12_who_124 : decode cX12_who 124 = .ok (.invokevirtual 541, 3) := by decide +kernel
theorem dX12_who_127 : decode cX12_who 127 = .ok (.istore 5, 2) := by decide +kernel
theorem dX12_who_129 : decode cX12_who 129 = .ok (.goto (-52), 3) := by decide +kernel
theorem dX12_who_132 : decode cX12_who 132 = .ok (.iinc 3 1, 3) := by decide +kernel
theorem dX12_who_135 : decode cX12_who 135 = .ok (.goto (-103), 3) := by decide +kernel
theorem dX12_who_138 : decode cX12_who 138 = .ok (.iload_n 2, 1) := by decide +kernel
theorem dX12_who_139 : decode cX12_who 139 = .ok (.ireturn, 1) := by decide +kernel
theorem wm_X12_isBox : Cond.static yX12_isBox ∈ TB ∧ Cond.initialized yX12_isBox.cls ∈ TB ∧ Cond.code yX12_isBox cX12_isBox 1 (some .boolean) ∈ TB ∧ (yX12_isBox.cls ≠ "java/lang/invoke/MethodHandle" ∧ yX12_isBox.cls ≠ "java/lang/invoke/VarHandle" ∧ (parseMethodDescriptor yX12_isBox.desc).map (fun d => d.parameters.length) = some 1) ∧ 1 ≤ 21 := ⟨tbm 2138 (by decide +kernel) (by decide +kernel), tbm 146 (by decide +kernel) (by decide +kernel), tbm 2139 (by decide +kernel) (by decide +kernel), by decide +kernel, by decide⟩
theorem wi_RX12_602 : Is RX12 602 yX12_isBox cX12_isBox 1 (some .boolean) 1 := ⟨tbm 2137 (by decide +kernel) (by decide +kernel), wm_X12_isBox⟩
theorem wm_X12_loadBox : Cond.instanceMethod yX12_loadBox ∈ TB ∧ Cond.selects yX12_loadBox.cls yX12_loadBox yX12_loadBox ∈ TB ∧ Cond.initialized yX12_loadBox.cls ∈ TB ∧ Cond.code yX12_loadBox cX12_loadBox 3 none ∈ TB ∧ (yX12_loadBox.cls ≠ "java/lang/invoke/MethodHandle" ∧ yX12_loadBox.cls ≠ "java/lang/invoke/VarHandle" ∧ (parseMethodDescriptor yX12_loadBox.desc).map (fun d => d.parameters.length) = some 1) ∧ 3 ≤ 21 := ⟨tbm 2142 (by decide +kernel) (by decide +kernel), tbm 127 (by decide +kernel) (by decide +kernel), tbm 146 (by decide +kernel) (by decide +kernel), tbm 2143 (by decide +kernel) (by decide +kernel), by decide +kernel, by decide⟩
theorem wi_RX12_605 : Iv RX12 605 yX12_loadBox cX12_loadBox 3 none 1 := ⟨tbm 2140 (by decide +kernel) (by decide +kernel), wm_X12_loadBox⟩
theorem wm_X12_isNow : Cond.instanceMethod yX12_isNow ∈ TB ∧ Cond.selects yX12_isNow.cls yX12_isNow yX12_isNow ∈ TB ∧ Cond.initialized yX12_isNow.cls ∈ TB ∧ Cond.code yX12_isNow cX12_isNow 3 (some .boolean) ∈ TB ∧ (yX12_isNow.cls ≠ "java/lang/invoke/MethodHandle" ∧ yX12_isNow.cls ≠ "java/lang/invoke/VarHandle" ∧ (parseMethodDescriptor yX12_isNow.desc).map (fun d => d.parameters.length) = some 0) ∧ 3 ≤ 21 := ⟨tbm 2146 (by decide +kernel) (by decide +kernel), tbm 128 (by decide +kernel) (by decide +kernel), tbm 146 (by decide +kernel) (by decide +kernel), tbm 2147 (by decide +kernel) (by decide +kernel), by decide +kernel, by decide⟩
theorem wi_RX12_608 : Iv RX12 608 yX12_isNow cX12_isNow 3 (some .boolean) 0 := ⟨tbm 2144 (by decide +kernel) (by decide +kernel), wm_X12_isNow⟩
theorem wm_X12_putWho : Cond.instanceMethod yX12_putWho ∈ TB ∧ Cond.selects yX12_putWho.cls yX12_putWho yX12_putWho ∈ TB ∧ Cond.initialized yX12_putWho.cls ∈ TB ∧ Cond.code yX12_putWho cX12_putWho 3 none ∈ TB ∧ (yX12_putWho.cls ≠ "java/lang/invoke/MethodHandle" ∧ yX12_putWho.cls ≠ "java/lang/invoke/VarHandle" ∧ (parseMethodDescriptor yX12_putWho.desc).map (fun d => d.parameters.length) = some 2) ∧ 3 ≤ 21 := ⟨tbm 2150 (by decide +kernel) (by decide +kernel), tbm 129 (by decide +kernel) (by decide +kernel), tbm 146 (by decide +kernel) (by decide +kernel), tbm 2151 (by decide +kernel) (by decide +kernel), by decide +kernel, by decide⟩
theorem wi_RX12_611 : Iv RX12 611 yX12_putWho cX12_putWho 3 none 2 := ⟨tbm 2148 (by decide +kernel) (by decide +kernel), wm_X12_putWho⟩
def mX12_who_L77 (t : Nat) (x1 : Int32) (x3 : Int32) (x4 : Int32) (k132 : Int32 → St_ → Option (Int32 × St_)) : Nat → Int32 → Int32 → St_ → Option (Int32 × St_)
  | 0, _, _, _ => none
  | n + 1, x2, x5, σ => (if x5 < 0 then
 (k132 x2 σ)
 else ((mX12_doSwap t x4 x5 σ).bind fun σ12 =>
 ((mX12_isNow t σ12).bind fun r13 =>
 (bnd (fun (j14 : Int32) (σ15 : St_) => ((mX12_loadBox t x1 σ15).bind fun σ18 =>
 ((mX12_nextSwap t x4 (x5 + (1 : Int32)) σ18).bind fun r19 =>
 (mX12_who_L77 t x1 x3 x4 k132 n j14 r19.1 r19.2)))) fun k16 =>
 (if r13 = true then
 (bnd (fun (σ20 : St_) => (k16 (x2 + 1) σ20)) fun k21 =>
 (if x2 = 0 then
 ((mX12_putWho t x4 x5 σ12).bind fun σ23 =>
 (k21 σ23))
 else (k21 σ12)))
 else (k16 x2 σ12))))))
def mX12_who_L32 (t : Nat) (x1 : Int32) : Nat → Int32 → Int32 → St_ → Option (Int32 × St_)
  | 0, _, _, _ => none
  | n + 1, x2, x3, σ => (if ((σ.1 t 54) * (σ.1 t 55)) ≤ x3 then
 (some (x2, σ))
 else (if (σ.1 t 55) = 0 then none else
 (bnd (x3 / (σ.1 t 55)) fun v6 =>
 (bnd (σ.1 t 55) fun v7 =>
 (if v7 = 0 then none else
 (bnd (sI σ t 62 (x3 - x3 / v7 * v7)) fun σ9 =>
 ((mX12_loadBox t x1 σ9).bind fun σ10 =>
 ((mX12_nextSwap t v6 (0 : Int32) σ10).bind fun r11 =>
 (mX12_who_L77 t x1 x3 v6
 (fun (y24 : Int32) (σ25 : St_) => (mX12_who_L32 t x1 n y24 (x3 + 1) σ25)) FU x2 r11.1 r11.2)))))))))
def mX12_who (t : Nat) (p1 : Int32) (σ : St_) : Option (Int32 × St_) :=
 (bnd (sI σ t 71 (0 : Int32)) fun σ1 =>
 ((mX12_isBox p1 σ1).bind fun r2 =>
 (if r2 = true then
 (if bin p1 3 = true then if isB (σ1.1 (t + 45) p1.toNatClampNeg) = true then bnd (σ1.1 (t + 45) p1.toNatClampNeg == 1) fun v3 =>
 (if v3 = true then
 (bnd (sI σ1 t 63 (0 : Int32)) fun σ4 =>
 (mX12_who_L32 t p1 FU (0 : Int32) (0 : Int32) σ4))
 else (some ((-1 : Int32), σ1)))
 else none else none)
 else (some ((-1 : Int32), σ1)))))
set_option maxHeartbeats 4000000 in
theorem tmX12_who_L77 (t : Nat) (hT : LY12 sh P t) (x1 : Int32) (x3 : Int32) (x4 : Int32) (k132 : Int32 → St_ → Option (Int32 × St_)) (hk132 : ∀ (y2 : Int32) (σ1 : St_), Tj l D cA h0 ad RX12 cX12_who 6 (some .int) false 8 0 0 (fun b => (some (.int b.1), sh, P, b.2)) 0 0 sh P σ1 132 [(0, .ref (h0 + t)), (1, .int x1), (2, .int y2), (3, .int x3)] [] (k132 y2 σ1)) : ∀ (n : Nat) (x2 : Int32) (x5 : Int32) (σ : St_), Tj l D cA h0 ad RX12 cX12_who 6 (some .int) false 8 0 0 (fun b => (some (.int b.1), sh, P, b.2)) 0 0 sh P σ 77 [(0, .ref (h0 + t)), (1, .int x1), (2, .int x2), (3, .int x3), (4, .int x4), (5, .int x5)] [] (mX12_who_L77 t x1 x3 x4 k132 n x2 x5 σ) := by
  intro n
  induction n with
  | zero => intros; exact tj_none
  | succ n ih =>
    intro x2 x5 σ
    rw [mX12_who_L77]
    refine tj_iload (q := 79) dX12_who_77 rfl (pl := 5) rfl ?_
    refine tj_if_lt (tgt := 132) (q := 82) dX12_who_79 (by decide) rfl ?_ ?_
    · refine tj_lv [0, 1, 2, 3] rfl ?_
      exact hk132 x2 σ
    · refine tj_aload_n (q := 83) dX12_who_82 rfl (i := 0) rfl (pl := 0) rfl ?_
      refine tj_iload (q := 85) dX12_who_83 rfl (pl := 4) rfl ?_
      refine tj_iload (q := 87) dX12_who_85 rfl (pl := 5) rfl ?_
      refine tj_callV (q := 90) (kj_V (As := [.int x4, .int x5]) (rest := []) (t := t) wi_RX12_569 (hT).s rfl (rX12_doSwap t x4 x5 (hT)) rfl (Nat.le_of_ble_eq_true rfl) ⟨Nat.le_of_ble_eq_true rfl, Nat.le_of_ble_eq_true rfl⟩ (Nat.le_of_ble_eq_true rfl) dX12_who_87) rfl (fun σ12 => ?_)
      refine tj_aload_n (q := 91) dX12_who_90 rfl (i := 0) rfl (pl := 0) rfl ?_
      refine tj_callZp (q := 94) (kj_V (As := []) (rest := []) (t := t) wi_RX12_608 (hT).s rfl (rX12_isNow t (hT)) rfl (Nat.le_of_ble_eq_true rfl) ⟨Nat.le_of_ble_eq_true rfl, Nat.le_of_ble_eq_true rfl⟩ (Nat.le_of_ble_eq_true rfl) dX12_who_91) rfl (fun r13 => ?_)
      refine tj_bnd (fun k16 => ∀ (j14 : Int32) (σ15 : St_), Tj l D cA h0 ad RX12 cX12_who 6 (some .int) false 8 0 0 (fun b => (some (.int b.1), sh, P, b.2)) 0 0 sh P σ15 112 [(0, .ref (h0 + t)), (1, .int x1), (2, .int j14), (3, .int x3), (4, .int x4), (5, .int x5)] [] (k16 j14 σ15)) ?_ (fun k16 hk17 => ?_)
      · intro j14 σ15
        refine tj_aload_n (q := 113) dX12_who_112 rfl (i := 0) rfl (pl := 0) rfl ?_
        refine tj_iload_n (q := 114) dX12_who_113 rfl (i := 1) rfl (pl := 1) rfl ?_
        refine tj_callV (q := 117) (kj_V (As := [.int x1]) (rest := []) (t := t) wi_RX12_605 (hT).s rfl (rX12_loadBox t x1 (hT)) rfl (Nat.le_of_ble_eq_true rfl) ⟨Nat.le_of_ble_eq_true rfl, Nat.le_of_ble_eq_true rfl⟩ (Nat.le_of_ble_eq_true rfl) dX12_who_114) rfl (fun σ18 => ?_)
        refine tj_aload_n (q := 118) dX12_who_117 rfl (i := 0) rfl (pl := 0) rfl ?_
        refine tj_iload (q := 120) dX12_who_118 rfl (pl := 4) rfl ?_
        refine tj_iload (q := 122) dX12_who_120 rfl (pl := 5) rfl ?_
        refine tj_iconst (q := 123) (v := 1) dX12_who_122 rfl (by decide) ?_
        refine tj_iadd (q := 124) dX12_who_123 rfl ?_
        refine tj_callI (q := 127) (kj_V (As := [.int x4, .int (x5 + (1 : Int32))]) (rest := []) (t := t) wi_RX12_541 (hT).s rfl (rX12_nextSwap t x4 (x5 + (1 : Int32)) (hT)) rfl (Nat.le_of_ble_eq_true rfl) ⟨Nat.le_of_ble_eq_true rfl, Nat.le_of_ble_eq_true rfl⟩ (Nat.le_of_ble_eq_true rfl) dX12_who_124) rfl (fun r19 => ?_)
        refine tj_istore (q := 129) dX12_who_127 rfl (by decide) rfl ?_
        refine tj_goto (q := 77) dX12_who_129 (by decide) ?_
        refine tj_lv [1, 2, 3, 4, 5, 0] rfl ?_
        exact ih j14 r19.1 r19.2
      · refine tj_bz (tgt := 112) (q := 97) dX12_who_94 (by decide) rfl ?_ ?_
        · refine tj_iload_n (q := 98) dX12_who_97 rfl (i := 2) rfl (pl := 2) rfl ?_
          refine tj_bnd (fun k21 => ∀ (σ20 : St_), Tj l D cA h0 ad RX12 cX12_who 6 (some .int) false 8 0 0 (fun b => (some (.int b.1), sh, P, b.2)) 0 0 sh P σ20 109 [(0, .ref (h0 + t)), (1, .int x1), (2, .int x2), (3, .int x3), (4, .int x4), (5, .int x5)] [] (k21 σ20)) ?_ (fun k21 hk22 => ?_)
          · intro σ20
            refine tj_iinc (q := 112) (v := x2 + 1) dX12_who_109 rfl (pl := 2) rfl rfl (by decide) rfl ?_
            refine tj_lv [1, 2, 0, 3, 4, 5] rfl ?_
            exact hk17 (x2 + 1) σ20
          · refine tj_if_ne (tgt := 109) (q := 101) dX12_who_98 (by decide) rfl ?_ ?_
            · refine tj_aload_n (q := 102) dX12_who_101 rfl (i := 0) rfl (pl := 0) rfl ?_
              refine tj_iload (q := 104) dX12_who_102 rfl (pl := 4) rfl ?_
              refine tj_iload (q := 106) dX12_who_104 rfl (pl := 5) rfl ?_
              refine tj_callV (q := 109) (kj_V (As := [.int x4, .int x5]) (rest := []) (t := t) wi_RX12_611 (hT).s rfl (rX12_putWho t x4 x5 (hT)) rfl (Nat.le_of_ble_eq_true rfl) ⟨Nat.le_of_ble_eq_true rfl, Nat.le_of_ble_eq_true rfl⟩ (Nat.le_of_ble_eq_true rfl) dX12_who_106) rfl (fun σ23 => ?_)
              exact hk22 σ23
            · exact hk22 σ12
        · exact hk17 x2 σ12

set_option maxHeartbeats 4000000 in
theorem tmX12_who_L32 (t : Nat) (hT : LY12 sh P t) (x1 : Int32) : ∀ (n : Nat) (x2 : Int32) (x3 : Int32) (σ : St_), Tj l D cA h0 ad RX12 cX12_who 6 (some .int) false 8 0 0 (fun b => (some (.int b.1), sh, P, b.2)) 0 0 sh P σ 32 [(0, .ref (h0 + t)), (1, .int x1), (2, .int x2), (3, .int x3)] [] (mX12_who_L32 t x1 n x2 x3 σ) := by
  intro n
  induction n with
  | zero => intros; exact tj_none
  | succ n ih =>
    intro x2 x3 σ
    rw [mX12_who_L32]
    refine tj_iload_n (q := 33) dX12_who_32 rfl (i := 3) rfl (pl := 3) rfl ?_
    refine tj_aload_n (q := 34) dX12_who_33 rfl (i := 0) rfl (pl := 0) rfl ?_
    refine tj_getI (q := 37) (hT).s fok_12_54 wl_RX12_425 dX12_who_34 rfl ?_
    refine tj_aload_n (q := 38) dX12_who_37 rfl (i := 0) rfl (pl := 0) rfl ?_
    refine tj_getI (q := 41) (hT).s fok_12_55 wl_RX12_99 dX12_who_38 rfl ?_
    refine tj_imul (q := 42) dX12_who_41 rfl ?_
    refine tj_icmp_ge (tgt := 138) (q := 45) dX12_who_42 (by decide) rfl ?_ ?_
    · refine tj_iload_n (q := 139) dX12_who_138 rfl (i := 2) rfl (pl := 2) rfl ?_
      exact tj_iret rfl rfl (Nat.le_of_ble_eq_true rfl) (Nat.le_of_ble_eq_true rfl) dX12_who_139
    · refine tj_iload_n (q := 46) dX12_who_45 rfl (i := 3) rfl (pl := 3) rfl ?_
      refine tj_aload_n (q := 47) dX12_who_46 rfl (i := 0) rfl (pl := 0) rfl ?_
      refine tj_getI (q := 50) (hT).s fok_12_55 wl_RX12_99 dX12_who_47 rfl ?_
      refine tj_gne (y := (σ.1 t 55)) (fun hn5 => ?_)
      refine tj_idiv (q := 51) dX12_who_50 rfl hn5 ?_
      refine tj_topI (fun v6 => ?_)
      refine tj_istore (q := 53) dX12_who_51 rfl (by decide) rfl ?_
      refine tj_aload_n (q := 54) dX12_who_53 rfl (i := 0) rfl (pl := 1) rfl ?_
      refine tj_iload_n (q := 55) dX12_who_54 rfl (i := 3) rfl (pl := 4) rfl ?_
      refine tj_aload_n (q := 56) dX12_who_55 rfl (i := 0) rfl (pl := 1) rfl ?_
      refine tj_getI (q := 59) (hT).s fok_12_55 wl_RX12_99 dX12_who_56 rfl ?_
      refine tj_topI (fun v7 => ?_)
      refine tj_gne (y := v7) (fun hn8 => ?_)
      refine tj_irem (q := 60) dX12_who_59 rfl hn8 ?_
      refine tj_putI (q := 63) (hT).s fok_12_62 tok_12 fpk_12_62 wl_RX12_456 dX12_who_60 rfl (fun σ9 => ?_)
      refine tj_aload_n (q := 64) dX12_who_63 rfl (i := 0) rfl (pl := 1) rfl ?_
      refine tj_iload_n (q := 65) dX12_who_64 rfl (i := 1) rfl (pl := 2) rfl ?_
      refine tj_callV (q := 68) (kj_V (As := [.int x1]) (rest := []) (t := t) wi_RX12_605 (hT).s rfl (rX12_loadBox t x1 (hT)) rfl (Nat.le_of_ble_eq_true rfl) ⟨Nat.le_of_ble_eq_true rfl, Nat.le_of_ble_eq_true rfl⟩ (Nat.le_of_ble_eq_true rfl) dX12_who_65) rfl (fun σ10 => ?_)
      refine tj_aload_n (q := 69) dX12_who_68 rfl (i := 0) rfl (pl := 1) rfl ?_
      refine tj_iload (q := 71) dX12_who_69 rfl (pl := 0) rfl ?_
      refine tj_iconst (q := 72) (v := 0) dX12_who_71 rfl (by decide) ?_
      refine tj_callI (q := 75) (kj_V (As := [.int v6, .int (0 : Int32)]) (rest := []) (t := t) wi_RX12_541 (hT).s rfl (rX12_nextSwap t v6 (0 : Int32) (hT)) rfl (Nat.le_of_ble_eq_true rfl) ⟨Nat.le_of_ble_eq_true rfl, Nat.le_of_ble_eq_true rfl⟩ (Nat.le_of_ble_eq_true rfl) dX12_who_72) rfl (fun r11 => ?_)
      refine tj_istore (q := 77) dX12_who_75 rfl (by decide) rfl ?_
      refine tj_lv [2, 3, 4, 5, 1, 0] rfl ?_
      refine tmX12_who_L77 t hT x1 x3 v6 _ ?_ FU x2 r11.1 r11.2
      · intro y24 σ25
        refine tj_iinc (q := 135) (v := x3 + 1) dX12_who_132 rfl (pl := 3) rfl rfl (by decide) rfl ?_
        refine tj_goto (q := 32) dX12_who_135 (by decide) ?_
        refine tj_lv [1, 2, 3, 0] rfl ?_
        exact ih y24 (x3 + 1) σ25

set_option maxHeartbeats 4000000 in
theorem rX12_who (t : Nat) (p1 : Int32) (hT : LY12 sh P t) : Rj l D cA h0 ad yX12_who cX12_who 6 (some .int) false 8 0 0 (fun b => (some (.int b.1), sh, P, b.2)) [.ref (h0 + t), .int p1] sh P σ (mX12_who t p1 σ) := by
  rw [mX12_who]
  refine Rj.of (by decide) (fun h => by cases h) (Nat.le_of_ble_eq_true rfl) ?_
  refine tj_lv0 (lv' := [(0, .ref (h0 + t)), (1, .int p1)]) rfl ?_
  refine tj_aload_n (q := 1) dX12_who_0 rfl (i := 0) rfl (pl := 0) rfl ?_
  refine tj_iconst (q := 2) (v := 0) dX12_who_1 rfl (by decide) ?_
  refine tj_putI (q := 5) (hT).s fok_12_71 tok_12 fpk_12_71 wl_RX12_443 dX12_who_2 rfl (fun σ1 => ?_)
  refine tj_iload_n (q := 6) dX12_who_5 rfl (i := 1) rfl (pl := 1) rfl ?_
  refine tj_callZp (q := 9) (kj_S (As := [.int p1]) (rest := []) wi_RX12_602 (rX12_isBox p1) rfl (Nat.le_of_ble_eq_true rfl) ⟨Nat.le_of_ble_eq_true rfl, Nat.le_of_ble_eq_true rfl⟩ (Nat.le_of_ble_eq_true rfl) dX12_who_6) rfl (fun r2 => ?_)
  refine tj_bz (tgt := 21) (q := 12) dX12_who_9 (by decide) rfl ?_ ?_
  · refine tj_aload_n (q := 13) dX12_who_12 rfl (i := 0) rfl (pl := 0) rfl ?_
    refine tj_getR (q := 16) (hT).s (hT).p_hasBox fok_12_89 wl_RX12_157 dX12_who_13 rfl ?_
    refine tj_iload_n (q := 17) dX12_who_16 rfl (i := 1) rfl (pl := 1) rfl ?_
    refine tj_zaloadB (q := 18) (hT).s_hasBox dX12_who_17 rfl (fun v3 => ?_)
    refine tj_bnz (tgt := 23) (q := 21) dX12_who_18 (by decide) rfl ?_ ?_
    · refine tj_iconst (q := 24) (v := 0) dX12_who_23 rfl (by decide) ?_
      refine tj_istore_n (q := 25) dX12_who_24 rfl (i := 2) rfl (by decide) rfl ?_
      refine tj_aload_n (q := 26) dX12_who_25 rfl (i := 0) rfl (pl := 1) rfl ?_
      refine tj_iconst (q := 27) (v := 0) dX12_who_26 rfl (by decide) ?_
      refine tj_putI (q := 30) (hT).s fok_12_63 tok_12 fpk_12_63 wl_RX12_459 dX12_who_27 rfl (fun σ4 => ?_)
      refine tj_iconst (q := 31) (v := 0) dX12_who_30 rfl (by decide) ?_
      refine tj_istore_n (q := 32) dX12_who_31 rfl (i := 3) rfl (by decide) rfl ?_
      refine tj_lv [2, 3, 1, 0] rfl ?_
      exact tmX12_who_L32 t hT p1 FU (0 : Int32) (0 : Int32) σ4
    · refine tj_iconst (q := 22) (v := (-1)) dX12_who_21 rfl (by decide) ?_
      exact tj_iret rfl rfl (Nat.le_of_ble_eq_true rfl) (Nat.le_of_ble_eq_true rfl) dX12_who_22
  · refine tj_iconst (q := 22) (v := (-1)) dX12_who_21 rfl (by decide) ?_
    exact tj_iret rfl rfl (Nat.le_of_ble_eq_true rfl) (Nat.le_of_ble_eq_true rfl) dX12_who_22

theorem dX12_lies_0 : decode cX12_lies 0 = .ok (.iload_n 1, 1) := by decide +kernel
theorem dX12_lies_1 : decode cX12_lies 1 = .ok (.iconst 0, 1) := by decide +kernel
theorem dX12_lies_2 : decode cX12_lies 2 = .ok (.aload_n 0, 1) := by decide +kernel
theorem dX12_lies_3 : decode cX12_lies 3 = .ok (.getfield 443, 3) := by decide +kernel
theorem dX12_lies_6 : decode cX12_lies 6 = .ok (.iconst 1, 1) := by decide +kernel
theorem dX12_lies_7 : decode cX12_lies 7 = .ok (.isub, 1) := by decide +kernel
theorem dX12_lies_8 : decode cX12_lies 8 = .ok (.invokestatic 446, 3) := by decide +kernel
theorem dX12_lies_11 : decode cX12_lies 11 = .ok (.ifCond .eq 12, 3) := by decide +kernel
theorem dX12_lies_14 : decode cX12_lies 14 = .ok (.aload_n 0, 1) := by decide +kernel
theorem dX12_lies_15 : decode cX12_lies 15 = .ok (.getfield 117, 3) := by decide +kernel
theorem dX12_lies_18 : decode cX12_lies 18 = .ok (.iload_n 1, 1) := by decide +kernel
theorem dX12_lies_19 : decode cX12_lies 19 = .ok (.iaload, 1) := by decide +kernel
theorem dX12_lies_20 : decode cX12_lies 20 = .ok (.goto 6, 3) := by decide +kernel
theorem dX12_lies_23 : decode cX12_lies 23 = .ok (.ldc_w 550, 3) := by decide +kernel
theorem dX12_lies_26 : decode cX12_lies 26 = .ok (.ireturn, 1) := by decide +kernel
def mX12_lies (t : Nat) (p1 : Int32) (σ : St_) : Option Int32 :=
 ((mX12_isIn p1 (0 : Int32) ((σ.1 t 71) - (1 : Int32)) σ).bind fun r1 =>
 (if r1 = true then
 (if bin p1 32 = true then bnd (σ.1 (t + 32) p1.toNatClampNeg) fun v2 =>
 (some v2)
 else none)
 else (some (-1000000 : Int32))))
set_option maxHeartbeats 4000000 in
theorem rX12_lies (t : Nat) (p1 : Int32) (hT : LY12 sh P t) : Rj l D cA h0 ad yX12_lies cX12_lies 2 (some .int) false 3 0 0 (fun b => (some (.int b), sh, P, σ)) [.ref (h0 + t), .int p1] sh P σ (mX12_lies t p1 σ) := by
  rw [mX12_lies]
  refine Rj.of (by decide) (fun h => by cases h) (Nat.le_of_ble_eq_true rfl) ?_
  refine tj_lv0 (lv' := [(0, .ref (h0 + t)), (1, .int p1)]) rfl ?_
  refine tj_iload_n (q := 1) dX12_lies_0 rfl (i := 1) rfl (pl := 1) rfl ?_
  refine tj_iconst (q := 2) (v := 0) dX12_lies_1 rfl (by decide) ?_
  refine tj_aload_n (q := 3) dX12_lies_2 rfl (i := 0) rfl (pl := 0) rfl ?_
  refine tj_getI (q := 6) (hT).s fok_12_71 wl_RX12_443 dX12_lies_3 rfl ?_
  refine tj_iconst (q := 7) (v := 1) dX12_lies_6 rfl (by decide) ?_
  refine tj_isub (q := 8) dX12_lies_7 rfl ?_
  refine tj_callZp (q := 11) (kj_S (As := [.int p1, .int (0 : Int32), .int ((σ.1 t 71) - (1 : Int32))]) (rest := []) wi_RX12_446 (rX12_isIn p1 (0 : Int32) ((σ.1 t 71) - (1 : Int32))) rfl (Nat.le_of_ble_eq_true rfl) ⟨Nat.le_of_ble_eq_true rfl, Nat.le_of_ble_eq_true rfl⟩ (Nat.le_of_ble_eq_true rfl) dX12_lies_8) rfl (fun r1 => ?_)
  refine tj_bz (tgt := 23) (q := 14) dX12_lies_11 (by decide) rfl ?_ ?_
  · refine tj_aload_n (q := 15) dX12_lies_14 rfl (i := 0) rfl (pl := 0) rfl ?_
    refine tj_getR (q := 18) (hT).s (hT).p_lies fok_12_70 wl_RX12_117 dX12_lies_15 rfl ?_
    refine tj_iload_n (q := 19) dX12_lies_18 rfl (i := 1) rfl (pl := 1) rfl ?_
    refine tj_iaload (q := 20) (hT).s_lies dX12_lies_19 rfl ?_
    refine tj_topI (fun v2 => ?_)
    refine tj_goto (q := 26) dX12_lies_20 (by decide) ?_
    exact tj_iret rfl rfl (Nat.le_of_ble_eq_true rfl) (Nat.le_of_ble_eq_true rfl) dX12_lies_26
  · refine tj_ldcw (q := 26) (v := (-1000000)) dX12_lies_23 rfl wc_RX12_550 ?_
    exact tj_iret rfl rfl (Nat.le_of_ble_eq_true rfl) (Nat.le_of_ble_eq_true rfl) dX12_lies_26

theorem dX12_report_0 : decode cX12_report 0 = .ok (.aload_n 0, 1) := by decide +kernel
theorem dX12_report_1 : decode cX12_report 1 = .ok (.iload_n 1, 1) := by decide +kernel
theorem dX12_report_2 : decode cX12_report 2 = .ok (.invokevirtual 453, 3) := by decide +kernel
theorem dX12_report_5 : decode cX12_report 5 = .ok (.ifCond .eq 48, 3) := by decide +kernel
theorem dX12_report_8 : decode cX12_report 8 = .ok (.aload_n 0, 1) := by decide +kernel
theorem dX12_report_9 : decode cX12_report 9 = .ok (.iload_n 2, 1) := by decide +kernel
theorem dX12_report_10 : decode cX12_report 10 = .ok (.invokevirtual 490, 3) := by decide +kernel
theorem dX12_report_13 : decode cX12_report 13 = .ok (.ifCond .eq 40, 3) := by decide +kernel
theorem dX12_report_16 : decode cX12_report 16 = .ok (.aload_n 0, 1) := by decide +kernel
theorem dX12_report_17 : decode cX12_report 17 = .ok (.iload_n 3, 1) := by decide +kernel
theorem dX12_report_18 : decode cX12_report 18 = .ok (.invokevirtual 490, 3) := by decide +kernel
theorem dX12_report_21 : decode cX12_report 21 = .ok (.ifCond .eq 32, 3) := by decide +kernel
theorem dX12_report_24 : decode cX12_report 24 = .ok (.iload_n 2, 1) := by decide +kernel
theorem dX12_report_25 : decode cX12_report 25 = .ok (.iload_n 3, 1) := by decide +kernel
theorem dX12_report_26 : decode cX12_report 26 = .ok (.if_icmp .eq 27, 3) := by decide +kernel
theorem dX12_report_29 : decode cX12_report 29 = .ok (.iload 4, 2) := by decide +kernel
theorem dX12_report_31 : decode cX12_report 31 = .ok (.iconst 0, 1) := by decide +kernel
theorem dX12_report_32 : decode cX12_report 32 = .ok (.aload_n 0, 1) := by decide +kernel
theorem dX12_report_33 : decode cX12_report 33 = .ok (.getfield 99, 3) := by decide +kernel
theorem dX12_report_36 : decode cX12_report 36 = .ok (.iconst 1, 1) := by decide +kernel
theorem dX12_report_37 : decode cX12_report 37 = .ok (.isub, 1) := by decide +kernel
theorem dX12_report_38 : decode cX12_report 38 = .ok (.invokestatic 446, 3) := by decide +kernel
theorem dX12_report_41 : decode cX12_report 41 = .ok (.ifCond .eq 12, 3) := by decide +kernel
theorem dX12_report_44 : decode cX12_report 44 = .ok (.aload_n 0, 1) := by decide +kernel
theorem dX12_report_45 : decode cX12_report 45 = .ok (.getfield 440, 3) := by decide +kernel
theorem dX12_report_48 : decode cX12_report 48 = .ok (.bipush 30, 2) := by decide +kernel
theorem dX12_report_50 : decode cX12_report 50 = .ok (.if_icmp .ne 5, 3) := by decide +kernel
theorem dX12_report_53 : decode cX12_report 53 = .ok (.iconst (-1), 1) := by decide +kernel
theorem dX12_report_54 : decode cX12_report 54 = .ok (.ireturn, 1) := by decide +kernel
theorem dX12_report_55 : decode cX12_report 55 = .ok (.aload_n 0, 1) := by decide +kernel
theorem dX12_report_56 : decode cX12_report 56 = .ok (.getfield 132, 3) := by decide +kernel
theorem dX12_report_59 : decode cX12_report 59 = .ok (.aload_n 0, 1) := by decide +kernel
theorem dX12_report_60 : decode cX12_report 60 = .ok (.getfield 440, 3) := by decide +kernel
theorem dX12_report_63 : decode cX12_report 63 = .ok (.iload_n 1, 1) := by decide +kernel
theorem dX12_report_64 : decode cX12_report 64 = .ok (.iastore, 1) := by decide +kernel
theorem dX12_report_65 : decode cX12_report 65 = .ok (.aload_n 0, 1) := by decide +kernel
theorem dX12_report_66 : decode cX12_report 66 = .ok (.getfield 135, 3) := by decide +kernel
theorem dX12_report_69 : decode cX12_report 69 = .ok (.aload_n 0, 1) := by decide +kernel
theorem dX12_report_70 : decode cX12_report 70 = .ok (.getfield 440, 3) := by decide +kernel
theorem dX12_report_73 : decode cX12_report 73 = .ok (.iload_n 2, 1) := by decide +kernel
theorem dX12_report_74 : decode cX12_report 74 = .ok (.iastore, 1) := by decide +kernel
theorem dX12_report_75 : decode cX12_report 75 = .ok (.aload_n 0, 1) := by decide +kernel
theorem dX12_report_76 : decode cX12_report 76 = .ok (.getfield 138, 3) := by decide +kernel
theorem dX12_report_79 : decode cX12_report 79 = .ok (.aload_n 0, 1) := by decide +kernel
theorem dX12_report_80 : decode cX12_report 80 = .ok (.getfield 440, 3) := by decide +kernel
theorem dX12_report_83 : decode cX12_report 83 = .ok (.iload_n 3, 1) := by decide +kernel
theorem dX12_report_84 : decode cX12_report 84 = .ok (.iastore, 1) := by decide +kernel
theorem dX12_report_85 : decode cX12_report 85 = .ok (.aload_n 0, 1) := by decide +kernel
theorem dX12_report_86 : decode cX12_report 86 = .ok (.getfield 141, 3) := by decide +kernel
theorem dX12_report_89 : decode cX12_report 89 = .ok (.aload_n 0, 1) := by decide +kernel
theorem dX12_report_90 : decode cX12_report 90 = .ok (.getfield 440, 3) := by decide +kernel
theorem dX12_report_93 : decode cX12_report 93 = .ok (.iload 4, 2) := by decide +kernel
theorem dX12_report_95 : decode cX12_report 95 = .ok (.iastore, 1) := by decide +kernel
theorem dX12_report_96 : decode cX12_report 96 = .ok (.aload_n 0, 1) := by decide +kernel
theorem dX12_report_97 : decode cX12_report 97 = .ok (.getfield 150, 3) := by decide +kernel
theorem dX12_report_100 : decode cX12_report 100 = .ok (.aload_n 0, 1) := by decide +kernel
theorem dX12_report_101 : decode cX12_report 101 = .ok (.getfield 440, 3) := by decide +kernel
theorem dX12_report_104 : decode cX12_report 104 = .ok (.iload 5, 2) := by decide +kernel
theorem dX12_report_106 : decode cX12_report 106 = .ok (.bastore, 1) := by decide +kernel
theorem dX12_report_107 : decode cX12_report 107 = .ok (.aload_n 0, 1) := by decide +kernel
theorem dX12_report_108 : decode cX12_report 108 = .ok (.getfield 144, 3) := by decide +kernel
theorem dX12_report_111 : decode cX12_report 111 = .ok (.aload_n 0, 1) := by decide +kernel
theorem dX12_report_112 : decode cX12_report 112 = .ok (.getfield 440, 3) := by decide +kernel
theorem dX12_report_115 : decode cX12_report 115 = .ok (.aload_n 0, 1) := by decide +kernel
theorem dX12_report_116 : decode cX12_report 116 = .ok (.getfield 614, 3) := by decide +kernel
theorem dX12_report_119 : decode cX12_report 119 = .ok (.iastore, 1) := by decide +kernel
theorem dX12_report_120 : decode cX12_report 120 = .ok (.aload_n 0, 1) := by decide +kernel
theorem dX12_report_121 : decode cX12_report 121 = .ok (.getfield 147, 3) := by decide +kernel
theorem dX12_report_124 : decode cX12_report 124 = .ok (.aload_n 0, 1) := by decide +kernel
theorem dX12_report_125 : decode cX12_report 125 = .ok (.getfield 440, 3) := by decide +kernel
theorem dX12_report_128 : decode cX12_report 128 = .ok (.iconst (-1), 1) := by decide +kernel
theorem dX12_report_129 : decode cX12_report 129 = .ok (.iastore, 1) := by decide +kernel
theorem dX12_report_130 : decode cX12_report 130 = .ok (.aload_n 0, 1) := by decide +kernel
theorem dX12_report_131 : decode cX12_report 131 = .ok (.dup, 1) := by decide +kernel
theorem dX12_report_132 : decode cX12_report 132 = .ok (.getfield 440, 3) := by decide +kernel
theorem dX12_report_135 : decode cX12_report 135 = .ok (.iconst 1, 1) := by decide +kernel
theorem dX12_report_136 : decode cX12_report 136 = .ok (.iadd, 1) := by decide +kernel
theorem dX12_report_137 : decode cX12_report 137 = .ok (.putfield 440, 3) := by decide +kernel
theorem dX12_report_140 : decode cX12_report 140 = .ok (.aload_n 0, 1) := by decide +kernel
theorem dX12_report_141 : decode cX12_report 141 = .ok (.getfield 440, 3) := by decide +kernel
theorem dX12_report_144 : decode cX12_report 144 = .ok (.iconst 1, 1) := by decide +kernel
theorem dX12_report_145 : decode cX12_report 145 = .ok (.isub, 1) := by decide +kernel
theorem dX12_report_146 : decode cX12_report 146 = .ok (.ireturn, 1) := by decide +kernel
theorem wl_RX12_132 : Cond.fieldLink RX12 132 (TX12 79).1 (TX12 79).2.1 (TX12 79).2.2.1 ∈ TB := tbm 1494 (by decide +kernel) (by decide +kernel)
theorem wl_RX12_135 : Cond.fieldLink RX12 135 (TX12 80).1 (TX12 80).2.1 (TX12 80).2.2.1 ∈ TB := tbm 1495 (by decide +kernel) (by decide +kernel)
theorem wl_RX12_138 : Cond.fieldLink RX12 138 (TX12 81).1 (TX12 81).2.1 (TX12 81).2.2.1 ∈ TB := tbm 1496 (by decide +kernel) (by decide +kernel)
theorem wl_RX12_141 : Cond.fieldLink RX12 141 (TX12 82).1 (TX12 82).2.1 (TX12 82).2.2.1 ∈ TB := tbm 1497 (by decide +kernel) (by decide +kernel)
theorem wl_RX12_150 : Cond.fieldLink RX12 150 (TX12 85).1 (TX12 85).2.1 (TX12 85).2.2.1 ∈ TB := tbm 1500 (by decide +kernel) (by decide +kernel)
theorem wl_RX12_144 : Cond.fieldLink RX12 144 (TX12 83).1 (TX12 83).2.1 (TX12 83).2.2.1 ∈ TB := tbm 1498 (by decide +kernel) (by decide +kernel)
theorem wl_RX12_614 : Cond.fieldLink RX12 614 (TX12 87).1 (TX12 87).2.1 (TX12 87).2.2.1 ∈ TB := tbm 1502 (by decide +kernel) (by decide +kernel)
theorem wl_RX12_147 : Cond.fieldLink RX12 147 (TX12 84).1 (TX12 84).2.1 (TX12 84).2.2.1 ∈ TB := tbm 1499 (by decide +kernel) (by decide +kernel)
def mX12_report (t : Nat) (p1 : Int32) (p2 : Int32) (p3 : Int32) (p4 : Int32) (p5 : Bool) (σ : St_) : Option (Int32 × St_) :=
 ((mX12_isHouse t p1 σ).bind fun r1 =>
 (if r1 = true then
 ((mX12_isThing t p2 σ).bind fun r2 =>
 (if r2 = true then
 ((mX12_isThing t p3 σ).bind fun r3 =>
 (if r3 = true then
 (if p2 = p3 then
 (some ((-1 : Int32), σ))
 else ((mX12_isIn p4 (0 : Int32) ((σ.1 t 55) - (1 : Int32)) σ).bind fun r4 =>
 (if r4 = true then
 (if (σ.1 t 86) = (30 : Int32) then
 (some ((-1 : Int32), σ))
 else (bnd (σ.1 t 86) fun v5 =>
 (if bin v5 30 = true then bnd (sI σ (t + 37) v5.toNatClampNeg p1) fun σ6 =>
 (bnd (σ6.1 t 86) fun v7 =>
 (if bin v7 30 = true then bnd (sI σ6 (t + 38) v7.toNatClampNeg p2) fun σ8 =>
 (bnd (σ8.1 t 86) fun v9 =>
 (if bin v9 30 = true then bnd (sI σ8 (t + 39) v9.toNatClampNeg p3) fun σ10 =>
 (bnd (σ10.1 t 86) fun v11 =>
 (if bin v11 30 = true then bnd (sI σ10 (t + 40) v11.toNatClampNeg p4) fun σ12 =>
 (bnd (σ12.1 t 86) fun v13 =>
 (if bin v13 30 = true then bnd (sI σ12 (t + 43) v13.toNatClampNeg (b2i p5)) fun σ14 =>
 (bnd (σ14.1 t 86) fun v15 =>
 (if bin v15 30 = true then bnd (sI σ14 (t + 41) v15.toNatClampNeg (σ14.1 t 87)) fun σ16 =>
 (bnd (σ16.1 t 86) fun v17 =>
 (if bin v17 30 = true then bnd (sI σ16 (t + 42) v17.toNatClampNeg (-1 : Int32)) fun σ18 =>
 (bnd (sI σ18 t 86 ((σ18.1 t 86) + (1 : Int32))) fun σ19 =>
 (some (((σ19.1 t 86) - (1 : Int32)), σ19)))
 else none))
 else none))
 else none))
 else none))
 else none))
 else none))
 else none)))
 else (some ((-1 : Int32), σ)))))
 else (some ((-1 : Int32), σ))))
 else (some ((-1 : Int32), σ))))
 else (some ((-1 : Int32), σ))))
set_option maxHeartbeats 4000000 in
theorem rX12_report (t : Nat) (p1 : Int32) (p2 : Int32) (p3 : Int32) (p4 : Int32) (p5 : Bool) (hT : LY12 sh P t) : Rj l D cA h0 ad yX12_report cX12_report 6 (some .int) false 4 0 0 (fun b => (some (.int b.1), sh, P, b.2)) [.ref (h0 + t), .int p1, .int p2, .int p3, .int p4, .int (b2i p5)] sh P σ (mX12_report t p1 p2 p3 p4 p5 σ) := by
  rw [mX12_report]
  refine Rj.of (by decide) (fun h => by cases h) (Nat.le_of_ble_eq_true rfl) ?_
  refine tj_lv0 (lv' := [(0, .ref (h0 + t)), (1, .int p1), (2, .int p2), (3, .int p3), (4, .int p4), (5, .int (b2i p5))]) rfl ?_
  refine tj_aload_n (q := 1) dX12_report_0 rfl (i := 0) rfl (pl := 0) rfl ?_
  refine tj_iload_n (q := 2) dX12_report_1 rfl (i := 1) rfl (pl := 1) rfl ?_
  refine tj_callZp (q := 5) (kj_V (As := [.int p1]) (rest := []) (t := t) wi_RX12_453 (hT).s rfl (rX12_isHouse t p1 (hT)) rfl (Nat.le_of_ble_eq_true rfl) ⟨Nat.le_of_ble_eq_true rfl, Nat.le_of_ble_eq_true rfl⟩ (Nat.le_of_ble_eq_true rfl) dX12_report_2) rfl (fun r1 => ?_)
  refine tj_bz (tgt := 53) (q := 8) dX12_report_5 (by decide) rfl ?_ ?_
  · refine tj_aload_n (q := 9) dX12_report_8 rfl (i := 0) rfl (pl := 0) rfl ?_
    refine tj_iload_n (q := 10) dX12_report_9 rfl (i := 2) rfl (pl := 2) rfl ?_
    refine tj_callZp (q := 13) (kj_V (As := [.int p2]) (rest := []) (t := t) wi_RX12_490 (hT).s rfl (rX12_isThing t p2 (hT)) rfl (Nat.le_of_ble_eq_true rfl) ⟨Nat.le_of_ble_eq_true rfl, Nat.le_of_ble_eq_true rfl⟩ (Nat.le_of_ble_eq_true rfl) dX12_report_10) rfl (fun r2 => ?_)
    refine tj_bz (tgt := 53) (q := 16) dX12_report_13 (by decide) rfl ?_ ?_
    · refine tj_aload_n (q := 17) dX12_report_16 rfl (i := 0) rfl (pl := 0) rfl ?_
      refine tj_iload_n (q := 18) dX12_report_17 rfl (i := 3) rfl (pl := 3) rfl ?_
      refine tj_callZp (q := 21) (kj_V (As := [.int p3]) (rest := []) (t := t) wi_RX12_490 (hT).s rfl (rX12_isThing t p3 (hT)) rfl (Nat.le_of_ble_eq_true rfl) ⟨Nat.le_of_ble_eq_true rfl, Nat.le_of_ble_eq_true rfl⟩ (Nat.le_of_ble_eq_true rfl) dX12_report_18) rfl (fun r3 => ?_)
      refine tj_bz (tgt := 53) (q := 24) dX12_report_21 (by decide) rfl ?_ ?_
      · refine tj_iload_n (q := 25) dX12_report_24 rfl (i := 2) rfl (pl := 2) rfl ?_
        refine tj_iload_n (q := 26) dX12_report_25 rfl (i := 3) rfl (pl := 3) rfl ?_
        refine tj_icmp_eq (tgt := 53) (q := 29) dX12_report_26 (by decide) rfl ?_ ?_
        · refine tj_iconst (q := 54) (v := (-1)) dX12_report_53 rfl (by decide) ?_
          exact tj_iret rfl rfl (Nat.le_of_ble_eq_true rfl) (Nat.le_of_ble_eq_true rfl) dX12_report_54
        · refine tj_iload (q := 31) dX12_report_29 rfl (pl := 4) rfl ?_
          refine tj_iconst (q := 32) (v := 0) dX12_report_31 rfl (by decide) ?_
          refine tj_aload_n (q := 33) dX12_report_32 rfl (i := 0) rfl (pl := 0) rfl ?_
          refine tj_getI (q := 36) (hT).s fok_12_55 wl_RX12_99 dX12_report_33 rfl ?_
          refine tj_iconst (q := 37) (v := 1) dX12_report_36 rfl (by decide) ?_
          refine tj_isub (q := 38) dX12_report_37 rfl ?_
          refine tj_callZp (q := 41) (kj_S (As := [.int p4, .int (0 : Int32), .int ((σ.1 t 55) - (1 : Int32))]) (rest := []) wi_RX12_446 (rX12_isIn p4 (0 : Int32) ((σ.1 t 55) - (1 : Int32))) rfl (Nat.le_of_ble_eq_true rfl) ⟨Nat.le_of_ble_eq_true rfl, Nat.le_of_ble_eq_true rfl⟩ (Nat.le_of_ble_eq_true rfl) dX12_report_38) rfl (fun r4 => ?_)
          refine tj_bz (tgt := 53) (q := 44) dX12_report_41 (by decide) rfl ?_ ?_
          · refine tj_aload_n (q := 45) dX12_report_44 rfl (i := 0) rfl (pl := 0) rfl ?_
            refine tj_getI (q := 48) (hT).s fok_12_86 wl_RX12_440 dX12_report_45 rfl ?_
            refine tj_bipush (q := 50) (v := 30) dX12_report_48 rfl (by decide) ?_
            refine tj_icmp_ne (tgt := 55) (q := 53) dX12_report_50 (by decide) rfl ?_ ?_
            · refine tj_iconst (q := 54) (v := (-1)) dX12_report_53 rfl (by decide) ?_
              exact tj_iret rfl rfl (Nat.le_of_ble_eq_true rfl) (Nat.le_of_ble_eq_true rfl) dX12_report_54
            · refine tj_aload_n (q := 56) dX12_report_55 rfl (i := 0) rfl (pl := 0) rfl ?_
              refine tj_getR (q := 59) (hT).s (hT).p_repHouse fok_12_79 wl_RX12_132 dX12_report_56 rfl ?_
              refine tj_aload_n (q := 60) dX12_report_59 rfl (i := 0) rfl (pl := 0) rfl ?_
              refine tj_getI (q := 63) (hT).s fok_12_86 wl_RX12_440 dX12_report_60 rfl ?_
              refine tj_iload_n (q := 64) dX12_report_63 rfl (i := 1) rfl (pl := 1) rfl ?_
              refine tj_sndI (fun v5 => ?_)
              refine tj_iastore (q := 65) (hT).s_repHouse dX12_report_64 rfl (fun σ6 => ?_)
              refine tj_aload_n (q := 66) dX12_report_65 rfl (i := 0) rfl (pl := 0) rfl ?_
              refine tj_getR (q := 69) (hT).s (hT).p_repTaken fok_12_80 wl_RX12_135 dX12_report_66 rfl ?_
              refine tj_aload_n (q := 70) dX12_report_69 rfl (i := 0) rfl (pl := 0) rfl ?_
              refine tj_getI (q := 73) (hT).s fok_12_86 wl_RX12_440 dX12_report_70 rfl ?_
              refine tj_iload_n (q := 74) dX12_report_73 rfl (i := 2) rfl (pl := 2) rfl ?_
              refine tj_sndI (fun v7 => ?_)
              refine tj_iastore (q := 75) (hT).s_repTaken dX12_report_74 rfl (fun σ8 => ?_)
              refine tj_aload_n (q := 76) dX12_report_75 rfl (i := 0) rfl (pl := 0) rfl ?_
              refine tj_getR (q := 79) (hT).s (hT).p_repLeft fok_12_81 wl_RX12_138 dX12_report_76 rfl ?_
              refine tj_aload_n (q := 80) dX12_report_79 rfl (i := 0) rfl (pl := 0) rfl ?_
              refine tj_getI (q := 83) (hT).s fok_12_86 wl_RX12_440 dX12_report_80 rfl ?_
              refine tj_iload_n (q := 84) dX12_report_83 rfl (i := 3) rfl (pl := 3) rfl ?_
              refine tj_sndI (fun v9 => ?_)
              refine tj_iastore (q := 85) (hT).s_repLeft dX12_report_84 rfl (fun σ10 => ?_)
              refine tj_aload_n (q := 86) dX12_report_85 rfl (i := 0) rfl (pl := 0) rfl ?_
              refine tj_getR (q := 89) (hT).s (hT).p_repHour fok_12_82 wl_RX12_141 dX12_report_86 rfl ?_
              refine tj_aload_n (q := 90) dX12_report_89 rfl (i := 0) rfl (pl := 0) rfl ?_
              refine tj_getI (q := 93) (hT).s fok_12_86 wl_RX12_440 dX12_report_90 rfl ?_
              refine tj_iload (q := 95) dX12_report_93 rfl (pl := 4) rfl ?_
              refine tj_sndI (fun v11 => ?_)
              refine tj_iastore (q := 96) (hT).s_repHour dX12_report_95 rfl (fun σ12 => ?_)
              refine tj_aload_n (q := 97) dX12_report_96 rfl (i := 0) rfl (pl := 0) rfl ?_
              refine tj_getR (q := 100) (hT).s (hT).p_repLawful fok_12_85 wl_RX12_150 dX12_report_97 rfl ?_
              refine tj_aload_n (q := 101) dX12_report_100 rfl (i := 0) rfl (pl := 0) rfl ?_
              refine tj_getI (q := 104) (hT).s fok_12_86 wl_RX12_440 dX12_report_101 rfl ?_
              refine tj_iload (q := 106) dX12_report_104 rfl (pl := 5) rfl ?_
              refine tj_sndI (fun v13 => ?_)
              refine tj_zastore (x := p5) (q := 107) (hT).s_repLawful dX12_report_106 rfl (fun σ14 => ?_)
              refine tj_aload_n (q := 108) dX12_report_107 rfl (i := 0) rfl (pl := 0) rfl ?_
              refine tj_getR (q := 111) (hT).s (hT).p_repTold fok_12_83 wl_RX12_144 dX12_report_108 rfl ?_
              refine tj_aload_n (q := 112) dX12_report_111 rfl (i := 0) rfl (pl := 0) rfl ?_
              refine tj_getI (q := 115) (hT).s fok_12_86 wl_RX12_440 dX12_report_112 rfl ?_
              refine tj_aload_n (q := 116) dX12_report_115 rfl (i := 0) rfl (pl := 0) rfl ?_
              refine tj_getI (q := 119) (hT).s fok_12_87 wl_RX12_614 dX12_report_116 rfl ?_
              refine tj_sndI (fun v15 => ?_)
              refine tj_iastore (q := 120) (hT).s_repTold dX12_report_119 rfl (fun σ16 => ?_)
              refine tj_aload_n (q := 121) dX12_report_120 rfl (i := 0) rfl (pl := 0) rfl ?_
              refine tj_getR (q := 124) (hT).s (hT).p_repUntold fok_12_84 wl_RX12_147 dX12_report_121 rfl ?_
              refine tj_aload_n (q := 125) dX12_report_124 rfl (i := 0) rfl (pl := 0) rfl ?_
              refine tj_getI (q := 128) (hT).s fok_12_86 wl_RX12_440 dX12_report_125 rfl ?_
              refine tj_iconst (q := 129) (v := (-1)) dX12_report_128 rfl (by decide) ?_
              refine tj_sndI (fun v17 => ?_)
              refine tj_iastore (q := 130) (hT).s_repUntold dX12_report_129 rfl (fun σ18 => ?_)
              refine tj_aload_n (q := 131) dX12_report_130 rfl (i := 0) rfl (pl := 0) rfl ?_
              refine tj_dup (q := 132) dX12_report_131 rfl rfl ?_
              refine tj_getI (q := 135) (hT).s fok_12_86 wl_RX12_440 dX12_report_132 rfl ?_
              refine tj_iconst (q := 136) (v := 1) dX12_report_135 rfl (by decide) ?_
              refine tj_iadd (q := 137) dX12_report_136 rfl ?_
              refine tj_putI (q := 140) (hT).s fok_12_86 tok_12 fpk_12_86 wl_RX12_440 dX12_report_137 rfl (fun σ19 => ?_)
              refine tj_aload_n (q := 141) dX12_report_140 rfl (i := 0) rfl (pl := 0) rfl ?_
              refine tj_getI (q := 144) (hT).s fok_12_86 wl_RX12_440 dX12_report_141 rfl ?_
              refine tj_iconst (q := 145) (v := 1) dX12_report_144 rfl (by decide) ?_
              refine tj_isub (q := 146) dX12_report_145 rfl ?_
              exact tj_iret rfl rfl (Nat.le_of_ble_eq_true rfl) (Nat.le_of_ble_eq_true rfl) dX12_report_146
          · refine tj_iconst (q := 54) (v := (-1)) dX12_report_53 rfl (by decide) ?_
            exact tj_iret rfl rfl (Nat.le_of_ble_eq_true rfl) (Nat.le_of_ble_eq_true rfl) dX12_report_54
      · refine tj_iconst (q := 54) (v := (-1)) dX12_report_53 rfl (by decide) ?_
        exact tj_iret rfl rfl (Nat.le_of_ble_eq_true rfl) (Nat.le_of_ble_eq_true rfl) dX12_report_54
    · refine tj_iconst (q := 54) (v := (-1)) dX12_report_53 rfl (by decide) ?_
      exact tj_iret rfl rfl (Nat.le_of_ble_eq_true rfl) (Nat.le_of_ble_eq_true rfl) dX12_report_54
  · refine tj_iconst (q := 54) (v := (-1)) dX12_report_53 rfl (by decide) ?_
    exact tj_iret rfl rfl (Nat.le_of_ble_eq_true rfl) (Nat.le_of_ble_eq_true rfl) dX12_report_54

end
