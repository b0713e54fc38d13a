section
variable {l : Launch} {D : va_G} {cA : Nat → ClassId} {h0 : Nat} {ad : Ad_} {sh : Sh_} {P : Px_} {σ : St_}
def RcOk (l : Launch) (D : va_G) (cA : Nat → ClassId) (h0 : Nat) (ad : Ad_) (sh : Sh_) (P : Px_) (hr : Nat) (rc : Nat → Nat → Nat → Int32 → St_ → Option (Bool × St_)) : Prop :=
  (∀ (t p1 : Nat) (p2 : Int32) (σ : St_), LY2 sh P t → LY3 sh P p1 → Rj l D cA h0 ad yX2_readEither cX2_readEither 4 (some .boolean) false hr 0 0 (fun b => (some (.int (b2i b.1)), sh, P, b.2)) [.ref (h0 + t), .ref (h0 + p1), .int p2] sh P σ (rc 0 t p1 p2 σ)) ∧
  (∀ (t p1 : Nat) (p2 : Int32) (σ : St_), LY2 sh P t → LY3 sh P p1 → Rj l D cA h0 ad yX2_readBoth cX2_readBoth 4 (some .boolean) false hr 0 0 (fun b => (some (.int (b2i b.1)), sh, P, b.2)) [.ref (h0 + t), .ref (h0 + p1), .int p2] sh P σ (rc 1 t p1 p2 σ)) ∧
  (∀ (t p1 : Nat) (p2 : Int32) (σ : St_), LY2 sh P t → LY3 sh P p1 → Rj l D cA h0 ad yX2_readOne cX2_readOne 4 (some .boolean) false hr 0 0 (fun b => (some (.int (b2i b.1)), sh, P, b.2)) [.ref (h0 + t), .ref (h0 + p1), .int p2] sh P σ (rc 2 t p1 p2 σ)) ∧
  (∀ (t p1 : Nat) (p2 : Int32) (σ : St_), LY2 sh P t → LY3 sh P p1 → Rj l D cA h0 ad yX2_readNot cX2_readNot 3 (some .boolean) false hr 0 0 (fun b => (some (.int (b2i b.1)), sh, P, b.2)) [.ref (h0 + t), .ref (h0 + p1), .int p2] sh P σ (rc 3 t p1 p2 σ)) ∧
  (∀ (t p1 : Nat) (p2 : Int32) (σ : St_), LY2 sh P t → LY3 sh P p1 → Rj l D cA h0 ad yX2_readTotal cX2_readTotal 5 (some .boolean) false hr 0 0 (fun b => (some (.int (b2i b.1)), sh, P, b.2)) [.ref (h0 + t), .ref (h0 + p1), .int p2] sh P σ (rc 4 t p1 p2 σ)) ∧
  (∀ (t p1 : Nat) (p2 : Int32) (σ : St_), LY2 sh P t → LY3 sh P p1 → Rj l D cA h0 ad yX2_readTerm cX2_readTerm 5 (some .boolean) false hr 0 0 (fun b => (some (.int (b2i b.1)), sh, P, b.2)) [.ref (h0 + t), .ref (h0 + p1), .int p2] sh P σ (rc 5 t p1 p2 σ)) ∧
  (∀ (t p1 : Nat) (p2 : Int32) (σ : St_), LY2 sh P t → LY3 sh P p1 → Rj l D cA h0 ad yX2_readUnit cX2_readUnit 3 (some .boolean) false hr 0 0 (fun b => (some (.int (b2i b.1)), sh, P, b.2)) [.ref (h0 + t), .ref (h0 + p1), .int p2] sh P σ (rc 6 t p1 p2 σ)) ∧
  (∀ (t p1 : Nat) (p2 : Int32) (σ : St_), LY2 sh P t → LY3 sh P p1 → Rj l D cA h0 ad yX2_readInner cX2_readInner 3 (some .boolean) false hr 0 0 (fun b => (some (.int (b2i b.1)), sh, P, b.2)) [.ref (h0 + t), .ref (h0 + p1), .int p2] sh P σ (rc 7 t p1 p2 σ))
theorem dX2_isTimes_0 : decode cX2_isTimes 0 = .ok (.aload_n 0, 1) := by decide +kernel
theorem dX2_isTimes_1 : decode cX2_isTimes 1 = .ok (.getfield 12, 3) := by decide +kernel
theorem dX2_isTimes_4 : decode cX2_isTimes 4 = .ok (.bipush 42, 2) := by decide +kernel
theorem dX2_isTimes_6 : decode cX2_isTimes 6 = .ok (.invokevirtual 44, 3) := by decide +kernel
theorem dX2_isTimes_9 : decode cX2_isTimes 9 = .ok (.ifCond .ne 27, 3) := by decide +kernel
theorem dX2_isTimes_12 : decode cX2_isTimes 12 = .ok (.aload_n 0, 1) := by decide +kernel
theorem dX2_isTimes_13 : decode cX2_isTimes 13 = .ok (.getfield 12, 3) := by decide +kernel
theorem dX2_isTimes_16 : decode cX2_isTimes 16 = .ok (.bipush 47, 2) := by decide +kernel
theorem dX2_isTimes_18 : decode cX2_isTimes 18 = .ok (.invokevirtual 44, 3) := by decide +kernel
theorem dX2_isTimes_21 : decode cX2_isTimes 21 = .ok (.ifCond .ne 15, 3) := by decide +kernel
theorem dX2_isTimes_24 : decode cX2_isTimes 24 = .ok (.aload_n 0, 1) := by decide +kernel
theorem dX2_isTimes_25 : decode cX2_isTimes 25 = .ok (.getfield 12, 3) := by decide +kernel
theorem dX2_isTimes_28 : decode cX2_isTimes 28 = .ok (.bipush 37, 2) := by decide +kernel
theorem dX2_isTimes_30 : decode cX2_isTimes 30 = .ok (.invokevirtual 44, 3) := by decide +kernel
theorem dX2_isTimes_33 : decode cX2_isTimes 33 = .ok (.ifCond .eq 7, 3) := by decide +kernel
theorem dX2_isTimes_36 : decode cX2_isTimes 36 = .ok (.iconst 1, 1) := by decide +kernel
theorem dX2_isTimes_37 : decode cX2_isTimes 37 = .ok (.goto 4, 3) := by decide +kernel
theorem dX2_isTimes_40 : decode cX2_isTimes 40 = .ok (.iconst 0, 1) := by decide +kernel
theorem dX2_isTimes_41 : decode cX2_isTimes 41 = .ok (.ireturn, 1) := by decide +kernel
theorem wl_RX2_12 : Cond.fieldLink RX2 12 (TX2 0).1 (TX2 0).2.1 (TX2 0).2.2.1 ∈ TB := tbm 217 (by decide +kernel) (by decide +kernel)
theorem wi_RX2_44 : Iv RX2 44 yX10_isSign cX10_isSign 2 (some .boolean) 1 := ⟨tbm 969 (by decide +kernel) (by decide +kernel), wm_X10_isSign⟩
def mX2_isTimes (t : Nat) (σ : St_) : Option Bool :=
 ((mX10_isSign (t + 1) (42 : Int32) σ).bind fun r1 =>
 (if r1 = true then
 (some true)
 else ((mX10_isSign (t + 1) (47 : Int32) σ).bind fun r2 =>
 (if r2 = true then
 (some true)
 else ((mX10_isSign (t + 1) (37 : Int32) σ).bind fun r3 =>
 (if r3 = true then
 (some true)
 else (some false)))))))
set_option maxHeartbeats 4000000 in
theorem rX2_isTimes (t : Nat) (hT : LY2 sh P t) : Rj l D cA h0 ad yX2_isTimes cX2_isTimes 1 (some .boolean) false 3 0 0 (fun b => (some (.int (b2i b)), sh, P, σ)) [.ref (h0 + t)] sh P σ (mX2_isTimes t σ) := by
  rw [mX2_isTimes]
  refine Rj.of (by decide) (fun h => by cases h) (Nat.le_of_ble_eq_true rfl) ?_
  refine tj_lv0 (lv' := [(0, .ref (h0 + t))]) rfl ?_
  refine tj_aload_n (q := 1) dX2_isTimes_0 rfl (i := 0) rfl (pl := 0) rfl ?_
  refine tj_getR (q := 4) (hT).s (hT).p_tokens fok_2_0 wl_RX2_12 dX2_isTimes_1 rfl ?_
  refine tj_bipush (q := 6) (v := 42) dX2_isTimes_4 rfl (by decide) ?_
  refine tj_callZp (q := 9) (kj_V (As := [.int (42 : Int32)]) (rest := []) (t := (t + 1)) wi_RX2_44 ((hT).o_tokens).s rfl (rX10_isSign (t + 1) (42 : Int32) ((hT).o_tokens)) rfl (Nat.le_of_ble_eq_true rfl) ⟨Nat.le_of_ble_eq_true rfl, Nat.le_of_ble_eq_true rfl⟩ (Nat.le_of_ble_eq_true rfl) dX2_isTimes_6) rfl (fun r1 => ?_)
  refine tj_bnz (tgt := 36) (q := 12) dX2_isTimes_9 (by decide) rfl ?_ ?_
  · refine tj_iconst (q := 37) (v := 1) dX2_isTimes_36 rfl (by decide) ?_
    refine tj_goto (q := 41) dX2_isTimes_37 (by decide) ?_
    exact tj_zret rfl (by decide) rfl (Nat.le_of_ble_eq_true rfl) (Nat.le_of_ble_eq_true rfl) dX2_isTimes_41
  · refine tj_aload_n (q := 13) dX2_isTimes_12 rfl (i := 0) rfl (pl := 0) rfl ?_
    refine tj_getR (q := 16) (hT).s (hT).p_tokens fok_2_0 wl_RX2_12 dX2_isTimes_13 rfl ?_
    refine tj_bipush (q := 18) (v := 47) dX2_isTimes_16 rfl (by decide) ?_
    refine tj_callZp (q := 21) (kj_V (As := [.int (47 : Int32)]) (rest := []) (t := (t + 1)) wi_RX2_44 ((hT).o_tokens).s rfl (rX10_isSign (t + 1) (47 : Int32) ((hT).o_tokens)) rfl (Nat.le_of_ble_eq_true rfl) ⟨Nat.le_of_ble_eq_true rfl, Nat.le_of_ble_eq_true rfl⟩ (Nat.le_of_ble_eq_true rfl) dX2_isTimes_18) rfl (fun r2 => ?_)
    refine tj_bnz (tgt := 36) (q := 24) dX2_isTimes_21 (by decide) rfl ?_ ?_
    · refine tj_iconst (q := 37) (v := 1) dX2_isTimes_36 rfl (by decide) ?_
      refine tj_goto (q := 41) dX2_isTimes_37 (by decide) ?_
      exact tj_zret rfl (by decide) rfl (Nat.le_of_ble_eq_true rfl) (Nat.le_of_ble_eq_true rfl) dX2_isTimes_41
    · refine tj_aload_n (q := 25) dX2_isTimes_24 rfl (i := 0) rfl (pl := 0) rfl ?_
      refine tj_getR (q := 28) (hT).s (hT).p_tokens fok_2_0 wl_RX2_12 dX2_isTimes_25 rfl ?_
      refine tj_bipush (q := 30) (v := 37) dX2_isTimes_28 rfl (by decide) ?_
      refine tj_callZp (q := 33) (kj_V (As := [.int (37 : Int32)]) (rest := []) (t := (t + 1)) wi_RX2_44 ((hT).o_tokens).s rfl (rX10_isSign (t + 1) (37 : Int32) ((hT).o_tokens)) rfl (Nat.le_of_ble_eq_true rfl) ⟨Nat.le_of_ble_eq_true rfl, Nat.le_of_ble_eq_true rfl⟩ (Nat.le_of_ble_eq_true rfl) dX2_isTimes_30) rfl (fun r3 => ?_)
      refine tj_bz (tgt := 40) (q := 36) dX2_isTimes_33 (by decide) rfl ?_ ?_
      · refine tj_iconst (q := 37) (v := 1) dX2_isTimes_36 rfl (by decide) ?_
        refine tj_goto (q := 41) dX2_isTimes_37 (by decide) ?_
        exact tj_zret rfl (by decide) rfl (Nat.le_of_ble_eq_true rfl) (Nat.le_of_ble_eq_true rfl) dX2_isTimes_41
      · refine tj_iconst (q := 41) (v := 0) dX2_isTimes_40 rfl (by decide) ?_
        exact tj_zret rfl (by decide) rfl (Nat.le_of_ble_eq_true rfl) (Nat.le_of_ble_eq_true rfl) dX2_isTimes_41

theorem dX2_readEither_0 : decode cX2_readEither 0 = .ok (.aload_n 0, 1) := by decide +kernel
theorem dX2_readEither_1 : decode cX2_readEither 1 = .ok (.aload_n 1, 1) := by decide +kernel
theorem dX2_readEither_2 : decode cX2_readEither 2 = .ok (.iload_n 2, 1) := by decide +kernel
theorem dX2_readEither_3 : decode cX2_readEither 3 = .ok (.invokevirtual 18, 3) := by decide +kernel
theorem dX2_readEither_6 : decode cX2_readEither 6 = .ok (.ifCond .ne 5, 3) := by decide +kernel
theorem dX2_readEither_9 : decode cX2_readEither 9 = .ok (.iconst 0, 1) := by decide +kernel
theorem dX2_readEither_10 : decode cX2_readEither 10 = .ok (.ireturn, 1) := by decide +kernel
theorem dX2_readEither_11 : decode cX2_readEither 11 = .ok (.iconst 0, 1) := by decide +kernel
theorem dX2_readEither_12 : decode cX2_readEither 12 = .ok (.istore_n 3, 1) := by decide +kernel
theorem dX2_readEither_13 : decode cX2_readEither 13 = .ok (.iload_n 3, 1) := by decide +kernel
theorem dX2_readEither_14 : decode cX2_readEither 14 = .ok (.sipush 1700, 3) := by decide +kernel
theorem dX2_readEither_17 : decode cX2_readEither 17 = .ok (.if_icmp .ge 45, 3) := by decide +kernel
theorem dX2_readEither_20 : decode cX2_readEither 20 = .ok (.aload_n 0, 1) := by decide +kernel
theorem dX2_readEither_21 : decode cX2_readEither 21 = .ok (.getfield 12, 3) := by decide +kernel
theorem dX2_readEither_24 : decode cX2_readEither 24 = .ok (.bipush 15, 2) := by decide +kernel
theorem dX2_readEither_26 : decode cX2_readEither 26 = .ok (.invokevirtual 22, 3) := by decide +kernel
theorem dX2_readEither_29 : decode cX2_readEither 29 = .ok (.ifCond .eq 33, 3) := by decide +kernel
theorem dX2_readEither_32 : decode cX2_readEither 32 = .ok (.aload_n 0, 1) := by decide +kernel
theorem dX2_readEither_33 : decode cX2_readEither 33 = .ok (.getfield 12, 3) := by decide +kernel
theorem dX2_readEither_36 : decode cX2_readEither 36 = .ok (.invokevirtual 26, 3) := by decide +kernel
theorem dX2_readEither_39 : decode cX2_readEither 39 = .ok (.aload_n 0, 1) := by decide +kernel
theorem dX2_readEither_40 : decode cX2_readEither 40 = .ok (.aload_n 1, 1) := by decide +kernel
theorem dX2_readEither_41 : decode cX2_readEither 41 = .ok (.iload_n 2, 1) := by decide +kernel
theorem dX2_readEither_42 : decode cX2_readEither 42 = .ok (.invokevirtual 18, 3) := by decide +kernel
theorem dX2_readEither_45 : decode cX2_readEither 45 = .ok (.ifCond .ne 5, 3) := by decide +kernel
theorem dX2_readEither_48 : decode cX2_readEither 48 = .ok (.iconst 0, 1) := by decide +kernel
theorem dX2_readEither_49 : decode cX2_readEither 49 = .ok (.ireturn, 1) := by decide +kernel
theorem dX2_readEither_50 : decode cX2_readEither 50 = .ok (.aload_n 1, 1) := by decide +kernel
theorem dX2_readEither_51 : decode cX2_readEither 51 = .ok (.iconst 4, 1) := by decide +kernel
theorem dX2_readEither_52 : decode cX2_readEither 52 = .ok (.iconst 0, 1) := by decide +kernel
theorem dX2_readEither_53 : decode cX2_readEither 53 = .ok (.invokevirtual 31, 3) := by decide +kernel
theorem dX2_readEither_56 : decode cX2_readEither 56 = .ok (.iinc 3 1, 3) := by decide +kernel
theorem dX2_readEither_59 : decode cX2_readEither 59 = .ok (.goto (-46), 3) := by decide +kernel
theorem dX2_readEither_62 : decode cX2_readEither 62 = .ok (.iconst 1, 1) := by decide +kernel
theorem dX2_readEither_63 : decode cX2_readEither 63 = .ok (.ireturn, 1) := by decide +kernel
theorem wm_X2_readBoth : Cond.instanceMethod yX2_readBoth ∈ TB ∧ Cond.selects yX2_readBoth.cls yX2_readBoth yX2_readBoth ∈ TB ∧ Cond.initialized yX2_readBoth.cls ∈ TB ∧ Cond.code yX2_readBoth cX2_readBoth 4 (some .boolean) ∈ TB ∧ (yX2_readBoth.cls ≠ "java/lang/invoke/MethodHandle" ∧ yX2_readBoth.cls ≠ "java/lang/invoke/VarHandle" ∧ (parseMethodDescriptor yX2_readBoth.desc).map (fun d => d.parameters.length) = some 2) ∧ 4 ≤ 21 := ⟨tbm 940 (by decide +kernel) (by decide +kernel), tbm 22 (by decide +kernel) (by decide +kernel), tbm 136 (by decide +kernel) (by decide +kernel), tbm 941 (by decide +kernel) (by decide +kernel), by decide +kernel, by decide⟩
theorem wi_RX2_18 : Iv RX2 18 yX2_readBoth cX2_readBoth 4 (some .boolean) 2 := ⟨tbm 938 (by decide +kernel) (by decide +kernel), wm_X2_readBoth⟩
theorem wi_RX2_22 : Iv RX2 22 yX10_isWord cX10_isWord 2 (some .boolean) 1 := ⟨tbm 946 (by decide +kernel) (by decide +kernel), wm_X10_isWord⟩
theorem wi_RX2_26 : Iv RX2 26 yX10_next cX10_next 1 none 0 := ⟨tbm 952 (by decide +kernel) (by decide +kernel), wm_X10_next⟩
theorem wm_X3_put : Cond.instanceMethod yX3_put ∈ TB ∧ Cond.selects yX3_put.cls yX3_put yX3_put ∈ TB ∧ Cond.initialized yX3_put.cls ∈ TB ∧ Cond.code yX3_put cX3_put 3 none ∈ TB ∧ (yX3_put.cls ≠ "java/lang/invoke/MethodHandle" ∧ yX3_put.cls ≠ "java/lang/invoke/VarHandle" ∧ (parseMethodDescriptor yX3_put.desc).map (fun d => d.parameters.length) = some 2) ∧ 3 ≤ 21 := ⟨tbm 954 (by decide +kernel) (by decide +kernel), tbm 955 (by decide +kernel) (by decide +kernel), tbm 139 (by decide +kernel) (by decide +kernel), tbm 956 (by decide +kernel) (by decide +kernel), by decide +kernel, by decide⟩
theorem wi_RX2_31 : Iv RX2 31 yX3_put cX3_put 3 none 2 := ⟨tbm 953 (by decide +kernel) (by decide +kernel), wm_X3_put⟩
def mX2_readEither_L13 (rc : Nat → Nat → Nat → Int32 → St_ → Option (Bool × St_)) (t : Nat) (p1 : Nat) (x2 : Int32) : Nat → Int32 → St_ → Option (Bool × St_)
  | 0, _, _ => none
  | n + 1, x3, σ => (if (1700 : Int32) ≤ x3 then
 (some (true, σ))
 else ((mX10_isWord (t + 1) (15 : Int32) σ).bind fun r2 =>
 (if r2 = true then
 ((mX10_next (t + 1) σ).bind fun σ3 =>
 ((rc 1 t p1 x2 σ3).bind fun r4 =>
 (if r4.1 = true then
 ((mX3_put p1 (4 : Int32) (0 : Int32) r4.2).bind fun σ5 =>
 (mX2_readEither_L13 rc t p1 x2 n (x3 + 1) σ5))
 else (some (false, r4.2)))))
 else (some (true, σ)))))
def mX2_readEither_b (rc : Nat → Nat → Nat → Int32 → St_ → Option (Bool × St_)) (t : Nat) (p1 : Nat) (p2 : Int32) (σ : St_) : Option (Bool × St_) :=
 ((rc 1 t p1 p2 σ).bind fun r1 =>
 (if r1.1 = true then
 (mX2_readEither_L13 rc t p1 p2 FU (0 : Int32) r1.2)
 else (some (false, r1.2))))
set_option maxHeartbeats 4000000 in
theorem tmX2_readEither_L13 (rc : Nat → Nat → Nat → Int32 → St_ → Option (Bool × St_)) (t : Nat) (p1 : Nat) (hr : Nat) (hh5 : 6 ≤ hr) (hrc : RcOk l D cA h0 ad sh P hr rc) (hT : LY2 sh P t) (hp1 : LY3 sh P p1) (x2 : Int32) : ∀ (n : Nat) (x3 : Int32) (σ : St_), Tj l D cA h0 ad RX2 cX2_readEither 4 (some .boolean) false (hr + 1) 0 0 (fun b => (some (.int (b2i b.1)), sh, P, b.2)) 0 0 sh P σ 13 [(0, .ref (h0 + t)), (1, .ref (h0 + p1)), (2, .int x2), (3, .int x3)] [] (mX2_readEither_L13 rc t p1 x2 n x3 σ) := by
  intro n
  induction n with
  | zero => intros; exact tj_none
  | succ n ih =>
    intro x3 σ
    rw [mX2_readEither_L13]
    refine tj_iload_n (q := 14) dX2_readEither_13 rfl (i := 3) rfl (pl := 3) rfl ?_
    refine tj_sipush (q := 17) (v := 1700) dX2_readEither_14 rfl (by decide) ?_
    refine tj_icmp_ge (tgt := 62) (q := 20) dX2_readEither_17 (by decide) rfl ?_ ?_
    · refine tj_iconst (q := 63) (v := 1) dX2_readEither_62 rfl (by decide) ?_
      exact tj_zret rfl (by decide) rfl (Nat.le_of_ble_eq_true rfl) (Nat.le_of_ble_eq_true rfl) dX2_readEither_63
    · refine tj_aload_n (q := 21) dX2_readEither_20 rfl (i := 0) rfl (pl := 0) rfl ?_
      refine tj_getR (q := 24) (hT).s (hT).p_tokens fok_2_0 wl_RX2_12 dX2_readEither_21 rfl ?_
      refine tj_bipush (q := 26) (v := 15) dX2_readEither_24 rfl (by decide) ?_
      refine tj_callZp (q := 29) (kj_V (As := [.int (15 : Int32)]) (rest := []) (t := (t + 1)) wi_RX2_22 ((hT).o_tokens).s rfl (rX10_isWord (t + 1) (15 : Int32) ((hT).o_tokens)) rfl (by omega) ⟨Nat.le_of_ble_eq_true rfl, Nat.le_of_ble_eq_true rfl⟩ (Nat.le_of_ble_eq_true rfl) dX2_readEither_26) rfl (fun r2 => ?_)
      refine tj_bz (tgt := 62) (q := 32) dX2_readEither_29 (by decide) rfl ?_ ?_
      · refine tj_aload_n (q := 33) dX2_readEither_32 rfl (i := 0) rfl (pl := 0) rfl ?_
        refine tj_getR (q := 36) (hT).s (hT).p_tokens fok_2_0 wl_RX2_12 dX2_readEither_33 rfl ?_
        refine tj_callV (q := 39) (kj_V (As := []) (rest := []) (t := (t + 1)) wi_RX2_26 ((hT).o_tokens).s rfl (rX10_next (t + 1) ((hT).o_tokens)) rfl (by omega) ⟨Nat.le_of_ble_eq_true rfl, Nat.le_of_ble_eq_true rfl⟩ (Nat.le_of_ble_eq_true rfl) dX2_readEither_36) rfl (fun σ3 => ?_)
        refine tj_aload_n (q := 40) dX2_readEither_39 rfl (i := 0) rfl (pl := 0) rfl ?_
        refine tj_aload_n (q := 41) dX2_readEither_40 rfl (i := 1) rfl (pl := 1) rfl ?_
        refine tj_iload_n (q := 42) dX2_readEither_41 rfl (i := 2) rfl (pl := 2) rfl ?_
        refine tj_callZ (q := 45) (kj_V (As := [.ref (h0 + p1), .int x2]) (rest := []) (t := t) wi_RX2_18 (hT).s rfl (hrc.2.1 t p1 x2 _ (hT) (hp1)) rfl (Nat.le_refl _) ⟨Nat.le_of_ble_eq_true rfl, Nat.le_of_ble_eq_true rfl⟩ (Nat.le_of_ble_eq_true rfl) dX2_readEither_42) rfl (fun r4 => ?_)
        refine tj_bnz (tgt := 50) (q := 48) dX2_readEither_45 (by decide) rfl ?_ ?_
        · refine tj_aload_n (q := 51) dX2_readEither_50 rfl (i := 1) rfl (pl := 1) rfl ?_
          refine tj_iconst (q := 52) (v := 4) dX2_readEither_51 rfl (by decide) ?_
          refine tj_iconst (q := 53) (v := 0) dX2_readEither_52 rfl (by decide) ?_
          refine tj_callV (q := 56) (kj_V (As := [.int (4 : Int32), .int (0 : Int32)]) (rest := []) (t := p1) wi_RX2_31 (hp1).s rfl (rX3_put p1 (4 : Int32) (0 : Int32) (hp1)) rfl (by omega) ⟨Nat.le_of_ble_eq_true rfl, Nat.le_of_ble_eq_true rfl⟩ (Nat.le_of_ble_eq_true rfl) dX2_readEither_53) rfl (fun σ5 => ?_)
          refine tj_iinc (q := 59) (v := x3 + 1) dX2_readEither_56 rfl (pl := 3) rfl rfl (by decide) rfl ?_
          refine tj_goto (q := 13) dX2_readEither_59 (by decide) ?_
          refine tj_lv [1, 2, 3, 0] rfl ?_
          exact ih (x3 + 1) σ5
        · refine tj_iconst (q := 49) (v := 0) dX2_readEither_48 rfl (by decide) ?_
          exact tj_zret rfl (by decide) rfl (Nat.le_of_ble_eq_true rfl) (Nat.le_of_ble_eq_true rfl) dX2_readEither_49
      · refine tj_iconst (q := 63) (v := 1) dX2_readEither_62 rfl (by decide) ?_
        exact tj_zret rfl (by decide) rfl (Nat.le_of_ble_eq_true rfl) (Nat.le_of_ble_eq_true rfl) dX2_readEither_63

set_option maxHeartbeats 4000000 in
theorem rX2_readEither_b (rc : Nat → Nat → Nat → Int32 → St_ → Option (Bool × St_)) (t : Nat) (p1 : Nat) (p2 : Int32) (hr : Nat) (hh5 : 6 ≤ hr) (hrc : RcOk l D cA h0 ad sh P hr rc) (hT : LY2 sh P t) (hp1 : LY3 sh P p1) : Rj l D cA h0 ad yX2_readEither cX2_readEither 4 (some .boolean) false (hr + 1) 0 0 (fun b => (some (.int (b2i b.1)), sh, P, b.2)) [.ref (h0 + t), .ref (h0 + p1), .int p2] sh P σ (mX2_readEither_b rc t p1 p2 σ) := by
  rw [mX2_readEither_b]
  refine Rj.of (by decide) (fun h => by cases h) (Nat.le_of_ble_eq_true rfl) ?_
  refine tj_lv0 (lv' := [(0, .ref (h0 + t)), (1, .ref (h0 + p1)), (2, .int p2)]) rfl ?_
  refine tj_aload_n (q := 1) dX2_readEither_0 rfl (i := 0) rfl (pl := 0) rfl ?_
  refine tj_aload_n (q := 2) dX2_readEither_1 rfl (i := 1) rfl (pl := 1) rfl ?_
  refine tj_iload_n (q := 3) dX2_readEither_2 rfl (i := 2) rfl (pl := 2) rfl ?_
  refine tj_callZ (q := 6) (kj_V (As := [.ref (h0 + p1), .int p2]) (rest := []) (t := t) wi_RX2_18 (hT).s rfl (hrc.2.1 t p1 p2 _ (hT) (hp1)) rfl (Nat.le_refl _) ⟨Nat.le_of_ble_eq_true rfl, Nat.le_of_ble_eq_true rfl⟩ (Nat.le_of_ble_eq_true rfl) dX2_readEither_3) rfl (fun r1 => ?_)
  refine tj_bnz (tgt := 11) (q := 9) dX2_readEither_6 (by decide) rfl ?_ ?_
  · refine tj_iconst (q := 12) (v := 0) dX2_readEither_11 rfl (by decide) ?_
    refine tj_istore_n (q := 13) dX2_readEither_12 rfl (i := 3) rfl (by decide) rfl ?_
    refine tj_lv [1, 2, 3, 0] rfl ?_
    exact tmX2_readEither_L13 rc t p1 hr hh5 hrc hT hp1 p2 FU (0 : Int32) r1.2
  · refine tj_iconst (q := 10) (v := 0) dX2_readEither_9 rfl (by decide) ?_
    exact tj_zret rfl (by decide) rfl (Nat.le_of_ble_eq_true rfl) (Nat.le_of_ble_eq_true rfl) dX2_readEither_10

theorem dX2_readBoth_0 : decode cX2_readBoth 0 = .ok (.aload_n 0, 1) := by decide +kernel
theorem dX2_readBoth_1 : decode cX2_readBoth 1 = .ok (.aload_n 1, 1) := by decide +kernel
theorem dX2_readBoth_2 : decode cX2_readBoth 2 = .ok (.iload_n 2, 1) := by decide +kernel
theorem dX2_readBoth_3 : decode cX2_readBoth 3 = .ok (.invokevirtual 35, 3) := by decide +kernel
theorem dX2_readBoth_6 : decode cX2_readBoth 6 = .ok (.ifCond .ne 5, 3) := by decide +kernel
theorem dX2_readBoth_9 : decode cX2_readBoth 9 = .ok (.iconst 0, 1) := by decide +kernel
theorem dX2_readBoth_10 : decode cX2_readBoth 10 = .ok (.ireturn, 1) := by decide +kernel
theorem dX2_readBoth_11 : decode cX2_readBoth 11 = .ok (.iconst 0, 1) := by decide +kernel
theorem dX2_readBoth_12 : decode cX2_readBoth 12 = .ok (.istore_n 3, 1) := by decide +kernel
theorem dX2_readBoth_13 : decode cX2_readBoth 13 = .ok (.iload_n 3, 1) := by decide +kernel
theorem dX2_readBoth_14 : decode cX2_readBoth 14 = .ok (.sipush 1700, 3) := by decide +kernel
theorem dX2_readBoth_17 : decode cX2_readBoth 17 = .ok (.if_icmp .ge 45, 3) := by decide +kernel
theorem dX2_readBoth_20 : decode cX2_readBoth 20 = .ok (.aload_n 0, 1) := by decide +kernel
theorem dX2_readBoth_21 : decode cX2_readBoth 21 = .ok (.getfield 12, 3) := by decide +kernel
theorem dX2_readBoth_24 : decode cX2_readBoth 24 = .ok (.bipush 16, 2) := by decide +kernel
theorem dX2_readBoth_26 : decode cX2_readBoth 26 = .ok (.invokevirtual 22, 3) := by decide +kernel
theorem dX2_readBoth_29 : decode cX2_readBoth 29 = .ok (.ifCond .eq 33, 3) := by decide +kernel
theorem dX2_readBoth_32 : decode cX2_readBoth 32 = .ok (.aload_n 0, 1) := by decide +kernel
theorem dX2_readBoth_33 : decode cX2_readBoth 33 = .ok (.getfield 12, 3) := by decide +kernel
theorem dX2_readBoth_36 : decode cX2_readBoth 36 = .ok (.invokevirtual 26, 3) := by decide +kernel
theorem dX2_readBoth_39 : decode cX2_readBoth 39 = .ok (.aload_n 0, 1) := by decide +kernel
theorem dX2_readBoth_40 : decode cX2_readBoth 40 = .ok (.aload_n 1, 1) := by decide +kernel
theorem dX2_readBoth_41 : decode cX2_readBoth 41 = .ok (.iload_n 2, 1) := by decide +kernel
theorem dX2_readBoth_42 : decode cX2_readBoth 42 = .ok (.invokevirtual 35, 3) := by decide +kernel
theorem dX2_readBoth_45 : decode cX2_readBoth 45 = .ok (.ifCond .ne 5, 3) := by decide +kernel
theorem dX2_readBoth_48 : decode cX2_readBoth 48 = .ok (.iconst 0, 1) := by decide +kernel
theorem dX2_readBoth_49 : decode cX2_readBoth 49 = .ok (.ireturn, 1) := by decide +kernel
theorem dX2_readBoth_50 : decode cX2_readBoth 50 = .ok (.aload_n 1, 1) := by decide +kernel
theorem dX2_readBoth_51 : decode cX2_readBoth 51 = .ok (.iconst 3, 1) := by decide +kernel
theorem dX2_readBoth_52 : decode cX2_readBoth 52 = .ok (.iconst 0, 1) := by decide +kernel
theorem dX2_readBoth_53 : decode cX2_readBoth 53 = .ok (.invokevirtual 31, 3) := by decide +kernel
theorem dX2_readBoth_56 : decode cX2_readBoth 56 = .ok (.iinc 3 1, 3) := by decide +kernel
theorem dX2_readBoth_59 : decode cX2_readBoth 59 = .ok (.goto (-46), 3) := by decide +kernel
theorem dX2_readBoth_62 : decode cX2_readBoth 62 = .ok (.iconst 1, 1) := by decide +kernel
theorem dX2_readBoth_63 : decode cX2_readBoth 63 = .ok (.ireturn, 1) := by decide +kernel
theorem wm_X2_readOne : Cond.instanceMethod yX2_readOne ∈ TB ∧ Cond.selects yX2_readOne.cls yX2_readOne yX2_readOne ∈ TB ∧ Cond.initialized yX2_readOne.cls ∈ TB ∧ Cond.code yX2_readOne cX2_readOne 4 (some .boolean) ∈ TB ∧ (yX2_readOne.cls ≠ "java/lang/invoke/MethodHandle" ∧ yX2_readOne.cls ≠ "java/lang/invoke/VarHandle" ∧ (parseMethodDescriptor yX2_readOne.desc).map (fun d => d.parameters.length) = some 2) ∧ 4 ≤ 21 := ⟨tbm 944 (by decide +kernel) (by decide +kernel), tbm 23 (by decide +kernel) (by decide +kernel), tbm 136 (by decide +kernel) (by decide +kernel), tbm 945 (by decide +kernel) (by decide +kernel), by decide +kernel, by decide⟩
theorem wi_RX2_35 : Iv RX2 35 yX2_readOne cX2_readOne 4 (some .boolean) 2 := ⟨tbm 942 (by decide +kernel) (by decide +kernel), wm_X2_readOne⟩
def mX2_readBoth_L13 (rc : Nat → Nat → Nat → Int32 → St_ → Option (Bool × St_)) (t : Nat) (p1 : Nat) (x2 : Int32) : Nat → Int32 → St_ → Option (Bool × St_)
  | 0, _, _ => none
  | n + 1, x3, σ => (if (1700 : Int32) ≤ x3 then
 (some (true, σ))
 else ((mX10_isWord (t + 1) (16 : Int32) σ).bind fun r2 =>
 (if r2 = true then
 ((mX10_next (t + 1) σ).bind fun σ3 =>
 ((rc 2 t p1 x2 σ3).bind fun r4 =>
 (if r4.1 = true then
 ((mX3_put p1 (3 : Int32) (0 : Int32) r4.2).bind fun σ5 =>
 (mX2_readBoth_L13 rc t p1 x2 n (x3 + 1) σ5))
 else (some (false, r4.2)))))
 else (some (true, σ)))))
def mX2_readBoth_b (rc : Nat → Nat → Nat → Int32 → St_ → Option (Bool × St_)) (t : Nat) (p1 : Nat) (p2 : Int32) (σ : St_) : Option (Bool × St_) :=
 ((rc 2 t p1 p2 σ).bind fun r1 =>
 (if r1.1 = true then
 (mX2_readBoth_L13 rc t p1 p2 FU (0 : Int32) r1.2)
 else (some (false, r1.2))))
set_option maxHeartbeats 4000000 in
theorem tmX2_readBoth_L13 (rc : Nat → Nat → Nat → Int32 → St_ → Option (Bool × St_)) (t : Nat) (p1 : Nat) (hr : Nat) (hh5 : 6 ≤ hr) (hrc : RcOk l D cA h0 ad sh P hr rc) (hT : LY2 sh P t) (hp1 : LY3 sh P p1) (x2 : Int32) : ∀ (n : Nat) (x3 : Int32) (σ : St_), Tj l D cA h0 ad RX2 cX2_readBoth 4 (some .boolean) false (hr + 1) 0 0 (fun b => (some (.int (b2i b.1)), sh, P, b.2)) 0 0 sh P σ 13 [(0, .ref (h0 + t)), (1, .ref (h0 + p1)), (2, .int x2), (3, .int x3)] [] (mX2_readBoth_L13 rc t p1 x2 n x3 σ) := by
  intro n
  induction n with
  | zero => intros; exact tj_none
  | succ n ih =>
    intro x3 σ
    rw [mX2_readBoth_L13]
    refine tj_iload_n (q := 14) dX2_readBoth_13 rfl (i := 3) rfl (pl := 3) rfl ?_
    refine tj_sipush (q := 17) (v := 1700) dX2_readBoth_14 rfl (by decide) ?_
    refine tj_icmp_ge (tgt := 62) (q := 20) dX2_readBoth_17 (by decide) rfl ?_ ?_
    · refine tj_iconst (q := 63) (v := 1) dX2_readBoth_62 rfl (by decide) ?_
      exact tj_zret rfl (by decide) rfl (Nat.le_of_ble_eq_true rfl) (Nat.le_of_ble_eq_true rfl) dX2_readBoth_63
    · refine tj_aload_n (q := 21) dX2_readBoth_20 rfl (i := 0) rfl (pl := 0) rfl ?_
      refine tj_getR (q := 24) (hT).s (hT).p_tokens fok_2_0 wl_RX2_12 dX2_readBoth_21 rfl ?_
      refine tj_bipush (q := 26) (v := 16) dX2_readBoth_24 rfl (by decide) ?_
      refine tj_callZp (q := 29) (kj_V (As := [.int (16 : Int32)]) (rest := []) (t := (t + 1)) wi_RX2_22 ((hT).o_tokens).s rfl (rX10_isWord (t + 1) (16 : Int32) ((hT).o_tokens)) rfl (by omega) ⟨Nat.le_of_ble_eq_true rfl, Nat.le_of_ble_eq_true rfl⟩ (Nat.le_of_ble_eq_true rfl) dX2_readBoth_26) rfl (fun r2 => ?_)
      refine tj_bz (tgt := 62) (q := 32) dX2_readBoth_29 (by decide) rfl ?_ ?_
      · refine tj_aload_n (q := 33) dX2_readBoth_32 rfl (i := 0) rfl (pl := 0) rfl ?_
        refine tj_getR (q := 36) (hT).s (hT).p_tokens fok_2_0 wl_RX2_12 dX2_readBoth_33 rfl ?_
        refine tj_callV (q := 39) (kj_V (As := []) (rest := []) (t := (t + 1)) wi_RX2_26 ((hT).o_tokens).s rfl (rX10_next (t + 1) ((hT).o_tokens)) rfl (by omega) ⟨Nat.le_of_ble_eq_true rfl, Nat.le_of_ble_eq_true rfl⟩ (Nat.le_of_ble_eq_true rfl) dX2_readBoth_36) rfl (fun σ3 => ?_)
        refine tj_aload_n (q := 40) dX2_readBoth_39 rfl (i := 0) rfl (pl := 0) rfl ?_
        refine tj_aload_n (q := 41) dX2_readBoth_40 rfl (i := 1) rfl (pl := 1) rfl ?_
        refine tj_iload_n (q := 42) dX2_readBoth_41 rfl (i := 2) rfl (pl := 2) rfl ?_
        refine tj_callZ (q := 45) (kj_V (As := [.ref (h0 + p1), .int x2]) (rest := []) (t := t) wi_RX2_35 (hT).s rfl (hrc.2.2.1 t p1 x2 _ (hT) (hp1)) rfl (Nat.le_refl _) ⟨Nat.le_of_ble_eq_true rfl, Nat.le_of_ble_eq_true rfl⟩ (Nat.le_of_ble_eq_true rfl) dX2_readBoth_42) rfl (fun r4 => ?_)
        refine tj_bnz (tgt := 50) (q := 48) dX2_readBoth_45 (by decide) rfl ?_ ?_
        · refine tj_aload_n (q := 51) dX2_readBoth_50 rfl (i := 1) rfl (pl := 1) rfl ?_
          refine tj_iconst (q := 52) (v := 3) dX2_readBoth_51 rfl (by decide) ?_
          refine tj_iconst (q := 53) (v := 0) dX2_readBoth_52 rfl (by decide) ?_
          refine tj_callV (q := 56) (kj_V (As := [.int (3 : Int32), .int (0 : Int32)]) (rest := []) (t := p1) wi_RX2_31 (hp1).s rfl (rX3_put p1 (3 : Int32) (0 : Int32) (hp1)) rfl (by omega) ⟨Nat.le_of_ble_eq_true rfl, Nat.le_of_ble_eq_true rfl⟩ (Nat.le_of_ble_eq_true rfl) dX2_readBoth_53) rfl (fun σ5 => ?_)
          refine tj_iinc (q := 59) (v := x3 + 1) dX2_readBoth_56 rfl (pl := 3) rfl rfl (by decide) rfl ?_
          refine tj_goto (q := 13) dX2_readBoth_59 (by decide) ?_
          refine tj_lv [1, 2, 3, 0] rfl ?_
          exact ih (x3 + 1) σ5
        · refine tj_iconst (q := 49) (v := 0) dX2_readBoth_48 rfl (by decide) ?_
          exact tj_zret rfl (by decide) rfl (Nat.le_of_ble_eq_true rfl) (Nat.le_of_ble_eq_true rfl) dX2_readBoth_49
      · refine tj_iconst (q := 63) (v := 1) dX2_readBoth_62 rfl (by decide) ?_
        exact tj_zret rfl (by decide) rfl (Nat.le_of_ble_eq_true rfl) (Nat.le_of_ble_eq_true rfl) dX2_readBoth_63

set_option maxHeartbeats 4000000 in
theorem rX2_readBoth_b (rc : Nat → Nat → Nat → Int32 → St_ → Option (Bool × St_)) (t : Nat) (p1 : Nat) (p2 : Int32) (hr : Nat) (hh5 : 6 ≤ hr) (hrc : RcOk l D cA h0 ad sh P hr rc) (hT : LY2 sh P t) (hp1 : LY3 sh P p1) : Rj l D cA h0 ad yX2_readBoth cX2_readBoth 4 (some .boolean) false (hr + 1) 0 0 (fun b => (some (.int (b2i b.1)), sh, P, b.2)) [.ref (h0 + t), .ref (h0 + p1), .int p2] sh P σ (mX2_readBoth_b rc t p1 p2 σ) := by
  rw [mX2_readBoth_b]
  refine Rj.of (by decide) (fun h => by cases h) (Nat.le_of_ble_eq_true rfl) ?_
  refine tj_lv0 (lv' := [(0, .ref (h0 + t)), (1, .ref (h0 + p1)), (2, .int p2)]) rfl ?_
  refine tj_aload_n (q := 1) dX2_readBoth_0 rfl (i := 0) rfl (pl := 0) rfl ?_
  refine tj_aload_n (q := 2) dX2_readBoth_1 rfl (i := 1) rfl (pl := 1) rfl ?_
  refine tj_iload_n (q := 3) dX2_readBoth_2 rfl (i := 2) rfl (pl := 2) rfl ?_
  refine tj_callZ (q := 6) (kj_V (As := [.ref (h0 + p1), .int p2]) (rest := []) (t := t) wi_RX2_35 (hT).s rfl (hrc.2.2.1 t p1 p2 _ (hT) (hp1)) rfl (Nat.le_refl _) ⟨Nat.le_of_ble_eq_true rfl, Nat.le_of_ble_eq_true rfl⟩ (Nat.le_of_ble_eq_true rfl) dX2_readBoth_3) rfl (fun r1 => ?_)
  refine tj_bnz (tgt := 11) (q := 9) dX2_readBoth_6 (by decide) rfl ?_ ?_
  · refine tj_iconst (q := 12) (v := 0) dX2_readBoth_11 rfl (by decide) ?_
    refine tj_istore_n (q := 13) dX2_readBoth_12 rfl (i := 3) rfl (by decide) rfl ?_
    refine tj_lv [1, 2, 3, 0] rfl ?_
    exact tmX2_readBoth_L13 rc t p1 hr hh5 hrc hT hp1 p2 FU (0 : Int32) r1.2
  · refine tj_iconst (q := 10) (v := 0) dX2_readBoth_9 rfl (by decide) ?_
    exact tj_zret rfl (by decide) rfl (Nat.le_of_ble_eq_true rfl) (Nat.le_of_ble_eq_true rfl) dX2_readBoth_10

theorem dX2_readOne_0 : decode cX2_readOne 0 = .ok (.aload_n 0, 1) := by decide +kernel
theorem dX2_readOne_1 : decode cX2_readOne 1 = .ok (.getfield 12, 3) := by decide +kernel
theorem dX2_readOne_4 : decode cX2_readOne 4 = .ok (.bipush 17, 2) := by decide +kernel
theorem dX2_readOne_6 : decode cX2_readOne 6 = .ok (.invokevirtual 22, 3) := by decide +kernel
theorem dX2_readOne_9 : decode cX2_readOne 9 = .ok (.ifCond .eq 10, 3) := by decide +kernel
theorem dX2_readOne_12 : decode cX2_readOne 12 = .ok (.aload_n 0, 1) := by decide +kernel
theorem dX2_readOne_13 : decode cX2_readOne 13 = .ok (.aload_n 1, 1) := by decide +kernel
theorem dX2_readOne_14 : decode cX2_readOne 14 = .ok (.iload_n 2, 1) := by decide +kernel
theorem dX2_readOne_15 : decode cX2_readOne 15 = .ok (.invokevirtual 38, 3) := by decide +kernel
theorem dX2_readOne_18 : decode cX2_readOne 18 = .ok (.ireturn, 1) := by decide +kernel
theorem dX2_readOne_19 : decode cX2_readOne 19 = .ok (.aload_n 0, 1) := by decide +kernel
theorem dX2_readOne_20 : decode cX2_readOne 20 = .ok (.aload_n 1, 1) := by decide +kernel
theorem dX2_readOne_21 : decode cX2_readOne 21 = .ok (.iload_n 2, 1) := by decide +kernel
theorem dX2_readOne_22 : decode cX2_readOne 22 = .ok (.invokevirtual 41, 3) := by decide +kernel
theorem dX2_readOne_25 : decode cX2_readOne 25 = .ok (.ifCond .ne 5, 3) := by decide +kernel
theorem dX2_readOne_28 : decode cX2_readOne 28 = .ok (.iconst 0, 1) := by decide +kernel
theorem dX2_readOne_29 : decode cX2_readOne 29 = .ok (.ireturn, 1) := by decide +kernel
theorem dX2_readOne_30 : decode cX2_readOne 30 = .ok (.aload_n 0, 1) := by decide +kernel
theorem dX2_readOne_31 : decode cX2_readOne 31 = .ok (.getfield 12, 3) := by decide +kernel
theorem dX2_readOne_34 : decode cX2_readOne 34 = .ok (.bipush 60, 2) := by decide +kernel
theorem dX2_readOne_36 : decode cX2_readOne 36 = .ok (.invokevirtual 44, 3) := by decide +kernel
theorem dX2_readOne_39 : decode cX2_readOne 39 = .ok (.ifCond .ne 29, 3) := by decide +kernel
theorem dX2_readOne_42 : decode cX2_readOne 42 = .ok (.aload_n 0, 1) := by decide +kernel
theorem dX2_readOne_43 : decode cX2_readOne 43 = .ok (.getfield 12, 3) := by decide +kernel
theorem dX2_readOne_46 : decode cX2_readOne 46 = .ok (.bipush 62, 2) := by decide +kernel
theorem dX2_readOne_48 : decode cX2_readOne 48 = .ok (.invokevirtual 44, 3) := by decide +kernel
theorem dX2_readOne_51 : decode cX2_readOne 51 = .ok (.ifCond .ne 17, 3) := by decide +kernel
theorem dX2_readOne_54 : decode cX2_readOne 54 = .ok (.aload_n 0, 1) := by decide +kernel
theorem dX2_readOne_55 : decode cX2_readOne 55 = .ok (.getfield 12, 3) := by decide +kernel
theorem dX2_readOne_58 : decode cX2_readOne 58 = .ok (.bipush 61, 2) := by decide +kernel
theorem dX2_readOne_60 : decode cX2_readOne 60 = .ok (.invokevirtual 44, 3) := by decide +kernel
theorem dX2_readOne_63 : decode cX2_readOne 63 = .ok (.ifCond .ne 5, 3) := by decide +kernel
theorem dX2_readOne_66 : decode cX2_readOne 66 = .ok (.iconst 1, 1) := by decide +kernel
theorem dX2_readOne_67 : decode cX2_readOne 67 = .ok (.ireturn, 1) := by decide +kernel
theorem dX2_readOne_68 : decode cX2_readOne 68 = .ok (.aload_n 0, 1) := by decide +kernel
theorem dX2_readOne_69 : decode cX2_readOne 69 = .ok (.getfield 12, 3) := by decide +kernel
theorem dX2_readOne_72 : decode cX2_readOne 72 = .ok (.invokevirtual 47, 3) := by decide +kernel
theorem dX2_readOne_75 : decode cX2_readOne 75 = .ok (.istore_n 3, 1) := by decide +kernel
theorem dX2_readOne_76 : decode cX2_readOne 76 = .ok (.aload_n 0, 1) := by decide +kernel
theorem dX2_readOne_77 : decode cX2_readOne 77 = .ok (.getfield 12, 3) := by decide +kernel
theorem dX2_readOne_80 : decode cX2_readOne 80 = .ok (.invokevirtual 26, 3) := by decide +kernel
theorem dX2_readOne_83 : decode cX2_readOne 83 = .ok (.aload_n 0, 1) := by decide +kernel
theorem dX2_readOne_84 : decode cX2_readOne 84 = .ok (.aload_n 1, 1) := by decide +kernel
theorem dX2_readOne_85 : decode cX2_readOne 85 = .ok (.iload_n 2, 1) := by decide +kernel
theorem dX2_readOne_86 : decode cX2_readOne 86 = .ok (.invokevirtual 41, 3) := by decide +kernel
theorem dX2_readOne_89 : decode cX2_readOne 89 = .ok (.ifCond .ne 5, 3) := by decide +kernel
theorem dX2_readOne_92 : decode cX2_readOne 92 = .ok (.iconst 0, 1) := by decide +kernel
theorem dX2_readOne_93 : decode cX2_readOne 93 = .ok (.ireturn, 1) := by decide +kernel
theorem dX2_readOne_94 : decode cX2_readOne 94 = .ok (.aload_n 1, 1) := by decide +kernel
theorem dX2_readOne_95 : decode cX2_readOne 95 = .ok (.iload_n 3, 1) := by decide +kernel
theorem dX2_readOne_96 : decode cX2_readOne 96 = .ok (.iconst 0, 1) := by decide +kernel
theorem dX2_readOne_97 : decode cX2_readOne 97 = .ok (.invokevirtual 31, 3) := by decide +kernel
theorem dX2_readOne_100 : decode cX2_readOne 100 = .ok (.iconst 1, 1) := by decide +kernel
theorem dX2_readOne_101 : decode cX2_readOne 101 = .ok (.ireturn, 1) := by decide +kernel
theorem wm_X2_readNot : Cond.instanceMethod yX2_readNot ∈ TB ∧ Cond.selects yX2_readNot.cls yX2_readNot yX2_readNot ∈ TB ∧ Cond.initialized yX2_readNot.cls ∈ TB ∧ Cond.code yX2_readNot cX2_readNot 3 (some .boolean) ∈ TB ∧ (yX2_readNot.cls ≠ "java/lang/invoke/MethodHandle" ∧ yX2_readNot.cls ≠ "java/lang/invoke/VarHandle" ∧ (parseMethodDescriptor yX2_readNot.desc).map (fun d => d.parameters.length) = some 2) ∧ 3 ≤ 21 := ⟨tbm 949 (by decide +kernel) (by decide +kernel), tbm 24 (by decide +kernel) (by decide +kernel), tbm 136 (by decide +kernel) (by decide +kernel), tbm 950 (by decide +kernel) (by decide +kernel), by decide +kernel, by decide⟩
theorem wi_RX2_38 : Iv RX2 38 yX2_readNot cX2_readNot 3 (some .boolean) 2 := ⟨tbm 947 (by decide +kernel) (by decide +kernel), wm_X2_readNot⟩
theorem wm_X2_readTotal : Cond.instanceMethod yX2_readTotal ∈ TB ∧ Cond.selects yX2_readTotal.cls yX2_readTotal yX2_readTotal ∈ TB ∧ Cond.initialized yX2_readTotal.cls ∈ TB ∧ Cond.code yX2_readTotal cX2_readTotal 5 (some .boolean) ∈ TB ∧ (yX2_readTotal.cls ≠ "java/lang/invoke/MethodHandle" ∧ yX2_readTotal.cls ≠ "java/lang/invoke/VarHandle" ∧ (parseMethodDescriptor yX2_readTotal.desc).map (fun d => d.parameters.length) = some 2) ∧ 5 ≤ 21 := ⟨tbm 959 (by decide +kernel) (by decide +kernel), tbm 25 (by decide +kernel) (by decide +kernel), tbm 136 (by decide +kernel) (by decide +kernel), tbm 960 (by decide +kernel) (by decide +kernel), by decide +kernel, by decide⟩
theorem wi_RX2_41 : Iv RX2 41 yX2_readTotal cX2_readTotal 5 (some .boolean) 2 := ⟨tbm 957 (by decide +kernel) (by decide +kernel), wm_X2_readTotal⟩
theorem wm_X10_number : Cond.instanceMethod yX10_number ∈ TB ∧ Cond.selects yX10_number.cls yX10_number yX10_number ∈ TB ∧ Cond.initialized yX10_number.cls ∈ TB ∧ Cond.code yX10_number cX10_number 1 (some .int) ∈ TB ∧ (yX10_number.cls ≠ "java/lang/invoke/MethodHandle" ∧ yX10_number.cls ≠ "java/lang/invoke/VarHandle" ∧ (parseMethodDescriptor yX10_number.desc).map (fun d => d.parameters.length) = some 0) ∧ 1 ≤ 21 := ⟨tbm 855 (by decide +kernel) (by decide +kernel), tbm 856 (by decide +kernel) (by decide +kernel), tbm 137 (by decide +kernel) (by decide +kernel), tbm 857 (by decide +kernel) (by decide +kernel), by decide +kernel, by decide⟩
theorem wi_RX2_47 : Iv RX2 47 yX10_number cX10_number 1 (some .int) 0 := ⟨tbm 984 (by decide +kernel) (by decide +kernel), wm_X10_number⟩
def mX2_readOne_b (rc : Nat → Nat → Nat → Int32 → St_ → Option (Bool × St_)) (t : Nat) (p1 : Nat) (p2 : Int32) (σ : St_) : Option (Bool × St_) :=
 ((mX10_isWord (t + 1) (17 : Int32) σ).bind fun r1 =>
 (if r1 = true then
 ((rc 3 t p1 p2 σ).bind fun r2 =>
 (some (r2.1, r2.2)))
 else ((rc 4 t p1 p2 σ).bind fun r3 =>
 (if r3.1 = true then
 ((mX10_isSign (t + 1) (60 : Int32) r3.2).bind fun r4 =>
 (bnd ((mX10_number (t + 1) r3.2).bind fun r7 =>
 ((mX10_next (t + 1) r3.2).bind fun σ8 =>
 ((rc 4 t p1 p2 σ8).bind fun r9 =>
 (if r9.1 = true then
 ((mX3_put p1 r7 (0 : Int32) r9.2).bind fun σ10 =>
 (some (true, σ10)))
 else (some (false, r9.2)))))) fun k5 =>
 (if r4 = true then
 (k5)
 else ((mX10_isSign (t + 1) (62 : Int32) r3.2).bind fun r11 =>
 (if r11 = true then
 (k5)
 else ((mX10_isSign (t + 1) (61 : Int32) r3.2).bind fun r12 =>
 (if r12 = true then
 (k5)
 else (some (true, r3.2)))))))))
 else (some (false, r3.2))))))
set_option maxHeartbeats 4000000 in
theorem rX2_readOne_b (rc : Nat → Nat → Nat → Int32 → St_ → Option (Bool × St_)) (t : Nat) (p1 : Nat) (p2 : Int32) (hr : Nat) (hh5 : 6 ≤ hr) (hrc : RcOk l D cA h0 ad sh P hr rc) (hT : LY2 sh P t) (hp1 : LY3 sh P p1) : Rj l D cA h0 ad yX2_readOne cX2_readOne 4 (some .boolean) false (hr + 1) 0 0 (fun b => (some (.int (b2i b.1)), sh, P, b.2)) [.ref (h0 + t), .ref (h0 + p1), .int p2] sh P σ (mX2_readOne_b rc t p1 p2 σ) := by
  rw [mX2_readOne_b]
  refine Rj.of (by decide) (fun h => by cases h) (Nat.le_of_ble_eq_true rfl) ?_
  refine tj_lv0 (lv' := [(0, .ref (h0 + t)), (1, .ref (h0 + p1)), (2, .int p2)]) rfl ?_
  refine tj_aload_n (q := 1) dX2_readOne_0 rfl (i := 0) rfl (pl := 0) rfl ?_
  refine tj_getR (q := 4) (hT).s (hT).p_tokens fok_2_0 wl_RX2_12 dX2_readOne_1 rfl ?_
  refine tj_bipush (q := 6) (v := 17) dX2_readOne_4 rfl (by decide) ?_
  refine tj_callZp (q := 9) (kj_V (As := [.int (17 : Int32)]) (rest := []) (t := (t + 1)) wi_RX2_22 ((hT).o_tokens).s rfl (rX10_isWord (t + 1) (17 : Int32) ((hT).o_tokens)) rfl (by omega) ⟨Nat.le_of_ble_eq_true rfl, Nat.le_of_ble_eq_true rfl⟩ (Nat.le_of_ble_eq_true rfl) dX2_readOne_6) rfl (fun r1 => ?_)
  refine tj_bz (tgt := 19) (q := 12) dX2_readOne_9 (by decide) rfl ?_ ?_
  · refine tj_aload_n (q := 13) dX2_readOne_12 rfl (i := 0) rfl (pl := 0) rfl ?_
    refine tj_aload_n (q := 14) dX2_readOne_13 rfl (i := 1) rfl (pl := 1) rfl ?_
    refine tj_iload_n (q := 15) dX2_readOne_14 rfl (i := 2) rfl (pl := 2) rfl ?_
    refine tj_callZ (q := 18) (kj_V (As := [.ref (h0 + p1), .int p2]) (rest := []) (t := t) wi_RX2_38 (hT).s rfl (hrc.2.2.2.1 t p1 p2 _ (hT) (hp1)) rfl (Nat.le_refl _) ⟨Nat.le_of_ble_eq_true rfl, Nat.le_of_ble_eq_true rfl⟩ (Nat.le_of_ble_eq_true rfl) dX2_readOne_15) rfl (fun r2 => ?_)
    exact tj_zret rfl (nar_b2i _) rfl (Nat.le_of_ble_eq_true rfl) (Nat.le_of_ble_eq_true rfl) dX2_readOne_18
  · refine tj_aload_n (q := 20) dX2_readOne_19 rfl (i := 0) rfl (pl := 0) rfl ?_
    refine tj_aload_n (q := 21) dX2_readOne_20 rfl (i := 1) rfl (pl := 1) rfl ?_
    refine tj_iload_n (q := 22) dX2_readOne_21 rfl (i := 2) rfl (pl := 2) rfl ?_
    refine tj_callZ (q := 25) (kj_V (As := [.ref (h0 + p1), .int p2]) (rest := []) (t := t) wi_RX2_41 (hT).s rfl (hrc.2.2.2.2.1 t p1 p2 _ (hT) (hp1)) rfl (Nat.le_refl _) ⟨Nat.le_of_ble_eq_true rfl, Nat.le_of_ble_eq_true rfl⟩ (Nat.le_of_ble_eq_true rfl) dX2_readOne_22) rfl (fun r3 => ?_)
    refine tj_bnz (tgt := 30) (q := 28) dX2_readOne_25 (by decide) rfl ?_ ?_
    · refine tj_aload_n (q := 31) dX2_readOne_30 rfl (i := 0) rfl (pl := 0) rfl ?_
      refine tj_getR (q := 34) (hT).s (hT).p_tokens fok_2_0 wl_RX2_12 dX2_readOne_31 rfl ?_
      refine tj_bipush (q := 36) (v := 60) dX2_readOne_34 rfl (by decide) ?_
      refine tj_callZp (q := 39) (kj_V (As := [.int (60 : Int32)]) (rest := []) (t := (t + 1)) wi_RX2_44 ((hT).o_tokens).s rfl (rX10_isSign (t + 1) (60 : Int32) ((hT).o_tokens)) rfl (by omega) ⟨Nat.le_of_ble_eq_true rfl, Nat.le_of_ble_eq_true rfl⟩ (Nat.le_of_ble_eq_true rfl) dX2_readOne_36) rfl (fun r4 => ?_)
      refine tj_bnd (fun k5 => Tj l D cA h0 ad RX2 cX2_readOne 4 (some .boolean) false (hr + 1) 0 0 (fun b => (some (.int (b2i b.1)), sh, P, b.2)) 0 0 sh P r3.2 68 [(0, .ref (h0 + t)), (1, .ref (h0 + p1)), (2, .int p2)] [] k5) ?_ (fun k5 hk6 => ?_)
      · refine tj_aload_n (q := 69) dX2_readOne_68 rfl (i := 0) rfl (pl := 0) rfl ?_
        refine tj_getR (q := 72) (hT).s (hT).p_tokens fok_2_0 wl_RX2_12 dX2_readOne_69 rfl ?_
        refine tj_callIp (q := 75) (kj_V (As := []) (rest := []) (t := (t + 1)) wi_RX2_47 ((hT).o_tokens).s rfl (rX10_number (t + 1) ((hT).o_tokens)) rfl (by omega) ⟨Nat.le_of_ble_eq_true rfl, Nat.le_of_ble_eq_true rfl⟩ (Nat.le_of_ble_eq_true rfl) dX2_readOne_72) rfl (fun r7 => ?_)
        refine tj_istore_n (q := 76) dX2_readOne_75 rfl (i := 3) rfl (by decide) rfl ?_
        refine tj_aload_n (q := 77) dX2_readOne_76 rfl (i := 0) rfl (pl := 1) rfl ?_
        refine tj_getR (q := 80) (hT).s (hT).p_tokens fok_2_0 wl_RX2_12 dX2_readOne_77 rfl ?_
        refine tj_callV (q := 83) (kj_V (As := []) (rest := []) (t := (t + 1)) wi_RX2_26 ((hT).o_tokens).s rfl (rX10_next (t + 1) ((hT).o_tokens)) rfl (by omega) ⟨Nat.le_of_ble_eq_true rfl, Nat.le_of_ble_eq_true rfl⟩ (Nat.le_of_ble_eq_true rfl) dX2_readOne_80) rfl (fun σ8 => ?_)
        refine tj_aload_n (q := 84) dX2_readOne_83 rfl (i := 0) rfl (pl := 1) rfl ?_
        refine tj_aload_n (q := 85) dX2_readOne_84 rfl (i := 1) rfl (pl := 2) rfl ?_
        refine tj_iload_n (q := 86) dX2_readOne_85 rfl (i := 2) rfl (pl := 3) rfl ?_
        refine tj_callZ (q := 89) (kj_V (As := [.ref (h0 + p1), .int p2]) (rest := []) (t := t) wi_RX2_41 (hT).s rfl (hrc.2.2.2.2.1 t p1 p2 _ (hT) (hp1)) rfl (Nat.le_refl _) ⟨Nat.le_of_ble_eq_true rfl, Nat.le_of_ble_eq_true rfl⟩ (Nat.le_of_ble_eq_true rfl) dX2_readOne_86) rfl (fun r9 => ?_)
        refine tj_bnz (tgt := 94) (q := 92) dX2_readOne_89 (by decide) rfl ?_ ?_
        · refine tj_aload_n (q := 95) dX2_readOne_94 rfl (i := 1) rfl (pl := 2) rfl ?_
          refine tj_iload_n (q := 96) dX2_readOne_95 rfl (i := 3) rfl (pl := 0) rfl ?_
          refine tj_iconst (q := 97) (v := 0) dX2_readOne_96 rfl (by decide) ?_
          refine tj_callV (q := 100) (kj_V (As := [.int r7, .int (0 : Int32)]) (rest := []) (t := p1) wi_RX2_31 (hp1).s rfl (rX3_put p1 r7 (0 : Int32) (hp1)) rfl (by omega) ⟨Nat.le_of_ble_eq_true rfl, Nat.le_of_ble_eq_true rfl⟩ (Nat.le_of_ble_eq_true rfl) dX2_readOne_97) rfl (fun σ10 => ?_)
          refine tj_iconst (q := 101) (v := 1) dX2_readOne_100 rfl (by decide) ?_
          exact tj_zret rfl (by decide) rfl (Nat.le_of_ble_eq_true rfl) (Nat.le_of_ble_eq_true rfl) dX2_readOne_101
        · refine tj_iconst (q := 93) (v := 0) dX2_readOne_92 rfl (by decide) ?_
          exact tj_zret rfl (by decide) rfl (Nat.le_of_ble_eq_true rfl) (Nat.le_of_ble_eq_true rfl) dX2_readOne_93
      · refine tj_bnz (tgt := 68) (q := 42) dX2_readOne_39 (by decide) rfl ?_ ?_
        · exact hk6
        · refine tj_aload_n (q := 43) dX2_readOne_42 rfl (i := 0) rfl (pl := 0) rfl ?_
          refine tj_getR (q := 46) (hT).s (hT).p_tokens fok_2_0 wl_RX2_12 dX2_readOne_43 rfl ?_
          refine tj_bipush (q := 48) (v := 62) dX2_readOne_46 rfl (by decide) ?_
          refine tj_callZp (q := 51) (kj_V (As := [.int (62 : Int32)]) (rest := []) (t := (t + 1)) wi_RX2_44 ((hT).o_tokens).s rfl (rX10_isSign (t + 1) (62 : Int32) ((hT).o_tokens)) rfl (by omega) ⟨Nat.le_of_ble_eq_true rfl, Nat.le_of_ble_eq_true rfl⟩ (Nat.le_of_ble_eq_true rfl) dX2_readOne_48) rfl (fun r11 => ?_)
          refine tj_bnz (tgt := 68) (q := 54) dX2_readOne_51 (by decide) rfl ?_ ?_
          · exact hk6
          · refine tj_aload_n (q := 55) dX2_readOne_54 rfl (i := 0) rfl (pl := 0) rfl ?_
            refine tj_getR (q := 58) (hT).s (hT).p_tokens fok_2_0 wl_RX2_12 dX2_readOne_55 rfl ?_
            refine tj_bipush (q := 60) (v := 61) dX2_readOne_58 rfl (by decide) ?_
            refine tj_callZp (q := 63) (kj_V (As := [.int (61 : Int32)]) (rest := []) (t := (t + 1)) wi_RX2_44 ((hT).o_tokens).s rfl (rX10_isSign (t + 1) (61 : Int32) ((hT).o_tokens)) rfl (by omega) ⟨Nat.le_of_ble_eq_true rfl, Nat.le_of_ble_eq_true rfl⟩ (Nat.le_of_ble_eq_true rfl) dX2_readOne_60) rfl (fun r12 => ?_)
            refine tj_bnz (tgt := 68) (q := 66) dX2_readOne_63 (by decide) rfl ?_ ?_
            · exact hk6
            · refine tj_iconst (q := 67) (v := 1) dX2_readOne_66 rfl (by decide) ?_
              exact tj_zret rfl (by decide) rfl (Nat.le_of_ble_eq_true rfl) (Nat.le_of_ble_eq_true rfl) dX2_readOne_67
    · refine tj_iconst (q := 29) (v := 0) dX2_readOne_28 rfl (by decide) ?_
      exact tj_zret rfl (by decide) rfl (Nat.le_of_ble_eq_true rfl) (Nat.le_of_ble_eq_true rfl) dX2_readOne_29

theorem dX2_readNot_0 : decode cX2_readNot 0 = .ok (.iload_n 2, 1) := by decide +kernel
theorem dX2_readNot_1 : decode cX2_readNot 1 = .ok (.bipush 6, 2) := by decide +kernel
theorem dX2_readNot_3 : decode cX2_readNot 3 = .ok (.if_icmp .le 11, 3) := by decide +kernel
theorem dX2_readNot_6 : decode cX2_readNot 6 = .ok (.aload_n 0, 1) := by decide +kernel
theorem dX2_readNot_7 : decode cX2_readNot 7 = .ok (.getfield 12, 3) := by decide +kernel
theorem dX2_readNot_10 : decode cX2_readNot 10 = .ok (.invokevirtual 51, 3) := by decide +kernel
theorem dX2_readNot_13 : decode cX2_readNot 13 = .ok (.ireturn, 1) := by decide +kernel
theorem dX2_readNot_14 : decode cX2_readNot 14 = .ok (.aload_n 0, 1) := by decide +kernel
theorem dX2_readNot_15 : decode cX2_readNot 15 = .ok (.getfield 12, 3) := by decide +kernel
theorem dX2_readNot_18 : decode cX2_readNot 18 = .ok (.invokevirtual 26, 3) := by decide +kernel
theorem dX2_readNot_21 : decode cX2_readNot 21 = .ok (.aload_n 0, 1) := by decide +kernel
theorem dX2_readNot_22 : decode cX2_readNot 22 = .ok (.aload_n 1, 1) := by decide +kernel
theorem dX2_readNot_23 : decode cX2_readNot 23 = .ok (.iload_n 2, 1) := by decide +kernel
theorem dX2_readNot_24 : decode cX2_readNot 24 = .ok (.iconst 1, 1) := by decide +kernel
theorem dX2_readNot_25 : decode cX2_readNot 25 = .ok (.iadd, 1) := by decide +kernel
theorem dX2_readNot_26 : decode cX2_readNot 26 = .ok (.invokevirtual 35, 3) := by decide +kernel
theorem dX2_readNot_29 : decode cX2_readNot 29 = .ok (.ifCond .ne 5, 3) := by decide +kernel
theorem dX2_readNot_32 : decode cX2_readNot 32 = .ok (.iconst 0, 1) := by decide +kernel
theorem dX2_readNot_33 : decode cX2_readNot 33 = .ok (.ireturn, 1) := by decide +kernel
theorem dX2_readNot_34 : decode cX2_readNot 34 = .ok (.aload_n 1, 1) := by decide +kernel
theorem dX2_readNot_35 : decode cX2_readNot 35 = .ok (.iconst 2, 1) := by decide +kernel
theorem dX2_readNot_36 : decode cX2_readNot 36 = .ok (.iconst 0, 1) := by decide +kernel
theorem dX2_readNot_37 : decode cX2_readNot 37 = .ok (.invokevirtual 31, 3) := by decide +kernel
theorem dX2_readNot_40 : decode cX2_readNot 40 = .ok (.iconst 1, 1) := by decide +kernel
theorem dX2_readNot_41 : decode cX2_readNot 41 = .ok (.ireturn, 1) := by decide +kernel
theorem wi_RX2_51 : Iv RX2 51 yX10_refuse cX10_refuse 1 (some .boolean) 0 := ⟨tbm 951 (by decide +kernel) (by decide +kernel), wm_X10_refuse⟩
def mX2_readNot_b (rc : Nat → Nat → Nat → Int32 → St_ → Option (Bool × St_)) (t : Nat) (p1 : Nat) (p2 : Int32) (σ : St_) : Option (Bool × St_) :=
 (if p2 ≤ (6 : Int32) then
 ((mX10_next (t + 1) σ).bind fun σ1 =>
 ((rc 2 t p1 (p2 + (1 : Int32)) σ1).bind fun r2 =>
 (if r2.1 = true then
 ((mX3_put p1 (2 : Int32) (0 : Int32) r2.2).bind fun σ3 =>
 (some (true, σ3)))
 else (some (false, r2.2)))))
 else ((mX10_refuse (t + 1) σ).bind fun r4 =>
 (some (r4.1, r4.2))))
set_option maxHeartbeats 4000000 in
theorem rX2_readNot_b (rc : Nat → Nat → Nat → Int32 → St_ → Option (Bool × St_)) (t : Nat) (p1 : Nat) (p2 : Int32) (hr : Nat) (hh5 : 6 ≤ hr) (hrc : RcOk l D cA h0 ad sh P hr rc) (hT : LY2 sh P t) (hp1 : LY3 sh P p1) : Rj l D cA h0 ad yX2_readNot cX2_readNot 3 (some .boolean) false (hr + 1) 0 0 (fun b => (some (.int (b2i b.1)), sh, P, b.2)) [.ref (h0 + t), .ref (h0 + p1), .int p2] sh P σ (mX2_readNot_b rc t p1 p2 σ) := by
  rw [mX2_readNot_b]
  refine Rj.of (by decide) (fun h => by cases h) (Nat.le_of_ble_eq_true rfl) ?_
  refine tj_lv0 (lv' := [(0, .ref (h0 + t)), (1, .ref (h0 + p1)), (2, .int p2)]) rfl ?_
  refine tj_iload_n (q := 1) dX2_readNot_0 rfl (i := 2) rfl (pl := 2) rfl ?_
  refine tj_bipush (q := 3) (v := 6) dX2_readNot_1 rfl (by decide) ?_
  refine tj_icmp_le (tgt := 14) (q := 6) dX2_readNot_3 (by decide) rfl ?_ ?_
  · refine tj_aload_n (q := 15) dX2_readNot_14 rfl (i := 0) rfl (pl := 0) rfl ?_
    refine tj_getR (q := 18) (hT).s (hT).p_tokens fok_2_0 wl_RX2_12 dX2_readNot_15 rfl ?_
    refine tj_callV (q := 21) (kj_V (As := []) (rest := []) (t := (t + 1)) wi_RX2_26 ((hT).o_tokens).s rfl (rX10_next (t + 1) ((hT).o_tokens)) rfl (by omega) ⟨Nat.le_of_ble_eq_true rfl, Nat.le_of_ble_eq_true rfl⟩ (Nat.le_of_ble_eq_true rfl) dX2_readNot_18) rfl (fun σ1 => ?_)
    refine tj_aload_n (q := 22) dX2_readNot_21 rfl (i := 0) rfl (pl := 0) rfl ?_
    refine tj_aload_n (q := 23) dX2_readNot_22 rfl (i := 1) rfl (pl := 1) rfl ?_
    refine tj_iload_n (q := 24) dX2_readNot_23 rfl (i := 2) rfl (pl := 2) rfl ?_
    refine tj_iconst (q := 25) (v := 1) dX2_readNot_24 rfl (by decide) ?_
    refine tj_iadd (q := 26) dX2_readNot_25 rfl ?_
    refine tj_callZ (q := 29) (kj_V (As := [.ref (h0 + p1), .int (p2 + (1 : Int32))]) (rest := []) (t := t) wi_RX2_35 (hT).s rfl (hrc.2.2.1 t p1 (p2 + (1 : Int32)) _ (hT) (hp1)) rfl (Nat.le_refl _) ⟨Nat.le_of_ble_eq_true rfl, Nat.le_of_ble_eq_true rfl⟩ (Nat.le_of_ble_eq_true rfl) dX2_readNot_26) rfl (fun r2 => ?_)
    refine tj_bnz (tgt := 34) (q := 32) dX2_readNot_29 (by decide) rfl ?_ ?_
    · refine tj_aload_n (q := 35) dX2_readNot_34 rfl (i := 1) rfl (pl := 1) rfl ?_
      refine tj_iconst (q := 36) (v := 2) dX2_readNot_35 rfl (by decide) ?_
      refine tj_iconst (q := 37) (v := 0) dX2_readNot_36 rfl (by decide) ?_
      refine tj_callV (q := 40) (kj_V (As := [.int (2 : Int32), .int (0 : Int32)]) (rest := []) (t := p1) wi_RX2_31 (hp1).s rfl (rX3_put p1 (2 : Int32) (0 : Int32) (hp1)) rfl (by omega) ⟨Nat.le_of_ble_eq_true rfl, Nat.le_of_ble_eq_true rfl⟩ (Nat.le_of_ble_eq_true rfl) dX2_readNot_37) rfl (fun σ3 => ?_)
      refine tj_iconst (q := 41) (v := 1) dX2_readNot_40 rfl (by decide) ?_
      exact tj_zret rfl (by decide) rfl (Nat.le_of_ble_eq_true rfl) (Nat.le_of_ble_eq_true rfl) dX2_readNot_41
    · refine tj_iconst (q := 33) (v := 0) dX2_readNot_32 rfl (by decide) ?_
      exact tj_zret rfl (by decide) rfl (Nat.le_of_ble_eq_true rfl) (Nat.le_of_ble_eq_true rfl) dX2_readNot_33
  · refine tj_aload_n (q := 7) dX2_readNot_6 rfl (i := 0) rfl (pl := 0) rfl ?_
    refine tj_getR (q := 10) (hT).s (hT).p_tokens fok_2_0 wl_RX2_12 dX2_readNot_7 rfl ?_
    refine tj_callZ (q := 13) (kj_V (As := []) (rest := []) (t := (t + 1)) wi_RX2_51 ((hT).o_tokens).s rfl (rX10_refuse (t + 1) ((hT).o_tokens)) rfl (by omega) ⟨Nat.le_of_ble_eq_true rfl, Nat.le_of_ble_eq_true rfl⟩ (Nat.le_of_ble_eq_true rfl) dX2_readNot_10) rfl (fun r4 => ?_)
    exact tj_zret rfl (nar_b2i _) rfl (Nat.le_of_ble_eq_true rfl) (Nat.le_of_ble_eq_true rfl) dX2_readNot_13

theorem dX2_readTotal_0 : decode cX2_readTotal 0 = .ok (.aload_n 0, 1) := by decide +kernel
theorem dX2_readTotal_1 : decode cX2_readTotal 1 = .ok (.aload_n 1, 1) := by decide +kernel
theorem dX2_readTotal_2 : decode cX2_readTotal 2 = .ok (.iload_n 2, 1) := by decide +kernel
theorem dX2_readTotal_3 : decode cX2_readTotal 3 = .ok (.invokevirtual 55, 3) := by decide +kernel
theorem dX2_readTotal_6 : decode cX2_readTotal 6 = .ok (.ifCond .ne 5, 3) := by decide +kernel
theorem dX2_readTotal_9 : decode cX2_readTotal 9 = .ok (.iconst 0, 1) := by decide +kernel
theorem dX2_readTotal_10 : decode cX2_readTotal 10 = .ok (.ireturn, 1) := by decide +kernel
theorem dX2_readTotal_11 : decode cX2_readTotal 11 = .ok (.iconst 0, 1) := by decide +kernel
theorem dX2_readTotal_12 : decode cX2_readTotal 12 = .ok (.istore_n 3, 1) := by decide +kernel
theorem dX2_readTotal_13 : decode cX2_readTotal 13 = .ok (.iload_n 3, 1) := by decide +kernel
theorem dX2_readTotal_14 : decode cX2_readTotal 14 = .ok (.sipush 1700, 3) := by decide +kernel
theorem dX2_readTotal_17 : decode cX2_readTotal 17 = .ok (.if_icmp .ge 67, 3) := by decide +kernel
theorem dX2_readTotal_20 : decode cX2_readTotal 20 = .ok (.aload_n 0, 1) := by decide +kernel
theorem dX2_readTotal_21 : decode cX2_readTotal 21 = .ok (.getfield 12, 3) := by decide +kernel
theorem dX2_readTotal_24 : decode cX2_readTotal 24 = .ok (.bipush 43, 2) := by decide +kernel
theorem dX2_readTotal_26 : decode cX2_readTotal 26 = .ok (.invokevirtual 44, 3) := by decide +kernel
theorem dX2_readTotal_29 : decode cX2_readTotal 29 = .ok (.ifCond .ne 15, 3) := by decide +kernel
theorem dX2_readTotal_32 : decode cX2_readTotal 32 = .ok (.aload_n 0, 1) := by decide +kernel
theorem dX2_readTotal_33 : decode cX2_readTotal 33 = .ok (.getfield 12, 3) := by decide +kernel
theorem dX2_readTotal_36 : decode cX2_readTotal 36 = .ok (.bipush 45, 2) := by decide +kernel
theorem dX2_readTotal_38 : decode cX2_readTotal 38 = .ok (.invokevirtual 44, 3) := by decide +kernel
theorem dX2_readTotal_41 : decode cX2_readTotal 41 = .ok (.ifCond .eq 43, 3) := by decide +kernel
theorem dX2_readTotal_44 : decode cX2_readTotal 44 = .ok (.aload_n 0, 1) := by decide +kernel
theorem dX2_readTotal_45 : decode cX2_readTotal 45 = .ok (.getfield 12, 3) := by decide +kernel
theorem dX2_readTotal_48 : decode cX2_readTotal 48 = .ok (.invokevirtual 47, 3) := by decide +kernel
theorem dX2_readTotal_51 : decode cX2_readTotal 51 = .ok (.istore 4, 2) := by decide +kernel
theorem dX2_readTotal_53 : decode cX2_readTotal 53 = .ok (.aload_n 0, 1) := by decide +kernel
theorem dX2_readTotal_54 : decode cX2_readTotal 54 = .ok (.getfield 12, 3) := by decide +kernel
theorem dX2_readTotal_57 : decode cX2_readTotal 57 = .ok (.invokevirtual 26, 3) := by decide +kernel
theorem dX2_readTotal_60 : decode cX2_readTotal 60 = .ok (.aload_n 0, 1) := by decide +kernel
theorem dX2_readTotal_61 : decode cX2_readTotal 61 = .ok (.aload_n 1, 1) := by decide +kernel
theorem dX2_readTotal_62 : decode cX2_readTotal 62 = .ok (.iload_n 2, 1) := by decide +kernel
theorem dX2_readTotal_63 : decode cX2_readTotal 63 = .ok (.invokevirtual 55, 3) := by decide +kernel
theorem dX2_readTotal_66 : decode cX2_readTotal 66 = .ok (.ifCond .ne 5, 3) := by decide +kernel
theorem dX2_readTotal_69 : decode cX2_readTotal 69 = .ok (.iconst 0, 1) := by decide +kernel
theorem dX2_readTotal_70 : decode cX2_readTotal 70 = .ok (.ireturn, 1) := by decide +kernel
theorem dX2_readTotal_71 : decode cX2_readTotal 71 = .ok (.aload_n 1, 1) := by decide +kernel
theorem dX2_readTotal_72 : decode cX2_readTotal 72 = .ok (.iload 4, 2) := by decide +kernel
theorem dX2_readTotal_74 : decode cX2_readTotal 74 = .ok (.iconst 0, 1) := by decide +kernel
theorem dX2_readTotal_75 : decode cX2_readTotal 75 = .ok (.invokevirtual 31, 3) := by decide +kernel
theorem dX2_readTotal_78 : decode cX2_readTotal 78 = .ok (.iinc 3 1, 3) := by decide +kernel
theorem dX2_readTotal_81 : decode cX2_readTotal 81 = .ok (.goto (-68), 3) := by decide +kernel
theorem dX2_readTotal_84 : decode cX2_readTotal 84 = .ok (.iconst 1, 1) := by decide +kernel
theorem dX2_readTotal_85 : decode cX2_readTotal 85 = .ok (.ireturn, 1) := by decide +kernel
theorem wm_X2_readTerm : Cond.instanceMethod yX2_readTerm ∈ TB ∧ Cond.selects yX2_readTerm.cls yX2_readTerm yX2_readTerm ∈ TB ∧ Cond.initialized yX2_readTerm.cls ∈ TB ∧ Cond.code yX2_readTerm cX2_readTerm 5 (some .boolean) ∈ TB ∧ (yX2_readTerm.cls ≠ "java/lang/invoke/MethodHandle" ∧ yX2_readTerm.cls ≠ "java/lang/invoke/VarHandle" ∧ (parseMethodDescriptor yX2_readTerm.desc).map (fun d => d.parameters.length) = some 2) ∧ 5 ≤ 21 := ⟨tbm 963 (by decide +kernel) (by decide +kernel), tbm 26 (by decide +kernel) (by decide +kernel), tbm 136 (by decide +kernel) (by decide +kernel), tbm 964 (by decide +kernel) (by decide +kernel), by decide +kernel, by decide⟩
theorem wi_RX2_55 : Iv RX2 55 yX2_readTerm cX2_readTerm 5 (some .boolean) 2 := ⟨tbm 961 (by decide +kernel) (by decide +kernel), wm_X2_readTerm⟩
def mX2_readTotal_L13 (rc : Nat → Nat → Nat → Int32 → St_ → Option (Bool × St_)) (t : Nat) (p1 : Nat) (x2 : Int32) : Nat → Int32 → St_ → Option (Bool × St_)
  | 0, _, _ => none
  | n + 1, x3, σ => (if (1700 : Int32) ≤ x3 then
 (some (true, σ))
 else ((mX10_isSign (t + 1) (43 : Int32) σ).bind fun r2 =>
 (bnd ((mX10_number (t + 1) σ).bind fun r5 =>
 ((mX10_next (t + 1) σ).bind fun σ6 =>
 ((rc 5 t p1 x2 σ6).bind fun r7 =>
 (if r7.1 = true then
 ((mX3_put p1 r5 (0 : Int32) r7.2).bind fun σ8 =>
 (mX2_readTotal_L13 rc t p1 x2 n (x3 + 1) σ8))
 else (some (false, r7.2)))))) fun k3 =>
 (if r2 = true then
 (k3)
 else ((mX10_isSign (t + 1) (45 : Int32) σ).bind fun r9 =>
 (if r9 = true then
 (k3)
 else (some (true, σ))))))))
def mX2_readTotal_b (rc : Nat → Nat → Nat → Int32 → St_ → Option (Bool × St_)) (t : Nat) (p1 : Nat) (p2 : Int32) (σ : St_) : Option (Bool × St_) :=
 ((rc 5 t p1 p2 σ).bind fun r1 =>
 (if r1.1 = true then
 (mX2_readTotal_L13 rc t p1 p2 FU (0 : Int32) r1.2)
 else (some (false, r1.2))))
set_option maxHeartbeats 4000000 in
theorem tmX2_readTotal_L13 (rc : Nat → Nat → Nat → Int32 → St_ → Option (Bool × St_)) (t : Nat) (p1 : Nat) (hr : Nat) (hh5 : 6 ≤ hr) (hrc : RcOk l D cA h0 ad sh P hr rc) (hT : LY2 sh P t) (hp1 : LY3 sh P p1) (x2 : Int32) : ∀ (n : Nat) (x3 : Int32) (σ : St_), Tj l D cA h0 ad RX2 cX2_readTotal 5 (some .boolean) false (hr + 1) 0 0 (fun b => (some (.int (b2i b.1)), sh, P, b.2)) 0 0 sh P σ 13 [(0, .ref (h0 + t)), (1, .ref (h0 + p1)), (2, .int x2), (3, .int x3)] [] (mX2_readTotal_L13 rc t p1 x2 n x3 σ) := by
  intro n
  induction n with
  | zero => intros; exact tj_none
  | succ n ih =>
    intro x3 σ
    rw [mX2_readTotal_L13]
    refine tj_iload_n (q := 14) dX2_readTotal_13 rfl (i := 3) rfl (pl := 3) rfl ?_
    refine tj_sipush (q := 17) (v := 1700) dX2_readTotal_14 rfl (by decide) ?_
    refine tj_icmp_ge (tgt := 84) (q := 20) dX2_readTotal_17 (by decide) rfl ?_ ?_
    · refine tj_iconst (q := 85) (v := 1) dX2_readTotal_84 rfl (by decide) ?_
      exact tj_zret rfl (by decide) rfl (Nat.le_of_ble_eq_true rfl) (Nat.le_of_ble_eq_true rfl) dX2_readTotal_85
    · refine tj_aload_n (q := 21) dX2_readTotal_20 rfl (i := 0) rfl (pl := 0) rfl ?_
      refine tj_getR (q := 24) (hT).s (hT).p_tokens fok_2_0 wl_RX2_12 dX2_readTotal_21 rfl ?_
      refine tj_bipush (q := 26) (v := 43) dX2_readTotal_24 rfl (by decide) ?_
      refine tj_callZp (q := 29) (kj_V (As := [.int (43 : Int32)]) (rest := []) (t := (t + 1)) wi_RX2_44 ((hT).o_tokens).s rfl (rX10_isSign (t + 1) (43 : Int32) ((hT).o_tokens)) rfl (by omega) ⟨Nat.le_of_ble_eq_true rfl, Nat.le_of_ble_eq_true rfl⟩ (Nat.le_of_ble_eq_true rfl) dX2_readTotal_26) rfl (fun r2 => ?_)
      refine tj_bnd (fun k3 => Tj l D cA h0 ad RX2 cX2_readTotal 5 (some .boolean) false (hr + 1) 0 0 (fun b => (some (.int (b2i b.1)), sh, P, b.2)) 0 0 sh P σ 44 [(0, .ref (h0 + t)), (1, .ref (h0 + p1)), (2, .int x2), (3, .int x3)] [] k3) ?_ (fun k3 hk4 => ?_)
      · refine tj_aload_n (q := 45) dX2_readTotal_44 rfl (i := 0) rfl (pl := 0) rfl ?_
        refine tj_getR (q := 48) (hT).s (hT).p_tokens fok_2_0 wl_RX2_12 dX2_readTotal_45 rfl ?_
        refine tj_callIp (q := 51) (kj_V (As := []) (rest := []) (t := (t + 1)) wi_RX2_47 ((hT).o_tokens).s rfl (rX10_number (t + 1) ((hT).o_tokens)) rfl (by omega) ⟨Nat.le_of_ble_eq_true rfl, Nat.le_of_ble_eq_true rfl⟩ (Nat.le_of_ble_eq_true rfl) dX2_readTotal_48) rfl (fun r5 => ?_)
        refine tj_istore (q := 53) dX2_readTotal_51 rfl (by decide) rfl ?_
        refine tj_aload_n (q := 54) dX2_readTotal_53 rfl (i := 0) rfl (pl := 1) rfl ?_
        refine tj_getR (q := 57) (hT).s (hT).p_tokens fok_2_0 wl_RX2_12 dX2_readTotal_54 rfl ?_
        refine tj_callV (q := 60) (kj_V (As := []) (rest := []) (t := (t + 1)) wi_RX2_26 ((hT).o_tokens).s rfl (rX10_next (t + 1) ((hT).o_tokens)) rfl (by omega) ⟨Nat.le_of_ble_eq_true rfl, Nat.le_of_ble_eq_true rfl⟩ (Nat.le_of_ble_eq_true rfl) dX2_readTotal_57) rfl (fun σ6 => ?_)
        refine tj_aload_n (q := 61) dX2_readTotal_60 rfl (i := 0) rfl (pl := 1) rfl ?_
        refine tj_aload_n (q := 62) dX2_readTotal_61 rfl (i := 1) rfl (pl := 2) rfl ?_
        refine tj_iload_n (q := 63) dX2_readTotal_62 rfl (i := 2) rfl (pl := 3) rfl ?_
        refine tj_callZ (q := 66) (kj_V (As := [.ref (h0 + p1), .int x2]) (rest := []) (t := t) wi_RX2_55 (hT).s rfl (hrc.2.2.2.2.2.1 t p1 x2 _ (hT) (hp1)) rfl (Nat.le_refl _) ⟨Nat.le_of_ble_eq_true rfl, Nat.le_of_ble_eq_true rfl⟩ (Nat.le_of_ble_eq_true rfl) dX2_readTotal_63) rfl (fun r7 => ?_)
        refine tj_bnz (tgt := 71) (q := 69) dX2_readTotal_66 (by decide) rfl ?_ ?_
        · refine tj_aload_n (q := 72) dX2_readTotal_71 rfl (i := 1) rfl (pl := 2) rfl ?_
          refine tj_iload (q := 74) dX2_readTotal_72 rfl (pl := 0) rfl ?_
          refine tj_iconst (q := 75) (v := 0) dX2_readTotal_74 rfl (by decide) ?_
          refine tj_callV (q := 78) (kj_V (As := [.int r5, .int (0 : Int32)]) (rest := []) (t := p1) wi_RX2_31 (hp1).s rfl (rX3_put p1 r5 (0 : Int32) (hp1)) rfl (by omega) ⟨Nat.le_of_ble_eq_true rfl, Nat.le_of_ble_eq_true rfl⟩ (Nat.le_of_ble_eq_true rfl) dX2_readTotal_75) rfl (fun σ8 => ?_)
          refine tj_iinc (q := 81) (v := x3 + 1) dX2_readTotal_78 rfl (pl := 4) rfl rfl (by decide) rfl ?_
          refine tj_goto (q := 13) dX2_readTotal_81 (by decide) ?_
          refine tj_lv [2, 3, 4, 0] rfl ?_
          exact ih (x3 + 1) σ8
        · refine tj_iconst (q := 70) (v := 0) dX2_readTotal_69 rfl (by decide) ?_
          exact tj_zret rfl (by decide) rfl (Nat.le_of_ble_eq_true rfl) (Nat.le_of_ble_eq_true rfl) dX2_readTotal_70
      · refine tj_bnz (tgt := 44) (q := 32) dX2_readTotal_29 (by decide) rfl ?_ ?_
        · exact hk4
        · refine tj_aload_n (q := 33) dX2_readTotal_32 rfl (i := 0) rfl (pl := 0) rfl ?_
          refine tj_getR (q := 36) (hT).s (hT).p_tokens fok_2_0 wl_RX2_12 dX2_readTotal_33 rfl ?_
          refine tj_bipush (q := 38) (v := 45) dX2_readTotal_36 rfl (by decide) ?_
          refine tj_callZp (q := 41) (kj_V (As := [.int (45 : Int32)]) (rest := []) (t := (t + 1)) wi_RX2_44 ((hT).o_tokens).s rfl (rX10_isSign (t + 1) (45 : Int32) ((hT).o_tokens)) rfl (by omega) ⟨Nat.le_of_ble_eq_true rfl, Nat.le_of_ble_eq_true rfl⟩ (Nat.le_of_ble_eq_true rfl) dX2_readTotal_38) rfl (fun r9 => ?_)
          refine tj_bz (tgt := 84) (q := 44) dX2_readTotal_41 (by decide) rfl ?_ ?_
          · exact hk4
          · refine tj_iconst (q := 85) (v := 1) dX2_readTotal_84 rfl (by decide) ?_
            exact tj_zret rfl (by decide) rfl (Nat.le_of_ble_eq_true rfl) (Nat.le_of_ble_eq_true rfl) dX2_readTotal_85

set_option maxHeartbeats 4000000 in
theorem rX2_readTotal_b (rc : Nat → Nat → Nat → Int32 → St_ → Option (Bool × St_)) (t : Nat) (p1 : Nat) (p2 : Int32) (hr : Nat) (hh5 : 6 ≤ hr) (hrc : RcOk l D cA h0 ad sh P hr rc) (hT : LY2 sh P t) (hp1 : LY3 sh P p1) : Rj l D cA h0 ad yX2_readTotal cX2_readTotal 5 (some .boolean) false (hr + 1) 0 0 (fun b => (some (.int (b2i b.1)), sh, P, b.2)) [.ref (h0 + t), .ref (h0 + p1), .int p2] sh P σ (mX2_readTotal_b rc t p1 p2 σ) := by
  rw [mX2_readTotal_b]
  refine Rj.of (by decide) (fun h => by cases h) (Nat.le_of_ble_eq_true rfl) ?_
  refine tj_lv0 (lv' := [(0, .ref (h0 + t)), (1, .ref (h0 + p1)), (2, .int p2)]) rfl ?_
  refine tj_aload_n (q := 1) dX2_readTotal_0 rfl (i := 0) rfl (pl := 0) rfl ?_
  refine tj_aload_n (q := 2) dX2_readTotal_1 rfl (i := 1) rfl (pl := 1) rfl ?_
  refine tj_iload_n (q := 3) dX2_readTotal_2 rfl (i := 2) rfl (pl := 2) rfl ?_
  refine tj_callZ (q := 6) (kj_V (As := [.ref (h0 + p1), .int p2]) (rest := []) (t := t) wi_RX2_55 (hT).s rfl (hrc.2.2.2.2.2.1 t p1 p2 _ (hT) (hp1)) rfl (Nat.le_refl _) ⟨Nat.le_of_ble_eq_true rfl, Nat.le_of_ble_eq_true rfl⟩ (Nat.le_of_ble_eq_true rfl) dX2_readTotal_3) rfl (fun r1 => ?_)
  refine tj_bnz (tgt := 11) (q := 9) dX2_readTotal_6 (by decide) rfl ?_ ?_
  · refine tj_iconst (q := 12) (v := 0) dX2_readTotal_11 rfl (by decide) ?_
    refine tj_istore_n (q := 13) dX2_readTotal_12 rfl (i := 3) rfl (by decide) rfl ?_
    refine tj_lv [1, 2, 3, 0] rfl ?_
    exact tmX2_readTotal_L13 rc t p1 hr hh5 hrc hT hp1 p2 FU (0 : Int32) r1.2
  · refine tj_iconst (q := 10) (v := 0) dX2_readTotal_9 rfl (by decide) ?_
    exact tj_zret rfl (by decide) rfl (Nat.le_of_ble_eq_true rfl) (Nat.le_of_ble_eq_true rfl) dX2_readTotal_10

theorem dX2_readTerm_0 : decode cX2_readTerm 0 = .ok (.aload_n 0, 1) := by decide +kernel
theorem dX2_readTerm_1 : decode cX2_readTerm 1 = .ok (.aload_n 1, 1) := by decide +kernel
theorem dX2_readTerm_2 : decode cX2_readTerm 2 = .ok (.iload_n 2, 1) := by decide +kernel
theorem dX2_readTerm_3 : decode cX2_readTerm 3 = .ok (.invokevirtual 58, 3) := by decide +kernel
theorem dX2_readTerm_6 : decode cX2_readTerm 6 = .ok (.ifCond .ne 5, 3) := by decide +kernel
theorem dX2_readTerm_9 : decode cX2_readTerm 9 = .ok (.iconst 0, 1) := by decide +kernel
theorem dX2_readTerm_10 : decode cX2_readTerm 10 = .ok (.ireturn, 1) := by decide +kernel
theorem dX2_readTerm_11 : decode cX2_readTerm 11 = .ok (.iconst 0, 1) := by decide +kernel
theorem dX2_readTerm_12 : decode cX2_readTerm 12 = .ok (.istore_n 3, 1) := by decide +kernel
theorem dX2_readTerm_13 : decode cX2_readTerm 13 = .ok (.iload_n 3, 1) := by decide +kernel
theorem dX2_readTerm_14 : decode cX2_readTerm 14 = .ok (.sipush 1700, 3) := by decide +kernel
theorem dX2_readTerm_17 : decode cX2_readTerm 17 = .ok (.if_icmp .ge 50, 3) := by decide +kernel
theorem dX2_readTerm_20 : decode cX2_readTerm 20 = .ok (.aload_n 0, 1) := by decide +kernel
theorem dX2_readTerm_21 : decode cX2_readTerm 21 = .ok (.invokevirtual 61, 3) := by decide +kernel
theorem dX2_readTerm_24 : decode cX2_readTerm 24 = .ok (.ifCond .eq 43, 3) := by decide +kernel
theorem dX2_readTerm_27 : decode cX2_readTerm 27 = .ok (.aload_n 0, 1) := by decide +kernel
theorem dX2_readTerm_28 : decode cX2_readTerm 28 = .ok (.getfield 12, 3) := by decide +kernel
theorem dX2_readTerm_31 : decode cX2_readTerm 31 = .ok (.invokevirtual 47, 3) := by decide +kernel
theorem dX2_readTerm_34 : decode cX2_readTerm 34 = .ok (.istore 4, 2) := by decide +kernel
theorem dX2_readTerm_36 : decode cX2_readTerm 36 = .ok (.aload_n 0, 1) := by decide +kernel
theorem dX2_readTerm_37 : decode cX2_readTerm 37 = .ok (.getfield 12, 3) := by decide +kernel
theorem dX2_readTerm_40 : decode cX2_readTerm 40 = .ok (.invokevirtual 26, 3) := by decide +kernel
theorem dX2_readTerm_43 : decode cX2_readTerm 43 = .ok (.aload_n 0, 1) := by decide +kernel
theorem dX2_readTerm_44 : decode cX2_readTerm 44 = .ok (.aload_n 1, 1) := by decide +kernel
theorem dX2_readTerm_45 : decode cX2_readTerm 45 = .ok (.iload_n 2, 1) := by decide +kernel
theorem dX2_readTerm_46 : decode cX2_readTerm 46 = .ok (.invokevirtual 58, 3) := by decide +kernel
theorem dX2_readTerm_49 : decode cX2_readTerm 49 = .ok (.ifCond .ne 5, 3) := by decide +kernel
theorem dX2_readTerm_52 : decode cX2_readTerm 52 = .ok (.iconst 0, 1) := by decide +kernel
theorem dX2_readTerm_53 : decode cX2_readTerm 53 = .ok (.ireturn, 1) := by decide +kernel
theorem dX2_readTerm_54 : decode cX2_readTerm 54 = .ok (.aload_n 1, 1) := by decide +kernel
theorem dX2_readTerm_55 : decode cX2_readTerm 55 = .ok (.iload 4, 2) := by decide +kernel
theorem dX2_readTerm_57 : decode cX2_readTerm 57 = .ok (.iconst 0, 1) := by decide +kernel
theorem dX2_readTerm_58 : decode cX2_readTerm 58 = .ok (.invokevirtual 31, 3) := by decide +kernel
theorem dX2_readTerm_61 : decode cX2_readTerm 61 = .ok (.iinc 3 1, 3) := by decide +kernel
theorem dX2_readTerm_64 : decode cX2_readTerm 64 = .ok (.goto (-51), 3) := by decide +kernel
theorem dX2_readTerm_67 : decode cX2_readTerm 67 = .ok (.iconst 1, 1) := by decide +kernel
theorem dX2_readTerm_68 : decode cX2_readTerm 68 = .ok (.ireturn, 1) := by decide +kernel
theorem wm_X2_readUnit : Cond.instanceMethod yX2_readUnit ∈ TB ∧ Cond.selects yX2_readUnit.cls yX2_readUnit yX2_readUnit ∈ TB ∧ Cond.initialized yX2_readUnit.cls ∈ TB ∧ Cond.code yX2_readUnit cX2_readUnit 3 (some .boolean) ∈ TB ∧ (yX2_readUnit.cls ≠ "java/lang/invoke/MethodHandle" ∧ yX2_readUnit.cls ≠ "java/lang/invoke/VarHandle" ∧ (parseMethodDescriptor yX2_readUnit.desc).map (fun d => d.parameters.length) = some 2) ∧ 3 ≤ 21 := ⟨tbm 967 (by decide +kernel) (by decide +kernel), tbm 27 (by decide +kernel) (by decide +kernel), tbm 136 (by decide +kernel) (by decide +kernel), tbm 968 (by decide +kernel) (by decide +kernel), by decide +kernel, by decide⟩
theorem wi_RX2_58 : Iv RX2 58 yX2_readUnit cX2_readUnit 3 (some .boolean) 2 := ⟨tbm 965 (by decide +kernel) (by decide +kernel), wm_X2_readUnit⟩
theorem wm_X2_isTimes : Cond.instanceMethod yX2_isTimes ∈ TB ∧ Cond.selects yX2_isTimes.cls yX2_isTimes yX2_isTimes ∈ TB ∧ Cond.initialized yX2_isTimes.cls ∈ TB ∧ Cond.code yX2_isTimes cX2_isTimes 1 (some .boolean) ∈ TB ∧ (yX2_isTimes.cls ≠ "java/lang/invoke/MethodHandle" ∧ yX2_isTimes.cls ≠ "java/lang/invoke/VarHandle" ∧ (parseMethodDescriptor yX2_isTimes.desc).map (fun d => d.parameters.length) = some 0) ∧ 1 ≤ 21 := ⟨tbm 987 (by decide +kernel) (by decide +kernel), tbm 29 (by decide +kernel) (by decide +kernel), tbm 136 (by decide +kernel) (by decide +kernel), tbm 988 (by decide +kernel) (by decide +kernel), by decide +kernel, by decide⟩
theorem wi_RX2_61 : Iv RX2 61 yX2_isTimes cX2_isTimes 1 (some .boolean) 0 := ⟨tbm 985 (by decide +kernel) (by decide +kernel), wm_X2_isTimes⟩
def mX2_readTerm_L13 (rc : Nat → Nat → Nat → Int32 → St_ → Option (Bool × St_)) (t : Nat) (p1 : Nat) (x2 : Int32) : Nat → Int32 → St_ → Option (Bool × St_)
  | 0, _, _ => none
  | n + 1, x3, σ => (if (1700 : Int32) ≤ x3 then
 (some (true, σ))
 else ((mX2_isTimes t σ).bind fun r2 =>
 (if r2 = true then
 ((mX10_number (t + 1) σ).bind fun r3 =>
 ((mX10_next (t + 1) σ).bind fun σ4 =>
 ((rc 6 t p1 x2 σ4).bind fun r5 =>
 (if r5.1 = true then
 ((mX3_put p1 r3 (0 : Int32) r5.2).bind fun σ6 =>
 (mX2_readTerm_L13 rc t p1 x2 n (x3 + 1) σ6))
 else (some (false, r5.2))))))
 else (some (true, σ)))))
def mX2_readTerm_b (rc : Nat → Nat → Nat → Int32 → St_ → Option (Bool × St_)) (t : Nat) (p1 : Nat) (p2 : Int32) (σ : St_) : Option (Bool × St_) :=
 ((rc 6 t p1 p2 σ).bind fun r1 =>
 (if r1.1 = true then
 (mX2_readTerm_L13 rc t p1 p2 FU (0 : Int32) r1.2)
 else (some (false, r1.2))))
set_option maxHeartbeats 4000000 in
theorem tmX2_readTerm_L13 (rc : Nat → Nat → Nat → Int32 → St_ → Option (Bool × St_)) (t : Nat) (p1 : Nat) (hr : Nat) (hh5 : 6 ≤ hr) (hrc : RcOk l D cA h0 ad sh P hr rc) (hT : LY2 sh P t) (hp1 : LY3 sh P p1) (x2 : Int32) : ∀ (n : Nat) (x3 : Int32) (σ : St_), Tj l D cA h0 ad RX2 cX2_readTerm 5 (some .boolean) false (hr + 1) 0 0 (fun b => (some (.int (b2i b.1)), sh, P, b.2)) 0 0 sh P σ 13 [(0, .ref (h0 + t)), (1, .ref (h0 + p1)), (2, .int x2), (3, .int x3)] [] (mX2_readTerm_L13 rc t p1 x2 n x3 σ) := by
  intro n
  induction n with
  | zero => intros; exact tj_none
  | succ n ih =>
    intro x3 σ
    rw [mX2_readTerm_L13]
    refine tj_iload_n (q := 14) dX2_readTerm_13 rfl (i := 3) rfl (pl := 3) rfl ?_
    refine tj_sipush (q := 17) (v := 1700) dX2_readTerm_14 rfl (by decide) ?_
    refine tj_icmp_ge (tgt := 67) (q := 20) dX2_readTerm_17 (by decide) rfl ?_ ?_
    · refine tj_iconst (q := 68) (v := 1) dX2_readTerm_67 rfl (by decide) ?_
      exact tj_zret rfl (by decide) rfl (Nat.le_of_ble_eq_true rfl) (Nat.le_of_ble_eq_true rfl) dX2_readTerm_68
    · refine tj_aload_n (q := 21) dX2_readTerm_20 rfl (i := 0) rfl (pl := 0) rfl ?_
      refine tj_callZp (q := 24) (kj_V (As := []) (rest := []) (t := t) wi_RX2_61 (hT).s rfl (rX2_isTimes t (hT)) rfl (by omega) ⟨Nat.le_of_ble_eq_true rfl, Nat.le_of_ble_eq_true rfl⟩ (Nat.le_of_ble_eq_true rfl) dX2_readTerm_21) rfl (fun r2 => ?_)
      refine tj_bz (tgt := 67) (q := 27) dX2_readTerm_24 (by decide) rfl ?_ ?_
      · refine tj_aload_n (q := 28) dX2_readTerm_27 rfl (i := 0) rfl (pl := 0) rfl ?_
        refine tj_getR (q := 31) (hT).s (hT).p_tokens fok_2_0 wl_RX2_12 dX2_readTerm_28 rfl ?_
        refine tj_callIp (q := 34) (kj_V (As := []) (rest := []) (t := (t + 1)) wi_RX2_47 ((hT).o_tokens).s rfl (rX10_number (t + 1) ((hT).o_tokens)) rfl (by omega) ⟨Nat.le_of_ble_eq_true rfl, Nat.le_of_ble_eq_true rfl⟩ (Nat.le_of_ble_eq_true rfl) dX2_readTerm_31) rfl (fun r3 => ?_)
        refine tj_istore (q := 36) dX2_readTerm_34 rfl (by decide) rfl ?_
        refine tj_aload_n (q := 37) dX2_readTerm_36 rfl (i := 0) rfl (pl := 1) rfl ?_
        refine tj_getR (q := 40) (hT).s (hT).p_tokens fok_2_0 wl_RX2_12 dX2_readTerm_37 rfl ?_
        refine tj_callV (q := 43) (kj_V (As := []) (rest := []) (t := (t + 1)) wi_RX2_26 ((hT).o_tokens).s rfl (rX10_next (t + 1) ((hT).o_tokens)) rfl (by omega) ⟨Nat.le_of_ble_eq_true rfl, Nat.le_of_ble_eq_true rfl⟩ (Nat.le_of_ble_eq_true rfl) dX2_readTerm_40) rfl (fun σ4 => ?_)
        refine tj_aload_n (q := 44) dX2_readTerm_43 rfl (i := 0) rfl (pl := 1) rfl ?_
        refine tj_aload_n (q := 45) dX2_readTerm_44 rfl (i := 1) rfl (pl := 2) rfl ?_
        refine tj_iload_n (q := 46) dX2_readTerm_45 rfl (i := 2) rfl (pl := 3) rfl ?_
        refine tj_callZ (q := 49) (kj_V (As := [.ref (h0 + p1), .int x2]) (rest := []) (t := t) wi_RX2_58 (hT).s rfl (hrc.2.2.2.2.2.2.1 t p1 x2 _ (hT) (hp1)) rfl (Nat.le_refl _) ⟨Nat.le_of_ble_eq_true rfl, Nat.le_of_ble_eq_true rfl⟩ (Nat.le_of_ble_eq_true rfl) dX2_readTerm_46) rfl (fun r5 => ?_)
        refine tj_bnz (tgt := 54) (q := 52) dX2_readTerm_49 (by decide) rfl ?_ ?_
        · refine tj_aload_n (q := 55) dX2_readTerm_54 rfl (i := 1) rfl (pl := 2) rfl ?_
          refine tj_iload (q := 57) dX2_readTerm_55 rfl (pl := 0) rfl ?_
          refine tj_iconst (q := 58) (v := 0) dX2_readTerm_57 rfl (by decide) ?_
          refine tj_callV (q := 61) (kj_V (As := [.int r3, .int (0 : Int32)]) (rest := []) (t := p1) wi_RX2_31 (hp1).s rfl (rX3_put p1 r3 (0 : Int32) (hp1)) rfl (by omega) ⟨Nat.le_of_ble_eq_true rfl, Nat.le_of_ble_eq_true rfl⟩ (Nat.le_of_ble_eq_true rfl) dX2_readTerm_58) rfl (fun σ6 => ?_)
          refine tj_iinc (q := 64) (v := x3 + 1) dX2_readTerm_61 rfl (pl := 4) rfl rfl (by decide) rfl ?_
          refine tj_goto (q := 13) dX2_readTerm_64 (by decide) ?_
          refine tj_lv [2, 3, 4, 0] rfl ?_
          exact ih (x3 + 1) σ6
        · refine tj_iconst (q := 53) (v := 0) dX2_readTerm_52 rfl (by decide) ?_
          exact tj_zret rfl (by decide) rfl (Nat.le_of_ble_eq_true rfl) (Nat.le_of_ble_eq_true rfl) dX2_readTerm_53
      · refine tj_iconst (q := 68) (v := 1) dX2_readTerm_67 rfl (by decide) ?_
        exact tj_zret rfl (by decide) rfl (Nat.le_of_ble_eq_true rfl) (Nat.le_of_ble_eq_true rfl) dX2_readTerm_68

set_option maxHeartbeats 4000000 in
theorem rX2_readTerm_b (rc : Nat → Nat → Nat → Int32 → St_ → Option (Bool × St_)) (t : Nat) (p1 : Nat) (p2 : Int32) (hr : Nat) (hh5 : 6 ≤ hr) (hrc : RcOk l D cA h0 ad sh P hr rc) (hT : LY2 sh P t) (hp1 : LY3 sh P p1) : Rj l D cA h0 ad yX2_readTerm cX2_readTerm 5 (some .boolean) false (hr + 1) 0 0 (fun b => (some (.int (b2i b.1)), sh, P, b.2)) [.ref (h0 + t), .ref (h0 + p1), .int p2] sh P σ (mX2_readTerm_b rc t p1 p2 σ) := by
  rw [mX2_readTerm_b]
  refine Rj.of (by decide) (fun h => by cases h) (Nat.le_of_ble_eq_true rfl) ?_
  refine tj_lv0 (lv' := [(0, .ref (h0 + t)), (1, .ref (h0 + p1)), (2, .int p2)]) rfl ?_
  refine tj_aload_n (q := 1) dX2_readTerm_0 rfl (i := 0) rfl (pl := 0) rfl ?_
  refine tj_aload_n (q := 2) dX2_readTerm_1 rfl (i := 1) rfl (pl := 1) rfl ?_
  refine tj_iload_n (q := 3) dX2_readTerm_2 rfl (i := 2) rfl (pl := 2) rfl ?_
  refine tj_callZ (q := 6) (kj_V (As := [.ref (h0 + p1), .int p2]) (rest := []) (t := t) wi_RX2_58 (hT).s rfl (hrc.2.2.2.2.2.2.1 t p1 p2 _ (hT) (hp1)) rfl (Nat.le_refl _) ⟨Nat.le_of_ble_eq_true rfl, Nat.le_of_ble_eq_true rfl⟩ (Nat.le_of_ble_eq_true rfl) dX2_readTerm_3) rfl (fun r1 => ?_)
  refine tj_bnz (tgt := 11) (q := 9) dX2_readTerm_6 (by decide) rfl ?_ ?_
  · refine tj_iconst (q := 12) (v := 0) dX2_readTerm_11 rfl (by decide) ?_
    refine tj_istore_n (q := 13) dX2_readTerm_12 rfl (i := 3) rfl (by decide) rfl ?_
    refine tj_lv [1, 2, 3, 0] rfl ?_
    exact tmX2_readTerm_L13 rc t p1 hr hh5 hrc hT hp1 p2 FU (0 : Int32) r1.2
  · refine tj_iconst (q := 10) (v := 0) dX2_readTerm_9 rfl (by decide) ?_
    exact tj_zret rfl (by decide) rfl (Nat.le_of_ble_eq_true rfl) (Nat.le_of_ble_eq_true rfl) dX2_readTerm_10

theorem dX2_readUnit_0 : decode cX2_readUnit 0 = .ok (.aload_n 1, 1) := by decide +kernel
theorem dX2_readUnit_1 : decode cX2_readUnit 1 = .ok (.getfield 64, 3) := by decide +kernel
theorem dX2_readUnit_4 : decode cX2_readUnit 4 = .ok (.bipush 30, 2) := by decide +kernel
theorem dX2_readUnit_6 : decode cX2_readUnit 6 = .ok (.if_icmp .lt 11, 3) := by decide +kernel
theorem dX2_readUnit_9 : decode cX2_readUnit 9 = .ok (.aload_n 0, 1) := by decide +kernel
theorem dX2_readUnit_10 : decode cX2_readUnit 10 = .ok (.getfield 12, 3) := by decide +kernel
theorem dX2_readUnit_13 : decode cX2_readUnit 13 = .ok (.invokevirtual 51, 3) := by decide +kernel
theorem dX2_readUnit_16 : decode cX2_readUnit 16 = .ok (.ireturn, 1) := by decide +kernel
theorem dX2_readUnit_17 : decode cX2_readUnit 17 = .ok (.aload_n 0, 1) := by decide +kernel
theorem dX2_readUnit_18 : decode cX2_readUnit 18 = .ok (.getfield 12, 3) := by decide +kernel
theorem dX2_readUnit_21 : decode cX2_readUnit 21 = .ok (.bipush 40, 2) := by decide +kernel
theorem dX2_readUnit_23 : decode cX2_readUnit 23 = .ok (.invokevirtual 44, 3) := by decide +kernel
theorem dX2_readUnit_26 : decode cX2_readUnit 26 = .ok (.ifCond .eq 10, 3) := by decide +kernel
theorem dX2_readUnit_29 : decode cX2_readUnit 29 = .ok (.aload_n 0, 1) := by decide +kernel
theorem dX2_readUnit_30 : decode cX2_readUnit 30 = .ok (.aload_n 1, 1) := by decide +kernel
theorem dX2_readUnit_31 : decode cX2_readUnit 31 = .ok (.iload_n 2, 1) := by decide +kernel
theorem dX2_readUnit_32 : decode cX2_readUnit 32 = .ok (.invokevirtual 68, 3) := by decide +kernel
theorem dX2_readUnit_35 : decode cX2_readUnit 35 = .ok (.ireturn, 1) := by decide +kernel
theorem dX2_readUnit_36 : decode cX2_readUnit 36 = .ok (.aload_n 0, 1) := by decide +kernel
theorem dX2_readUnit_37 : decode cX2_readUnit 37 = .ok (.getfield 12, 3) := by decide +kernel
theorem dX2_readUnit_40 : decode cX2_readUnit 40 = .ok (.iconst 4, 1) := by decide +kernel
theorem dX2_readUnit_41 : decode cX2_readUnit 41 = .ok (.invokevirtual 71, 3) := by decide +kernel
theorem dX2_readUnit_44 : decode cX2_readUnit 44 = .ok (.ifCond .eq 18, 3) := by decide +kernel
theorem dX2_readUnit_47 : decode cX2_readUnit 47 = .ok (.aload_n 1, 1) := by decide +kernel
theorem dX2_readUnit_48 : decode cX2_readUnit 48 = .ok (.iconst 0, 1) := by decide +kernel
theorem dX2_readUnit_49 : decode cX2_readUnit 49 = .ok (.aload_n 0, 1) := by decide +kernel
theorem dX2_readUnit_50 : decode cX2_readUnit 50 = .ok (.getfield 12, 3) := by decide +kernel
theorem dX2_readUnit_53 : decode cX2_readUnit 53 = .ok (.invokevirtual 47, 3) := by decide +kernel
theorem dX2_readUnit_56 : decode cX2_readUnit 56 = .ok (.invokevirtual 31, 3) := by decide +kernel
theorem dX2_readUnit_59 : decode cX2_readUnit 59 = .ok (.goto 52, 3) := by decide +kernel
theorem dX2_readUnit_62 : decode cX2_readUnit 62 = .ok (.aload_n 0, 1) := by decide +kernel
theorem dX2_readUnit_63 : decode cX2_readUnit 63 = .ok (.getfield 12, 3) := by decide +kernel
theorem dX2_readUnit_66 : decode cX2_readUnit 66 = .ok (.iconst 3, 1) := by decide +kernel
theorem dX2_readUnit_67 : decode cX2_readUnit 67 = .ok (.invokevirtual 71, 3) := by decide +kernel
theorem dX2_readUnit_70 : decode cX2_readUnit 70 = .ok (.ifCond .eq 33, 3) := by decide +kernel
theorem dX2_readUnit_73 : decode cX2_readUnit 73 = .ok (.aload_n 0, 1) := by decide +kernel
theorem dX2_readUnit_74 : decode cX2_readUnit 74 = .ok (.getfield 12, 3) := by decide +kernel
theorem dX2_readUnit_77 : decode cX2_readUnit 77 = .ok (.invokevirtual 47, 3) := by decide +kernel
theorem dX2_readUnit_80 : decode cX2_readUnit 80 = .ok (.bipush 18, 2) := by decide +kernel
theorem dX2_readUnit_82 : decode cX2_readUnit 82 = .ok (.if_icmp .lt 21, 3) := by decide +kernel
theorem dX2_readUnit_85 : decode cX2_readUnit 85 = .ok (.aload_n 1, 1) := by decide +kernel
theorem dX2_readUnit_86 : decode cX2_readUnit 86 = .ok (.iconst 1, 1) := by decide +kernel
theorem dX2_readUnit_87 : decode cX2_readUnit 87 = .ok (.aload_n 0, 1) := by decide +kernel
theorem dX2_readUnit_88 : decode cX2_readUnit 88 = .ok (.getfield 12, 3) := by decide +kernel
theorem dX2_readUnit_91 : decode cX2_readUnit 91 = .ok (.invokevirtual 47, 3) := by decide +kernel
theorem dX2_readUnit_94 : decode cX2_readUnit 94 = .ok (.bipush 18, 2) := by decide +kernel
theorem dX2_readUnit_96 : decode cX2_readUnit 96 = .ok (.isub, 1) := by decide +kernel
theorem dX2_readUnit_97 : decode cX2_readUnit 97 = .ok (.invokevirtual 31, 3) := by decide +kernel
theorem dX2_readUnit_100 : decode cX2_readUnit 100 = .ok (.goto 11, 3) := by decide +kernel
theorem dX2_readUnit_103 : decode cX2_readUnit 103 = .ok (.aload_n 0, 1) := by decide +kernel
theorem dX2_readUnit_104 : decode cX2_readUnit 104 = .ok (.getfield 12, 3) := by decide +kernel
theorem dX2_readUnit_107 : decode cX2_readUnit 107 = .ok (.invokevirtual 51, 3) := by decide +kernel
theorem dX2_readUnit_110 : decode cX2_readUnit 110 = .ok (.ireturn, 1) := by decide +kernel
theorem dX2_readUnit_111 : decode cX2_readUnit 111 = .ok (.aload_n 1, 1) := by decide +kernel
theorem dX2_readUnit_112 : decode cX2_readUnit 112 = .ok (.dup, 1) := by decide +kernel
theorem dX2_readUnit_113 : decode cX2_readUnit 113 = .ok (.getfield 64, 3) := by decide +kernel
theorem dX2_readUnit_116 : decode cX2_readUnit 116 = .ok (.iconst 1, 1) := by decide +kernel
theorem dX2_readUnit_117 : decode cX2_readUnit 117 = .ok (.iadd, 1) := by decide +kernel
theorem dX2_readUnit_118 : decode cX2_readUnit 118 = .ok (.putfield 64, 3) := by decide +kernel
theorem dX2_readUnit_121 : decode cX2_readUnit 121 = .ok (.aload_n 0, 1) := by decide +kernel
theorem dX2_readUnit_122 : decode cX2_readUnit 122 = .ok (.getfield 12, 3) := by decide +kernel
theorem dX2_readUnit_125 : decode cX2_readUnit 125 = .ok (.invokevirtual 26, 3) := by decide +kernel
theorem dX2_readUnit_128 : decode cX2_readUnit 128 = .ok (.iconst 1, 1) := by decide +kernel
theorem dX2_readUnit_129 : decode cX2_readUnit 129 = .ok (.ireturn, 1) := by decide +kernel
theorem wl_RX2_64 : Cond.fieldLink RX2 64 (TX3 5).1 (TX3 5).2.1 (TX3 5).2.2.1 ∈ TB := tbm 273 (by decide +kernel) (by decide +kernel)
theorem wm_X2_readInner : Cond.instanceMethod yX2_readInner ∈ TB ∧ Cond.selects yX2_readInner.cls yX2_readInner yX2_readInner ∈ TB ∧ Cond.initialized yX2_readInner.cls ∈ TB ∧ Cond.code yX2_readInner cX2_readInner 3 (some .boolean) ∈ TB ∧ (yX2_readInner.cls ≠ "java/lang/invoke/MethodHandle" ∧ yX2_readInner.cls ≠ "java/lang/invoke/VarHandle" ∧ (parseMethodDescriptor yX2_readInner.desc).map (fun d => d.parameters.length) = some 2) ∧ 3 ≤ 21 := ⟨tbm 975 (by decide +kernel) (by decide +kernel), tbm 28 (by decide +kernel) (by decide +kernel), tbm 136 (by decide +kernel) (by decide +kernel), tbm 976 (by decide +kernel) (by decide +kernel), by decide +kernel, by decide⟩
theorem wi_RX2_68 : Iv RX2 68 yX2_readInner cX2_readInner 3 (some .boolean) 2 := ⟨tbm 973 (by decide +kernel) (by decide +kernel), wm_X2_readInner⟩
theorem wm_X10_isSort : Cond.instanceMethod yX10_isSort ∈ TB ∧ Cond.selects yX10_isSort.cls yX10_isSort yX10_isSort ∈ TB ∧ Cond.initialized yX10_isSort.cls ∈ TB ∧ Cond.code yX10_isSort cX10_isSort 2 (some .boolean) ∈ TB ∧ (yX10_isSort.cls ≠ "java/lang/invoke/MethodHandle" ∧ yX10_isSort.cls ≠ "java/lang/invoke/VarHandle" ∧ (parseMethodDescriptor yX10_isSort.desc).map (fun d => d.parameters.length) = some 1) ∧ 2 ≤ 21 := ⟨tbm 839 (by decide +kernel) (by decide +kernel), tbm 840 (by decide +kernel) (by decide +kernel), tbm 137 (by decide +kernel) (by decide +kernel), tbm 841 (by decide +kernel) (by decide +kernel), by decide +kernel, by decide⟩
theorem wi_RX2_71 : Iv RX2 71 yX10_isSort cX10_isSort 2 (some .boolean) 1 := ⟨tbm 983 (by decide +kernel) (by decide +kernel), wm_X10_isSort⟩
def mX2_readUnit_b (rc : Nat → Nat → Nat → Int32 → St_ → Option (Bool × St_)) (t : Nat) (p1 : Nat) (p2 : Int32) (σ : St_) : Option (Bool × St_) :=
 (if (σ.1 p1 5) < (30 : Int32) then
 ((mX10_isSign (t + 1) (40 : Int32) σ).bind fun r1 =>
 (if r1 = true then
 ((rc 7 t p1 p2 σ).bind fun r2 =>
 (some (r2.1, r2.2)))
 else ((mX10_isSort (t + 1) (4 : Int32) σ).bind fun r3 =>
 (bnd (fun (σ4 : St_) => (bnd (sI σ4 p1 5 ((σ4.1 p1 5) + (1 : Int32))) fun σ7 =>
 ((mX10_next (t + 1) σ7).bind fun σ8 =>
 (some (true, σ8))))) fun k5 =>
 (if r3 = true then
 ((mX10_number (t + 1) σ).bind fun r9 =>
 ((mX3_put p1 (0 : Int32) r9 σ).bind fun σ10 =>
 (k5 σ10)))
 else ((mX10_isSort (t + 1) (3 : Int32) σ).bind fun r11 =>
 (bnd ((mX10_refuse (t + 1) σ).bind fun r14 =>
 (some (r14.1, r14.2))) fun k12 =>
 (if r11 = true then
 ((mX10_number (t + 1) σ).bind fun r15 =>
 (if r15 < (18 : Int32) then
 (k12)
 else ((mX10_number (t + 1) σ).bind fun r16 =>
 ((mX3_put p1 (1 : Int32) (r16 - (18 : Int32)) σ).bind fun σ17 =>
 (k5 σ17)))))
 else (k12)))))))))
 else ((mX10_refuse (t + 1) σ).bind fun r18 =>
 (some (r18.1, r18.2))))
set_option maxHeartbeats 4000000 in
theorem rX2_readUnit_b (rc : Nat → Nat → Nat → Int32 → St_ → Option (Bool × St_)) (t : Nat) (p1 : Nat) (p2 : Int32) (hr : Nat) (hh5 : 6 ≤ hr) (hrc : RcOk l D cA h0 ad sh P hr rc) (hT : LY2 sh P t) (hp1 : LY3 sh P p1) : Rj l D cA h0 ad yX2_readUnit cX2_readUnit 3 (some .boolean) false (hr + 1) 0 0 (fun b => (some (.int (b2i b.1)), sh, P, b.2)) [.ref (h0 + t), .ref (h0 + p1), .int p2] sh P σ (mX2_readUnit_b rc t p1 p2 σ) := by
  rw [mX2_readUnit_b]
  refine Rj.of (by decide) (fun h => by cases h) (Nat.le_of_ble_eq_true rfl) ?_
  refine tj_lv0 (lv' := [(0, .ref (h0 + t)), (1, .ref (h0 + p1)), (2, .int p2)]) rfl ?_
  refine tj_aload_n (q := 1) dX2_readUnit_0 rfl (i := 1) rfl (pl := 1) rfl ?_
  refine tj_getI (q := 4) (hp1).s fok_3_5 wl_RX2_64 dX2_readUnit_1 rfl ?_
  refine tj_bipush (q := 6) (v := 30) dX2_readUnit_4 rfl (by decide) ?_
  refine tj_icmp_lt (tgt := 17) (q := 9) dX2_readUnit_6 (by decide) rfl ?_ ?_
  · refine tj_aload_n (q := 18) dX2_readUnit_17 rfl (i := 0) rfl (pl := 0) rfl ?_
    refine tj_getR (q := 21) (hT).s (hT).p_tokens fok_2_0 wl_RX2_12 dX2_readUnit_18 rfl ?_
    refine tj_bipush (q := 23) (v := 40) dX2_readUnit_21 rfl (by decide) ?_
    refine tj_callZp (q := 26) (kj_V (As := [.int (40 : Int32)]) (rest := []) (t := (t + 1)) wi_RX2_44 ((hT).o_tokens).s rfl (rX10_isSign (t + 1) (40 : Int32) ((hT).o_tokens)) rfl (by omega) ⟨Nat.le_of_ble_eq_true rfl, Nat.le_of_ble_eq_true rfl⟩ (Nat.le_of_ble_eq_true rfl) dX2_readUnit_23) rfl (fun r1 => ?_)
    refine tj_bz (tgt := 36) (q := 29) dX2_readUnit_26 (by decide) rfl ?_ ?_
    · refine tj_aload_n (q := 30) dX2_readUnit_29 rfl (i := 0) rfl (pl := 0) rfl ?_
      refine tj_aload_n (q := 31) dX2_readUnit_30 rfl (i := 1) rfl (pl := 1) rfl ?_
      refine tj_iload_n (q := 32) dX2_readUnit_31 rfl (i := 2) rfl (pl := 2) rfl ?_
      refine tj_callZ (q := 35) (kj_V (As := [.ref (h0 + p1), .int p2]) (rest := []) (t := t) wi_RX2_68 (hT).s rfl (hrc.2.2.2.2.2.2.2 t p1 p2 _ (hT) (hp1)) rfl (Nat.le_refl _) ⟨Nat.le_of_ble_eq_true rfl, Nat.le_of_ble_eq_true rfl⟩ (Nat.le_of_ble_eq_true rfl) dX2_readUnit_32) rfl (fun r2 => ?_)
      exact tj_zret rfl (nar_b2i _) rfl (Nat.le_of_ble_eq_true rfl) (Nat.le_of_ble_eq_true rfl) dX2_readUnit_35
    · refine tj_aload_n (q := 37) dX2_readUnit_36 rfl (i := 0) rfl (pl := 0) rfl ?_
      refine tj_getR (q := 40) (hT).s (hT).p_tokens fok_2_0 wl_RX2_12 dX2_readUnit_37 rfl ?_
      refine tj_iconst (q := 41) (v := 4) dX2_readUnit_40 rfl (by decide) ?_
      refine tj_callZp (q := 44) (kj_V (As := [.int (4 : Int32)]) (rest := []) (t := (t + 1)) wi_RX2_71 ((hT).o_tokens).s rfl (rX10_isSort (t + 1) (4 : Int32) ((hT).o_tokens)) rfl (by omega) ⟨Nat.le_of_ble_eq_true rfl, Nat.le_of_ble_eq_true rfl⟩ (Nat.le_of_ble_eq_true rfl) dX2_readUnit_41) rfl (fun r3 => ?_)
      refine tj_bnd (fun k5 => ∀ (σ4 : St_), Tj l D cA h0 ad RX2 cX2_readUnit 3 (some .boolean) false (hr + 1) 0 0 (fun b => (some (.int (b2i b.1)), sh, P, b.2)) 0 0 sh P σ4 111 [(0, .ref (h0 + t)), (1, .ref (h0 + p1))] [] (k5 σ4)) ?_ (fun k5 hk6 => ?_)
      · intro σ4
        refine tj_aload_n (q := 112) dX2_readUnit_111 rfl (i := 1) rfl (pl := 1) rfl ?_
        refine tj_dup (q := 113) dX2_readUnit_112 rfl rfl ?_
        refine tj_getI (q := 116) (hp1).s fok_3_5 wl_RX2_64 dX2_readUnit_113 rfl ?_
        refine tj_iconst (q := 117) (v := 1) dX2_readUnit_116 rfl (by decide) ?_
        refine tj_iadd (q := 118) dX2_readUnit_117 rfl ?_
        refine tj_putI (q := 121) (hp1).s fok_3_5 tok_3 fpk_3_5 wl_RX2_64 dX2_readUnit_118 rfl (fun σ7 => ?_)
        refine tj_aload_n (q := 122) dX2_readUnit_121 rfl (i := 0) rfl (pl := 0) rfl ?_
        refine tj_getR (q := 125) (hT).s (hT).p_tokens fok_2_0 wl_RX2_12 dX2_readUnit_122 rfl ?_
        refine tj_callV (q := 128) (kj_V (As := []) (rest := []) (t := (t + 1)) wi_RX2_26 ((hT).o_tokens).s rfl (rX10_next (t + 1) ((hT).o_tokens)) rfl (by omega) ⟨Nat.le_of_ble_eq_true rfl, Nat.le_of_ble_eq_true rfl⟩ (Nat.le_of_ble_eq_true rfl) dX2_readUnit_125) rfl (fun σ8 => ?_)
        refine tj_iconst (q := 129) (v := 1) dX2_readUnit_128 rfl (by decide) ?_
        exact tj_zret rfl (by decide) rfl (Nat.le_of_ble_eq_true rfl) (Nat.le_of_ble_eq_true rfl) dX2_readUnit_129
      · refine tj_bz (tgt := 62) (q := 47) dX2_readUnit_44 (by decide) rfl ?_ ?_
        · refine tj_aload_n (q := 48) dX2_readUnit_47 rfl (i := 1) rfl (pl := 1) rfl ?_
          refine tj_iconst (q := 49) (v := 0) dX2_readUnit_48 rfl (by decide) ?_
          refine tj_aload_n (q := 50) dX2_readUnit_49 rfl (i := 0) rfl (pl := 0) rfl ?_
          refine tj_getR (q := 53) (hT).s (hT).p_tokens fok_2_0 wl_RX2_12 dX2_readUnit_50 rfl ?_
          refine tj_callIp (q := 56) (kj_V (As := []) (rest := [.int (0 : Int32), .ref (h0 + p1)]) (t := (t + 1)) wi_RX2_47 ((hT).o_tokens).s rfl (rX10_number (t + 1) ((hT).o_tokens)) rfl (by omega) ⟨Nat.le_of_ble_eq_true rfl, Nat.le_of_ble_eq_true rfl⟩ (Nat.le_of_ble_eq_true rfl) dX2_readUnit_53) rfl (fun r9 => ?_)
          refine tj_callV (q := 59) (kj_V (As := [.int (0 : Int32), .int r9]) (rest := []) (t := p1) wi_RX2_31 (hp1).s rfl (rX3_put p1 (0 : Int32) r9 (hp1)) rfl (by omega) ⟨Nat.le_of_ble_eq_true rfl, Nat.le_of_ble_eq_true rfl⟩ (Nat.le_of_ble_eq_true rfl) dX2_readUnit_56) rfl (fun σ10 => ?_)
          refine tj_goto (q := 111) dX2_readUnit_59 (by decide) ?_
          refine tj_lv [0, 1] rfl ?_
          exact hk6 σ10
        · refine tj_aload_n (q := 63) dX2_readUnit_62 rfl (i := 0) rfl (pl := 0) rfl ?_
          refine tj_getR (q := 66) (hT).s (hT).p_tokens fok_2_0 wl_RX2_12 dX2_readUnit_63 rfl ?_
          refine tj_iconst (q := 67) (v := 3) dX2_readUnit_66 rfl (by decide) ?_
          refine tj_callZp (q := 70) (kj_V (As := [.int (3 : Int32)]) (rest := []) (t := (t + 1)) wi_RX2_71 ((hT).o_tokens).s rfl (rX10_isSort (t + 1) (3 : Int32) ((hT).o_tokens)) rfl (by omega) ⟨Nat.le_of_ble_eq_true rfl, Nat.le_of_ble_eq_true rfl⟩ (Nat.le_of_ble_eq_true rfl) dX2_readUnit_67) rfl (fun r11 => ?_)
          refine tj_bnd (fun k12 => Tj l D cA h0 ad RX2 cX2_readUnit 3 (some .boolean) false (hr + 1) 0 0 (fun b => (some (.int (b2i b.1)), sh, P, b.2)) 0 0 sh P σ 103 [(0, .ref (h0 + t))] [] k12) ?_ (fun k12 hk13 => ?_)
          · refine tj_aload_n (q := 104) dX2_readUnit_103 rfl (i := 0) rfl (pl := 0) rfl ?_
            refine tj_getR (q := 107) (hT).s (hT).p_tokens fok_2_0 wl_RX2_12 dX2_readUnit_104 rfl ?_
            refine tj_callZ (q := 110) (kj_V (As := []) (rest := []) (t := (t + 1)) wi_RX2_51 ((hT).o_tokens).s rfl (rX10_refuse (t + 1) ((hT).o_tokens)) rfl (by omega) ⟨Nat.le_of_ble_eq_true rfl, Nat.le_of_ble_eq_true rfl⟩ (Nat.le_of_ble_eq_true rfl) dX2_readUnit_107) rfl (fun r14 => ?_)
            exact tj_zret rfl (nar_b2i _) rfl (Nat.le_of_ble_eq_true rfl) (Nat.le_of_ble_eq_true rfl) dX2_readUnit_110
          · refine tj_bz (tgt := 103) (q := 73) dX2_readUnit_70 (by decide) rfl ?_ ?_
            · refine tj_aload_n (q := 74) dX2_readUnit_73 rfl (i := 0) rfl (pl := 0) rfl ?_
              refine tj_getR (q := 77) (hT).s (hT).p_tokens fok_2_0 wl_RX2_12 dX2_readUnit_74 rfl ?_
              refine tj_callIp (q := 80) (kj_V (As := []) (rest := []) (t := (t + 1)) wi_RX2_47 ((hT).o_tokens).s rfl (rX10_number (t + 1) ((hT).o_tokens)) rfl (by omega) ⟨Nat.le_of_ble_eq_true rfl, Nat.le_of_ble_eq_true rfl⟩ (Nat.le_of_ble_eq_true rfl) dX2_readUnit_77) rfl (fun r15 => ?_)
              refine tj_bipush (q := 82) (v := 18) dX2_readUnit_80 rfl (by decide) ?_
              refine tj_icmp_lt (tgt := 103) (q := 85) dX2_readUnit_82 (by decide) rfl ?_ ?_
              · refine tj_lv [0] rfl ?_
                exact hk13
              · refine tj_aload_n (q := 86) dX2_readUnit_85 rfl (i := 1) rfl (pl := 1) rfl ?_
                refine tj_iconst (q := 87) (v := 1) dX2_readUnit_86 rfl (by decide) ?_
                refine tj_aload_n (q := 88) dX2_readUnit_87 rfl (i := 0) rfl (pl := 0) rfl ?_
                refine tj_getR (q := 91) (hT).s (hT).p_tokens fok_2_0 wl_RX2_12 dX2_readUnit_88 rfl ?_
                refine tj_callIp (q := 94) (kj_V (As := []) (rest := [.int (1 : Int32), .ref (h0 + p1)]) (t := (t + 1)) wi_RX2_47 ((hT).o_tokens).s rfl (rX10_number (t + 1) ((hT).o_tokens)) rfl (by omega) ⟨Nat.le_of_ble_eq_true rfl, Nat.le_of_ble_eq_true rfl⟩ (Nat.le_of_ble_eq_true rfl) dX2_readUnit_91) rfl (fun r16 => ?_)
                refine tj_bipush (q := 96) (v := 18) dX2_readUnit_94 rfl (by decide) ?_
                refine tj_isub (q := 97) dX2_readUnit_96 rfl ?_
                refine tj_callV (q := 100) (kj_V (As := [.int (1 : Int32), .int (r16 - (18 : Int32))]) (rest := []) (t := p1) wi_RX2_31 (hp1).s rfl (rX3_put p1 (1 : Int32) (r16 - (18 : Int32)) (hp1)) rfl (by omega) ⟨Nat.le_of_ble_eq_true rfl, Nat.le_of_ble_eq_true rfl⟩ (Nat.le_of_ble_eq_true rfl) dX2_readUnit_97) rfl (fun σ17 => ?_)
                refine tj_goto (q := 111) dX2_readUnit_100 (by decide) ?_
                refine tj_lv [0, 1] rfl ?_
                exact hk6 σ17
            · refine tj_lv [0] rfl ?_
              exact hk13
  · refine tj_aload_n (q := 10) dX2_readUnit_9 rfl (i := 0) rfl (pl := 0) rfl ?_
    refine tj_getR (q := 13) (hT).s (hT).p_tokens fok_2_0 wl_RX2_12 dX2_readUnit_10 rfl ?_
    refine tj_callZ (q := 16) (kj_V (As := []) (rest := []) (t := (t + 1)) wi_RX2_51 ((hT).o_tokens).s rfl (rX10_refuse (t + 1) ((hT).o_tokens)) rfl (by omega) ⟨Nat.le_of_ble_eq_true rfl, Nat.le_of_ble_eq_true rfl⟩ (Nat.le_of_ble_eq_true rfl) dX2_readUnit_13) rfl (fun r18 => ?_)
    exact tj_zret rfl (nar_b2i _) rfl (Nat.le_of_ble_eq_true rfl) (Nat.le_of_ble_eq_true rfl) dX2_readUnit_16

theorem dX2_readInner_0 : decode cX2_readInner 0 = .ok (.iload_n 2, 1) := by decide +kernel
theorem dX2_readInner_1 : decode cX2_readInner 1 = .ok (.bipush 6, 2) := by decide +kernel
theorem dX2_readInner_3 : decode cX2_readInner 3 = .ok (.if_icmp .le 11, 3) := by decide +kernel
theorem dX2_readInner_6 : decode cX2_readInner 6 = .ok (.aload_n 0, 1) := by decide +kernel
theorem dX2_readInner_7 : decode cX2_readInner 7 = .ok (.getfield 12, 3) := by decide +kernel
theorem dX2_readInner_10 : decode cX2_readInner 10 = .ok (.invokevirtual 51, 3) := by decide +kernel
theorem dX2_readInner_13 : decode cX2_readInner 13 = .ok (.ireturn, 1) := by decide +kernel
theorem dX2_readInner_14 : decode cX2_readInner 14 = .ok (.aload_n 1, 1) := by decide +kernel
theorem dX2_readInner_15 : decode cX2_readInner 15 = .ok (.dup, 1) := by decide +kernel
theorem dX2_readInner_16 : decode cX2_readInner 16 = .ok (.getfield 64, 3) := by decide +kernel
theorem dX2_readInner_19 : decode cX2_readInner 19 = .ok (.iconst 1, 1) := by decide +kernel
theorem dX2_readInner_20 : decode cX2_readInner 20 = .ok (.iadd, 1) := by decide +kernel
theorem dX2_readInner_21 : decode cX2_readInner 21 = .ok (.putfield 64, 3) := by decide +kernel
theorem dX2_readInner_24 : decode cX2_readInner 24 = .ok (.aload_n 0, 1) := by decide +kernel
theorem dX2_readInner_25 : decode cX2_readInner 25 = .ok (.getfield 12, 3) := by decide +kernel
theorem dX2_readInner_28 : decode cX2_readInner 28 = .ok (.invokevirtual 26, 3) := by decide +kernel
theorem dX2_readInner_31 : decode cX2_readInner 31 = .ok (.aload_n 0, 1) := by decide +kernel
theorem dX2_readInner_32 : decode cX2_readInner 32 = .ok (.aload_n 1, 1) := by decide +kernel
theorem dX2_readInner_33 : decode cX2_readInner 33 = .ok (.iload_n 2, 1) := by decide +kernel
theorem dX2_readInner_34 : decode cX2_readInner 34 = .ok (.iconst 1, 1) := by decide +kernel
theorem dX2_readInner_35 : decode cX2_readInner 35 = .ok (.iadd, 1) := by decide +kernel
theorem dX2_readInner_36 : decode cX2_readInner 36 = .ok (.invokevirtual 74, 3) := by decide +kernel
theorem dX2_readInner_39 : decode cX2_readInner 39 = .ok (.ifCond .eq 19, 3) := by decide +kernel
theorem dX2_readInner_42 : decode cX2_readInner 42 = .ok (.aload_n 0, 1) := by decide +kernel
theorem dX2_readInner_43 : decode cX2_readInner 43 = .ok (.getfield 12, 3) := by decide +kernel
theorem dX2_readInner_46 : decode cX2_readInner 46 = .ok (.bipush 41, 2) := by decide +kernel
theorem dX2_readInner_48 : decode cX2_readInner 48 = .ok (.invokevirtual 77, 3) := by decide +kernel
theorem dX2_readInner_51 : decode cX2_readInner 51 = .ok (.ifCond .eq 7, 3) := by decide +kernel
theorem dX2_readInner_54 : decode cX2_readInner 54 = .ok (.iconst 1, 1) := by decide +kernel
theorem dX2_readInner_55 : decode cX2_readInner 55 = .ok (.goto 4, 3) := by decide +kernel
theorem dX2_readInner_58 : decode cX2_readInner 58 = .ok (.iconst 0, 1) := by decide +kernel
theorem dX2_readInner_59 : decode cX2_readInner 59 = .ok (.ireturn, 1) := by decide +kernel
theorem wm_X2_readEither : Cond.instanceMethod yX2_readEither ∈ TB ∧ Cond.selects yX2_readEither.cls yX2_readEither yX2_readEither ∈ TB ∧ Cond.initialized yX2_readEither.cls ∈ TB ∧ Cond.code yX2_readEither cX2_readEither 4 (some .boolean) ∈ TB ∧ (yX2_readEither.cls ≠ "java/lang/invoke/MethodHandle" ∧ yX2_readEither.cls ≠ "java/lang/invoke/VarHandle" ∧ (parseMethodDescriptor yX2_readEither.desc).map (fun d => d.parameters.length) = some 2) ∧ 4 ≤ 21 := ⟨tbm 936 (by decide +kernel) (by decide +kernel), tbm 21 (by decide +kernel) (by decide +kernel), tbm 136 (by decide +kernel) (by decide +kernel), tbm 937 (by decide +kernel) (by decide +kernel), by decide +kernel, by decide⟩
theorem wi_RX2_74 : Iv RX2 74 yX2_readEither cX2_readEither 4 (some .boolean) 2 := ⟨tbm 977 (by decide +kernel) (by decide +kernel), wm_X2_readEither⟩
theorem wm_X10_takeSign : Cond.instanceMethod yX10_takeSign ∈ TB ∧ Cond.selects yX10_takeSign.cls yX10_takeSign yX10_takeSign ∈ TB ∧ Cond.initialized yX10_takeSign.cls ∈ TB ∧ Cond.code yX10_takeSign cX10_takeSign 2 (some .boolean) ∈ TB ∧ (yX10_takeSign.cls ≠ "java/lang/invoke/MethodHandle" ∧ yX10_takeSign.cls ≠ "java/lang/invoke/VarHandle" ∧ (parseMethodDescriptor yX10_takeSign.desc).map (fun d => d.parameters.length) = some 1) ∧ 2 ≤ 21 := ⟨tbm 979 (by decide +kernel) (by decide +kernel), tbm 980 (by decide +kernel) (by decide +kernel), tbm 137 (by decide +kernel) (by decide +kernel), tbm 981 (by decide +kernel) (by decide +kernel), by decide +kernel, by decide⟩
theorem wi_RX2_77 : Iv RX2 77 yX10_takeSign cX10_takeSign 2 (some .boolean) 1 := ⟨tbm 978 (by decide +kernel) (by decide +kernel), wm_X10_takeSign⟩
def mX2_readInner_b (rc : Nat → Nat → Nat → Int32 → St_ → Option (Bool × St_)) (t : Nat) (p1 : Nat) (p2 : Int32) (σ : St_) : Option (Bool × St_) :=
 (if p2 ≤ (6 : Int32) then
 (bnd (sI σ p1 5 ((σ.1 p1 5) + (1 : Int32))) fun σ1 =>
 ((mX10_next (t + 1) σ1).bind fun σ2 =>
 ((rc 0 t p1 (p2 + (1 : Int32)) σ2).bind fun r3 =>
 (if r3.1 = true then
 ((mX10_takeSign (t + 1) (41 : Int32) r3.2).bind fun r4 =>
 (if r4.1 = true then
 (some (true, r4.2))
 else (some (false, r4.2))))
 else (some (false, r3.2))))))
 else ((mX10_refuse (t + 1) σ).bind fun r5 =>
 (some (r5.1, r5.2))))
set_option maxHeartbeats 4000000 in
theorem rX2_readInner_b (rc : Nat → Nat → Nat → Int32 → St_ → Option (Bool × St_)) (t : Nat) (p1 : Nat) (p2 : Int32) (hr : Nat) (hh5 : 6 ≤ hr) (hrc : RcOk l D cA h0 ad sh P hr rc) (hT : LY2 sh P t) (hp1 : LY3 sh P p1) : Rj l D cA h0 ad yX2_readInner cX2_readInner 3 (some .boolean) false (hr + 1) 0 0 (fun b => (some (.int (b2i b.1)), sh, P, b.2)) [.ref (h0 + t), .ref (h0 + p1), .int p2] sh P σ (mX2_readInner_b rc t p1 p2 σ) := by
  rw [mX2_readInner_b]
  refine Rj.of (by decide) (fun h => by cases h) (Nat.le_of_ble_eq_true rfl) ?_
  refine tj_lv0 (lv' := [(0, .ref (h0 + t)), (1, .ref (h0 + p1)), (2, .int p2)]) rfl ?_
  refine tj_iload_n (q := 1) dX2_readInner_0 rfl (i := 2) rfl (pl := 2) rfl ?_
  refine tj_bipush (q := 3) (v := 6) dX2_readInner_1 rfl (by decide) ?_
  refine tj_icmp_le (tgt := 14) (q := 6) dX2_readInner_3 (by decide) rfl ?_ ?_
  · refine tj_aload_n (q := 15) dX2_readInner_14 rfl (i := 1) rfl (pl := 1) rfl ?_
    refine tj_dup (q := 16) dX2_readInner_15 rfl rfl ?_
    refine tj_getI (q := 19) (hp1).s fok_3_5 wl_RX2_64 dX2_readInner_16 rfl ?_
    refine tj_iconst (q := 20) (v := 1) dX2_readInner_19 rfl (by decide) ?_
    refine tj_iadd (q := 21) dX2_readInner_20 rfl ?_
    refine tj_putI (q := 24) (hp1).s fok_3_5 tok_3 fpk_3_5 wl_RX2_64 dX2_readInner_21 rfl (fun σ1 => ?_)
    refine tj_aload_n (q := 25) dX2_readInner_24 rfl (i := 0) rfl (pl := 0) rfl ?_
    refine tj_getR (q := 28) (hT).s (hT).p_tokens fok_2_0 wl_RX2_12 dX2_readInner_25 rfl ?_
    refine tj_callV (q := 31) (kj_V (As := []) (rest := []) (t := (t + 1)) wi_RX2_26 ((hT).o_tokens).s rfl (rX10_next (t + 1) ((hT).o_tokens)) rfl (by omega) ⟨Nat.le_of_ble_eq_true rfl, Nat.le_of_ble_eq_true rfl⟩ (Nat.le_of_ble_eq_true rfl) dX2_readInner_28) rfl (fun σ2 => ?_)
    refine tj_aload_n (q := 32) dX2_readInner_31 rfl (i := 0) rfl (pl := 0) rfl ?_
    refine tj_aload_n (q := 33) dX2_readInner_32 rfl (i := 1) rfl (pl := 1) rfl ?_
    refine tj_iload_n (q := 34) dX2_readInner_33 rfl (i := 2) rfl (pl := 2) rfl ?_
    refine tj_iconst (q := 35) (v := 1) dX2_readInner_34 rfl (by decide) ?_
    refine tj_iadd (q := 36) dX2_readInner_35 rfl ?_
    refine tj_callZ (q := 39) (kj_V (As := [.ref (h0 + p1), .int (p2 + (1 : Int32))]) (rest := []) (t := t) wi_RX2_74 (hT).s rfl (hrc.1 t p1 (p2 + (1 : Int32)) _ (hT) (hp1)) rfl (Nat.le_refl _) ⟨Nat.le_of_ble_eq_true rfl, Nat.le_of_ble_eq_true rfl⟩ (Nat.le_of_ble_eq_true rfl) dX2_readInner_36) rfl (fun r3 => ?_)
    refine tj_bz (tgt := 58) (q := 42) dX2_readInner_39 (by decide) rfl ?_ ?_
    · refine tj_aload_n (q := 43) dX2_readInner_42 rfl (i := 0) rfl (pl := 0) rfl ?_
      refine tj_getR (q := 46) (hT).s (hT).p_tokens fok_2_0 wl_RX2_12 dX2_readInner_43 rfl ?_
      refine tj_bipush (q := 48) (v := 41) dX2_readInner_46 rfl (by decide) ?_
      refine tj_callZ (q := 51) (kj_V (As := [.int (41 : Int32)]) (rest := []) (t := (t + 1)) wi_RX2_77 ((hT).o_tokens).s rfl (rX10_takeSign (t + 1) (41 : Int32) ((hT).o_tokens)) rfl (by omega) ⟨Nat.le_of_ble_eq_true rfl, Nat.le_of_ble_eq_true rfl⟩ (Nat.le_of_ble_eq_true rfl) dX2_readInner_48) rfl (fun r4 => ?_)
      refine tj_bz (tgt := 58) (q := 54) dX2_readInner_51 (by decide) rfl ?_ ?_
      · refine tj_iconst (q := 55) (v := 1) dX2_readInner_54 rfl (by decide) ?_
        refine tj_goto (q := 59) dX2_readInner_55 (by decide) ?_
        exact tj_zret rfl (by decide) rfl (Nat.le_of_ble_eq_true rfl) (Nat.le_of_ble_eq_true rfl) dX2_readInner_59
      · refine tj_iconst (q := 59) (v := 0) dX2_readInner_58 rfl (by decide) ?_
        exact tj_zret rfl (by decide) rfl (Nat.le_of_ble_eq_true rfl) (Nat.le_of_ble_eq_true rfl) dX2_readInner_59
    · refine tj_iconst (q := 59) (v := 0) dX2_readInner_58 rfl (by decide) ?_
      exact tj_zret rfl (by decide) rfl (Nat.le_of_ble_eq_true rfl) (Nat.le_of_ble_eq_true rfl) dX2_readInner_59
  · refine tj_aload_n (q := 7) dX2_readInner_6 rfl (i := 0) rfl (pl := 0) rfl ?_
    refine tj_getR (q := 10) (hT).s (hT).p_tokens fok_2_0 wl_RX2_12 dX2_readInner_7 rfl ?_
    refine tj_callZ (q := 13) (kj_V (As := []) (rest := []) (t := (t + 1)) wi_RX2_51 ((hT).o_tokens).s rfl (rX10_refuse (t + 1) ((hT).o_tokens)) rfl (by omega) ⟨Nat.le_of_ble_eq_true rfl, Nat.le_of_ble_eq_true rfl⟩ (Nat.le_of_ble_eq_true rfl) dX2_readInner_10) rfl (fun r5 => ?_)
    exact tj_zret rfl (nar_b2i _) rfl (Nat.le_of_ble_eq_true rfl) (Nat.le_of_ble_eq_true rfl) dX2_readInner_13

def mX2_rec : Nat → Nat → Nat → Nat → Int32 → St_ → Option (Bool × St_)
  | 0 => fun _ _ _ _ _ => none
  | d + 1 => fun w t p1 p2 σ => if w = 0 then mX2_readEither_b (mX2_rec d) t p1 p2 σ else if w = 1 then mX2_readBoth_b (mX2_rec d) t p1 p2 σ else if w = 2 then mX2_readOne_b (mX2_rec d) t p1 p2 σ else if w = 3 then mX2_readNot_b (mX2_rec d) t p1 p2 σ else if w = 4 then mX2_readTotal_b (mX2_rec d) t p1 p2 σ else if w = 5 then mX2_readTerm_b (mX2_rec d) t p1 p2 σ else if w = 6 then mX2_readUnit_b (mX2_rec d) t p1 p2 σ else mX2_readInner_b (mX2_rec d) t p1 p2 σ
theorem rX2_rec : ∀ d, RcOk l D cA h0 ad sh P (6 + d) (mX2_rec d) := by
  intro d
  induction d with
  | zero => refine ⟨?_, ?_, ?_, ?_, ?_, ?_, ?_, ?_⟩ <;> (intro t p1 p2 σ h1 h2 b hb; cases hb)
  | succ d ih => exact ⟨fun t p1 p2 σ h1 h2 => rX2_readEither_b (mX2_rec d) t p1 p2 (6 + d) (by omega) ih h1 h2, fun t p1 p2 σ h1 h2 => rX2_readBoth_b (mX2_rec d) t p1 p2 (6 + d) (by omega) ih h1 h2, fun t p1 p2 σ h1 h2 => rX2_readOne_b (mX2_rec d) t p1 p2 (6 + d) (by omega) ih h1 h2, fun t p1 p2 σ h1 h2 => rX2_readNot_b (mX2_rec d) t p1 p2 (6 + d) (by omega) ih h1 h2, fun t p1 p2 σ h1 h2 => rX2_readTotal_b (mX2_rec d) t p1 p2 (6 + d) (by omega) ih h1 h2, fun t p1 p2 σ h1 h2 => rX2_readTerm_b (mX2_rec d) t p1 p2 (6 + d) (by omega) ih h1 h2, fun t p1 p2 σ h1 h2 => rX2_readUnit_b (mX2_rec d) t p1 p2 (6 + d) (by omega) ih h1 h2, fun t p1 p2 σ h1 h2 => rX2_readInner_b (mX2_rec d) t p1 p2 (6 + d) (by omega) ih h1 h2⟩
end
