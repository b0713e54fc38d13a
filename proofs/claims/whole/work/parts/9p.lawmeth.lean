/-! the methods of Formula against the reference's open signs -/
section LAWMETH
variable {σ σ' ρ ρ' : St_} {n i d u k x a m : Nat} {T : Nat → Nat} {τ : Tkn} {lc lr : List (Nat × Int32)} {S P : List Nat} {rc : Nat → Nat → Nat → Int32 → St_ → Option (Bool × St_)}
def tcT (_ : Tkn) (_ : List Nat) (_ : Nat) : Prop := True
def tcN (τ : Tkn) (_ : List Nat) (_ : Nat) : Prop := τ.1 = 1 ∧ wnum τ.2.2.1 = some 17
def tcU (τ : Tkn) (S : List Nat) (_ : Nat) : Prop := ¬ ((τ.1 = 1 ∧ wnum τ.2.2.1 = some 17) ∧ mnS S = true)
def tcB (τ : Tkn) (_ : List Nat) (u : Nat) : Prop := τ.1 = 40 ∧ u < 30
theorem tgt_pos0 : ∀ o : Fin 256, 1 ≤ tgt o.1 := by decide +kernel
theorem tgt_pos {o : Nat} (h : o < 256) : 1 ≤ tgt o := tgt_pos0 ⟨o, h⟩
theorem sgq1 : (¬ sgT τ = 0 ∧ tgt (sgT τ) = 1) ↔ (τ.1 = 1 ∧ wnum τ.2.2.1 = some 15) := by
  rcases sgT_cases τ with ⟨e1, e2, e⟩ | ⟨e1, e2, e⟩ | ⟨f, e⟩ | ⟨f, e⟩ | ⟨f, e⟩ | ⟨e, f1, f2, -⟩
  · rw [e, e2]; simp [tgt]
  · rw [e, e2]; simp [tgt, e1]
  · rw [e]; rcases f with f | f | f <;> rw [f] <;> simp [tgt]
  · rw [e]; rcases f with f | f <;> rw [f] <;> simp [tgt]
  · rw [e]; rcases f with f | f | f <;> rw [f] <;> simp [tgt]
  · exact ⟨fun w => absurd e w.1, fun w => absurd w f2⟩
theorem sgq2 : (¬ sgT τ = 0 ∧ tgt (sgT τ) = 2) ↔ (τ.1 = 1 ∧ wnum τ.2.2.1 = some 16) := by
  rcases sgT_cases τ with ⟨e1, e2, e⟩ | ⟨e1, e2, e⟩ | ⟨f, e⟩ | ⟨f, e⟩ | ⟨f, e⟩ | ⟨e, f1, f2, -⟩
  · rw [e, e2]; simp [tgt, e1]
  · rw [e, e2]; simp [tgt]
  · rw [e]; rcases f with f | f | f <;> rw [f] <;> simp [tgt]
  · rw [e]; rcases f with f | f <;> rw [f] <;> simp [tgt]
  · rw [e]; rcases f with f | f | f <;> rw [f] <;> simp [tgt]
  · exact ⟨fun w => absurd e w.1, fun w => absurd w f1⟩
theorem sgq4 : (¬ sgT τ = 0 ∧ tgt (sgT τ) = 4) ↔ (τ.1 = 60 ∨ τ.1 = 61 ∨ τ.1 = 62) := by
  rcases sgT_cases τ with ⟨e1, e2, e⟩ | ⟨e1, e2, e⟩ | ⟨f, e⟩ | ⟨f, e⟩ | ⟨f, e⟩ | ⟨e, f1, f2, f3⟩
  · rw [e, e1]; simp [tgt]
  · rw [e, e1]; simp [tgt]
  · rw [e]; rcases f with f | f | f <;> rw [f] <;> simp [tgt]
  · rw [e]; rcases f with f | f <;> rw [f] <;> simp [tgt]
  · rw [e]; rcases f with f | f | f <;> rw [f] <;> simp [tgt]
  · exact ⟨fun w => absurd e w.1, fun w => by omega⟩
theorem sgq5 : (¬ sgT τ = 0 ∧ tgt (sgT τ) = 5) ↔ (τ.1 = 43 ∨ τ.1 = 45) := by
  rcases sgT_cases τ with ⟨e1, e2, e⟩ | ⟨e1, e2, e⟩ | ⟨f, e⟩ | ⟨f, e⟩ | ⟨f, e⟩ | ⟨e, f1, f2, f3⟩
  · rw [e, e1]; simp [tgt]
  · rw [e, e1]; simp [tgt]
  · rw [e]; rcases f with f | f | f <;> rw [f] <;> simp [tgt]
  · rw [e]; rcases f with f | f <;> rw [f] <;> simp [tgt]
  · rw [e]; rcases f with f | f | f <;> rw [f] <;> simp [tgt]
  · exact ⟨fun w => absurd e w.1, fun w => by omega⟩
theorem sgq6 : (¬ sgT τ = 0 ∧ tgt (sgT τ) = 6) ↔ (τ.1 = 42 ∨ τ.1 = 47 ∨ τ.1 = 37) := by
  rcases sgT_cases τ with ⟨e1, e2, e⟩ | ⟨e1, e2, e⟩ | ⟨f, e⟩ | ⟨f, e⟩ | ⟨f, e⟩ | ⟨e, f1, f2, f3⟩
  · rw [e, e1]; simp [tgt]
  · rw [e, e1]; simp [tgt]
  · rw [e]; rcases f with f | f | f <;> rw [f] <;> simp [tgt]
  · rw [e]; rcases f with f | f <;> rw [f] <;> simp [tgt]
  · rw [e]; rcases f with f | f | f <;> rw [f] <;> simp [tgt]
  · exact ⟨fun w => absurd e w.1, fun w => by omega⟩
theorem sgv (h : ¬ sgT τ = 0) : (sgT τ = 38 ∧ τ.1 = 1 ∧ wnum τ.2.2.1 = some 16) ∨ (sgT τ = 124 ∧ τ.1 = 1 ∧ wnum τ.2.2.1 = some 15) ∨ (sgT τ = τ.1 ∧ 3 < τ.1 ∧ ¬ τ.1 = 38 ∧ ¬ τ.1 = 124 ∧ ¬ τ.1 = 21) := by
  rcases sgT_cases τ with ⟨e1, e2, e⟩ | ⟨e1, e2, e⟩ | ⟨f, e⟩ | ⟨f, e⟩ | ⟨f, e⟩ | ⟨e, f1, f2, f3⟩
  · exact Or.inl ⟨e, e1, e2⟩
  · exact Or.inr (Or.inl ⟨e, e1, e2⟩)
  · exact Or.inr (Or.inr ⟨e, by omega, by omega, by omega, by omega⟩)
  · exact Or.inr (Or.inr ⟨e, by omega, by omega, by omega, by omega⟩)
  · exact Or.inr (Or.inr ⟨e, by omega, by omega, by omega, by omega⟩)
  · exact absurd e h
theorem lst_sg {c : Nat} (h1 : ¬ c = 38) (h2 : ¬ c = 124) (h3 : ¬ c = 21) (h4 : c < 256) : lstepC (sto c) = nI c := by
  unfold sto lstepC
  rw [if_neg h3]
  show (if 3 = 0 then (0 : Int32) else if 3 = 1 then 1 else if 3 = 2 then 2 else if nI c = 38 then 3 else if nI c = 124 then 4 else nI c) = nI c
  rw [if_neg (by omega), if_neg (by omega), if_neg (by omega), if_neg (show ¬ nI c = (38 : Int32) from fun w => h1 ((nI_eq (b := 38) (by omega) (by omega)).mp w)), if_neg (show ¬ nI c = (124 : Int32) from fun w => h2 ((nI_eq (b := 124) (by omega) (by omega)).mp w))]
theorem sgv_c (h : ¬ sgT τ = 0) (h3 : 3 < τ.1) (h256 : τ.1 < 256) : lstepC (sto (sgT τ)) = nI τ.1 := by
  rcases sgv h with e | e | e
  · omega
  · omega
  · rw [e.1]; exact lst_sg e.2.2.1 e.2.2.2.1 e.2.2.2.2 h256
theorem m_either (hd : 12 ≤ d) (hRc : RcW rc T n d 1 2 2 x tcT) (hG : LGw T n i τ d lc lc S u k σ ρ) (hT : Tpw 1 S) (hx : nst S = x) (hb9 : lc.length + nb S ≤ 9 * u + nst S) (ha : 1710 ≤ a + i) (hm : 1710 ≤ m + i) : XOk 1 T n d (i + 1) S (k + 1) σ ρ (RU KLw a m ρ) (mX2_readEither_b rc 2 (d + 11) (nI x) σ) := by
  unfold mX2_readEither_b
  refine XOk.step (hRc i τ lc S u k σ ρ a m hG (hT.mono (by omega)) hx hb9 ha hm trivial) (fun σ1 => if_neg (by simp)) (fun i' τ' P lr u' σ1 ρ' m' g1 g2 g3 g4 g5 g6 => ?_)
  rw [if_pos rfl]
  have := loop_ok (lp := mX2_readEither_L13 rc 2 (d + 11) (nI x)) (LP := 1) (w := 1) (LT := 2) (x := x) hd (by decide) (by decide) hRc (fun _ _ _ _ _ _ => trivial) (fun f x3 σ i τ hA h17 q1 q2 => by
    have q := sgq1.mp ⟨q1, q2⟩
    have e : sgT τ = 124 := by
      rcases sgv q1 with e | e | e
      · have := e.2.2; rw [q.2] at this; cases this
      · exact e.1
      · omega
    conv => lhs; unfold mX2_readEither_L13
    rw [if_neg (show ¬ (1700 : Int32) ≤ nI x3 from nI_ge (b := 1700) h17 (by omega)), show 2 + 1 = 3 from rfl, show (15 : Int32) = nI 15 from rfl, c_isWord hA (by omega), obs_eq, decide_eq_true q, if_pos rfl, nI_1, e, show lstepC (sto 124) = 4 by decide]) (fun f x3 σ i τ hA h17 q => by
    have q' : ¬ (τ.1 = 1 ∧ wnum τ.2.2.1 = some 15) := fun w => q (sgq1.mpr w)
    unfold mX2_readEither_L13
    rw [if_neg (show ¬ (1700 : Int32) ≤ nI x3 from nI_ge (b := 1700) h17 (by omega)), show 2 + 1 = 3 from rfl, show (15 : Int32) = nI 15 from rfl, c_isWord hA (by omega), obs_eq, decide_eq_false q', if_neg (by simp)]) 1701 FU 0 i' τ' P lr S u' k σ1 ρ' m' (by omega) (by unfold FU; omega) (by omega) g3 (fun o ho => ⟨(g4 o ho).1, by have := (g4 o ho).2; omega⟩) g5 g6 hT hx g1
  exact this
theorem m_both (hd : 12 ≤ d) (hRc : RcW rc T n d 2 4 3 x tcT) (hG : LGw T n i τ d lc lc S u k σ ρ) (hT : Tpw 2 S) (hx : nst S = x) (hb9 : lc.length + nb S ≤ 9 * u + nst S) (ha : 1710 ≤ a + i) (hm : 1710 ≤ m + i) : XOk 2 T n d (i + 1) S (k + 1) σ ρ (RU KLw a m ρ) (mX2_readBoth_b rc 2 (d + 11) (nI x) σ) := by
  unfold mX2_readBoth_b
  refine XOk.step (hRc i τ lc S u k σ ρ a m hG (hT.mono (by omega)) hx hb9 ha hm trivial) (fun σ1 => if_neg (by simp)) (fun i' τ' P lr u' σ1 ρ' m' g1 g2 g3 g4 g5 g6 => ?_)
  rw [if_pos rfl]
  have := loop_ok (lp := mX2_readBoth_L13 rc 2 (d + 11) (nI x)) (LP := 2) (w := 2) (LT := 4) (x := x) hd (by decide) (by decide) hRc (fun _ _ _ _ _ _ => trivial) (fun f x3 σ i τ hA h17 q1 q2 => by
    have q := sgq2.mp ⟨q1, q2⟩
    have e : sgT τ = 38 := by
      rcases sgv q1 with e | e | e
      · exact e.1
      · have := e.2.2; rw [q.2] at this; cases this
      · omega
    conv => lhs; unfold mX2_readBoth_L13
    rw [if_neg (show ¬ (1700 : Int32) ≤ nI x3 from nI_ge (b := 1700) h17 (by omega)), show 2 + 1 = 3 from rfl, show (16 : Int32) = nI 16 from rfl, c_isWord hA (by omega), obs_eq, decide_eq_true q, if_pos rfl, nI_1, e, show lstepC (sto 38) = 3 by decide]) (fun f x3 σ i τ hA h17 q => by
    have q' : ¬ (τ.1 = 1 ∧ wnum τ.2.2.1 = some 16) := fun w => q (sgq2.mpr w)
    unfold mX2_readBoth_L13
    rw [if_neg (show ¬ (1700 : Int32) ≤ nI x3 from nI_ge (b := 1700) h17 (by omega)), show 2 + 1 = 3 from rfl, show (16 : Int32) = nI 16 from rfl, c_isWord hA (by omega), obs_eq, decide_eq_false q', if_neg (by simp)]) 1701 FU 0 i' τ' P lr S u' k σ1 ρ' m' (by omega) (by unfold FU; omega) (by omega) g3 (fun o ho => ⟨(g4 o ho).1, by have := (g4 o ho).2; omega⟩) g5 g6 hT hx g1
  exact this
theorem mn_tight {s : Nat} (h : 4 ≤ tgt s) (h20 : ¬ s = 20) (τ : Tkn) (S : List Nat) (u : Nat) : tcU τ (s :: S) u := by
  intro w
  have : (decide (s = 20) || decide (tgt s < 4)) = true := w.2
  rw [decide_eq_false h20, decide_eq_false (by omega)] at this
  cases this
theorem m_total (hd : 12 ≤ d) (hRc : RcW rc T n d 5 6 6 x tcU) (hG : LGw T n i τ d lc lc S u k σ ρ) (hT : Tpw 5 S) (hx : nst S = x) (hb9 : lc.length + nb S ≤ 9 * u + nst S) (ha : 1710 ≤ a + i) (hm : 1710 ≤ m + i) (htc : tcU τ S u) : XOk 5 T n d (i + 1) S (k + 1) σ ρ (RU KLw a m ρ) (mX2_readTotal_b rc 2 (d + 11) (nI x) σ) := by
  unfold mX2_readTotal_b
  refine XOk.step (hRc i τ lc S u k σ ρ a m hG (hT.mono (by omega)) hx hb9 ha hm htc) (fun σ1 => if_neg (by simp)) (fun i' τ' P lr u' σ1 ρ' m' g1 g2 g3 g4 g5 g6 => ?_)
  rw [if_pos rfl]
  have pick : ∀ (τ : Tkn) (X Y : Option (Bool × St_)), (if decide (τ.1 = 43) = true then X else if decide (τ.1 = 45) = true then X else Y) = if τ.1 = 43 ∨ τ.1 = 45 then X else Y := by
    intro τ X Y
    by_cases q1 : τ.1 = 43
    · rw [decide_eq_true q1, if_pos rfl, if_pos (Or.inl q1)]
    · rw [decide_eq_false q1, if_neg (by simp)]
      by_cases q2 : τ.1 = 45
      · rw [decide_eq_true q2, if_pos rfl, if_pos (Or.inr q2)]
      · rw [decide_eq_false q2, if_neg (by simp), if_neg (by omega)]
  have := loop_ok (lp := mX2_readTotal_L13 rc 2 (d + 11) (nI x)) (LP := 5) (w := 5) (LT := 6) (x := x) hd (by decide) (by decide) hRc (fun s τ S u hs h20 => mn_tight (by omega) h20 τ S u) (fun f x3 σ i τ hA h17 q1 q2 => by
    have q := sgq5.mp ⟨q1, q2⟩
    have h256 := hA.2.2.1.1
    have s1 : mX10_isSign 3 (43 : Int32) σ = some (decide (τ.1 = 43)) := c_isSign (c := 43) hA (by omega) (by omega)
    have s2 : mX10_isSign 3 (45 : Int32) σ = some (decide (τ.1 = 45)) := c_isSign (c := 45) hA (by omega) (by omega)
    conv => lhs; unfold mX2_readTotal_L13
    rw [if_neg (show ¬ (1700 : Int32) ≤ nI x3 from nI_ge (b := 1700) h17 (by omega)), show 2 + 1 = 3 from rfl, s1, s2, c_numS hA (by omega)]
    simp only [bnd_eq, obs_eq]
    rw [pick, if_pos q, nI_1, sgv_c q1 (by omega) h256]) (fun f x3 σ i τ hA h17 q => by
    have q' : ¬ (τ.1 = 43 ∨ τ.1 = 45) := fun w => q (sgq5.mpr w)
    have s1 : mX10_isSign 3 (43 : Int32) σ = some (decide (τ.1 = 43)) := c_isSign (c := 43) hA (by omega) (by omega)
    have s2 : mX10_isSign 3 (45 : Int32) σ = some (decide (τ.1 = 45)) := c_isSign (c := 45) hA (by omega) (by omega)
    unfold mX2_readTotal_L13
    rw [if_neg (show ¬ (1700 : Int32) ≤ nI x3 from nI_ge (b := 1700) h17 (by omega)), show 2 + 1 = 3 from rfl, s1, s2]
    simp only [bnd_eq, obs_eq]
    rw [pick, if_neg q']) 1701 FU 0 i' τ' P lr S u' k σ1 ρ' m' (by omega) (by unfold FU; omega) (by omega) g3 (fun o ho => ⟨(g4 o ho).1, by have := (g4 o ho).2; omega⟩) g5 g6 hT hx g1
  exact this
theorem c_isTimes (hA : AtC T n i τ σ) : mX2_isTimes 2 σ = some (decide (τ.1 = 42 ∨ τ.1 = 47 ∨ τ.1 = 37)) := by
  have s1 : mX10_isSign 3 (42 : Int32) σ = some (decide (τ.1 = 42)) := c_isSign (c := 42) hA (by omega) (by omega)
  have s2 : mX10_isSign 3 (47 : Int32) σ = some (decide (τ.1 = 47)) := c_isSign (c := 47) hA (by omega) (by omega)
  have s3 : mX10_isSign 3 (37 : Int32) σ = some (decide (τ.1 = 37)) := c_isSign (c := 37) hA (by omega) (by omega)
  unfold mX2_isTimes
  rw [show 2 + 1 = 3 from rfl, s1, obs_eq]
  by_cases q1 : τ.1 = 42
  · rw [decide_eq_true q1, if_pos rfl, decide_eq_true (Or.inl q1)]
  · rw [decide_eq_false q1, if_neg (by simp), s2, obs_eq]
    by_cases q2 : τ.1 = 47
    · rw [decide_eq_true q2, if_pos rfl, decide_eq_true (Or.inr (Or.inl q2))]
    · rw [decide_eq_false q2, if_neg (by simp), s3, obs_eq]
      by_cases q3 : τ.1 = 37
      · rw [decide_eq_true q3, if_pos rfl, decide_eq_true (Or.inr (Or.inr q3))]
      · rw [decide_eq_false q3, if_neg (by simp), decide_eq_false (by omega)]
theorem m_term (hd : 12 ≤ d) (hRc : RcW rc T n d 6 7 7 x tcU) (hG : LGw T n i τ d lc lc S u k σ ρ) (hT : Tpw 6 S) (hx : nst S = x) (hb9 : lc.length + nb S ≤ 9 * u + nst S) (ha : 1710 ≤ a + i) (hm : 1710 ≤ m + i) (htc : tcU τ S u) : XOk 6 T n d (i + 1) S (k + 1) σ ρ (RU KLw a m ρ) (mX2_readTerm_b rc 2 (d + 11) (nI x) σ) := by
  unfold mX2_readTerm_b
  refine XOk.step (hRc i τ lc S u k σ ρ a m hG (hT.mono (by omega)) hx hb9 ha hm htc) (fun σ1 => if_neg (by simp)) (fun i' τ' P lr u' σ1 ρ' m' g1 g2 g3 g4 g5 g6 => ?_)
  rw [if_pos rfl]
  have := loop_ok (lp := mX2_readTerm_L13 rc 2 (d + 11) (nI x)) (LP := 6) (w := 6) (LT := 7) (x := x) hd (by decide) (by decide) hRc (fun s τ S u hs h20 => mn_tight (by omega) h20 τ S u) (fun f x3 σ i τ hA h17 q1 q2 => by
    have q := sgq6.mp ⟨q1, q2⟩
    have h256 := hA.2.2.1.1
    conv => lhs; unfold mX2_readTerm_L13
    rw [if_neg (show ¬ (1700 : Int32) ≤ nI x3 from nI_ge (b := 1700) h17 (by omega)), c_isTimes hA, obs_eq, decide_eq_true q, if_pos rfl, show 2 + 1 = 3 from rfl, c_numS hA (by omega), obs_eq, nI_1, sgv_c q1 (by omega) h256]) (fun f x3 σ i τ hA h17 q => by
    have q' : ¬ (τ.1 = 42 ∨ τ.1 = 47 ∨ τ.1 = 37) := fun w => q (sgq6.mpr w)
    unfold mX2_readTerm_L13
    rw [if_neg (show ¬ (1700 : Int32) ≤ nI x3 from nI_ge (b := 1700) h17 (by omega)), c_isTimes hA, obs_eq, decide_eq_false q', if_neg (by simp)]) 1701 FU 0 i' τ' P lr S u' k σ1 ρ' m' (by omega) (by unfold FU; omega) (by omega) g3 (fun o ho => ⟨(g4 o ho).1, by have := (g4 o ho).2; omega⟩) g5 g6 hT hx g1
  exact this
end LAWMETH
