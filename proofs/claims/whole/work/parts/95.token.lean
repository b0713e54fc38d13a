/-! a TOKEN, the reference -/
section TOKEN
variable {σ σ' ρ : St_} {n : Nat} {T : Nat → Nat}
def isS (c : Nat) : Bool := decide (c = 59) || (decide (c = 40) || (decide (c = 41) || (decide (c = 60) || (decide (c = 62) || (decide (c = 61) || (decide (c = 43) || (decide (c = 45) || (decide (c = 42) || (decide (c = 47) || decide (c = 37))))))))))
/-- sort (0 end, 1 word, 2 number, 3 none, else the sign), place, letters, number, the place behind -/
abbrev Tkn : Type := Nat × Nat × List Nat × Nat × Nat
def lex (T : Nat → Nat) (n p : Nat) : Tkn :=
  if p < n then
    if isL (T p) = true then (if (tk isL T n (n - p) p).length ≤ 8 then 1 else 3, p, tk isL T n (n - p) p, 0, p + (tk isL T n (n - p) p).length)
    else if isDg (T p) = true then (if (tk isDg T n (n - p) p).length ≤ 4 ∧ ¬ (p + (tk isDg T n (n - p) p).length < n ∧ isL (T (p + (tk isDg T n (n - p) p).length)) = true) then 2 else 3, p, [], (tk isDg T n (n - p) p).foldl g10 0, p + (tk isDg T n (n - p) p).length)
    else (if isS (T p) = true then T p else 3, p, [], 0, p + 1)
  else (0, p, [], 0, p)
def TokR (τ : Tkn) (ρ : St_) : Prop := ρ.1 233 6 = nI τ.1 ∧ ρ.1 233 7 = nI τ.2.1 ∧ (τ.1 = 1 → ρ.2 233 9 = lN (τ.2.2.1.foldl g256 0)) ∧ (τ.1 = 2 → ρ.1 233 8 = nI τ.2.2.2.1) ∧ ρ.1 233 4 = nI (if τ.1 = 3 then τ.2.1 else τ.2.2.2.2)
/-- what a TOKEN's reading leaves alone -/
def TkF (ρ ρ' : St_) : Prop := (∀ e j, ¬ (e = 233 ∧ (j = 4 ∨ j = 6 ∨ j = 7 ∨ j = 8)) → ρ'.1 e j = ρ.1 e j) ∧ ∀ e j, ¬ (e = 233 ∧ j = 9) → ρ'.2 e j = ρ.2 e j
def TokG (τ : Tkn) (ρ : St_) (o : Option St_) : Prop := ∃ ρ', o = some ρ' ∧ TokR τ ρ' ∧ TkF ρ ρ'
theorem r_isS {c : Nat} (h : c < 256) : mX12_isSign (nI c) σ = some (isS c) := by
  have e : ∀ k : Nat, k < 256 → (nI c = nI k ↔ c = k) := fun k hk => nI_eq (by omega) (by omega)
  have st : ∀ (k : Nat) (o : Option Bool) (b : Bool), k < 256 → o = some b → (if nI c = nI k then some true else o) = some (decide (c = k) || b) := fun k o b hk ho => by
    by_cases q : c = k
    · rw [if_pos ((e k hk).mpr q), decide_eq_true q, Bool.true_or]
    · rw [if_neg (fun w => q ((e k hk).mp w)), decide_eq_false q, Bool.false_or, ho]
  unfold mX12_isSign isS
  refine st 59 _ _ (by omega) (st 40 _ _ (by omega) (st 41 _ _ (by omega) (st 60 _ _ (by omega) (st 62 _ _ (by omega) (st 61 _ _ (by omega) (st 43 _ _ (by omega) (st 45 _ _ (by omega) (st 42 _ _ (by omega) (st 47 _ _ (by omega) ?_)))))))))
  have := st 37 (some false) false (by omega) rfl
  rw [Bool.or_false] at this
  exact this
theorem r_skip_c (Q : Option St_ → Prop) {k33 : St_ → Option St_} {k m a : Nat} (hT : TapR T n ρ) (ha : ρ.1 233 4 = nI a) (hk : a + k = n) (hm : k < m) (h : ∀ ρ', ρ'.1 233 4 = nI (a + (tk isBl T n k a).length) → (∀ e j, ¬ (e = 233 ∧ j = 4) → ρ'.1 e j = ρ.1 e j) → ρ'.2 = ρ.2 → Q (k33 ρ')) : Q (mX12_token_L0 233 k33 m ρ) := by
  obtain ⟨ρ', e1, e2, e3, e4⟩ := r_skip (k33 := k33) k m a ρ hT ha hk hm
  rw [e1]
  exact h ρ' e2 e3 e4
theorem r_word_c (Q : Option St_ → Prop) {k119 : Int32 → St_ → Option St_} {k m a : Nat} (hT : TapR T n ρ) (ha : ρ.1 233 4 = nI a) (hw : ρ.2 233 9 = 0) (hk : a + k = n) (hm : k < m) (h : ∀ ρ', ρ'.1 = ρ.1 → ((tk isL T n k a).length ≤ 8 → ρ'.2 233 9 = lN ((tk isL T n k a).foldl g256 0)) → (∀ e j, ¬ (e = 233 ∧ j = 9) → ρ'.2 e j = ρ.2 e j) → Q (k119 (nI (tk isL T n k a).length) ρ')) : Q (mX12_token_L78 233 k119 m 0 ρ) := by
  obtain ⟨ρ', e1, e2, e3, e4⟩ := r_word_L78 (k119 := k119) k m 0 0 ρ hT ha (fun _ => hw) (by omega) hm
  rw [show nI 0 = (0 : Int32) from rfl] at e1
  rw [e1]
  simp only [Nat.zero_add, Nat.add_zero] at e3 ⊢
  exact h ρ' e2 e3 e4
theorem r_dig_c (Q : Option St_ → Prop) {k186 : Int32 → St_ → Option St_} {k m a : Nat} (hT : TapR T n ρ) (ha : ρ.1 233 4 = nI a) (hw : ρ.1 233 8 = 0) (hk : a + k = n) (hm : k < m) (h : ∀ ρ', ρ'.2 = ρ.2 → ((tk isDg T n k a).length ≤ 4 → ρ'.1 233 8 = nI ((tk isDg T n k a).foldl g10 0)) → (∀ e j, ¬ (e = 233 ∧ j = 8) → ρ'.1 e j = ρ.1 e j) → Q (k186 (nI (tk isDg T n k a).length) ρ')) : Q (mX12_token_L144 233 k186 m 0 ρ) := by
  obtain ⟨ρ', e1, e2, e3, e4⟩ := r_dig_L144 (k186 := k186) k m 0 0 ρ hT ha (fun _ => hw) (by omega) hm
  rw [show nI 0 = (0 : Int32) from rfl] at e1
  rw [e1]
  simp only [Nat.zero_add, Nat.add_zero] at e3 ⊢
  exact h ρ' e2 e3 e4
/-- how a TOKEN ends: the sort, then the place behind it -/
theorem r_tok_end {τ : Tkn} {A : St_} (h7 : A.1 233 7 = nI τ.2.1) (h4 : A.1 233 4 = nI τ.2.1) (h1 : τ.1 = 1 → A.2 233 9 = lN (τ.2.2.1.foldl g256 0)) (h2 : τ.1 = 2 → A.1 233 8 = nI τ.2.2.2.1) (hF : TkF ρ A) (hs : τ.1 < 256) {j : Nat} (hj : τ.2.1 + j = τ.2.2.2.2) {x : Int32} (hx : x = nI τ.1) {y : Int32} (hy : y = nI j) : TokG τ ρ (if ((sI A 233 6 x).1 233 6) = (3 : Int32) then some (sI A 233 6 x) else some (sI (sI A 233 6 x) 233 4 (((sI A 233 6 x).1 233 4) + y))) := by
  subst hx
  subst hy
  have g6 : (sI A 233 6 (nI τ.1)).1 233 6 = nI τ.1 := by rw [sI_get, if_pos ⟨rfl, rfl⟩]
  have g4 : (sI A 233 6 (nI τ.1)).1 233 4 = nI τ.2.1 := by rw [sI_get, if_neg (by omega)]; exact h4
  rw [g6, g4, nI_add, hj]
  by_cases q : τ.1 = 3
  · rw [if_pos (show nI τ.1 = (3 : Int32) by rw [q]; rfl)]
    refine ⟨_, rfl, ⟨g6, by rw [sI_get, if_neg (by omega)]; exact h7, h1, fun w => by omega, by rw [g4, if_pos q]⟩, fun e j hn => by rw [sI_get, if_neg (by omega)]; exact hF.1 e j hn, fun e j hn => hF.2 e j hn⟩
  · rw [if_neg (show ¬ nI τ.1 = (3 : Int32) from fun w => q ((nI_eq (b := 3) (by omega) (by omega)).mp w))]
    refine ⟨_, rfl, ⟨by rw [sI_get, if_neg (by omega)]; exact g6, by rw [sI_get, if_neg (by omega), sI_get, if_neg (by omega)]; exact h7, h1, fun w => by rw [sI_get, if_neg (by omega), sI_get, if_neg (by omega)]; exact h2 w, by rw [sI_get, if_pos ⟨rfl, rfl⟩, if_neg q]⟩, fun e j hn => by rw [sI_get, if_neg (by omega), sI_get, if_neg (by omega)]; exact hF.1 e j hn, fun e j hn => hF.2 e j hn⟩
theorem r_token {a : Nat} (hT : TapR T n ρ) (ha : ρ.1 233 4 = nI a) (han : a ≤ n) : TokG (lex T n (a + (tk isBl T n (n - a) a).length)) ρ (mX12_token 233 ρ) := by
  have h0 := hT.1
  unfold mX12_token
  refine r_skip_c (TokG (lex T n (a + (tk isBl T n (n - a) a).length)) ρ) hT ha (k := n - a) (by omega) (by unfold FU; omega) (fun A a1 a2 a3 => ?_)
  have hl := (tkw_len (p := isBl) (T := T) (n := n) (n - a) a (by omega)).1
  generalize a + (tk isBl T n (n - a) a).length = p at *
  simp only [bnd_eq]
  generalize hB : sI (sL (sI A 233 7 (A.1 233 4)) 233 9 0) 233 8 0 = B
  have FB : TkF ρ B := ⟨fun e j hn => by rw [← hB, sI_get, if_neg (by omega), sL_1, sI_get, if_neg (by omega), a2 e j (by omega)], fun e j hn => by rw [← hB, sI_2, sL_get, if_neg hn, sI_2, a3]⟩
  have B7 : B.1 233 7 = nI p := by rw [← hB, sI_get, if_neg (by omega), sL_1, sI_get, if_pos ⟨rfl, rfl⟩, a1]
  have B4 : B.1 233 4 = nI p := by rw [← hB, sI_get, if_neg (by omega), sL_1, sI_get, if_neg (by omega), a1]
  have B8 : B.1 233 8 = 0 := by rw [← hB, sI_get, if_pos ⟨rfl, rfl⟩]
  have B9 : B.2 233 9 = 0 := by rw [← hB, sI_2, sL_get, if_pos ⟨rfl, rfl⟩]
  have TA : TapR T n (sI A 233 7 (A.1 233 4)) := hT.fr (fun e j q => by rw [sI_get, if_neg (by omega), a2 e j (by omega)])
  have TB : TapR T n B := hT.fr (fun e j q => FB.1 e j (by omega))
  have hh := r_here TA (a := p) (k := 0) (by rw [sI_get, if_neg (by omega)]; exact a1) (by omega)
  rw [show nI 0 = (0 : Int32) from rfl, Nat.add_zero] at hh
  rw [hh, obs_eq]
  unfold lex
  by_cases q : p < n
  · have hc := hT.2.1 p q
    rw [if_pos q, if_pos q, if_pos (nI_pos' (by omega)), r_isL hc, obs_eq]
    cases qL : isL (T p)
    · rw [if_neg (show ¬ false = true by simp), if_neg (show ¬ false = true by simp), r_isDg hc, obs_eq]
      cases qD : isDg (T p)
      · rw [if_neg (show ¬ false = true by simp), if_neg (show ¬ false = true by simp), r_isS hc, obs_eq]
        cases qS : isS (T p)
        · rw [if_neg (show ¬ false = true by simp), if_neg (show ¬ false = true by simp)]
          exact r_tok_end (τ := (3, p, [], 0, p + 1)) B7 B4 (fun w => by cases w) (fun w => by cases w) FB (by show 3 < 256; omega) (j := 1) rfl rfl rfl
        · rw [if_pos (show true = true from rfl), if_pos (show true = true from rfl)]
          have s3 : 3 < T p := by
            unfold isS at qS
            simp only [Bool.or_eq_true, decide_eq_true_eq] at qS
            omega
          exact r_tok_end (τ := (T p, p, [], 0, p + 1)) B7 B4 (fun w => by have w' : T p = 1 := w; omega) (fun w => by have w' : T p = 2 := w; omega) FB hc (j := 1) rfl rfl rfl
      · rw [if_pos (show true = true from rfl), if_pos (show true = true from rfl)]
        refine r_dig_c _ TB B4 B8 (k := n - p) (by omega) (by unfold FU; omega) (fun C c1 c2 c3 => ?_)
        have hl2 := (tkw_len (p := isDg) (T := T) (n := n) (n - p) p (by omega)).1
        generalize hD : tk isDg T n (n - p) p = D at *
        have FC : TkF ρ C := ⟨fun e j hn => by rw [c3 e j (by omega)]; exact FB.1 e j hn, fun e j hn => by rw [c1]; exact FB.2 e j hn⟩
        have C7 : C.1 233 7 = nI p := by rw [c3 _ _ (by omega)]; exact B7
        have C4 : C.1 233 4 = nI p := by rw [c3 _ _ (by omega)]; exact B4
        have TC' : TapR T n C := hT.fr (fun e j q => FC.1 e j (by omega))
        have hh2 := r_here TC' (a := p) (k := D.length) C4 (by omega)
        by_cases q4 : D.length ≤ 4
        · rw [if_neg (show ¬ (4 : Int32) < nI D.length from nI_nlt (a := 4) q4 (by omega)), hh2, obs_eq]
          by_cases qb : p + D.length < n
          · rw [if_pos qb, r_isL (hT.2.1 _ qb), obs_eq]
            cases qc : isL (T (p + D.length))
            · rw [if_neg (show ¬ false = true by simp), if_pos ⟨q4, fun w => by cases w.2⟩]
              exact r_tok_end (τ := (2, p, [], D.foldl g10 0, p + D.length)) C7 C4 (fun w => by cases w) (fun _ => c2 q4) FC (by show 2 < 256; omega) rfl rfl rfl
            · rw [if_pos (show true = true from rfl), if_neg (fun w => w.2 ⟨qb, rfl⟩)]
              exact r_tok_end (τ := (3, p, [], D.foldl g10 0, p + D.length)) C7 C4 (fun w => by cases w) (fun w => by cases w) FC (by show 3 < 256; omega) rfl rfl rfl
          · rw [if_neg qb, r_isL0, obs_eq, if_neg (show ¬ false = true by simp), if_pos ⟨q4, fun w => qb w.1⟩]
            exact r_tok_end (τ := (2, p, [], D.foldl g10 0, p + D.length)) C7 C4 (fun w => by cases w) (fun _ => c2 q4) FC (by show 2 < 256; omega) rfl rfl rfl
        · rw [if_pos (show (4 : Int32) < nI D.length from nI_lt (a := 4) (by omega) (by omega)), if_neg (fun w => q4 w.1)]
          exact r_tok_end (τ := (3, p, [], D.foldl g10 0, p + D.length)) C7 C4 (fun w => by cases w) (fun w => by cases w) FC (by show 3 < 256; omega) rfl rfl rfl
    · rw [if_pos (show true = true from rfl), if_pos (show true = true from rfl)]
      refine r_word_c _ TB B4 B9 (k := n - p) (by omega) (by unfold FU; omega) (fun C c1 c2 c3 => ?_)
      have hl2 := (tkw_len (p := isL) (T := T) (n := n) (n - p) p (by omega)).1
      generalize hD : tk isL T n (n - p) p = D at *
      have FC : TkF ρ C := ⟨fun e j hn => by rw [c1]; exact FB.1 e j hn, fun e j hn => by rw [c3 e j hn]; exact FB.2 e j hn⟩
      have C7 : C.1 233 7 = nI p := by rw [c1]; exact B7
      have C4 : C.1 233 4 = nI p := by rw [c1]; exact B4
      by_cases q4 : D.length ≤ 8
      · rw [if_pos (show nI D.length ≤ (8 : Int32) from nI_le (b := 8) q4 (by omega)), if_pos q4]
        exact r_tok_end (τ := (1, p, D, 0, p + D.length)) C7 C4 (fun _ => c2 q4) (fun w => by cases w) FC (by show 1 < 256; omega) rfl rfl rfl
      · rw [if_neg (show ¬ nI D.length ≤ (8 : Int32) from nI_ge (a := 8) (by omega) (by omega)), if_neg q4]
        exact r_tok_end (τ := (3, p, D, 0, p + D.length)) C7 C4 (fun w => by cases w) (fun w => by cases w) FC (by show 3 < 256; omega) rfl rfl rfl
  · rw [if_neg q, if_neg q, if_neg (show ¬ (0 : Int32) ≤ -1 by decide)]
    exact r_tok_end (τ := (0, p, [], 0, p)) B7 B4 (fun w => by cases w) (fun w => by cases w) FB (by show 0 < 256; omega) (j := 0) rfl rfl rfl
end TOKEN
