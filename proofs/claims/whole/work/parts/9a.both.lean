/-! both at one TOKEN -/
section BOTH
variable {σ σ' ρ ρ' : St_} {n i : Nat} {T : Nat → Nat} {τ : Tkn}
/-- what a TOKEN is -/
def TkO (τ : Tkn) : Prop := τ.1 < 256 ∧ (τ.1 = 1 → lets τ.2.2.1) ∧ (τ.1 = 2 → τ.2.2.2.1 < 10000) ∧ (3 < τ.1 → isS τ.1 = true)
theorem dig_lt : ∀ (l : List Nat) (a : Nat), (∀ d ∈ l, isDg d = true) → l.foldl g10 a < (a + 1) * 10 ^ l.length
  | [], a, _ => by simp
  | d :: l, a, h => by
    rw [List.foldl_cons, List.length_cons]
    have h1 := dig_lt l (g10 a d) (fun d' hd' => h d' (List.mem_cons_of_mem _ hd'))
    have h2 := h d List.mem_cons_self
    unfold isDg at h2
    simp only [Bool.and_eq_true, decide_eq_true_eq] at h2
    have h3 : g10 a d + 1 ≤ (a + 1) * 10 := by unfold g10; omega
    calc l.foldl g10 (g10 a d) < (g10 a d + 1) * 10 ^ l.length := h1
      _ ≤ ((a + 1) * 10) * 10 ^ l.length := Nat.mul_le_mul_right _ h3
      _ = (a + 1) * 10 ^ (l.length + 1) := by rw [Nat.pow_succ, Nat.mul_assoc, Nat.mul_comm 10]
theorem lex_ok (hb : ∀ i, i < n → T i < 256) (p : Nat) : TkO (lex T n p) := by
  unfold lex
  by_cases q : p < n
  · have hc := hb p q
    rw [if_pos q]
    by_cases q1 : isL (T p) = true
    · rw [if_pos q1]
      by_cases q8 : (tk isL T n (n - p) p).length ≤ 8
      · rw [if_pos q8]
        exact ⟨by show 1 < 256; omega, fun _ => ⟨q8, fun c hc => tk_all _ _ c hc⟩, fun w => (by cases w), fun w => absurd w (by show ¬ 3 < 1; omega)⟩
      · rw [if_neg q8]
        exact ⟨by show 3 < 256; omega, fun w => (by cases w), fun w => (by cases w), fun w => absurd w (by show ¬ 3 < 3; omega)⟩
    · rw [if_neg q1]
      by_cases q2 : isDg (T p) = true
      · rw [if_pos q2]
        by_cases q4 : (tk isDg T n (n - p) p).length ≤ 4 ∧ ¬ (p + (tk isDg T n (n - p) p).length < n ∧ isL (T (p + (tk isDg T n (n - p) p).length)) = true)
        · rw [if_pos q4]
          refine ⟨by show 2 < 256; omega, fun w => (by cases w), fun _ => ?_, fun w => absurd w (by show ¬ 3 < 2; omega)⟩
          show (tk isDg T n (n - p) p).foldl g10 0 < 10000
          have b1 := dig_lt (tk isDg T n (n - p) p) 0 (fun d hd => tk_all _ _ d hd)
          have b2 : 10 ^ (tk isDg T n (n - p) p).length ≤ 10 ^ 4 := Nat.pow_le_pow_right (by omega) q4.1
          omega
        · rw [if_neg q4]
          exact ⟨by show 3 < 256; omega, fun w => (by cases w), fun w => (by cases w), fun w => absurd w (by show ¬ 3 < 3; omega)⟩
      · rw [if_neg q2]
        by_cases qs : isS (T p) = true
        · rw [if_pos qs]
          have s3 : 3 < T p := by
            have qs' := qs
            unfold isS at qs'
            simp only [Bool.or_eq_true, decide_eq_true_eq] at qs'
            omega
          exact ⟨hc, fun w => by have w' : T p = 1 := w; omega, fun w => by have w' : T p = 2 := w; omega, fun _ => qs⟩
        · rw [if_neg qs]
          exact ⟨by show 3 < 256; omega, fun w => (by cases w), fun w => (by cases w), fun w => absurd w (by show ¬ 3 < 3; omega)⟩
  · rw [if_neg q]
    exact ⟨by show 0 < 256; omega, fun w => (by cases w), fun w => (by cases w), fun w => absurd w (by show ¬ 3 < 0; omega)⟩
theorem toks_all (hb : ∀ i, i < n → T i < 256) : ∀ (k p i : Nat) (τ : Tkn), (toks T n k p)[i]? = some τ → TkO τ
  | 0, p, i, τ, h => by simp [toks] at h
  | k + 1, p, i, τ, h => by
    by_cases q : stops (lex T n p) = true
    · rw [toks_pos q] at h
      cases i with
      | zero =>
        have e : τ = lex T n p := by simpa using h.symm
        rw [e]; exact lex_ok hb p
      | succ i => simp at h
    · rw [toks_neg q] at h
      cases i with
      | zero =>
        have e : τ = lex T n p := by simpa using h.symm
        rw [e]; exact lex_ok hb p
      | succ i =>
        rw [List.getElem?_cons_succ] at h
        exact toks_all hb k _ i τ h
theorem toks_len : ∀ k p, (toks T n k p).length ≤ k
  | 0, p => by simp [toks]
  | k + 1, p => by
    by_cases q : stops (lex T n p) = true
    · rw [toks_pos q]; simp
    · rw [toks_neg q, List.length_cons]
      have := toks_len k (skp T n (lex T n p).2.2.2.2)
      omega
/-- the row of TOKENS, and no FAULT so far -/
def RowF (T : Nat → Nat) (n : Nat) (σ : St_) : Prop := RowC (row T n) σ ∧ σ.1 3 7 = 0 ∧ σ.1 3 8 = -1
def TapF (T : Nat → Nat) (n : Nat) (ρ : St_) : Prop := TapR T n ρ ∧ ρ.1 233 3 = -1
/-- the class is at TOKEN i -/
def AtC (T : Nat → Nat) (n i : Nat) (τ : Tkn) (σ : St_) : Prop := (row T n)[i]? = some τ ∧ i < 1701 ∧ TkO τ ∧ RowF T n σ ∧ σ.1 3 6 = nI i
theorem AtC.tok (h : AtC T n i τ σ) : TokC τ i σ := h.2.2.2.1.1.2 i τ h.1
theorem AtC.fr (h : AtC T n i τ σ) (e : ∀ a k, (a = 3 ∧ 5 ≤ k ∧ k ≤ 8) ∨ a = 5 ∨ a = 6 → σ'.1 a k = σ.1 a k) (e2 : ∀ k, σ'.2 7 k = σ.2 7 k) : AtC T n i τ σ' := by
  obtain ⟨h1, h2, h3, h4, h5⟩ := h
  exact ⟨h1, h2, h3, ⟨⟨by rw [e _ _ (by omega)]; exact h4.1.1, fun j υ hj => (h4.1.2 j υ hj).fr (fun a q => e a j (by omega)) (e2 j)⟩, by rw [e _ _ (by omega)]; exact h4.2.1, by rw [e _ _ (by omega)]; exact h4.2.2⟩, by rw [e _ _ (by omega)]; exact h5⟩
theorem cso_lt : cso τ < 6 := by
  unfold cso
  by_cases w0 : τ.1 = 0
  · rw [if_pos w0]; omega
  · rw [if_neg w0]
    by_cases w3 : τ.1 = 3
    · rw [if_pos w3]; omega
    · rw [if_neg w3]
      by_cases w2 : τ.1 = 2
      · rw [if_pos w2]; omega
      · rw [if_neg w2]
        by_cases w1 : τ.1 = 1
        · rw [if_pos w1]
          cases wnum τ.2.2.1 <;> simp
        · rw [if_neg w1]; omega
theorem c_isSort (h : AtC T n i τ σ) {s : Nat} (hs : s < 10) : mX10_isSort 3 (nI s) σ = some (decide (cso τ = s)) := by
  have hi := h.2.1
  have hc := cso_lt (τ := τ)
  unfold mX10_isSort
  simp only [bnd_eq]
  rw [h.2.2.2.2, binn hi (by omega), if_pos rfl, pn_cl (by omega), show 3 + 3 = 6 from rfl, h.tok.2.1]
  by_cases q : cso τ = s
  · rw [if_pos (by rw [q]), decide_eq_true q]
  · rw [if_neg (fun w => q ((nI_eq (by omega) (by omega)).mp w)), decide_eq_false q]
theorem c_isWord (h : AtC T n i τ σ) {w : Nat} (hw : w < 25) : mX10_isWord 3 (nI w) σ = some (decide (τ.1 = 1 ∧ wnum τ.2.2.1 = some w)) := by
  have hi := h.2.1
  have hc := cso_lt (τ := τ)
  unfold mX10_isWord
  simp only [bnd_eq]
  rw [h.2.2.2.2, binn hi (by omega), if_pos rfl, pn_cl (by omega), show 3 + 3 = 6 from rfl, h.tok.2.1, if_pos rfl, show 3 + 4 = 7 from rfl]
  by_cases q1 : τ.1 = 1
  · have hv := h.tok.2.2 (by omega) (by omega)
    rw [hv]
    cases hn : wnum τ.2.2.1 with
    | none =>
      have e1 : cso τ = 2 := by unfold cso; rw [if_neg (by omega), if_neg (by omega), if_neg (by omega), if_pos q1, hn]
      rw [e1, if_neg (show ¬ nI 2 = (3 : Int32) by decide), decide_eq_false (fun w => by cases w.2)]
    | some u =>
      have hu := wnum_lt hn
      have e1 : cso τ = 3 := by unfold cso; rw [if_neg (by omega), if_neg (by omega), if_neg (by omega), if_pos q1, hn]
      have e2 : cva τ = lN u := by unfold cva; rw [if_neg (by omega), if_pos q1, hn]
      rw [e1, e2, if_pos (show nI 3 = (3 : Int32) from rfl), nI_l (by omega)]
      by_cases q : u = w
      · rw [if_pos ((lcmp_0 _ _).mpr (by rw [q])), decide_eq_true ⟨q1, by rw [q]⟩]
      · rw [if_neg (fun e => q ((lN_eq (by omega) (by omega)).mp ((lcmp_0 _ _).mp e))), decide_eq_false (fun e => q (by have := e.2; injection this))]
  · have e1 : ¬ cso τ = 3 := by
      unfold cso
      by_cases w0 : τ.1 = 0
      · rw [if_pos w0]; omega
      · rw [if_neg w0]
        by_cases w3 : τ.1 = 3
        · rw [if_pos w3]; omega
        · rw [if_neg w3]
          by_cases w2 : τ.1 = 2
          · rw [if_pos w2]; omega
          · rw [if_neg w2, if_neg q1]; omega
    rw [if_neg (show ¬ nI (cso τ) = (3 : Int32) from fun w => e1 ((nI_eq (b := 3) (by omega) (by omega)).mp w)), decide_eq_false (fun w => q1 w.1)]
theorem c_isSign (h : AtC T n i τ σ) {c : Nat} (hc : 3 < c) (hc2 : c < 256) : mX10_isSign 3 (nI c) σ = some (decide (τ.1 = c)) := by
  have hi := h.2.1
  have hcs := cso_lt (τ := τ)
  have h256 := h.2.2.1.1
  unfold mX10_isSign
  simp only [bnd_eq]
  rw [h.2.2.2.2, binn hi (by omega), if_pos rfl, pn_cl (by omega), show 3 + 3 = 6 from rfl, h.tok.2.1, if_pos rfl, show 3 + 4 = 7 from rfl]
  by_cases q3 : 3 < τ.1
  · have hv := h.tok.2.2 (by omega) (by omega)
    have e1 : cso τ = 5 := by unfold cso; rw [if_neg (by omega), if_neg (by omega), if_neg (by omega), if_neg (by omega)]
    have e2 : cva τ = lN τ.1 := by unfold cva; rw [if_neg (by omega), if_neg (by omega)]
    rw [hv, e1, e2, if_pos (show nI 5 = (5 : Int32) from rfl), nI_l (by omega)]
    by_cases q : τ.1 = c
    · rw [if_pos ((lcmp_0 _ _).mpr (by rw [q])), decide_eq_true q]
    · rw [if_neg (fun e => q ((lN_eq (by omega) (by omega)).mp ((lcmp_0 _ _).mp e))), decide_eq_false q]
  · have e1 : ¬ cso τ = 5 := by
      unfold cso
      by_cases w0 : τ.1 = 0
      · rw [if_pos w0]; omega
      · rw [if_neg w0]
        by_cases w3 : τ.1 = 3
        · rw [if_pos w3]; omega
        · rw [if_neg w3]
          by_cases w2 : τ.1 = 2
          · rw [if_pos w2]; omega
          · rw [if_neg w2, if_pos (by omega)]
            cases wnum τ.2.2.1 <;> simp
    rw [if_neg (show ¬ nI (cso τ) = (5 : Int32) from fun w => e1 ((nI_eq (b := 5) (by omega) (by omega)).mp w)), decide_eq_false (by omega)]
theorem c_fail (h : AtC T n i τ σ) (x : Int32) : mX10_fail 3 x σ = some (false, sI (sI σ 3 7 x) 3 8 (nI τ.2.1)) := by
  have hi := h.2.1
  unfold mX10_fail
  simp only [bnd_eq]
  have g6 : (sI σ 3 7 x).1 3 6 = nI i := by rw [sI_get, if_neg (by omega)]; exact h.2.2.2.2
  have g5 : (sI σ 3 7 x).1 5 i = nI τ.2.1 := by rw [sI_get, if_neg (by omega)]; exact h.tok.1
  rw [g6, binn hi (by omega), if_pos rfl, pn_cl (by omega), show 3 + 2 = 5 from rfl, g5]
theorem c_refuse (h : AtC T n i τ σ) : mX10_refuse 3 σ = some (false, sI (sI σ 3 7 (if τ.1 = 3 then 1 else 2)) 3 8 (nI τ.2.1)) := by
  have hi := h.2.1
  have hcs := cso_lt (τ := τ)
  unfold mX10_refuse
  simp only [bnd_eq]
  rw [h.2.2.2.2, binn hi (by omega), if_pos rfl, pn_cl (by omega), show 3 + 3 = 6 from rfl, h.tok.2.1]
  by_cases q : τ.1 = 3
  · have e1 : cso τ = 1 := by unfold cso; rw [if_neg (by omega), if_pos q]
    rw [e1, if_pos (show nI 1 = (1 : Int32) from rfl), if_pos q, c_fail h, obs_eq]
  · have e1 : ¬ cso τ = 1 := by
      unfold cso
      by_cases w0 : τ.1 = 0
      · rw [if_pos w0]; omega
      · rw [if_neg w0, if_neg q]
        by_cases w2 : τ.1 = 2
        · rw [if_pos w2]; omega
        · rw [if_neg w2]
          by_cases w1 : τ.1 = 1
          · rw [if_pos w1]
            cases wnum τ.2.2.1 <;> simp
          · rw [if_neg w1]; omega
    rw [if_neg (show ¬ nI (cso τ) = (1 : Int32) from fun w => e1 ((nI_eq (b := 1) (by omega) (by omega)).mp w)), if_neg q, c_fail h, obs_eq]
/-- the reference is at that TOKEN -/
def AtR (T : Nat → Nat) (n : Nat) (τ : Tkn) (ρ : St_) : Prop := TkO τ ∧ TapF T n ρ ∧ TokR τ ρ
theorem AtR.fr (h : AtR T n τ ρ) (e : ∀ a k, (a = 233 ∧ 3 ≤ k ∧ k ≤ 8) ∨ a = 234 → ρ'.1 a k = ρ.1 a k) (e2 : ρ'.2 233 9 = ρ.2 233 9) : AtR T n τ ρ' := by
  obtain ⟨h1, h2, h3, h4, h5, h6, h7⟩ := h
  exact ⟨h1, ⟨h2.1.fr (fun a k q => e a k (by omega)), by rw [e _ _ (by omega)]; exact h2.2⟩, by rw [e _ _ (by omega)]; exact h3, by rw [e _ _ (by omega)]; exact h4, fun w => by rw [e2]; exact h5 w, fun w => by rw [e _ _ (by omega)]; exact h6 w, by rw [e _ _ (by omega)]; exact h7⟩
theorem r_isWord (h : AtR T n τ ρ) {w : Nat} (hw : w < 25) : mX12_isWord 233 (rw6 w) ρ = some (decide (τ.1 = 1 ∧ wnum τ.2.2.1 = some w)) := by
  obtain ⟨h1, h2, h3, h4, h5, h6, h7⟩ := h
  unfold mX12_isWord
  rw [h3]
  by_cases q1 : τ.1 = 1
  · rw [if_pos (show nI τ.1 = (1 : Int32) by rw [q1]; rfl), h5 q1]
    by_cases q : wnum τ.2.2.1 = some w
    · rw [if_pos ((lcmp_0 _ _).mpr ((rw6_iff (h1.2.1 q1) hw).mpr q)), decide_eq_true ⟨q1, q⟩]
    · rw [if_neg (fun e => q ((rw6_iff (h1.2.1 q1) hw).mp ((lcmp_0 _ _).mp e))), decide_eq_false (fun e => q e.2)]
  · rw [if_neg (show ¬ nI τ.1 = (1 : Int32) from fun w => q1 ((nI_eq (b := 1) (by have := h1.1; omega) (by omega)).mp w)), decide_eq_false (fun e => q1 e.1)]
theorem r_wrong (h : AtR T n τ ρ) (h0 : ρ.1 233 2 = 0) (x : Int32) : mX12_wrong 233 x ρ = some (sI (sI ρ 233 2 (if τ.1 = 3 then 1 else x)) 233 3 (nI τ.2.1)) := by
  obtain ⟨h1, h2, h3, h4, h5, h6, h7⟩ := h
  unfold mX12_wrong
  simp only [bnd_eq]
  rw [h0, if_pos (show (0 : Int32) ≤ 0 by decide), h3]
  by_cases q : τ.1 = 3
  · rw [if_pos (show nI τ.1 = (3 : Int32) by rw [q]; rfl), if_pos q]
    have g7 : (sI ρ 233 2 1).1 233 7 = nI τ.2.1 := by rw [sI_get, if_neg (by omega)]; exact h4
    rw [g7]
  · rw [if_neg (show ¬ nI τ.1 = (3 : Int32) from fun w => q ((nI_eq (b := 3) (by have := h1.1; omega) (by omega)).mp w)), if_neg q]
    have g7 : (sI ρ 233 2 x).1 233 7 = nI τ.2.1 := by rw [sI_get, if_neg (by omega)]; exact h4
    rw [g7]
/-- one TOKEN on, both -/
theorem next_both (hc : AtC T n i τ σ) (hr : AtR T n τ ρ) (hs : stops τ = false) : ∃ τ' ρ', mX10_next 3 σ = some (sI σ 3 6 (nI (i + 1))) ∧ mX12_token 233 ρ = some ρ' ∧ AtC T n (i + 1) τ' (sI σ 3 6 (nI (i + 1))) ∧ AtR T n τ' ρ' ∧ TkF ρ ρ' := by
  obtain ⟨c1, c2, c3, c4, c5⟩ := id hc
  obtain ⟨h1, h2, h3, h4, h5, h6, h7⟩ := id hr
  have hn := h2.1.1
  have sk := skp_le (T := T) (n := n) (p := 0) (by omega)
  rcases toks_step h2.1.2.1 (n + 1) (skp T n 0) sk.2 (by omega) i τ c1 with ⟨a, -⟩ | ⟨-, a, b⟩
  · rw [hs] at a; cases a
  · have hl := toks_len (T := T) (n := n) (n + 1) (skp T n 0)
    have il := (List.getElem?_eq_some_iff.mp b).1
    have q3 : ¬ τ.1 = 3 := fun w => by unfold stops at hs; rw [decide_eq_true w, Bool.or_true] at hs; cases hs
    rw [if_neg q3] at h7
    obtain ⟨ρ', t1, t2, t3⟩ := r_token h2.1 h7 a
    have tk' := toks_all h2.1.2.1 (n + 1) (skp T n 0) (i + 1) _ b
    have rl : (row T n).length = (toks T n (n + 1) (skp T n 0)).length := rfl
    refine ⟨lex T n (skp T n τ.2.2.2.2), ρ', ?_, t1, ⟨b, by omega, tk', ⟨⟨by rw [sI_get, if_neg (by omega)]; exact c4.1.1, fun j υ hj => (c4.1.2 j υ hj).fr (fun a q => by rw [sI_get, if_neg (by omega)]) rfl⟩, by rw [sI_get, if_neg (by omega)]; exact c4.2.1, by rw [sI_get, if_neg (by omega)]; exact c4.2.2⟩, by rw [sI_get, if_pos ⟨rfl, rfl⟩]⟩, ⟨tk', ⟨h2.1.fr (fun a k q => t3.1 a k (by omega)), by rw [t3.1 _ _ (by omega)]; exact h2.2⟩, t2⟩, t3⟩
    unfold mX10_next
    rw [c4.1.1, c5, if_neg (nI_ge (by omega) (by omega)), nI_1, bnd_eq]
end BOTH
