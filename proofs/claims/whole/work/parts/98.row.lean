/-! all TOKENS up to the first that is none, or the end -/
section ROW
variable {σ σ' ρ : St_} {n : Nat} {T : Nat → Nat}
/-- the place behind blanks -/
def skp (T : Nat → Nat) (n p : Nat) : Nat := p + (tk isBl T n (n - p) p).length
theorem skp_le {p : Nat} (h : p ≤ n) : p ≤ skp T n p ∧ skp T n p ≤ n := ⟨by unfold skp; omega, (tkw_len (n - p) p (by omega)).1⟩
def stops (τ : Tkn) : Bool := decide (τ.1 = 0) || decide (τ.1 = 3)
def toks (T : Nat → Nat) (n : Nat) : Nat → Nat → List Tkn
  | 0, _ => []
  | k + 1, p => if stops (lex T n p) = true then [lex T n p] else lex T n p :: toks T n k (skp T n (lex T n p).2.2.2.2)
theorem toks_0 {k p : Nat} : (toks T n (k + 1) p)[0]? = some (lex T n p) := by
  conv => lhs; unfold toks
  by_cases q : stops (lex T n p) = true
  · rw [if_pos q]; rfl
  · rw [if_neg q]; rfl
theorem toks_pos {k p : Nat} (q : stops (lex T n p) = true) : toks T n (k + 1) p = [lex T n p] := by
  conv => lhs; unfold toks
  rw [if_pos q]
theorem toks_neg {k p : Nat} (q : ¬ stops (lex T n p) = true) : toks T n (k + 1) p = lex T n p :: toks T n k (skp T n (lex T n p).2.2.2.2) := by
  conv => lhs; unfold toks
  rw [if_neg q]
/-- one TOKEN behind another -/
theorem toks_step (hb : ∀ i, i < n → T i < 256) : ∀ k p, p ≤ n → n - p < k → ∀ i τ, (toks T n k p)[i]? = some τ → (stops τ = true ∧ i + 1 = (toks T n k p).length) ∨ (stops τ = false ∧ τ.2.2.2.2 ≤ n ∧ (toks T n k p)[i + 1]? = some (lex T n (skp T n τ.2.2.2.2)))
  | 0, p, hp, hk, i, τ, h => by omega
  | k + 1, p, hp, hk, i, τ, h => by
    by_cases q : stops (lex T n p) = true
    · rw [toks_pos q] at h ⊢
      cases i with
      | zero =>
        have e : τ = lex T n p := by simpa using h.symm
        rw [e]
        exact Or.inl ⟨q, rfl⟩
      | succ i => simp at h
    · have qn : p < n := by
        by_cases w : p < n
        · exact w
        · exfalso
          apply q
          unfold stops lex
          rw [if_neg w]
          rfl
      obtain ⟨l1, l2, l3, l4⟩ := lexe_lt hb qn
      have sk := skp_le (T := T) l2
      obtain ⟨k, rfl⟩ : ∃ j, k = j + 1 := ⟨k - 1, by omega⟩
      rw [toks_neg q] at h ⊢
      cases i with
      | zero =>
        have e : τ = lex T n p := by simpa using h.symm
        rw [e]
        refine Or.inr ⟨by simpa using q, l2, ?_⟩
        rw [List.getElem?_cons_succ]
        exact toks_0
      | succ i =>
        rw [List.getElem?_cons_succ] at h ⊢
        rw [List.length_cons]
        rcases toks_step hb (k + 1) (skp T n (lex T n p).2.2.2.2) sk.2 (by omega) i τ h with ⟨a, b⟩ | ⟨a, b, c⟩
        · exact Or.inl ⟨a, by omega⟩
        · exact Or.inr ⟨a, b, c⟩
theorem c_skp (hT : TapC T n σ) {p : Nat} (hp : p ≤ n) : mX10_skipBlanks 3 (nI p) σ = some (nI (skp T n p)) := by
  have h0 := hT.1
  unfold mX10_skipBlanks
  exact c_skip hT (n - p) FU p (by omega) (by unfold FU; omega)
/-- the class' row of TOKENS -/
def RowC (l : List Tkn) (σ : St_) : Prop := σ.1 3 5 = nI (l.length - 1) ∧ ∀ i τ, l[i]? = some τ → TokC τ i σ
theorem c_split_L26 {k83 : St_ → Option St_} (hk83 : ∀ (σ : St_) c, σ.1 3 5 = nI c → c ≤ 1700 → k83 σ = some (sI (sI σ 5 c (σ.1 3 1)) 6 c 0)) : ∀ k m p c (σ : St_), TapC T n σ → p ≤ n → n - p < k → n - p < m → σ.1 3 5 = nI c → c ≤ p → ∃ σ', mX10_split_L26 3 k83 m (nI p) σ = some σ' ∧ σ'.1 3 5 = nI (c + (toks T n k p).length - 1) ∧ 0 < (toks T n k p).length ∧ (∀ i τ, (toks T n k p)[i]? = some τ → TokC τ (c + i) σ') ∧ (∀ e j, ¬ ((e = 3 ∧ j = 5) ∨ ((e = 5 ∨ e = 6) ∧ c ≤ j)) → σ'.1 e j = σ.1 e j) ∧ ∀ e j, ¬ (e = 7 ∧ c ≤ j) → σ'.2 e j = σ.2 e j
  | 0, m, p, c, σ, hT, hp, hk, hm, hc, hcp => by omega
  | k + 1, m, p, c, σ, hT, hp, hk, hm, hc, hcp => by
    have h0 := hT.1
    obtain ⟨m, rfl, -⟩ := fu_suc hm
    unfold mX10_split_L26
    simp only [bnd_eq]
    by_cases qn : p < n
    · obtain ⟨l1, l2, l3, l4⟩ := lexe_lt hT.2.1 qn
      have sk := skp_le (T := T) l2
      obtain ⟨A, a1, a2, a3, a4⟩ := c_readToken hT qn hc (by omega)
      have cA : A.1 3 5 = nI c := by rw [a3 _ _ (by omega)]; exact hc
      have e6 : A.1 6 c = nI (cso (lex T n p)) := a2.2.1
      rw [hT.2.2.1, if_neg (nI_ge qn (by omega)), hc, if_neg (show ¬ (1700 : Int32) ≤ nI c from nI_ge (b := 1700) (by omega) (by omega)), a1, obs_eq, cA, binn (show c < 1701 by omega) (by omega), if_pos rfl, pn_cl (by omega), show 3 + 3 = 6 from rfl, e6, nI_1]
      by_cases q3 : (lex T n p).1 = 3
      · have st : stops (lex T n p) = true := by unfold stops; rw [decide_eq_true q3, Bool.or_true]
        have e1 : cso (lex T n p) = 1 := by unfold cso; rw [if_neg l4, if_pos q3]
        rw [e1, if_pos (show nI 1 = (1 : Int32) from rfl), toks_pos st]
        refine ⟨A, rfl, by rw [cA]; rfl, by simp, fun i τ hi => ?_, fun e j hn => a3 e j (by omega), fun e j hn => a4 e j (by omega)⟩
        cases i with
        | zero =>
          have e : τ = lex T n p := by simpa using hi.symm
          rw [e]; exact a2
        | succ i => simp at hi
      · have st : ¬ stops (lex T n p) = true := by unfold stops; rw [decide_eq_false q3, decide_eq_false l4]; simp
        have e1 : ¬ nI (cso (lex T n p)) = (1 : Int32) := by
          have hb : cso (lex T n p) < 6 ∧ ¬ cso (lex T n p) = 1 := by
            unfold cso
            rw [if_neg l4, if_neg q3]
            by_cases w2 : (lex T n p).1 = 2
            · rw [if_pos w2]; omega
            · rw [if_neg w2]
              by_cases w1 : (lex T n p).1 = 1
              · rw [if_pos w1]
                cases wnum (lex T n p).2.2.1 <;> simp
              · rw [if_neg w1]; omega
          exact fun w => hb.2 ((nI_eq (b := 1) (by omega) (by omega)).mp w)
        rw [if_neg e1]
        generalize hB : sI A 3 5 (nI (c + 1)) = B
        have B0 : ∀ e j, ¬ (e = 3 ∧ j = 5) → B.1 e j = A.1 e j := fun e j q => by rw [← hB, sI_get, if_neg q]
        have B2 : B.2 = A.2 := by rw [← hB]; rfl
        have TB : TapC T n B := hT.fr (fun e j q => by rw [B0 e j (by omega), a3 e j (by omega)])
        rw [c_skp TB l2, obs_eq]
        obtain ⟨C, c1, c2, c3, c4, c5, c6⟩ := c_split_L26 hk83 k m (skp T n (lex T n p).2.2.2.2) (c + 1) B TB sk.2 (by omega) (by omega) (by rw [← hB, sI_get, if_pos ⟨rfl, rfl⟩]) (by omega)
        rw [toks_neg st, List.length_cons]
        refine ⟨C, c1, by rw [c2]; congr 1; omega, by omega, fun i τ hi => ?_, fun e j hn => by rw [c5 e j (by omega), B0 e j (by omega), a3 e j (by omega)], fun e j hn => by rw [c6 e j (by omega), B2, a4 e j (by omega)]⟩
        cases i with
        | zero =>
          have e : τ = lex T n p := by simpa using hi.symm
          rw [e]
          exact a2.fr (fun a q => by rw [c5 a c (by omega), B0 a c (by omega)]) (by rw [c6 7 c (by omega), B2])
        | succ i =>
          rw [List.getElem?_cons_succ] at hi
          have := c4 i τ hi
          rw [show c + (i + 1) = c + 1 + i by omega]
          exact this
    · have pn : p = n := by omega
      have e0 : lex T n p = (0, p, [], 0, p) := by unfold lex; rw [if_neg qn]
      have st : stops (lex T n p) = true := by rw [e0]; rfl
      rw [hT.2.2.1, if_pos (nI_le (by omega) (by omega)), hk83 σ c hc (by omega), hT.2.2.1, toks_pos st, e0]
      refine ⟨_, rfl, by rw [sI_get, if_neg (by omega), sI_get, if_neg (by omega), hc]; rfl, by simp, fun i τ hi => ?_, fun e j hn => by rw [sI_get, if_neg (by omega), sI_get, if_neg (by omega)], fun e j hn => rfl⟩
      cases i with
      | zero =>
        have e : τ = (0, p, [], 0, p) := by simpa using hi.symm
        rw [e]
        refine ⟨?_, ?_, fun w => absurd rfl w⟩
        · rw [sI_get, if_neg (by omega), sI_get, if_pos ⟨rfl, rfl⟩, pn]
        · rw [sI_get, if_pos ⟨rfl, rfl⟩]; rfl
      | succ i => simp at hi
/-- the TOKENS of a TAPE -/
def row (T : Nat → Nat) (n : Nat) : List Tkn := toks T n (n + 1) (skp T n 0)
theorem c_split (hT : TapC T n σ) : ∃ σ', mX10_split 3 σ = some σ' ∧ RowC (row T n) σ' ∧ 0 < (row T n).length ∧ TapC T n σ' ∧ σ'.1 3 6 = 0 ∧ σ'.1 3 7 = 0 ∧ σ'.1 3 8 = -1 ∧ (∀ e j, ¬ ((e = 3 ∧ 5 ≤ j ∧ j ≤ 8) ∨ e = 5 ∨ e = 6) → σ'.1 e j = σ.1 e j) ∧ ∀ e j, ¬ e = 7 → σ'.2 e j = σ.2 e j := by
  generalize hA : sI (sI (sI (sI σ 3 5 0) 3 6 0) 3 7 0) 3 8 (-1) = A
  have A0 : ∀ e j, ¬ (e = 3 ∧ 5 ≤ j ∧ j ≤ 8) → A.1 e j = σ.1 e j := fun e j q => by rw [← hA, sI_get, if_neg (by omega), sI_get, if_neg (by omega), sI_get, if_neg (by omega), sI_get, if_neg (by omega)]
  have A5 : A.1 3 5 = nI 0 := by rw [← hA, sI_get, if_neg (by omega), sI_get, if_neg (by omega), sI_get, if_neg (by omega), sI_get, if_pos ⟨rfl, rfl⟩]; rfl
  have A6 : A.1 3 6 = 0 := by rw [← hA, sI_get, if_neg (by omega), sI_get, if_neg (by omega), sI_get, if_pos ⟨rfl, rfl⟩]
  have A7 : A.1 3 7 = 0 := by rw [← hA, sI_get, if_neg (by omega), sI_get, if_pos ⟨rfl, rfl⟩]
  have A8 : A.1 3 8 = -1 := by rw [← hA, sI_get, if_pos ⟨rfl, rfl⟩]
  have TA : TapC T n A := hT.fr (fun e j q => A0 e j (by omega))
  have h0 := hT.1
  have sk := skp_le (T := T) (n := n) (p := 0) (by omega)
  obtain ⟨B, b1, b2, b3, b4, b5, b6⟩ := c_split_L26 (T := T) (n := n) (k83 := (fun (σ11 : St_) => (if bin (σ11.1 3 5) 1701 = true then (if bin ((sI σ11 (3 + 2) (σ11.1 3 5).toNatClampNeg (σ11.1 3 1)).1 3 5) 1701 = true then (some (sI (sI σ11 (3 + 2) (σ11.1 3 5).toNatClampNeg (σ11.1 3 1)) (3 + 3) ((sI σ11 (3 + 2) (σ11.1 3 5).toNatClampNeg (σ11.1 3 1)).1 3 5).toNatClampNeg (0 : Int32))) else none) else none))) (fun σ c hc hc2 => by
    have e : (sI σ 5 c (σ.1 3 1)).1 3 5 = nI c := by rw [sI_get, if_neg (by omega)]; exact hc
    show (if bin (σ.1 3 5) 1701 = true then (if bin ((sI σ 5 (σ.1 3 5).toNatClampNeg (σ.1 3 1)).1 3 5) 1701 = true then (some (sI (sI σ 5 (σ.1 3 5).toNatClampNeg (σ.1 3 1)) 6 ((sI σ 5 (σ.1 3 5).toNatClampNeg (σ.1 3 1)).1 3 5).toNatClampNeg (0 : Int32))) else none) else none) = _
    rw [hc, binn (show c < 1701 by omega) (by omega), if_pos rfl, pn_cl (by omega), e, binn (show c < 1701 by omega) (by omega), if_pos rfl, pn_cl (by omega)]) (n + 1) FU (skp T n 0) 0 A TA sk.2 (by omega) (by unfold FU; omega) A5 (by omega)
  refine ⟨B, ?_, ⟨by rw [b2]; congr 1; unfold row; omega, fun i τ hi => by have := b4 i τ hi; rwa [Nat.zero_add] at this⟩, b3, TA.fr (fun e j q => b5 e j (by omega)), by rw [b5 _ _ (by omega)]; exact A6, by rw [b5 _ _ (by omega)]; exact A7, by rw [b5 _ _ (by omega)]; exact A8, fun e j hn => by rw [b5 e j (by omega), A0 e j (by omega)], fun e j hn => by rw [b6 e j (by omega), ← hA]; rfl⟩
  have hs := c_skp TA (p := 0) (by omega)
  rw [show nI 0 = (0 : Int32) from rfl] at hs
  unfold mX10_split
  simp only [bnd_eq]
  rw [hA, hs, obs_eq]
  exact b1
end ROW
