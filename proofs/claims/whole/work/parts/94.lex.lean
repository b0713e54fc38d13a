/-! the signs of the TAPE: blanks, letters, digits, both sides -/
section LEX
variable {σ σ' ρ : St_} {n : Nat} {T : Nat → Nat}
def isL (c : Nat) : Bool := decide (97 ≤ c) && decide (c ≤ 122)
def isDg (c : Nat) : Bool := decide (48 ≤ c) && decide (c ≤ 57)
def isBl (c : Nat) : Bool := decide (c = 32) || decide (c = 10)
/-- the signs from a place on that are so, one behind the other -/
def tk (p : Nat → Bool) (T : Nat → Nat) (n : Nat) : Nat → Nat → List Nat
  | 0, _ => []
  | k + 1, i => if i < n ∧ p (T i) = true then T i :: tk p T n k (i + 1) else []
theorem tk_pos {p : Nat → Bool} {k i : Nat} (h1 : i < n) (h2 : p (T i) = true) : tk p T n (k + 1) i = T i :: tk p T n k (i + 1) := by
  conv => lhs; unfold tk
  rw [if_pos ⟨h1, h2⟩]
theorem tk_neg {p : Nat → Bool} {k i : Nat} (h : ¬ (i < n ∧ p (T i) = true)) : tk p T n (k + 1) i = [] := by
  conv => lhs; unfold tk
  rw [if_neg h]
theorem tk_all {p : Nat → Bool} : ∀ k i c, c ∈ tk p T n k i → p c = true
  | 0, i, c, h => by simp [tk] at h
  | k + 1, i, c, h => by
    by_cases q : i < n ∧ p (T i) = true
    · rw [tk_pos q.1 q.2, List.mem_cons] at h
      rcases h with h | h
      · rw [h]; exact q.2
      · exact tk_all k (i + 1) c h
    · rw [tk_neg q] at h
      simp at h
theorem tkw_len {p : Nat → Bool} : ∀ k i, i + k = n → i + (tk p T n k i).length ≤ n ∧ ¬ (i + (tk p T n k i).length < n ∧ p (T (i + (tk p T n k i).length)) = true)
  | 0, i, h => by simp [tk]; omega
  | k + 1, i, h => by
    by_cases q : i < n ∧ p (T i) = true
    · obtain ⟨a, b⟩ := tkw_len (p := p) k (i + 1) (by omega)
      rw [tk_pos q.1 q.2, List.length_cons, show i + ((tk p T n k (i + 1)).length + 1) = i + 1 + (tk p T n k (i + 1)).length by omega]
      exact ⟨a, b⟩
    · rw [tk_neg q]
      exact ⟨by simp; omega, q⟩
def TapC (T : Nat → Nat) (n : Nat) (σ : St_) : Prop := n ≤ 1700 ∧ (∀ i, i < n → T i < 256) ∧ σ.1 3 1 = nI n ∧ ∀ i, i < n → σ.1 4 i = nI (T i)
def TapR (T : Nat → Nat) (n : Nat) (σ : St_) : Prop := n ≤ 1700 ∧ (∀ i, i < n → T i < 256) ∧ σ.1 233 5 = nI n ∧ ∀ i, i < n → σ.1 234 i = nI (T i)
theorem TapC.fr (h : TapC T n σ) (e : ∀ a k, (a = 3 ∧ k = 1) ∨ a = 4 → σ'.1 a k = σ.1 a k) : TapC T n σ' := ⟨h.1, h.2.1, by rw [e _ _ (by omega)]; exact h.2.2.1, fun i hi => by rw [e _ _ (by omega)]; exact h.2.2.2 i hi⟩
theorem TapR.fr (h : TapR T n σ) (e : ∀ a k, (a = 233 ∧ k = 5) ∨ a = 234 → σ'.1 a k = σ.1 a k) : TapR T n σ' := ⟨h.1, h.2.1, by rw [e _ _ (by omega)]; exact h.2.2.1, fun i hi => by rw [e _ _ (by omega)]; exact h.2.2.2 i hi⟩
theorem c_isL {c : Nat} (h : c < 256) : mX10_isLetter (nI c) σ = some (isL c) := by
  unfold mX10_isLetter isL
  by_cases q1 : c < 97
  · rw [if_pos (show nI c < (97 : Int32) from nI_lt (b := 97) q1 (by omega)), decide_eq_false (by omega)]; rfl
  · rw [if_neg (show ¬ nI c < (97 : Int32) from nI_nlt (b := 97) (by omega) (by omega)), decide_eq_true (by omega)]
    by_cases q2 : 122 < c
    · rw [if_pos (show (122 : Int32) < nI c from nI_lt (a := 122) q2 (by omega)), decide_eq_false (by omega)]; rfl
    · rw [if_neg (show ¬ (122 : Int32) < nI c from nI_nlt (a := 122) (by omega) (by omega)), decide_eq_true (by omega)]; rfl
theorem c_isDg {c : Nat} (h : c < 256) : mX10_isDigit (nI c) σ = some (isDg c) := by
  unfold mX10_isDigit isDg
  by_cases q1 : c < 48
  · rw [if_pos (show nI c < (48 : Int32) from nI_lt (b := 48) q1 (by omega)), decide_eq_false (by omega)]; rfl
  · rw [if_neg (show ¬ nI c < (48 : Int32) from nI_nlt (b := 48) (by omega) (by omega)), decide_eq_true (by omega)]
    by_cases q2 : 57 < c
    · rw [if_pos (show (57 : Int32) < nI c from nI_lt (a := 57) q2 (by omega)), decide_eq_false (by omega)]; rfl
    · rw [if_neg (show ¬ (57 : Int32) < nI c from nI_nlt (a := 57) (by omega) (by omega)), decide_eq_true (by omega)]; rfl
theorem r_isL {c : Nat} (h : c < 256) : mX12_isLetter (nI c) σ = some (isL c) := c_isL (σ := σ) h
theorem r_isDg {c : Nat} (h : c < 256) : mX12_isDigit (nI c) σ = some (isDg c) := c_isDg (σ := σ) h
theorem r_isL0 : mX12_isLetter (-1) σ = some false := rfl
theorem r_isDg0 : mX12_isDigit (-1) σ = some false := rfl
theorem c_skip (hT : TapC T n σ) : ∀ k m i, i + k = n → k < m → mX10_skipBlanks_L2 3 σ m (nI i) = some (nI (i + (tk isBl T n k i).length))
  | 0, m, i, hi, hm => by
    have h0 := hT.1
    obtain ⟨m, rfl, -⟩ := fu_suc hm
    unfold mX10_skipBlanks_L2
    rw [hT.2.2.1, if_pos (nI_le (by omega) (by omega))]
    rfl
  | k + 1, m, i, hi, hm => by
    have h0 := hT.1
    obtain ⟨m, rfl, hm⟩ := fu_suc hm
    have ih := c_skip hT k m (i + 1) (by omega) (by omega)
    have hc := hT.2.1 i (by omega)
    unfold mX10_skipBlanks_L2
    simp only [bnd_eq]
    rw [hT.2.2.1, if_neg (nI_ge (by omega) (by omega)), binn (show i < 1700 by omega) (by omega), if_pos rfl, if_pos rfl, pn_cl (by omega), show 3 + 1 = 4 from rfl, hT.2.2.2 i (by omega), nI_1, ih]
    by_cases q1 : T i = 32
    · rw [if_pos (show nI (T i) = (32 : Int32) by rw [q1]; rfl), tk_pos (by omega) (by unfold isBl; rw [q1]; rfl), List.length_cons]
      congr 2; omega
    · rw [if_neg (show ¬ nI (T i) = (32 : Int32) from fun e => q1 ((nI_eq (b := 32) (by omega) (by omega)).mp e))]
      by_cases q2 : T i = 10
      · rw [if_pos (show nI (T i) = (10 : Int32) by rw [q2]; rfl), tk_pos (by omega) (by unfold isBl; rw [q2]; rfl), List.length_cons]
        congr 2; omega
      · rw [if_neg (show ¬ nI (T i) = (10 : Int32) from fun e => q2 ((nI_eq (b := 10) (by omega) (by omega)).mp e)), tk_neg (fun e => by
          have := e.2
          unfold isBl at this
          rw [decide_eq_false q1, decide_eq_false q2] at this
          cases this)]
        rfl
def g27 (a c : Nat) : Nat := a * 27 + (c - 96)
def g10 (a c : Nat) : Nat := a * 10 + (c - 48)
def g256 (a c : Nat) : Nat := a * 256 + c
theorem c_word_L4 (hT : TapC T n σ) {x1 : Int32} {k50 : Int32 → Int64 → Option (Int32 × St_)} : ∀ k m i a, i + k = n → k < m → mX10_readWord_L4 3 σ x1 k50 m (nI i) (lN a) = k50 (nI (i + (tk isL T n k i).length)) (lN ((tk isL T n k i).foldl g27 a))
  | 0, m, i, a, hi, hm => by
    have h0 := hT.1
    obtain ⟨m, rfl, -⟩ := fu_suc hm
    unfold mX10_readWord_L4
    rw [hT.2.2.1, if_pos (nI_le (by omega) (by omega))]
    rfl
  | k + 1, m, i, a, hi, hm => by
    have h0 := hT.1
    obtain ⟨m, rfl, hm⟩ := fu_suc hm
    have hc := hT.2.1 i (by omega)
    unfold mX10_readWord_L4
    simp only [bnd_eq]
    rw [hT.2.2.1, if_neg (nI_ge (by omega) (by omega)), binn (show i < 1700 by omega) (by omega), if_pos rfl, if_pos rfl, pn_cl (by omega), show 3 + 1 = 4 from rfl, hT.2.2.2 i (by omega), c_isL hc, obs_eq, nI_1]
    cases q : isL (T i)
    · rw [if_neg (by simp), tk_neg (fun e => by rw [q] at e; cases e.2)]
      rfl
    · have q' := q
      unfold isL at q'
      simp only [Bool.and_eq_true, decide_eq_true_eq] at q'
      have e : lN a * (27 : Int64) + (nI (T i)).toInt64 - (97 : Int64) + (1 : Int64) = lN (g27 a (T i)) := by
        rw [nI_l (by omega), show (27 : Int64) = lN 27 from rfl, show (97 : Int64) = lN 97 from rfl, show (1 : Int64) = lN 1 from rfl, lN_mul, lN_add, lN_sub (by omega), lN_add]
        unfold g27
        congr 1
        omega
      rw [if_pos rfl, e, c_word_L4 hT k m (i + 1) _ (by omega) (by omega), tk_pos (by omega) q, List.length_cons, List.foldl_cons]
      congr 2; omega
theorem c_dig_L4 (hT : TapC T n σ) {x1 : Int32} {k45 : Int32 → Int32 → Option (Int32 × St_)} : ∀ k m i a, i + k = n → k < m → mX10_readDigits_L4 3 σ x1 k45 m (nI i) (nI a) = k45 (nI (i + (tk isDg T n k i).length)) (nI ((tk isDg T n k i).foldl g10 a))
  | 0, m, i, a, hi, hm => by
    have h0 := hT.1
    obtain ⟨m, rfl, -⟩ := fu_suc hm
    unfold mX10_readDigits_L4
    rw [hT.2.2.1, if_pos (nI_le (by omega) (by omega))]
    rfl
  | k + 1, m, i, a, hi, hm => by
    have h0 := hT.1
    obtain ⟨m, rfl, hm⟩ := fu_suc hm
    have hc := hT.2.1 i (by omega)
    unfold mX10_readDigits_L4
    simp only [bnd_eq]
    rw [hT.2.2.1, if_neg (nI_ge (by omega) (by omega)), binn (show i < 1700 by omega) (by omega), if_pos rfl, if_pos rfl, pn_cl (by omega), show 3 + 1 = 4 from rfl, hT.2.2.2 i (by omega), c_isDg hc, obs_eq, nI_1]
    cases q : isDg (T i)
    · rw [if_neg (by simp), tk_neg (fun e => by rw [q] at e; cases e.2)]
      rfl
    · have q' := q
      unfold isDg at q'
      simp only [Bool.and_eq_true, decide_eq_true_eq] at q'
      have e : nI a * (10 : Int32) + nI (T i) - (48 : Int32) = nI (g10 a (T i)) := by
        rw [show (10 : Int32) = nI 10 from rfl, show (48 : Int32) = nI 48 from rfl, nI_mul, nI_add, nI_sub (by omega)]
        unfold g10
        congr 1
        omega
      rw [if_pos rfl, e, c_dig_L4 hT k m (i + 1) _ (by omega) (by omega), tk_pos (by omega) q, List.length_cons, List.foldl_cons]
      congr 2; omega
/-! the reference -/
theorem r_here (hT : TapR T n σ) {a k : Nat} (ha : σ.1 233 4 = nI a) (hk : a + k ≤ 10000) : mX12_here 233 (nI k) σ = some (if a + k < n then nI (T (a + k)) else -1) := by
  have h0 := hT.1
  unfold mX12_here
  simp only [bnd_eq]
  rw [hT.2.2.1, ha, nI_add]
  by_cases q : a + k < n
  · rw [if_neg (nI_ge q (by omega)), if_pos q, binn (show a + k < 1700 by omega) (by omega), if_pos rfl, pn_cl (by omega), show 233 + 1 = 234 from rfl, hT.2.2.2 _ q]
  · rw [if_pos (nI_le (by omega) (by omega)), if_neg q]
theorem sL_get (σ : St_) (i k : Nat) (x : Int64) (a b : Nat) : (sL σ i k x).2 a b = if a = i ∧ b = k then x else σ.2 a b := by
  by_cases ha : a = i
  · subst ha
    by_cases hb : b = k
    · simp [sL, up2, hb]
    · simp [sL, up2, hb]
  · simp [sL, up2, ha]
theorem shl8 (w : Nat) {c : Nat} (hc : c < 256) : (lN w <<< ((8 : Int32).toInt64 &&& 63)) ||| lN c = lN (g256 w c) := by
  rw [show (8 : Int32) = nI 8 from rfl]
  apply tbL_ext
  intro i hi
  rw [tbL_or, tbL_shl _ (by omega) hi, tbL_lN, tbL_lN, tbL_lN]
  unfold g256
  rw [show w * 256 + c = 2 ^ 8 * w + c by omega, Nat.testBit_two_pow_mul_add w (by omega)]
  by_cases q : i < 8
  · have q2 : ¬ 8 ≤ i := by omega
    simp [q, q2]
  · have q2 : 8 ≤ i := by omega
    have q3 : c.testBit i = false := Nat.testBit_lt_two_pow (Nat.lt_of_lt_of_le (show c < 2 ^ 8 by omega) (Nat.pow_le_pow_right (by omega) q2))
    have q4 : i - 8 < 64 := by omega
    simp [q, q2, q3, q4, hi]
theorem r_skip {k33 : St_ → Option St_} : ∀ k m a (ρ : St_), TapR T n ρ → ρ.1 233 4 = nI a → a + k = n → k < m → ∃ ρ', mX12_token_L0 233 k33 m ρ = k33 ρ' ∧ ρ'.1 233 4 = nI (a + (tk isBl T n k a).length) ∧ (∀ e j, ¬ (e = 233 ∧ j = 4) → ρ'.1 e j = ρ.1 e j) ∧ ρ'.2 = ρ.2
  | 0, m, a, ρ, hT, ha, hk, hm => by
    have h0 := hT.1
    obtain ⟨m, rfl, -⟩ := fu_suc hm
    refine ⟨ρ, ?_, by simpa [tk] using ha, fun e j _ => rfl, rfl⟩
    have hh := r_here hT ha (k := 0) (by omega)
    rw [show nI 0 = (0 : Int32) from rfl, if_neg (by omega)] at hh
    unfold mX12_token_L0
    simp only [bnd_eq]
    rw [hh, obs_eq, if_neg (by decide), obs_eq, if_neg (by decide)]
  | k + 1, m, a, ρ, hT, ha, hk, hm => by
    have h0 := hT.1
    obtain ⟨m, rfl, hm⟩ := fu_suc hm
    have hc := hT.2.1 a (by omega)
    have hh := r_here hT ha (k := 0) (by omega)
    rw [show nI 0 = (0 : Int32) from rfl, if_pos (by omega), Nat.add_zero] at hh
    have go : isBl (T a) = true → ∃ ρ', mX12_token_L0 233 k33 m (sI ρ 233 4 (nI (a + 1))) = k33 ρ' ∧ ρ'.1 233 4 = nI (a + (tk isBl T n (k + 1) a).length) ∧ (∀ e j, ¬ (e = 233 ∧ j = 4) → ρ'.1 e j = ρ.1 e j) ∧ ρ'.2 = ρ.2 := fun q => by
      obtain ⟨ρ', e1, e2, e3, e4⟩ := r_skip (k33 := k33) k m (a + 1) (sI ρ 233 4 (nI (a + 1))) (hT.fr (fun e j q => by rw [sI_get, if_neg (by omega)])) (by rw [sI_get, if_pos ⟨rfl, rfl⟩]) (by omega) (by omega)
      refine ⟨ρ', e1, ?_, fun e j hn => by rw [e3 e j hn, sI_get, if_neg hn], by rw [e4]; rfl⟩
      rw [e2, tk_pos (by omega) q, List.length_cons]
      congr 1; omega
    unfold mX12_token_L0
    simp only [bnd_eq]
    rw [hh, obs_eq, obs_eq, ha, nI_1]
    by_cases q1 : T a = 32
    · rw [if_pos (show nI (T a) = (32 : Int32) by rw [q1]; rfl)]
      exact go (by unfold isBl; rw [q1]; rfl)
    · rw [if_neg (show ¬ nI (T a) = (32 : Int32) from fun e => q1 ((nI_eq (b := 32) (by omega) (by omega)).mp e))]
      by_cases q2 : T a = 10
      · rw [if_pos (show nI (T a) = (10 : Int32) by rw [q2]; rfl)]
        exact go (by unfold isBl; rw [q2]; rfl)
      · rw [if_neg (show ¬ nI (T a) = (10 : Int32) from fun e => q2 ((nI_eq (b := 10) (by omega) (by omega)).mp e))]
        refine ⟨ρ, rfl, ?_, fun e j _ => rfl, rfl⟩
        rw [tk_neg (fun e => by
          have := e.2
          unfold isBl at this
          rw [decide_eq_false q1, decide_eq_false q2] at this
          cases this)]
        exact ha
theorem r_word_L78 {a : Nat} {k119 : Int32 → St_ → Option St_} : ∀ k m c w (ρ : St_), TapR T n ρ → ρ.1 233 4 = nI a → (c ≤ 8 → ρ.2 233 9 = lN w) → a + c + k = n → k < m → ∃ ρ', mX12_token_L78 233 k119 m (nI c) ρ = k119 (nI (c + (tk isL T n k (a + c)).length)) ρ' ∧ ρ'.1 = ρ.1 ∧ (c + (tk isL T n k (a + c)).length ≤ 8 → ρ'.2 233 9 = lN ((tk isL T n k (a + c)).foldl g256 w)) ∧ ∀ e j, ¬ (e = 233 ∧ j = 9) → ρ'.2 e j = ρ.2 e j
  | 0, m, c, w, ρ, hT, ha, hw, hk, hm => by
    have h0 := hT.1
    obtain ⟨m, rfl, -⟩ := fu_suc hm
    refine ⟨ρ, ?_, rfl, hw, fun e j _ => rfl⟩
    have hh := r_here hT ha (k := c) (by omega)
    rw [if_neg (by omega)] at hh
    unfold mX12_token_L78
    rw [hh, obs_eq, r_isL0, obs_eq, if_neg (by simp)]
    rfl
  | k + 1, m, c, w, ρ, hT, ha, hw, hk, hm => by
    have h0 := hT.1
    obtain ⟨m, rfl, hm⟩ := fu_suc hm
    have hc := hT.2.1 (a + c) (by omega)
    have hh := r_here hT ha (k := c) (by omega)
    rw [if_pos (by omega)] at hh
    unfold mX12_token_L78
    simp only [bnd_eq]
    rw [hh, obs_eq, r_isL hc, obs_eq, obs_eq, nI_1]
    cases q : isL (T (a + c))
    · rw [if_neg (by simp), tk_neg (fun e => by rw [q] at e; cases e.2)]
      exact ⟨ρ, rfl, rfl, hw, fun e j _ => rfl⟩
    · rw [if_pos rfl, tk_pos (by omega) q, List.length_cons, List.foldl_cons, show c + ((tk isL T n k (a + c + 1)).length + 1) = c + 1 + (tk isL T n k (a + (c + 1))).length by rw [show a + (c + 1) = a + c + 1 by omega]; omega, show a + c + 1 = a + (c + 1) by omega]
      by_cases q8 : 8 ≤ c
      · rw [if_pos (show (8 : Int32) ≤ nI c from nI_le (a := 8) q8 (by omega))]
        obtain ⟨ρ', e1, e2, e3, e4⟩ := r_word_L78 (k119 := k119) k m (c + 1) (g256 w (T (a + c))) ρ hT ha (fun h => by omega) (by omega) (by omega)
        exact ⟨ρ', e1, e2, e3, e4⟩
      · rw [if_neg (show ¬ (8 : Int32) ≤ nI c from nI_ge (b := 8) (by omega) (by omega)), hw (by omega), nI_l (by omega), shl8 w hc]
        obtain ⟨ρ', e1, e2, e3, e4⟩ := r_word_L78 (k119 := k119) k m (c + 1) (g256 w (T (a + c))) (sL ρ 233 9 (lN (g256 w (T (a + c))))) (hT.fr (fun _ _ _ => rfl)) ha (fun _ => by rw [sL_get, if_pos ⟨rfl, rfl⟩]) (by omega) (by omega)
        exact ⟨ρ', e1, e2, e3, fun e j hn => by rw [e4 e j hn, sL_get, if_neg hn]⟩
theorem r_dig_L144 {a : Nat} {k186 : Int32 → St_ → Option St_} : ∀ k m c w (ρ : St_), TapR T n ρ → ρ.1 233 4 = nI a → (c ≤ 4 → ρ.1 233 8 = nI w) → a + c + k = n → k < m → ∃ ρ', mX12_token_L144 233 k186 m (nI c) ρ = k186 (nI (c + (tk isDg T n k (a + c)).length)) ρ' ∧ ρ'.2 = ρ.2 ∧ (c + (tk isDg T n k (a + c)).length ≤ 4 → ρ'.1 233 8 = nI ((tk isDg T n k (a + c)).foldl g10 w)) ∧ ∀ e j, ¬ (e = 233 ∧ j = 8) → ρ'.1 e j = ρ.1 e j
  | 0, m, c, w, ρ, hT, ha, hw, hk, hm => by
    have h0 := hT.1
    obtain ⟨m, rfl, -⟩ := fu_suc hm
    refine ⟨ρ, ?_, rfl, hw, fun e j _ => rfl⟩
    have hh := r_here hT ha (k := c) (by omega)
    rw [if_neg (by omega)] at hh
    unfold mX12_token_L144
    rw [hh, obs_eq, r_isDg0, obs_eq, if_neg (by simp)]
    rfl
  | k + 1, m, c, w, ρ, hT, ha, hw, hk, hm => by
    have h0 := hT.1
    obtain ⟨m, rfl, hm⟩ := fu_suc hm
    have hc := hT.2.1 (a + c) (by omega)
    have hh := r_here hT ha (k := c) (by omega)
    rw [if_pos (by omega)] at hh
    unfold mX12_token_L144
    simp only [bnd_eq]
    rw [hh, obs_eq, r_isDg hc, obs_eq, obs_eq, nI_1]
    cases q : isDg (T (a + c))
    · rw [if_neg (by simp), tk_neg (fun e => by rw [q] at e; cases e.2)]
      exact ⟨ρ, rfl, rfl, hw, fun e j _ => rfl⟩
    · have q' := q
      unfold isDg at q'
      simp only [Bool.and_eq_true, decide_eq_true_eq] at q'
      rw [if_pos rfl, tk_pos (by omega) q, List.length_cons, List.foldl_cons, show c + ((tk isDg T n k (a + c + 1)).length + 1) = c + 1 + (tk isDg T n k (a + (c + 1))).length by rw [show a + (c + 1) = a + c + 1 by omega]; omega, show a + c + 1 = a + (c + 1) by omega]
      by_cases q8 : 4 ≤ c
      · rw [if_pos (show (4 : Int32) ≤ nI c from nI_le (a := 4) q8 (by omega))]
        obtain ⟨ρ', e1, e2, e3, e4⟩ := r_dig_L144 (k186 := k186) k m (c + 1) (g10 w (T (a + c))) ρ hT ha (fun h => by omega) (by omega) (by omega)
        exact ⟨ρ', e1, e2, e3, e4⟩
      · have e : (10 : Int32) * nI w + nI (T (a + c)) - (48 : Int32) = nI (g10 w (T (a + c))) := by
          rw [show (10 : Int32) = nI 10 from rfl, show (48 : Int32) = nI 48 from rfl, nI_mul, nI_add, nI_sub (by omega)]
          unfold g10
          congr 1
          omega
        rw [if_neg (show ¬ (4 : Int32) ≤ nI c from nI_ge (b := 4) (by omega) (by omega)), hw (by omega), e]
        obtain ⟨ρ', e1, e2, e3, e4⟩ := r_dig_L144 (k186 := k186) k m (c + 1) (g10 w (T (a + c))) (sI ρ 233 8 (nI (g10 w (T (a + c))))) (hT.fr (fun e j q => by rw [sI_get, if_neg (by omega)])) (by rw [sI_get, if_neg (by omega)]; exact ha) (fun _ => by rw [sI_get, if_pos ⟨rfl, rfl⟩]) (by omega) (by omega)
        exact ⟨ρ', e1, e2, e3, fun e j hn => by rw [e4 e j hn, sI_get, if_neg hn]⟩
end LEX
