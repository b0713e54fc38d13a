/-! ACTS, BOXES: states copied here and there -/
section ACTS
variable {σ σ' τ : St_} {c : Nat} {v : Vw}
theorem IS.mv {N Hn Tn R s A o s' A' o' : Nat} (h : IS N Hn Tn R s A o σ) (hN : N ≤ 10) (e1 : ∀ k, k < 9 → τ.1 (s' + 1) k = σ.1 (s + 1) k) (e2 : ∀ k, k < 4 → τ.1 (s' + 2) k = σ.1 (s + 2) k) (e3 : ∀ k, 2 ≤ k → k ≤ 4 → τ.1 s' k = σ.1 s k) (e4 : ∀ k, k < 17 → τ.1 A' (o' + k) = σ.1 A (o + k)) : IS N Hn Tn R s' A' o' τ := by
  obtain ⟨h1, h2, h3, h4, h5, h6, h7⟩ := h
  refine ⟨fun y hy => ?_, fun x hx => ?_, fun x hx hx2 => ?_, ?_, ?_, ?_, fun t ht => ?_⟩
  · obtain ⟨m, m1, m2, m3⟩ := h1 y hy
    refine ⟨m, m1, by rw [e1 y hy]; exact m2, fun x hx => ?_⟩
    rw [e4 x (by omega)]
    exact m3 x hx
  · rw [e4 x (by omega)]
    exact h2 x hx
  · rw [e4 x (by omega)]
    exact h3 x hx hx2
  · rw [e3 2 (by omega) (by omega), e4 10 (by omega)]
    exact h4
  · rw [e3 3 (by omega) (by omega), e4 11 (by omega)]
    exact h5
  · rw [e3 4 (by omega) (by omega), e4 12 (by omega)]
    exact h6
  · rw [e2 t ht, Nat.add_assoc, e4 (13 + t) (by omega), ← Nat.add_assoc]
    exact h7 t ht
theorem cpI_get (σ : St_) (a b : Nat) (n : Nat) (hn : n < 2 ^ 31) (i k : Nat) : (cpI σ a b 0 0 (nI n)).1 i k = if i = b ∧ k < n then σ.1 a k else σ.1 i k := by
  have e0 : (0 : Int32).toNatClampNeg = 0 := rfl
  by_cases h : i = b
  · subst h
    simp only [cpI, va_cpy, if_true, e0, pn_cl hn]
    by_cases q : k < n
    · simp [q]
    · simp [q]
  · simp [cpI, h]
theorem c_copy {t p : Nat} (hd : p + 3 ≤ t ∨ t + 3 ≤ p) : ∃ σ', mX8_copy t p σ = some σ' ∧ ∀ a k, σ'.1 a k = if a = t + 1 ∧ k < 9 then σ.1 (p + 1) k else if a = t + 2 ∧ k < 4 then σ.1 (p + 2) k else if a = t ∧ 2 ≤ k ∧ k ≤ 4 then σ.1 p k else σ.1 a k := by
  have c1 : cpok (0 : Int32) (0 : Int32) (9 : Int32) 9 9 = true := by decide
  have c2 : cpok (0 : Int32) (0 : Int32) (4 : Int32) 4 4 = true := by decide
  unfold mX8_copy
  rw [c1, c2]
  dsimp only [bnd]
  rw [if_pos rfl, if_pos rfl]
  refine ⟨_, rfl, fun a k => ?_⟩
  rw [show (9 : Int32) = nI 9 from rfl, show (4 : Int32) = nI 4 from rfl]
  simp only [sI_get, cpI_get _ _ _ 9 (by omega), cpI_get _ _ _ 4 (by omega)]
  by_cases a1 : a = t + 1
  · subst a1
    have n1 : ¬ t + 1 = t := by omega
    have n2 : ¬ t + 1 = t + 2 := by omega
    have n3 : ¬ p + 1 = t + 2 := by omega
    simp only [n1, n2, false_and, if_false, true_and]
  · by_cases a2 : a = t + 2
    · subst a2
      have n1 : ¬ t + 2 = t := by omega
      have n2 : ¬ t + 2 = t + 1 := by omega
      have n3 : ¬ p + 2 = t + 1 := by omega
      simp only [n1, n2, n3, false_and, if_false, true_and]
    · by_cases a3 : a = t
      · subst a3
        have n1 : ¬ a = a + 1 := by omega
        have n2 : ¬ a = a + 2 := by omega
        have n3 : ¬ p = a + 1 := by omega
        have n4 : ¬ p = a + 2 := by omega
        have n5 : ¬ p = a := by omega
        simp only [n1, n2, n3, n4, n5, false_and, if_false, true_and]
        by_cases k4 : k = 4
        · subst k4; simp
        · by_cases k3 : k = 3
          · subst k3; simp
          · by_cases k2 : k = 2
            · subst k2; simp
            · rw [if_neg k4, if_neg k3, if_neg k2, if_neg (by omega)]
      · simp only [a1, a2, a3, false_and, if_false]
theorem nI_mod41 {n : Nat} (h : n < 100) : nI n - nI n / 41 * 41 = nI (n % 41) := by
  have : ∀ n : Fin 100, nI n.1 - nI n.1 / 41 * 41 = nI (n.1 % 41) := by decide +kernel
  exact this ⟨n, h⟩
theorem c_stateAt {f p : Nat} (hf : f < 41) (hp : p ≤ 41) (e : σ.1 47 1 = nI f) : ∃ r : Fin 41, mX0_stateAt 47 (nI p) σ = some r ∧ r.val = (f + p) % 41 := by
  have hb : bin (nI ((f + p) % 41)) 41 = true := binn (Nat.mod_lt _ (by omega)) (by omega)
  have hv : nI (f + p) - nI (f + p) / 41 * 41 = nI ((f + p) % 41) := nI_mod41 (by omega)
  unfold mX0_stateAt
  dsimp only [bnd]
  rw [e, nI_add]
  have : ∀ w : Int32, w = nI ((f + p) % 41) → ∃ r : Fin 41, (if hg3 : bin w 41 = true then (some (⟨w.toNatClampNeg, bin_lt hg3⟩ : Fin 41)) else none) = some r ∧ r.val = (f + p) % 41 := by
    intro w hw
    subst hw
    rw [dif_pos hb]
    exact ⟨_, rfl, pn_cl (by omega)⟩
  exact this _ hv
/-- ACTS kept: f is the ring's first place, p of them not taken back -/
def fN (f p : Nat) : Nat := if p = 40 then (f + 1) % 41 else f
def pN (p : Nat) : Nat := if p = 40 then 40 else p + 1
theorem c_addact {f p : Nat} (hf : f < 41) (hp : p ≤ 40) (e1 : σ.1 47 1 = nI f) (e3 : σ.1 47 3 = nI p) : ∃ σ', mX0_add 47 44 σ = some σ' ∧ σ'.1 47 1 = nI (fN f p) ∧ σ'.1 47 2 = nI (pN p) ∧ σ'.1 47 3 = nI (pN p) ∧ (∀ k, k < 9 → σ'.1 (49 + 3 * ((fN f p + pN p) % 41) + 1) k = σ.1 45 k) ∧ (∀ k, k < 4 → σ'.1 (49 + 3 * ((fN f p + pN p) % 41) + 2) k = σ.1 46 k) ∧ (∀ k, 2 ≤ k → k ≤ 4 → σ'.1 (49 + 3 * ((fN f p + pN p) % 41)) k = σ.1 44 k) ∧ ∀ a k, ¬ (a = 47 ∧ 1 ≤ k ∧ k ≤ 3) → ¬ (49 + 3 * ((fN f p + pN p) % 41) ≤ a ∧ a < 49 + 3 * ((fN f p + pN p) % 41) + 3) → σ'.1 a k = σ.1 a k := by
  -- the road behind the ring's move
  have tail : ∀ (ρ : St_) (g q : Nat), g < 41 → q < 40 → ρ.1 47 1 = nI g → ρ.1 47 3 = nI q → ∃ σ', ((mX0_stateAt 47 ((sI (sI ρ 47 3 ((ρ.1 47 3) + (1 : Int32))) 47 2 ((sI ρ 47 3 ((ρ.1 47 3) + (1 : Int32))).1 47 3)).1 47 3) (sI (sI ρ 47 3 ((ρ.1 47 3) + (1 : Int32))) 47 2 ((sI ρ 47 3 ((ρ.1 47 3) + (1 : Int32))).1 47 3))).bind fun r6 => ((mX8_copy (47 + 2 + 3 * r6.val) 44 (sI (sI ρ 47 3 ((ρ.1 47 3) + (1 : Int32))) 47 2 ((sI ρ 47 3 ((ρ.1 47 3) + (1 : Int32))).1 47 3))).bind fun σ7 => (some σ7))) = some σ' ∧ σ'.1 47 1 = nI g ∧ σ'.1 47 2 = nI (q + 1) ∧ σ'.1 47 3 = nI (q + 1) ∧ (∀ k, k < 9 → σ'.1 (49 + 3 * ((g + (q + 1)) % 41) + 1) k = ρ.1 45 k) ∧ (∀ k, k < 4 → σ'.1 (49 + 3 * ((g + (q + 1)) % 41) + 2) k = ρ.1 46 k) ∧ (∀ k, 2 ≤ k → k ≤ 4 → σ'.1 (49 + 3 * ((g + (q + 1)) % 41)) k = ρ.1 44 k) ∧ ∀ a k, ¬ (a = 47 ∧ 1 ≤ k ∧ k ≤ 3) → ¬ (49 + 3 * ((g + (q + 1)) % 41) ≤ a ∧ a < 49 + 3 * ((g + (q + 1)) % 41) + 3) → σ'.1 a k = ρ.1 a k := by
    intro ρ g q hg hq r1 r3
    have w3 : ρ.1 47 3 + 1 = nI (q + 1) := by rw [r3, nI_1]
    rw [w3]
    generalize hA : sI (sI ρ 47 3 (nI (q + 1))) 47 2 ((sI ρ 47 3 (nI (q + 1))).1 47 3) = A
    have A1 : A.1 47 1 = nI g := by rw [← hA]; simp [sI_get, r1]
    have A2 : A.1 47 2 = nI (q + 1) := by rw [← hA]; simp [sI_get]
    have A3 : A.1 47 3 = nI (q + 1) := by rw [← hA]; simp [sI_get]
    have A4 : ∀ a k, ¬ (a = 47 ∧ 1 ≤ k ∧ k ≤ 3) → A.1 a k = ρ.1 a k := by
      intro a k hn
      rw [← hA, sI_get, if_neg (by omega), sI_get, if_neg (by omega)]
    obtain ⟨r, s1, s2⟩ := c_stateAt (σ := A) hg (show q + 1 ≤ 41 by omega) A1
    rw [A3, s1]
    dsimp only [Option.bind]
    have hlt : (g + (q + 1)) % 41 < 41 := Nat.mod_lt _ (by omega)
    obtain ⟨σ', u1, u2⟩ := c_copy (σ := A) (t := 47 + 2 + 3 * r.val) (p := 44) (Or.inl (by omega))
    rw [u1]
    rw [s2, show 47 + 2 + 3 * ((g + (q + 1)) % 41) = 49 + 3 * ((g + (q + 1)) % 41) from rfl] at u2
    generalize (g + (q + 1)) % 41 = w at *
    refine ⟨σ', rfl, ?_, ?_, ?_, fun k hk => ?_, fun k hk => ?_, fun k h1 h2 => ?_, fun a k h1 h2 => ?_⟩
    · rw [u2, if_neg (by omega), if_neg (by omega), if_neg (by omega), A1]
    · rw [u2, if_neg (by omega), if_neg (by omega), if_neg (by omega), A2]
    · rw [u2, if_neg (by omega), if_neg (by omega), if_neg (by omega), A3]
    · rw [u2, if_pos ⟨rfl, hk⟩]; exact A4 45 k (by omega)
    · rw [u2, if_neg (by omega), if_pos ⟨rfl, hk⟩]; exact A4 46 k (by omega)
    · rw [u2, if_neg (by omega), if_neg (by omega), if_pos ⟨rfl, h1, h2⟩]; exact A4 44 k (by omega)
    · rw [u2, if_neg (by omega), if_neg (by omega), if_neg (by omega)]
      exact A4 a k h1
  unfold mX0_add
  dsimp only [bnd]
  by_cases q : p = 40
  · subst q
    have b : σ.1 47 3 = 40 := e3
    have v8 : σ.1 47 1 + 1 - (σ.1 47 1 + 1) / 41 * 41 = nI ((f + 1) % 41) := by rw [e1, nI_1]; exact nI_mod41 (by omega)
    rw [if_pos b, v8]
    generalize hB : sI (sI σ 47 1 (nI ((f + 1) % 41))) 47 3 ((sI σ 47 1 (nI ((f + 1) % 41))).1 47 3 - 1) = B
    have B1 : B.1 47 1 = nI ((f + 1) % 41) := by rw [← hB]; simp [sI_get]
    have B3 : B.1 47 3 = nI 39 := by rw [← hB]; simp [sI_get, b]; decide
    have B4 : ∀ a k, ¬ (a = 47 ∧ 1 ≤ k ∧ k ≤ 3) → B.1 a k = σ.1 a k := by
      intro a k hn
      rw [← hB, sI_get, if_neg (by omega), sI_get, if_neg (by omega)]
    obtain ⟨σ', t1, t2, t3, t4, t5, t6, t7, t8⟩ := tail B ((f + 1) % 41) 39 (Nat.mod_lt _ (by omega)) (by omega) B1 B3
    refine ⟨σ', t1, t2, t3, t4, fun k hk => ?_, fun k hk => ?_, fun k h1 h2 => ?_, fun a k h1 h2 => ?_⟩
    · rw [← B4 45 k (by omega)]; exact t5 k hk
    · rw [← B4 46 k (by omega)]; exact t6 k hk
    · rw [← B4 44 k (by omega)]; exact t7 k h1 h2
    · rw [← B4 a k h1]; exact t8 a k h1 h2
  · have b : ¬ σ.1 47 3 = 40 := by
      rw [e3]
      exact fun w => q (pn_inj (b := 40) (by omega) (by omega) w)
    rw [if_neg b]
    have ef : fN f p = f := by unfold fN; rw [if_neg q]
    have ep : pN p = p + 1 := by unfold pN; rw [if_neg q]
    rw [ef, ep]
    exact tail σ f p hf (by omega) e1 e3
theorem r_act_L51 {k83 : St_ → Option St_} {p : Nat} (hp : p < 40) : ∀ k n i (σ : St_), i + k = 17 → k < n → σ.1 233 68 = nI p → ∃ σ' : St_, mX12_act_L51 233 k83 n (nI i) σ = k83 σ' ∧ ∀ a b, σ'.1 a b = if a = 264 ∧ 20 * p + i ≤ b ∧ b < 20 * p + 17 then σ.1 262 (b - 20 * p) else σ.1 a b
  | 0, n, i, σ, hi, hn, h0 => by
    obtain ⟨m, rfl, -⟩ := fu_suc hn
    refine ⟨σ, ?_, fun a b => by rw [if_neg (by omega)]⟩
    unfold mX12_act_L51
    rw [show (17 : Int32) = nI 17 from rfl, if_pos (nI_le (by omega) (by omega))]
  | k + 1, n, i, σ, hi, hn, h0 => by
    obtain ⟨m, rfl, hm⟩ := fu_suc hn
    obtain ⟨σ', e1, e3⟩ := r_act_L51 (k83 := k83) hp k m (i + 1) (sI σ 264 (20 * p + i) (σ.1 262 i)) (by omega) (by omega) (by rw [sI_get, if_neg (by omega)]; exact h0)
    refine ⟨σ', ?_, fun a b => ?_⟩
    · unfold mX12_act_L51
      dsimp only [bnd]
      rw [show (17 : Int32) = nI 17 from rfl, if_neg (nI_ge (by omega) (by omega)), h0, show (20 : Int32) = nI 20 from rfl, nI_mul, nI_add, binn (show i < 20 by omega) (by omega), binn (show 20 * p + i < 800 by omega) (by omega), pn_cl (show i < 2 ^ 31 by omega), pn_cl (show 20 * p + i < 2 ^ 31 by omega), nI_1]
      exact e1
    · rw [e3, sI_get, sI_get]
      by_cases q : a = 264 ∧ 20 * p + i ≤ b ∧ b < 20 * p + 17
      · rw [if_pos q]
        by_cases q2 : b = 20 * p + i
        · rw [if_neg (by omega), if_pos ⟨q.1, q2⟩, q2, Nat.add_sub_cancel_left]
        · rw [if_pos (by omega), if_neg (by omega)]
      · rw [if_neg q, if_neg (by omega), if_neg (by omega)]
theorem r_act_L11 {k39 : St_ → Option St_} : ∀ k n i (σ : St_), i + k = 780 → k < n → ∃ σ' : St_, mX12_act_L11 233 k39 n (nI i) σ = k39 σ' ∧ ∀ a b, σ'.1 a b = if a = 264 ∧ i ≤ b ∧ b < 780 then σ.1 264 (20 + b) else σ.1 a b
  | 0, n, i, σ, hi, hn => by
    obtain ⟨m, rfl, -⟩ := fu_suc hn
    refine ⟨σ, ?_, fun a b => by rw [if_neg (by omega)]⟩
    unfold mX12_act_L11
    rw [show (780 : Int32) = nI 780 from rfl, if_pos (nI_le (by omega) (by omega))]
  | k + 1, n, i, σ, hi, hn => by
    obtain ⟨m, rfl, hm⟩ := fu_suc hn
    obtain ⟨σ', e1, e3⟩ := r_act_L11 (k39 := k39) k m (i + 1) (sI σ 264 i (σ.1 264 (20 + i))) (by omega) (by omega)
    refine ⟨σ', ?_, fun a b => ?_⟩
    · unfold mX12_act_L11
      dsimp only [bnd]
      rw [show (780 : Int32) = nI 780 from rfl, if_neg (nI_ge (by omega) (by omega)), show (20 : Int32) = nI 20 from rfl, nI_add, binn (show i < 800 by omega) (by omega), binn (show 20 + i < 800 by omega) (by omega), pn_cl (show i < 2 ^ 31 by omega), pn_cl (show 20 + i < 2 ^ 31 by omega), nI_1]
      exact e1
    · rw [e3, sI_get, sI_get]
      by_cases q : a = 264 ∧ i ≤ b ∧ b < 780
      · rw [if_pos q]
        by_cases q2 : b = i
        · rw [if_neg (by omega), if_pos ⟨q.1, q2⟩, q2]
        · rw [if_pos (by omega), if_neg (by omega)]
      · rw [if_neg q, if_neg (by omega), if_neg (by omega)]
theorem r_act {p : Nat} (hp : p ≤ 40) (e0 : σ.1 233 68 = nI p) : ∃ σ', mX12_act 233 σ = some σ' ∧ σ'.1 233 68 = nI (pN p) ∧ σ'.1 233 69 = 0 ∧ (∀ k, k < 17 → σ'.1 264 (20 * (pN p - 1) + k) = σ.1 262 k) ∧ (∀ j, j < pN p - 1 → ∀ k, k < 17 → σ'.1 264 (20 * j + k) = σ.1 264 (20 * (j + (p + 1 - pN p)) + k)) ∧ ∀ a k, ¬ a = 264 → ¬ (a = 233 ∧ (k = 68 ∨ k = 69)) → σ'.1 a k = σ.1 a k := by
  have tail : ∀ (ρ : St_) (q : Nat), q < 40 → ρ.1 233 68 = nI q → ∃ σ', (mX12_act_L51 233 (fun (σ7 : St_) => (some (sI (sI σ7 233 68 ((σ7.1 233 68) + (1 : Int32))) 233 69 (0 : Int32)))) FU (0 : Int32) ρ) = some σ' ∧ σ'.1 233 68 = nI (q + 1) ∧ σ'.1 233 69 = 0 ∧ ∀ a b, ¬ (a = 233 ∧ (b = 68 ∨ b = 69)) → σ'.1 a b = if a = 264 ∧ 20 * q ≤ b ∧ b < 20 * q + 17 then ρ.1 262 (b - 20 * q) else ρ.1 a b := by
    intro ρ q hq r0
    obtain ⟨σ1, t1, t2⟩ := r_act_L51 (k83 := fun (σ7 : St_) => (some (sI (sI σ7 233 68 ((σ7.1 233 68) + (1 : Int32))) 233 69 (0 : Int32)))) hq 17 FU 0 ρ (by omega) (by unfold FU; omega) r0
    refine ⟨_, t1, ?_, ?_, fun a b hn => ?_⟩
    · have : σ1.1 233 68 = nI q := by rw [t2, if_neg (by omega)]; exact r0
      simp [sI_get, this, nI_1]
    · simp [sI_get]
    · rw [sI_get, sI_get, if_neg (by omega), if_neg (by omega), t2]
      rfl
  unfold mX12_act
  simp only [bnd_eq]
  by_cases q : p = 40
  · subst q
    have b : σ.1 233 68 = 40 := e0
    rw [if_pos b]
    obtain ⟨σ1, u1, u2⟩ := r_act_L11 (k39 := (fun (σ13 : St_) => (mX12_act_L51 233 (fun (σ7 : St_) => (some (sI (sI σ7 233 68 ((σ7.1 233 68) + (1 : Int32))) 233 69 (0 : Int32)))) FU (0 : Int32) (sI σ13 233 68 ((σ13.1 233 68) - (1 : Int32)))))) 780 FU 0 σ (by omega) (by unfold FU; omega)
    have b1 : σ1.1 233 68 - 1 = nI 39 := by rw [u2, if_neg (by omega), b]; decide
    obtain ⟨σ', t1, t2, t3, t4⟩ := tail (sI σ1 233 68 (σ1.1 233 68 - 1)) 39 (by omega) (by rw [sI_get, if_pos ⟨rfl, rfl⟩, b1])
    refine ⟨σ', u1.trans t1, t2, t3, fun k hk => ?_, fun j hj k hk => ?_, fun a k h1 h2 => ?_⟩
    · rw [show pN 40 = 40 from rfl, t4 _ _ (by omega), if_pos (by omega), sI_get, if_neg (by omega), u2, if_neg (by omega)]
      exact congrArg (σ.1 262) (by omega)
    · rw [show pN 40 = 40 from rfl] at hj ⊢
      rw [t4 _ _ (by omega), if_neg (by omega), sI_get, if_neg (by omega), u2, if_pos (by omega)]
      exact congrArg (σ.1 264) (by omega)
    · rw [t4 a k h2, if_neg (by omega), sI_get, if_neg (by omega), u2, if_neg (by omega)]
  · have b : ¬ σ.1 233 68 = 40 := by
      rw [e0]
      exact fun w => q (pn_inj (b := 40) (by omega) (by omega) w)
    rw [if_neg b]
    have ep : pN p = p + 1 := by unfold pN; rw [if_neg q]
    obtain ⟨σ', t1, t2, t3, t4⟩ := tail σ p (by omega) e0
    refine ⟨σ', t1, by rw [ep]; exact t2, t3, fun k hk => ?_, fun j hj k hk => ?_, fun a k h1 h2 => ?_⟩
    · rw [ep, t4 _ _ (by omega), if_pos (by omega)]
      exact congrArg (σ.1 262) (by omega)
    · rw [ep] at hj ⊢
      rw [t4 _ _ (by omega), if_neg (by omega)]
      exact congrArg (σ.1 264) (by omega)
    · rw [t4 a k h2, if_neg (by omega)]
theorem nums_of (e : ∀ k, 51 ≤ k → k ≤ 55 → τ.1 233 k = σ.1 233 k) : nN τ = nN σ ∧ nH τ = nH σ ∧ nT τ = nT σ ∧ nR τ = nR σ := by
  unfold nN nH nT nR
  rw [e 52 (by omega) (by omega), e 53 (by omega) (by omega), e 54 (by omega) (by omega), e 55 (by omega) (by omega)]
  exact ⟨rfl, rfl, rfl, rfl⟩
theorem mod41_ne {a b f : Nat} (ha : a < 41) (hb : b < 41) (h : a ≠ b) : (f + a) % 41 ≠ (f + b) % 41 := by omega
/-- an ACT comes -/
theorem acts_add {f p n : Nat} (hN : nN σ ≤ 10) (hf : f < 41) (hp : p ≤ n) (hn : n ≤ 40) (h9 : ∀ j, j < p → ISn σ (49 + 3 * ((f + j) % 41)) 264 (20 * j)) (h11 : ISn σ (49 + 3 * ((f + p) % 41)) 262 0)
    (nums : ∀ k, 51 ≤ k → k ≤ 55 → τ.1 233 k = σ.1 233 k) (t1 : τ.1 47 1 = nI (fN f p)) (t2 : τ.1 47 2 = nI (pN p)) (t3 : τ.1 47 3 = nI (pN p)) (t4 : ∀ k, k < 9 → τ.1 (49 + 3 * ((fN f p + pN p) % 41) + 1) k = τ.1 45 k) (t5 : ∀ k, k < 4 → τ.1 (49 + 3 * ((fN f p + pN p) % 41) + 2) k = τ.1 46 k) (t6 : ∀ k, 2 ≤ k → k ≤ 4 → τ.1 (49 + 3 * ((fN f p + pN p) % 41)) k = τ.1 44 k) (t7 : ∀ a k, 49 ≤ a → a < 172 → ¬ (49 + 3 * ((fN f p + pN p) % 41) ≤ a ∧ a < 49 + 3 * ((fN f p + pN p) % 41) + 3) → τ.1 a k = σ.1 a k)
    (r1 : τ.1 233 68 = nI (pN p)) (r2 : τ.1 233 69 = 0) (r3 : ∀ k, k < 17 → τ.1 264 (20 * (pN p - 1) + k) = σ.1 262 k) (r4 : ∀ j, j < pN p - 1 → ∀ k, k < 17 → τ.1 264 (20 * j + k) = σ.1 264 (20 * (j + (p + 1 - pN p)) + k)) (hnow : ISn τ 44 262 0) : Iacts τ := by
  obtain ⟨g2, g3, g4, g5⟩ := nums_of nums
  have pq : pN p ≤ 40 ∧ 1 ≤ pN p ∧ pN p ≤ p + 1 ∧ (p < 40 → pN p = p + 1) ∧ (p = 40 → pN p = 40) := by
    unfold pN
    by_cases q : p = 40
    · rw [if_pos q]; omega
    · rw [if_neg q]; omega
  have ffl : fN f p < 41 := by
    unfold fN
    by_cases q : p = 40
    · rw [if_pos q]; omega
    · rw [if_neg q]; omega
  have fq : (fN f p + (pN p - 1)) % 41 = (f + p) % 41 ∧ ∀ j, j < pN p - 1 → (fN f p + j) % 41 = (f + (j + (p + 1 - pN p))) % 41 := by
    unfold fN
    by_cases q : p = 40
    · rw [if_pos q, pq.2.2.2.2 q]
      exact ⟨by omega, fun j hj => by omega⟩
    · rw [if_neg q, pq.2.2.2.1 (by omega)]
      exact ⟨by omega, fun j hj => by omega⟩
  have same : ∀ j, j < pN p → ∀ a k, 49 + 3 * ((fN f p + j) % 41) ≤ a → a < 49 + 3 * ((fN f p + j) % 41) + 3 → τ.1 a k = σ.1 a k := by
    intro j hj a k h1 h2
    have := @mod41_ne j (pN p) (fN f p) (by omega) (by omega) (by omega)
    exact t7 a k (by omega) (by omega) (by omega)
  refine ⟨by rw [g2]; exact hN, fN f p, pN p, pN p, ffl, Nat.le_refl _, pq.1, t1, t2, t3, r1, by rw [Nat.sub_self]; exact r2, fun j hj => ?_, fun j h1 h2 => by omega, ?_⟩
  · show IS (nN τ) (nH τ) (nT τ) (nR τ) _ _ _ τ
    rw [g2, g3, g4, g5]
    have sj := same j hj
    by_cases q : j = pN p - 1
    · subst q
      rw [fq.1] at sj ⊢
      exact IS.mv h11 hN (fun k _ => sj _ k (by omega) (by omega)) (fun k _ => sj _ k (by omega) (by omega)) (fun k _ _ => sj _ k (by omega) (by omega)) (fun k hk => by rw [r3 k hk, Nat.zero_add])
    · have hj2 : j < pN p - 1 := by omega
      rw [fq.2 j hj2] at sj ⊢
      exact IS.mv (h9 (j + (p + 1 - pN p)) (by omega)) hN (fun k _ => sj _ k (by omega) (by omega)) (fun k _ => sj _ k (by omega) (by omega)) (fun k _ _ => sj _ k (by omega) (by omega)) (fun k hk => r4 j hj2 k hk)
  · exact IS.mv hnow (by rw [g2]; exact hN) (fun k hk => t4 k hk) (fun k hk => t5 k hk) (fun k a b => t6 k a b) (fun k _ => rfl)
end ACTS
