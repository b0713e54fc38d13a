/-! worths found from what was lawful -/
section SPAN
variable {σ σ' : St_} {c dr s t th : Nat} {v u : Vw} {z : Sv}
abbrev Rq : Type := Nat × Nat × Nat × Nat × Bool × Int32 × Int32
def RpC (n : Nat) (R : Nat → Rq) (σ : St_) : Prop := σ.1 174 7 = nI n ∧ ∀ i, i < n → σ.1 175 i = nI (R i).1 ∧ σ.1 176 i = nI (R i).2.1 ∧ σ.1 177 i = nI (R i).2.2.1 ∧ σ.1 178 i = nI (R i).2.2.2.1 ∧ σ.1 179 i = b2i (R i).2.2.2.2.1 ∧ σ.1 180 i = (R i).2.2.2.2.2.1 ∧ σ.1 181 i = (R i).2.2.2.2.2.2
def RpR (n : Nat) (R : Nat → Rq) (σ : St_) : Prop := σ.1 233 86 = nI n ∧ ∀ i, i < n → σ.1 270 i = nI (R i).1 ∧ σ.1 271 i = nI (R i).2.1 ∧ σ.1 272 i = nI (R i).2.2.1 ∧ σ.1 273 i = nI (R i).2.2.2.1 ∧ σ.1 276 i = b2i (R i).2.2.2.2.1 ∧ σ.1 274 i = (R i).2.2.2.2.2.1 ∧ σ.1 275 i = (R i).2.2.2.2.2.2
def RpO (v : Vw) (n : Nat) (R : Nat → Rq) : Prop := n ≤ 30 ∧ ∀ i, i < n → (R i).1 < v.H ∧ (R i).2.1 < v.N ∧ (R i).2.2.1 < v.N ∧ (R i).2.2.2.1 < v.R ∧ ((R i).2.2.2.2.2.2 = -1 ∨ 0 ≤ (R i).2.2.2.2.2.2)
theorem rp_of (h1 : v.N = nN σ) (h2 : v.H = nH σ) (h4 : v.R = nR σ) (hrep : Irep σ) : ∃ n R, RpC n R σ ∧ RpR n R σ ∧ RpO v n R := by
  obtain ⟨n, n1, n2, n3, n4⟩ := hrep
  have key : ∀ i, ∃ q : Rq, i < n → (σ.1 175 i = nI q.1 ∧ σ.1 176 i = nI q.2.1 ∧ σ.1 177 i = nI q.2.2.1 ∧ σ.1 178 i = nI q.2.2.2.1 ∧ σ.1 179 i = b2i q.2.2.2.2.1 ∧ σ.1 180 i = q.2.2.2.2.2.1 ∧ σ.1 181 i = q.2.2.2.2.2.2) ∧ (σ.1 270 i = nI q.1 ∧ σ.1 271 i = nI q.2.1 ∧ σ.1 272 i = nI q.2.2.1 ∧ σ.1 273 i = nI q.2.2.2.1 ∧ σ.1 276 i = b2i q.2.2.2.2.1 ∧ σ.1 274 i = q.2.2.2.2.2.1 ∧ σ.1 275 i = q.2.2.2.2.2.2) ∧ (q.1 < v.H ∧ q.2.1 < v.N ∧ q.2.2.1 < v.N ∧ q.2.2.2.1 < v.R ∧ (q.2.2.2.2.2.2 = -1 ∨ 0 ≤ q.2.2.2.2.2.2)) := by
    intro i
    by_cases hi : i < n
    · obtain ⟨⟨a, a1, a2, a3⟩, ⟨b, b1, b2, b3⟩, ⟨d, d1, d2, d3⟩, ⟨e, e1, e2, e3⟩, ⟨f, f1, f2⟩, g1, ⟨k1, k2⟩, -⟩ := n4 i hi
      exact ⟨(a, b, d, e, f, σ.1 180 i, σ.1 181 i), fun _ => ⟨⟨a2, b2, d2, e2, f1, rfl, rfl⟩, ⟨a3, b3, d3, e3, f2, g1.symm, k1.symm⟩, by rw [h2]; exact a1, by rw [h1]; exact b1, by rw [h1]; exact d1, by rw [h4]; exact e1, k2⟩⟩
    · exact ⟨(0, 0, 0, 0, false, 0, 0), fun q => absurd q hi⟩
  obtain ⟨R, hR⟩ := Classical.skolem.mp key
  exact ⟨n, R, ⟨n2, fun i hi => (hR i hi).1⟩, ⟨n3, fun i hi => (hR i hi).2.1⟩, n1, fun i hi => (hR i hi).2.2⟩
theorem RpC.fr {n : Nat} {R : Nat → Rq} (h : RpC n R σ) (e : ∀ a k, (175 ≤ a ∧ a ≤ 181) ∨ (a = 174 ∧ k = 7) → σ'.1 a k = σ.1 a k) : RpC n R σ' := by
  refine ⟨by rw [e _ _ (by omega)]; exact h.1, fun i hi => ?_⟩
  rw [e 175 i (by omega), e 176 i (by omega), e 177 i (by omega), e 178 i (by omega), e 179 i (by omega), e 180 i (by omega), e 181 i (by omega)]
  exact h.2 i hi
theorem RpR.fr {n : Nat} {R : Nat → Rq} (h : RpR n R σ) (e : ∀ a k, (270 ≤ a ∧ a ≤ 276) ∨ (a = 233 ∧ k = 86) → σ'.1 a k = σ.1 a k) : RpR n R σ' := by
  refine ⟨by rw [e _ _ (by omega)]; exact h.1, fun i hi => ?_⟩
  rw [e 270 i (by omega), e 271 i (by omega), e 272 i (by omega), e 273 i (by omega), e 274 i (by omega), e 275 i (by omega), e 276 i (by omega)]
  exact h.2 i hi
/-- known at k -/
def kn (k told unt : Int32) : Bool := decide (told ≤ k) && (decide (unt = -1) || decide (k < unt))
def lawQ (u : Vw) (h : Nat) (q : Rq) : Bool := aLaw u h (nI (2 ^ q.2.1)) (nI (2 ^ q.2.2.1)) (nI q.2.2.2.1) 0
/-- a REPORT that counts and is not so -/
def bad (u : Vw) (h : Nat) (k : Int32) (q : Rq) : Bool := decide (q.1 = h) && kn k q.2.2.2.2.2.1 q.2.2.2.2.2.2 && !(lawQ u h q == q.2.2.2.2.1)
theorem c_isKnown {n : Nat} {R : Nat → Rq} (hR : RpC n R σ) (hn : n ≤ 30) {i : Nat} (hi : i < n) (k : Int32) : mX5_isKnown 174 (nI i) k σ = some (kn k (R i).2.2.2.2.2.1 (R i).2.2.2.2.2.2) := by
  obtain ⟨-, -, -, -, -, r6, r7⟩ := hR.2 i hi
  unfold mX5_isKnown kn
  simp only [bnd_eq]
  rw [binn (show i < 30 by omega) (by omega), pn_cl (by omega), show 174 + 6 = 180 from rfl, show 174 + 7 = 181 from rfl, r6, r7, if_pos rfl]
  by_cases q1 : k < (R i).2.2.2.2.2.1
  · rw [if_pos q1]; simp [Int32.not_le.mpr q1]
  · rw [if_neg q1, if_pos rfl]
    by_cases q2 : (R i).2.2.2.2.2.2 = -1
    · rw [if_pos q2]; simp [Int32.not_lt.mp q1, q2]
    · rw [if_neg q2, if_pos rfl]
      by_cases q3 : (R i).2.2.2.2.2.2 ≤ k
      · rw [if_pos q3]; simp [q2, Int32.not_lt.mpr q3]
      · rw [if_neg q3]; simp [Int32.not_lt.mp q1, Int32.not_le.mp q3]
theorem b2i_eq (a b : Bool) : b2i a = b2i b ↔ a = b := by cases a <;> cases b <;> decide
theorem isBb (b : Bool) : isB (b2i b) = true ∧ (b2i b == 1) = b := by cases b <;> decide
theorem c_all_L3 (ok : u.OK) (hct : c + 16 ≤ 44) {n : Nat} {R : Nat → Rq} (hO : RpO u n R) {h : Nat} (hh : h < u.H) (kk : Int32) : ∀ k m i (σ : St_), CV c u σ → RpC n R σ → i + k = n → k < m → ∃ σ', mX5_allAreSo_L3 174 c (nI h) kk m (nI i) σ = some (!anyF (fun i => bad u h kk (R i)) i k, σ') ∧ CV c u σ' ∧ ∀ a j, ¬ (a = c + 14 ∨ a = c + 15) → σ'.1 a j = σ.1 a j
  | 0, m, i, σ, hc, hR, hi, hm => by
    have := hO.1
    obtain ⟨m, rfl, -⟩ := fu_suc hm
    refine ⟨σ, ?_, hc, fun a j _ => rfl⟩
    unfold mX5_allAreSo_L3
    rw [hR.1, if_pos (nI_le (by omega) (by omega))]
    rfl
  | k + 1, m, i, σ, hc, hR, hi, hm => by
    have o30 := hO.1
    have oH := ok.H
    have oN := ok.N
    obtain ⟨m, rfl, hm⟩ := fu_suc hm
    obtain ⟨o1, o2, o3, o4, o5⟩ := hO.2 i (by omega)
    obtain ⟨r1, r2, r3, r4, r5, r6, r7⟩ := hR.2 i (by omega)
    have bi : bin (nI i) 30 = true := binn (by omega) (by omega)
    have ci : (nI i).toNatClampNeg = i := pn_cl (by omega)
    have ih := fun σ' a b => c_all_L3 ok hct hO hh kk k m (i + 1) σ' a b (by omega) (by omega)
    have skip : bad u h kk (R i) = false → ∃ σ', mX5_allAreSo_L3 174 c (nI h) kk m (nI (i + 1)) σ = some (!anyF (fun i => bad u h kk (R i)) i (k + 1), σ') ∧ CV c u σ' ∧ ∀ a j, ¬ (a = c + 14 ∨ a = c + 15) → σ'.1 a j = σ.1 a j := by
      intro hb
      unfold anyF
      rw [hb, Bool.false_or]
      exact ih σ hc hR
    unfold mX5_allAreSo_L3
    simp only [bnd_eq]
    rw [hR.1, if_neg (nI_ge (by omega) (by omega)), bi, if_pos rfl, ci, show 174 + 1 = 175 from rfl, r1]
    simp only [nI_1, if_true]
    by_cases q1 : (R i).1 = h
    · rw [if_pos (show nI (R i).1 = nI h by rw [q1]), c_isKnown hR o30 (by omega), obs_eq]
      cases q2 : kn kk (R i).2.2.2.2.2.1 (R i).2.2.2.2.2.2
      · rw [if_neg (show ¬ false = true by simp)]
        exact skip (by unfold bad; rw [q2]; simp)
      · have l0 : ∃ σ1, mX1_isLawfulFor c (nI h) (nI (R i).2.1) (nI (R i).2.2.1) (-1) (nI (R i).2.2.2.1) 0 σ = some (lawQ u h (R i), σ1) := c_isLawfulFor hc ok (lo := none) hh o2 o3 (fun z hz => by cases hz) (nI (R i).2.2.2.1) 0
        obtain ⟨σ1, l1⟩ := l0
        have F1 : ∀ a k, ¬ (a = c + 14 ∨ a = c + 15) → σ1.1 a k = σ.1 a k := fun a k hn => (fX1_isLawfulFor _ _ _ _ _ _ _ _ _ l1 a k (by unfold MOD_X1_isLawfulFor; omega)).1
        have r5' : σ1.1 179 i = b2i (R i).2.2.2.2.1 := by rw [F1 _ _ (by omega)]; exact r5
        rw [if_pos rfl, show 174 + 2 = 176 from rfl, show 174 + 3 = 177 from rfl, show 174 + 4 = 178 from rfl, show 174 + 5 = 179 from rfl, r2, r3, r4, l1, obs_eq, r5', if_pos (isBb _).1, (isBb _).2]
        have hc1 : CV c u σ1 := hc.fr (fun a k q => F1 a k (by unfold FPc at q; omega))
        by_cases q3 : lawQ u h (R i) = (R i).2.2.2.2.1
        · rw [if_pos ((b2i_eq _ _).mpr q3)]
          obtain ⟨σ', e1, e2, e3⟩ := ih σ1 hc1 (hR.fr (fun a k q => F1 a k (by omega)))
          refine ⟨σ', ?_, e2, fun a j hn => by rw [e3 a j hn, F1 a j hn]⟩
          rw [e1]
          have : bad u h kk (R i) = false := by unfold bad; rw [q3]; simp
          conv => rhs; unfold anyF
          rw [this, Bool.false_or]
        · rw [if_neg (fun w => q3 ((b2i_eq _ _).mp w))]
          refine ⟨σ1, ?_, hc1, F1⟩
          have : bad u h kk (R i) = true := by
            unfold bad
            rw [q2, decide_eq_true q1, beq_false_of_ne q3]
            rfl
          unfold anyF
          rw [this, Bool.true_or]
          rfl
    · rw [if_neg (fun w => q1 ((nI_eq (by omega) (by omega)).mp w))]
      exact skip (by unfold bad; rw [decide_eq_false q1]; rfl)
theorem c_all (hc : CV c u σ) (ok : u.OK) (hct : c + 16 ≤ 44) {n : Nat} {R : Nat → Rq} (hO : RpO u n R) (hR : RpC n R σ) {h : Nat} (hh : h < u.H) (kk : Int32) : ∃ σ', mX5_allAreSo 174 c (nI h) kk σ = some (!anyF (fun i => bad u h kk (R i)) 0 n, σ') ∧ CV c u σ' ∧ ∀ a j, ¬ (a = c + 14 ∨ a = c + 15) → σ'.1 a j = σ.1 a j := by
  have := hO.1
  unfold mX5_allAreSo
  exact c_all_L3 ok hct hO hh kk n FU 0 σ hc hR (by omega) (by unfold FU; omega)
/-- a WORTH by which all is so -/
def fitP (v : Vw) (h x : Nat) (kk : Int32) (n : Nat) (R : Nat → Rq) (w : Nat) : Bool := !anyF (fun i => bad (v.say h x (nI w)) h kk (R i)) 0 n
theorem frm_snoc (p : Nat → Bool) (w : Nat) : frm p 0 (w + 1) = frm p 0 w ++ (if p w = true then [w] else []) := by
  rw [frm_app w 0 1, Nat.zero_add]
  congr 1
def FitC (P : Nat → Bool) (w : Nat) (σ : St_) : Prop := σ.1 174 9 = nI (frm P 0 w).length ∧ σ.1 174 10 = encO (frm P 0 w).head? ∧ σ.1 174 11 = encO (frm P 0 w).getLast? ∧ ∀ j, j < w → σ.1 182 j = b2i (P j)
theorem c_fit_L18 (ok : v.OK) (hcc : c = 12 ∨ c = 28) {n : Nat} {R : Nat → Rq} (hO : RpO v n R) {h x : Nat} (hh : h < v.H) (hx : x < v.N) (kk : Int32) {k94 : St_ → Option St_} : ∀ k m w (y : Int32) (σ : St_), CV c (v.say h x y) σ → RpC n R σ → FitC (fitP v h x kk n R) w σ → w + k = 100 → k < m → ∃ σ' y', mX5_fit_L18 174 c (nI h) (nI x) kk k94 m (nI w) σ = k94 σ' ∧ CV c (v.say h x y') σ' ∧ FitC (fitP v h x kk n R) 100 σ' ∧ ∀ a j, ¬ (a = c + 14 ∨ a = c + 15 ∨ (a = c + 9 ∧ j = 10 * h + x) ∨ a = 182 ∨ (a = 174 ∧ 9 ≤ j)) → σ'.1 a j = σ.1 a j
  | 0, m, w, y, σ, hc, hR, hF, hw, hm => by
    obtain ⟨m, rfl, -⟩ := fu_suc hm
    have hw' : w = 100 := by omega
    subst hw'
    refine ⟨σ, y, ?_, hc, hF, fun a j _ => rfl⟩
    unfold mX5_fit_L18
    rw [if_pos (by decide)]
  | k + 1, m, w, y, σ, hc, hR, hF, hw, hm => by
    obtain ⟨m, rfl, hm⟩ := fu_suc hm
    obtain ⟨σ1, s1, s2, s3⟩ := c_say ok hh hx hc (nI w)
    obtain ⟨σ2, a1, a2, a3⟩ := c_all (u := v.say h x (nI w)) s2 (say_ok ok h x (nI w)) (by omega) hO (hR.fr (fun a k q => s3 a k (by omega))) hh kk
    have eP : (!anyF (fun i => bad (v.say h x (nI w)) h kk (R i)) 0 n) = fitP v h x kk n R w := rfl
    rw [eP] at a1
    have F2 : ∀ a j, ¬ (a = c + 14 ∨ a = c + 15 ∨ (a = c + 9 ∧ j = 10 * h + x)) → σ2.1 a j = σ.1 a j := fun a j hn => by rw [a3 a j (by omega), s3 a j (by omega)]
    have bw : bin (nI w) 100 = true := binn (by omega) (by omega)
    have cw : (nI w).toNatClampNeg = w := pn_cl (by omega)
    obtain ⟨f1, f2, f3, f4⟩ := hF
    have hlen : (frm (fitP v h x kk n R) 0 w).length ≤ w := frm_len w 0
    -- going on from a store
    have go : ∀ ρ : St_, (∀ a j, ¬ (a = 182 ∨ (a = 174 ∧ 9 ≤ j)) → ρ.1 a j = σ2.1 a j) → FitC (fitP v h x kk n R) (w + 1) ρ → ∃ σ' y', mX5_fit_L18 174 c (nI h) (nI x) kk k94 m (nI (w + 1)) ρ = k94 σ' ∧ CV c (v.say h x y') σ' ∧ FitC (fitP v h x kk n R) 100 σ' ∧ ∀ a j, ¬ (a = c + 14 ∨ a = c + 15 ∨ (a = c + 9 ∧ j = 10 * h + x) ∨ a = 182 ∨ (a = 174 ∧ 9 ≤ j)) → σ'.1 a j = σ.1 a j := by
      intro ρ hρ hF'
      obtain ⟨σ', y', e1, e2, e3, e4⟩ := c_fit_L18 ok hcc hO hh hx kk (k94 := k94) k m (w + 1) (nI w) ρ (a2.fr (fun a k q => hρ a k (by unfold FPc at q; omega))) (hR.fr (fun a k q => by rw [hρ a k (by omega), F2 a k (by omega)])) hF' (by omega) (by omega)
      exact ⟨σ', y', e1, e2, e3, fun a j hn => by rw [e4 a j hn, hρ a j (by omega), F2 a j (by omega)]⟩
    have g0 : ∀ ρ : St_, ρ.1 174 9 = nI (frm (fitP v h x kk n R) 0 (w + 1)).length → ρ.1 174 10 = encO (frm (fitP v h x kk n R) 0 (w + 1)).head? → ρ.1 174 11 = encO (frm (fitP v h x kk n R) 0 (w + 1)).getLast? → ρ.1 182 w = b2i (fitP v h x kk n R w) → (∀ j, j < w → ρ.1 182 j = σ.1 182 j) → FitC (fitP v h x kk n R) (w + 1) ρ := by
      intro ρ e1 e2 e3 e4 e5
      refine ⟨e1, e2, e3, fun j hj => ?_⟩
      by_cases q : j = w
      · rw [q]; exact e4
      · rw [e5 j (by omega)]; exact f4 j (by omega)
    have t9 : σ2.1 174 9 = nI (frm (fitP v h x kk n R) 0 w).length := by rw [F2 _ _ (by omega)]; exact f1
    have t10 : σ2.1 174 10 = encO (frm (fitP v h x kk n R) 0 w).head? := by rw [F2 _ _ (by omega)]; exact f2
    have t11 : σ2.1 174 11 = encO (frm (fitP v h x kk n R) 0 w).getLast? := by rw [F2 _ _ (by omega)]; exact f3
    have t82 : ∀ j, σ2.1 182 j = σ.1 182 j := fun j => F2 _ _ (by omega)
    have e82 : ∀ b, (sI σ2 182 w b).1 182 w = b := fun b => by rw [sI_get, if_pos ⟨rfl, rfl⟩]
    have sn := frm_snoc (fitP v h x kk n R) w
    unfold mX5_fit_L18
    simp only [bnd_eq]
    rw [if_neg (show ¬ (100 : Int32) ≤ nI w from nI_ge (b := 100) (by omega) (by omega)), s1, obs_eq, a1, obs_eq, bw, if_pos rfl, if_pos rfl, cw, show 174 + 8 = 182 from rfl, e82, if_pos (isBb _).1, (isBb _).2]
    simp only [nI_1]
    cases q : fitP v h x kk n R w
    · rw [q, if_neg (show ¬ false = true by simp), List.append_nil] at sn
      rw [if_neg (show ¬ false = true by simp)]
      refine go _ (fun a j hn => by rw [sI_get, if_neg (by omega)]) (g0 _ ?_ ?_ ?_ ?_ ?_)
      · rw [sI_get, if_neg (by omega), sn]; exact t9
      · rw [sI_get, if_neg (by omega), sn]; exact t10
      · rw [sI_get, if_neg (by omega), sn]; exact t11
      · rw [q, e82]
      · intro j hj; rw [sI_get, if_neg (by omega)]; exact t82 j
    · rw [q, if_pos rfl] at sn
      rw [if_pos rfl]
      have n9 : (sI σ2 182 w (b2i true)).1 174 9 + 1 = nI ((frm (fitP v h x kk n R) 0 w).length + 1) := by rw [sI_get, if_neg (by omega), t9, nI_1]
      have n10 : (sI (sI (sI σ2 182 w (b2i true)) 174 9 (nI ((frm (fitP v h x kk n R) 0 w).length + 1))) 174 11 (nI w)).1 174 10 = encO (frm (fitP v h x kk n R) 0 w).head? := by rw [sI_get, if_neg (by omega), sI_get, if_neg (by omega), sI_get, if_neg (by omega)]; exact t10
      rw [n9, n10]
      cases hL : frm (fitP v h x kk n R) 0 w with
      | nil =>
        rw [hL] at sn
        rw [if_pos (show encO ([] : List Nat).head? = -1 from rfl)]
        refine go _ (fun a j hn => by rw [sI_get, if_neg (by omega), sI_get, if_neg (by omega), sI_get, if_neg (by omega), sI_get, if_neg (by omega)]) (g0 _ ?_ ?_ ?_ ?_ ?_)
        · rw [sn]; simp [sI_get]
        · rw [sn]; simp [sI_get, encO]
        · rw [sn]; simp [sI_get, encO]
        · rw [q]; simp [sI_get]
        · intro j hj; rw [sI_get, if_neg (by omega), sI_get, if_neg (by omega), sI_get, if_neg (by omega), sI_get, if_neg (by omega)]; exact t82 j
      | cons a l =>
        rw [hL] at sn
        have ha : a < 100 := by
          have : a ∈ frm (fitP v h x kk n R) 0 w := by rw [hL]; exact List.mem_cons_self
          have := (mem_frm.mp this).2.1
          omega
        rw [if_neg (show ¬ encO (a :: l).head? = -1 from nI_nm1 (by omega))]
        refine go _ (fun a j hn => by rw [sI_get, if_neg (by omega), sI_get, if_neg (by omega), sI_get, if_neg (by omega)]) (g0 _ ?_ ?_ ?_ ?_ ?_)
        · rw [sn]; simp [sI_get]
        · rw [sn, sI_get, if_neg (by omega), sI_get, if_neg (by omega), sI_get, if_neg (by omega), t10, hL]; rfl
        · rw [sn, sI_get, if_pos ⟨rfl, rfl⟩, List.getLast?_concat]; rfl
        · rw [q]; simp [sI_get]
        · intro j hj; rw [sI_get, if_neg (by omega), sI_get, if_neg (by omega), sI_get, if_neg (by omega)]; exact t82 j
theorem c_fit (hc : CV c v σ) (ok : v.OK) (hcc : c = 12 ∨ c = 28) {n : Nat} {R : Nat → Rq} (hO : RpO v n R) (hR : RpC n R σ) {h x : Nat} (hh : h < v.H) (hx : x < v.N) (hT : v.sa h x = v.va h x) (kk : Int32) : ∃ σ', mX5_fit 174 c (nI h) (nI x) kk σ = some σ' ∧ CV c v σ' ∧ FitC (fitP v h x kk n R) 100 σ' ∧ ∀ a j, ¬ (a = c + 14 ∨ a = c + 15 ∨ (a = c + 9 ∧ j = 10 * h + x) ∨ a = 182 ∨ (a = 174 ∧ 9 ≤ j)) → σ'.1 a j = σ.1 a j := by
  have A : ∀ a j, ¬ (a = 174 ∧ 9 ≤ j) → (sI (sI (sI σ 174 9 0) 174 10 (-1)) 174 11 (-1)).1 a j = σ.1 a j := fun a j hn => by rw [sI_get, if_neg (by omega), sI_get, if_neg (by omega), sI_get, if_neg (by omega)]
  obtain ⟨σ1, y, a1, a2, a3, a4⟩ := c_fit_L18 ok hcc hO hh hx kk (k94 := fun σ14 => (mX1_sayTruth c (nI h) (nI x) σ14).bind fun σ15 => some σ15) 100 FU 0 (v.sa h x) (sI (sI (sI σ 174 9 0) 174 10 (-1)) 174 11 (-1)) (say_cv0 (hc.fr (fun a k q => A a k (by unfold FPc at q; omega))) h x) (hR.fr (fun a k q => A a k (by omega))) ⟨by simp [sI_get, frm]; rfl, by simp [sI_get, frm, encO], by simp [sI_get, frm, encO], fun j hj => by omega⟩ (by omega) (by unfold FU; omega)
  obtain ⟨σ2, b1, b2, b3⟩ := c_sayTruth ok hh hx hT a2
  refine ⟨σ2, ?_, b2, ?_, fun a j hn => by rw [b3 a j (by omega), a4 a j hn, A a j (by omega)]⟩
  · unfold mX5_fit
    simp only [bnd_eq]
    refine Eq.trans a1 ?_
    try dsimp only
    rw [b1]
    rfl
  · obtain ⟨f1, f2, f3, f4⟩ := a3
    exact ⟨by rw [b3 _ _ (by omega)]; exact f1, by rw [b3 _ _ (by omega)]; exact f2, by rw [b3 _ _ (by omega)]; exact f3, fun j hj => by rw [b3 _ _ (by omega)]; exact f4 j hj⟩
/-! the reference -/
theorem r_lay_o {p1 p2 p3 : Int32} : mX12_layOther 233 p1 p2 p3 σ = some (sI (sI (sI σ 233 65 p1) 233 64 p2) 233 66 p3) := by
  unfold mX12_layOther
  simp only [bnd_eq]
theorem r_span_L32 (ok : u.OK) {n : Nat} {R : Nat → Rq} (hO : RpO u n R) {h w : Nat} (hh : h < u.H) (hw : w < 100) (kk : Int32) {x2 x4 : Int32} {k165 : St_ → Option (Int32 × St_)} : ∀ k m i (b : Bool) (σ : St_), RV u σ → RpR n R σ → σ.1 277 w = b2i b → i + k = n → k < m → ∃ σ', mX12_laySpan_L32 233 (nI h) x2 kk x4 (nI w) k165 m (nI i) σ = k165 σ' ∧ RV u σ' ∧ σ'.1 277 w = b2i (b && !anyF (fun i => bad u h kk (R i)) i k) ∧ ∀ a j, ¬ (a = 242 ∨ a = 243 ∨ (a = 277 ∧ j = w)) → σ'.1 a j = σ.1 a j
  | 0, m, i, b, σ, hr, hR, hb, hi, hm => by
    have := hO.1
    obtain ⟨m, rfl, -⟩ := fu_suc hm
    refine ⟨σ, ?_, hr, by simpa [anyF] using hb, fun a j _ => rfl⟩
    unfold mX12_laySpan_L32
    rw [hR.1, if_pos (nI_le (by omega) (by omega))]
  | k + 1, m, i, b, σ, hr, hR, hb, hi, hm => by
    have o30 := hO.1
    have oH := ok.H
    have oN := ok.N
    obtain ⟨m, rfl, hm⟩ := fu_suc hm
    obtain ⟨o1, o2, o3, o4, o5⟩ := hO.2 i (by omega)
    obtain ⟨r1, r2, r3, r4, r5, r6, r7⟩ := hR.2 i (by omega)
    have bi : bin (nI i) 30 = true := binn (by omega) (by omega)
    have ci : (nI i).toNatClampNeg = i := pn_cl (by omega)
    have bw : bin (nI w) 100 = true := binn (by omega) (by omega)
    have cw : (nI w).toNatClampNeg = w := pn_cl (by omega)
    have go : ∀ (b' : Bool) (ρ : St_), (∀ a j, ¬ (a = 242 ∨ a = 243) → ρ.1 a j = σ.1 a j) → ∃ σ', mX12_laySpan_L32 233 (nI h) x2 kk x4 (nI w) k165 m (nI (i + 1)) (sI ρ 277 w (b2i b')) = k165 σ' ∧ RV u σ' ∧ σ'.1 277 w = b2i (b' && !anyF (fun i => bad u h kk (R i)) (i + 1) k) ∧ ∀ a j, ¬ (a = 242 ∨ a = 243 ∨ (a = 277 ∧ j = w)) → σ'.1 a j = σ.1 a j := by
      intro b' ρ hρ
      obtain ⟨σ', e1, e2, e3, e4⟩ := r_span_L32 ok hO hh hw kk (x2 := x2) (x4 := x4) (k165 := k165) k m (i + 1) b' (sI ρ 277 w (b2i b')) (hr.fr (fun a j q => by rw [sI_get, if_neg (by unfold FPr at q; omega)]; exact hρ a j (by unfold FPr at q; omega))) (hR.fr (fun a j q => by rw [sI_get, if_neg (by omega)]; exact hρ a j (by omega))) (by rw [sI_get, if_pos ⟨rfl, rfl⟩]) (by omega) (by omega)
      exact ⟨σ', e1, e2, e3, fun a j hn => by rw [e4 a j hn, sI_get, if_neg (by omega)]; exact hρ a j (by omega)⟩
    unfold mX12_laySpan_L32
    simp only [bnd_eq]
    rw [hR.1, if_neg (nI_ge (by omega) (by omega)), bw, if_pos rfl, cw, show 233 + 44 = 277 from rfl, hb, if_pos (isBb _).1, (isBb _).2]
    cases b
    · refine ⟨σ, by rw [if_neg (show ¬ false = true by simp)], hr, by simpa using hb, fun a j _ => rfl⟩
    · rw [if_pos rfl, bi, if_pos rfl, ci, show 233 + 37 = 270 from rfl, r1]
      simp only [nI_1, Bool.true_and]
      unfold anyF
      -- when it does not count
      have skip : bad u h kk (R i) = false → ∃ σ', mX12_laySpan_L32 233 (nI h) x2 kk x4 (nI w) k165 m (nI (i + 1)) (sI σ 277 w (b2i true)) = k165 σ' ∧ RV u σ' ∧ σ'.1 277 w = b2i (!(bad u h kk (R i) || anyF (fun i => bad u h kk (R i)) (i + 1) k)) ∧ ∀ a j, ¬ (a = 242 ∨ a = 243 ∨ (a = 277 ∧ j = w)) → σ'.1 a j = σ.1 a j := by
        intro hb2
        rw [hb2, Bool.false_or]
        have := go true σ (fun a j _ => rfl)
        rw [Bool.true_and] at this
        exact this
      have nol : (if false = true then (if true = true then (if true = true then (if true = true then ((mX12_isLawful 233 (nI h) ((1 : Int32) <<< (σ.1 271 i &&& 31)) ((1 : Int32) <<< (σ.1 272 i &&& 31)) (σ.1 273 i) 0 σ).bind fun r19 => (none : Option (Int32 × St_))) else none) else none) else none) else (none : Option (Int32 × St_))) = none := rfl
      obtain ⟨σ1, l1⟩ := r_isLawful hr ok hh (nI (2 ^ (R i).2.1)) (nI (2 ^ (R i).2.2.1)) (nI (R i).2.2.2.1) 0
      have l1' : mX12_isLawful 233 (nI h) (nI (2 ^ (R i).2.1)) (nI (2 ^ (R i).2.2.1)) (nI (R i).2.2.2.1) 0 σ = some (lawQ u h (R i), σ1) := l1
      have F1 : ∀ a k, ¬ (a = 242 ∨ a = 243) → σ1.1 a k = σ.1 a k := fun a k hn => (fX12_isLawful _ _ _ _ _ _ _ _ l1 a k (by unfold MOD_X12_isLawful; omega)).1
      have r5' : σ1.1 276 i = b2i (R i).2.2.2.2.1 := by rw [F1 _ _ (by omega)]; exact r5
      -- when it counts
      have cnt1 : (R i).1 = h → kn kk (R i).2.2.2.2.2.1 (R i).2.2.2.2.2.2 = true → ∃ σ', ((mX12_isLawful 233 (nI h) (nI (2 ^ (R i).2.1)) (nI (2 ^ (R i).2.2.1)) (nI (R i).2.2.2.1) 0 σ).bind fun r19 => if isB (r19.2.1 276 i) = true then (if b2i r19.1 = b2i (r19.2.1 276 i == 1) then mX12_laySpan_L32 233 (nI h) x2 kk x4 (nI w) k165 m (nI (i + 1)) (sI r19.2 277 w (b2i true)) else mX12_laySpan_L32 233 (nI h) x2 kk x4 (nI w) k165 m (nI (i + 1)) (sI r19.2 277 w (b2i false))) else none) = k165 σ' ∧ RV u σ' ∧ σ'.1 277 w = b2i (!(bad u h kk (R i) || anyF (fun i => bad u h kk (R i)) (i + 1) k)) ∧ ∀ a j, ¬ (a = 242 ∨ a = 243 ∨ (a = 277 ∧ j = w)) → σ'.1 a j = σ.1 a j := by
        intro c1 c2
        rw [l1', obs_eq, r5', if_pos (isBb _).1, (isBb _).2]
        by_cases q3 : lawQ u h (R i) = (R i).2.2.2.2.1
        · have hb2 : bad u h kk (R i) = false := by unfold bad; rw [q3]; simp
          rw [if_pos ((b2i_eq _ _).mpr q3), hb2, Bool.false_or]
          have := go true σ1 F1
          rw [Bool.true_and] at this
          exact this
        · have hb2 : bad u h kk (R i) = true := by
            unfold bad
            rw [c2, decide_eq_true c1, beq_false_of_ne q3]
            rfl
          rw [if_neg (fun w => q3 ((b2i_eq _ _).mp w)), hb2, Bool.true_or]
          have := go false σ1 F1
          rw [Bool.false_and] at this
          exact this
      have e41 : 233 + 41 = 274 := rfl
      simp only [bi, bw, ci, cw, if_true, Bool.false_eq_true, if_false, show 233 + 38 = 271 from rfl, show 233 + 39 = 272 from rfl, show 233 + 40 = 273 from rfl, show 233 + 41 = 274 from rfl, show 233 + 42 = 275 from rfl, show 233 + 43 = 276 from rfl, show 233 + 44 = 277 from rfl, r2, r3, r4, r6, r7, shl_nI (show (R i).2.1 < 31 by omega), shl_nI (show (R i).2.2.1 < 31 by omega)]
      by_cases q1 : (R i).1 = h
      · rw [if_pos (show nI (R i).1 = nI h by rw [q1])]
        by_cases q2 : kk < (R i).2.2.2.2.2.1
        · rw [if_pos q2]
          exact skip (by unfold bad kn; simp [Int32.not_le.mpr q2])
        · rw [if_neg q2]
          by_cases q3 : (R i).2.2.2.2.2.2 < 0
          · rw [if_pos q3]
            have e1 : (R i).2.2.2.2.2.2 = -1 := by
              rcases o5 with e | e
              · exact e
              · exact absurd q3 (Int32.not_lt.mpr e)
            exact cnt1 q1 (by unfold kn; simp [Int32.not_lt.mp q2, e1])
          · rw [if_neg q3]
            have e1 : ¬ (R i).2.2.2.2.2.2 = -1 := fun e => q3 (by rw [e]; decide)
            by_cases q4 : (R i).2.2.2.2.2.2 ≤ kk
            · rw [if_pos q4]
              exact skip (by unfold bad kn; simp [e1, Int32.not_lt.mpr q4])
            · rw [if_neg q4]
              exact cnt1 q1 (by unfold kn; simp [Int32.not_lt.mp q2, Int32.not_le.mp q4])
      · rw [if_neg (fun w => q1 ((nI_eq (by omega) (by omega)).mp w))]
        exact skip (by unfold bad; rw [decide_eq_false q1]; rfl)
end SPAN
