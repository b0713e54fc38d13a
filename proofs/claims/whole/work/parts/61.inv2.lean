section PURE2
variable {σ σ' : St_} {c : Nat}
/-- the reference's number for a HOLDER of the class (HOUSES 0 .. 4, THIEVES behind them) -/
def hcode (h : Nat) : Int32 := if h < 5 then nI h else nI (h + 5)
/-- a State of the class (cell s) and a row of the reference (cell A, from place o) hold the same -/
def IS (N Hn Tn R s A o : Nat) (σ : St_) : Prop :=
  (∀ h, h < 9 → ∃ m, m < 2 ^ N ∧ σ.1 (s + 1) h = nI m ∧ ∀ x, x < N → (m.testBit x = true ↔ σ.1 A (o + x) = hcode h)) ∧
  (∀ x, x < N → σ.1 A (o + x) = -1 ∨ (∃ h, h < Hn ∧ σ.1 A (o + x) = nI h) ∨ ∃ t, t < Tn ∧ σ.1 A (o + x) = nI (10 + t)) ∧
  (∀ x, N ≤ x → x < 10 → σ.1 A (o + x) = -1) ∧
  (∃ n, n ≤ 200 ∧ σ.1 s 2 = nI n ∧ σ.1 A (o + 10) = nI n) ∧ (∃ n, n < R ∧ σ.1 s 3 = nI n ∧ σ.1 A (o + 11) = nI n) ∧ (∃ n, n < 2 ^ Tn ∧ σ.1 s 4 = nI n ∧ σ.1 A (o + 12) = nI n) ∧
  (∀ t, t < 4 → σ.1 (s + 2) t = σ.1 A (o + 13 + t))
theorem IS.fr {N Hn Tn R s A o : Nat} (h : IS N Hn Tn R s A o σ) (e1 : ∀ a k, s ≤ a → a < s + 3 → σ'.1 a k = σ.1 a k) (e2 : ∀ k, o ≤ k → k < o + 17 → σ'.1 A k = σ.1 A k) (hN : N ≤ 10) : IS N Hn Tn R s A o σ' := by
  obtain ⟨h1, h2, h3, h4, h5, h6, h7⟩ := h
  refine ⟨fun y hy => ?_, fun x hx => ?_, fun x hx hx2 => ?_, ?_, ?_, ?_, fun t ht => ?_⟩
  · obtain ⟨m, m1, m2, m3⟩ := h1 y hy
    refine ⟨m, m1, by rw [e1 (s + 1) y (by omega) (by omega)]; exact m2, fun x hx => ?_⟩
    rw [e2 (o + x) (by omega) (by omega)]
    exact m3 x hx
  · rw [e2 (o + x) (by omega) (by omega)]
    exact h2 x hx
  · rw [e2 (o + x) (by omega) (by omega)]
    exact h3 x hx hx2
  · rw [e1 s 2 (by omega) (by omega), e2 (o + 10) (by omega) (by omega)]
    exact h4
  · rw [e1 s 3 (by omega) (by omega), e2 (o + 11) (by omega) (by omega)]
    exact h5
  · rw [e1 s 4 (by omega) (by omega), e2 (o + 12) (by omega) (by omega)]
    exact h6
  · rw [e1 (s + 2) t (by omega) (by omega), e2 (o + 13 + t) (by omega) (by omega)]
    exact h7 t ht
abbrev ISn (σ : St_) (s A o : Nat) : Prop := IS (nN σ) (nH σ) (nT σ) (nR σ) s A o σ
theorem ISn.fr {s A o : Nat} (h : ISn σ s A o) (e0 : ∀ a k, FPnums c a k → σ'.1 a k = σ.1 a k) (e1 : ∀ a k, s ≤ a → a < s + 3 → σ'.1 a k = σ.1 a k) (e2 : ∀ k, o ≤ k → k < o + 17 → σ'.1 A k = σ.1 A k) (hN : nN σ ≤ 10) : ISn σ' s A o := by
  obtain ⟨-, g2, g3, g4, g5⟩ := nums_eq e0
  show IS (nN σ') (nH σ') (nT σ') (nR σ') s A o σ'
  rw [g2, g3, g4, g5]
  exact IS.fr h e1 e2 hN
/-- what is so in earnest -/
def Inow (σ : St_) : Prop := nN σ ≤ 10 ∧ ISn σ 44 262 0
def FPnow (c a k : Nat) : Prop := FPnums c a k ∨ (44 ≤ a ∧ a ≤ 46) ∨ a = 262
theorem Inow.fr (h : Inow σ) (e : ∀ a k, FPnow c a k → σ'.1 a k = σ.1 a k) : Inow σ' := by
  have e0 := fun a k q => e a k (Or.inl q)
  refine ⟨by rw [(nums_eq e0).2.1]; exact h.1, ISn.fr h.2 e0 (fun a k h1 h2 => e a k (by unfold FPnow; omega)) (fun k h1 h2 => e 262 k (by unfold FPnow; omega)) h.1⟩
/-- the ACTS that are kept: the class has the states in a ring, the reference those before (and, taken back, behind) -/
def Iacts (σ : St_) : Prop := nN σ ≤ 10 ∧ ∃ f p n : Nat, f < 41 ∧ p ≤ n ∧ n ≤ 40 ∧ σ.1 47 1 = nI f ∧ σ.1 47 2 = nI n ∧ σ.1 47 3 = nI p ∧ σ.1 233 68 = nI p ∧ σ.1 233 69 = nI (n - p) ∧
  (∀ j, j < p → ISn σ (49 + 3 * ((f + j) % 41)) 264 (20 * j)) ∧ (∀ j, p ≤ j → j < n → ISn σ (49 + 3 * ((f + j + 1) % 41)) 264 (20 * j)) ∧ ISn σ (49 + 3 * ((f + p) % 41)) 262 0
def FPacts (c a k : Nat) : Prop := FPnums c a k ∨ (a = 47 ∧ 1 ≤ k ∧ k ≤ 3) ∨ (49 ≤ a ∧ a < 172) ∨ a = 262 ∨ a = 264 ∨ (a = 233 ∧ (k = 68 ∨ k = 69))
theorem Iacts.fr (h : Iacts σ) (e : ∀ a k, FPacts c a k → σ'.1 a k = σ.1 a k) : Iacts σ' := by
  have e0 := fun a k q => e a k (Or.inl q)
  obtain ⟨hN, f, p, n, h1, h2, h3, h4, h5, h6, h7, h8, h9, h10, h11⟩ := h
  refine ⟨by rw [(nums_eq e0).2.1]; exact hN, f, p, n, h1, h2, h3, ?_, ?_, ?_, ?_, ?_, fun j hj => ?_, fun j hj hj2 => ?_, ?_⟩
  · rw [e 47 1 (by unfold FPacts; omega)]; exact h4
  · rw [e 47 2 (by unfold FPacts; omega)]; exact h5
  · rw [e 47 3 (by unfold FPacts; omega)]; exact h6
  · rw [e 233 68 (by unfold FPacts; omega)]; exact h7
  · rw [e 233 69 (by unfold FPacts; omega)]; exact h8
  · exact ISn.fr (h9 j hj) e0 (fun a k q1 q2 => e a k (by unfold FPacts; omega)) (fun k q1 q2 => e 264 k (by unfold FPacts; omega)) hN
  · exact ISn.fr (h10 j hj hj2) e0 (fun a k q1 q2 => e a k (by unfold FPacts; omega)) (fun k q1 q2 => e 264 k (by unfold FPacts; omega)) hN
  · exact ISn.fr h11 e0 (fun a k q1 q2 => e a k (by unfold FPacts; omega)) (fun k q1 q2 => e 262 k (by unfold FPacts; omega)) hN
/-- BOXES -/
def Ibox (σ : St_) : Prop := nN σ ≤ 10 ∧ ∃ m : Nat, m < 8 ∧ σ.1 0 7 = nI m ∧ ∀ b, b < 3 → σ.1 278 b = b2i (m.testBit b) ∧ (m.testBit b = true → ISn σ (224 + 3 * b) 279 (20 * b))
def FPbox (c a k : Nat) : Prop := FPnums c a k ∨ (a = 0 ∧ k = 7) ∨ (224 ≤ a ∧ a < 233) ∨ a = 278 ∨ a = 279
theorem Ibox.fr (h : Ibox σ) (e : ∀ a k, FPbox c a k → σ'.1 a k = σ.1 a k) : Ibox σ' := by
  have e0 := fun a k q => e a k (Or.inl q)
  obtain ⟨hN, m, h1, h2, h3⟩ := h
  refine ⟨by rw [(nums_eq e0).2.1]; exact hN, m, h1, by rw [e 0 7 (by unfold FPbox; omega)]; exact h2, fun b hb => ⟨?_, fun hm => ?_⟩⟩
  · rw [e 278 b (by unfold FPbox; omega)]; exact (h3 b hb).1
  · exact ISn.fr ((h3 b hb).2 hm) e0 (fun a k q1 q2 => e a k (by unfold FPbox; omega)) (fun k q1 q2 => e 279 k (by unfold FPbox; omega)) hN
/-- REPORTS -/
def Irep (σ : St_) : Prop := ∃ n : Nat, n ≤ 30 ∧ σ.1 174 7 = nI n ∧ σ.1 233 86 = nI n ∧ ∀ i, i < n →
  (∃ v, v < nH σ ∧ σ.1 175 i = nI v ∧ σ.1 270 i = nI v) ∧ (∃ v, v < nN σ ∧ σ.1 176 i = nI v ∧ σ.1 271 i = nI v) ∧ (∃ v, v < nN σ ∧ σ.1 177 i = nI v ∧ σ.1 272 i = nI v) ∧ (∃ v, v < nR σ ∧ σ.1 178 i = nI v ∧ σ.1 273 i = nI v) ∧
  (∃ b, σ.1 179 i = b2i b ∧ σ.1 276 i = b2i b) ∧ (σ.1 180 i = σ.1 274 i) ∧ (σ.1 181 i = σ.1 275 i ∧ (σ.1 181 i = -1 ∨ 0 ≤ σ.1 181 i)) ∧ ¬ σ.1 176 i = σ.1 177 i
def FPrep (c a k : Nat) : Prop := FPnums c a k ∨ (a = 174 ∧ k = 7) ∨ (a = 233 ∧ k = 86) ∨ (175 ≤ a ∧ a ≤ 181) ∨ (270 ≤ a ∧ a ≤ 276)
theorem Irep.fr (h : Irep σ) (e : ∀ a k, FPrep c a k → σ'.1 a k = σ.1 a k) : Irep σ' := by
  obtain ⟨-, g2, g3, g4, g5⟩ := nums_eq (c := c) (fun a k q => e a k (Or.inl q))
  obtain ⟨n, h1, h2, h3, h4⟩ := h
  refine ⟨n, h1, by rw [e 174 7 (by unfold FPrep; omega)]; exact h2, by rw [e 233 86 (by unfold FPrep; omega)]; exact h3, fun i hi => ?_⟩
  rw [g2, g3, g5, e 175 i (by unfold FPrep; omega), e 176 i (by unfold FPrep; omega), e 177 i (by unfold FPrep; omega), e 178 i (by unfold FPrep; omega), e 179 i (by unfold FPrep; omega), e 180 i (by unfold FPrep; omega), e 181 i (by unfold FPrep; omega), e 270 i (by unfold FPrep; omega), e 271 i (by unfold FPrep; omega), e 272 i (by unfold FPrep; omega), e 273 i (by unfold FPrep; omega), e 274 i (by unfold FPrep; omega), e 275 i (by unfold FPrep; omega), e 276 i (by unfold FPrep; omega)]
  exact h4 i hi
/-- a law as steps: (0, number), (1, what is asked), (2, _) not, (3, sign) -/
def lstepC (q : Nat × Int32) : Int32 := if q.1 = 0 then 0 else if q.1 = 1 then 1 else if q.1 = 2 then 2 else if q.2 = 38 then 3 else if q.2 = 124 then 4 else q.2
def lsign (x : Int32) : Bool := x == 38 || x == 124 || x == 60 || x == 62 || x == 61 || x == 43 || x == 45 || x == 42 || x == 47 || x == 37
/-- from d values on the stack it can be done, to one -/
def lwf : List (Nat × Int32) → Nat → Bool
  | [], d => d == 1
  | q :: l, d => if q.1 = 0 then decide (d < 30) && lwf l (d + 1) else if q.1 = 1 then decide (d < 30) && (decide (0 ≤ q.2) && decide (q.2 < 7)) && lwf l (d + 1) else if q.1 = 2 then decide (1 ≤ d) && lwf l d else decide (q.1 = 3) && lsign q.2 && decide (2 ≤ d) && lwf l (d - 1)
def Ilaw (c : Nat) (σ : St_) : Prop := σ.1 (c + 11) 5 = σ.1 233 23 ∧ ((σ.1 233 59 = 0 ∧ σ.1 (c + 11) 4 = 0) ∨ (σ.1 233 59 = 1 ∧ ∃ lw : List (Nat × Int32), lw ≠ [] ∧ lw.length ≤ 300 ∧ σ.1 (c + 11) 4 = nI lw.length ∧ σ.1 233 20 = nI lw.length ∧ lwf lw 0 = true ∧ ∀ i q, lw[i]? = some q → σ.1 (c + 12) i = lstepC q ∧ (q.1 ≤ 1 → σ.1 (c + 13) i = q.2) ∧ σ.1 239 i = nI q.1 ∧ (q.1 ≠ 2 → σ.1 240 i = q.2)))
def FPlaw (c a k : Nat) : Prop := (a = c + 11 ∧ (k = 4 ∨ k = 5)) ∨ a = c + 12 ∨ a = c + 13 ∨ a = 239 ∨ a = 240 ∨ (a = 233 ∧ (k = 20 ∨ k = 23 ∨ k = 59))
theorem Ilaw.fr (h : Ilaw c σ) (e : ∀ a k, FPlaw c a k → σ'.1 a k = σ.1 a k) : Ilaw c σ' := by
  unfold Ilaw
  rw [e (c + 11) 5 (by unfold FPlaw; omega), e (c + 11) 4 (by unfold FPlaw; omega), e 233 20 (by unfold FPlaw; omega), e 233 23 (by unfold FPlaw; omega), e 233 59 (by unfold FPlaw; omega)]
  refine ⟨h.1, h.2.imp id (fun h2 => ⟨h2.1, ?_⟩)⟩
  obtain ⟨lw, h3, h4, h5, h6, h7, h8⟩ := h2.2
  refine ⟨lw, h3, h4, h5, h6, h7, fun i q hq => ?_⟩
  rw [e (c + 12) i (by unfold FPlaw; omega), e (c + 13) i (by unfold FPlaw; omega), e 239 i (by unfold FPlaw; omega), e 240 i (by unfold FPlaw; omega)]
  exact h8 i q hq
/-- WHAT HOLDS BETWEEN CALLS -/
def INV (sw : Bool) (σ : St_) : Prop := Itape σ ∧ Ifault σ ∧ Itime σ ∧ Ilaid σ ∧ Iother σ ∧ Inums (twO sw) σ ∧ Iarr (twO sw) σ ∧ Ihou (twO sw) σ ∧ Ithi (twO sw) σ ∧ Ival (twO sw) σ ∧ Isaid (twO sw) σ ∧ Ilaw (twO sw) σ ∧ Inow σ ∧ Iacts σ ∧ Ibox σ ∧ Irep σ
theorem twO_or (sw : Bool) : twO sw = 12 ∨ twO sw = 28 := by cases sw <;> decide
end PURE2
