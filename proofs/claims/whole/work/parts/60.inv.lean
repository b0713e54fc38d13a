/-! THE PURE PART. What holds between the class' cells and the reference's cells, in components, each with the cells that it reads. -/
section PURE
variable {σ σ' : St_} {c : Nat}
theorem sI_get (σ : St_) (i k : Nat) (x : Int32) (a b : Nat) : (sI σ i k x).1 a b = if a = i ∧ b = k then x else σ.1 a b := by
  by_cases ha : a = i
  · subst ha
    by_cases hb : b = k
    · simp [sI, up2, hb]
    · simp [sI, up2, hb]
  · simp [sI, up2, ha]
theorem sI_2 (σ : St_) (i k : Nat) (x : Int32) : (sI σ i k x).2 = σ.2 := rfl
theorem sL_1 (σ : St_) (i k : Nat) (x : Int64) : (sL σ i k x).1 = σ.1 := rfl
/-- numbers of the reference's CITY -/
def nK (σ : St_) : Nat := (σ.1 233 51).toNatClampNeg
def nN (σ : St_) : Nat := (σ.1 233 52).toNatClampNeg
def nH (σ : St_) : Nat := (σ.1 233 53).toNatClampNeg
def nT (σ : St_) : Nat := (σ.1 233 54).toNatClampNeg
def nR (σ : St_) : Nat := (σ.1 233 55).toNatClampNeg
def Itape (σ : St_) : Prop := ∃ n : Nat, n ≤ 1700 ∧ σ.1 3 1 = nI n ∧ σ.1 233 1 = nI n ∧ ∀ i, i < n → σ.1 4 i = σ.1 234 i ∧ 0 ≤ σ.1 4 i ∧ σ.1 4 i ≤ 255
def FPtape (a k : Nat) : Prop := (a = 3 ∧ k = 1) ∨ (a = 233 ∧ k = 1) ∨ a = 4 ∨ a = 234
theorem Itape.fr (h : Itape σ) (e : ∀ a k, FPtape a k → σ'.1 a k = σ.1 a k) : Itape σ' := by
  obtain ⟨n, h1, h2, h3, h4⟩ := h
  refine ⟨n, h1, by rw [e 3 1 (by unfold FPtape; omega)]; exact h2, by rw [e 233 1 (by unfold FPtape; omega)]; exact h3, fun i hi => ?_⟩
  rw [e 4 i (by unfold FPtape; omega), e 234 i (by unfold FPtape; omega)]
  exact h4 i hi
def Ifault (σ : St_) : Prop := σ.1 3 7 = σ.1 233 2 ∧ σ.1 3 8 = σ.1 233 3
def FPfault (a k : Nat) : Prop := (a = 3 ∧ (k = 7 ∨ k = 8)) ∨ (a = 233 ∧ (k = 2 ∨ k = 3))
theorem Ifault.fr (h : Ifault σ) (e : ∀ a k, FPfault a k → σ'.1 a k = σ.1 a k) : Ifault σ' := by
  unfold Ifault
  rw [e 3 7 (by unfold FPfault; omega), e 3 8 (by unfold FPfault; omega), e 233 2 (by unfold FPfault; omega), e 233 3 (by unfold FPfault; omega)]
  exact h
def Itime (σ : St_) : Prop := σ.1 0 11 = σ.1 233 87 ∧ 0 ≤ σ.1 0 11 ∧ σ.1 0 11 ≤ 100000
def FPtime (a k : Nat) : Prop := (a = 0 ∧ k = 11) ∨ (a = 233 ∧ k = 87)
theorem Itime.fr (h : Itime σ) (e : ∀ a k, FPtime a k → σ'.1 a k = σ.1 a k) : Itime σ' := by
  unfold Itime
  rw [e 0 11 (by unfold FPtime; omega), e 233 87 (by unfold FPtime; omega)]
  exact h
def Ilaid (σ : St_) : Prop := ∃ n : Nat, n ≤ 30 ∧ σ.1 0 9 = nI n ∧ σ.1 233 71 = nI n ∧ ∀ i, i < n → σ.1 173 i = σ.1 265 i
def FPlaid (a k : Nat) : Prop := (a = 0 ∧ k = 9) ∨ (a = 233 ∧ k = 71) ∨ a = 173 ∨ a = 265
theorem Ilaid.fr (h : Ilaid σ) (e : ∀ a k, FPlaid a k → σ'.1 a k = σ.1 a k) : Ilaid σ' := by
  obtain ⟨n, h1, h2, h3, h4⟩ := h
  refine ⟨n, h1, by rw [e 0 9 (by unfold FPlaid; omega)]; exact h2, by rw [e 233 71 (by unfold FPlaid; omega)]; exact h3, fun i hi => ?_⟩
  rw [e 173 i (by unfold FPlaid; omega), e 265 i (by unfold FPlaid; omega)]
  exact h4 i hi
def Iother (σ : St_) : Prop := σ.1 233 64 = -1 ∧ σ.1 233 65 = -1
def FPother (a k : Nat) : Prop := a = 233 ∧ (k = 64 ∨ k = 65)
theorem Iother.fr (h : Iother σ) (e : ∀ a k, FPother a k → σ'.1 a k = σ.1 a k) : Iother σ' := by
  unfold Iother
  rw [e 233 64 (by unfold FPother; omega), e 233 65 (by unfold FPother; omega)]
  exact h
/-- how many KINDS, THINGS, HOUSES, THIEVES, HOURS -/
def Inums (c : Nat) (σ : St_) : Prop := (nK σ ≤ 6 ∧ σ.1 233 51 = nI (nK σ) ∧ σ.1 c 1 = nI (nK σ)) ∧ (nN σ ≤ 10 ∧ σ.1 233 52 = nI (nN σ) ∧ σ.1 c 2 = nI (nN σ)) ∧ (nH σ ≤ 5 ∧ σ.1 233 53 = nI (nH σ) ∧ σ.1 c 3 = nI (nH σ)) ∧ (nT σ ≤ 4 ∧ σ.1 233 54 = nI (nT σ) ∧ σ.1 c 4 = nI (nT σ)) ∧ (1 ≤ nR σ ∧ nR σ ≤ 9 ∧ σ.1 233 55 = nI (nR σ) ∧ σ.1 c 0 = nI (nR σ))
def FPnums (c a k : Nat) : Prop := (a = 233 ∧ 51 ≤ k ∧ k ≤ 55) ∨ (a = c ∧ k ≤ 4)
theorem nums_eq (e : ∀ a k, FPnums c a k → σ'.1 a k = σ.1 a k) : nK σ' = nK σ ∧ nN σ' = nN σ ∧ nH σ' = nH σ ∧ nT σ' = nT σ ∧ nR σ' = nR σ := by
  unfold nK nN nH nT nR
  rw [e 233 51 (by unfold FPnums; omega), e 233 52 (by unfold FPnums; omega), e 233 53 (by unfold FPnums; omega), e 233 54 (by unfold FPnums; omega), e 233 55 (by unfold FPnums; omega)]
  exact ⟨rfl, rfl, rfl, rfl, rfl⟩
theorem Inums.fr (h : Inums c σ) (e : ∀ a k, FPnums c a k → σ'.1 a k = σ.1 a k) : Inums c σ' := by
  obtain ⟨e1, e2, e3, e4, e5⟩ := nums_eq e
  unfold Inums
  rw [e1, e2, e3, e4, e5, e 233 51 (by unfold FPnums; omega), e 233 52 (by unfold FPnums; omega), e 233 53 (by unfold FPnums; omega), e 233 54 (by unfold FPnums; omega), e 233 55 (by unfold FPnums; omega), e c 0 (by unfold FPnums; omega), e c 1 (by unfold FPnums; omega), e c 2 (by unfold FPnums; omega), e c 3 (by unfold FPnums; omega), e c 4 (by unfold FPnums; omega)]
  exact h
/-- THINGS: KIND, weight, worth -/
def Iarr (c : Nat) (σ : St_) : Prop := ∀ x, x < nN σ → (∃ v, v < 6 ∧ σ.1 (c + 1) x = nI v ∧ σ.1 253 x = nI v) ∧ (∃ v, v ≤ 99 ∧ σ.1 (c + 2) x = nI v ∧ σ.1 254 x = nI v) ∧ (∃ v, v ≤ 99 ∧ σ.1 (c + 3) x = nI v ∧ σ.1 255 x = nI v)
def FParr (c a k : Nat) : Prop := FPnums c a k ∨ (c + 1 ≤ a ∧ a ≤ c + 3) ∨ (253 ≤ a ∧ a ≤ 255)
theorem Iarr.fr (h : Iarr c σ) (e : ∀ a k, FParr c a k → σ'.1 a k = σ.1 a k) : Iarr c σ' := by
  obtain ⟨-, e2, -⟩ := nums_eq (c := c) (fun a k q => e a k (Or.inl q))
  intro x hx
  rw [e2] at hx
  rw [e (c + 1) x (by unfold FParr; omega), e (c + 2) x (by unfold FParr; omega), e (c + 3) x (by unfold FParr; omega), e 253 x (by unfold FParr; omega), e 254 x (by unfold FParr; omega), e 255 x (by unfold FParr; omega)]
  exact h x hx
/-- HOUSES: lock, watch -/
def Ihou (c : Nat) (σ : St_) : Prop := ∀ x, x < nH σ → (∃ v, v ≤ 9 ∧ σ.1 (c + 4) x = nI v ∧ σ.1 257 x = nI v) ∧ (∃ v, v < 512 ∧ σ.1 (c + 5) x = nI v ∧ σ.1 258 x = nI v)
def FPhou (c a k : Nat) : Prop := FPnums c a k ∨ (c + 4 ≤ a ∧ a ≤ c + 5) ∨ (257 ≤ a ∧ a ≤ 258)
theorem Ihou.fr (h : Ihou c σ) (e : ∀ a k, FPhou c a k → σ'.1 a k = σ.1 a k) : Ihou c σ' := by
  obtain ⟨-, -, e3, -⟩ := nums_eq (c := c) (fun a k q => e a k (Or.inl q))
  intro x hx
  rw [e3] at hx
  rw [e (c + 4) x (by unfold FPhou; omega), e (c + 5) x (by unfold FPhou; omega), e 257 x (by unfold FPhou; omega), e 258 x (by unfold FPhou; omega)]
  exact h x hx
/-- THIEVES: sack, skill -/
def Ithi (c : Nat) (σ : St_) : Prop := ∀ x, x < nT σ → (∃ v, v ≤ 999 ∧ σ.1 (c + 6) x = nI v ∧ σ.1 259 x = nI v) ∧ (∃ v, v ≤ 9 ∧ σ.1 (c + 7) x = nI v ∧ σ.1 260 x = nI v)
def FPthi (c a k : Nat) : Prop := FPnums c a k ∨ (c + 6 ≤ a ∧ a ≤ c + 7) ∨ (259 ≤ a ∧ a ≤ 260)
theorem Ithi.fr (h : Ithi c σ) (e : ∀ a k, FPthi c a k → σ'.1 a k = σ.1 a k) : Ithi c σ' := by
  obtain ⟨-, -, -, e4, -⟩ := nums_eq (c := c) (fun a k q => e a k (Or.inl q))
  intro x hx
  rw [e4] at hx
  rw [e (c + 6) x (by unfold FPthi; omega), e (c + 7) x (by unfold FPthi; omega), e 259 x (by unfold FPthi; omega), e 260 x (by unfold FPthi; omega)]
  exact h x hx
/-- WORTHS: the class' row for a HOLDER; the reference's dear, or its worth -/
def Ival (c : Nat) (σ : St_) : Prop := ∀ x, x < nN σ → ∀ h, h < 9 → ∃ v, v ≤ 99 ∧ σ.1 (c + 8) (h * 10 + x) = nI v ∧ (if σ.1 261 (9 * x + h) = -1 then σ.1 255 x else σ.1 261 (9 * x + h)) = nI v
def FPval (c a k : Nat) : Prop := FPnums c a k ∨ a = c + 8 ∨ a = 261 ∨ a = 255
theorem Ival.fr (h : Ival c σ) (e : ∀ a k, FPval c a k → σ'.1 a k = σ.1 a k) : Ival c σ' := by
  obtain ⟨-, e2, -⟩ := nums_eq (c := c) (fun a k q => e a k (Or.inl q))
  intro x hx y hy
  rw [e2] at hx
  rw [e (c + 8) _ (by unfold FPval; omega), e 261 _ (by unfold FPval; omega), e 255 _ (by unfold FPval; omega)]
  exact h x hx y hy
/-- what law counts is the WORTH, between calls -/
def Isaid (c : Nat) (σ : St_) : Prop := ∀ j, j < 50 → σ.1 (c + 9) j = σ.1 (c + 8) j
def FPsaid (c a : Nat) : Prop := a = c + 8 ∨ a = c + 9
theorem Isaid.fr (h : Isaid c σ) (e : ∀ a k, FPsaid c a → σ'.1 a k = σ.1 a k) : Isaid c σ' := by
  intro j hj
  rw [e (c + 8) j (by unfold FPsaid; omega), e (c + 9) j (by unfold FPsaid; omega)]
  exact h j hj
end PURE
