section PURE3
variable {σ σ1 σ2 : St_}
/-! numbers -/
theorem pn_of {x : Int32} (h : 0 ≤ x) : x = nI x.toNatClampNeg := by
  apply Int32.toInt_inj.mp
  have h0 : 0 ≤ x.toInt := by simpa using Int32.le_iff_toInt_le.mp h
  have h1 : x.toInt < 2 ^ 31 := Int32.toInt_lt x
  have e : x.toNatClampNeg = x.toInt.toNat := rfl
  rw [e, nI_toInt (by omega)]
  omega
theorem pn_lt31 (x : Int32) : x.toNatClampNeg < 2 ^ 31 := by
  have h1 : x.toInt < 2 ^ 31 := Int32.toInt_lt x
  have e : x.toNatClampNeg = x.toInt.toNat := rfl
  rw [e]
  omega
theorem pn_cl {n : Nat} (h : n < 2 ^ 31) : (nI n).toNatClampNeg = n := Int32.toNatClampNeg_ofNat_of_lt h
theorem pn_le {a b : Nat} (ha : a < 2 ^ 31) (hb : b < 2 ^ 31) : nI a ≤ nI b ↔ a ≤ b := by
  rw [Int32.le_iff_toInt_le, nI_toInt ha, nI_toInt hb]
  omega
theorem pn_lt {a b : Nat} (ha : a < 2 ^ 31) (hb : b < 2 ^ 31) : nI a < nI b ↔ a < b := by
  rw [Int32.lt_iff_toInt_lt, nI_toInt ha, nI_toInt hb]
  omega
theorem pn_inj {a b : Nat} (ha : a < 2 ^ 31) (hb : b < 2 ^ 31) (h : nI a = nI b) : a = b := by
  have := congrArg Int32.toInt h
  rw [nI_toInt ha, nI_toInt hb] at this
  omega
theorem pn_nn {a : Nat} (ha : a < 2 ^ 31) : ¬ nI a < 0 := by
  rw [Int32.lt_iff_toInt_lt, nI_toInt ha]
  simp
theorem pn_bin {i n : Nat} (hi : i < 2 ^ 31) : bin (nI i) n = decide (i < n) := by
  unfold bin
  rw [pn_cl hi]
  simp [pn_nn hi]
theorem nn_of {x : Int32} (h : ¬ x < 0) : 0 ≤ x := Int32.not_lt.mp h
/-! end -/
theorem core_1 {tw dr : Nat} (p1 : Int32) (hI : Itape σ) : ∃ (r : Int32) (σ1 σ2 : St_), mX11_end 0 tw dr p1 σ = some (r, σ1) ∧ mX12_end 233 p1 σ1 = some (r, σ2) ∧ Itape σ2 := by
  obtain ⟨n, hn, h1, h2, h3⟩ := id hI
  unfold mX11_end mX12_end bnd
  by_cases hp : p1 < 0
  · exact ⟨-1, σ, σ, by rw [if_pos hp], by rw [if_pos hp], hI⟩
  · have hp0 := pn_of (nn_of hp)
    by_cases hq : p1 ≤ nI n
    · refine ⟨p1, sI σ 3 1 p1, sI (sI σ 3 1 p1) 233 1 p1, ?_, ?_, ?_⟩
      · rw [if_neg hp, show (0 + 3 : Nat) = 3 from rfl, h1, if_pos hq]
      · have e : (sI σ 3 1 p1).1 233 1 = nI n := by rw [sI_get]; simp [h2]
        rw [if_neg hp, e, if_pos hq]
      · rw [hp0, pn_le (pn_lt31 p1) (by omega)] at hq
        refine ⟨p1.toNatClampNeg, by omega, by simp [sI_get]; exact hp0, by simp [sI_get]; exact hp0, fun i hi => ?_⟩
        have := h3 i (by omega)
        simpa [sI_get] using this
    · refine ⟨-1, σ, σ, ?_, ?_, hI⟩
      · rw [if_neg hp, show (0 + 3 : Nat) = 3 from rfl, h1, if_neg hq]
      · rw [if_neg hp, h2, if_neg hq]
/-! fault -/
theorem core_3 {tw dr : Nat} (p1 : Int32) (hI : Ifault σ) : ∃ r : Int32, mX11_fault 0 tw dr p1 σ = some r ∧ mX12_fault 233 p1 σ = some r := by
  unfold mX11_fault mX12_fault
  rw [show (0 + 3 : Nat) = 3 from rfl, hI.1, hI.2]
  by_cases h0 : p1 = 0
  · exact ⟨_, by rw [if_pos h0], by rw [if_pos h0]⟩
  · by_cases h1 : p1 = 1
    · exact ⟨_, by rw [if_neg h0, if_pos h1], by rw [if_neg h0, if_pos h1]⟩
    · exact ⟨_, by rw [if_neg h0, if_neg h1], by rw [if_neg h0, if_neg h1]⟩
/-! later -/
theorem core_29 {tw dr : Nat} (p1 : Int32) (hI : Itime σ) : ∃ (r : Int32) (σ1 σ2 : St_), mX11_later 0 tw dr p1 σ = some (r, σ1) ∧ mX12_later 233 p1 σ1 = some (r, σ2) ∧ Itime σ2 := by
  obtain ⟨h1, h2, h3⟩ := id hI
  unfold mX11_later mX12_later bnd
  by_cases hp : p1 < 0
  · exact ⟨-1, σ, σ, by rw [if_pos hp], by rw [if_pos hp], hI⟩
  · by_cases hq : (1000 : Int32) < p1
    · exact ⟨-1, σ, σ, by rw [if_neg hp, if_pos hq], by rw [if_neg hp, if_pos hq], hI⟩
    · by_cases hr : σ.1 0 11 + p1 ≤ 100000
      · refine ⟨σ.1 0 11 + p1, sI σ 0 11 (σ.1 0 11 + p1), sI (sI σ 0 11 (σ.1 0 11 + p1)) 233 87 (σ.1 0 11 + p1), ?_, ?_, ?_⟩
        · rw [if_neg hp, if_neg hq, if_pos hr]
          simp [sI_get]
        · have e : (sI σ 0 11 (σ.1 0 11 + p1)).1 233 87 = σ.1 0 11 := by rw [sI_get, h1]; simp
          rw [if_neg hp, if_neg hq, e, if_pos hr]
          simp [sI_get]
        · refine ⟨by simp [sI_get], ?_, by simpa [sI_get] using hr⟩
          have a1 := Int32.le_iff_toInt_le.mp h2
          have a2 := Int32.le_iff_toInt_le.mp h3
          have a3 := Int32.le_iff_toInt_le.mp (nn_of hp)
          have a4 := Int32.le_iff_toInt_le.mp (Int32.not_lt.mp hq)
          have z0 : (0 : Int32).toInt = 0 := rfl
          have z1 : (1000 : Int32).toInt = 1000 := rfl
          have z2 : (100000 : Int32).toInt = 100000 := rfl
          rw [z0] at a1 a3
          rw [z1] at a4
          rw [z2] at a2
          have : (sI (sI σ 0 11 (σ.1 0 11 + p1)) 233 87 (σ.1 0 11 + p1)).1 0 11 = σ.1 0 11 + p1 := by simp [sI_get]
          rw [this, Int32.le_iff_toInt_le, Int32.toInt_add, z0, Int.bmod_eq_of_le (by omega) (by omega)]
          omega
      · refine ⟨-1, σ, σ, ?_, ?_, hI⟩
        · rw [if_neg hp, if_neg hq, if_neg hr]
        · rw [if_neg hp, if_neg hq, ← h1, if_neg hr]
/-! lies -/
theorem isIn_eq (v a b : Int32) : mX12_isIn v a b σ = some (decide (a ≤ v) && decide (v ≤ b)) := by
  unfold mX12_isIn
  by_cases h1 : a ≤ v
  · by_cases h2 : v ≤ b
    · simp [h1, h2, Int32.not_lt.mpr h1, Int32.not_lt.mpr h2]
    · simp [h1, h2, Int32.not_lt.mpr h1, Int32.not_le.mp h2]
  · simp [h1, Int32.not_le.mp h1]
theorem pn_sub1 {n : Nat} (h : n < 2 ^ 31) : (nI n - 1).toInt = (n : Int) - 1 := by
  rw [Int32.toInt_sub, nI_toInt h]
  have : (1 : Int32).toInt = 1 := rfl
  rw [this, Int.bmod_eq_of_le (by omega) (by omega)]
/-- a place within n, asked as the reference does -/
theorem pn_in {x : Int32} {n : Nat} (h : n < 2 ^ 31) : (decide (0 ≤ x) && decide (x ≤ nI n - 1)) = bin x n := by
  unfold bin
  have e : x.toNatClampNeg = x.toInt.toNat := rfl
  by_cases h0 : x < 0
  · have : ¬ 0 ≤ x := Int32.not_le.mpr h0
    simp [h0, this]
  · have hx := nn_of h0
    have hx2 : 0 ≤ x.toInt := by simpa using Int32.le_iff_toInt_le.mp hx
    simp only [hx, h0, decide_true, decide_false, Bool.not_false, Bool.true_and]
    rw [decide_eq_decide, Int32.le_iff_toInt_le, pn_sub1 h, e]
    omega
theorem core_26 {tw dr : Nat} (p1 : Int32) (hI : Ilaid σ) : ∃ r : Int32, mX11_lies 0 tw dr p1 σ = some r ∧ mX12_lies 233 p1 σ = some r := by
  obtain ⟨n, hn, h1, h2, h3⟩ := hI
  unfold mX11_lies mX12_lies bnd
  rw [h1, h2, isIn_eq, pn_in (by omega), show (0 + 173 : Nat) = 173 from rfl, show (233 + 32 : Nat) = 265 from rfl]
  by_cases hp : p1 < 0
  · refine ⟨-1000000, by rw [if_pos hp], ?_⟩
    have : bin p1 n = false := by unfold bin; simp [hp]
    rw [this]
    rfl
  · have hp0 := pn_of (nn_of hp)
    have hl := pn_lt31 p1
    generalize p1.toNatClampNeg = i at hp0 hl
    subst hp0
    rw [if_neg hp, pn_bin hl, pn_bin hl, pn_bin hl]
    by_cases hi : i < n
    · refine ⟨σ.1 173 i, ?_, ?_⟩
      · rw [if_neg (by rw [pn_le (by omega) hl]; omega)]
        simp [show i < 30 by omega]
      · simp [hi, show i < 32 by omega, h3 i hi]
    · refine ⟨-1000000, ?_, ?_⟩
      · rw [if_pos (by rw [pn_le (by omega) hl]; omega)]
      · simp [hi]
end PURE3
