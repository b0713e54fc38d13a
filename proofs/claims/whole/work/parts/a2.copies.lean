/-! the reference's copies behind the reading -/
section COPIES
variable {σ σ' ρ ρ' : St_}

theorem r_cp130 {k : St_ → Option (Int32 × St_)} : ∀ (r m i : Nat) (ρ : St_), i + r = 10 → r < m → ∃ Z, mX12_city_L130 233 k m (nI i) ρ = k Z ∧ ((∀ j, i ≤ j → j < 10 → Z.1 253 j = ρ.1 244 j) ∧ (∀ j, i ≤ j → j < 10 → Z.1 254 j = ρ.1 245 j) ∧ (∀ j, i ≤ j → j < 10 → Z.1 255 j = ρ.1 246 j) ∧ (∀ j, i ≤ j → j < 10 → Z.1 256 j = ρ.1 247 j)) ∧ ∀ e j, ¬ ((e = 253 ∨ e = 254 ∨ e = 255 ∨ e = 256) ∧ i ≤ j ∧ j < 10) → Z.1 e j = ρ.1 e j
  | 0, m, i, ρ, hi, hm => by
    obtain ⟨m, rfl, -⟩ := fu_suc hm
    refine ⟨ρ, ?_, ⟨fun j h1 h2 => by omega, fun j h1 h2 => by omega, fun j h1 h2 => by omega, fun j h1 h2 => by omega⟩, fun _ _ _ => rfl⟩
    unfold mX12_city_L130
    rw [if_pos (show (10 : Int32) ≤ nI i from nI_le (a := 10) (by omega) (by omega))]
  | r + 1, m, i, ρ, hi, hm => by
    obtain ⟨m, rfl, hm⟩ := fu_suc hm
    generalize hA0 : sI ρ 253 i (ρ.1 244 i) = A0
    generalize hA1 : sI A0 254 i (ρ.1 245 i) = A1
    generalize hA2 : sI A1 255 i (ρ.1 246 i) = A2
    generalize hA3 : sI A2 256 i (ρ.1 247 i) = A3
    have g1 : A0.1 245 i = ρ.1 245 i := by rw [← hA0, sI_get, if_neg (by omega)]
    have g2 : A1.1 246 i = ρ.1 246 i := by rw [← hA1, sI_get, if_neg (by omega), ← hA0, sI_get, if_neg (by omega)]
    have g3 : A2.1 247 i = ρ.1 247 i := by rw [← hA2, sI_get, if_neg (by omega), ← hA1, sI_get, if_neg (by omega), ← hA0, sI_get, if_neg (by omega)]
    have fr : ∀ e j, ¬ ((e = 253 ∨ e = 254 ∨ e = 255 ∨ e = 256) ∧ j = i) → A3.1 e j = ρ.1 e j := fun e j w => by rw [← hA3, sI_get, if_neg (by omega), ← hA2, sI_get, if_neg (by omega), ← hA1, sI_get, if_neg (by omega), ← hA0, sI_get, if_neg (by omega)]
    have v0 : A3.1 253 i = ρ.1 244 i := by rw [← hA3, sI_get, if_neg (by omega), ← hA2, sI_get, if_neg (by omega), ← hA1, sI_get, if_neg (by omega), ← hA0, sI_get, if_pos ⟨rfl, rfl⟩]
    have v1 : A3.1 254 i = ρ.1 245 i := by rw [← hA3, sI_get, if_neg (by omega), ← hA2, sI_get, if_neg (by omega), ← hA1, sI_get, if_pos ⟨rfl, rfl⟩]
    have v2 : A3.1 255 i = ρ.1 246 i := by rw [← hA3, sI_get, if_neg (by omega), ← hA2, sI_get, if_pos ⟨rfl, rfl⟩]
    have v3 : A3.1 256 i = ρ.1 247 i := by rw [← hA3, sI_get, if_pos ⟨rfl, rfl⟩]
    obtain ⟨Z, z1, ⟨z2, z3, z4, z5⟩, zf⟩ := r_cp130 (k := k) r m (i + 1) A3 (by omega) (by omega)
    refine ⟨Z, ?_, ⟨fun j h1 h2 => ?_, fun j h1 h2 => ?_, fun j h1 h2 => ?_, fun j h1 h2 => ?_⟩, fun e j w => by rw [zf e j (by omega), fr e j (by omega)]⟩
    · conv => lhs; unfold mX12_city_L130
      simp only [bnd_eq]
      rw [if_neg (show ¬ (10 : Int32) ≤ nI i from nI_ge (b := 10) (by omega) (by omega)), binn (show i < 10 by omega) (by omega), pn_cl (show i < 2 ^ 31 by omega)]
      simp only [if_true]
      rw [show 233 + 11 = 244 from rfl, show 233 + 12 = 245 from rfl, show 233 + 13 = 246 from rfl, show 233 + 14 = 247 from rfl, show 233 + 20 = 253 from rfl, show 233 + 21 = 254 from rfl, show 233 + 22 = 255 from rfl, show 233 + 23 = 256 from rfl, hA0, g1, hA1, g2, hA2, g3, hA3, nI_1, z1]
    · by_cases q : j = i
      · rw [q, zf _ _ (by omega), v0]
      · rw [z2 j (by omega) h2, fr _ _ (by omega)]
    · by_cases q : j = i
      · rw [q, zf _ _ (by omega), v1]
      · rw [z3 j (by omega) h2, fr _ _ (by omega)]
    · by_cases q : j = i
      · rw [q, zf _ _ (by omega), v2]
      · rw [z4 j (by omega) h2, fr _ _ (by omega)]
    · by_cases q : j = i
      · rw [q, zf _ _ (by omega), v3]
      · rw [z5 j (by omega) h2, fr _ _ (by omega)]

theorem r_cp192 {k : St_ → Option (Int32 × St_)} : ∀ (r m i : Nat) (ρ : St_), i + r = 5 → r < m → ∃ Z, mX12_city_L192 233 k m (nI i) ρ = k Z ∧ ((∀ j, i ≤ j → j < 5 → Z.1 257 j = ρ.1 248 j) ∧ (∀ j, i ≤ j → j < 5 → Z.1 258 j = ρ.1 249 j)) ∧ ∀ e j, ¬ ((e = 257 ∨ e = 258) ∧ i ≤ j ∧ j < 5) → Z.1 e j = ρ.1 e j
  | 0, m, i, ρ, hi, hm => by
    obtain ⟨m, rfl, -⟩ := fu_suc hm
    refine ⟨ρ, ?_, ⟨fun j h1 h2 => by omega, fun j h1 h2 => by omega⟩, fun _ _ _ => rfl⟩
    unfold mX12_city_L192
    rw [if_pos (show (5 : Int32) ≤ nI i from nI_le (a := 5) (by omega) (by omega))]
  | r + 1, m, i, ρ, hi, hm => by
    obtain ⟨m, rfl, hm⟩ := fu_suc hm
    generalize hA0 : sI ρ 257 i (ρ.1 248 i) = A0
    generalize hA1 : sI A0 258 i (ρ.1 249 i) = A1
    have g1 : A0.1 249 i = ρ.1 249 i := by rw [← hA0, sI_get, if_neg (by omega)]
    have fr : ∀ e j, ¬ ((e = 257 ∨ e = 258) ∧ j = i) → A1.1 e j = ρ.1 e j := fun e j w => by rw [← hA1, sI_get, if_neg (by omega), ← hA0, sI_get, if_neg (by omega)]
    have v0 : A1.1 257 i = ρ.1 248 i := by rw [← hA1, sI_get, if_neg (by omega), ← hA0, sI_get, if_pos ⟨rfl, rfl⟩]
    have v1 : A1.1 258 i = ρ.1 249 i := by rw [← hA1, sI_get, if_pos ⟨rfl, rfl⟩]
    obtain ⟨Z, z1, ⟨z2, z3⟩, zf⟩ := r_cp192 (k := k) r m (i + 1) A1 (by omega) (by omega)
    refine ⟨Z, ?_, ⟨fun j h1 h2 => ?_, fun j h1 h2 => ?_⟩, fun e j w => by rw [zf e j (by omega), fr e j (by omega)]⟩
    · conv => lhs; unfold mX12_city_L192
      simp only [bnd_eq]
      rw [if_neg (show ¬ (5 : Int32) ≤ nI i from nI_ge (b := 5) (by omega) (by omega)), binn (show i < 5 by omega) (by omega), pn_cl (show i < 2 ^ 31 by omega)]
      simp only [if_true]
      rw [show 233 + 15 = 248 from rfl, show 233 + 16 = 249 from rfl, show 233 + 24 = 257 from rfl, show 233 + 25 = 258 from rfl, hA0, g1, hA1, nI_1, z1]
    · by_cases q : j = i
      · rw [q, zf _ _ (by omega), v0]
      · rw [z2 j (by omega) h2, fr _ _ (by omega)]
    · by_cases q : j = i
      · rw [q, zf _ _ (by omega), v1]
      · rw [z3 j (by omega) h2, fr _ _ (by omega)]

theorem r_cp229 {k : St_ → Option (Int32 × St_)} : ∀ (r m i : Nat) (ρ : St_), i + r = 4 → r < m → ∃ Z, mX12_city_L229 233 k m (nI i) ρ = k Z ∧ ((∀ j, i ≤ j → j < 4 → Z.1 259 j = ρ.1 250 j) ∧ (∀ j, i ≤ j → j < 4 → Z.1 260 j = ρ.1 251 j)) ∧ ∀ e j, ¬ ((e = 259 ∨ e = 260) ∧ i ≤ j ∧ j < 4) → Z.1 e j = ρ.1 e j
  | 0, m, i, ρ, hi, hm => by
    obtain ⟨m, rfl, -⟩ := fu_suc hm
    refine ⟨ρ, ?_, ⟨fun j h1 h2 => by omega, fun j h1 h2 => by omega⟩, fun _ _ _ => rfl⟩
    unfold mX12_city_L229
    rw [if_pos (show (4 : Int32) ≤ nI i from nI_le (a := 4) (by omega) (by omega))]
  | r + 1, m, i, ρ, hi, hm => by
    obtain ⟨m, rfl, hm⟩ := fu_suc hm
    generalize hA0 : sI ρ 259 i (ρ.1 250 i) = A0
    generalize hA1 : sI A0 260 i (ρ.1 251 i) = A1
    have g1 : A0.1 251 i = ρ.1 251 i := by rw [← hA0, sI_get, if_neg (by omega)]
    have fr : ∀ e j, ¬ ((e = 259 ∨ e = 260) ∧ j = i) → A1.1 e j = ρ.1 e j := fun e j w => by rw [← hA1, sI_get, if_neg (by omega), ← hA0, sI_get, if_neg (by omega)]
    have v0 : A1.1 259 i = ρ.1 250 i := by rw [← hA1, sI_get, if_neg (by omega), ← hA0, sI_get, if_pos ⟨rfl, rfl⟩]
    have v1 : A1.1 260 i = ρ.1 251 i := by rw [← hA1, sI_get, if_pos ⟨rfl, rfl⟩]
    obtain ⟨Z, z1, ⟨z2, z3⟩, zf⟩ := r_cp229 (k := k) r m (i + 1) A1 (by omega) (by omega)
    refine ⟨Z, ?_, ⟨fun j h1 h2 => ?_, fun j h1 h2 => ?_⟩, fun e j w => by rw [zf e j (by omega), fr e j (by omega)]⟩
    · conv => lhs; unfold mX12_city_L229
      simp only [bnd_eq]
      rw [if_neg (show ¬ (4 : Int32) ≤ nI i from nI_ge (b := 4) (by omega) (by omega)), binn (show i < 4 by omega) (by omega), pn_cl (show i < 2 ^ 31 by omega)]
      simp only [if_true]
      rw [show 233 + 17 = 250 from rfl, show 233 + 18 = 251 from rfl, show 233 + 26 = 259 from rfl, show 233 + 27 = 260 from rfl, hA0, g1, hA1, nI_1, z1]
    · by_cases q : j = i
      · rw [q, zf _ _ (by omega), v0]
      · rw [z2 j (by omega) h2, fr _ _ (by omega)]
    · by_cases q : j = i
      · rw [q, zf _ _ (by omega), v1]
      · rw [z3 j (by omega) h2, fr _ _ (by omega)]

theorem r_cp266 {k : St_ → Option (Int32 × St_)} : ∀ (r m i : Nat) (ρ : St_), i + r = 90 → r < m → ∃ Z, mX12_city_L266 233 k m (nI i) ρ = k Z ∧ ((∀ j, i ≤ j → j < 90 → Z.1 261 j = ρ.1 252 j)) ∧ ∀ e j, ¬ (e = 261 ∧ i ≤ j ∧ j < 90) → Z.1 e j = ρ.1 e j
  | 0, m, i, ρ, hi, hm => by
    obtain ⟨m, rfl, -⟩ := fu_suc hm
    refine ⟨ρ, ?_, fun j h1 h2 => by omega, fun _ _ _ => rfl⟩
    unfold mX12_city_L266
    rw [if_pos (show (90 : Int32) ≤ nI i from nI_le (a := 90) (by omega) (by omega))]
  | r + 1, m, i, ρ, hi, hm => by
    obtain ⟨m, rfl, hm⟩ := fu_suc hm
    generalize hA0 : sI ρ 261 i (ρ.1 252 i) = A0
    have fr : ∀ e j, ¬ (e = 261 ∧ j = i) → A0.1 e j = ρ.1 e j := fun e j w => by rw [← hA0, sI_get, if_neg (by omega)]
    have v0 : A0.1 261 i = ρ.1 252 i := by rw [← hA0, sI_get, if_pos ⟨rfl, rfl⟩]
    obtain ⟨Z, z1, z2, zf⟩ := r_cp266 (k := k) r m (i + 1) A0 (by omega) (by omega)
    refine ⟨Z, ?_, fun j h1 h2 => ?_, fun e j w => by rw [zf e j (by omega), fr e j (by omega)]⟩
    · conv => lhs; unfold mX12_city_L266
      simp only [bnd_eq]
      rw [if_neg (show ¬ (90 : Int32) ≤ nI i from nI_ge (b := 90) (by omega) (by omega)), binn (show i < 90 by omega) (by omega), pn_cl (show i < 2 ^ 31 by omega)]
      simp only [if_true]
      rw [show 233 + 19 = 252 from rfl, show 233 + 28 = 261 from rfl, hA0, nI_1, z1]
    · by_cases q : j = i
      · rw [q, zf _ _ (by omega), v0]
      · rw [z2 j (by omega) h2, fr _ _ (by omega)]

theorem r_cp90 {k : St_ → Option (Int32 × St_)} {l : Nat} (hl : l ≤ 320) : ∀ (r m i : Nat) (ρ : St_), i + r = l → r < m → ρ.1 233 20 = nI l → ∃ Z, mX12_city_L90 233 k m (nI i) ρ = k Z ∧ ((∀ j, i ≤ j → j < l → Z.1 239 j = ρ.1 237 j) ∧ (∀ j, i ≤ j → j < l → Z.1 240 j = ρ.1 238 j)) ∧ ∀ e j, ¬ ((e = 239 ∨ e = 240) ∧ i ≤ j ∧ j < l) → Z.1 e j = ρ.1 e j
  | 0, m, i, ρ, hi, hm, h20 => by
    obtain ⟨m, rfl, -⟩ := fu_suc hm
    refine ⟨ρ, ?_, ⟨fun j h1 h2 => by omega, fun j h1 h2 => by omega⟩, fun _ _ _ => rfl⟩
    unfold mX12_city_L90
    rw [h20, if_pos (nI_le (by omega) (by omega))]
  | r + 1, m, i, ρ, hi, hm, h20 => by
    obtain ⟨m, rfl, hm⟩ := fu_suc hm
    generalize hA0 : sI ρ 239 i (ρ.1 237 i) = A0
    generalize hA1 : sI A0 240 i (ρ.1 238 i) = A1
    have g1 : A0.1 238 i = ρ.1 238 i := by rw [← hA0, sI_get, if_neg (by omega)]
    have fr : ∀ e j, ¬ ((e = 239 ∨ e = 240) ∧ j = i) → A1.1 e j = ρ.1 e j := fun e j w => by rw [← hA1, sI_get, if_neg (by omega), ← hA0, sI_get, if_neg (by omega)]
    have v0 : A1.1 239 i = ρ.1 237 i := by rw [← hA1, sI_get, if_neg (by omega), ← hA0, sI_get, if_pos ⟨rfl, rfl⟩]
    have v1 : A1.1 240 i = ρ.1 238 i := by rw [← hA1, sI_get, if_pos ⟨rfl, rfl⟩]
    obtain ⟨Z, z1, ⟨z2, z3⟩, zf⟩ := r_cp90 (k := k) hl r m (i + 1) A1 (by omega) (by omega) (by rw [fr _ _ (by omega)]; exact h20)
    refine ⟨Z, ?_, ⟨fun j h1 h2 => ?_, fun j h1 h2 => ?_⟩, fun e j w => by rw [zf e j (by omega), fr e j (by omega)]⟩
    · conv => lhs; unfold mX12_city_L90
      simp only [bnd_eq]
      rw [h20, if_neg (show ¬ nI l ≤ nI i from nI_ge (by omega) (by omega)), binn (show i < 320 by omega) (by omega), pn_cl (show i < 2 ^ 31 by omega)]
      simp only [if_true]
      rw [show 233 + 4 = 237 from rfl, show 233 + 5 = 238 from rfl, show 233 + 6 = 239 from rfl, show 233 + 7 = 240 from rfl, hA0, g1, hA1, nI_1, z1]
    · by_cases q : j = i
      · rw [q, zf _ _ (by omega), v0]
      · rw [z2 j (by omega) h2, fr _ _ (by omega)]
    · by_cases q : j = i
      · rw [q, zf _ _ (by omega), v1]
      · rw [z3 j (by omega) h2, fr _ _ (by omega)]
theorem r_cp292 {k : St_ → Option (Int32 × St_)} : ∀ (r m i : Nat) (ρ : St_), i + r = 17 → r < m → ∃ Z, mX12_city_L292 233 k m (nI i) ρ = k Z ∧ (∀ j, i ≤ j → j < 17 → Z.1 262 j = 0) ∧ ∀ e j, ¬ (e = 262 ∧ i ≤ j ∧ j < 17) → Z.1 e j = ρ.1 e j
  | 0, m, i, ρ, hi, hm => by
    obtain ⟨m, rfl, -⟩ := fu_suc hm
    refine ⟨ρ, ?_, fun j h1 h2 => by omega, fun _ _ _ => rfl⟩
    unfold mX12_city_L292
    rw [if_pos (show (17 : Int32) ≤ nI i from nI_le (a := 17) (by omega) (by omega))]
  | r + 1, m, i, ρ, hi, hm => by
    obtain ⟨m, rfl, hm⟩ := fu_suc hm
    generalize hA0 : sI ρ 262 i (0 : Int32) = A0
    have fr : ∀ e j, ¬ (e = 262 ∧ j = i) → A0.1 e j = ρ.1 e j := fun e j w => by rw [← hA0, sI_get, if_neg w]
    obtain ⟨Z, z1, z2, zf⟩ := r_cp292 (k := k) r m (i + 1) A0 (by omega) (by omega)
    refine ⟨Z, ?_, fun j h1 h2 => ?_, fun e j w => by rw [zf e j (by omega), fr e j (by omega)]⟩
    · conv => lhs; unfold mX12_city_L292
      simp only [bnd_eq]
      rw [if_neg (show ¬ (17 : Int32) ≤ nI i from nI_ge (b := 17) (by omega) (by omega)), binn (show i < 20 by omega) (by omega), if_pos rfl, pn_cl (show i < 2 ^ 31 by omega), show 233 + 29 = 262 from rfl, hA0, nI_1, z1]
    · by_cases q : j = i
      · rw [q, zf _ _ (by omega), ← hA0, sI_get, if_pos ⟨rfl, rfl⟩]
      · exact z2 j (by omega) h2
theorem r_cp313 {k : St_ → Option (Int32 × St_)} {N : Nat} (hN : N ≤ 10) : ∀ (r m i : Nat) (ρ : St_), i + r = 10 → r < m → ρ.1 233 52 = nI N → ∃ Z, mX12_city_L313 233 k m (nI i) ρ = k Z ∧ (∀ j, i ≤ j → j < 10 → Z.1 262 j = if j < N then ρ.1 256 j else -1) ∧ ∀ e j, ¬ (e = 262 ∧ i ≤ j ∧ j < 10) → Z.1 e j = ρ.1 e j
  | 0, m, i, ρ, hi, hm, h52 => by
    obtain ⟨m, rfl, -⟩ := fu_suc hm
    refine ⟨ρ, ?_, fun j h1 h2 => by omega, fun _ _ _ => rfl⟩
    unfold mX12_city_L313
    rw [if_pos (show (10 : Int32) ≤ nI i from nI_le (a := 10) (by omega) (by omega))]
  | r + 1, m, i, ρ, hi, hm, h52 => by
    obtain ⟨m, rfl, hm⟩ := fu_suc hm
    generalize hA0 : sI ρ 262 i (if i < N then ρ.1 256 i else -1) = A0
    have fr : ∀ e j, ¬ (e = 262 ∧ j = i) → A0.1 e j = ρ.1 e j := fun e j w => by rw [← hA0, sI_get, if_neg w]
    obtain ⟨Z, z1, z2, zf⟩ := r_cp313 (k := k) hN r m (i + 1) A0 (by omega) (by omega) (by rw [fr _ _ (by omega)]; exact h52)
    refine ⟨Z, ?_, fun j h1 h2 => ?_, fun e j w => by rw [zf e j (by omega), fr e j (by omega)]⟩
    · conv => lhs; unfold mX12_city_L313
      simp only [bnd_eq]
      rw [if_neg (show ¬ (10 : Int32) ≤ nI i from nI_ge (b := 10) (by omega) (by omega)), h52, binn (show i < 20 by omega) (by omega), binn (show i < 10 by omega) (by omega), pn_cl (show i < 2 ^ 31 by omega)]
      simp only [if_true]
      rw [show 233 + 29 = 262 from rfl, show 233 + 23 = 256 from rfl]
      by_cases q : i < N
      · rw [if_pos q] at hA0
        rw [if_neg (show ¬ nI N ≤ nI i from nI_ge q (by omega)), hA0, nI_1, z1]
      · rw [if_neg q] at hA0
        rw [if_pos (show nI N ≤ nI i from nI_le (by omega) (by omega)), hA0, nI_1, z1]
    · by_cases q : j = i
      · rw [q, zf _ _ (by omega), ← hA0, sI_get, if_pos ⟨rfl, rfl⟩]
      · rw [z2 j (by omega) h2, fr _ _ (by omega)]
theorem r_cp371 : ∀ (r m i : Nat) (ρ : St_), i + r = 3 → r < m → ∃ Z, mX12_city_L371 233 m (nI i) ρ = some (Z.1 233 52, Z) ∧ (∀ j, i ≤ j → j < 3 → Z.1 278 j = b2i false) ∧ ∀ e j, ¬ (e = 278 ∧ i ≤ j ∧ j < 3) → Z.1 e j = ρ.1 e j
  | 0, m, i, ρ, hi, hm => by
    obtain ⟨m, rfl, -⟩ := fu_suc hm
    refine ⟨ρ, ?_, fun j h1 h2 => by omega, fun _ _ _ => rfl⟩
    unfold mX12_city_L371
    rw [if_pos (show (3 : Int32) ≤ nI i from nI_le (a := 3) (by omega) (by omega))]
  | r + 1, m, i, ρ, hi, hm => by
    obtain ⟨m, rfl, hm⟩ := fu_suc hm
    generalize hA0 : sI ρ 278 i (b2i false) = A0
    have fr : ∀ e j, ¬ (e = 278 ∧ j = i) → A0.1 e j = ρ.1 e j := fun e j w => by rw [← hA0, sI_get, if_neg w]
    obtain ⟨Z, z1, z2, zf⟩ := r_cp371 r m (i + 1) A0 (by omega) (by omega)
    refine ⟨Z, ?_, fun j h1 h2 => ?_, fun e j w => by rw [zf e j (by omega), fr e j (by omega)]⟩
    · conv => lhs; unfold mX12_city_L371
      simp only [bnd_eq]
      rw [if_neg (show ¬ (3 : Int32) ≤ nI i from nI_ge (b := 3) (by omega) (by omega)), binn (show i < 3 by omega) (by omega), if_pos rfl, pn_cl (show i < 2 ^ 31 by omega), show 233 + 45 = 278 from rfl, hA0, nI_1, z1]
    · by_cases q : j = i
      · rw [q, zf _ _ (by omega), ← hA0, sI_get, if_pos ⟨rfl, rfl⟩]
      · exact z2 j (by omega) h2
/-- the reference's end of city, from the last loop on -/
def ck7_ : St_ → Option (Int32 × St_) := (fun (σ47 : St_) => (bnd (sI σ47 233 68 (0 : Int32)) fun σ48 =>
 (bnd (sI σ48 233 69 (0 : Int32)) fun σ49 =>
 (bnd (sI σ49 233 86 (0 : Int32)) fun σ50 =>
 (bnd (sI σ50 233 71 (0 : Int32)) fun σ51 =>
 (mX12_city_L371 233 FU (0 : Int32) σ51))))))
def ck6_ : St_ → Option (Int32 × St_) := fun σ41 => mX12_city_L313 233 ck7_ FU (0 : Int32) σ41
def ck5_ : St_ → Option (Int32 × St_) := fun σ39 => mX12_city_L292 233 ck6_ FU (0 : Int32) σ39
def ck4_ : St_ → Option (Int32 × St_) := fun σ36 => mX12_city_L266 233 ck5_ FU (0 : Int32) σ36
def ck3_ : St_ → Option (Int32 × St_) := fun σ31 => mX12_city_L229 233 ck4_ FU (0 : Int32) σ31
def ck2_ : St_ → Option (Int32 × St_) := fun σ26 => mX12_city_L192 233 ck3_ FU (0 : Int32) σ26
def ck1_ : St_ → Option (Int32 × St_) := fun σ17 => mX12_city_L130 233 ck2_ FU (0 : Int32) σ17
theorem city_eq : mX12_city 233 ρ = ((mX12_readAll 233 ρ).bind fun σ1 =>
 (if (σ1.1 233 2) ≤ 0 then
 (bnd (sI σ1 233 51 (σ1.1 233 45)) fun σ2 =>
 (bnd (sI σ2 233 52 (σ2.1 233 46)) fun σ3 =>
 (bnd (sI σ3 233 53 (σ3.1 233 47)) fun σ4 =>
 (bnd (sI σ4 233 54 (σ4.1 233 48)) fun σ5 =>
 (bnd (sI σ5 233 55 (σ5.1 233 50)) fun σ6 =>
 (if isB (σ6.1 233 58) = true then bnd (sI σ6 233 59 (σ6.1 233 58)) fun σ7 =>
 (bnd (sI σ7 233 23 (σ7.1 233 22)) fun σ8 =>
 (bnd (fun (j9 : Int32) => (bnd (sI σ8 233 20 j9) fun σ12 =>
 (mX12_city_L90 233 ck1_ FU (0 : Int32) σ12))) fun k10 =>
 (if (σ8.1 233 58) = 0 then
 (k10 (0 : Int32))
 else (k10 (σ8.1 233 19)))))
 else none))))))
 else (some ((-1 : Int32), σ1)))) := by
  unfold mX12_city ck1_ ck2_ ck3_ ck4_ ck5_ ck6_ ck7_
  rfl
/-- the whole end of the reference's city, from what the reading left -/
theorem r_tail {R : St_} {l N : Nat} (hall : mX12_readAll 233 ρ = some R) (h2 : R.1 233 2 = 0) (hN : R.1 233 46 = nI N) (hN10 : N ≤ 10) (hl : (R.1 233 58 = 0 ∧ l = 0) ∨ (R.1 233 58 = 1 ∧ R.1 233 19 = nI l)) (hl3 : l ≤ 300) : ∃ Z, mX12_city 233 ρ = some (nI N, Z) ∧ (Z.1 233 51 = R.1 233 45 ∧ Z.1 233 52 = R.1 233 46 ∧ Z.1 233 53 = R.1 233 47 ∧ Z.1 233 54 = R.1 233 48 ∧ Z.1 233 55 = R.1 233 50 ∧ Z.1 233 59 = R.1 233 58 ∧ Z.1 233 23 = R.1 233 22 ∧ Z.1 233 20 = nI l) ∧ (∀ j, j < l → Z.1 239 j = R.1 237 j ∧ Z.1 240 j = R.1 238 j) ∧ (∀ j, j < 10 → Z.1 253 j = R.1 244 j ∧ Z.1 254 j = R.1 245 j ∧ Z.1 255 j = R.1 246 j) ∧ (∀ j, j < 5 → Z.1 257 j = R.1 248 j ∧ Z.1 258 j = R.1 249 j) ∧ (∀ j, j < 4 → Z.1 259 j = R.1 250 j ∧ Z.1 260 j = R.1 251 j) ∧ (∀ j, j < 90 → Z.1 261 j = R.1 252 j) ∧ (∀ j, 10 ≤ j → j < 17 → Z.1 262 j = 0) ∧ (∀ j, j < 10 → Z.1 262 j = if j < N then R.1 247 j else -1) ∧ (Z.1 233 68 = 0 ∧ Z.1 233 69 = 0 ∧ Z.1 233 86 = 0 ∧ Z.1 233 71 = 0) ∧ (∀ j, j < 3 → Z.1 278 j = b2i false) ∧ ∀ e j, ¬ ((e = 233 ∧ (j = 20 ∨ j = 23 ∨ (51 ≤ j ∧ j ≤ 55) ∨ j = 59 ∨ j = 68 ∨ j = 69 ∨ j = 71 ∨ j = 86)) ∨ e = 239 ∨ e = 240 ∨ (253 ≤ e ∧ e ≤ 262) ∨ e = 278) → Z.1 e j = R.1 e j := by
  have hB58 : isB (R.1 233 58) = true := by
    rcases hl with w | w
    · rw [w.1]; rfl
    · rw [w.1]; rfl
  generalize hA1 : sI R 233 51 (R.1 233 45) = A1
  have a1 : A1.1 233 46 = R.1 233 46 := by rw [← hA1, sI_get, if_neg (by omega)]
  generalize hA2 : sI A1 233 52 (R.1 233 46) = A2
  have a2 : A2.1 233 47 = R.1 233 47 := by rw [← hA2, sI_get, if_neg (by omega), ← hA1, sI_get, if_neg (by omega)]
  generalize hA3 : sI A2 233 53 (R.1 233 47) = A3
  have a3 : A3.1 233 48 = R.1 233 48 := by rw [← hA3, sI_get, if_neg (by omega), ← hA2, sI_get, if_neg (by omega), ← hA1, sI_get, if_neg (by omega)]
  generalize hA4 : sI A3 233 54 (R.1 233 48) = A4
  have a4 : A4.1 233 50 = R.1 233 50 := by rw [← hA4, sI_get, if_neg (by omega), ← hA3, sI_get, if_neg (by omega), ← hA2, sI_get, if_neg (by omega), ← hA1, sI_get, if_neg (by omega)]
  generalize hA5 : sI A4 233 55 (R.1 233 50) = A5
  have A50 : ∀ e j, ¬ (e = 233 ∧ 51 ≤ j ∧ j ≤ 55) → A5.1 e j = R.1 e j := fun e j w => by rw [← hA5, sI_get, if_neg (by omega), ← hA4, sI_get, if_neg (by omega), ← hA3, sI_get, if_neg (by omega), ← hA2, sI_get, if_neg (by omega), ← hA1, sI_get, if_neg (by omega)]
  have a5 : A5.1 233 58 = R.1 233 58 := A50 _ _ (by omega)
  generalize hA6 : sI A5 233 59 (R.1 233 58) = A6
  have a6 : A6.1 233 22 = R.1 233 22 := by rw [← hA6, sI_get, if_neg (by omega), A50 _ _ (by omega)]
  generalize hA7 : sI A6 233 23 (R.1 233 22) = A7
  have a7 : A7.1 233 58 = R.1 233 58 := by rw [← hA7, sI_get, if_neg (by omega), ← hA6, sI_get, if_neg (by omega), A50 _ _ (by omega)]
  have a7' : A7.1 233 19 = R.1 233 19 := by rw [← hA7, sI_get, if_neg (by omega), ← hA6, sI_get, if_neg (by omega), A50 _ _ (by omega)]
  generalize hA8 : sI A7 233 20 (nI l) = A8
  have A80 : ∀ e j, ¬ (e = 233 ∧ (j = 20 ∨ j = 23 ∨ (51 ≤ j ∧ j ≤ 55) ∨ j = 59)) → A8.1 e j = R.1 e j := fun e j w => by rw [← hA8, sI_get, if_neg (by omega), ← hA7, sI_get, if_neg (by omega), ← hA6, sI_get, if_neg (by omega), A50 _ _ (by omega)]
  have A8n : A8.1 233 51 = R.1 233 45 ∧ A8.1 233 52 = R.1 233 46 ∧ A8.1 233 53 = R.1 233 47 ∧ A8.1 233 54 = R.1 233 48 ∧ A8.1 233 55 = R.1 233 50 ∧ A8.1 233 59 = R.1 233 58 ∧ A8.1 233 23 = R.1 233 22 ∧ A8.1 233 20 = nI l := by
    refine ⟨?_, ?_, ?_, ?_, ?_, ?_, ?_, ?_⟩
    · rw [← hA8, sI_get, if_neg (by omega), ← hA7, sI_get, if_neg (by omega), ← hA6, sI_get, if_neg (by omega), ← hA5, sI_get, if_neg (by omega), ← hA4, sI_get, if_neg (by omega), ← hA3, sI_get, if_neg (by omega), ← hA2, sI_get, if_neg (by omega), ← hA1, sI_get, if_pos ⟨rfl, rfl⟩]
    · rw [← hA8, sI_get, if_neg (by omega), ← hA7, sI_get, if_neg (by omega), ← hA6, sI_get, if_neg (by omega), ← hA5, sI_get, if_neg (by omega), ← hA4, sI_get, if_neg (by omega), ← hA3, sI_get, if_neg (by omega), ← hA2, sI_get, if_pos ⟨rfl, rfl⟩]
    · rw [← hA8, sI_get, if_neg (by omega), ← hA7, sI_get, if_neg (by omega), ← hA6, sI_get, if_neg (by omega), ← hA5, sI_get, if_neg (by omega), ← hA4, sI_get, if_neg (by omega), ← hA3, sI_get, if_pos ⟨rfl, rfl⟩]
    · rw [← hA8, sI_get, if_neg (by omega), ← hA7, sI_get, if_neg (by omega), ← hA6, sI_get, if_neg (by omega), ← hA5, sI_get, if_neg (by omega), ← hA4, sI_get, if_pos ⟨rfl, rfl⟩]
    · rw [← hA8, sI_get, if_neg (by omega), ← hA7, sI_get, if_neg (by omega), ← hA6, sI_get, if_neg (by omega), ← hA5, sI_get, if_pos ⟨rfl, rfl⟩]
    · rw [← hA8, sI_get, if_neg (by omega), ← hA7, sI_get, if_neg (by omega), ← hA6, sI_get, if_pos ⟨rfl, rfl⟩]
    · rw [← hA8, sI_get, if_neg (by omega), ← hA7, sI_get, if_pos ⟨rfl, rfl⟩]
    · rw [← hA8, sI_get, if_pos ⟨rfl, rfl⟩]
  obtain ⟨n1, n2, n3, n4, n5, n6, n7, n8⟩ := A8n
  obtain ⟨B1, x1, ⟨x2, x3⟩, xf⟩ := r_cp90 (k := ck1_) (l := l) (by omega) l FU 0 A8 (by omega) (by unfold FU; omega) n8
  obtain ⟨B2, y1, ⟨y2, y3, y4, y5⟩, yf⟩ := r_cp130 (k := ck2_) 10 FU 0 B1 (by omega) (by unfold FU; omega)
  obtain ⟨B3, w1, ⟨w2, w3⟩, wf⟩ := r_cp192 (k := ck3_) 5 FU 0 B2 (by omega) (by unfold FU; omega)
  obtain ⟨B4, u1, ⟨u2, u3⟩, uf⟩ := r_cp229 (k := ck4_) 4 FU 0 B3 (by omega) (by unfold FU; omega)
  obtain ⟨B5, t1, t2, tf⟩ := r_cp266 (k := ck5_) 90 FU 0 B4 (by omega) (by unfold FU; omega)
  obtain ⟨B6, s1, s2, sf⟩ := r_cp292 (k := ck6_) 17 FU 0 B5 (by omega) (by unfold FU; omega)
  have c6 : ∀ e j, ¬ (e = 239 ∨ e = 240 ∨ (253 ≤ e ∧ e ≤ 262)) → B6.1 e j = A8.1 e j := fun e j w => by rw [sf e j (by omega), tf e j (by omega), uf e j (by omega), wf e j (by omega), yf e j (by omega), xf e j (by omega)]
  obtain ⟨B7, p1, p2, pf⟩ := r_cp313 (k := ck7_) (N := N) hN10 10 FU 0 B6 (by omega) (by unfold FU; omega) (by rw [c6 _ _ (by omega), n2]; exact hN)
  generalize hC : sI (sI (sI (sI B7 233 68 0) 233 69 0) 233 86 0) 233 71 0 = C
  have C0 : ∀ e j, ¬ (e = 233 ∧ (j = 68 ∨ j = 69 ∨ j = 86 ∨ j = 71)) → C.1 e j = B7.1 e j := fun e j w => by rw [← hC, sI_get, if_neg (by omega), sI_get, if_neg (by omega), sI_get, if_neg (by omega), sI_get, if_neg (by omega)]
  obtain ⟨Z, q1, q2, qf⟩ := r_cp371 3 FU 0 C (by omega) (by unfold FU; omega)
  rw [show nI 0 = (0 : Int32) from rfl] at x1 y1 w1 u1 t1 s1 p1 q1
  have ZB6 : ∀ e j, ¬ ((e = 233 ∧ (j = 68 ∨ j = 69 ∨ j = 86 ∨ j = 71)) ∨ e = 262 ∨ e = 278) → Z.1 e j = B6.1 e j := fun e j w => by rw [qf e j (by omega), C0 e j (by omega), pf e j (by omega)]
  have ZA8 : ∀ e j, ¬ ((e = 233 ∧ (j = 68 ∨ j = 69 ∨ j = 86 ∨ j = 71)) ∨ e = 239 ∨ e = 240 ∨ (253 ≤ e ∧ e ≤ 262) ∨ e = 278) → Z.1 e j = A8.1 e j := fun e j w => by rw [ZB6 e j (by omega), c6 e j (by omega)]
  have Z52 : Z.1 233 52 = nI N := by rw [ZA8 _ _ (by omega), n2, hN]
  have pick : ∀ F : Int32 → Option (Int32 × St_), (if R.1 233 58 = 0 then F 0 else F (R.1 233 19)) = F (nI l) := fun F => by
    rcases hl with w | w
    · rw [if_pos w.1, w.2]; rfl
    · rw [w.1, if_neg (by decide), w.2]
  refine ⟨Z, ?_, ⟨by rw [ZA8 _ _ (by omega)]; exact n1, by rw [ZA8 _ _ (by omega)]; exact n2, by rw [ZA8 _ _ (by omega)]; exact n3, by rw [ZA8 _ _ (by omega)]; exact n4, by rw [ZA8 _ _ (by omega)]; exact n5, by rw [ZA8 _ _ (by omega)]; exact n6, by rw [ZA8 _ _ (by omega)]; exact n7, by rw [ZA8 _ _ (by omega)]; exact n8⟩, fun j hj => ⟨?_, ?_⟩, fun j hj => ⟨?_, ?_, ?_⟩, fun j hj => ⟨?_, ?_⟩, fun j hj => ⟨?_, ?_⟩, fun j hj => ?_, fun j h1 h2 => ?_, fun j hj => ?_, ⟨?_, ?_, ?_, ?_⟩, fun j hj => q2 j (by omega) hj, fun e j w => by rw [ZA8 e j (by omega), A80 e j (by omega)]⟩
  · rw [city_eq, hall, obs_eq, if_pos (show R.1 233 2 ≤ 0 by rw [h2]; decide)]
    simp only [bnd_eq]
    rw [hA1, a1, hA2, a2, hA3, a3, hA4, a4, hA5, a5, hB58, if_pos rfl, hA6, a6, hA7, a7, a7']
    rw [pick (fun j9 => mX12_city_L90 233 ck1_ FU (0 : Int32) (sI A7 233 20 j9)), hA8, x1]
    unfold ck1_
    rw [y1]
    unfold ck2_
    rw [w1]
    unfold ck3_
    rw [u1]
    unfold ck4_
    rw [t1]
    unfold ck5_
    rw [s1]
    unfold ck6_
    rw [p1]
    unfold ck7_
    simp only [bnd_eq]
    rw [hC, q1, Z52]
  · rw [ZB6 _ _ (by omega), sf _ _ (by omega), tf _ _ (by omega), uf _ _ (by omega), wf _ _ (by omega), yf _ _ (by omega), x2 j (by omega) hj, A80 _ _ (by omega)]
  · rw [ZB6 _ _ (by omega), sf _ _ (by omega), tf _ _ (by omega), uf _ _ (by omega), wf _ _ (by omega), yf _ _ (by omega), x3 j (by omega) hj, A80 _ _ (by omega)]
  · rw [ZB6 _ _ (by omega), sf _ _ (by omega), tf _ _ (by omega), uf _ _ (by omega), wf _ _ (by omega), y2 j (by omega) hj, xf _ _ (by omega), A80 _ _ (by omega)]
  · rw [ZB6 _ _ (by omega), sf _ _ (by omega), tf _ _ (by omega), uf _ _ (by omega), wf _ _ (by omega), y3 j (by omega) hj, xf _ _ (by omega), A80 _ _ (by omega)]
  · rw [ZB6 _ _ (by omega), sf _ _ (by omega), tf _ _ (by omega), uf _ _ (by omega), wf _ _ (by omega), y4 j (by omega) hj, xf _ _ (by omega), A80 _ _ (by omega)]
  · rw [ZB6 _ _ (by omega), sf _ _ (by omega), tf _ _ (by omega), uf _ _ (by omega), w2 j (by omega) hj, yf _ _ (by omega), xf _ _ (by omega), A80 _ _ (by omega)]
  · rw [ZB6 _ _ (by omega), sf _ _ (by omega), tf _ _ (by omega), uf _ _ (by omega), w3 j (by omega) hj, yf _ _ (by omega), xf _ _ (by omega), A80 _ _ (by omega)]
  · rw [ZB6 _ _ (by omega), sf _ _ (by omega), tf _ _ (by omega), u2 j (by omega) hj, wf _ _ (by omega), yf _ _ (by omega), xf _ _ (by omega), A80 _ _ (by omega)]
  · rw [ZB6 _ _ (by omega), sf _ _ (by omega), tf _ _ (by omega), u3 j (by omega) hj, wf _ _ (by omega), yf _ _ (by omega), xf _ _ (by omega), A80 _ _ (by omega)]
  · rw [ZB6 _ _ (by omega), sf _ _ (by omega), t2 j (by omega) hj, uf _ _ (by omega), wf _ _ (by omega), yf _ _ (by omega), xf _ _ (by omega), A80 _ _ (by omega)]
  · rw [qf _ _ (by omega), C0 _ _ (by omega), pf _ _ (by omega)]; exact s2 j (by omega) h2
  · rw [qf _ _ (by omega), C0 _ _ (by omega), p2 j (by omega) hj, sf 256 j (by omega), tf 256 j (by omega), uf 256 j (by omega), wf 256 j (by omega), y5 j (by omega) hj, xf 247 j (by omega), A80 247 j (by omega)]
  · rw [qf _ _ (by omega), ← hC]; simp [sI_get]
  · rw [qf _ _ (by omega), ← hC]; simp [sI_get]
  · rw [qf _ _ (by omega), ← hC]; simp [sI_get]
  · rw [qf _ _ (by omega), ← hC]; simp [sI_get]
end COPIES
