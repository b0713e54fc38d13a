/-! image, back, waits, gift -/
section BACKS
variable {σ σ' τ : St_} {c dr s : Nat} {v : Vw} {z : Sv}
theorem r_image_L {i : Nat} (hi : i < 3) : ∀ k n j (σ : St_), j + k = 17 → k < n → ∃ σ' : St_, mX12_image_L18 233 (nI i) n (nI j) σ = some (σ.1 262 10, σ') ∧ ∀ a b, σ'.1 a b = if a = 279 ∧ 20 * i + j ≤ b ∧ b < 20 * i + 17 then σ.1 262 (b - 20 * i) else σ.1 a b
  | 0, n, j, σ, hj, hn => by
    obtain ⟨m, rfl, -⟩ := fu_suc hn
    refine ⟨σ, ?_, fun a b => by rw [if_neg (by omega)]⟩
    unfold mX12_image_L18
    rw [show (17 : Int32) = nI 17 from rfl, if_pos (nI_le (by omega) (by omega))]
    rfl
  | k + 1, n, j, σ, hj, hn => by
    obtain ⟨m, rfl, hm⟩ := fu_suc hn
    obtain ⟨σ', e1, e3⟩ := r_image_L hi k m (j + 1) (sI σ 279 (20 * i + j) (σ.1 262 j)) (by omega) (by omega)
    refine ⟨σ', ?_, fun a b => ?_⟩
    · unfold mX12_image_L18
      dsimp only [bnd]
      rw [show (17 : Int32) = nI 17 from rfl, if_neg (nI_ge (by omega) (by omega)), show (20 : Int32) = nI 20 from rfl, nI_mul, nI_add, binn (show j < 20 by omega) (by omega), binn (show 20 * i + j < 60 by omega) (by omega), pn_cl (show j < 2 ^ 31 by omega), pn_cl (show 20 * i + j < 2 ^ 31 by omega), nI_1]
      rw [sI_get, if_neg (by omega)] at e1
      exact e1
    · rw [e3, sI_get, sI_get]
      by_cases q : a = 279 ∧ 20 * i + j ≤ b ∧ b < 20 * i + 17
      · rw [if_pos q]
        by_cases q2 : b = 20 * i + j
        · rw [if_neg (by omega), if_pos ⟨q.1, q2⟩, q2, Nat.add_sub_cancel_left]
        · rw [if_pos (by omega), if_neg (by omega)]
      · rw [if_neg q, if_neg (by omega), if_neg (by omega)]
theorem r_isBox (p : Int32) : mX12_isBox p σ = some (bin p 3) := by
  unfold mX12_isBox
  rw [bin_nlt (by omega)]
  by_cases q : p < 0
  · rw [if_pos q, if_pos q]
  · rw [if_neg q, if_neg q]
    by_cases q2 : (3 : Int32) ≤ p
    · rw [if_pos q2, if_pos (show nI 3 ≤ p from q2)]
    · rw [if_neg q2, if_neg (show ¬ nI 3 ≤ p from q2)]
theorem core_32 {tw : Nat} (a1 : Int32) (hnow : Inow σ) (hbox : Ibox σ) : ∃ (r : Int32) (σ1 σ2 : St_), mX11_image 0 tw dr a1 σ = some (r, σ1) ∧ mX12_image 233 a1 σ1 = some (r, σ2) ∧ Ibox σ2 := by
  obtain ⟨hN, m, m1, m2, m3⟩ := id hbox
  have hb := @bin_nlt a1 3 (by omega)
  unfold mX11_image mX12_image
  cases q : bin a1 3
  · rw [q] at hb
    have e : ∀ o : Option (Int32 × St_), (if a1 < 0 then some ((-1 : Int32), σ) else if a1 < 3 then o else some (-1, σ)) = some (-1, σ) := by
      intro o
      by_cases q1 : a1 < 0
      · rw [if_pos q1]
      · rw [if_neg q1] at hb ⊢
        by_cases q2 : nI 3 ≤ a1
        · rw [if_neg (show ¬ a1 < (3 : Int32) from Int32.not_lt.mpr q2)]
        · rw [if_neg q2] at hb; cases hb
    rw [e]
    refine ⟨-1, σ, σ, rfl, ?_, hbox⟩
    rw [r_isBox, q]
    rfl
  · obtain ⟨i, hi, rfl, -⟩ := bin_iff.mp q
    simp only [bnd_eq, if_true]
    rw [if_neg (nI_pos (by omega)), if_pos (show nI i < (3 : Int32) from nI_lt (b := 3) hi (by omega)), pn_cl (by omega), show 0 + 44 = 44 from rfl, show 0 + 224 + 3 * i = 224 + 3 * i by omega, shl_nI (by omega)]
    obtain ⟨B, u1, u2⟩ := c_copy (σ := σ) (t := 224 + 3 * i) (p := 44) (Or.inl (by omega))
    rw [u1]
    simp only [obs_eq]
    have B7 : B.1 0 7 ||| nI (2 ^ i) = nI (m ||| 2 ^ i) := by rw [u2, if_neg (by omega), if_neg (by omega), if_neg (by omega), m2, nI_or]
    rw [B7]
    generalize hC : sI B 0 7 (nI (m ||| 2 ^ i)) = C
    have C1 : C.1 0 7 = nI (m ||| 2 ^ i) := by rw [← hC, sI_get, if_pos ⟨rfl, rfl⟩]
    have C0 : ∀ a k, ¬ (a = 0 ∧ k = 7) → C.1 a k = B.1 a k := fun a k q => by rw [← hC, sI_get, if_neg q]
    have C9 : ∀ a k, ¬ (a = 0 ∧ k = 7) → ¬ (224 + 3 * i ≤ a ∧ a < 224 + 3 * i + 3) → C.1 a k = σ.1 a k := fun a k q1 q2 => by rw [C0 a k q1, u2, if_neg (by omega), if_neg (by omega), if_neg (by omega)]
    obtain ⟨D, d1, d2⟩ := r_image_L hi 17 FU 0 (sI C 278 i (b2i true)) (by omega) (by unfold FU; omega)
    have ans : (sI C 278 i (b2i true)).1 262 10 = C.1 44 2 := by
      obtain ⟨-, -, -, ⟨n, -, n1, n2⟩, -⟩ := hnow.2
      rw [sI_get, if_neg (by omega), C9 _ _ (by omega) (by omega), C9 _ _ (by omega) (by omega), n1]
      exact n2
    rw [ans] at d1
    refine ⟨_, C, D, rfl, ?_, ?_⟩
    · rw [r_isBox, q]
      simp only [obs_eq, if_true]
      rw [show 233 + 45 = 278 from rfl]
      exact d1
    have D0 : ∀ a k, ¬ (a = 0 ∧ k = 7) → ¬ (224 + 3 * i ≤ a ∧ a < 224 + 3 * i + 3) → ¬ (a = 278 ∧ k = i) → ¬ (a = 279 ∧ 20 * i ≤ k ∧ k < 20 * i + 17) → D.1 a k = σ.1 a k := fun a k q1 q2 q3 q4 => by
      rw [d2, if_neg (by omega), sI_get, if_neg q3, C9 a k q1 q2]
    have nums : ∀ k, 51 ≤ k → k ≤ 55 → D.1 233 k = σ.1 233 k := fun k q1 q2 => D0 _ _ (by omega) (by omega) (by omega) (by omega)
    obtain ⟨g2, g3, g4, g5⟩ := nums_of nums
    have m8 : m ||| 2 ^ i < 8 := Nat.or_lt_two_pow (n := 3) m1 (Nat.pow_lt_pow_right (by omega) hi)
    refine ⟨by rw [g2]; exact hN, m ||| 2 ^ i, m8, ?_, fun b hb => ⟨?_, fun hm => ?_⟩⟩
    · rw [d2, if_neg (by omega), sI_get, if_neg (by omega)]; exact C1
    · rw [Nat.testBit_or]
      by_cases e : b = i
      · subst e
        rw [d2, if_neg (by omega), sI_get, if_pos ⟨rfl, rfl⟩, Nat.testBit_two_pow_self, Bool.or_true]
      · rw [D0 _ _ (by omega) (by omega) (by omega) (by omega), (m3 b hb).1, Nat.testBit_two_pow_of_ne (fun w => e w.symm), Bool.or_false]
    · show IS (nN D) (nH D) (nT D) (nR D) _ _ _ D
      rw [g2, g3, g4, g5]
      by_cases e : b = i
      · subst e
        refine IS.mv hnow.2 hN (fun k hk => ?_) (fun k hk => ?_) (fun k q1 q2 => ?_) (fun k hk => ?_)
        · rw [d2, if_neg (by omega), sI_get, if_neg (by omega), C0 _ _ (by omega), u2, if_pos ⟨rfl, hk⟩]
        · rw [d2, if_neg (by omega), sI_get, if_neg (by omega), C0 _ _ (by omega), u2, if_neg (by omega), if_pos ⟨rfl, hk⟩]
        · rw [d2, if_neg (by omega), sI_get, if_neg (by omega), C0 _ _ (by omega), u2, if_neg (by omega), if_neg (by omega), if_pos ⟨rfl, q1, q2⟩]
        · rw [d2, if_pos (by omega), sI_get, if_neg (by omega), C9 _ _ (by omega) (by omega), Nat.add_sub_cancel_left, Nat.zero_add]
      · rw [Nat.testBit_or, Nat.testBit_two_pow_of_ne (fun w => e w.symm), Bool.or_false] at hm
        exact IS.mv ((m3 b hb).2 hm) hN (fun k hk => D0 _ _ (by omega) (by omega) (by omega) (by omega)) (fun k hk => D0 _ _ (by omega) (by omega) (by omega) (by omega)) (fun k q1 q2 => D0 _ _ (by omega) (by omega) (by omega) (by omega)) (fun k hk => D0 _ _ (by omega) (by omega) (by omega) (by omega))
theorem r_back_L {i : Nat} (hi : i < 3) {k49 : St_ → Option (Int32 × St_)} : ∀ k n j (σ : St_), j + k = 17 → k < n → ∃ σ' : St_, mX12_back_L20 233 (nI i) k49 n (nI j) σ = k49 σ' ∧ ∀ a b, σ'.1 a b = if a = 262 ∧ j ≤ b ∧ b < 17 then σ.1 279 (20 * i + b) else σ.1 a b
  | 0, n, j, σ, hj, hn => by
    obtain ⟨m, rfl, -⟩ := fu_suc hn
    refine ⟨σ, ?_, fun a b => by rw [if_neg (by omega)]⟩
    unfold mX12_back_L20
    rw [show (17 : Int32) = nI 17 from rfl, if_pos (nI_le (by omega) (by omega))]
  | k + 1, n, j, σ, hj, hn => by
    obtain ⟨m, rfl, hm⟩ := fu_suc hn
    obtain ⟨σ', e1, e3⟩ := r_back_L hi (k49 := k49) k m (j + 1) (sI σ 262 j (σ.1 279 (20 * i + j))) (by omega) (by omega)
    refine ⟨σ', ?_, fun a b => ?_⟩
    · unfold mX12_back_L20
      dsimp only [bnd]
      rw [show (17 : Int32) = nI 17 from rfl, if_neg (nI_ge (by omega) (by omega)), show (20 : Int32) = nI 20 from rfl, nI_mul, nI_add, binn (show j < 20 by omega) (by omega), binn (show 20 * i + j < 60 by omega) (by omega), pn_cl (show j < 2 ^ 31 by omega), pn_cl (show 20 * i + j < 2 ^ 31 by omega), nI_1]
      exact e1
    · rw [e3, sI_get, sI_get]
      by_cases q : a = 262 ∧ j ≤ b ∧ b < 17
      · rw [if_pos q]
        by_cases q2 : b = j
        · rw [if_neg (by omega), if_pos ⟨q.1, q2⟩, q2]
        · rw [if_pos (by omega), if_neg (by omega)]
      · rw [if_neg q, if_neg (by omega), if_neg (by omega)]
theorem c_isFilled {tw m : Nat} (m1 : m < 8) (e : σ.1 0 7 = nI m) (p : Int32) : mX11_isFilled 0 tw dr p σ = some (bin p 3 && m.testBit p.toNatClampNeg) := by
  unfold mX11_isFilled
  have hb := @bin_nlt p 3 (by omega)
  by_cases q : p < 0
  · rw [if_pos q] at hb ⊢
    rw [hb]; rfl
  · rw [if_neg q] at hb ⊢
    by_cases q2 : (3 : Int32) ≤ p
    · rw [if_pos (show nI 3 ≤ p from q2)] at hb
      rw [if_pos q2, hb]; rfl
    · rw [if_neg (show ¬ nI 3 ≤ p from q2)] at hb
      rw [if_neg q2, hb, e]
      obtain ⟨i, hi, rfl, -⟩ := bin_iff.mp hb
      rw [tb_get _ (by omega), tb_nI, pn_cl (by omega)]
      simp only [show i < 32 by omega, decide_true, Bool.true_and]
      cases m.testBit i <;> rfl
theorem c_begin (σ : St_) : ∃ σ', mX0_begin 47 44 σ = some σ' ∧ σ'.1 47 1 = 0 ∧ σ'.1 47 2 = 0 ∧ σ'.1 47 3 = 0 ∧ (∀ k, k < 9 → σ'.1 50 k = σ.1 45 k) ∧ (∀ k, k < 4 → σ'.1 51 k = σ.1 46 k) ∧ (∀ k, 2 ≤ k → k ≤ 4 → σ'.1 49 k = σ.1 44 k) ∧ ∀ a k, ¬ (a = 47 ∧ 1 ≤ k ∧ k ≤ 3) → ¬ (49 ≤ a ∧ a < 52) → σ'.1 a k = σ.1 a k := by
  unfold mX0_begin
  dsimp only [bnd]
  have c0 : bin (0 : Int32) 41 = true := by decide
  rw [c0, if_pos rfl, show 47 + 2 + 3 * (0 : Int32).toNatClampNeg = 49 from rfl]
  obtain ⟨B, u1, u2⟩ := c_copy (σ := sI (sI (sI σ 47 1 0) 47 2 0) 47 3 0) (t := 49) (p := 44) (Or.inl (by omega))
  rw [u1]
  refine ⟨B, rfl, ?_, ?_, ?_, fun k hk => ?_, fun k hk => ?_, fun k q1 q2 => ?_, fun a k q1 q2 => ?_⟩
  · rw [u2]; simp [sI_get]
  · rw [u2]; simp [sI_get]
  · rw [u2]; simp [sI_get]
  · rw [u2, if_pos ⟨rfl, hk⟩]; simp [sI_get]
  · rw [u2, if_neg (by omega), if_pos ⟨rfl, hk⟩]; simp [sI_get]
  · rw [u2, if_neg (by omega), if_neg (by omega), if_pos ⟨rfl, q1, q2⟩]; simp [sI_get]
  · rw [u2, if_neg (by omega), if_neg (by omega), if_neg (by omega), sI_get, if_neg (by omega), sI_get, if_neg (by omega), sI_get, if_neg (by omega)]
theorem core_33 {tw : Nat} (a1 : Int32) (hnow : Inow σ) (hacts : Iacts σ) (hbox : Ibox σ) : ∃ (r : Int32) (σ1 σ2 : St_), mX11_back 0 tw dr a1 σ = some (r, σ1) ∧ mX12_back 233 a1 σ1 = some (r, σ2) ∧ Inow σ2 ∧ Iacts σ2 := by
  obtain ⟨hN, m, m1, m2, m3⟩ := id hbox
  unfold mX11_back mX12_back
  rw [c_isFilled m1 m2]
  simp only [obs_eq]
  cases q : bin a1 3
  · refine ⟨-1, σ, σ, rfl, ?_, hnow, hacts⟩
    rw [r_isBox, q]
    rfl
  · obtain ⟨i, hi, rfl, -⟩ := bin_iff.mp q
    rw [pn_cl (by omega), Bool.true_and]
    obtain ⟨x1, x2⟩ := m3 i hi
    cases q2 : m.testBit i
    · rw [q2] at x1
      refine ⟨-1, σ, σ, rfl, ?_, hnow, hacts⟩
      rw [r_isBox, q, show 233 + 45 = 278 from rfl, x1]
      rfl
    · rw [q2] at x1
      have hI := x2 q2
      rw [if_pos rfl, if_pos rfl, show 0 + 44 = 44 from rfl, show 0 + 47 = 47 from rfl, show 0 + 224 + 3 * i = 224 + 3 * i by omega]
      obtain ⟨A, u1, u2⟩ := c_copy (σ := σ) (t := 44) (p := 224 + 3 * i) (Or.inr (by omega))
      rw [u1]
      simp only [obs_eq]
      obtain ⟨B, v1, w1, w2, w3, w4, w5, w6, w7⟩ := c_begin A
      rw [v1]
      simp only [obs_eq]
      have B0 : ∀ a k, 233 ≤ a → B.1 a k = σ.1 a k := fun a k q => by rw [w7 _ _ (by omega) (by omega), u2, if_neg (by omega), if_neg (by omega), if_neg (by omega)]
      have x1' : B.1 278 i = b2i true := by rw [B0 _ _ (by omega)]; exact x1
      obtain ⟨C, e1, e2⟩ := r_back_L hi (k49 := (fun (σ6 : St_) => (if bin (10 : Int32) 20 = true then (some ((sI (sI σ6 233 68 (0 : Int32)) 233 69 (0 : Int32)).1 (233 + 29) (10 : Int32).toNatClampNeg, sI (sI σ6 233 68 (0 : Int32)) 233 69 (0 : Int32))) else none))) 17 FU 0 B (by omega) (by unfold FU; omega)
      generalize hD : sI (sI C 233 68 (0 : Int32)) 233 69 (0 : Int32) = D
      have D0 : ∀ a k, ¬ (a = 233 ∧ (k = 68 ∨ k = 69)) → D.1 a k = C.1 a k := fun a k q => by rw [← hD, sI_get, if_neg (by omega), sI_get, if_neg (by omega)]
      have Dc : ∀ a k, a < 233 → D.1 a k = B.1 a k := fun a k q => by rw [D0 _ _ (by omega), e2, if_neg (by omega)]
      have n45 : ∀ k, k < 9 → A.1 45 k = σ.1 (224 + 3 * i + 1) k := fun k hk => by rw [u2, if_pos ⟨rfl, hk⟩]
      have n46 : ∀ k, k < 4 → A.1 46 k = σ.1 (224 + 3 * i + 2) k := fun k hk => by rw [u2, if_neg (by omega), if_pos ⟨rfl, hk⟩]
      have n44 : ∀ k, 2 ≤ k → k ≤ 4 → A.1 44 k = σ.1 (224 + 3 * i) k := fun k q1 q2 => by rw [u2, if_neg (by omega), if_neg (by omega), if_pos ⟨rfl, q1, q2⟩]
      have r262 : ∀ k, k < 17 → D.1 262 k = σ.1 279 (20 * i + k) := fun k hk => by rw [D0 _ _ (by omega), e2, if_pos (by omega), B0 _ _ (by omega)]
      have nums : ∀ k, 51 ≤ k → k ≤ 55 → D.1 233 k = σ.1 233 k := fun k q1 q2 => by rw [D0 _ _ (by omega), e2, if_neg (by omega), B0 _ _ (by omega)]
      obtain ⟨g2, g3, g4, g5⟩ := nums_of nums
      have inow : ISn D 44 262 0 := by
        show IS (nN D) (nH D) (nT D) (nR D) _ _ _ D
        rw [g2, g3, g4, g5]
        refine IS.mv hI hN (fun k hk => ?_) (fun k hk => ?_) (fun k q1 q2 => ?_) (fun k hk => by rw [Nat.zero_add]; exact r262 k hk)
        · rw [Dc _ _ (by omega), w7 _ _ (by omega) (by omega), n45 k hk]
        · rw [Dc _ _ (by omega), w7 _ _ (by omega) (by omega), n46 k hk]
        · rw [Dc _ _ (by omega), w7 _ _ (by omega) (by omega), n44 k q1 q2]
      have ans : D.1 262 10 = B.1 44 2 := by
        obtain ⟨-, -, -, ⟨n, -, n1, n2⟩, -⟩ := hI
        rw [r262 10 (by omega), w7 _ _ (by omega) (by omega), n44 2 (by omega) (by omega), n1]
        exact n2
      refine ⟨B.1 44 2, B, D, rfl, ?_, ⟨by rw [g2]; exact hN, inow⟩, ?_⟩
      · rw [r_isBox, q, show 233 + 45 = 278 from rfl, x1']
        simp only [obs_eq, bnd_eq, if_true]
        rw [if_pos (show isB (b2i true) = true by decide), if_pos (show (b2i true == 1) = true by decide)]
        refine e1.trans ?_
        rw [hD, if_pos (show bin (10 : Int32) 20 = true by decide)]
        show some (D.1 262 10, D) = _
        rw [ans]
      · refine ⟨by rw [g2]; exact hN, 0, 0, 0, by omega, by omega, by omega, ?_, ?_, ?_, ?_, ?_, fun j hj => by omega, fun j q1 q2 => by omega, ?_⟩
        · rw [Dc _ _ (by omega)]; exact w1
        · rw [Dc _ _ (by omega)]; exact w2
        · rw [Dc _ _ (by omega)]; exact w3
        · rw [← hD]; simp [sI_get]; rfl
        · rw [← hD]; simp [sI_get]; rfl
        · show IS (nN D) (nH D) (nT D) (nR D) 49 _ _ D
          refine IS.mv inow (by rw [g2]; exact hN) (fun k hk => ?_) (fun k hk => ?_) (fun k q1 q2 => ?_) (fun k hk => rfl)
          · rw [Dc _ _ (by omega), Dc _ _ (by omega), w7 45 k (by omega) (by omega)]; exact w4 k hk
          · rw [Dc _ _ (by omega), Dc _ _ (by omega), w7 46 k (by omega) (by omega)]; exact w5 k hk
          · rw [Dc _ _ (by omega), Dc _ _ (by omega), w7 44 k (by omega) (by omega)]; exact w6 k q1 q2
end BACKS
