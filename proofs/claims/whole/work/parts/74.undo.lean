/-! undo, redo, image, back, waits, gift, feed -/
section UNDO
variable {σ σ' τ : St_} {c dr s : Nat} {v : Vw} {z : Sv}
theorem r_exch_L {j : Nat} (hj : j < 40) : ∀ k n i (σ : St_), i + k = 17 → k < n → ∃ σ' : St_, mX12_exchange_L2 233 (nI (20 * j)) n (nI i) σ = some σ' ∧ ∀ a b, σ'.1 a b = if a = 264 ∧ 20 * j + i ≤ b ∧ b < 20 * j + 17 then σ.1 262 (b - 20 * j) else if a = 262 ∧ i ≤ b ∧ b < 17 then σ.1 264 (20 * j + b) else σ.1 a b
  | 0, n, i, σ, hi, hn => by
    obtain ⟨m, rfl, -⟩ := fu_suc hn
    refine ⟨σ, ?_, fun a b => by rw [if_neg (by omega), if_neg (by omega)]⟩
    unfold mX12_exchange_L2
    rw [show (17 : Int32) = nI 17 from rfl, if_pos (nI_le (by omega) (by omega))]
  | k + 1, n, i, σ, hi, hn => by
    obtain ⟨m, rfl, hm⟩ := fu_suc hn
    obtain ⟨σ', e1, e3⟩ := r_exch_L hj k m (i + 1) (sI (sI σ 264 (20 * j + i) (σ.1 262 i)) 262 i (σ.1 264 (20 * j + i))) (by omega) (by omega)
    refine ⟨σ', ?_, fun a b => ?_⟩
    · unfold mX12_exchange_L2
      dsimp only [bnd]
      rw [show (17 : Int32) = nI 17 from rfl, if_neg (nI_ge (by omega) (by omega)), nI_add, binn (show i < 20 by omega) (by omega), binn (show 20 * j + i < 800 by omega) (by omega), pn_cl (show i < 2 ^ 31 by omega), pn_cl (show 20 * j + i < 2 ^ 31 by omega), nI_1]
      exact e1
    · rw [e3]
      by_cases a1 : a = 264
      · subst a1
        by_cases q : 20 * j + i ≤ b ∧ b < 20 * j + 17
        · rw [if_pos (show 264 = 264 ∧ 20 * j + i ≤ b ∧ b < 20 * j + 17 from ⟨rfl, q⟩)]
          by_cases q2 : b = 20 * j + i
          · rw [if_neg (by omega), if_neg (by omega), sI_get, if_neg (by omega), sI_get, if_pos ⟨rfl, q2⟩, q2, Nat.add_sub_cancel_left]
          · rw [if_pos (by omega), sI_get, if_neg (by omega), sI_get, if_neg (by omega)]
        · rw [if_neg (by omega), if_neg (by omega), if_neg (by omega), if_neg (by omega), sI_get, if_neg (by omega), sI_get, if_neg (by omega)]
      · rw [if_neg (by omega), if_neg (show ¬ (a = 264 ∧ 20 * j + i ≤ b ∧ b < 20 * j + 17) by omega)]
        by_cases a2 : a = 262
        · subst a2
          by_cases q : i ≤ b ∧ b < 17
          · rw [if_pos (show 262 = 262 ∧ i ≤ b ∧ b < 17 from ⟨rfl, q⟩)]
            by_cases q2 : b = i
            · rw [if_neg (by omega), sI_get, if_pos ⟨rfl, q2⟩, q2]
            · rw [if_pos (by omega), sI_get, if_neg (by omega), sI_get, if_neg (by omega)]
          · rw [if_neg (by omega), if_neg (by omega), sI_get, if_neg (by omega), sI_get, if_neg (by omega)]
        · rw [if_neg (by omega), if_neg (by omega), sI_get, if_neg (by omega), sI_get, if_neg (by omega)]
theorem r_exch {j : Nat} (hj : j < 40) (σ : St_) : ∃ σ' : St_, mX12_exchange 233 (20 * nI j) σ = some σ' ∧ ∀ a b, σ'.1 a b = if a = 264 ∧ 20 * j ≤ b ∧ b < 20 * j + 17 then σ.1 262 (b - 20 * j) else if a = 262 ∧ b < 17 then σ.1 264 (20 * j + b) else σ.1 a b := by
  obtain ⟨σ', s1, s2⟩ := r_exch_L hj 17 FU 0 σ (by omega) (by unfold FU; omega)
  refine ⟨σ', ?_, fun a b => ?_⟩
  · unfold mX12_exchange
    rw [show (20 : Int32) = nI 20 from rfl, nI_mul]
    exact s1
  · rw [s2]
    simp only [Nat.add_zero, Nat.zero_le, true_and]
/-- what class and reference do when they go to another of the kept ACTS: j of the reference's rows is exchanged, the class' now is the ring's place r -/
theorem step_now {j r : Nat} (hj : j < 40) (hr : r < 41) (hN : nN σ ≤ 10) (nums : ∀ k, 51 ≤ k → k ≤ 55 → τ.1 233 k = σ.1 233 k) (h : ISn σ (49 + 3 * r) 264 (20 * j))
    (t4 : ∀ k, k < 9 → τ.1 45 k = σ.1 (49 + 3 * r + 1) k) (t5 : ∀ k, k < 4 → τ.1 46 k = σ.1 (49 + 3 * r + 2) k) (t6 : ∀ k, 2 ≤ k → k ≤ 4 → τ.1 44 k = σ.1 (49 + 3 * r) k) (t7 : ∀ k, k < 17 → τ.1 262 k = σ.1 264 (20 * j + k)) : Inow τ := by
  obtain ⟨g2, g3, g4, g5⟩ := nums_of nums
  refine ⟨by rw [g2]; exact hN, ?_⟩
  show IS (nN τ) (nH τ) (nT τ) (nR τ) _ _ _ τ
  rw [g2, g3, g4, g5]
  exact IS.mv h hN t4 t5 t6 (fun k hk => by rw [Nat.zero_add]; exact t7 k hk)
theorem core_14 {tw : Nat} (hnow : Inow σ) (hacts : Iacts σ) : ∃ (r : Bool) (σ1 σ2 : St_), mX11_undo 0 tw dr σ = some (r, σ1) ∧ mX12_undo 233 σ1 = some (r, σ2) ∧ Inow σ2 ∧ Iacts σ2 := by
  obtain ⟨hN, f, p, n, hf, hp, hn, a1, a2, a3, b1, b2, h9, h10, h11⟩ := id hacts
  unfold mX11_undo mX0_step mX12_undo
  rw [show 0 + 47 = 47 from rfl, show 0 + 44 = 44 from rfl, a3, a2]
  cases p with
  | zero =>
    rw [if_pos (by decide)]
    refine ⟨false, σ, σ, rfl, ?_, hnow, hacts⟩
    rw [b1, if_pos (show nI 0 = (0 : Int32) from rfl)]
  | succ q =>
    rw [nI_m1 (by omega), if_neg (nI_pos (by omega)), if_pos (nI_le (by omega) (by omega))]
    dsimp only [bnd]
    generalize hA : sI σ 47 3 (nI q) = A
    have A0 : ∀ a k, ¬ (a = 47 ∧ k = 3) → A.1 a k = σ.1 a k := fun a k q => by rw [← hA, sI_get, if_neg q]
    have A3 : A.1 47 3 = nI q := by rw [← hA, sI_get, if_pos ⟨rfl, rfl⟩]
    obtain ⟨r, s1, s2⟩ := c_stateAt (σ := A) hf (show q ≤ 41 by omega) (by rw [A0 _ _ (by omega)]; exact a1)
    rw [A3, s1]
    dsimp only [Option.bind]
    obtain ⟨B, u1, u2⟩ := c_copy (σ := A) (t := 44) (p := 47 + 2 + 3 * r.val) (Or.inr (by omega))
    rw [u1]
    rw [s2, show 47 + 2 + 3 * ((f + q) % 41) = 49 + 3 * ((f + q) % 41) from rfl] at u2
    have hw : (f + q) % 41 < 41 := Nat.mod_lt _ (by omega)
    refine ⟨true, B, ?_⟩
    have B0 : ∀ a k, ¬ (a = 45 ∧ k < 9) → ¬ (a = 46 ∧ k < 4) → ¬ (a = 44 ∧ 2 ≤ k ∧ k ≤ 4) → ¬ (a = 47 ∧ k = 3) → B.1 a k = σ.1 a k := by
      intro a k q1 q2 q3 q4
      rw [u2, if_neg (by omega), if_neg (by omega), if_neg (by omega), A0 a k q4]
    have B1 : B.1 233 68 = nI (q + 1) := by rw [B0 _ _ (by omega) (by omega) (by omega) (by omega)]; exact b1
    have B2 : B.1 233 69 = nI (n - (q + 1)) := by rw [B0 _ _ (by omega) (by omega) (by omega) (by omega)]; exact b2
    rw [B1, if_neg (nI_ne0 (by omega) (by omega)), nI_s1 (by omega)]
    have C0 : (sI B 233 68 (nI q)).1 233 69 + 1 = nI (n - q) := by rw [sI_get, if_neg (by omega), B2, nI_1]; congr 1; omega
    rw [C0]
    generalize hC : sI (sI B 233 68 (nI q)) 233 69 (nI (n - q)) = C
    have C1 : C.1 233 68 = nI q := by rw [← hC, sI_get, if_neg (by omega), sI_get, if_pos ⟨rfl, rfl⟩]
    have C2 : C.1 233 69 = nI (n - q) := by rw [← hC, sI_get, if_pos ⟨rfl, rfl⟩]
    have C3 : ∀ a k, ¬ (a = 233 ∧ (k = 68 ∨ k = 69)) → C.1 a k = B.1 a k := fun a k q => by rw [← hC, sI_get, if_neg (by omega), sI_get, if_neg (by omega)]
    obtain ⟨D, d1, d2⟩ := r_exch (j := q) (by omega) C
    rw [C1, d1]
    have cc : ∀ a k, a < 233 → D.1 a k = B.1 a k := fun a k q => by rw [d2, if_neg (by omega), if_neg (by omega), C3 _ _ (by omega)]
    have nums : ∀ k, 51 ≤ k → k ≤ 55 → D.1 233 k = σ.1 233 k := fun k q1 q2 => by rw [d2, if_neg (by omega), if_neg (by omega), C3 _ _ (by omega), B0 _ _ (by omega) (by omega) (by omega) (by omega)]
    have ring : ∀ a k, 49 ≤ a → a < 172 → D.1 a k = σ.1 a k := fun a k q1 q2 => by rw [cc a k (by omega), B0 _ _ (by omega) (by omega) (by omega) (by omega)]
    have r262 : ∀ k, k < 17 → D.1 262 k = σ.1 264 (20 * q + k) := fun k hk => by rw [d2, if_neg (by omega), if_pos ⟨rfl, hk⟩, C3 _ _ (by omega), B0 _ _ (by omega) (by omega) (by omega) (by omega)]
    have r264 : ∀ k, k < 17 → D.1 264 (20 * q + k) = σ.1 262 k := fun k hk => by rw [d2, if_pos (by omega), C3 _ _ (by omega), B0 _ _ (by omega) (by omega) (by omega) (by omega), Nat.add_sub_cancel_left]
    have r264' : ∀ j, j ≠ q → ∀ k, k < 17 → D.1 264 (20 * j + k) = σ.1 264 (20 * j + k) := fun j hj k hk => by rw [d2, if_neg (by omega), if_neg (by omega), C3 _ _ (by omega), B0 _ _ (by omega) (by omega) (by omega) (by omega)]
    have ringS : ∀ w, w < 41 → (∀ k, k < 9 → D.1 (49 + 3 * w + 1) k = σ.1 (49 + 3 * w + 1) k) ∧ (∀ k, k < 4 → D.1 (49 + 3 * w + 2) k = σ.1 (49 + 3 * w + 2) k) ∧ (∀ k, 2 ≤ k → k ≤ 4 → D.1 (49 + 3 * w) k = σ.1 (49 + 3 * w) k) := fun w hw => ⟨fun k _ => ring _ _ (by omega) (by omega), fun k _ => ring _ _ (by omega) (by omega), fun k _ _ => ring _ _ (by omega) (by omega)⟩
    obtain ⟨g2, g3, g4, g5⟩ := nums_of nums
    refine ⟨D, rfl, rfl, ?_, ?_⟩
    · refine step_now (j := q) (by omega) hw hN nums (h9 q (by omega)) (fun k hk => ?_) (fun k hk => ?_) (fun k q1 q2 => ?_) r262
      · rw [cc _ _ (by omega), u2, if_pos (by omega), A0 _ _ (by omega)]
      · rw [cc _ _ (by omega), u2, if_neg (by omega), if_pos (by omega), A0 _ _ (by omega)]
      · rw [cc _ _ (by omega), u2, if_neg (by omega), if_neg (by omega), if_pos (by omega), A0 _ _ (by omega)]
    · refine ⟨by rw [g2]; exact hN, f, q, n, hf, by omega, hn, ?_, ?_, ?_, ?_, ?_, fun j hj => ?_, fun j q1 q2 => ?_, ?_⟩
      · rw [cc _ _ (by omega), B0 _ _ (by omega) (by omega) (by omega) (by omega)]; exact a1
      · rw [cc _ _ (by omega), B0 _ _ (by omega) (by omega) (by omega) (by omega)]; exact a2
      · rw [cc _ _ (by omega), u2, if_neg (by omega), if_neg (by omega), if_neg (by omega)]; exact A3
      · rw [d2, if_neg (by omega), if_neg (by omega)]; exact C1
      · rw [d2, if_neg (by omega), if_neg (by omega)]; exact C2
      · show IS (nN D) (nH D) (nT D) (nR D) _ _ _ D
        rw [g2, g3, g4, g5]
        obtain ⟨w1, w2, w3⟩ := ringS ((f + j) % 41) (Nat.mod_lt _ (by omega))
        exact IS.mv (h9 j (by omega)) hN w1 w2 w3 (r264' j (by omega))
      · show IS (nN D) (nH D) (nT D) (nR D) _ _ _ D
        rw [g2, g3, g4, g5]
        obtain ⟨w1, w2, w3⟩ := ringS ((f + j + 1) % 41) (Nat.mod_lt _ (by omega))
        by_cases e : j = q
        · subst e
          exact IS.mv h11 hN w1 w2 w3 (fun k hk => by rw [r264 k hk, Nat.zero_add])
        · exact IS.mv (h10 j (by omega) q2) hN w1 w2 w3 (r264' j e)
      · show IS (nN D) (nH D) (nT D) (nR D) _ _ _ D
        rw [g2, g3, g4, g5]
        obtain ⟨w1, w2, w3⟩ := ringS ((f + q) % 41) (Nat.mod_lt _ (by omega))
        exact IS.mv (h9 q (by omega)) hN w1 w2 w3 (fun k hk => by rw [Nat.zero_add]; exact r262 k hk)
theorem core_15 {tw : Nat} (hnow : Inow σ) (hacts : Iacts σ) : ∃ (r : Bool) (σ1 σ2 : St_), mX11_redo 0 tw dr σ = some (r, σ1) ∧ mX12_redo 233 σ1 = some (r, σ2) ∧ Inow σ2 ∧ Iacts σ2 := by
  obtain ⟨hN, f, p, n, hf, hp, hn, a1, a2, a3, b1, b2, h9, h10, h11⟩ := id hacts
  unfold mX11_redo mX0_step mX12_redo
  rw [show 0 + 47 = 47 from rfl, show 0 + 44 = 44 from rfl, a3, a2, nI_1, if_neg (nI_pos (by omega))]
  by_cases pn : p = n
  · subst pn
    rw [if_neg (nI_ge (by omega) (by omega))]
    refine ⟨false, σ, σ, rfl, ?_, hnow, hacts⟩
    rw [b2, Nat.sub_self, if_pos (show nI 0 = (0 : Int32) from rfl)]
  · rw [if_pos (nI_le (by omega) (by omega))]
    dsimp only [bnd]
    generalize hA : sI σ 47 3 (nI (p + 1)) = A
    have A0 : ∀ a k, ¬ (a = 47 ∧ k = 3) → A.1 a k = σ.1 a k := fun a k q => by rw [← hA, sI_get, if_neg q]
    have A3 : A.1 47 3 = nI (p + 1) := by rw [← hA, sI_get, if_pos ⟨rfl, rfl⟩]
    obtain ⟨r, s1, s2⟩ := c_stateAt (σ := A) hf (show p + 1 ≤ 41 by omega) (by rw [A0 _ _ (by omega)]; exact a1)
    rw [A3, s1]
    dsimp only [Option.bind]
    obtain ⟨B, u1, u2⟩ := c_copy (σ := A) (t := 44) (p := 47 + 2 + 3 * r.val) (Or.inr (by omega))
    rw [u1]
    rw [s2, show 47 + 2 + 3 * ((f + (p + 1)) % 41) = 49 + 3 * ((f + p + 1) % 41) from rfl] at u2
    have hw : (f + p + 1) % 41 < 41 := Nat.mod_lt _ (by omega)
    refine ⟨true, B, ?_⟩
    have B0 : ∀ a k, ¬ (a = 45 ∧ k < 9) → ¬ (a = 46 ∧ k < 4) → ¬ (a = 44 ∧ 2 ≤ k ∧ k ≤ 4) → ¬ (a = 47 ∧ k = 3) → B.1 a k = σ.1 a k := by
      intro a k q1 q2 q3 q4
      rw [u2, if_neg (by omega), if_neg (by omega), if_neg (by omega), A0 a k q4]
    have B1 : B.1 233 68 = nI p := by rw [B0 _ _ (by omega) (by omega) (by omega) (by omega)]; exact b1
    have B2 : B.1 233 69 = nI (n - p) := by rw [B0 _ _ (by omega) (by omega) (by omega) (by omega)]; exact b2
    rw [B2, if_neg (nI_ne0 (by omega) (by omega)), B1]
    obtain ⟨C, d1, d2⟩ := r_exch (j := p) (by omega) B
    rw [d1]
    dsimp only
    have C1 : C.1 233 68 + 1 = nI (p + 1) := by rw [d2, if_neg (by omega), if_neg (by omega), B1, nI_1]
    rw [C1]
    have C2 : (sI C 233 68 (nI (p + 1))).1 233 69 - 1 = nI (n - (p + 1)) := by
      rw [sI_get, if_neg (by omega), d2, if_neg (by omega), if_neg (by omega), B2, show n - p = (n - (p + 1)) + 1 by omega]
      exact nI_s1 (by omega)
    rw [C2]
    generalize hD : sI (sI C 233 68 (nI (p + 1))) 233 69 (nI (n - (p + 1))) = D
    have D1 : D.1 233 68 = nI (p + 1) := by rw [← hD, sI_get, if_neg (by omega), sI_get, if_pos ⟨rfl, rfl⟩]
    have D2 : D.1 233 69 = nI (n - (p + 1)) := by rw [← hD, sI_get, if_pos ⟨rfl, rfl⟩]
    have D3 : ∀ a k, ¬ (a = 233 ∧ (k = 68 ∨ k = 69)) → D.1 a k = C.1 a k := fun a k q => by rw [← hD, sI_get, if_neg (by omega), sI_get, if_neg (by omega)]
    have cc : ∀ a k, a < 233 → D.1 a k = B.1 a k := fun a k q => by rw [D3 _ _ (by omega), d2, if_neg (by omega), if_neg (by omega)]
    have nums : ∀ k, 51 ≤ k → k ≤ 55 → D.1 233 k = σ.1 233 k := fun k q1 q2 => by rw [D3 _ _ (by omega), d2, if_neg (by omega), if_neg (by omega), B0 _ _ (by omega) (by omega) (by omega) (by omega)]
    have ring : ∀ a k, 49 ≤ a → a < 172 → D.1 a k = σ.1 a k := fun a k q1 q2 => by rw [cc a k (by omega), B0 _ _ (by omega) (by omega) (by omega) (by omega)]
    have r262 : ∀ k, k < 17 → D.1 262 k = σ.1 264 (20 * p + k) := fun k hk => by rw [D3 _ _ (by omega), d2, if_neg (by omega), if_pos ⟨rfl, hk⟩, B0 _ _ (by omega) (by omega) (by omega) (by omega)]
    have r264 : ∀ k, k < 17 → D.1 264 (20 * p + k) = σ.1 262 k := fun k hk => by rw [D3 _ _ (by omega), d2, if_pos (by omega), B0 _ _ (by omega) (by omega) (by omega) (by omega), Nat.add_sub_cancel_left]
    have r264' : ∀ j, j ≠ p → ∀ k, k < 17 → D.1 264 (20 * j + k) = σ.1 264 (20 * j + k) := fun j hj k hk => by rw [D3 _ _ (by omega), d2, if_neg (by omega), if_neg (by omega), B0 _ _ (by omega) (by omega) (by omega) (by omega)]
    have ringS : ∀ w, w < 41 → (∀ k, k < 9 → D.1 (49 + 3 * w + 1) k = σ.1 (49 + 3 * w + 1) k) ∧ (∀ k, k < 4 → D.1 (49 + 3 * w + 2) k = σ.1 (49 + 3 * w + 2) k) ∧ (∀ k, 2 ≤ k → k ≤ 4 → D.1 (49 + 3 * w) k = σ.1 (49 + 3 * w) k) := fun w hw => ⟨fun k _ => ring _ _ (by omega) (by omega), fun k _ => ring _ _ (by omega) (by omega), fun k _ _ => ring _ _ (by omega) (by omega)⟩
    obtain ⟨g2, g3, g4, g5⟩ := nums_of nums
    have hp10 := h10 p (by omega) (by omega)
    refine ⟨D, rfl, rfl, ?_, ?_⟩
    · refine step_now (j := p) (by omega) hw hN nums hp10 (fun k hk => ?_) (fun k hk => ?_) (fun k q1 q2 => ?_) r262
      · rw [cc _ _ (by omega), u2, if_pos (by omega), A0 _ _ (by omega)]
      · rw [cc _ _ (by omega), u2, if_neg (by omega), if_pos (by omega), A0 _ _ (by omega)]
      · rw [cc _ _ (by omega), u2, if_neg (by omega), if_neg (by omega), if_pos (by omega), A0 _ _ (by omega)]
    · refine ⟨by rw [g2]; exact hN, f, p + 1, n, hf, by omega, hn, ?_, ?_, ?_, D1, D2, fun j hj => ?_, fun j q1 q2 => ?_, ?_⟩
      · rw [cc _ _ (by omega), B0 _ _ (by omega) (by omega) (by omega) (by omega)]; exact a1
      · rw [cc _ _ (by omega), B0 _ _ (by omega) (by omega) (by omega) (by omega)]; exact a2
      · rw [cc _ _ (by omega), u2, if_neg (by omega), if_neg (by omega), if_neg (by omega)]; exact A3
      · show IS (nN D) (nH D) (nT D) (nR D) _ _ _ D
        rw [g2, g3, g4, g5]
        obtain ⟨w1, w2, w3⟩ := ringS ((f + j) % 41) (Nat.mod_lt _ (by omega))
        by_cases e : j = p
        · subst e
          exact IS.mv h11 hN w1 w2 w3 (fun k hk => by rw [r264 k hk, Nat.zero_add])
        · exact IS.mv (h9 j (by omega)) hN w1 w2 w3 (r264' j e)
      · show IS (nN D) (nH D) (nT D) (nR D) _ _ _ D
        rw [g2, g3, g4, g5]
        obtain ⟨w1, w2, w3⟩ := ringS ((f + j + 1) % 41) (Nat.mod_lt _ (by omega))
        exact IS.mv (h10 j (by omega) q2) hN w1 w2 w3 (r264' j (by omega))
      · show IS (nN D) (nH D) (nT D) (nR D) _ _ _ D
        rw [g2, g3, g4, g5, show f + (p + 1) = f + p + 1 from rfl]
        obtain ⟨w1, w2, w3⟩ := ringS ((f + p + 1) % 41) (Nat.mod_lt _ (by omega))
        exact IS.mv hp10 hN w1 w2 w3 (fun k hk => by rw [Nat.zero_add]; exact r262 k hk)
end UNDO
