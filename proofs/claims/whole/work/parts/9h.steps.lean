/-! the steps of a law, both sides; open signs of the reference -/
section STEPS
variable {σ σ' ρ ρ' : St_} {d : Nat}
def LwC (d : Nat) (lw : List (Nat × Int32)) (σ : St_) : Prop := σ.1 (d + 11) 4 = nI lw.length ∧ ∀ (i : Nat) (q : Nat × Int32), lw[i]? = some q → σ.1 (d + 12) i = lstepC q ∧ (q.1 ≤ 1 → σ.1 (d + 13) i = q.2)
def LwR (lw : List (Nat × Int32)) (ρ : St_) : Prop := ρ.1 233 19 = nI lw.length ∧ ∀ (i : Nat) (q : Nat × Int32), lw[i]? = some q → ρ.1 237 i = nI q.1 ∧ (q.1 ≠ 2 → ρ.1 238 i = q.2)
theorem c_lput {lw : List (Nat × Int32)} (h : LwC d lw σ) (hl : lw.length < 300) (q : Nat × Int32) {y x : Int32} (hy : y = lstepC q) (hx : q.1 ≤ 1 → x = q.2) : ∃ σ', mX3_put (d + 11) y x σ = some σ' ∧ LwC d (lw ++ [q]) σ' ∧ (∀ a k, ¬ ((a = d + 11 ∧ k = 4) ∨ a = d + 12 ∨ a = d + 13) → σ'.1 a k = σ.1 a k) ∧ σ'.2 = σ.2 := by
  subst hy
  generalize hA : sI σ (d + 12) lw.length (lstepC q) = A
  generalize hB : sI A (d + 13) lw.length x = B
  have A4 : A.1 (d + 11) 4 = nI lw.length := by rw [← hA, sI_get, if_neg (by omega)]; exact h.1
  have B4 : B.1 (d + 11) 4 = nI lw.length := by rw [← hB, sI_get, if_neg (by omega)]; exact A4
  refine ⟨sI B (d + 11) 4 (nI (lw.length + 1)), ?_, ⟨by rw [sI_get, if_pos ⟨rfl, rfl⟩, List.length_append]; rfl, fun i p hp => ?_⟩, fun a k w => ?_, by rw [sI_2, ← hB, sI_2, ← hA, sI_2]⟩
  · unfold mX3_put
    simp only [bnd_eq]
    rw [h.1, if_neg (show ¬ (300 : Int32) ≤ nI lw.length from nI_ge (b := 300) hl (by omega)), binn hl (by omega), if_pos rfl, pn_cl (by omega), show d + 11 + 1 = d + 12 from rfl, hA, A4, binn hl (by omega), if_pos rfl, pn_cl (by omega), show d + 11 + 2 = d + 13 from rfl, hB, B4, nI_1]
  · rcases get_snoc hp with ⟨g1, g2⟩ | ⟨g1, g2⟩
    · obtain ⟨u1, u2⟩ := h.2 i p g2
      refine ⟨?_, fun w => ?_⟩
      · rw [sI_get, if_neg (by omega), ← hB, sI_get, if_neg (by omega), ← hA, sI_get, if_neg (by omega)]; exact u1
      · rw [sI_get, if_neg (by omega), ← hB, sI_get, if_neg (by omega), ← hA, sI_get, if_neg (by omega)]; exact u2 w
    · subst g2
      refine ⟨?_, fun w => ?_⟩
      · rw [sI_get, if_neg (by omega), ← hB, sI_get, if_neg (by omega), ← hA, sI_get, if_pos ⟨rfl, g1⟩]
      · rw [sI_get, if_neg (by omega), ← hB, sI_get, if_pos ⟨rfl, g1⟩]; exact hx w
  · rw [sI_get, if_neg (by omega), ← hB, sI_get, if_neg (by omega), ← hA, sI_get, if_neg (by omega)]
theorem r_ladd {lw : List (Nat × Int32)} (h : LwR lw ρ) (hl : lw.length < 320) (q : Nat × Int32) {y x : Int32} (hy : y = nI q.1) (hx : q.1 ≠ 2 → x = q.2) : ∃ ρ', mX12_add 233 y x ρ = some ρ' ∧ LwR (lw ++ [q]) ρ' ∧ (∀ a k, ¬ ((a = 233 ∧ k = 19) ∨ a = 237 ∨ a = 238) → ρ'.1 a k = ρ.1 a k) ∧ ρ'.2 = ρ.2 := by
  subst hy
  generalize hA : sI ρ 237 lw.length (nI q.1) = A
  generalize hB : sI A 238 lw.length x = B
  have A4 : A.1 233 19 = nI lw.length := by rw [← hA, sI_get, if_neg (by omega)]; exact h.1
  have B4 : B.1 233 19 = nI lw.length := by rw [← hB, sI_get, if_neg (by omega)]; exact A4
  refine ⟨sI B 233 19 (nI (lw.length + 1)), ?_, ⟨by rw [sI_get, if_pos ⟨rfl, rfl⟩, List.length_append]; rfl, fun i p hp => ?_⟩, fun a k w => ?_, by rw [sI_2, ← hB, sI_2, ← hA, sI_2]⟩
  · unfold mX12_add
    simp only [bnd_eq]
    rw [h.1, binn hl (by omega), if_pos rfl, pn_cl (by omega), show 233 + 4 = 237 from rfl, hA, A4, binn hl (by omega), if_pos rfl, pn_cl (by omega), show 233 + 5 = 238 from rfl, hB, B4, nI_1]
  · rcases get_snoc hp with ⟨g1, g2⟩ | ⟨g1, g2⟩
    · obtain ⟨u1, u2⟩ := h.2 i p g2
      refine ⟨?_, fun w => ?_⟩
      · rw [sI_get, if_neg (by omega), ← hB, sI_get, if_neg (by omega), ← hA, sI_get, if_neg (by omega)]; exact u1
      · rw [sI_get, if_neg (by omega), ← hB, sI_get, if_neg (by omega), ← hA, sI_get, if_neg (by omega)]; exact u2 w
    · subst g2
      refine ⟨?_, fun w => ?_⟩
      · rw [sI_get, if_neg (by omega), ← hB, sI_get, if_neg (by omega), ← hA, sI_get, if_pos ⟨rfl, g1⟩]
      · rw [sI_get, if_neg (by omega), ← hB, sI_get, if_pos ⟨rfl, g1⟩]; exact hx w
  · rw [sI_get, if_neg (by omega), ← hB, sI_get, if_neg (by omega), ← hA, sI_get, if_neg (by omega)]
/-- the open signs, the newest ahead: each stands at the number of those below it -/
def OpR (S : List Nat) (ρ : St_) : Prop := ρ.1 233 21 = nI S.length ∧ ∀ (o : Nat) (S1 S2 : List Nat), S = S1 ++ o :: S2 → ρ.1 241 S2.length = nI o
end STEPS
