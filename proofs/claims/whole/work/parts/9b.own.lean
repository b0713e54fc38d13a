/-! the class' words, the reference's words; numbers -/
section OWN
variable {σ σ' ρ ρ' : St_} {n i : Nat} {T : Nat → Nat} {τ : Tkn}
def ownB (o : Option Nat) : Bool := decide (o = some 0) || (decide (o = some 1) || (decide (o = some 7) || (decide (o = some 8) || (decide (o = some 9) || (decide (o = some 2) || (decide (o = some 10) || (decide (o = some 11) || (decide (o = some 12) || (decide (o = some 3) || (decide (o = some 13) || (decide (o = some 24) || (decide (o = some 4) || (decide (o = some 14) || (decide (o = some 5) || (decide (o = some 6) || (decide (o = some 18) || (decide (o = some 19) || (decide (o = some 20) || (decide (o = some 21) || (decide (o = some 22) || (decide (o = some 23) || (decide (o = some 16) || (decide (o = some 15) || (decide (o = some 17) || false))))))))))))))))))))))))
theorem ownB_some : ∀ u : Fin 25, ownB (some u.1) = true := by decide +kernel
theorem ownB_eq {l : List Nat} : ownB (wnum l) = (wnum l).isSome := by
  cases h : wnum l with
  | none => rfl
  | some u => exact ownB_some ⟨u, wnum_lt h⟩
theorem r_isOwn (h : AtR T n τ ρ) (q1 : τ.1 = 1) : mX12_isOwn 233 ρ = some (wnum τ.2.2.1).isSome := by
  obtain ⟨h1, h2, h3, h4, h5, h6, h7⟩ := h
  have hl := h1.2.1 q1
  have st : ∀ (w : Nat) (o : Option Bool) (b : Bool), w < 25 → o = some b → (if lg_cmp (lN (τ.2.2.1.foldl g256 0)) (rw6 w) = 0 then some true else o) = some (decide (wnum τ.2.2.1 = some w) || b) := fun w o b hw ho => by
    by_cases q : wnum τ.2.2.1 = some w
    · rw [if_pos ((lcmp_0 _ _).mpr ((rw6_iff hl hw).mpr q)), decide_eq_true q, Bool.true_or]
    · rw [if_neg (fun e => q ((rw6_iff hl hw).mp ((lcmp_0 _ _).mp e))), decide_eq_false q, Bool.false_or, ho]
  obtain ⟨v0, v1, v2, v3, v4, v5, v6, v7, v8, v9, v10, v11, v12, v13, v14, v15, v16, v17, v18, v19, v20, v21, v22, v23, v24⟩ := rw6_vals
  rw [← ownB_eq]
  unfold mX12_isOwn ownB
  rw [h5 q1, ← v0, ← v1, ← v7, ← v8, ← v9, ← v2, ← v10, ← v11, ← v12, ← v3, ← v13, ← v24, ← v4, ← v14, ← v5, ← v6, ← v18, ← v19, ← v20, ← v21, ← v22, ← v23, ← v16, ← v15, ← v17]
  exact st 0 _ _ (by omega) (st 1 _ _ (by omega) (st 7 _ _ (by omega) (st 8 _ _ (by omega) (st 9 _ _ (by omega) (st 2 _ _ (by omega) (st 10 _ _ (by omega) (st 11 _ _ (by omega) (st 12 _ _ (by omega) (st 3 _ _ (by omega) (st 13 _ _ (by omega) (st 24 _ _ (by omega) (st 4 _ _ (by omega) (st 14 _ _ (by omega) (st 5 _ _ (by omega) (st 6 _ _ (by omega) (st 18 _ _ (by omega) (st 19 _ _ (by omega) (st 20 _ _ (by omega) (st 21 _ _ (by omega) (st 22 _ _ (by omega) (st 23 _ _ (by omega) (st 16 _ _ (by omega) (st 15 _ _ (by omega) (st 17 _ _ (by omega) (rfl)))))))))))))))))))))))))
theorem r_isName (h : AtR T n τ ρ) : mX12_isName 233 ρ = some (decide (τ.1 = 1 ∧ wnum τ.2.2.1 = none)) := by
  have h1 := h.1.1
  unfold mX12_isName
  rw [h.2.2.1]
  by_cases q1 : τ.1 = 1
  · rw [if_pos (show nI τ.1 = (1 : Int32) by rw [q1]; rfl), r_isOwn h q1, obs_eq]
    cases hn : wnum τ.2.2.1 with
    | none => rw [decide_eq_true ⟨q1, rfl⟩]; rfl
    | some u => rw [decide_eq_false (fun e => by cases e.2)]; rfl
  · rw [if_neg (show ¬ nI τ.1 = (1 : Int32) from fun w => q1 ((nI_eq (b := 1) (by omega) (by omega)).mp w)), decide_eq_false (fun e => q1 e.1)]
theorem c_num0 (h : AtC T n i τ σ) (q0 : ¬ τ.1 = 0) (q3 : ¬ τ.1 = 3) : mX10_number 3 σ = some (cva τ).toInt32 := by
  have hi := h.2.1
  unfold mX10_number
  simp only [bnd_eq]
  rw [h.2.2.2.2, binn hi (by omega), if_pos rfl, pn_cl (by omega), show 3 + 4 = 7 from rfl, h.tok.2.2 q0 q3]
theorem c_numN (h : AtC T n i τ σ) (q : τ.1 = 2) : mX10_number 3 σ = some (nI τ.2.2.2.1) := by
  rw [c_num0 h (by omega) (by omega)]
  unfold cva
  rw [if_pos q, lN_i]
theorem c_numW (h : AtC T n i τ σ) (q : τ.1 = 1) {w : Nat} (hw : wnum τ.2.2.1 = some w) : mX10_number 3 σ = some (nI w) := by
  rw [c_num0 h (by omega) (by omega)]
  unfold cva
  rw [if_neg (by omega), if_pos q, hw]
  exact congrArg some (lN_i w)
theorem c_numS (h : AtC T n i τ σ) (q : 3 < τ.1) : mX10_number 3 σ = some (nI τ.1) := by
  rw [c_num0 h (by omega) (by omega)]
  unfold cva
  rw [if_neg (by omega), if_neg (by omega), lN_i]
/-- the sort of the class, seen from the TOKEN -/
theorem cso_name : cso τ = 2 ↔ τ.1 = 1 ∧ wnum τ.2.2.1 = none := by
  unfold cso
  by_cases w0 : τ.1 = 0
  · rw [if_pos w0]; omega
  · rw [if_neg w0]
    by_cases w3 : τ.1 = 3
    · rw [if_pos w3]; omega
    · rw [if_neg w3]
      by_cases w2 : τ.1 = 2
      · rw [if_pos w2]; omega
      · rw [if_neg w2]
        by_cases w1 : τ.1 = 1
        · rw [if_pos w1]
          cases wnum τ.2.2.1 <;> simp [w1]
        · rw [if_neg w1]; omega
theorem cso_num : cso τ = 4 ↔ τ.1 = 2 := by
  unfold cso
  by_cases w0 : τ.1 = 0
  · rw [if_pos w0]; omega
  · rw [if_neg w0]
    by_cases w3 : τ.1 = 3
    · rw [if_pos w3]; omega
    · rw [if_neg w3]
      by_cases w2 : τ.1 = 2
      · rw [if_pos w2]; omega
      · rw [if_neg w2]
        by_cases w1 : τ.1 = 1
        · rw [if_pos w1]
          cases wnum τ.2.2.1 <;> simp [w1]
        · rw [if_neg w1]; omega
theorem cso_end : cso τ = 0 ↔ τ.1 = 0 := by
  unfold cso
  by_cases w0 : τ.1 = 0
  · rw [if_pos w0]; omega
  · rw [if_neg w0]
    by_cases w3 : τ.1 = 3
    · rw [if_pos w3]; omega
    · rw [if_neg w3]
      by_cases w2 : τ.1 = 2
      · rw [if_pos w2]; omega
      · rw [if_neg w2]
        by_cases w1 : τ.1 = 1
        · rw [if_pos w1]
          cases wnum τ.2.2.1 <;> simp [w1]
        · rw [if_neg w1]; omega
end OWN
