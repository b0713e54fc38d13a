/-! a relation, a bracket among the open signs -/
section OPEN2
variable {σ σ' ρ ρ' : St_}
theorem r_hasRelation {S : List Nat} (hO : OpR S ρ) (hb : ∀ o ∈ S, o < 256) (h160 : S.length ≤ 160) : mX12_hasRelation 233 ρ = some (relS S) := by
  unfold mX12_hasRelation
  simp only [bnd_eq]
  rw [hO.1]
  refine r_rel_L7 hO hb h160 ?_ (fun o S1 S' hS => ?_) S [] FU rfl (by unfold FU; omega)
  · rw [if_pos (show (-1 : Int32) < 0 by decide)]
  · have ho := hb o (by rw [hS]; simp)
    have hl : S'.length + 1 ≤ 160 := by
      have := congrArg List.length hS
      simp at this
      omega
    have g : ρ.1 241 S'.length = nI o := hO.2 o S1 S' hS
    have tl := tgt_lt ho
    rw [if_neg (nI_pos (by omega)), binn (show S'.length < 160 by omega) (by omega), if_pos rfl, if_pos rfl, pn_cl (by omega), show 233 + 8 = 241 from rfl, g, r_tight ho, obs_eq]
    by_cases q20 : o = 20
    · rw [if_pos (show nI o = (20 : Int32) by rw [q20]; rfl), if_pos q20]
    · rw [if_neg (show ¬ nI o = (20 : Int32) from fun w => q20 ((nI_eq (b := 20) (by omega) (by omega)).mp w)), if_neg q20]
      by_cases q : tgt o = 4
      · rw [if_pos (show nI (tgt o) = (4 : Int32) by rw [q]; rfl), decide_eq_true q]
      · rw [if_neg (show ¬ nI (tgt o) = (4 : Int32) from fun w => q ((nI_eq (b := 4) (by omega) (by omega)).mp w)), decide_eq_false q]
/-- whether a bracket is open, from the lowest on -/
theorem r_hasBr_L4 {S0 : List Nat} (hO : OpR S0 ρ) (hb : ∀ o ∈ S0, o < 256) (h160 : S0.length ≤ 160) : ∀ (r : Nat) (S1 S2 : List Nat) m (b : Bool), S0 = S1 ++ S2 → S1.length = r → r < m → mX12_hasBracket_L4 233 ρ m b (nI S2.length) = some (b || S1.any (fun o => decide (o = 20)))
  | 0, S1, S2, m, b, hS, hr, hm => by
    obtain ⟨m, rfl, -⟩ := fu_suc hm
    have e : S1 = [] := List.length_eq_zero_iff.mp hr
    subst e
    rw [List.nil_append] at hS
    unfold mX12_hasBracket_L4
    rw [hO.1, hS, if_pos (nI_le (by omega) (by rw [hS] at h160; omega))]
    simp
  | r + 1, S1, S2, m, b, hS, hr, hm => by
    obtain ⟨m, rfl, hm⟩ := fu_suc hm
    obtain ⟨L, o, rfl⟩ : ∃ L o, S1 = L ++ [o] := ⟨S1.dropLast, S1.getLast (fun e => by rw [e] at hr; simp at hr), (List.dropLast_concat_getLast _).symm⟩
    have hS' : S0 = L ++ o :: S2 := by rw [hS]; simp
    have ho := hb o (by rw [hS']; simp)
    have hl : S0.length = L.length + 1 + S2.length := by rw [hS']; simp; omega
    have g : ρ.1 241 S2.length = nI o := hO.2 o L S2 hS'
    have ih := fun b => r_hasBr_L4 hO hb h160 r L (o :: S2) m b hS' (by simpa using hr) (by omega)
    simp only [List.length_cons] at ih
    unfold mX12_hasBracket_L4
    simp only [bnd_eq]
    rw [hO.1, if_neg (show ¬ nI S0.length ≤ nI S2.length from nI_ge (by omega) (by omega)), nI_1, ih, ih, binn (show S2.length < 160 by omega) (by omega), if_pos rfl, pn_cl (by omega), show 233 + 8 = 241 from rfl, g, List.any_append]
    cases b
    · rw [if_neg (show ¬ false = true by simp)]
      by_cases q20 : o = 20
      · rw [if_pos (show nI o = (20 : Int32) by rw [q20]; rfl)]
        simp [q20]
      · rw [if_neg (show ¬ nI o = (20 : Int32) from fun w => q20 ((nI_eq (b := 20) (by omega) (by omega)).mp w))]
        simp [q20]
    · rw [if_pos rfl]
      simp
theorem r_hasBracket {S : List Nat} (hO : OpR S ρ) (hb : ∀ o ∈ S, o < 256) (h160 : S.length ≤ 160) : mX12_hasBracket 233 ρ = some (S.any (fun o => decide (o = 20))) := by
  have := r_hasBr_L4 hO hb h160 S.length S [] FU false (by simp) rfl (by unfold FU; omega)
  rw [show nI ([] : List Nat).length = (0 : Int32) from rfl, Bool.false_or] at this
  unfold mX12_hasBracket
  exact this
end OPEN2
