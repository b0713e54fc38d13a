/-! what is asked of the open signs -/
section OPEN
variable {σ σ' ρ ρ' : St_}
theorem r_mayNot {S : List Nat} (hO : OpR S ρ) (hb : ∀ o ∈ S, o < 256) (h160 : S.length ≤ 160) : mX12_mayNot 233 ρ = some (match S with | [] => true | o :: _ => decide (o = 20) || decide (tgt o < 4)) := by
  cases S with
  | nil =>
    unfold mX12_mayNot
    rw [hO.1, if_pos (show nI ([] : List Nat).length = 0 from rfl)]
  | cons o S =>
    have ho := hb o List.mem_cons_self
    have h1 := hO.1
    rw [List.length_cons] at h1 h160
    have g : ρ.1 241 S.length = nI o := hO.2 o [] S rfl
    have tl := tgt_lt ho
    unfold mX12_mayNot
    simp only [bnd_eq]
    rw [h1, if_neg (show ¬ nI (S.length + 1) = (0 : Int32) from fun w => by have := (nI_eq (b := 0) (by omega) (by omega)).mp w; omega), nI_s1 (by omega), binn (show S.length < 160 by omega) (by omega), if_pos rfl, if_pos rfl, pn_cl (by omega), show 233 + 8 = 241 from rfl, g, r_tight ho, obs_eq]
    by_cases q20 : o = 20
    · rw [if_pos (show nI o = (20 : Int32) by rw [q20]; rfl), decide_eq_true q20, Bool.true_or]
    · rw [if_neg (show ¬ nI o = (20 : Int32) from fun w => q20 ((nI_eq (b := 20) (by omega) (by omega)).mp w)), decide_eq_false q20, Bool.false_or]
      by_cases q : tgt o < 4
      · rw [if_neg (show ¬ (4 : Int32) ≤ nI (tgt o) from nI_ge (b := 4) q (by omega)), decide_eq_true q]
      · rw [if_pos (show (4 : Int32) ≤ nI (tgt o) from nI_le (a := 4) (by omega) (by omega)), decide_eq_false q]
/-- whether a relation waits -/
def relS : List Nat → Bool
  | [] => false
  | o :: S => if o = 20 then false else if tgt o ≤ 4 then decide (tgt o = 4) else relS S
theorem r_rel_L7 {S0 : List Nat} (hO : OpR S0 ρ) (hb : ∀ o ∈ S0, o < 256) (h160 : S0.length ≤ 160) {k41 : Int32 → Option Bool} (hk0 : k41 (-1) = some false) (hk : ∀ o S1 S, S0 = S1 ++ o :: S → k41 (nI S.length) = some (if o = 20 then false else decide (tgt o = 4))) : ∀ (S S1 : List Nat) m, S0 = S1 ++ S → S.length < m → mX12_hasRelation_L7 233 ρ k41 m (nI S.length - 1) = some (relS S)
  | [], S1, m, hS, hm => by
    obtain ⟨m, rfl, -⟩ := fu_suc hm
    unfold mX12_hasRelation_L7
    rw [if_pos (show nI ([] : List Nat).length - 1 < 0 by decide)]
    exact hk0
  | o :: S, S1, m, hS, hm => by
    obtain ⟨m, rfl, hm⟩ := fu_suc hm
    rw [List.length_cons] at hm ⊢
    have ho := hb o (by rw [hS]; simp)
    have hl : S.length + 1 ≤ 160 := by
      have := congrArg List.length hS
      simp at this
      omega
    have g : ρ.1 241 S.length = nI o := hO.2 o S1 S hS
    have tl := tgt_lt ho
    have ih := r_rel_L7 hO hb h160 hk0 hk S (S1 ++ [o]) m (by rw [hS]; simp) (by omega)
    unfold mX12_hasRelation_L7 relS
    simp only [bnd_eq]
    rw [nI_s1 (by omega), if_neg (nI_pos (by omega)), binn (show S.length < 160 by omega) (by omega), if_pos rfl, if_pos rfl, pn_cl (by omega), show 233 + 8 = 241 from rfl, g, r_tight ho, obs_eq, hk o S1 S hS, show nI S.length + (-1) = nI S.length - 1 from (Int32.sub_eq_add_neg (nI S.length) 1).symm, ih]
    by_cases q20 : o = 20
    · rw [if_pos (show nI o = (20 : Int32) by rw [q20]; rfl), if_pos q20, if_pos q20]
    · rw [if_neg (show ¬ nI o = (20 : Int32) from fun w => q20 ((nI_eq (b := 20) (by omega) (by omega)).mp w)), if_neg q20, if_neg q20]
      by_cases q : tgt o ≤ 4
      · rw [if_pos (show nI (tgt o) ≤ (4 : Int32) from nI_le (b := 4) q (by omega)), if_pos q]
      · rw [if_neg (show ¬ nI (tgt o) ≤ (4 : Int32) from nI_ge (a := 4) (by omega) (by omega)), if_neg q]
end OPEN
