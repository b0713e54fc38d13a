/-! a name that is told already: both sides -/
section OLD
variable {σ σ' ρ ρ' : St_} {n i : Nat} {T : Nat → Nat} {τ : Tkn}
theorem old_f (h : ¬ ρ.1 233 2 ≤ 0) (x y : Int32) : mX12_oldName 233 x y ρ = some (0, ρ) := by
  unfold mX12_oldName
  rw [if_neg h]
theorem old_name (h : Bo T n i τ σ ρ) {a an f : Nat} {NL : List (List Nat)} (hC : NmC a NL σ) (hR : NmR f NL ρ) (hO : NmO NL) (hl : NL.length ≤ an) (han : f + an ≤ 32) : ∃ b σ' x ρ', mX4_readOldName 1 a an (nI NL.length) σ = some (b, σ') ∧ mX12_oldName 233 (nI f) (nI NL.length) ρ = some (x, ρ') ∧ CF σ σ' ∧ RF ρ ρ' ∧ (b = true → ∃ j, j < NL.length ∧ x = nI j ∧ σ'.1 1 9 = nI j ∧ stops τ = false ∧ ρ' = ρ ∧ Bo T n i τ σ' ρ) ∧ (b = false → Fau σ' ρ') := by
  unfold mX4_readOldName mX12_oldName
  simp only [bnd_eq]
  rw [show 1 + 2 = 3 from rfl, show (2 : Int32) = nI 2 from rfl, c_isSort h.1 (by omega), obs_eq, h.2.2, if_pos (show (0 : Int32) ≤ 0 by decide), r_isName h.2.1, obs_eq]
  by_cases q : τ.1 = 1 ∧ wnum τ.2.2.1 = none
  · have fr := r_find h.2.1 q.1 hR hO (by omega)
    rw [decide_eq_true (cso_name.mpr q), decide_eq_true q, if_pos rfl, if_pos rfl, c_place h.1 q.1 q.2 hC hO hl (by omega), obs_eq, fr, obs_eq]
    generalize hG : sI σ 1 9 (encO (fiN τ.2.2.1 NL 0)) = G
    have G9 : G.1 1 9 = encO (fiN τ.2.2.1 NL 0) := by rw [← hG, sI_get, if_pos ⟨rfl, rfl⟩]
    have GF : CF σ G := ⟨fun e j w => by rw [← hG, sI_get, if_neg (by omega)], by rw [← hG]; rfl⟩
    have hG' : AtC T n i τ G := h.1.fr (fun a k w => by rw [← hG, sI_get, if_neg (by omega)]) (fun k => by rw [GF.2])
    rw [G9]
    cases hf : fiN τ.2.2.1 NL 0 with
    | none =>
      rw [show encO none = (-1 : Int32) from rfl, if_pos rfl, c_fail hG', obs_eq, if_neg (show ¬ (0 : Int32) ≤ -1 by decide), r_wrong h.2.1 h.2.2, obs_eq, if_neg (show ¬ τ.1 = 3 by omega)]
      obtain ⟨f1, f2, f3⟩ := fau_of (σ := G) (ρ := ρ) (x := 5) (y := 5) rfl (by decide) (p := τ.2.1)
      rw [if_neg f1.2.2]
      exact ⟨false, _, _, _, rfl, rfl, GF.tr f2, f3, fun w => (by cases w), fun _ => f1⟩
    | some j =>
      have jl := (fiN_lt NL 0 j hf).2
      rw [hf] at fr G9
      rw [show encO (some j) = nI j from rfl, if_neg (nI_nm1 (by omega)), if_pos (nI_pos' (by omega)), if_pos (show (0 : Int32) ≤ 0 by decide), obs_eq]
      exact ⟨true, G, _, ρ, rfl, rfl, GF, RF.rfl', fun _ => ⟨j, by omega, rfl, G9, stop_1 q.1, rfl, ⟨hG', h.2.1, h.2.2⟩⟩, fun w => by cases w⟩
  · rw [decide_eq_false (fun w => q (cso_name.mp w)), decide_eq_false q, if_neg (by simp), if_neg (by simp), c_refuse h.1, obs_eq, show nI 2 = (2 : Int32) from rfl, r_wrong h.2.1 h.2.2, obs_eq]
    obtain ⟨f1, f2, f3⟩ := fau_of (σ := σ) (ρ := ρ) (x := if τ.1 = 3 then 1 else 2) rfl (two_pos (τ := τ)) (p := τ.2.1)
    rw [if_neg f1.2.2]
    exact ⟨false, _, _, _, rfl, rfl, f2, f3, fun w => (by cases w), fun _ => f1⟩
end OLD
