/-! a word and its number; a new name; a name told already: both sides -/
section TOLD
variable {σ σ' ρ ρ' : St_} {n i : Nat} {T : Nat → Nat} {τ : Tkn}
theorem num_of (h : Bo T n i τ σ ρ) {w hi : Nat} (hw : w < 25) (hhi : hi ≤ 1000) : ∃ b σ' x ρ', mX4_readNumberOf 1 (nI w) (nI hi) σ = some (b, σ') ∧ mX12_told 233 (rw6 w) 0 (nI hi) ρ = some (x, ρ') ∧ CF σ σ' ∧ RF ρ ρ' ∧ (b = true → ∃ v τ', v ≤ hi ∧ x = nI v ∧ σ'.1 1 9 = nI v ∧ Bo T n (i + 2) τ' σ' ρ') ∧ (b = false → Fau σ' ρ') := by
  obtain ⟨b, A, R, a1, a2, a3, a4, a5, a6⟩ := take_word h hw
  unfold mX4_readNumberOf mX12_told
  rw [show 1 + 2 = 3 from rfl, a1, a2, obs_eq, obs_eq]
  cases b
  · have f := a6 rfl
    rw [told_f f.2.2, obs_eq, if_neg (by simp)]
    exact ⟨false, A, 0, R, rfl, rfl, a3, a4, fun w => (by cases w), fun _ => f⟩
  · obtain ⟨τ1, h1⟩ := a5 rfl
    obtain ⟨b, B, b1, b2, b3⟩ := told_num h1 (lo := 0) (hi := hi) (by omega) hhi
    rw [show nI 0 = (0 : Int32) from rfl] at b1 b3
    rw [if_pos rfl, b1, obs_eq]
    rcases b3 with ⟨rfl, v, τ', R', -, v2, -, -, v3, -, v4, v5, v6, v7⟩ | ⟨rfl, x, R', v1, v2, v3⟩
    · rw [if_pos rfl, v4, obs_eq, v5, obs_eq]
      refine ⟨true, _, _, R', rfl, rfl, (a3.tr b2).tr ⟨fun e j w => by rw [sI_get, if_neg (by omega)], rfl⟩, a4.tr v6, fun _ => ⟨v, τ', v2, rfl, by rw [sI_get, if_neg (by omega)]; exact v3, v7⟩, fun w => by cases w⟩
    · rw [if_neg (by simp), v1, obs_eq]
      exact ⟨false, B, x, R', rfl, rfl, a3.tr b2, a4.tr v2, fun w => (by cases w), fun _ => v3⟩
/-- what a name's reading leaves alone -/
def CFn (a k : Nat) (σ σ' : St_) : Prop := (∀ e j, ¬ ((e = 3 ∧ 6 ≤ j ∧ j ≤ 8) ∨ (e = 1 ∧ j = 9)) → σ'.1 e j = σ.1 e j) ∧ ∀ e j, ¬ (e = a ∧ j = k) → σ'.2 e j = σ.2 e j
def RFn (k : Nat) (ρ ρ' : St_) : Prop := (∀ e j, ¬ (e = 233 ∧ 2 ≤ j ∧ j ≤ 8) → ρ'.1 e j = ρ.1 e j) ∧ ∀ e j, ¬ ((e = 233 ∧ j = 9) ∨ (e = 235 ∧ j = k)) → ρ'.2 e j = ρ.2 e j
theorem CF.nm {a k : Nat} (h : CF σ σ') : CFn a k σ σ' := ⟨h.1, fun e j _ => by rw [h.2]⟩
theorem RF.nm {k : Nat} (h : RF ρ ρ') : RFn k ρ ρ' := ⟨h.1, fun e j w => h.2 e j (by omega)⟩
theorem new_name (h0 : Bo T n i τ σ ρ) (hs : stops τ = false) {a an f : Nat} {NL : List (List Nat)} (hC : NmC a NL σ) (hR : NmR f NL ρ) (hO : NmO NL) (hl : NL.length < an) (han : f + an ≤ 32) (ha : ¬ a = 7) : ∃ b σ' ρ', mX4_readNewName 1 a an (nI NL.length) (sI σ 3 6 (nI (i + 1))) = some (b, σ') ∧ mX12_newName 233 (nI f) (nI NL.length) ρ = some ρ' ∧ CFn a NL.length σ σ' ∧ RFn (f + NL.length) ρ ρ' ∧ (b = true → ∃ l τ', NmO (NL ++ [l]) ∧ NmC a (NL ++ [l]) σ' ∧ NmR f (NL ++ [l]) ρ' ∧ Bo T n (i + 2) τ' σ' ρ') ∧ (b = false → Fau σ' ρ') := by
  obtain ⟨τ1, R, a1, a2, a3, a4, a5⟩ := next_bo h0 hs
  generalize hA : sI σ 3 6 (nI (i + 1)) = A at *
  have hCA : NmC a NL A := fun k l hk => by rw [a4.2]; exact hC k l hk
  have hRR : NmR f NL R := fun k l hk => by rw [a5.2 _ _ (by omega)]; exact hR k l hk
  unfold mX4_readNewName mX12_newName
  simp only [bnd_eq]
  rw [a2, obs_eq, show 1 + 2 = 3 from rfl, show (2 : Int32) = nI 2 from rfl, c_isSort a3.1 (by omega), obs_eq, r_isName a3.2.1, obs_eq]
  by_cases q : τ1.1 = 1 ∧ wnum τ1.2.2.1 = none
  · have hi1 := a3.1.2.1
    rw [decide_eq_true (cso_name.mpr q), decide_eq_true q, if_pos rfl, if_pos rfl, c_place a3.1 q.1 q.2 hCA hO (by omega) (by omega), obs_eq, r_find a3.2.1 q.1 hRR hO (by omega), obs_eq]
    cases hf : fiN τ1.2.2.1 NL 0 with
    | none =>
      have nin : ¬ τ1.2.2.1 ∈ NL := (fiN_none NL 0).mp hf
      rw [show encO none = (-1 : Int32) from rfl, if_pos rfl, if_neg (show ¬ Int32.ofNat an ≤ nI NL.length from nI_ge hl (by omega)), a3.1.2.2.2.2, binn hi1 (by omega), if_pos rfl, pn_cl (show i + 1 < 2 ^ 31 by omega), show 3 + 4 = 7 from rfl, c_name a3.1 q.1 q.2, binn hl (by omega), if_pos rfl, pn_cl (show NL.length < 2 ^ 31 by omega), if_pos (show (-1 : Int32) < 0 by decide), a3.2.2, if_pos (show (0 : Int32) ≤ 0 by decide), nI_add, binn (show f + NL.length < 32 by omega) (by omega), if_pos rfl, pn_cl (show f + NL.length < 2 ^ 31 by omega), show 233 + 2 = 235 from rfl, a3.2.1.2.2.2.2.1 q.1]
      generalize hB : sL A a NL.length (lN (τ1.2.2.1.foldl g27 0)) = B
      generalize hQ : sL R 235 (f + NL.length) (lN (τ1.2.2.1.foldl g256 0)) = Q
      have B1 : B.1 = A.1 := by rw [← hB]; rfl
      have Q1 : Q.1 = R.1 := by rw [← hQ]; rfl
      have B2 : ∀ e j, ¬ (e = a ∧ j = NL.length) → B.2 e j = A.2 e j := fun e j w => by rw [← hB, sL_get, if_neg w]
      have Q2 : ∀ e j, ¬ (e = 235 ∧ j = f + NL.length) → Q.2 e j = R.2 e j := fun e j w => by rw [← hQ, sL_get, if_neg w]
      have bo : Bo T n (i + 1) τ1 B Q := ⟨a3.1.fr (fun _ _ _ => by rw [B1]) (fun k => B2 7 k (by omega)), a3.2.1.fr (fun _ _ _ => by rw [Q1]) (Q2 _ _ (by omega)), by rw [Q1]; exact a3.2.2⟩
      obtain ⟨τ2, R2, c1, c2, c3, c4, c5⟩ := next_bo bo (stop_1 q.1)
      rw [c1, obs_eq, c2, obs_eq]
      refine ⟨true, _, R2, rfl, rfl, ⟨fun e j w => by rw [c4.1 e j w, B1, a4.1 e j w], fun e j w => by rw [c4.2, B2 e j w, a4.2]⟩, ⟨fun e j w => by rw [c5.1 e j w, Q1, a5.1 e j w], fun e j w => by rw [c5.2 e j (by omega), Q2 e j (by omega), a5.2 e j (by omega)]⟩, fun _ => ⟨τ1.2.2.1, τ2, ⟨fun l hl' => ?_, ?_⟩, fun k l hk => ?_, fun k l hk => ?_, c3⟩, fun w => by cases w⟩
      · rcases List.mem_append.mp hl' with w | w
        · exact hO.1 l w
        · rw [List.mem_singleton.mp w]; exact a3.1.2.2.1.2.1 q.1
      · rw [List.nodup_append]
        exact ⟨hO.2, by simp, fun x hx y hy e => nin (by rw [← List.mem_singleton.mp hy, ← e]; exact hx)⟩
      · rcases get_snoc hk with ⟨g1, g2⟩ | ⟨g1, g2⟩
        · rw [c4.2, B2 a k (by omega)]; exact hCA k l g2
        · rw [c4.2, ← hB, sL_get, if_pos ⟨rfl, g1⟩, g2]
      · rcases get_snoc hk with ⟨g1, g2⟩ | ⟨g1, g2⟩
        · rw [c5.2 _ _ (by omega), Q2 235 (f + k) (by omega)]; exact hRR k l g2
        · rw [c5.2 _ _ (by omega), ← hQ, sL_get, if_pos ⟨rfl, by omega⟩, g2]
    | some j =>
      have jl := (fiN_lt NL 0 j hf).2
      rw [show encO (some j) = nI j from rfl, if_neg (nI_nm1 (by omega)), c_fail a3.1, obs_eq, if_neg (nI_pos (by omega)), r_wrong a3.2.1 a3.2.2, obs_eq, if_neg (show ¬ τ1.1 = 3 by omega)]
      obtain ⟨f1, f2, f3⟩ := fau_of (σ := A) (ρ := R) (x := 3) (y := 3) rfl (by decide) (p := τ1.2.1)
      rw [if_neg f1.2.2]
      exact ⟨false, _, _, rfl, rfl, (a4.tr f2).nm, (a5.tr f3).nm, fun w => (by cases w), fun _ => f1⟩
  · rw [decide_eq_false (fun w => q (cso_name.mp w)), decide_eq_false q, if_neg (by simp), if_neg (by simp), c_refuse a3.1, obs_eq, show nI 2 = (2 : Int32) from rfl, r_wrong a3.2.1 a3.2.2, obs_eq]
    obtain ⟨f1, f2, f3⟩ := fau_of (σ := A) (ρ := R) (x := if τ1.1 = 3 then 1 else 2) rfl (two_pos (τ := τ1)) (p := τ1.2.1)
    rw [if_neg f1.2.2]
    exact ⟨false, _, _, rfl, rfl, (a4.tr f2).nm, (a5.tr f3).nm, fun w => (by cases w), fun _ => f1⟩
end TOLD
