/-! words and numbers taken, both sides -/
section TAKE
variable {σ σ' ρ ρ' : St_} {n i : Nat} {T : Nat → Nat} {τ : Tkn}
/-- both at TOKEN i, no FAULT so far -/
def Bo (T : Nat → Nat) (n i : Nat) (τ : Tkn) (σ ρ : St_) : Prop := AtC T n i τ σ ∧ AtR T n τ ρ ∧ ρ.1 233 2 = 0
/-- the same FAULT -/
def Fau (σ ρ : St_) : Prop := σ.1 3 7 = ρ.1 233 2 ∧ σ.1 3 8 = ρ.1 233 3 ∧ ¬ ρ.1 233 2 ≤ 0
/-- what is left alone -/
def CF (σ σ' : St_) : Prop := (∀ e j, ¬ ((e = 3 ∧ 6 ≤ j ∧ j ≤ 8) ∨ (e = 1 ∧ j = 9)) → σ'.1 e j = σ.1 e j) ∧ σ'.2 = σ.2
def RF (ρ ρ' : St_) : Prop := (∀ e j, ¬ (e = 233 ∧ 2 ≤ j ∧ j ≤ 8) → ρ'.1 e j = ρ.1 e j) ∧ ∀ e j, ¬ (e = 233 ∧ j = 9) → ρ'.2 e j = ρ.2 e j
theorem CF.rfl' : CF σ σ := ⟨fun _ _ _ => rfl, rfl⟩
theorem RF.rfl' : RF ρ ρ := ⟨fun _ _ _ => rfl, fun _ _ _ => rfl⟩
theorem CF.tr {σ'' : St_} (a : CF σ σ') (b : CF σ' σ'') : CF σ σ'' := ⟨fun e j q => by rw [b.1 e j q, a.1 e j q], by rw [b.2, a.2]⟩
theorem RF.tr {ρ'' : St_} (a : RF ρ ρ') (b : RF ρ' ρ'') : RF ρ ρ'' := ⟨fun e j q => by rw [b.1 e j q, a.1 e j q], fun e j q => by rw [b.2 e j q, a.2 e j q]⟩
theorem TkF.rf (h : TkF ρ ρ') : RF ρ ρ' := ⟨fun e j q => h.1 e j (by omega), h.2⟩
theorem fau_of {x y : Int32} (e : x = y) (hy : ¬ y ≤ 0) {p : Nat} : Fau (sI (sI σ 3 7 x) 3 8 (nI p)) (sI (sI ρ 233 2 y) 233 3 (nI p)) ∧ CF σ (sI (sI σ 3 7 x) 3 8 (nI p)) ∧ RF ρ (sI (sI ρ 233 2 y) 233 3 (nI p)) := by
  have a1 : (sI (sI σ 3 7 x) 3 8 (nI p)).1 3 7 = x := by rw [sI_get, if_neg (by omega), sI_get, if_pos ⟨rfl, rfl⟩]
  have a2 : (sI (sI σ 3 7 x) 3 8 (nI p)).1 3 8 = nI p := by rw [sI_get, if_pos ⟨rfl, rfl⟩]
  have b1 : (sI (sI ρ 233 2 y) 233 3 (nI p)).1 233 2 = y := by rw [sI_get, if_neg (by omega), sI_get, if_pos ⟨rfl, rfl⟩]
  have b2 : (sI (sI ρ 233 2 y) 233 3 (nI p)).1 233 3 = nI p := by rw [sI_get, if_pos ⟨rfl, rfl⟩]
  refine ⟨⟨by rw [a1, b1, e], by rw [a2, b2], by rw [b1]; exact hy⟩, ⟨fun e j q => by rw [sI_get, if_neg (by omega), sI_get, if_neg (by omega)], rfl⟩, fun e j q => by rw [sI_get, if_neg (by omega), sI_get, if_neg (by omega)], fun e j q => rfl⟩
theorem two_pos : ¬ (if τ.1 = 3 then (1 : Int32) else 2) ≤ 0 := by
  by_cases q : τ.1 = 3
  · rw [if_pos q]; decide
  · rw [if_neg q]; decide
/-- one TOKEN on -/
theorem next_bo (h : Bo T n i τ σ ρ) (hs : stops τ = false) : ∃ τ' ρ', mX10_next 3 σ = some (sI σ 3 6 (nI (i + 1))) ∧ mX12_token 233 ρ = some ρ' ∧ Bo T n (i + 1) τ' (sI σ 3 6 (nI (i + 1))) ρ' ∧ CF σ (sI σ 3 6 (nI (i + 1))) ∧ RF ρ ρ' := by
  obtain ⟨τ', ρ', a1, a2, a3, a4, a5⟩ := next_both h.1 h.2.1 hs
  exact ⟨τ', ρ', a1, a2, ⟨a3, a4, by rw [a5.1 _ _ (by omega)]; exact h.2.2⟩, ⟨fun e j q => by rw [sI_get, if_neg (by omega)], rfl⟩, a5.rf⟩
theorem stop_1 (q : τ.1 = 1) : stops τ = false := by unfold stops; rw [q]; rfl
theorem stop_2 (q : τ.1 = 2) : stops τ = false := by unfold stops; rw [q]; rfl
theorem stop_s (q : 3 < τ.1) : stops τ = false := by unfold stops; rw [decide_eq_false (by omega), decide_eq_false (by omega)]; rfl
theorem want_f (h : ¬ ρ.1 233 2 ≤ 0) (x : Int64) : mX12_want 233 x ρ = some ρ := by
  unfold mX12_want
  rw [if_neg h]
theorem told_f (h : ¬ ρ.1 233 2 ≤ 0) (x y : Int32) : mX12_toldNumber 233 x y ρ = some (0, ρ) := by
  unfold mX12_toldNumber
  rw [if_neg h]
theorem take_word (h : Bo T n i τ σ ρ) {w : Nat} (hw : w < 25) : ∃ b σ' ρ', mX10_takeWord 3 (nI w) σ = some (b, σ') ∧ mX12_want 233 (rw6 w) ρ = some ρ' ∧ CF σ σ' ∧ RF ρ ρ' ∧ (b = true → ∃ τ', Bo T n (i + 1) τ' σ' ρ') ∧ (b = false → Fau σ' ρ') := by
  unfold mX10_takeWord mX12_want
  rw [c_isWord h.1 hw, obs_eq, h.2.2, if_pos (show (0 : Int32) ≤ 0 by decide), r_isWord h.2.1 hw, obs_eq]
  by_cases q : τ.1 = 1 ∧ wnum τ.2.2.1 = some w
  · obtain ⟨τ', ρ', a1, a2, a3, a4, a5⟩ := next_bo h (stop_1 q.1)
    rw [decide_eq_true q, if_pos rfl, if_pos rfl, a1, a2, obs_eq, obs_eq]
    exact ⟨true, _, _, rfl, rfl, a4, a5, fun _ => ⟨τ', a3⟩, fun w => by cases w⟩
  · rw [decide_eq_false q, if_neg (by simp), if_neg (by simp), c_refuse h.1, r_wrong h.2.1 h.2.2, obs_eq, obs_eq]
    obtain ⟨f1, f2, f3⟩ := fau_of (σ := σ) (ρ := ρ) (x := if τ.1 = 3 then 1 else 2) rfl (two_pos (τ := τ)) (p := τ.2.1)
    exact ⟨false, _, _, rfl, rfl, f2, f3, fun w => (by cases w), fun _ => f1⟩
/-- a number, and on -/
theorem told_num (h : Bo T n i τ σ ρ) {lo hi : Nat} (hlo : lo ≤ 1000) (hhi : hi ≤ 1000) : ∃ b σ', mX4_readNumber 1 (nI lo) (nI hi) σ = some (b, σ') ∧ CF σ σ' ∧ ((b = true ∧ ∃ v τ' ρ', lo ≤ v ∧ v ≤ hi ∧ τ.1 = 2 ∧ τ.2.2.2.1 = v ∧ σ'.1 1 9 = nI v ∧ AtC T n i τ σ' ∧ mX10_next 3 σ' = some (sI σ' 3 6 (nI (i + 1))) ∧ mX12_toldNumber 233 (nI lo) (nI hi) ρ = some (nI v, ρ') ∧ RF ρ ρ' ∧ Bo T n (i + 1) τ' (sI σ' 3 6 (nI (i + 1))) ρ') ∨ (b = false ∧ ∃ (x : Int32) (ρ' : St_), mX12_toldNumber 233 (nI lo) (nI hi) ρ = some (x, ρ') ∧ RF ρ ρ' ∧ Fau σ' ρ')) := by
  unfold mX4_readNumber mX12_toldNumber
  simp only [bnd_eq]
  rw [show 1 + 2 = 3 from rfl, show (4 : Int32) = nI 4 from rfl, c_isSort h.1 (by omega), obs_eq, h.2.2, if_pos (show (0 : Int32) ≤ 0 by decide), h.2.1.2.2.1]
  by_cases q : τ.1 = 2
  · have hv := h.1.2.2.1.2.2.1 q
    have h8 : ρ.1 233 8 = nI τ.2.2.2.1 := h.2.1.2.2.2.2.2.1 q
    generalize hG : sI σ 1 9 (nI τ.2.2.2.1) = G
    have G9 : G.1 1 9 = nI τ.2.2.2.1 := by rw [← hG, sI_get, if_pos ⟨rfl, rfl⟩]
    have GF : CF σ G := ⟨fun e j w => by rw [← hG, sI_get, if_neg (by omega)], by rw [← hG]; rfl⟩
    have hG' : AtC T n i τ G := h.1.fr (fun a k w => by rw [← hG, sI_get, if_neg (by omega)]) (fun k => by rw [GF.2])
    have hB : Bo T n i τ G ρ := ⟨hG', h.2.1, h.2.2⟩
    rw [decide_eq_true (cso_num.mpr q), if_pos rfl, c_numN h.1 q, obs_eq, hG, G9, if_pos (show nI τ.1 = (2 : Int32) by rw [q]; rfl), h8, c_fail hG', obs_eq, r_wrong h.2.1 h.2.2, obs_eq]
    have bad : ∃ b σ', (if (false, sI (sI G 3 7 (nI 4)) 3 8 (nI τ.2.1)).1 = true then some (true, (false, sI (sI G 3 7 (nI 4)) 3 8 (nI τ.2.1)).2) else some (false, (false, sI (sI G 3 7 (nI 4)) 3 8 (nI τ.2.1)).2)) = some (b, σ') ∧ CF σ σ' ∧ b = false ∧ Fau σ' (sI (sI ρ 233 2 (nI 4)) 233 3 (nI τ.2.1)) := by
      obtain ⟨f1, f2, f3⟩ := fau_of (σ := G) (ρ := ρ) (x := nI 4) (y := nI 4) rfl (by decide) (p := τ.2.1)
      exact ⟨false, _, rfl, GF.tr f2, rfl, f1⟩
    have badR : ¬ (sI (sI ρ 233 2 (nI 4)) 233 3 (nI τ.2.1)).1 233 2 = 0 ∧ RF ρ (sI (sI ρ 233 2 (nI 4)) 233 3 (nI τ.2.1)) := by
      refine ⟨?_, (fau_of (σ := G) (ρ := ρ) (x := nI 4) (y := nI 4) rfl (by decide) (p := τ.2.1)).2.2⟩
      rw [sI_get, if_neg (by omega), sI_get, if_pos ⟨rfl, rfl⟩]
      decide
    obtain ⟨b, B, b1, b2, b3, b4⟩ := bad
    have n3 : ¬ τ.1 = 3 := by omega
    rw [if_neg n3]
    by_cases q1 : τ.2.2.2.1 < lo
    · rw [if_pos (nI_lt q1 (by omega)), if_pos (nI_lt q1 (by omega)), if_neg badR.1]
      exact ⟨b, B, b1, b2, Or.inr ⟨b3, _, _, rfl, badR.2, b4⟩⟩
    · rw [if_neg (nI_nlt (by omega) (by omega)), if_neg (nI_nlt (by omega) (by omega))]
      by_cases q2 : τ.2.2.2.1 ≤ hi
      · rw [if_pos (nI_le q2 (by omega)), if_pos (nI_le q2 (by omega)), if_pos (show (0 : Int32) = 0 from rfl)]
        obtain ⟨τ', ρ', a1, a2, a3, a4, a5⟩ := next_bo hB (stop_2 q)
        rw [a2, obs_eq]
        exact ⟨true, G, rfl, GF, Or.inl ⟨rfl, τ.2.2.2.1, τ', ρ', by omega, q2, q, rfl, G9, hG', a1, rfl, a5, a3⟩⟩
      · rw [if_neg (nI_ge (by omega) (by omega)), if_neg (nI_ge (by omega) (by omega)), if_neg badR.1]
        exact ⟨b, B, b1, b2, Or.inr ⟨b3, _, _, rfl, badR.2, b4⟩⟩
  · have n2 : ¬ nI τ.1 = (2 : Int32) := fun w => q ((nI_eq (b := 2) (by have := h.1.2.2.1.1; omega) (by omega)).mp w)
    rw [decide_eq_false (fun w => q (cso_num.mp w)), if_neg (by simp), c_refuse h.1, obs_eq, if_neg n2, r_wrong h.2.1 h.2.2, obs_eq]
    obtain ⟨f1, f2, f3⟩ := fau_of (σ := σ) (ρ := ρ) (x := if τ.1 = 3 then 1 else 2) rfl (two_pos (τ := τ)) (p := τ.2.1)
    have n0 : ¬ (sI (sI ρ 233 2 (if τ.1 = 3 then 1 else 2)) 233 3 (nI τ.2.1)).1 233 2 = 0 := fun w => f1.2.2 (by rw [w]; decide)
    rw [if_neg n0]
    exact ⟨false, _, rfl, f2, Or.inr ⟨rfl, _, _, rfl, f3, f1⟩⟩
end TAKE
