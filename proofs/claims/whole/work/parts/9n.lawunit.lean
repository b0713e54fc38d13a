/-! the reference at a unit: nots and brackets ahead of it, then it; both sides -/
section LAWUNIT
variable {σ σ' ρ ρ' : St_} {n i d u k : Nat} {T : Nat → Nat} {τ : Tkn} {lc lr : List (Nat × Int32)} {S P : List Nat}
theorem r_openUp (hO : OpR S ρ) {x : Nat} (h25 : ρ.1 233 25 = nI x) (h160 : S.length < 160) (o : Nat) : ∃ C, (mX12_openUp 233 (nI o) ρ = if ρ.1 233 2 = 0 then mX12_token 233 C else some C) ∧ OpR (o :: S) C ∧ C.1 233 25 = nI (x + 1) ∧ (∀ a j, ¬ ((a = 233 ∧ (j = 21 ∨ j = 25)) ∨ a = 241) → C.1 a j = ρ.1 a j) ∧ C.2 = ρ.2 := by
  generalize hA : sI ρ 241 S.length (nI o) = A
  have A21 : A.1 233 21 = nI S.length := by rw [← hA, sI_get, if_neg (by omega)]; exact hO.1
  generalize hB : sI A 233 21 (nI (S.length + 1)) = B
  have B25 : B.1 233 25 = nI x := by rw [← hB, sI_get, if_neg (by omega), ← hA, sI_get, if_neg (by omega)]; exact h25
  generalize hC : sI B 233 25 (nI (x + 1)) = C
  have C0 : ∀ a j, ¬ (a = 233 ∧ (j = 21 ∨ j = 25)) → ¬ (a = 241 ∧ j = S.length) → C.1 a j = ρ.1 a j := fun a j w1 w2 => by rw [← hC, sI_get, if_neg (by omega), ← hB, sI_get, if_neg (by omega), ← hA, sI_get, if_neg w2]
  refine ⟨C, ?_, ⟨by rw [← hC, sI_get, if_neg (by omega), ← hB, sI_get, if_pos ⟨rfl, rfl⟩]; rfl, fun p S1 S2 e => ?_⟩, by rw [← hC, sI_get, if_pos ⟨rfl, rfl⟩], fun a j w => C0 a j (by omega) (by omega), by rw [← hC, sI_2, ← hB, sI_2, ← hA, sI_2]⟩
  · unfold mX12_openUp
    simp only [bnd_eq]
    rw [hO.1, binn h160 (by omega), if_pos rfl, pn_cl (by omega), show 233 + 8 = 241 from rfl, hA, A21, nI_1, hB, B25, nI_1, hC, C0 233 2 (by omega) (by omega), some_bind]
  · cases S1 with
    | nil =>
      rw [List.nil_append] at e
      injection e with e1 e2
      rw [← hC, sI_get, if_neg (by omega), ← hB, sI_get, if_neg (by omega), ← hA, ← e2, sI_get, if_pos ⟨rfl, rfl⟩, e1]
    | cons q S1 =>
      rw [List.cons_append] at e
      injection e with e1 e2
      have := congrArg List.length e2
      rw [List.length_append, List.length_cons] at this
      rw [C0 _ _ (by omega) (by omega)]
      exact hO.2 p S1 S2 e2
theorem fau_fr {p : Nat} (A : St_) (h : Fau A (sI (sI ρ 233 2 (if τ.1 = 3 then 1 else 2)) 233 3 (nI p))) (e : ∀ j, j = 2 ∨ j = 3 → ρ'.1 233 j = (sI (sI ρ 233 2 (if τ.1 = 3 then 1 else 2)) 233 3 (nI p)).1 233 j) : Fau A ρ' := by
  refine ⟨?_, ?_, ?_⟩
  · rw [e 2 (by omega)]; exact h.1
  · rw [e 3 (by omega)]; exact h.2.1
  · rw [e 2 (by omega)]; exact h.2.2
theorem u_not {K : St_ → Option St_} (h : LGw T n i τ d lc lc S u k σ ρ) (hd : 12 ≤ d) (hw : τ.1 = 1 ∧ wnum τ.2.2.1 = some 17) (hT : Tpw 4 S) (h6 : nst S ≤ 6) (hb9 : lc.length + nb S ≤ 9 * u + nst S) (a m : Nat) : ∃ τ' ρ', mX10_next 3 σ = some (sI σ 3 6 (nI (i + 1))) ∧ RU K (a + 1) m ρ = RU K a m ρ' ∧ LGw T n (i + 1) τ' d lc lc (21 :: S) u k (sI σ 3 6 (nI (i + 1))) ρ' ∧ RLw ρ ρ' ∧ CLw d σ (sI σ 3 6 (nI (i + 1))) ∧ Tpw 4 (21 :: S) ∧ lc.length + nb (21 :: S) ≤ 9 * u + nst (21 :: S) := by
  obtain ⟨hB, hLc, hLr, hO, h25, hb, hu, hn, hx⟩ := h
  have hTn := hT.nots
  have hTl := hTn.1
  have n1 : nst (21 :: S) = nst S + 1 := by
    conv => lhs; unfold nst
    rw [if_pos (Or.inr rfl)]; omega
  have nb1 : nb (21 :: S) = nb S + 1 := by
    conv => lhs; unfold nb
    rw [if_neg (by omega)]; omega
  obtain ⟨C, c1, c2, c3, c4, c5⟩ := r_openUp hO h25 (by omega) 21
  have CB : Bo T n i τ σ C := ⟨hB.1, hB.2.1.fr (fun a j w => c4 a j (by omega)) (by rw [c5]), by rw [c4 _ _ (by omega)]; exact hB.2.2⟩
  obtain ⟨τ', ρ', b1, b2, b3, b4, b5⟩ := next_bo CB (stop_1 hw.1)
  rw [if_pos hB.2.2, b2] at c1
  have E : ∀ a j, ¬ (a = 233 ∧ ((2 ≤ j ∧ j ≤ 8) ∨ j = 21 ∨ j = 25)) → ¬ a = 241 → ρ'.1 a j = ρ.1 a j := fun a j w1 w2 => by rw [b5.1 a j (by omega), c4 a j (by omega)]
  have sl : (21 :: S).length = S.length + 1 := rfl
  obtain ⟨v0, v1, v2, v3, v4, v5, v6, v7, v8, v9, v10, v11, v12, v13, v14, v15, v16, v17, -⟩ := rw6_vals
  refine ⟨τ', ρ', b1, ?_, ⟨b3, nx_lw hd hLc _, hLr.fr (fun a j w => E a j (by omega) (by omega)), c2.fr (fun a j w => b5.1 a j (by omega)), by rw [b5.1 _ _ (by omega), c3, n1], fun o ho => ?_, ⟨by rw [sI_get, if_neg (by omega)]; exact hu.1, by rw [E _ _ (by omega) (by omega)]; exact hu.2.1, by rw [E _ _ (by omega) (by omega)]; exact hu.2.2.1, hu.2.2.2⟩, ⟨by omega, by omega⟩, hx⟩, ⟨fun e j w => E e j (by omega) (by omega), fun e j w => by rw [b5.2 e j w, c5]⟩, nx_cl _, hTn, by omega⟩
  · unfold RU
    conv => lhs; unfold mX12_unit_L2
    rw [if_pos rfl, if_pos hB.2.2, ← v17, r_isWord hB.2.1 (by omega), obs_eq]
    simp only [bnd_eq]
    rw [decide_eq_true hw, if_pos rfl, r_mayNot' hO hb (by omega), obs_eq, hT.mn, if_pos rfl, h25, if_pos (show nI (nst S) ≤ (6 : Int32) from nI_le (b := 6) h6 (by omega)), show (21 : Int32) = nI 21 from rfl, c1, obs_eq]
  · rcases List.mem_cons.mp ho with w | w
    · omega
    · exact hb o w
theorem u_not_bad {K : St_ → Option St_} (h : LGw T n i τ d lc lc S u k σ ρ) (hw : τ.1 = 1 ∧ wnum τ.2.2.1 = some 17) (hT : Tpw 4 S) (h6 : ¬ nst S ≤ 6) (a m : Nat) : ∃ σ' ρ', mX10_refuse 3 σ = some (false, σ') ∧ RU K (a + 1 + 1) (m + 1) ρ = K ρ' ∧ Fau σ' ρ' ∧ RLw ρ ρ' ∧ CLw d σ σ' := by
  obtain ⟨hB, hLc, hLr, hO, h25, hb, hu, hn, hx⟩ := h
  obtain ⟨v0, v1, v2, v3, v4, v5, v6, v7, v8, v9, v10, v11, v12, v13, v14, v15, v16, v17, -⟩ := rw6_vals
  obtain ⟨f1, f2, f3⟩ := fau_of (σ := σ) (ρ := ρ) (x := if τ.1 = 3 then 1 else 2) rfl (two_pos (τ := τ)) (p := τ.2.1)
  generalize hW : sI (sI ρ 233 2 (if τ.1 = 3 then 1 else 2)) 233 3 (nI τ.2.1) = W at f1 f3
  obtain ⟨C, c1, c2, c3, c4, c5⟩ := r_openUp (hO.fr (ρ' := W) (fun a j w => f3.1 a j (by omega))) (x := nst S) (by rw [f3.1 _ _ (by omega)]; exact h25) (by omega) 21
  rw [if_neg (fltw f1.2.2)] at c1
  have fC : ¬ C.1 233 2 ≤ 0 := by rw [c4 _ _ (by omega)]; exact f1.2.2
  refine ⟨_, C, c_refuse hB.1, ?_, ⟨by rw [c4 _ _ (by omega)]; exact f1.1, by rw [c4 _ _ (by omega)]; exact f1.2.1, fC⟩, ⟨fun e j w => by rw [c4 e j (by omega), f3.1 e j (by omega)], fun e j w => by rw [c5, f3.2 e j w]⟩, ⟨fun e j w => by rw [sI_get, if_neg (by omega), sI_get, if_neg (by omega)], rfl⟩⟩
  have hf := ru_fault (K := K) fC a m
  unfold RU at hf ⊢
  conv => lhs; unfold mX12_unit_L2
  rw [if_pos rfl, if_pos hB.2.2, ← v17, r_isWord hB.2.1 (by omega), obs_eq]
  simp only [bnd_eq]
  rw [decide_eq_true hw, if_pos rfl, r_mayNot' hO hb (by omega), obs_eq, hT.mn, if_pos rfl, h25, if_neg (show ¬ nI (nst S) ≤ (6 : Int32) from nI_ge (a := 6) (by omega) (by omega)), r_wrong hB.2.1 hB.2.2, obs_eq, hW, show (21 : Int32) = nI 21 from rfl, c1, obs_eq, hf]
theorem r_count (h22 : ρ.1 233 22 = nI u) (h24 : ρ.1 233 24 = nI u) : ∃ C, mX12_countUnit 233 ρ = some C ∧ C.1 233 22 = nI (u + 1) ∧ C.1 233 24 = nI (u + 1) ∧ (∀ a j, ¬ (a = 233 ∧ (j = 22 ∨ j = 24)) → C.1 a j = ρ.1 a j) ∧ C.2 = ρ.2 := by
  generalize hA : sI ρ 233 22 (nI (u + 1)) = A
  have A24 : A.1 233 24 = nI u := by rw [← hA, sI_get, if_neg (by omega)]; exact h24
  generalize hB : sI A 233 24 (nI (u + 1)) = B
  refine ⟨B, ?_, by rw [← hB, sI_get, if_neg (by omega), ← hA, sI_get, if_pos ⟨rfl, rfl⟩], by rw [← hB, sI_get, if_pos ⟨rfl, rfl⟩], fun a j w => by rw [← hB, sI_get, if_neg (by omega), ← hA, sI_get, if_neg (by omega)], by rw [← hB, sI_2, ← hA, sI_2]⟩
  unfold mX12_countUnit
  simp only [bnd_eq]
  rw [h22, nI_1, hA, A24, nI_1, hB]
theorem r_full (h22 : ρ.1 233 22 = nI u) (h24 : ρ.1 233 24 = nI u) (hu : u ≤ 30) : mX12_isFull 233 ρ = some (decide (u = 30)) := by
  unfold mX12_isFull
  rw [h22, h24, if_neg (show ¬ nI u = (60 : Int32) from fun w => by have := (nI_eq (b := 60) (by omega) (by omega)).mp w; omega)]
  by_cases q : u = 30
  · rw [if_pos (show nI u = (30 : Int32) by rw [q]; rfl), decide_eq_true q]
  · rw [if_neg (show ¬ nI u = (30 : Int32) from fun w => q ((nI_eq (b := 30) (by omega) (by omega)).mp w)), decide_eq_false q]
theorem u_open {K : St_ → Option St_} (h : LGw T n i τ d lc lc S u k σ ρ) (hd : 12 ≤ d) (h40 : τ.1 = 40) (hT : Tpw 7 S) (h6 : nst S ≤ 6) (h30 : u < 30) (hb9 : lc.length + nb S ≤ 9 * u + nst S) (a m : Nat) : ∃ τ' ρ' σ', mX10_next 3 (sI σ (d + 11) 5 (nI (u + 1))) = some σ' ∧ RU K (a + 1) m ρ = RU K a m ρ' ∧ LGw T n (i + 1) τ' d lc lc (20 :: S) (u + 1) k σ' ρ' ∧ RLw ρ ρ' ∧ CLw d σ σ' ∧ Tpw 1 (20 :: S) ∧ lc.length + nb (20 :: S) ≤ 9 * (u + 1) + nst (20 :: S) := by
  obtain ⟨hB, hLc, hLr, hO, h25, hb, hu, hn, hx⟩ := h
  have hTn := hT.br
  have hTl := hTn.1
  have n1 : nst (20 :: S) = nst S + 1 := by
    conv => lhs; unfold nst
    rw [if_pos (Or.inl rfl)]; omega
  have nb1 : nb (20 :: S) = nb S := by
    conv => lhs; unfold nb
    rw [if_pos rfl]; omega
  have sl : (20 :: S).length = S.length + 1 := rfl
  obtain ⟨D, d1, d2, d3, d4, d5⟩ := r_count hu.2.1 hu.2.2.1
  obtain ⟨C, c1, c2, c3, c4, c5⟩ := r_openUp (hO.fr (ρ' := D) (fun a j w => d4 a j (by omega))) (x := nst S) (by rw [d4 _ _ (by omega)]; exact h25) (by omega) 20
  generalize hA : sI σ (d + 11) 5 (nI (u + 1)) = A
  have A0 : ∀ a j, ¬ (a = d + 11 ∧ j = 5) → A.1 a j = σ.1 a j := fun a j w => by rw [← hA, sI_get, if_neg w]
  have A2 : A.2 = σ.2 := by rw [← hA]; rfl
  have A5 : A.1 (d + 11) 5 = nI (u + 1) := by rw [← hA, sI_get, if_pos ⟨rfl, rfl⟩]
  have CB : Bo T n i τ A C := ⟨hB.1.fr (fun a j w => A0 a j (by omega)) (fun j => by rw [A2]), hB.2.1.fr (fun a j w => by rw [c4 a j (by omega), d4 a j (by omega)]) (by rw [c5, d5]), by rw [c4 _ _ (by omega), d4 _ _ (by omega)]; exact hB.2.2⟩
  obtain ⟨τ', ρ', b1, b2, b3, b4, b5⟩ := next_bo CB (stop_s (by omega))
  rw [if_pos (by rw [d4 _ _ (by omega)]; exact hB.2.2), b2] at c1
  have E : ∀ a j, ¬ (a = 233 ∧ ((2 ≤ j ∧ j ≤ 8) ∨ j = 21 ∨ j = 22 ∨ j = 24 ∨ j = 25)) → ¬ a = 241 → ρ'.1 a j = ρ.1 a j := fun a j w1 w2 => by rw [b5.1 a j (by omega), c4 a j (by omega), d4 a j (by omega)]
  obtain ⟨v0, v1, v2, v3, v4, v5, v6, v7, v8, v9, v10, v11, v12, v13, v14, v15, v16, v17, -⟩ := rw6_vals
  refine ⟨τ', ρ', _, b1, ?_, ⟨b3, nx_lw hd (hLc.fr (fun a j w => A0 a j (by omega))) _, hLr.fr (fun a j w => E a j (by omega) (by omega)), c2.fr (fun a j w => b5.1 a j (by omega)), by rw [b5.1 _ _ (by omega), c3, n1], fun o ho => ?_, ⟨by rw [sI_get, if_neg (by omega)]; exact A5, by rw [b5.1 _ _ (by omega), c4 _ _ (by omega)]; exact d2, by rw [b5.1 _ _ (by omega), c4 _ _ (by omega)]; exact d3, by omega⟩, ⟨by omega, by omega⟩, hx.1, by omega⟩, ⟨fun e j w => E e j (by omega) (by omega), fun e j w => by rw [b5.2 e j w, c5, d5]⟩, ⟨fun e j w => by rw [sI_get, if_neg (by omega), A0 e j (by omega)], by rw [sI_2, A2]⟩, hTn, by omega⟩
  · unfold RU
    conv => lhs; unfold mX12_unit_L2
    rw [if_pos rfl, if_pos hB.2.2, ← v17, r_isWord hB.2.1 (by omega), obs_eq]
    simp only [bnd_eq]
    rw [decide_eq_false (fun w => by omega), if_neg (by simp), hB.2.1.2.2.1, if_pos (show nI τ.1 = (40 : Int32) by rw [h40]; rfl), r_full hu.2.1 hu.2.2.1 hu.2.2.2, obs_eq, decide_eq_false (by omega), if_neg (by simp), h25, if_pos (show nI (nst S) ≤ (6 : Int32) from nI_le (b := 6) h6 (by omega)), d1, obs_eq, show (20 : Int32) = nI 20 from rfl, c1, obs_eq]
  · rcases List.mem_cons.mp ho with w | w
    · omega
    · exact hb o w
theorem u_open_bad {K : St_ → Option St_} (h : LGw T n i τ d lc lc S u k σ ρ) (h40 : τ.1 = 40) (h6 : u = 30 ∨ ¬ nst S ≤ 6) (a m : Nat) : ∃ σ' ρ', mX10_refuse 3 σ = some (false, σ') ∧ RU K (a + 1 + 1) (m + 1) ρ = K ρ' ∧ Fau σ' ρ' ∧ RLw ρ ρ' ∧ CLw d σ σ' := by
  obtain ⟨hB, hLc, hLr, hO, h25, hb, hu, hn, hx⟩ := h
  obtain ⟨v0, v1, v2, v3, v4, v5, v6, v7, v8, v9, v10, v11, v12, v13, v14, v15, v16, v17, -⟩ := rw6_vals
  obtain ⟨f1, f2, f3⟩ := fau_of (σ := σ) (ρ := ρ) (x := if τ.1 = 3 then 1 else 2) rfl (two_pos (τ := τ)) (p := τ.2.1)
  generalize hW : sI (sI ρ 233 2 (if τ.1 = 3 then 1 else 2)) 233 3 (nI τ.2.1) = W at f1 f3
  obtain ⟨D, d1, d2, d3, d4, d5⟩ := r_count (ρ := W) (u := u) (by rw [f3.1 _ _ (by omega)]; exact hu.2.1) (by rw [f3.1 _ _ (by omega)]; exact hu.2.2.1)
  obtain ⟨C, c1, c2, c3, c4, c5⟩ := r_openUp (hO.fr (ρ' := D) (fun a j w => by rw [d4 a j (by omega), f3.1 a j (by omega)])) (x := nst S) (by rw [d4 _ _ (by omega), f3.1 _ _ (by omega)]; exact h25) (by omega) 20
  rw [if_neg (by rw [d4 _ _ (by omega)]; exact fltw f1.2.2)] at c1
  have fC : ¬ C.1 233 2 ≤ 0 := by rw [c4 _ _ (by omega), d4 _ _ (by omega)]; exact f1.2.2
  refine ⟨_, C, c_refuse hB.1, ?_, ⟨by rw [c4 _ _ (by omega), d4 _ _ (by omega)]; exact f1.1, by rw [c4 _ _ (by omega), d4 _ _ (by omega)]; exact f1.2.1, fC⟩, ⟨fun e j w => by rw [c4 e j (by omega), d4 e j (by omega), f3.1 e j (by omega)], fun e j w => by rw [c5, d5, f3.2 e j w]⟩, ⟨fun e j w => by rw [sI_get, if_neg (by omega), sI_get, if_neg (by omega)], rfl⟩⟩
  have hf := ru_fault (K := K) fC a m
  have pick : ∀ X Y : Option St_, (if decide (u = 30) = true then X else if nI (nst S) ≤ (6 : Int32) then Y else X) = X := by
    intro X Y
    rcases h6 with q | q
    · rw [decide_eq_true q, if_pos rfl]
    · rw [if_neg (show ¬ nI (nst S) ≤ (6 : Int32) from nI_ge (a := 6) (by omega) (by omega)), ite_self]
  unfold RU at hf ⊢
  conv => lhs; unfold mX12_unit_L2
  rw [if_pos rfl, if_pos hB.2.2, ← v17, r_isWord hB.2.1 (by omega), obs_eq]
  simp only [bnd_eq]
  rw [decide_eq_false (fun w => by omega), if_neg (by simp), hB.2.1.2.2.1, if_pos (show nI τ.1 = (40 : Int32) by rw [h40]; rfl), r_full hu.2.1 hu.2.2.1 hu.2.2.2, obs_eq, h25, pick, r_wrong hB.2.1 hB.2.2, obs_eq, hW, d1, obs_eq, show (20 : Int32) = nI 20 from rfl, c1, obs_eq, hf]
/-- what is asked for -/
def askT (τ : Tkn) : Option Nat := if τ.1 = 1 then (match wnum τ.2.2.1 with | some w => if 18 ≤ w then some (w - 18) else none | none => none) else none
theorem ask_p1 : ∀ (w : Fin 25), (if w.1 = 18 then (0 : Int32) else if w.1 = 19 then 1 else if w.1 = 20 then 2 else if w.1 = 21 then 3 else if w.1 = 22 then 4 else if w.1 = 23 then 5 else if w.1 = 24 then 6 else -1) = encO (if 18 ≤ w.1 then some (w.1 - 18) else none) := by decide
theorem r_asked (h : AtR T n τ ρ) : mX12_asked 233 ρ = some (encO (askT τ)) := by
  obtain ⟨h1, h2, h3, h4, h5, h6, h7⟩ := h
  have t256 := h1.1
  unfold mX12_asked askT
  rw [h3]
  by_cases q1 : τ.1 = 1
  · have hl := h1.2.1 q1
    have st : ∀ (w : Nat) (x : Int32) (o : Option Int32) (y : Int32), w < 25 → o = some y → (if lg_cmp (lN (τ.2.2.1.foldl g256 0)) (rw6 w) = 0 then some x else o) = some (if wnum τ.2.2.1 = some w then x else y) := fun w x o y hw ho => by
      by_cases q : wnum τ.2.2.1 = some w
      · rw [if_pos ((lcmp_0 _ _).mpr ((rw6_iff hl hw).mpr q)), if_pos q]
      · rw [if_neg (fun e => q ((rw6_iff hl hw).mp ((lcmp_0 _ _).mp e))), if_neg q, ho]
    obtain ⟨v0, v1, v2, v3, v4, v5, v6, v7, v8, v9, v10, v11, v12, v13, v14, v15, v16, v17, v18, v19, v20, v21, v22, v23, v24⟩ := rw6_vals
    rw [if_pos (show nI τ.1 = (1 : Int32) by rw [q1]; rfl), if_pos q1, h5 q1, ← v18, ← v19, ← v20, ← v21, ← v22, ← v23, ← v24, st 18 0 _ _ (by omega) (st 19 1 _ _ (by omega) (st 20 2 _ _ (by omega) (st 21 3 _ _ (by omega) (st 22 4 _ _ (by omega) (st 23 5 _ _ (by omega) (st 24 6 _ _ (by omega) rfl))))))]
    congr 1
    cases hn : wnum τ.2.2.1 with
    | none => rfl
    | some w =>
      have hw := wnum_lt hn
      simp only [Option.some.injEq]
      exact ask_p1 ⟨w, hw⟩
  · rw [if_neg (show ¬ nI τ.1 = (1 : Int32) from fun w => q1 ((nI_eq (b := 1) (by omega) (by omega)).mp w)), if_neg q1]
    rfl
theorem cso_word : cso τ = 3 ↔ τ.1 = 1 ∧ (wnum τ.2.2.1).isSome = true := by
  unfold cso
  by_cases w0 : τ.1 = 0
  · rw [if_pos w0]; omega
  · rw [if_neg w0]
    by_cases w3 : τ.1 = 3
    · rw [if_pos w3]; omega
    · rw [if_neg w3]
      by_cases w2 : τ.1 = 2
      · rw [if_pos w2]; omega
      · rw [if_neg w2]
        by_cases w1 : τ.1 = 1
        · rw [if_pos w1]
          cases wnum τ.2.2.1 <;> simp [w1]
        · rw [if_neg w1]; omega
/-- neither a not that may stand nor a bracket -/
theorem ru_fall {K : St_ → Option St_} (h : LGw T n i τ d lc lc S u k σ ρ) (h40 : ¬ τ.1 = 40) (hn : ¬ ((τ.1 = 1 ∧ wnum τ.2.2.1 = some 17) ∧ mnS S = true)) (a m : Nat) : RU K (a + 1 + 1) m ρ = (KU ρ).bind fun ρ1 => RH K m ρ1 := by
  obtain ⟨hB, hLc, hLr, hO, h25, hb, hu, hn', hx⟩ := h
  have t256 := hB.2.1.1.1
  have fin : mX12_unit_L2 233 KU (a + 1) false ρ = KU ρ := by
    unfold mX12_unit_L2
    rw [if_neg (by simp)]
  have pick : ∀ X Y : Option St_, (if decide (τ.1 = 1 ∧ wnum τ.2.2.1 = some 17) = true then (if mnS S = true then Y else X) else X) = X := by
    intro X Y
    by_cases q : τ.1 = 1 ∧ wnum τ.2.2.1 = some 17
    · have q' : ¬ mnS S = true := fun w => hn ⟨q, w⟩
      rw [if_neg q', ite_self]
    · rw [decide_eq_false q, if_neg (by simp)]
  obtain ⟨v0, v1, v2, v3, v4, v5, v6, v7, v8, v9, v10, v11, v12, v13, v14, v15, v16, v17, -⟩ := rw6_vals
  unfold RU
  conv => lhs; unfold mX12_unit_L2
  rw [if_pos rfl, if_pos hB.2.2, ← v17, r_isWord hB.2.1 (by omega), obs_eq]
  simp only [bnd_eq]
  rw [hB.2.1.2.2.1, if_neg (show ¬ nI τ.1 = (40 : Int32) from fun w => h40 ((nI_eq (b := 40) (by omega) (by omega)).mp w)), fin, r_mayNot' hO hb (by omega)]
  simp only [obs_eq]
  rw [pick]
end LAWUNIT
