/-! open signs done, down to a bracket -/
section CLOSE
variable {σ σ' ρ ρ' : St_} {least : Nat}
def tgt (o : Nat) : Nat := if o = 21 then 3 else if o = 38 then 2 else if o = 43 then 5 else if o = 45 then 5 else if o = 60 then 4 else if o = 61 then 4 else if o = 62 then 4 else if o = 124 then 1 else 6
theorem r_tight0 : ∀ o : Fin 256, mX12_tight (nI o.1) σz = some (nI (tgt o.1)) ∧ tgt o.1 < 7 := by decide +kernel
theorem r_tight {o : Nat} (h : o < 256) : mX12_tight (nI o) σ = some (nI (tgt o)) := (r_tight0 ⟨o, h⟩).1
theorem tgt_lt {o : Nat} (h : o < 256) : tgt o < 7 := (r_tight0 ⟨o, h⟩).2
def sto (o : Nat) : Nat × Int32 := if o = 21 then (2, 0) else (3, nI o)
def cls (least : Nat) : List Nat → List Nat × List (Nat × Int32)
  | [] => ([], [])
  | o :: S => if o = 20 ∨ tgt o < least then (o :: S, []) else ((cls least S).1, sto o :: (cls least S).2)
/-- how deep: brackets and nots -/
def nst : List Nat → Nat
  | [] => 0
  | o :: S => (if o = 20 ∨ o = 21 then 1 else 0) + nst S
theorem OpR.tail {o : Nat} {S : List Nat} (h : OpR (o :: S) ρ) (e : ∀ k, ρ'.1 241 k = ρ.1 241 k) (e2 : ρ'.1 233 21 = nI S.length) : OpR S ρ' := ⟨e2, fun p S1 S2 hp => by rw [e]; exact h.2 p (o :: S1) S2 (by rw [hp]; rfl)⟩
theorem OpR.fr {S : List Nat} (h : OpR S ρ) (e : ∀ a k, (a = 233 ∧ k = 21) ∨ a = 241 → ρ'.1 a k = ρ.1 a k) : OpR S ρ' := ⟨by rw [e _ _ (by omega)]; exact h.1, fun o S1 S2 hp => by rw [e _ _ (by omega)]; exact h.2 o S1 S2 hp⟩
theorem LwR.fr {lw : List (Nat × Int32)} (h : LwR lw ρ) (e : ∀ a k, (a = 233 ∧ k = 19) ∨ a = 237 ∨ a = 238 → ρ'.1 a k = ρ.1 a k) : LwR lw ρ' := ⟨by rw [e _ _ (by omega)]; exact h.1, fun i q hq => ⟨by rw [e _ _ (by omega)]; exact (h.2 i q hq).1, fun w => by rw [e _ _ (by omega)]; exact (h.2 i q hq).2 w⟩⟩
theorem nst_le : ∀ S : List Nat, nst S ≤ S.length
  | [] => Nat.le_refl 0
  | o :: S => by
    have := nst_le S
    unfold nst
    rw [List.length_cons]
    by_cases q : o = 20 ∨ o = 21
    · rw [if_pos q]; omega
    · rw [if_neg q]; omega
theorem r_close_L0 (hle : least ≤ 10) : ∀ (S : List Nat) m (lw : List (Nat × Int32)) (ρ : St_), LwR lw ρ → OpR S ρ → ρ.1 233 25 = nI (nst S) → (∀ o ∈ S, o < 256) → lw.length + S.length ≤ 319 → S.length ≤ 160 → S.length < m → ∃ ρ', mX12_close_L0 233 (nI least) m ρ = some ρ' ∧ LwR (lw ++ (cls least S).2) ρ' ∧ OpR (cls least S).1 ρ' ∧ ρ'.1 233 25 = nI (nst (cls least S).1) ∧ (∀ a k, ¬ ((a = 233 ∧ (k = 19 ∨ k = 21 ∨ k = 25)) ∨ a = 237 ∨ a = 238) → ρ'.1 a k = ρ.1 a k) ∧ ρ'.2 = ρ.2
  | [], m, lw, ρ, hL, hO, hd, hb, hl, h160, hm => by
    obtain ⟨m, rfl, -⟩ := fu_suc hm
    refine ⟨ρ, ?_, by simpa [cls] using hL, hO, hd, fun a k _ => rfl, rfl⟩
    unfold mX12_close_L0
    rw [hO.1, if_pos (show nI ([] : List Nat).length ≤ 0 by decide)]
  | o :: S, m, lw, ρ, hL, hO, hd, hb, hl, h160, hm => by
    obtain ⟨m, rfl, hm⟩ := fu_suc hm
    have ho := hb o List.mem_cons_self
    have hb' : ∀ o ∈ S, o < 256 := fun p hp => hb p (List.mem_cons_of_mem _ hp)
    have h1 := hO.1
    rw [List.length_cons] at h1 hl h160 hm
    have g : ρ.1 241 S.length = nI o := hO.2 o [] S rfl
    have nl := nst_le S
    generalize hA : sI ρ 233 21 (nI S.length) = A
    have A0 : ∀ a k, ¬ (a = 233 ∧ k = 21) → A.1 a k = ρ.1 a k := fun a k w => by rw [← hA, sI_get, if_neg w]
    have A21 : A.1 233 21 = nI S.length := by rw [← hA, sI_get, if_pos ⟨rfl, rfl⟩]
    have OA : OpR S A := hO.tail (fun k => A0 241 k (by omega)) A21
    have LA : LwR lw A := hL.fr (fun a k w => A0 a k (by omega))
    have gA : A.1 241 S.length = nI o := by rw [A0 _ _ (by omega)]; exact g
    unfold mX12_close_L0
    simp only [bnd_eq]
    rw [h1, if_neg (show ¬ nI (S.length + 1) ≤ (0 : Int32) from nI_ge (a := 0) (by omega) (by omega)), nI_s1 (by omega), binn (show S.length < 160 by omega) (by omega), if_pos rfl, pn_cl (by omega), show 233 + 8 = 241 from rfl, g, hA, A21, binn (show S.length < 160 by omega) (by omega), if_pos rfl, if_pos rfl, pn_cl (by omega), gA, r_tight ho, obs_eq]
    by_cases q20 : o = 20
    · have e : cls least (o :: S) = (o :: S, []) := by
        conv => lhs; unfold cls
        rw [if_pos (Or.inl q20)]
      rw [if_pos (show nI o = (20 : Int32) by rw [q20]; rfl), e]
      exact ⟨ρ, rfl, by simpa using hL, hO, hd, fun a k _ => rfl, rfl⟩
    · rw [if_neg (show ¬ nI o = (20 : Int32) from fun w => q20 ((nI_eq (b := 20) (by omega) (by omega)).mp w))]
      by_cases qt : tgt o < least
      · have e : cls least (o :: S) = (o :: S, []) := by
          conv => lhs; unfold cls
          rw [if_pos (Or.inr qt)]
        rw [if_pos (nI_lt qt (by omega)), e]
        exact ⟨ρ, rfl, by simpa using hL, hO, hd, fun a k _ => rfl, rfl⟩
      · have e : cls least (o :: S) = ((cls least S).1, sto o :: (cls least S).2) := by
          conv => lhs; unfold cls
          rw [if_neg (fun w => w.elim q20 qt)]
        have tl := tgt_lt ho
        rw [if_neg (nI_nlt (by omega) (by omega)), e]
        by_cases q21 : o = 21
        · have es : sto o = (2, 0) := by unfold sto; rw [if_pos q21]
          obtain ⟨B, b1, b2, b3, b4⟩ := r_ladd LA (by omega) (2, 0) (y := 2) (x := 0) rfl (fun w => absurd rfl w)
          have nd : nst (o :: S) = nst S + 1 := by
            conv => lhs; unfold nst
            rw [if_pos (Or.inr q21)]
            omega
          have B25 : B.1 233 25 = nI (nst S + 1) := by rw [b3 _ _ (by omega), A0 _ _ (by omega), hd, nd]
          rw [if_pos (show nI o = (21 : Int32) by rw [q21]; rfl), b1, obs_eq, B25, nI_s1 (by omega)]
          generalize hC : sI B 233 25 (nI (nst S)) = C
          have C0 : ∀ a k, ¬ (a = 233 ∧ k = 25) → C.1 a k = B.1 a k := fun a k w => by rw [← hC, sI_get, if_neg w]
          obtain ⟨D, d1, d2, d3, d4, d5, d6⟩ := r_close_L0 hle S m (lw ++ [(2, 0)]) C (b2.fr (fun a k w => C0 a k (by omega))) (OA.fr (fun a k w => by rw [C0 a k (by omega), b3 a k (by omega)])) (by rw [← hC, sI_get, if_pos ⟨rfl, rfl⟩]) hb' (by simp; omega) (by omega) (by omega)
          rw [es]
          refine ⟨D, d1, by simpa using d2, d3, d4, fun a k w => by rw [d5 a k w, C0 a k (by omega), b3 a k (by omega), A0 a k (by omega)], by rw [d6, ← hC, sI_2, b4, ← hA, sI_2]⟩
        · have es : sto o = (3, nI o) := by unfold sto; rw [if_neg q21]
          obtain ⟨B, b1, b2, b3, b4⟩ := r_ladd LA (by omega) (3, nI o) (y := 3) (x := nI o) rfl (fun _ => rfl)
          have nd : nst (o :: S) = nst S := by
            conv => lhs; unfold nst
            rw [if_neg (fun w => w.elim q20 q21)]
            omega
          rw [if_neg (show ¬ nI o = (21 : Int32) from fun w => q21 ((nI_eq (b := 21) (by omega) (by omega)).mp w)), b1, obs_eq]
          obtain ⟨D, d1, d2, d3, d4, d5, d6⟩ := r_close_L0 hle S m (lw ++ [(3, nI o)]) B b2 (OA.fr (fun a k w => b3 a k (by omega))) (by rw [b3 _ _ (by omega), A0 _ _ (by omega), hd, nd]) hb' (by simp; omega) (by omega) (by omega)
          rw [es]
          refine ⟨D, d1, by simpa using d2, d3, d4, fun a k w => by rw [d5 a k w, b3 a k (by omega), A0 a k (by omega)], by rw [d6, b4, ← hA, sI_2]⟩
end CLOSE
