/-! the reference between units: a sign, a bracket closed, the end -/
section LAWSTEPS
variable {σ σ' ρ ρ' : St_} {n i d u k : Nat} {T : Nat → Nat} {τ : Tkn} {lc lr : List (Nat × Int32)} {S P : List Nat}
/-- the end of a law -/
def KLw : St_ → Option St_ := (fun (σ32 : St_) => (bnd (fun (σ33 : St_) => (if (σ33.1 233 2) = 0 then
 ((mX12_close 233 (0 : Int32) σ33).bind fun σ36 =>
 (some σ36))
 else (some σ33))) fun k34 =>
 (if (σ32.1 233 2) = 0 then
 ((mX12_hasBracket 233 σ32).bind fun r37 =>
 (if r37 = true then
 ((mX12_wrong 233 (2 : Int32) σ32).bind fun σ38 =>
 (k34 σ38))
 else (k34 σ32)))
 else (k34 σ32))))
theorem some_bind (x : Option St_) : (x.bind fun s => some s) = x := by cases x <;> rfl
theorem fltw (h : ¬ ρ.1 233 2 ≤ 0) : ¬ ρ.1 233 2 = 0 := fun w => h (by rw [w]; decide)
theorem kl_fault (h : ¬ ρ.1 233 2 ≤ 0) : KLw ρ = some ρ := by
  unfold KLw
  simp only [bnd_eq]
  rw [if_neg (fltw h), if_neg (fltw h)]
theorem rh_fault {K : St_ → Option St_} (h : ¬ ρ.1 233 2 ≤ 0) (m : Nat) : RH K (m + 1) ρ = K ρ := by
  unfold RH mX12_readLaw_L30
  rw [if_pos rfl, if_neg (fltw h)]
theorem ru_fault {K : St_ → Option St_} (h : ¬ ρ.1 233 2 ≤ 0) (a m : Nat) : RU K (a + 1) (m + 1) ρ = K ρ := by
  unfold RU mX12_unit_L2
  rw [if_pos rfl, if_neg (fltw h)]
  unfold KU
  rw [if_neg h, obs_eq]
  exact rh_fault h m
theorem wr_not (p : Nat) (b : Prop) [Decidable b] : ¬ (sI (sI ρ 233 2 (if b then 1 else 2)) 233 3 (nI p)).1 233 2 ≤ 0 := by
  rw [sI_get, if_neg (by omega), sI_get, if_pos ⟨rfl, rfl⟩]
  by_cases q : b
  · rw [if_pos q]; decide
  · rw [if_neg q]; decide
theorem h_stop {K : St_ → Option St_} (h : LGw T n i τ d lc lr S u k σ ρ) (hs : sgT τ = 0 ∨ (tgt (sgT τ) = 4 ∧ relS S = true)) (h41 : ¬ (τ.1 = 41 ∧ S.any (fun o => decide (o = 20)) = true)) (m : Nat) : RH K (m + 1 + 1) ρ = K ρ := by
  have fin : mX12_readLaw_L30 233 K (m + 1) false ρ = K ρ := by
    unfold mX12_readLaw_L30
    rw [if_neg (by simp)]
  obtain ⟨hB, hLc, hLr, hO, h25, hb, hu, hn, hx⟩ := h
  have t256 := hB.2.1.1.1
  have s256 := sgT_lt t256
  have pick : ∀ X Y : Option St_, (if nI (sgT τ) = 0 then X else if nI (tgt (sgT τ)) = (4 : Int32) then (if relS S = true then X else Y) else Y) = X := by
    intro X Y
    rcases hs with hs | hs
    · rw [hs, if_pos (show nI 0 = (0 : Int32) from rfl)]
    · rw [hs.1, hs.2, if_pos (show nI 4 = (4 : Int32) from rfl), if_pos rfl, ite_self]
  have pick2 : ∀ X Y : Option St_, (if nI τ.1 = (41 : Int32) then (if S.any (fun o => decide (o = 20)) = true then Y else X) else X) = X := by
    intro X Y
    by_cases q : τ.1 = 41
    · have q' : ¬ S.any (fun o => decide (o = 20)) = true := fun w => h41 ⟨q, w⟩
      rw [if_neg q', ite_self]
    · rw [if_neg (show ¬ nI τ.1 = (41 : Int32) from fun w => q ((nI_eq (b := 41) (by omega) (by omega)).mp w))]
  unfold RH
  conv => lhs; unfold mX12_readLaw_L30
  rw [if_pos rfl, if_pos hB.2.2, r_sign hB.2.1, obs_eq]
  simp only [bnd_eq]
  rw [fin, hB.2.1.2.2.1, r_tight s256, r_hasBracket hO hb (by omega), r_hasRelation hO hb (by omega)]
  simp only [obs_eq]
  rw [pick2, pick]
theorem nx_lw (hd : 12 ≤ d) (h : LwC d lc σ) (x : Int32) : LwC d lc (sI σ 3 6 x) := h.fr (fun a j w => by rw [sI_get, if_neg (by omega)])
theorem nx_cl (x : Int32) : CLw d σ (sI σ 3 6 x) := ⟨fun e j q => by rw [sI_get, if_neg (by omega)], rfl⟩
theorem sg_stop (hs : ¬ sgT τ = 0) : stops τ = false ∧ ¬ τ.1 = 41 := by
  rcases sgT_cases τ with ⟨e, -, -⟩ | ⟨e, -, -⟩ | ⟨e, -⟩ | ⟨e, -⟩ | ⟨e, -⟩ | ⟨e, -⟩
  · exact ⟨stop_1 e, by omega⟩
  · exact ⟨stop_1 e, by omega⟩
  · exact ⟨stop_s (by omega), by omega⟩
  · exact ⟨stop_s (by omega), by omega⟩
  · exact ⟨stop_s (by omega), by omega⟩
  · exact absurd e hs
theorem h_sign {K : St_ → Option St_} (h : LGw T n i τ d lc lr (P ++ S) u k σ ρ) (hd : 12 ≤ d) (hlc : lc = lr ++ P.map sto) (hP : ∀ o ∈ P, o ≠ 20 ∧ tgt (sgT τ) ≤ tgt o) (hs : ¬ sgT τ = 0) (hr : ¬ (tgt (sgT τ) = 4 ∧ relS (P ++ S) = true)) {L : Nat} (hT : Tpw L S) (hL : L ≤ tgt (sgT τ)) (hb9 : lr.length + nb (P ++ S) + 1 ≤ 9 * u) (m : Nat) : ∃ τ' ρ', mX10_next 3 σ = some (sI σ 3 6 (nI (i + 1))) ∧ RH K (m + 1) ρ = RU K FU m ρ' ∧ LGw T n (i + 1) τ' d lc lc (sgT τ :: S) u k (sI σ 3 6 (nI (i + 1))) ρ' ∧ RLw ρ ρ' ∧ CLw d σ (sI σ 3 6 (nI (i + 1))) ∧ Tpw (tgt (sgT τ) + 1) (sgT τ :: S) ∧ lc.length + nb (sgT τ :: S) ≤ 9 * u + nst (sgT τ :: S) := by
  obtain ⟨hB, hLc, hLr, hO, h25, hb, hu, hn, hx⟩ := h
  have t256 := hB.2.1.1.1
  have s256 := sgT_lt t256
  have tl := tgt_lt s256
  have s20 : ¬ sgT τ = 20 ∧ ¬ sgT τ = 21 := by
    rcases sgT_cases τ with ⟨-, -, e⟩ | ⟨-, -, e⟩ | ⟨f, e⟩ | ⟨f, e⟩ | ⟨f, e⟩ | ⟨e, -⟩ <;> omega
  have ecl := cls_app (least := tgt (sgT τ)) P S hP (fun o S' e => (hT.2 o S' e).imp id (fun w => by omega))
  have lnb := len_nb (P ++ S)
  have nba := nb_app (S := S) (fun o ho => (hP o ho).1)
  have nsa := nst_app P S
  have pl : (P ++ S).length = P.length + S.length := List.length_append
  have hTs := hT.sign hL
  have hTl := hTs.1
  have n1 : nst (sgT τ :: S) = nst S := by
    conv => lhs; unfold nst
    rw [if_neg (by omega)]; omega
  have nb1 : nb (sgT τ :: S) = nb S + 1 := by
    conv => lhs; unfold nb
    rw [if_neg s20.1]; omega
  have ll : lc.length = lr.length + P.length := by rw [hlc, List.length_append, List.length_map]
  have sl : (sgT τ :: S).length = S.length + 1 := rfl
  obtain ⟨A, a1, a2, a3, a4, a5, a6⟩ := r_close_L0 (least := tgt (sgT τ)) (by omega) (P ++ S) FU lr ρ hLr hO h25 hb (by omega) (by omega) (by unfold FU; omega)
  rw [ecl] at a2 a3 a4
  simp only at a2 a3 a4
  rw [← hlc] at a2
  generalize hB1 : sI A 241 S.length (nI (sgT τ)) = B
  have B21 : B.1 233 21 = nI S.length := by rw [← hB1, sI_get, if_neg (by omega)]; exact a3.1
  generalize hC1 : sI B 233 21 (nI (S.length + 1)) = C
  have C0 : ∀ a j, ¬ (a = 233 ∧ j = 21) → ¬ (a = 241 ∧ j = S.length) → C.1 a j = A.1 a j := fun a j w1 w2 => by rw [← hC1, sI_get, if_neg w1, ← hB1, sI_get, if_neg w2]
  have C2 : C.2 = ρ.2 := by rw [← hC1, sI_2, ← hB1, sI_2, a6]
  have CO : OpR (sgT τ :: S) C := by
    refine ⟨by rw [← hC1, sI_get, if_pos ⟨rfl, rfl⟩]; rfl, fun o S1 S2 e => ?_⟩
    cases S1 with
    | nil =>
      rw [List.nil_append] at e
      injection e with e1 e2
      rw [← hC1, sI_get, if_neg (by omega), ← hB1, ← e2, sI_get, if_pos ⟨rfl, rfl⟩, e1]
    | cons p S1 =>
      rw [List.cons_append] at e
      injection e with e1 e2
      have := congrArg List.length e2
      rw [List.length_append, List.length_cons] at this
      rw [C0 _ _ (by omega) (by omega)]
      exact a3.2 o S1 S2 e2
  have CB : Bo T n i τ σ C := ⟨hB.1, hB.2.1.fr (fun a j w => by rw [C0 a j (by omega) (by omega), a5 a j (by omega)]) (by rw [C2]), by rw [C0 _ _ (by omega) (by omega), a5 _ _ (by omega)]; exact hB.2.2⟩
  obtain ⟨τ', ρ', b1, b2, b3, b4, b5⟩ := next_bo CB (sg_stop hs).1
  have E : ∀ a j, ¬ (a = 233 ∧ ((2 ≤ j ∧ j ≤ 8) ∨ j = 21)) → ¬ (a = 241 ∧ j = S.length) → ρ'.1 a j = A.1 a j := fun a j w1 w2 => by rw [b5.1 a j (by omega), C0 a j (by omega) w2]
  refine ⟨τ', ρ', b1, ?_, ⟨b3, nx_lw hd hLc _, a2.fr (fun a j w => E a j (by omega) (by omega)), CO.fr (fun a j w => b5.1 a j (by omega)), by rw [E _ _ (by omega) (by omega), n1]; exact a4, fun o ho => ?_, ⟨by rw [sI_get, if_neg (by omega)]; exact hu.1, by rw [E _ _ (by omega) (by omega), a5 _ _ (by omega)]; exact hu.2.1, by rw [E _ _ (by omega) (by omega), a5 _ _ (by omega)]; exact hu.2.2.1, hu.2.2.2⟩, ⟨by omega, by omega⟩, hx⟩, ⟨fun e j w => ?_, fun e j w => ?_⟩, nx_cl _, hTs, by omega⟩
  · have pick : ∀ X Y : Option St_, (if nI (tgt (sgT τ)) = (4 : Int32) then (if relS (P ++ S) = true then Y else X) else X) = X := by
      intro X Y
      by_cases q : tgt (sgT τ) = 4
      · have q' : ¬ relS (P ++ S) = true := fun w => hr ⟨q, w⟩
        rw [if_neg q', ite_self]
      · rw [if_neg (show ¬ nI (tgt (sgT τ)) = (4 : Int32) from fun w => q ((nI_eq (b := 4) (by omega) (by omega)).mp w))]
    unfold RH RU
    conv => lhs; unfold mX12_readLaw_L30
    rw [if_pos rfl, if_pos hB.2.2, r_sign hB.2.1, obs_eq]
    simp only [bnd_eq]
    rw [hB.2.1.2.2.1, if_neg (show ¬ nI τ.1 = (41 : Int32) from fun w => (sg_stop hs).2 ((nI_eq (b := 41) (by omega) (by omega)).mp w)), if_neg (show ¬ nI (sgT τ) = (0 : Int32) from fun w => hs ((nI_eq (b := 0) (by omega) (by omega)).mp w)), r_tight s256, r_hasRelation hO hb (by omega)]
    simp only [obs_eq]
    rw [pick]
    unfold mX12_close
    rw [a1, obs_eq, a3.1, binn (show S.length < 160 by omega) (by omega), if_pos rfl, pn_cl (by omega), show 233 + 8 = 241 from rfl, hB1, B21, nI_1, hC1, b2, obs_eq, unitw_eq]
    rfl
  · rcases List.mem_cons.mp ho with w | w
    · rw [w]; exact s256
    · exact hb o (List.mem_append_right _ w)
  · rw [E e j (by omega) (by omega), a5 e j (by omega)]
  · rw [b5.2 e j w, C2]
/-- a bracket closed -/
theorem h_close {K : St_ → Option St_} (h : LGw T n i τ d lc lr (P ++ 20 :: S) u k σ ρ) (hd : 12 ≤ d) (hlc : lc = lr ++ P.map sto) (hP : ∀ o ∈ P, o ≠ 20) (h41 : τ.1 = 41) (hb9 : lr.length + nb (P ++ 20 :: S) + 1 ≤ 9 * u) (m : Nat) : ∃ τ' ρ', mX10_next 3 σ = some (sI σ 3 6 (nI (i + 1))) ∧ RH K (m + 1) ρ = RH K m ρ' ∧ LGw T n (i + 1) τ' d lc lc S u k (sI σ 3 6 (nI (i + 1))) ρ' ∧ RLw ρ ρ' ∧ CLw d σ (sI σ 3 6 (nI (i + 1))) ∧ lc.length + nb S + 1 ≤ 9 * u := by
  obtain ⟨hB, hLc, hLr, hO, h25, hb, hu, hn, hx⟩ := h
  have ecl := cls_app (least := 0) P (20 :: S) (fun o ho => ⟨hP o ho, by omega⟩) (fun o S' e => by injection e with e1 e2; exact Or.inl e1.symm)
  have lnb := len_nb (P ++ 20 :: S)
  have nba := nb_app (S := 20 :: S) hP
  have nsa := nst_app P (20 :: S)
  have pl : (P ++ 20 :: S).length = P.length + (S.length + 1) := List.length_append
  have n1 : nst (20 :: S) = nst S + 1 := by
    conv => lhs; unfold nst
    rw [if_pos (Or.inl rfl)]; omega
  have nb1 : nb (20 :: S) = nb S := by
    conv => lhs; unfold nb
    rw [if_pos rfl]; omega
  have ll : lc.length = lr.length + P.length := by rw [hlc, List.length_append, List.length_map]
  have hbr : (P ++ 20 :: S).any (fun o => decide (o = 20)) = true := by simp
  obtain ⟨A, a1, a2, a3, a4, a5, a6⟩ := r_close_L0 (least := 0) (by omega) (P ++ 20 :: S) FU lr ρ hLr hO h25 hb (by omega) (by omega) (by unfold FU; omega)
  rw [ecl] at a2 a3 a4
  simp only at a2 a3 a4
  rw [← hlc] at a2
  have A21 : A.1 233 21 = nI (S.length + 1) := a3.1
  generalize hB1 : sI A 233 21 (nI S.length) = B
  have B25 : B.1 233 25 = nI (nst S + 1) := by rw [← hB1, sI_get, if_neg (by omega), a4, n1]
  generalize hC1 : sI B 233 25 (nI (nst S)) = C
  have C0 : ∀ a j, ¬ (a = 233 ∧ (j = 21 ∨ j = 25)) → C.1 a j = A.1 a j := fun a j w1 => by rw [← hC1, sI_get, if_neg (by omega), ← hB1, sI_get, if_neg (by omega)]
  have C2 : C.2 = ρ.2 := by rw [← hC1, sI_2, ← hB1, sI_2, a6]
  have CO : OpR S C := a3.tail (fun j => C0 241 j (by omega)) (by rw [← hC1, sI_get, if_neg (by omega), ← hB1, sI_get, if_pos ⟨rfl, rfl⟩])
  have CB : Bo T n i τ σ C := ⟨hB.1, hB.2.1.fr (fun a j w => by rw [C0 a j (by omega), a5 a j (by omega)]) (by rw [C2]), by rw [C0 _ _ (by omega), a5 _ _ (by omega)]; exact hB.2.2⟩
  obtain ⟨τ', ρ', b1, b2, b3, b4, b5⟩ := next_bo CB (stop_s (by omega))
  have E : ∀ a j, ¬ (a = 233 ∧ ((2 ≤ j ∧ j ≤ 8) ∨ j = 21 ∨ j = 25)) → ρ'.1 a j = A.1 a j := fun a j w1 => by rw [b5.1 a j (by omega), C0 a j (by omega)]
  refine ⟨τ', ρ', b1, ?_, ⟨b3, nx_lw hd hLc _, a2.fr (fun a j w => E a j (by omega)), CO.fr (fun a j w => b5.1 a j (by omega)), by rw [b5.1 _ _ (by omega), ← hC1, sI_get, if_pos ⟨rfl, rfl⟩], fun o ho => hb o (List.mem_append_right _ (List.mem_cons_of_mem _ ho)), ⟨by rw [sI_get, if_neg (by omega)]; exact hu.1, by rw [E _ _ (by omega), a5 _ _ (by omega)]; exact hu.2.1, by rw [E _ _ (by omega), a5 _ _ (by omega)]; exact hu.2.2.1, hu.2.2.2⟩, ⟨by omega, by omega⟩, hx⟩, ⟨fun e j w => ?_, fun e j w => ?_⟩, nx_cl _, by omega⟩
  · unfold RH
    conv => lhs; unfold mX12_readLaw_L30
    rw [if_pos rfl, if_pos hB.2.2, r_sign hB.2.1, obs_eq]
    simp only [bnd_eq]
    rw [hB.2.1.2.2.1, if_pos (show nI τ.1 = (41 : Int32) by rw [h41]; rfl), r_hasBracket hO hb (by omega), obs_eq, hbr, if_pos rfl]
    unfold mX12_close
    rw [show (0 : Int32) = nI 0 from rfl, a1, obs_eq, A21, nI_s1 (by omega), hB1, B25, nI_s1 (by omega), hC1, b2, obs_eq]
  · rw [E e j (by omega), a5 e j (by omega)]
  · rw [b5.2 e j w, C2]
/-- the end, where a bracket is open -/
theorem kl_bracket (h : LGw T n i τ d lc lr S u k σ ρ) (hbr : S.any (fun o => decide (o = 20)) = true) : KLw ρ = some (sI (sI ρ 233 2 (if τ.1 = 3 then 1 else 2)) 233 3 (nI τ.2.1)) := by
  obtain ⟨hB, hLc, hLr, hO, h25, hb, hu, hn, hx⟩ := h
  unfold KLw
  simp only [bnd_eq]
  rw [if_pos hB.2.2, r_hasBracket hO hb (by omega), obs_eq, hbr, if_pos rfl, r_wrong hB.2.1 hB.2.2, obs_eq, if_neg (fltw (wr_not _ _))]
/-- the end, where none is -/
theorem kl_end (h : LGw T n i τ d lc lr S u k σ ρ) (hbr : ∀ o ∈ S, o ≠ 20) (hlc : lc = lr ++ S.map sto) (hb9 : lr.length + nb S + 1 ≤ 9 * u) : ∃ ρ', KLw ρ = some ρ' ∧ LwR lc ρ' ∧ Bo T n i τ σ ρ' ∧ ρ'.1 233 22 = nI u ∧ RLw ρ ρ' := by
  obtain ⟨hB, hLc, hLr, hO, h25, hb, hu, hn, hx⟩ := h
  have lnb := len_nb S
  have ecl := cls_app (least := 0) S [] (fun o ho => ⟨hbr o ho, by omega⟩) (fun o S' e => by cases e)
  rw [List.append_nil] at ecl
  obtain ⟨A, a1, a2, a3, a4, a5, a6⟩ := r_close_L0 (least := 0) (by omega) S FU lr ρ hLr hO h25 hb (by omega) (by omega) (by unfold FU; omega)
  rw [ecl] at a2
  simp only at a2
  rw [← hlc] at a2
  have hbr' : S.any (fun o => decide (o = 20)) = false := by
    rw [List.any_eq_false]
    intro o ho
    simp [hbr o ho]
  refine ⟨A, ?_, a2, ⟨hB.1, hB.2.1.fr (fun a j w => a5 a j (by omega)) (by rw [a6]), by rw [a5 _ _ (by omega)]; exact hB.2.2⟩, by rw [a5 _ _ (by omega)]; exact hu.2.1, ⟨fun e j w => a5 e j (by omega), fun e j w => by rw [a6]⟩⟩
  unfold KLw
  simp only [bnd_eq]
  rw [if_pos hB.2.2, r_hasBracket hO hb (by omega), obs_eq, hbr', if_neg (by simp), if_pos hB.2.2]
  unfold mX12_close
  rw [show (0 : Int32) = nI 0 from rfl, a1, obs_eq]
end LAWSTEPS
