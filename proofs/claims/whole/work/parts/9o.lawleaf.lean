/-! a unit that is no bracket, both sides; a sign's step put; a loop over signs that bind alike -/
section LAWLEAF
variable {σ σ' ρ ρ' : St_} {n i d u k : Nat} {T : Nat → Nat} {τ : Tkn} {lc lr : List (Nat × Int32)} {S P : List Nat}
theorem leaf_go (h : LGw T n i τ d lc lc S u k σ ρ) (hd : 12 ≤ d) (hs : stops τ = false) (h30 : u < 30) (hb9 : lc.length + nb S ≤ 9 * u + nst S) (q : Nat × Int32) (hq : q.1 ≤ 1) (hx' : lwx (lc ++ [q]) 0 = some (k + 1)) : ∃ A D F τ' σ' ρ', mX3_put (d + 11) (lstepC q) q.2 σ = some A ∧ A.1 (d + 11) 5 = nI u ∧ mX10_next 3 (sI A (d + 11) 5 (nI (u + 1))) = some σ' ∧ mX12_countUnit 233 ρ = some D ∧ D.1 233 8 = ρ.1 233 8 ∧ mX12_add 233 (nI q.1) q.2 D = some F ∧ mX12_token 233 F = some ρ' ∧ LGw T n (i + 1) τ' d (lc ++ [q]) (lc ++ [q]) S (u + 1) (k + 1) σ' ρ' ∧ RLw ρ ρ' ∧ CLw d σ σ' ∧ (lc ++ [q]).length + nb S + 1 ≤ 9 * (u + 1) := by
  obtain ⟨hB, hLc, hLr, hO, h25, hb, hu, hn, hx⟩ := h
  obtain ⟨A, a1, a2, a3, a4⟩ := c_lput hLc (by omega) q (y := lstepC q) (x := q.2) rfl (fun _ => rfl)
  have A5 : A.1 (d + 11) 5 = nI u := by rw [a3 _ _ (by omega)]; exact hu.1
  obtain ⟨D, d1, d2, d3, d4, d5⟩ := r_count hu.2.1 hu.2.2.1
  obtain ⟨F, f1, f2, f3, f4⟩ := r_ladd (hLr.fr (ρ' := D) (fun a j w => d4 a j (by omega))) (by omega) q (y := nI q.1) (x := q.2) rfl (fun _ => rfl)
  generalize hG : sI A (d + 11) 5 (nI (u + 1)) = G
  have G0 : ∀ a j, ¬ (a = d + 11 ∧ j = 5) → G.1 a j = A.1 a j := fun a j w => by rw [← hG, sI_get, if_neg w]
  have G2 : G.2 = σ.2 := by rw [← hG, sI_2, a4]
  have G5 : G.1 (d + 11) 5 = nI (u + 1) := by rw [← hG, sI_get, if_pos ⟨rfl, rfl⟩]
  have CB : Bo T n i τ G F := ⟨hB.1.fr (fun a j w => by rw [G0 a j (by omega), a3 a j (by omega)]) (fun j => by rw [G2]), hB.2.1.fr (fun a j w => by rw [f3 a j (by omega), d4 a j (by omega)]) (by rw [f4, d5]), by rw [f3 _ _ (by omega), d4 _ _ (by omega)]; exact hB.2.2⟩
  obtain ⟨τ', ρ', b1, b2, b3, b4, b5⟩ := next_bo CB hs
  refine ⟨A, D, F, τ', _, ρ', a1, A5, by rw [hG]; exact b1, d1, d4 _ _ (by omega), f1, b2, ⟨b3, nx_lw hd (a2.fr (fun a j w => G0 a j (by omega))) _, f2.fr (fun a j w => b5.1 a j (by omega)), hO.fr (fun a j w => by rw [b5.1 a j (by omega), f3 a j (by omega), d4 a j (by omega)]), by rw [b5.1 _ _ (by omega), f3 _ _ (by omega), d4 _ _ (by omega)]; exact h25, hb, ⟨by rw [sI_get, if_neg (by omega)]; exact G5, by rw [b5.1 _ _ (by omega), f3 _ _ (by omega)]; exact d2, by rw [b5.1 _ _ (by omega), f3 _ _ (by omega)]; exact d3, by omega⟩, hn, hx', by omega⟩, ⟨fun e j w => by rw [b5.1 e j (by omega), f3 e j (by omega), d4 e j (by omega)], fun e j w => by rw [b5.2 e j w, f4, d5]⟩, ⟨fun e j w => by rw [sI_get, if_neg (by omega), G0 e j (by omega), a3 e j (by omega)], by rw [sI_2, G2]⟩, by rw [List.length_append, List.length_singleton]; omega⟩
theorem ku_bad (h : LGw T n i τ d lc lc S u k σ ρ) (hbad : u = 30 ∨ (¬ τ.1 = 2 ∧ askT τ = none)) : KU ρ = some (sI (sI ρ 233 2 (if τ.1 = 3 then 1 else 2)) 233 3 (nI τ.2.1)) := by
  obtain ⟨hB, hLc, hLr, hO, h25, hb, hu, hn, hx⟩ := h
  have t256 := hB.2.1.1.1
  have f0 : ρ.1 233 2 ≤ 0 := by rw [hB.2.2]; decide
  have pick : ∀ X Y : Option St_, (if nI τ.1 = (2 : Int32) then (if decide (u = 30) = true then X else Y) else if encO (askT τ) < 0 then X else if decide (u = 30) = true then X else Y) = X := by
    intro X Y
    rcases hbad with q | ⟨q, q'⟩
    · rw [decide_eq_true q, if_pos rfl, ite_self, ite_self]
    · rw [if_neg (show ¬ nI τ.1 = (2 : Int32) from fun w => q ((nI_eq (b := 2) (by omega) (by omega)).mp w)), q', if_pos (show encO none < 0 by decide)]
  unfold KU
  simp only [bnd_eq]
  rw [if_pos f0, r_asked hB.2.1, obs_eq, r_full hu.2.1 hu.2.2.1 hu.2.2.2, obs_eq, hB.2.1.2.2.1, pick, r_wrong hB.2.1 hB.2.2, obs_eq, if_neg (wr_not _ _)]
theorem ku_good (h : LGw T n i τ d lc lc S u k σ ρ) (h30 : u < 30) {D : St_} (hD : mX12_countUnit 233 ρ = some D) : (τ.1 = 2 → KU ρ = (mX12_add 233 (nI 0) (D.1 233 8) D).bind fun s => mX12_token 233 s) ∧ ∀ w, askT τ = some w → w < 100 → KU ρ = (mX12_add 233 (nI 1) (nI w) D).bind fun s => mX12_token 233 s := by
  obtain ⟨hB, hLc, hLr, hO, h25, hb, hu, hn, hx⟩ := h
  have t256 := hB.2.1.1.1
  have f0 : ρ.1 233 2 ≤ 0 := by rw [hB.2.2]; decide
  have e0 : decide (u = 30) = false := decide_eq_false (by omega)
  refine ⟨fun q => ?_, fun w hw hw7 => ?_⟩
  · have qa : askT τ = none := by unfold askT; rw [if_neg (by omega)]
    unfold KU
    simp only [bnd_eq]
    rw [if_pos f0, r_asked hB.2.1, obs_eq, r_full hu.2.1 hu.2.2.1 hu.2.2.2, obs_eq, hB.2.1.2.2.1, if_pos (show nI τ.1 = (2 : Int32) by rw [q]; rfl), e0, if_neg (by simp), if_pos f0, hD, obs_eq, qa, if_neg (show ¬ 0 ≤ encO none by decide), if_neg (show ¬ 0 ≤ encO none by decide)]
    show (mX12_add 233 (nI 0) (D.1 233 8) D).bind _ = _
    congr 1
    funext s
    exact some_bind _
  · have q1 : ¬ τ.1 = 2 := fun e => by unfold askT at hw; rw [if_neg (by omega)] at hw; cases hw
    unfold KU
    simp only [bnd_eq]
    rw [if_pos f0, r_asked hB.2.1, obs_eq, r_full hu.2.1 hu.2.2.1 hu.2.2.2, obs_eq, hB.2.1.2.2.1, if_neg (show ¬ nI τ.1 = (2 : Int32) from fun e => q1 ((nI_eq (b := 2) (by omega) (by omega)).mp e)), hw, show encO (some w) = nI w from rfl, if_neg (nI_pos (by omega)), e0, if_neg (by simp), if_pos f0, hD, obs_eq, if_pos (nI_pos' (by omega)), if_pos (nI_pos' (by omega))]
    show (mX12_add 233 (nI 1) (nI w) D).bind _ = _
    congr 1
    funext s
    exact some_bind _
/-- what a part of a law comes to: the class answers; the reference stands behind it, or tells the same FAULT -/
def aft (LP : Nat) (τ : Tkn) (P : List Nat) : Prop := sgT τ = 0 ∨ tgt (sgT τ) < LP ∨ (tgt (sgT τ) = 4 ∧ relS P = true)
def HRes (LP : Nat) (T : Nat → Nat) (n d i : Nat) (S : List Nat) (k : Nat) (σ' ρ : St_) (X : Option St_) : Prop := ∃ i' τ' P lr u' ρ' m', X = RH KLw m' ρ' ∧ 1710 ≤ m' + i' ∧ i ≤ i' ∧ RLw ρ ρ' ∧ LGw T n i' τ' d (lr ++ P.map sto) lr (P ++ S) u' k σ' ρ' ∧ (∀ o ∈ P, o ≠ 20 ∧ LP ≤ tgt o) ∧ lr.length + nb (P ++ S) + 1 ≤ 9 * u' ∧ aft LP τ' P
def FRes (σ' ρ : St_) (X : Option St_) : Prop := ∃ ρ', X = some ρ' ∧ Fau σ' ρ' ∧ RLw ρ ρ'
def XOk (LP : Nat) (T : Nat → Nat) (n d i : Nat) (S : List Nat) (k : Nat) (σ ρ : St_) (X : Option St_) (r : Option (Bool × St_)) : Prop := ∃ b σ', r = some (b, σ') ∧ CLw d σ σ' ∧ (b = true → HRes LP T n d i S k σ' ρ X) ∧ (b = false → FRes σ' ρ X)
theorem XOk.from {LP i1 : Nat} {X X' : Option St_} {r : Option (Bool × St_)} {σ1 ρ1 : St_} (e : X = X') (hr : RLw ρ ρ1) (hc : CLw d σ σ1) (hi : i ≤ i1) (h : XOk LP T n d i1 S k σ1 ρ1 X' r) : XOk LP T n d i S k σ ρ X r := by
  obtain ⟨b, σ', h1, h2, h3, h4⟩ := h
  refine ⟨b, σ', h1, hc.tr h2, fun w => ?_, fun w => ?_⟩
  · obtain ⟨i', τ', P, lr, u', ρ', m', g1, g2, g3, g4, g5⟩ := h3 w
    exact ⟨i', τ', P, lr, u', ρ', m', by rw [e, g1], g2, by omega, hr.tr g4, g5⟩
  · obtain ⟨ρ', g1, g2, g3⟩ := h4 w
    exact ⟨ρ', by rw [e, g1], g2, hr.tr g3⟩
theorem XOk.step {LP LP2 k2 : Nat} {X : Option St_} {r : Option (Bool × St_)} {F : Bool × St_ → Option (Bool × St_)} (h : XOk LP T n d i S k σ ρ X r) (h0 : ∀ σ1, F (false, σ1) = some (false, σ1)) (hf : ∀ i' τ' P lr u' σ1 ρ' m', 1710 ≤ m' + i' → i ≤ i' → LGw T n i' τ' d (lr ++ P.map sto) lr (P ++ S) u' k σ1 ρ' → (∀ o ∈ P, o ≠ 20 ∧ LP ≤ tgt o) → lr.length + nb (P ++ S) + 1 ≤ 9 * u' → aft LP τ' P → XOk LP2 T n d i' S k2 σ1 ρ' (RH KLw m' ρ') (F (true, σ1))) : XOk LP2 T n d i S k2 σ ρ X (r.bind F) := by
  obtain ⟨b, σ1, h1, h2, h3, h4⟩ := h
  rw [h1, obs_eq]
  cases b
  · rw [h0]
    exact ⟨false, σ1, rfl, h2, fun w => (by cases w), h4⟩
  · obtain ⟨i', τ', P, lr, u', ρ', m', g1, g2, g3, g4, g5, g6, g7, g8⟩ := h3 rfl
    exact XOk.from g1 g4 h2 g3 (hf i' τ' P lr u' σ1 ρ' m' g2 g3 g5 g6 g7 g8)
theorem put_ok {s k1 : Nat} (h : LGw T n i τ d (lr ++ P.map sto) lr (P ++ s :: S) u k σ ρ) (hd : 12 ≤ d) (hP : ∀ o ∈ P, o ≠ 20) (hs : ¬ s = 20) (hx' : lwx ((lr ++ P.map sto) ++ [sto s]) 0 = some k1) (hk1 : k1 ≤ u) (hb9 : lr.length + nb (P ++ s :: S) + 1 ≤ 9 * u) : ∃ σ5, mX3_put (d + 11) (lstepC (sto s)) 0 σ = some σ5 ∧ LGw T n i τ d (lr ++ (P ++ [s]).map sto) lr ((P ++ [s]) ++ S) u k1 σ5 ρ ∧ CLw d σ σ5 := by
  obtain ⟨hB, hLc, hLr, hO, h25, hb, hu, hn, hx⟩ := h
  have e1 : (P ++ [s]) ++ S = P ++ s :: S := by simp
  have e2 : lr ++ (P ++ [s]).map sto = (lr ++ P.map sto) ++ [sto s] := by simp
  have nba := nb_app (S := s :: S) hP
  have nb1 : nb (s :: S) = nb S + 1 := by
    conv => lhs; unfold nb
    rw [if_neg hs]; omega
  obtain ⟨A, a1, a2, a3, a4⟩ := c_lput hLc (by rw [List.length_append, List.length_map]; omega) (sto s) (y := lstepC (sto s)) (x := 0) rfl (fun w => by
    exfalso
    unfold sto at w
    by_cases q : s = 21
    · rw [if_pos q] at w; exact absurd w (by decide)
    · rw [if_neg q] at w; exact absurd w (by show ¬ 3 ≤ 1; decide))
  rw [e1, e2]
  exact ⟨A, a1, ⟨⟨hB.1.fr (fun a j w => a3 a j (by omega)) (fun j => by rw [a4]), hB.2.1, hB.2.2⟩, a2, hLr, hO, h25, hb, ⟨by rw [a3 _ _ (by omega)]; exact hu.1, hu.2⟩, hn, hx', hk1⟩, ⟨fun e j w => a3 e j (by omega), a4⟩⟩
/-- a method read by its number: what it must come to -/
def RcW (rc : Nat → Nat → Nat → Int32 → St_ → Option (Bool × St_)) (T : Nat → Nat) (n d w LT LP x : Nat) (tc : Tkn → List Nat → Nat → Prop) : Prop := ∀ i τ lc S u k σ ρ a m, LGw T n i τ d lc lc S u k σ ρ → Tpw LT S → nst S = x → lc.length + nb S ≤ 9 * u + nst S → 1710 ≤ a + i → 1710 ≤ m + i → tc τ S u → XOk LP T n d (i + 1) S (k + 1) σ ρ (RU KLw a m ρ) (rc w 2 (d + 11) (nI x) σ)
theorem sg_sign (h : ¬ sgT τ = 0) : lsign (nI (sgT τ)) = true ∧ ¬ sgT τ = 21 ∧ ¬ sgT τ = 20 := by
  rcases sgT_cases τ with ⟨-, -, e⟩ | ⟨-, -, e⟩ | ⟨f, e⟩ | ⟨f, e⟩ | ⟨f, e⟩ | ⟨e, -⟩
  · rw [e]; decide
  · rw [e]; decide
  · rw [e]; rcases f with f | f | f <;> rw [f] <;> decide
  · rw [e]; rcases f with f | f <;> rw [f] <;> decide
  · rw [e]; rcases f with f | f | f <;> rw [f] <;> decide
  · exact absurd e h
theorem loop_ok {lp : Nat → Int32 → St_ → Option (Bool × St_)} {rc : Nat → Nat → Nat → Int32 → St_ → Option (Bool × St_)} {w LT LP x : Nat} {tc : Tkn → List Nat → Nat → Prop} (hd : 12 ≤ d) (h4 : LP ≠ 4) (hLT : LP + 1 ≤ LT) (hRc : RcW rc T n d w LT (LP + 1) x tc) (htc : ∀ (s : Nat) (τ : Tkn) (S : List Nat) (u : Nat), tgt s = LP → ¬ s = 20 → tc τ (s :: S) u)
    (hyes : ∀ (f x3 : Nat) (σ : St_) (i : Nat) (τ : Tkn), AtC T n i τ σ → x3 < 1700 → ¬ sgT τ = 0 → tgt (sgT τ) = LP → lp (f + 1) (nI x3) σ = (mX10_next 3 σ).bind fun σ3 => (rc w 2 (d + 11) (nI x) σ3).bind fun r4 => if r4.1 = true then (mX3_put (d + 11) (lstepC (sto (sgT τ))) 0 r4.2).bind fun σ5 => lp f (nI (x3 + 1)) σ5 else some (false, r4.2))
    (hno : ∀ (f x3 : Nat) (σ : St_) (i : Nat) (τ : Tkn), AtC T n i τ σ → x3 < 1700 → ¬ (¬ sgT τ = 0 ∧ tgt (sgT τ) = LP) → lp (f + 1) (nI x3) σ = some (true, σ)) :
    ∀ (r f x3 i : Nat) (τ : Tkn) (P : List Nat) (lr : List (Nat × Int32)) (S : List Nat) (u k : Nat) (σ ρ : St_) (m : Nat), 1701 - i ≤ r → r < f → x3 < i → LGw T n i τ d (lr ++ P.map sto) lr (P ++ S) u (k + 1) σ ρ → (∀ o ∈ P, o ≠ 20 ∧ LP ≤ tgt o) → lr.length + nb (P ++ S) + 1 ≤ 9 * u → aft (LP + 1) τ P → Tpw LP S → nst S = x → 1710 ≤ m + i → XOk LP T n d i S (k + 1) σ ρ (RH KLw m ρ) (lp f (nI x3) σ)
  | 0, f, x3, i, τ, P, lr, S, u, k, σ, ρ, m, hr, hf, hx3, hG, hP, hb9, ha, hT, hx, hm => by
    have := hG.1.1.2.1
    omega
  | r + 1, f, x3, i, τ, P, lr, S, u, k, σ, ρ, m, hr, hf, hx3, hG, hP, hb9, ha, hT, hx, hm => by
    have hi := hG.1.1.2.1
    obtain ⟨f, rfl, hf⟩ := fu_suc hf
    by_cases q : ¬ sgT τ = 0 ∧ tgt (sgT τ) = LP
    · obtain ⟨s1, s2, s3⟩ := sg_sign q.1
      obtain ⟨m1, rfl⟩ : ∃ m1, m = m1 + 1 := ⟨m - 1, by omega⟩
      obtain ⟨τ1, ρ1, a1, a2, a3, a4, a5, a6, a7⟩ := h_sign (K := KLw) hG hd rfl (fun o ho => ⟨(hP o ho).1, by rw [q.2]; exact (hP o ho).2⟩) q.1 (fun w => h4 (by omega)) hT (by omega) hb9 m1
      have n1 : nst (sgT τ :: S) = x := by
        conv => lhs; unfold nst
        rw [if_neg (by omega)]; omega
      rw [hyes f x3 σ i τ hG.1.1 (by omega) q.1 q.2, a1, obs_eq]
      have sub := hRc (i + 1) τ1 _ (sgT τ :: S) u (k + 1) _ ρ1 FU m1 a3 (a6.mono (by omega)) n1 a7 (by unfold FU; omega) (by omega) (htc _ _ _ _ q.2 s3)
      obtain ⟨b, σ1, c1, c2, c3, c4⟩ := sub
      rw [c1, obs_eq]
      cases b
      · rw [if_neg (by simp)]
        obtain ⟨ρ2, e1, e2, e3⟩ := c4 rfl
        exact ⟨false, σ1, rfl, a5.tr c2, fun w => (by cases w), fun _ => ⟨ρ2, by rw [a2, e1], e2, a4.tr e3⟩⟩
      · rw [if_pos rfl]
        obtain ⟨i2, τ2, P2, lr2, u2, ρ2, m2, e1, e2, e3, e4, e5, e6, e7, e8⟩ := c3 rfl
        have hk2 := e5.2.2.2.2.2.2.2.2.2
        have hx2 := e5.2.2.2.2.2.2.2.2.1
        obtain ⟨σ5, p1, p2, p3⟩ := put_ok (k1 := k + 1) e5 hd (fun o ho => (e6 o ho).1) s3 (lwx_bin hx2 s1 s2) (by omega) e7
        rw [p1, obs_eq]
        have eP : (P2 ++ [sgT τ]) ++ S = P2 ++ sgT τ :: S := by simp
        refine XOk.from (by rw [a2, e1]) (a4.tr e4) ((a5.tr c2).tr p3) (by omega) (loop_ok hd h4 hLT hRc htc hyes hno r f (x3 + 1) i2 τ2 (P2 ++ [sgT τ]) lr2 S u2 k σ5 ρ2 m2 (by omega) (by omega) (by omega) p2 (fun o ho => ?_) (by rw [eP]; exact e7) ?_ hT hx (by omega))
        · rcases List.mem_append.mp ho with w | w
          · exact ⟨(e6 o w).1, by have := (e6 o w).2; omega⟩
          · rw [List.mem_singleton.mp w]
            exact ⟨s3, by omega⟩
        · rcases e8 with w | w | w
          · exact Or.inl w
          · exact Or.inr (Or.inl w)
          · exact Or.inr (Or.inr ⟨w.1, relS_app _ _ w.2⟩)
    · rw [hno f x3 σ i τ hG.1.1 (by omega) q]
      refine ⟨true, σ, rfl, CLw.rfl', fun _ => ⟨i, τ, P, lr, u, ρ, m, rfl, hm, Nat.le_refl _, RLw.rfl', hG, hP, hb9, ?_⟩, fun w => by cases w⟩
      rcases ha with w | w | w
      · exact Or.inl w
      · by_cases q0 : sgT τ = 0
        · exact Or.inl q0
        · right; left
          have : ¬ tgt (sgT τ) = LP := fun e => q ⟨q0, e⟩
          omega
      · exact Or.inr (Or.inr w)
end LAWLEAF
