/-! a HOUSE -/
section HOUSE
variable {σ σ' ρ ρ' : St_} {n i d nh nt : Nat} {T : Nat → Nat} {τ : Tkn} {KL TL HL : List (List Nat)}
theorem told_ff (h : ¬ ρ.1 233 2 ≤ 0) (w : Int64) (x y : Int32) : mX12_told 233 w x y ρ = some (0, ρ) := by
  unfold mX12_told
  rw [want_f h, obs_eq, told_f h, obs_eq]
theorem wt_faultF {k : St_ → Option St_} (h : ¬ ρ.1 233 2 ≤ 0) (x : Int32) : mX12_readHouse_L38 233 x k FU ρ = k ρ := by
  rw [show FU = 999999 + 1 from rfl]
  exact wt_fault h x 999999
/-- the reference's end of a HOUSE -/
def HEnd (v2 : Int32) : St_ → Option St_ := (fun (σ16 : St_) => ((mX12_readHas 233 v2 σ16).bind fun σ17 => (if (σ17.1 233 2) ≤ 0 then (bnd (σ17.1 233 12) fun v18 => (if bin v18 9 = true then bnd (sI σ17 (233 + 3) v18.toNatClampNeg v2) fun σ19 => (bnd (sI σ19 233 12 ((σ19.1 233 12) + (1 : Int32))) fun σ20 => (bnd (sI σ20 233 47 ((σ20.1 233 47) + (1 : Int32))) fun σ21 => (some σ21))) else none)) else (some σ17))))
theorem readHouse_eq : mX12_readHouse 233 ρ = ((mX12_newName 233 (16 : Int32) (ρ.1 233 12) ρ).bind fun σ1 => (bnd (σ1.1 233 47) fun v2 => ((mX12_told 233 (1819239275 : Int64) (0 : Int32) (9 : Int32) σ1).bind fun r3 => (if bin v2 5 = true then bnd (sI r3.2 (233 + 15) v2.toNatClampNeg r3.1) fun σ4 => (if bin v2 5 = true then bnd (sI σ4 (233 + 16) v2.toNatClampNeg (0 : Int32)) fun σ5 => (mX12_readHouse_L38 233 v2 (HEnd v2) FU σ5) else none) else none)))) := by
  unfold mX12_readHouse HEnd
  rfl
theorem hend_f (h : ¬ ρ.1 233 2 ≤ 0) (v : Int32) : HEnd v ρ = some ρ := by
  unfold HEnd
  rw [has_f h, obs_eq, if_neg h]
theorem house_both (hd : 12 ≤ d) (h : Bo T n i τ σ ρ) (hs : stops τ = false) (D : Dra d KL TL HL nh nt σ ρ) (hl : nh < 5) : LnOk T n d i σ ρ (mX4_readHouse 1 d σ) (mX12_readHouse 233 ρ) := by
  obtain ⟨⟨n1, n2, n3⟩, nu, r1, r2, r3, r4, r5, r6, r7, r8, r9⟩ := id D
  obtain ⟨u1, u2, u3, u4, u5, u6, u7, u8⟩ := id nu
  obtain ⟨R, q1, q2, q3, q4⟩ := id r2
  obtain ⟨R', rfl⟩ : ∃ R', R = R' + 1 := ⟨R - 1, by omega⟩
  obtain ⟨v0, v1, v2, v3, v4, v5, v6, v7, v8, v9, v10, -⟩ := rw6_vals
  obtain ⟨τ1, R1, a1, -⟩ := next_bo h hs
  obtain ⟨b, A, B, b1, b2, b3, b4, b5, b6⟩ := new_name h hs (a := 10) (an := 9) (f := 16) n3.2.1 n3.2.2.1 n3.1 (by omega) (by omega) (by omega)
  have b2' : mX12_newName 233 (16 : Int32) (nI HL.length) ρ = some B := b2
  have g6 : (sI σ 3 6 (nI (i + 1))).1 1 6 = nI HL.length := by rw [sI_get, if_neg (by omega)]; exact u3.1
  have B47 : B.1 233 47 = nI nh := by rw [b4.1 _ _ (by omega)]; exact u4.2
  rw [readHouse_eq]
  unfold mX4_readHouse mX4_readHolder
  simp only [bnd_eq]
  rw [u4.1, if_pos (show nI nh < (5 : Int32) from nI_lt (b := 5) hl (by omega)), show 1 + 2 = 3 from rfl, a1, obs_eq, g6, if_neg (show ¬ (9 : Int32) ≤ nI HL.length from nI_ge (b := 9) (by omega) (by omega)), show 1 + 9 = 10 from rfl, b1, u3.2, b2', obs_eq, obs_eq, B47, binn (show nh < 5 by omega) (by omega), pn_cl (show nh < 2 ^ 31 by omega), show 233 + 15 = 248 from rfl, show 233 + 16 = 249 from rfl]
  simp only [if_true]
  cases b
  · have f := b6 rfl
    rw [if_neg (by simp), obs_eq, if_neg (by simp), told_ff f.2.2, obs_eq, wt_faultF (by rw [sI_get, if_neg (by omega), sI_get, if_neg (by omega)]; exact f.2.2), hend_f (by rw [sI_get, if_neg (by omega), sI_get, if_neg (by omega)]; exact f.2.2)]
    exact ⟨false, A, _, rfl, rfl, b3.cd, b4.rd.tr (fun e j w => by rw [sI_get, if_neg (by omega), sI_get, if_neg (by omega)]), fun w => (by cases w), fun _ => f.fr (fun _ _ => rfl) (fun k w => by rw [sI_get, if_neg (by omega), sI_get, if_neg (by omega)])⟩
  · obtain ⟨l, τ2, c1, c2, c3, c4⟩ := b5 rfl
    have A6 : A.1 1 6 = nI HL.length := by rw [b3.1 _ _ (by omega)]; exact u3.1
    generalize hA1 : sI A 11 HL.length (nI nh) = A1
    have A16 : A1.1 1 6 = nI HL.length := by rw [← hA1, sI_get, if_neg (by omega)]; exact A6
    generalize hA2 : sI A1 1 6 (nI (HL.length + 1)) = A2
    have A20 : ∀ e j, ¬ ((e = 11 ∧ j = HL.length) ∨ (e = 1 ∧ j = 6)) → A2.1 e j = A.1 e j := fun e j w => by rw [← hA2, sI_get, if_neg (by omega), ← hA1, sI_get, if_neg (by omega)]
    have A22 : A2.2 = A.2 := by rw [← hA2, sI_2, ← hA1, sI_2]
    have bo2 : Bo T n (i + 2) τ2 A2 B := c4.fr (fun a k w => A20 a k (by omega)) (fun k => by rw [A22]) (fun _ _ _ => rfl) rfl
    obtain ⟨b, C, x, Q, e1, e2, e3, e4, e5, e6⟩ := num_of bo2 (w := 10) (hi := 9) (by omega) (by omega)
    have e1' : mX4_readNumberOf 1 (10 : Int32) (9 : Int32) A2 = some (b, C) := e1
    have e2' : mX12_told 233 (1819239275 : Int64) (0 : Int32) (9 : Int32) B = some (x, Q) := by rw [← v10]; exact e2
    rw [if_pos rfl, A6, binn (show HL.length < 9 by omega) (by omega), if_pos rfl, pn_cl (show HL.length < 2 ^ 31 by omega), show 1 + 10 = 11 from rfl, hA1, A16, nI_1, hA2, obs_eq, if_pos rfl, e1', obs_eq, e2', obs_eq]
    cases b
    · have f := e6 rfl
      rw [if_neg (by simp), wt_faultF (by rw [sI_get, if_neg (by omega), sI_get, if_neg (by omega)]; exact f.2.2), hend_f (by rw [sI_get, if_neg (by omega), sI_get, if_neg (by omega)]; exact f.2.2)]
      exact ⟨false, C, _, rfl, rfl, (b3.cd.tr (fun e j w => A20 e j (by omega))).tr e3.cd, (b4.rd.tr e4.rd).tr (fun e j w => by rw [sI_get, if_neg (by omega), sI_get, if_neg (by omega)]), fun w => (by cases w), fun _ => f.fr (fun _ _ => rfl) (fun k w => by rw [sI_get, if_neg (by omega), sI_get, if_neg (by omega)])⟩
    · obtain ⟨v, τ3, w1, w2, w3, w4⟩ := e5 rfl
      generalize hC1 : sI C (d + 4) nh (nI v) = C1
      have C13 : C1.1 d 3 = nI nh := by rw [← hC1, sI_get, if_neg (by omega), e3.1 _ _ (by omega), A20 _ _ (by omega), b3.1 _ _ (by omega)]; exact u4.1
      generalize hC2 : sI C1 d 3 (nI (nh + 1)) = C2
      have C20 : ∀ e j, ¬ ((e = d + 4 ∧ j = nh) ∨ (e = d ∧ j = 3)) → C2.1 e j = C.1 e j := fun e j w => by rw [← hC2, sI_get, if_neg (by omega), ← hC1, sI_get, if_neg (by omega)]
      have C22 : C2.2 = C.2 := by rw [← hC2, sI_2, ← hC1, sI_2]
      generalize hQ1 : sI Q 248 nh (nI v) = Q1
      generalize hQ2 : sI Q1 249 nh (0 : Int32) = Q2
      have Q20 : ∀ e j, ¬ ((e = 248 ∨ e = 249) ∧ j = nh) → Q2.1 e j = Q.1 e j := fun e j w => by rw [← hQ2, sI_get, if_neg (by omega), ← hQ1, sI_get, if_neg (by omega)]
      have Q22 : Q2.2 = Q.2 := by rw [← hQ2, sI_2, ← hQ1, sI_2]
      have bo3 : Bo T n (i + 2 + 2) τ3 C2 Q2 := w4.fr (fun a k w => C20 a k (by omega)) (fun k => by rw [C22]) (fun a k w => Q20 a k (by omega)) (by rw [Q22])
      have C2C : ∀ e j, ¬ ((e = 3 ∧ 6 ≤ j ∧ j ≤ 8) ∨ (e = 1 ∧ (j = 6 ∨ j = 9)) ∨ (e = 11 ∧ j = HL.length) ∨ (e = d ∧ j = 3) ∨ (e = d + 4 ∧ j = nh)) → C2.1 e j = σ.1 e j := fun e j w => by rw [C20 e j (by omega), e3.1 e j (by omega), A20 e j (by omega), b3.1 e j (by omega)]
      have Q2C : ∀ e j, ¬ ((e = 233 ∧ 2 ≤ j ∧ j ≤ 8) ∨ (e = 248 ∧ j = nh) ∨ (e = 249 ∧ j = nh)) → Q2.1 e j = ρ.1 e j := fun e j w => by rw [Q20 e j (by omega), e4.1 e j (by omega), b4.1 e j (by omega)]
      obtain ⟨b, E, F, f1, f2, f3, f4, f5, f6⟩ := watch_both (k125 := HEnd (nI nh)) (h := nh) (R' := R') (w := 0) hd hl (by omega) bo3 (by omega) (by rw [C2C _ _ (by omega)]; exact q3) (by rw [Q2C _ _ (by omega)]; exact q4) (by omega) (by rw [C2C _ _ (by omega)]; exact r4.2 nh (Nat.le_refl _) hl) (by rw [← hQ2, sI_get, if_pos ⟨rfl, rfl⟩]; rfl)
      rw [if_pos rfl, w3, w2, hC1, C13, nI_1, hC2, f1, obs_eq, hQ1, hQ2, f2]
      cases b
      · have f := f6 rfl
        rw [if_neg (by simp), hend_f f.2.2]
        exact ⟨false, E, F, rfl, rfl, fun e j w => by rw [f3.1 e j (by omega), C2C e j (by omega)], fun e j w => by rw [f4.1 e j (by omega), Q2C e j (by omega)], fun w => (by cases w), fun _ => f⟩
      · obtain ⟨i4, τ4, w', x1, x2, x3, x4, x5⟩ := f5 rfl
        have EC : ∀ e j, ¬ ((e = 3 ∧ 6 ≤ j ∧ j ≤ 8) ∨ (e = 1 ∧ (j = 6 ∨ j = 9)) ∨ (e = 11 ∧ j = HL.length) ∨ (e = d ∧ j = 3) ∨ (e = d + 4 ∧ j = nh) ∨ (e = d + 5 ∧ j = nh)) → E.1 e j = σ.1 e j := fun e j w => by rw [f3.1 e j (by omega), C2C e j (by omega)]
        have FC : ∀ e j, ¬ ((e = 233 ∧ 2 ≤ j ∧ j ≤ 8) ∨ (e = 248 ∧ j = nh) ∨ (e = 249 ∧ j = nh)) → F.1 e j = ρ.1 e j := fun e j w => by rw [f4.1 e j (by omega), Q2C e j (by omega)]
        have E2 : E.2 = A.2 := by rw [f3.2, C22, e3.2, A22]
        have F2 : ∀ j, F.2 235 j = B.2 235 j := fun j => by rw [f4.2 _ _ (by omega), Q22, e4.2 _ _ (by omega)]
        have n2F : Dnm 9 6 10 TL E F := n2.fr (fun j => by rw [E2, b3.2 _ _ (by omega)]) (fun j _ _ => by rw [F2, b4.2 _ _ (by omega)])
        have whF : Dwh d TL.length (nh + 1) nt E F := (r8.fr (EC _ _ (by omega)) (fun j => EC _ _ (by omega)) (fun j _ => FC _ _ (by omega))).mono (by omega) (by omega)
        have hc : hcode nh = nI nh := by unfold hcode; rw [if_pos hl]
        obtain ⟨b, G, Z, g1, g2, g3, g4, g5, g6⟩ := stock_both (p := nh) (nh := nh + 1) (nt := nt) hd (by omega) (Or.inl ⟨nh, by omega, hc⟩) x2 (by omega) n2F (by rw [EC _ _ (by omega)]; exact u2.1) (by rw [FC _ _ (by omega)]; exact u2.2) whF
        rw [hc] at g2
        unfold HEnd
        simp only [bnd_eq]
        rw [if_pos trivial, g1, obs_eq, g2, obs_eq]
        cases b
        · have f := g6 rfl
          rw [if_neg (by simp), if_neg f.2.2]
          exact ⟨false, G, Z, rfl, rfl, fun e j w => by rw [g3.1 e j (by omega), EC e j (by omega)], fun e j w => by rw [g4.1 e j (by omega), FC e j (by omega)], fun w => (by cases w), fun _ => f⟩
        · obtain ⟨i5, τ5, y1, y2, y3⟩ := g5 rfl
          have Z12 : Z.1 233 12 = nI HL.length := by rw [g4.1 _ _ (by omega), FC _ _ (by omega)]; exact u3.2
          generalize hZ1 : sI Z 236 HL.length (nI nh) = Z1
          have Z112 : Z1.1 233 12 = nI HL.length := by rw [← hZ1, sI_get, if_neg (by omega)]; exact Z12
          generalize hZ2 : sI Z1 233 12 (nI (HL.length + 1)) = Z2
          have Z247 : Z2.1 233 47 = nI nh := by rw [← hZ2, sI_get, if_neg (by omega), ← hZ1, sI_get, if_neg (by omega), g4.1 _ _ (by omega), FC _ _ (by omega)]; exact u4.2
          generalize hZ3 : sI Z2 233 47 (nI (nh + 1)) = Z3
          have Z30 : ∀ e j, ¬ ((e = 236 ∧ j = HL.length) ∨ (e = 233 ∧ (j = 12 ∨ j = 47))) → Z3.1 e j = Z.1 e j := fun e j w => by rw [← hZ3, sI_get, if_neg (by omega), ← hZ2, sI_get, if_neg (by omega), ← hZ1, sI_get, if_neg (by omega)]
          have Z32 : Z3.2 = Z.2 := by rw [← hZ3, sI_2, ← hZ2, sI_2, ← hZ1, sI_2]
          rw [if_pos rfl, if_pos (show Z.1 233 2 ≤ 0 by rw [y2.2.2]; decide), Z12, binn (show HL.length < 9 by omega) (by omega), if_pos rfl, pn_cl (show HL.length < 2 ^ 31 by omega), show 233 + 3 = 236 from rfl, hZ1, Z112, nI_1, hZ2, Z247, nI_1, hZ3]
          have GC : ∀ e j, ¬ ((e = 3 ∧ 6 ≤ j ∧ j ≤ 8) ∨ (e = 1 ∧ (j = 6 ∨ j = 8 ∨ j = 9)) ∨ (e = 11 ∧ j = HL.length) ∨ (e = d ∧ j = 3) ∨ (e = d + 4 ∧ j = nh) ∨ (e = d + 5 ∧ j = nh) ∨ e = d + 10) → G.1 e j = σ.1 e j := fun e j w => by rw [g3.1 e j (by omega), EC e j (by omega)]
          have ZC : ∀ e j, ¬ ((e = 233 ∧ ((2 ≤ j ∧ j ≤ 8) ∨ j = 12 ∨ j = 47)) ∨ (e = 248 ∧ j = nh) ∨ (e = 249 ∧ j = nh) ∨ e = 247 ∨ (e = 236 ∧ j = HL.length)) → Z3.1 e j = ρ.1 e j := fun e j w => by rw [Z30 e j (by omega), g4.1 e j (by omega), FC e j (by omega)]
          have G2 : G.2 = A.2 := by rw [g3.2, E2]
          have Z2' : ∀ j, Z3.2 235 j = B.2 235 j := fun j => by rw [Z32, g4.2 _ _ (by omega), F2]
          have el : (HL ++ [l]).length = HL.length + 1 := by simp
          refine ⟨true, G, Z3, rfl, rfl, fun e j w => GC e j (by omega), fun e j w => ZC e j (by omega), fun _ => ⟨i5, τ5, KL, TL, HL ++ [l], nh + 1, nt, by omega, y2.fr (fun _ _ _ => rfl) (fun _ => rfl) (fun a k w => Z30 a k (by omega)) (by rw [Z32]), ⟨n1.fr (fun j => by rw [G2, b3.2 _ _ (by omega)]) (fun j _ _ => by rw [Z2', b4.2 _ _ (by omega)]), n2.fr (fun j => by rw [G2, b3.2 _ _ (by omega)]) (fun j _ _ => by rw [Z2', b4.2 _ _ (by omega)]), ⟨c1, fun k l hk => by rw [G2]; exact c2 k l hk, fun k l hk => by rw [Z2']; exact c3 k l hk, by omega⟩⟩, ?_, ?_, r2.fr (GC _ _ (by omega)) (ZC _ _ (by omega)), r3.fr (fun e j _ _ _ => GC _ _ (by omega)) (fun e j _ _ _ => ZC _ _ (by omega)), ?_, r5.fr (fun e j _ _ _ => GC _ _ (by omega)) (fun e j _ _ _ => ZC _ _ (by omega)), r6.fr (fun j => GC _ _ (by omega)) (fun j => ZC _ _ (by omega)), r7.fr (GC _ _ (by omega)) (ZC _ _ (by omega)), y3.fr rfl (fun _ => rfl) (fun j _ => Z30 _ _ (by omega)), r9.fr (fun e j _ _ => GC _ _ (by omega)) (fun e j w => ZC _ _ (by omega))⟩, fun w => by cases w⟩
          · rw [el]
            refine ⟨⟨?_, ?_⟩, ⟨?_, ?_⟩, ⟨?_, ?_⟩, ⟨?_, ?_⟩, ⟨?_, ?_⟩, by omega, by omega, by omega⟩
            · rw [GC _ _ (by omega)]; exact u1.1
            · rw [ZC _ _ (by omega)]; exact u1.2
            · rw [GC _ _ (by omega)]; exact u2.1
            · rw [ZC _ _ (by omega)]; exact u2.2
            · rw [g3.1 _ _ (by omega), f3.1 _ _ (by omega), C20 _ _ (by omega), e3.1 _ _ (by omega), ← hA2, sI_get, if_pos ⟨rfl, rfl⟩]
            · rw [← hZ3, sI_get, if_neg (by omega), ← hZ2, sI_get, if_pos ⟨rfl, rfl⟩]
            · rw [g3.1 _ _ (by omega), f3.1 _ _ (by omega), ← hC2, sI_get, if_pos ⟨rfl, rfl⟩]
            · rw [← hZ3, sI_get, if_pos ⟨rfl, rfl⟩]
            · rw [GC _ _ (by omega)]; exact u5.1
            · rw [ZC _ _ (by omega)]; exact u5.2
          · intro k hk
            rw [el] at hk
            by_cases q : k = HL.length
            · refine ⟨nh, by omega, ?_, ?_⟩
              · rw [q, g3.1 _ _ (by omega), f3.1 _ _ (by omega), C20 _ _ (by omega), e3.1 _ _ (by omega), ← hA2, sI_get, if_neg (by omega), ← hA1, sI_get, if_pos ⟨rfl, rfl⟩]
              · rw [q, ← hZ3, sI_get, if_neg (by omega), ← hZ2, sI_get, if_neg (by omega), ← hZ1, sI_get, if_pos ⟨rfl, rfl⟩]
            · rw [GC _ _ (by omega), ZC _ _ (by omega)]
              exact r1 k (by omega)
          · refine ⟨fun x hx => ?_, fun x h1 h2 => ?_⟩
            · by_cases q : x = nh
              · subst q
                refine ⟨⟨v, w1, ?_, ?_⟩, ⟨w', x3, ?_, ?_⟩⟩
                · rw [g3.1 _ _ (by omega), f3.1 _ _ (by omega), ← hC2, sI_get, if_neg (by omega), ← hC1, sI_get, if_pos ⟨rfl, rfl⟩]
                · rw [Z30 _ _ (by omega), g4.1 _ _ (by omega), f4.1 _ _ (by omega), ← hQ2, sI_get, if_neg (by omega), ← hQ1, sI_get, if_pos ⟨rfl, rfl⟩]
                · rw [g3.1 _ _ (by omega)]; exact x4
                · rw [Z30 _ _ (by omega), g4.1 _ _ (by omega)]; exact x5
              · rw [GC _ _ (by omega), GC _ _ (by omega), ZC _ _ (by omega), ZC _ _ (by omega)]
                exact r4.1 x (by omega)
            · rw [GC _ _ (by omega)]
              exact r4.2 x (by omega) h2
end HOUSE
