/-! a THIEF -/
section THIEFL
variable {σ σ' ρ ρ' : St_} {n i d nh nt : Nat} {T : Nat → Nat} {τ : Tkn} {KL TL HL : List (List Nat)}
theorem thief_both (hd : 12 ≤ d) (h : Bo T n i τ σ ρ) (hs : stops τ = false) (D : Dra d KL TL HL nh nt σ ρ) (hl : nt < 4) : LnOk T n d i σ ρ (mX4_readThief 1 d σ) (mX12_readThief 233 ρ) := by
  obtain ⟨⟨n1, n2, n3⟩, nu, r1, r2, r3, r4, r5, r6, r7, r8, r9⟩ := id D
  obtain ⟨u1, u2, u3, u4, u5, u6, u7, u8⟩ := id nu
  obtain ⟨v0, v1, v2, v3, v4, v5, v6, v7, v8, v9, v10, v11, v12, v13, v14, v15, v16, v17, v18, v19, v20, v21, v22, v23, v24⟩ := rw6_vals
  have ex5 : (5 : Int32) + nI nt = nI (5 + nt) := nI_add 5 nt
  have ex10 : (10 : Int32) + nI nt = nI (10 + nt) := nI_add 10 nt
  obtain ⟨τ1, R1, a1, -⟩ := next_bo h hs
  obtain ⟨b, A, B, b1, b2, b3, b4, b5, b6⟩ := new_name h hs (a := 10) (an := 9) (f := 16) n3.2.1 n3.2.2.1 n3.1 (by omega) (by omega) (by omega)
  have b2' : mX12_newName 233 (16 : Int32) (nI HL.length) ρ = some B := b2
  have g6 : (sI σ 3 6 (nI (i + 1))).1 1 6 = nI HL.length := by rw [sI_get, if_neg (by omega)]; exact u3.1
  have B48 : B.1 233 48 = nI nt := by rw [b4.1 _ _ (by omega)]; exact u5.2
  unfold mX4_readThief mX4_readHolder mX12_readThief
  simp only [bnd_eq]
  rw [u5.1, if_pos (show nI nt < (4 : Int32) from nI_lt (b := 4) hl (by omega)), show 1 + 2 = 3 from rfl, a1, obs_eq, g6, if_neg (show ¬ (9 : Int32) ≤ nI HL.length from nI_ge (b := 9) (by omega) (by omega)), show 1 + 9 = 10 from rfl, b1, u3.2, b2', obs_eq, obs_eq, B48, binn (show nt < 4 by omega) (by omega), pn_cl (show nt < 2 ^ 31 by omega), show 233 + 17 = 250 from rfl, show 233 + 18 = 251 from rfl, ex5, ex10]
  simp only [if_true]
  cases b
  · have f := b6 rfl
    have f1 : ¬ (sI B 250 nt 0).1 233 2 ≤ 0 := by rw [sI_get, if_neg (by omega)]; exact f.2.2
    have f2 : ¬ (sI (sI B 250 nt 0) 251 nt 0).1 233 2 ≤ 0 := by rw [sI_get, if_neg (by omega)]; exact f1
    rw [if_neg (by simp), obs_eq, if_neg (by simp), told_ff f.2.2, obs_eq, told_ff f1, obs_eq, has_f f2, obs_eq, if_neg f2]
    exact ⟨false, A, _, rfl, rfl, b3.cd, b4.rd.tr (fun e j w => by rw [sI_get, if_neg (by omega), sI_get, if_neg (by omega)]), fun w => (by cases w), fun _ => f.fr (fun _ _ => rfl) (fun k w => by rw [sI_get, if_neg (by omega), sI_get, if_neg (by omega)])⟩
  · obtain ⟨l, τ2, c1, c2, c3, c4⟩ := b5 rfl
    have A6 : A.1 1 6 = nI HL.length := by rw [b3.1 _ _ (by omega)]; exact u3.1
    generalize hA1 : sI A 11 HL.length (nI (5 + nt)) = A1
    have A16 : A1.1 1 6 = nI HL.length := by rw [← hA1, sI_get, if_neg (by omega)]; exact A6
    generalize hA2 : sI A1 1 6 (nI (HL.length + 1)) = A2
    have A20 : ∀ e j, ¬ ((e = 11 ∧ j = HL.length) ∨ (e = 1 ∧ j = 6)) → A2.1 e j = A.1 e j := fun e j w => by rw [← hA2, sI_get, if_neg (by omega), ← hA1, sI_get, if_neg (by omega)]
    have A22 : A2.2 = A.2 := by rw [← hA2, sI_2, ← hA1, sI_2]
    have bo2 : Bo T n (i + 2) τ2 A2 B := c4.fr (fun a k w => A20 a k (by omega)) (fun k => by rw [A22]) (fun _ _ _ => rfl) rfl
    obtain ⟨b, C, x, Q, e1, e2, e3, e4, e5, e6⟩ := num_of bo2 (w := 13) (hi := 999) (by omega) (by omega)
    have e1' : mX4_readNumberOf 1 (13 : Int32) (999 : Int32) A2 = some (b, C) := e1
    have e2' : mX12_told 233 (1935762283 : Int64) (0 : Int32) (999 : Int32) B = some (x, Q) := by rw [← v13]; exact e2
    rw [if_pos rfl, A6, binn (show HL.length < 9 by omega) (by omega), if_pos rfl, pn_cl (show HL.length < 2 ^ 31 by omega), show 1 + 10 = 11 from rfl, hA1, A16, nI_1, hA2, obs_eq, if_pos rfl, e1', obs_eq, e2', obs_eq]
    cases b
    · have f := e6 rfl
      have f1 : ¬ (sI Q 250 nt x).1 233 2 ≤ 0 := by rw [sI_get, if_neg (by omega)]; exact f.2.2
      have f2 : ¬ (sI (sI Q 250 nt x) 251 nt 0).1 233 2 ≤ 0 := by rw [sI_get, if_neg (by omega)]; exact f1
      rw [if_neg (by simp), told_ff f1, obs_eq, has_f f2, obs_eq, if_neg f2]
      exact ⟨false, C, _, rfl, rfl, (b3.cd.tr (fun e j w => A20 e j (by omega))).tr e3.cd, (b4.rd.tr e4.rd).tr (fun e j w => by rw [sI_get, if_neg (by omega), sI_get, if_neg (by omega)]), fun w => (by cases w), fun _ => f.fr (fun _ _ => rfl) (fun k w => by rw [sI_get, if_neg (by omega), sI_get, if_neg (by omega)])⟩
    · obtain ⟨v, τ3, w1, w2, w3, w4⟩ := e5 rfl
      generalize hC1 : sI C (d + 6) nt (nI v) = C1
      have C10 : ∀ e j, ¬ (e = d + 6 ∧ j = nt) → C1.1 e j = C.1 e j := fun e j w => by rw [← hC1, sI_get, if_neg w]
      have C12 : C1.2 = C.2 := by rw [← hC1, sI_2]
      generalize hQ1 : sI Q 250 nt (nI v) = Q1
      have Q10 : ∀ e j, ¬ (e = 250 ∧ j = nt) → Q1.1 e j = Q.1 e j := fun e j w => by rw [← hQ1, sI_get, if_neg w]
      have Q12 : Q1.2 = Q.2 := by rw [← hQ1, sI_2]
      have bo3 : Bo T n (i + 2 + 2) τ3 C1 Q1 := w4.fr (fun a k w => C10 a k (by omega)) (fun k => by rw [C12]) (fun a k w => Q10 a k (by omega)) (by rw [Q12])
      obtain ⟨b, E, y, F, f1, f2, f3, f4, f5, f6⟩ := num_of bo3 (w := 24) (hi := 9) (by omega) (by omega)
      have f1' : mX4_readNumberOf 1 (24 : Int32) (9 : Int32) C1 = some (b, E) := f1
      have f2' : mX12_told 233 (495723310188 : Int64) (0 : Int32) (9 : Int32) Q1 = some (y, F) := by rw [← v24]; exact f2
      rw [if_pos rfl, w3, w2, hC1, f1', obs_eq, hQ1, f2', obs_eq]
      have EC : ∀ e j, ¬ ((e = 3 ∧ 6 ≤ j ∧ j ≤ 8) ∨ (e = 1 ∧ (j = 6 ∨ j = 9)) ∨ (e = 11 ∧ j = HL.length) ∨ (e = d + 6 ∧ j = nt)) → E.1 e j = σ.1 e j := fun e j w => by rw [f3.1 e j (by omega), C10 e j (by omega), e3.1 e j (by omega), A20 e j (by omega), b3.1 e j (by omega)]
      have FC : ∀ e j, ¬ ((e = 233 ∧ 2 ≤ j ∧ j ≤ 8) ∨ (e = 250 ∧ j = nt)) → F.1 e j = ρ.1 e j := fun e j w => by rw [f4.1 e j (by omega), Q10 e j (by omega), e4.1 e j (by omega), b4.1 e j (by omega)]
      cases b
      · have f := f6 rfl
        have g2 : ¬ (sI F 251 nt y).1 233 2 ≤ 0 := by rw [sI_get, if_neg (by omega)]; exact f.2.2
        rw [if_neg (by simp), has_f g2, obs_eq, if_neg g2]
        exact ⟨false, E, _, rfl, rfl, fun e j w => EC e j (by omega), fun e j w => by rw [sI_get, if_neg (by omega), FC e j (by omega)], fun w => (by cases w), fun _ => f.fr (fun _ _ => rfl) (fun k w => by rw [sI_get, if_neg (by omega)])⟩
      · obtain ⟨v', τ4, y1, y2, y3, y4⟩ := f5 rfl
        generalize hE1 : sI E (d + 7) nt (nI v') = E1
        have E14 : E1.1 d 4 = nI nt := by rw [← hE1, sI_get, if_neg (by omega), EC _ _ (by omega)]; exact u5.1
        generalize hE2 : sI E1 d 4 (nI (nt + 1)) = E2
        have E20 : ∀ e j, ¬ ((e = d + 7 ∧ j = nt) ∨ (e = d ∧ j = 4)) → E2.1 e j = E.1 e j := fun e j w => by rw [← hE2, sI_get, if_neg (by omega), ← hE1, sI_get, if_neg (by omega)]
        have E22 : E2.2 = A.2 := by rw [← hE2, sI_2, ← hE1, sI_2, f3.2, C12, e3.2, A22]
        generalize hF1 : sI F 251 nt (nI v') = F1
        have F10 : ∀ e j, ¬ (e = 251 ∧ j = nt) → F1.1 e j = F.1 e j := fun e j w => by rw [← hF1, sI_get, if_neg w]
        have F12 : F1.2 = F.2 := by rw [← hF1, sI_2]
        have F2' : ∀ j, F1.2 235 j = B.2 235 j := fun j => by rw [F12, f4.2 _ _ (by omega), Q12, e4.2 _ _ (by omega)]
        have bo4 : Bo T n (i + 2 + 2 + 2) τ4 E2 F1 := y4.fr (fun a k w => E20 a k (by omega)) (fun k => by rw [← hE2, sI_2, ← hE1, sI_2]) (fun a k w => F10 a k (by omega)) (by rw [F12])
        have n2F : Dnm 9 6 10 TL E2 F1 := n2.fr (fun j => by rw [E22, b3.2 _ _ (by omega)]) (fun j _ _ => by rw [F2', b4.2 _ _ (by omega)])
        have whF : Dwh d TL.length nh (nt + 1) E2 F1 := (r8.fr (by rw [E20 _ _ (by omega), EC _ _ (by omega)]) (fun j => by rw [E20 _ _ (by omega), EC _ _ (by omega)]) (fun j _ => by rw [F10 _ _ (by omega), FC _ _ (by omega)])).mono (by omega) (by omega)
        have hc : hcode (5 + nt) = nI (10 + nt) := by unfold hcode; rw [if_neg (by omega)]; congr 1; omega
        obtain ⟨b, G, Z, g1, g2, g3, g4, g5, g6⟩ := stock_both (p := 5 + nt) (nh := nh) (nt := nt + 1) hd (by omega) (Or.inr ⟨nt, by omega, hc⟩) bo4 (by omega) n2F (by rw [E20 _ _ (by omega), EC _ _ (by omega)]; exact u2.1) (by rw [F10 _ _ (by omega), FC _ _ (by omega)]; exact u2.2) whF
        rw [hc] at g2
        rw [if_pos rfl, y3, y2, hE1, E14, nI_1, hE2, g1, obs_eq, hF1, g2, obs_eq]
        cases b
        · have f := g6 rfl
          rw [if_neg f.2.2]
          exact ⟨false, G, Z, rfl, rfl, fun e j w => by rw [g3.1 e j (by omega), E20 e j (by omega), EC e j (by omega)], fun e j w => by rw [g4.1 e j (by omega), F10 e j (by omega), FC e j (by omega)], fun w => (by cases w), fun _ => f⟩
        · obtain ⟨i5, τ5, z1, z2, z3⟩ := g5 rfl
          have Z12 : Z.1 233 12 = nI HL.length := by rw [g4.1 _ _ (by omega), F10 _ _ (by omega), FC _ _ (by omega)]; exact u3.2
          generalize hZ1 : sI Z 236 HL.length (nI (5 + nt)) = Z1
          have Z112 : Z1.1 233 12 = nI HL.length := by rw [← hZ1, sI_get, if_neg (by omega)]; exact Z12
          generalize hZ2 : sI Z1 233 12 (nI (HL.length + 1)) = Z2
          have Z248 : Z2.1 233 48 = nI nt := by rw [← hZ2, sI_get, if_neg (by omega), ← hZ1, sI_get, if_neg (by omega), g4.1 _ _ (by omega), F10 _ _ (by omega), FC _ _ (by omega)]; exact u5.2
          generalize hZ3 : sI Z2 233 48 (nI (nt + 1)) = Z3
          have Z30 : ∀ e j, ¬ ((e = 236 ∧ j = HL.length) ∨ (e = 233 ∧ (j = 12 ∨ j = 48))) → Z3.1 e j = Z.1 e j := fun e j w => by rw [← hZ3, sI_get, if_neg (by omega), ← hZ2, sI_get, if_neg (by omega), ← hZ1, sI_get, if_neg (by omega)]
          have Z32 : Z3.2 = Z.2 := by rw [← hZ3, sI_2, ← hZ2, sI_2, ← hZ1, sI_2]
          rw [if_pos (show Z.1 233 2 ≤ 0 by rw [z2.2.2]; decide), Z12, binn (show HL.length < 9 by omega) (by omega), if_pos rfl, pn_cl (show HL.length < 2 ^ 31 by omega), show 233 + 3 = 236 from rfl, hZ1, Z112, nI_1, hZ2, Z248, nI_1, hZ3]
          have GC : ∀ e j, ¬ ((e = 3 ∧ 6 ≤ j ∧ j ≤ 8) ∨ (e = 1 ∧ (j = 6 ∨ j = 8 ∨ j = 9)) ∨ (e = 11 ∧ j = HL.length) ∨ (e = d ∧ j = 4) ∨ (e = d + 6 ∧ j = nt) ∨ (e = d + 7 ∧ j = nt) ∨ e = d + 10) → G.1 e j = σ.1 e j := fun e j w => by rw [g3.1 e j (by omega), E20 e j (by omega), EC e j (by omega)]
          have ZC : ∀ e j, ¬ ((e = 233 ∧ ((2 ≤ j ∧ j ≤ 8) ∨ j = 12 ∨ j = 48)) ∨ (e = 250 ∧ j = nt) ∨ (e = 251 ∧ j = nt) ∨ e = 247 ∨ (e = 236 ∧ j = HL.length)) → Z3.1 e j = ρ.1 e j := fun e j w => by rw [Z30 e j (by omega), g4.1 e j (by omega), F10 e j (by omega), FC e j (by omega)]
          have G2 : G.2 = A.2 := by rw [g3.2, E22]
          have Z2' : ∀ j, Z3.2 235 j = B.2 235 j := fun j => by rw [Z32, g4.2 _ _ (by omega), F2']
          have el : (HL ++ [l]).length = HL.length + 1 := by simp
          refine ⟨true, G, Z3, rfl, rfl, fun e j w => GC e j (by omega), fun e j w => ZC e j (by omega), fun _ => ⟨i5, τ5, KL, TL, HL ++ [l], nh, nt + 1, by omega, z2.fr (fun _ _ _ => rfl) (fun _ => rfl) (fun a k w => Z30 a k (by omega)) (by rw [Z32]), ⟨n1.fr (fun j => by rw [G2, b3.2 _ _ (by omega)]) (fun j _ _ => by rw [Z2', b4.2 _ _ (by omega)]), n2.fr (fun j => by rw [G2, b3.2 _ _ (by omega)]) (fun j _ _ => by rw [Z2', b4.2 _ _ (by omega)]), ⟨c1, fun k l hk => by rw [G2]; exact c2 k l hk, fun k l hk => by rw [Z2']; exact c3 k l hk, by omega⟩⟩, ?_, ?_, r2.fr (GC _ _ (by omega)) (ZC _ _ (by omega)), r3.fr (fun e j _ _ _ => GC _ _ (by omega)) (fun e j _ _ _ => ZC _ _ (by omega)), r4.fr (fun e j _ _ => GC _ _ (by omega)) (fun e j _ _ => ZC _ _ (by omega)), ?_, r6.fr (fun j => GC _ _ (by omega)) (fun j => ZC _ _ (by omega)), r7.fr (GC _ _ (by omega)) (ZC _ _ (by omega)), z3.fr rfl (fun _ => rfl) (fun j _ => Z30 _ _ (by omega)), r9.fr (fun e j _ _ => GC _ _ (by omega)) (fun e j w => ZC _ _ (by omega))⟩, fun w => by cases w⟩
          · rw [el]
            refine ⟨⟨?_, ?_⟩, ⟨?_, ?_⟩, ⟨?_, ?_⟩, ⟨?_, ?_⟩, ⟨?_, ?_⟩, by omega, by omega, by omega⟩
            · rw [GC _ _ (by omega)]; exact u1.1
            · rw [ZC _ _ (by omega)]; exact u1.2
            · rw [GC _ _ (by omega)]; exact u2.1
            · rw [ZC _ _ (by omega)]; exact u2.2
            · rw [g3.1 _ _ (by omega), E20 _ _ (by omega), f3.1 _ _ (by omega), C10 _ _ (by omega), e3.1 _ _ (by omega), ← hA2, sI_get, if_pos ⟨rfl, rfl⟩]
            · rw [← hZ3, sI_get, if_neg (by omega), ← hZ2, sI_get, if_pos ⟨rfl, rfl⟩]
            · rw [GC _ _ (by omega)]; exact u4.1
            · rw [ZC _ _ (by omega)]; exact u4.2
            · rw [g3.1 _ _ (by omega), ← hE2, sI_get, if_pos ⟨rfl, rfl⟩]
            · rw [← hZ3, sI_get, if_pos ⟨rfl, rfl⟩]
          · intro k hk
            rw [el] at hk
            by_cases q : k = HL.length
            · refine ⟨5 + nt, by omega, ?_, ?_⟩
              · rw [q, g3.1 _ _ (by omega), E20 _ _ (by omega), f3.1 _ _ (by omega), C10 _ _ (by omega), e3.1 _ _ (by omega), ← hA2, sI_get, if_neg (by omega), ← hA1, sI_get, if_pos ⟨rfl, rfl⟩]
              · rw [q, ← hZ3, sI_get, if_neg (by omega), ← hZ2, sI_get, if_neg (by omega), ← hZ1, sI_get, if_pos ⟨rfl, rfl⟩]
            · rw [GC _ _ (by omega), ZC _ _ (by omega)]
              exact r1 k (by omega)
          · intro x hx
            by_cases q : x = nt
            · subst q
              refine ⟨⟨v, w1, ?_, ?_⟩, ⟨v', y1, ?_, ?_⟩⟩
              · rw [g3.1 _ _ (by omega), E20 _ _ (by omega), f3.1 _ _ (by omega), ← hC1, sI_get, if_pos ⟨rfl, rfl⟩]
              · rw [Z30 _ _ (by omega), g4.1 _ _ (by omega), F10 _ _ (by omega), f4.1 _ _ (by omega), ← hQ1, sI_get, if_pos ⟨rfl, rfl⟩]
              · rw [g3.1 _ _ (by omega), ← hE2, sI_get, if_neg (by omega), ← hE1, sI_get, if_pos ⟨rfl, rfl⟩]
              · rw [Z30 _ _ (by omega), g4.1 _ _ (by omega), ← hF1, sI_get, if_pos ⟨rfl, rfl⟩]
            · rw [GC _ _ (by omega), GC _ _ (by omega), ZC _ _ (by omega), ZC _ _ (by omega)]
              exact r5 x (by omega)
end THIEFL
