/-! a THING -/
section THINGL
variable {σ σ' ρ ρ' : St_} {n i d nh nt N : Nat} {T : Nat → Nat} {τ : Tkn} {KL TL HL : List (List Nat)}
theorem thing_loop (hN : N < 10) {k : St_ → Option St_} : ∀ (r m h : Nat) (ρ : St_), h + r = 9 → r < m → ∃ Z, mX12_readThing_L89 233 (nI N) k m (nI h) ρ = k Z ∧ (∀ e j, ¬ (e = 252 ∧ 9 * N + h ≤ j ∧ j < 9 * N + 9) → Z.1 e j = ρ.1 e j) ∧ (∀ g, h ≤ g → g < 9 → Z.1 252 (9 * N + g) = -1) ∧ Z.2 = ρ.2
  | 0, m, h, ρ, hr, hm => by
    obtain ⟨m, rfl, -⟩ := fu_suc hm
    refine ⟨ρ, ?_, fun _ _ _ => rfl, fun g h1 h2 => by omega, rfl⟩
    unfold mX12_readThing_L89
    rw [if_pos (show (9 : Int32) ≤ nI h from nI_le (a := 9) (by omega) (by omega))]
  | r + 1, m, h, ρ, hr, hm => by
    obtain ⟨m, rfl, hm⟩ := fu_suc hm
    generalize hA : sI ρ 252 (9 * N + h) (-1) = A
    obtain ⟨Z, z1, z2, z3, z4⟩ := thing_loop hN (k := k) r m (h + 1) A (by omega) (by omega)
    refine ⟨Z, ?_, fun e j w => by rw [z2 e j (by omega), ← hA, sI_get, if_neg (by omega)], fun g h1 h2 => ?_, by rw [z4, ← hA, sI_2]⟩
    · conv => lhs; unfold mX12_readThing_L89
      simp only [bnd_eq]
      rw [if_neg (show ¬ (9 : Int32) ≤ nI h from nI_ge (b := 9) (by omega) (by omega)), show (9 : Int32) = nI 9 from rfl, nI_mul, nI_add, binn (show 9 * N + h < 90 by omega) (by omega), if_pos rfl, pn_cl (by omega), show 233 + 19 = 252 from rfl, hA, nI_1, z1]
    · by_cases q : g = h
      · rw [q, z2 _ _ (by omega), ← hA, sI_get, if_pos ⟨rfl, rfl⟩]
      · exact z3 g (by omega) h2
def TE_ (v3 : Int32) : St_ → Option St_ := fun σ12 => (if bin v3 10 = true then bnd (sI σ12 (233 + 14) v3.toNatClampNeg (-1 : Int32)) fun σ13 =>
 (mX12_readThing_L89 233 v3
 (fun (σ16 : St_) => (if (σ16.1 233 2) = 0 then
 (bnd (sI σ16 233 46 ((σ16.1 233 46) + (1 : Int32))) fun σ17 =>
 (some σ17))
 else (some σ16))) FU (0 : Int32) σ13)
 else none)
def TD2_ (v3 : Int32) : St_ → Option St_ := fun σ10 => ((mX12_told 233 (512970880104 : Int64) (0 : Int32) (99 : Int32) σ10).bind fun r11 =>
 (if bin v3 10 = true then bnd (sI r11.2 (233 + 13) v3.toNatClampNeg r11.1) fun σ12 => TE_ v3 σ12
 else none))
def TD_ (v3 : Int32) : St_ → Option St_ := fun σ6 => ((mX12_told 233 (131277443786868 : Int64) (0 : Int32) (99 : Int32) σ6).bind fun r9 =>
 (if bin v3 10 = true then bnd (sI r9.2 (233 + 12) v3.toNatClampNeg r9.1) fun σ10 => TD2_ v3 σ10
 else none))
theorem readThing_eq : mX12_readThing 233 ρ = ((mX12_newName 233 (6 : Int32) (ρ.1 233 46) ρ).bind fun σ1 => ((mX12_want 233 (28518 : Int64) σ1).bind fun σ2 => (bnd (σ2.1 233 46) fun v3 => ((mX12_oldName 233 (0 : Int32) (σ2.1 233 45) σ2).bind fun r4 => (if bin v3 10 = true then bnd (sI r4.2 (233 + 11) v3.toNatClampNeg r4.1) fun σ5 => (if (σ5.1 233 2) = 0 then ((mX12_token 233 σ5).bind fun σ18 => (TD_ v3 σ18)) else (TD_ v3 σ5)) else none))))) := by
  unfold mX12_readThing TD_ TD2_ TE_
  rfl
theorem te_ok (hN : N < 10) (ρ : St_) : ∃ Z, (TE_ (nI N) ρ = if ρ.1 233 2 = 0 then some (sI Z 233 46 (Z.1 233 46 + 1)) else some Z) ∧ (∀ e j, ¬ ((e = 247 ∧ j = N) ∨ (e = 252 ∧ 9 * N ≤ j ∧ j < 9 * N + 9)) → Z.1 e j = ρ.1 e j) ∧ Z.1 247 N = -1 ∧ (∀ g, g < 9 → Z.1 252 (9 * N + g) = -1) ∧ Z.2 = ρ.2 := by
  generalize hA : sI ρ 247 N (-1) = A
  obtain ⟨Z, z1, z2, z3, z4⟩ := thing_loop hN (k := (fun (σ16 : St_) => (if (σ16.1 233 2) = 0 then (bnd (sI σ16 233 46 ((σ16.1 233 46) + (1 : Int32))) fun σ17 => (some σ17)) else (some σ16)))) 9 FU 0 A (by omega) (by unfold FU; omega)
  rw [show nI 0 = (0 : Int32) from rfl] at z1
  refine ⟨Z, ?_, fun e j w => by rw [z2 e j (by omega), ← hA, sI_get, if_neg (by omega)], by rw [z2 _ _ (by omega), ← hA, sI_get, if_pos ⟨rfl, rfl⟩], fun g h2 => z3 g (by omega) h2, by rw [z4, ← hA, sI_2]⟩
  have Zf : Z.1 233 2 = ρ.1 233 2 := by rw [z2 _ _ (by omega), ← hA, sI_get, if_neg (by omega)]
  unfold TE_
  rw [binn hN (by omega), if_pos rfl, pn_cl (by omega), show 233 + 14 = 247 from rfl, hA, bnd_eq, z1, bnd_eq, Zf]
theorem te_f (hN : N < 10) (h : ¬ ρ.1 233 2 ≤ 0) : ∃ Z, TE_ (nI N) ρ = some Z ∧ RDr ρ Z ∧ ∀ k, k = 2 ∨ k = 3 → Z.1 233 k = ρ.1 233 k := by
  obtain ⟨Z, z1, z2, -⟩ := te_ok hN ρ
  rw [if_neg (fltw h)] at z1
  exact ⟨Z, z1, fun e j w => z2 e j (by omega), fun k w => z2 _ _ (by omega)⟩
theorem td2_f (hN : N < 10) (h : ¬ ρ.1 233 2 ≤ 0) : ∃ Z, TD2_ (nI N) ρ = some Z ∧ RDr ρ Z ∧ ∀ k, k = 2 ∨ k = 3 → Z.1 233 k = ρ.1 233 k := by
  have f1 : ¬ (sI ρ 246 N 0).1 233 2 ≤ 0 := by rw [sI_get, if_neg (by omega)]; exact h
  obtain ⟨Z, z1, z2, z3⟩ := te_f hN f1
  refine ⟨Z, ?_, fun e j w => by rw [z2 e j w, sI_get, if_neg (by omega)], fun k w => by rw [z3 k w, sI_get, if_neg (by omega)]⟩
  unfold TD2_
  rw [told_ff h, obs_eq, binn hN (by omega), if_pos rfl, pn_cl (by omega), show 233 + 13 = 246 from rfl, bnd_eq, z1]
theorem td_f (hN : N < 10) (h : ¬ ρ.1 233 2 ≤ 0) : ∃ Z, TD_ (nI N) ρ = some Z ∧ RDr ρ Z ∧ ∀ k, k = 2 ∨ k = 3 → Z.1 233 k = ρ.1 233 k := by
  have f1 : ¬ (sI ρ 245 N 0).1 233 2 ≤ 0 := by rw [sI_get, if_neg (by omega)]; exact h
  obtain ⟨Z, z1, z2, z3⟩ := td2_f hN f1
  refine ⟨Z, ?_, fun e j w => by rw [z2 e j w, sI_get, if_neg (by omega)], fun k w => by rw [z3 k w, sI_get, if_neg (by omega)]⟩
  unfold TD_
  rw [told_ff h, obs_eq, binn hN (by omega), if_pos rfl, pn_cl (by omega), show 233 + 12 = 245 from rfl, bnd_eq, z1]
theorem th_f (hN : N < 10) (h : ¬ ρ.1 233 2 ≤ 0) (x : Int32) : ∃ Z, (if (sI ρ 244 N x).1 233 2 = 0 then ((mX12_token 233 (sI ρ 244 N x)).bind fun σ18 => (TD_ (nI N) σ18)) else (TD_ (nI N) (sI ρ 244 N x))) = some Z ∧ RDr ρ Z ∧ ∀ k, k = 2 ∨ k = 3 → Z.1 233 k = ρ.1 233 k := by
  have f1 : ¬ (sI ρ 244 N x).1 233 2 ≤ 0 := by rw [sI_get, if_neg (by omega)]; exact h
  obtain ⟨Z, z1, z2, z3⟩ := td_f hN f1
  rw [if_neg (fltw f1)]
  exact ⟨Z, z1, fun e j w => by rw [z2 e j w, sI_get, if_neg (by omega)], fun k w => by rw [z3 k w, sI_get, if_neg (by omega)]⟩
theorem Dwh.more (H : Dwh d N nh nt σ ρ) (h : ρ.1 247 N = -1) : Dwh d (N + 1) nh nt σ ρ := by
  obtain ⟨⟨pm, p1, p2, p3⟩, h2, h3⟩ := H
  have P2 : 2 ^ (N + 1) = 2 ^ N * 2 := Nat.pow_succ 2 N
  refine ⟨⟨pm, by omega, p2, fun x hx => ?_⟩, fun g hg => ?_, fun x hx => ?_⟩
  · by_cases q : x = N
    · rw [q, h, Nat.testBit_lt_two_pow p1]
      exact ⟨fun w => (by cases w), fun w => absurd rfl w⟩
    · exact p3 x (by omega)
  · obtain ⟨m, m1, m2, m3⟩ := h2 g hg
    refine ⟨m, by omega, m2, fun x hx => ?_⟩
    by_cases q : x = N
    · rw [q, h, Nat.testBit_lt_two_pow m1]
      exact ⟨fun w => (by cases w), fun w => absurd w.symm (hcode_nm hg)⟩
    · exact m3 x (by omega)
  · by_cases q : x = N
    · rw [q]; exact Or.inl h
    · exact h3 x (by omega)
theorem thing_both (hd : 12 ≤ d) (h : Bo T n i τ σ ρ) (hs : stops τ = false) (D : Dra d KL TL HL nh nt σ ρ) (hl : TL.length < 10) : LnOk T n d i σ ρ (mX4_readThing 1 d σ) (mX12_readThing 233 ρ) := by
  obtain ⟨⟨n1, n2, n3⟩, nu, r1, r2, r3, r4, r5, r6, r7, r8, r9⟩ := id D
  obtain ⟨u1, u2, u3, u4, u5, u6⟩ := id nu
  obtain ⟨v0, v1, v2, v3, v4, v5, v6, v7, v8, v9, -⟩ := rw6_vals
  obtain ⟨τ1, R1, a1, -⟩ := next_bo h hs
  obtain ⟨b, A, B, b1, b2, b3, b4, b5, b6⟩ := new_name h hs (a := 9) (an := 10) (f := 6) n2.2.1 n2.2.2.1 n2.1 hl (by omega) (by omega)
  have b2' : mX12_newName 233 (6 : Int32) (nI TL.length) ρ = some B := b2
  rw [readThing_eq]
  unfold mX4_readThing
  simp only [bnd_eq]
  rw [u2.1, if_pos (show nI TL.length < (10 : Int32) from nI_lt (b := 10) hl (by omega)), show 1 + 2 = 3 from rfl, a1, obs_eq, show 1 + 8 = 9 from rfl, show 1 + 7 = 8 from rfl, b1, obs_eq, u2.2, b2', obs_eq, binn hl (by omega), pn_cl (show TL.length < 2 ^ 31 by omega), show 233 + 11 = 244 from rfl]
  simp only [if_true]
  have bin10 : bin (nI TL.length) 10 = true := binn hl (by omega)
  have cl10 : (nI TL.length).toNatClampNeg = TL.length := pn_cl (by omega)
  cases b
  · have f := b6 rfl
    have B46 : B.1 233 46 = nI TL.length := by rw [b4.1 _ _ (by omega)]; exact u2.2
    obtain ⟨Z, z1, z2, z3⟩ := th_f hl f.2.2 0
    rw [if_neg (by simp), want_f f.2.2, obs_eq, B46, old_f f.2.2, obs_eq, bin10, if_pos rfl, cl10, z1]
    exact ⟨false, A, Z, rfl, rfl, b3.cd, b4.rd.tr z2, fun w => (by cases w), fun _ => f.fr (fun _ _ => rfl) z3⟩
  · obtain ⟨l, τ2, c1, c2, c3, c4⟩ := b5 rfl
    obtain ⟨b, C, Q, e1, e2, e3, e4, e5, e6⟩ := take_word c4 (w := 7) (by omega)
    have e1' : mX10_takeWord 3 (7 : Int32) A = some (b, C) := e1
    have e2' : mX12_want 233 (28518 : Int64) B = some Q := by rw [← v7]; exact e2
    have Q46 : Q.1 233 46 = nI TL.length := by rw [e4.1 _ _ (by omega), b4.1 _ _ (by omega)]; exact u2.2
    have Q45 : Q.1 233 45 = nI KL.length := by rw [e4.1 _ _ (by omega), b4.1 _ _ (by omega)]; exact u1.2
    have C1' : C.1 d 1 = nI KL.length := by rw [e3.1 _ _ (by omega), b3.1 _ _ (by omega)]; exact u1.1
    rw [if_pos rfl, e1', obs_eq, e2', obs_eq, Q46, Q45, bin10, cl10]
    simp only [if_true]
    cases b
    · have f := e6 rfl
      obtain ⟨Z, z1, z2, z3⟩ := th_f hl f.2.2 0
      rw [if_neg (by simp), old_f f.2.2, obs_eq, z1]
      exact ⟨false, C, Z, rfl, rfl, b3.cd.tr e3.cd, (b4.rd.tr e4.rd).tr z2, fun w => (by cases w), fun _ => f.fr (fun _ _ => rfl) z3⟩
    · obtain ⟨τ3, w1⟩ := e5 rfl
      have n1C : Dnm 8 0 6 KL C Q := n1.fr (fun j => by rw [e3.2, b3.2 _ _ (by omega)]) (fun j _ _ => by rw [e4.2 _ _ (by omega), b4.2 _ _ (by omega)])
      obtain ⟨b, E, x, F, f1, f2, f3, f4, f5, f6⟩ := old_name w1 (a := 8) (an := 6) (f := 0) n1C.2.1 n1C.2.2.1 n1C.1 n1C.2.2.2 (by omega)
      have f2' : mX12_oldName 233 (0 : Int32) (nI KL.length) Q = some (x, F) := f2
      rw [if_pos rfl, C1', f1, obs_eq, f2', obs_eq]
      cases b
      · have f := f6 rfl
        obtain ⟨Z, z1, z2, z3⟩ := th_f hl f.2.2 x
        rw [if_neg (by simp), z1]
        exact ⟨false, E, Z, rfl, rfl, (b3.cd.tr e3.cd).tr f3.cd, ((b4.rd.tr e4.rd).tr f4.rd).tr z2, fun w => (by cases w), fun _ => f.fr (fun _ _ => rfl) z3⟩
      · obtain ⟨j, j1, jx, j2, j3, jF, j4⟩ := f5 rfl
        subst jx
        subst jF
        have k6 := n1.2.2.2
        generalize hE1 : sI E (d + 1) TL.length (nI j) = E1
        have E10 : ∀ e j, ¬ (e = d + 1 ∧ j = TL.length) → E1.1 e j = E.1 e j := fun e j w => by rw [← hE1, sI_get, if_neg w]
        have E12 : E1.2 = E.2 := by rw [← hE1, sI_2]
        generalize hF1 : sI F 244 TL.length (nI j) = F1
        have F10 : ∀ e j, ¬ (e = 244 ∧ j = TL.length) → F1.1 e j = F.1 e j := fun e j w => by rw [← hF1, sI_get, if_neg w]
        have F12 : F1.2 = F.2 := by rw [← hF1, sI_2]
        have boE : Bo T n (i + 2 + 1) τ3 E1 F1 := j4.fr (fun a k w => E10 a k (by omega)) (fun k => by rw [E12]) (fun a k w => F10 a k (by omega)) (by rw [F12])
        obtain ⟨τ4, R4, g1, g2, g3, g4, g5⟩ := next_bo boE j3
        generalize hE2 : sI E1 3 6 (nI (i + 2 + 1 + 1)) = E2 at *
        obtain ⟨b, G, x', H, l1, l2, l3, l4, l5, l6⟩ := num_of g3 (w := 8) (hi := 99) (by omega) (by omega)
        have l1' : mX4_readNumberOf 1 (8 : Int32) (99 : Int32) E2 = some (b, G) := l1
        have l2' : mX12_told 233 (131277443786868 : Int64) (0 : Int32) (99 : Int32) R4 = some (x', H) := by rw [← v8]; exact l2
        have GC : ∀ e j, ¬ ((e = 3 ∧ 6 ≤ j ∧ j ≤ 8) ∨ (e = 1 ∧ j = 9) ∨ (e = d + 1 ∧ j = TL.length)) → G.1 e j = σ.1 e j := fun e j w => by rw [l3.1 e j (by omega), g4.1 e j (by omega), E10 e j (by omega), f3.1 e j (by omega), e3.1 e j (by omega), b3.1 e j (by omega)]
        have HC : ∀ e j, ¬ ((e = 233 ∧ 2 ≤ j ∧ j ≤ 8) ∨ (e = 244 ∧ j = TL.length)) → H.1 e j = ρ.1 e j := fun e j w => by rw [l4.1 e j (by omega), g5.1 e j (by omega), F10 e j (by omega), e4.1 e j (by omega), b4.1 e j (by omega)]
        have G2 : G.2 = A.2 := by rw [l3.2, g4.2, E12, f3.2, e3.2]
        have H2 : ∀ j, H.2 235 j = B.2 235 j := fun j => by rw [l4.2 _ _ (by omega), g5.2 _ _ (by omega), F12, e4.2 _ _ (by omega)]
        rw [if_pos rfl, j2, hE1, g1, obs_eq, l1', obs_eq, if_pos boE.2.2, g2, obs_eq]
        unfold TD_
        rw [l2', obs_eq, bin10, if_pos rfl, cl10, show 233 + 12 = 245 from rfl, bnd_eq]
        cases b
        · have f := l6 rfl
          obtain ⟨Z, z1, z2, z3⟩ := td2_f (ρ := sI H 245 TL.length x') hl (by rw [sI_get, if_neg (by omega)]; exact f.2.2)
          rw [if_neg (by simp), z1]
          exact ⟨false, G, Z, rfl, rfl, fun e j w => GC e j (by omega), fun e j w => by rw [z2 e j w, sI_get, if_neg (by omega), HC e j (by omega)], fun w => (by cases w), fun _ => f.fr (fun _ _ => rfl) (fun k w => by rw [z3 k w, sI_get, if_neg (by omega)])⟩
        · obtain ⟨v, τ5, m1, m2, m3, m4⟩ := l5 rfl
          generalize hG1 : sI G (d + 2) TL.length (nI v) = G1
          have G10 : ∀ e j, ¬ (e = d + 2 ∧ j = TL.length) → G1.1 e j = G.1 e j := fun e j w => by rw [← hG1, sI_get, if_neg w]
          have G12 : G1.2 = G.2 := by rw [← hG1, sI_2]
          subst m2
          generalize hH1 : sI H 245 TL.length (nI v) = H1
          have H10 : ∀ e j, ¬ (e = 245 ∧ j = TL.length) → H1.1 e j = H.1 e j := fun e j w => by rw [← hH1, sI_get, if_neg w]
          have H12 : H1.2 = H.2 := by rw [← hH1, sI_2]
          have boG : Bo T n (i + 2 + 1 + 1 + 2) τ5 G1 H1 := m4.fr (fun a k w => G10 a k (by omega)) (fun k => by rw [G12]) (fun a k w => H10 a k (by omega)) (by rw [H12])
          obtain ⟨b, M, x', O, o1, o2, o3, o4, o5, o6⟩ := num_of boG (w := 9) (hi := 99) (by omega) (by omega)
          have o1' : mX4_readNumberOf 1 (9 : Int32) (99 : Int32) G1 = some (b, M) := o1
          have o2' : mX12_told 233 (512970880104 : Int64) (0 : Int32) (99 : Int32) H1 = some (x', O) := by rw [← v9]; exact o2
          rw [if_pos rfl, m3, hG1, o1', obs_eq]
          unfold TD2_
          rw [o2', obs_eq, bin10, if_pos rfl, cl10, show 233 + 13 = 246 from rfl, bnd_eq]
          cases b
          · have f := o6 rfl
            obtain ⟨Z, z1, z2, z3⟩ := te_f (ρ := sI O 246 TL.length x') hl (by rw [sI_get, if_neg (by omega)]; exact f.2.2)
            rw [if_neg (by simp), z1]
            exact ⟨false, M, Z, rfl, rfl, fun e j w => by rw [o3.1 e j (by omega), G10 e j (by omega), GC e j (by omega)], fun e j w => by rw [z2 e j w, sI_get, if_neg (by omega), o4.1 e j (by omega), H10 e j (by omega), HC e j (by omega)], fun w => (by cases w), fun _ => f.fr (fun _ _ => rfl) (fun k w => by rw [z3 k w, sI_get, if_neg (by omega)])⟩
          · obtain ⟨v', τ6, p1, p2, p3, p4⟩ := o5 rfl
            subst p2
            generalize hM1 : sI M (d + 3) TL.length (nI v') = M1
            have M12 : M1.1 d 2 = nI TL.length := by rw [← hM1, sI_get, if_neg (by omega), o3.1 _ _ (by omega), G10 _ _ (by omega), GC _ _ (by omega)]; exact u2.1
            generalize hM2 : sI M1 d 2 (nI (TL.length + 1)) = M2
            have M20 : ∀ e j, ¬ ((e = d + 3 ∧ j = TL.length) ∨ (e = d ∧ j = 2)) → M2.1 e j = M.1 e j := fun e j w => by rw [← hM2, sI_get, if_neg (by omega), ← hM1, sI_get, if_neg (by omega)]
            have M22 : M2.2 = M.2 := by rw [← hM2, sI_2, ← hM1, sI_2]
            generalize hO1 : sI O 246 TL.length (nI v') = O1
            have O10 : ∀ e j, ¬ (e = 246 ∧ j = TL.length) → O1.1 e j = O.1 e j := fun e j w => by rw [← hO1, sI_get, if_neg w]
            have O12 : O1.2 = O.2 := by rw [← hO1, sI_2]
            obtain ⟨Z, z1, z2, z3, z4, z5⟩ := te_ok hl O1
            have Z46 : Z.1 233 46 = nI TL.length := by rw [z2 _ _ (by omega), O10 _ _ (by omega), o4.1 _ _ (by omega), H10 _ _ (by omega), HC _ _ (by omega)]; exact u2.2
            rw [if_pos (by rw [O10 _ _ (by omega)]; exact p4.2.2), Z46, nI_1] at z1
            rw [if_pos rfl, p3, hM1, M12, nI_1, hM2, z1]
            generalize hY : sI Z 233 46 (nI (TL.length + 1)) = Y
            have Y0 : ∀ e j, ¬ (e = 233 ∧ j = 46) → Y.1 e j = Z.1 e j := fun e j w => by rw [← hY, sI_get, if_neg w]
            have Y2 : Y.2 = O.2 := by rw [← hY, sI_2, z5, O12]
            have MC : ∀ e j, ¬ ((e = 3 ∧ 6 ≤ j ∧ j ≤ 8) ∨ (e = 1 ∧ j = 9) ∨ ((e = d + 1 ∨ e = d + 2 ∨ e = d + 3) ∧ j = TL.length) ∨ (e = d ∧ j = 2)) → M2.1 e j = σ.1 e j := fun e j w => by rw [M20 e j (by omega), o3.1 e j (by omega), G10 e j (by omega), GC e j (by omega)]
            have YC : ∀ e j, ¬ ((e = 233 ∧ ((2 ≤ j ∧ j ≤ 8) ∨ j = 46)) ∨ (244 ≤ e ∧ e ≤ 247 ∧ j = TL.length) ∨ (e = 252 ∧ 9 * TL.length ≤ j)) → Y.1 e j = ρ.1 e j := fun e j w => by rw [Y0 e j (by omega), z2 e j (by omega), O10 e j (by omega), o4.1 e j (by omega), H10 e j (by omega), HC e j (by omega)]
            have M2' : M2.2 = A.2 := by rw [M22, o3.2, G12, G2]
            have Y2' : ∀ j, Y.2 235 j = B.2 235 j := fun j => by rw [Y2, o4.2 _ _ (by omega), H12, H2]
            have el : (TL ++ [l]).length = TL.length + 1 := by simp
            refine ⟨true, M2, Y, rfl, rfl, fun e j w => MC e j (by omega), fun e j w => YC e j (by omega), fun _ => ⟨i + 2 + 1 + 1 + 2 + 2, τ6, KL, TL ++ [l], HL, nh, nt, by omega, p4.fr (fun a k w => M20 a k (by omega)) (fun k => by rw [M22]) (fun a k w => by rw [Y0 a k (by omega), z2 a k (by omega), O10 a k (by omega)]) (by rw [Y2]), ⟨n1.fr (fun j => by rw [M2', b3.2 _ _ (by omega)]) (fun j _ _ => by rw [Y2', b4.2 _ _ (by omega)]), ⟨c1, fun k l hk => by rw [M2']; exact c2 k l hk, fun k l hk => by rw [Y2']; exact c3 k l hk, by omega⟩, n3.fr (fun j => by rw [M2', b3.2 _ _ (by omega)]) (fun j _ _ => by rw [Y2', b4.2 _ _ (by omega)])⟩, ?_, ?_⟩, fun w => by cases w⟩
            · rw [el]
              refine ⟨⟨?_, ?_⟩, ⟨?_, ?_⟩, ⟨?_, ?_⟩, ⟨?_, ?_⟩, ⟨?_, ?_⟩, u6⟩
              · rw [MC _ _ (by omega)]; exact u1.1
              · rw [YC _ _ (by omega)]; exact u1.2
              · rw [← hM2, sI_get, if_pos ⟨rfl, rfl⟩]
              · rw [← hY, sI_get, if_pos ⟨rfl, rfl⟩]
              · rw [MC _ _ (by omega)]; exact u3.1
              · rw [YC _ _ (by omega)]; exact u3.2
              · rw [MC _ _ (by omega)]; exact u4.1
              · rw [YC _ _ (by omega)]; exact u4.2
              · rw [MC _ _ (by omega)]; exact u5.1
              · rw [YC _ _ (by omega)]; exact u5.2
            · rw [el]
              refine ⟨r1.fr (fun j _ => MC _ _ (by omega)) (fun j _ => YC _ _ (by omega)), r2.fr (MC _ _ (by omega)) (YC _ _ (by omega)), fun x hx => ?_, r4.fr (fun e j _ _ => MC _ _ (by omega)) (fun e j _ _ => YC _ _ (by omega)), r5.fr (fun e j _ _ _ => MC _ _ (by omega)) (fun e j _ _ _ => YC _ _ (by omega)), ⟨fun x hx g hg => ?_, fun x h1 h2 g hg => ?_⟩, r7.fr (MC _ _ (by omega)) (YC _ _ (by omega)), ?_, r9.fr (fun e j _ _ => MC _ _ (by omega)) (fun e j w => YC _ _ (by omega))⟩
              · by_cases q : x = TL.length
                · subst q
                  refine ⟨⟨j, by omega, ?_, ?_⟩, ⟨v, m1, ?_, ?_⟩, ⟨v', p1, ?_, ?_⟩⟩
                  · rw [M20 _ _ (by omega), o3.1 _ _ (by omega), G10 _ _ (by omega), l3.1 _ _ (by omega), g4.1 _ _ (by omega), ← hE1, sI_get, if_pos ⟨rfl, rfl⟩]
                  · rw [Y0 _ _ (by omega), z2 _ _ (by omega), O10 _ _ (by omega), o4.1 _ _ (by omega), H10 _ _ (by omega), l4.1 _ _ (by omega), g5.1 _ _ (by omega), ← hF1, sI_get, if_pos ⟨rfl, rfl⟩]
                  · rw [M20 _ _ (by omega), o3.1 _ _ (by omega), ← hG1, sI_get, if_pos ⟨rfl, rfl⟩]
                  · rw [Y0 _ _ (by omega), z2 _ _ (by omega), O10 _ _ (by omega), o4.1 _ _ (by omega), ← hH1, sI_get, if_pos ⟨rfl, rfl⟩]
                  · rw [← hM2, sI_get, if_neg (by omega), ← hM1, sI_get, if_pos ⟨rfl, rfl⟩]
                  · rw [Y0 _ _ (by omega), z2 _ _ (by omega), ← hO1, sI_get, if_pos ⟨rfl, rfl⟩]
                · rw [MC _ _ (by omega), MC _ _ (by omega), MC _ _ (by omega), YC _ _ (by omega), YC _ _ (by omega), YC _ _ (by omega)]
                  exact r3 x (by omega)
              · by_cases q : x = TL.length
                · subst q
                  rw [MC _ _ (by omega), Y0 _ _ (by omega), z4 g hg]
                  exact ⟨r6.2 _ (Nat.le_refl _) hl g hg, Or.inl rfl⟩
                · rw [MC _ _ (by omega), YC _ _ (by omega)]
                  exact r6.1 x (by omega) g hg
              · rw [MC _ _ (by omega)]
                exact r6.2 x (by omega) h2 g hg
              · have wh : Dwh d TL.length nh nt M2 Y := r8.fr (MC _ _ (by omega)) (fun j => MC _ _ (by omega)) (fun j _ => YC _ _ (by omega))
                exact wh.more (by rw [Y0 _ _ (by omega)]; exact z3)
end THINGL
