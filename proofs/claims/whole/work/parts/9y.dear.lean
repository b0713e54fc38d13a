/-! what is dear -/
section DEARL
variable {σ σ' ρ ρ' : St_} {n i d nh nt N : Nat} {T : Nat → Nat} {τ : Tkn} {KL TL HL : List (List Nat)}
def DK_ (r21 : Int32) : St_ → Option St_ := (fun (σ3 : St_) => ((mX12_want 233 (29807 : Int64) σ3).bind fun σ6 =>
 ((mX12_oldName 233 (16 : Int32) (σ6.1 233 12) σ6).bind fun r7 =>
 (if (r7.2.1 233 2) ≤ 0 then
 (if bin r7.1 9 = true then bnd (r7.2.1 (233 + 3) r7.1.toNatClampNeg) fun v8 =>
 (bnd (((9 : Int32) * r21) + v8) fun v9 =>
 (if bin v9 90 = true then bnd (r7.2.1 (233 + 19) v9.toNatClampNeg) fun v10 =>
 (bnd (fun (σ11 : St_) => (bnd (fun (σ14 : St_) => ((mX12_toldNumber 233 (0 : Int32) (99 : Int32) σ14).bind fun r17 =>
 (if bin v9 90 = true then bnd (sI r17.2 (233 + 19) v9.toNatClampNeg r17.1) fun σ18 =>
 (bnd (sI σ18 233 49 ((σ18.1 233 49) + (1 : Int32))) fun σ19 =>
 (some σ19))
 else none))) fun k15 =>
 (if (σ11.1 233 2) = 0 then
 ((mX12_token 233 σ11).bind fun σ20 =>
 (k15 σ20))
 else (k15 σ11)))) fun k12 =>
 (if v10 = (-1 : Int32) then
 (k12 r7.2)
 else ((mX12_wrong 233 (3 : Int32) r7.2).bind fun σ21 =>
 (k12 σ21))))
 else none))
 else none)
 else (some r7.2)))))
theorem readDear_eq : mX12_readDear 233 ρ = ((mX12_token 233 ρ).bind fun σ1 => ((mX12_oldName 233 (6 : Int32) (σ1.1 233 46) σ1).bind fun r2 => (if (r2.2.1 233 2) = 0 then ((mX12_token 233 r2.2).bind fun σ22 => (DK_ r2.1 σ22)) else (DK_ r2.1 r2.2)))) := by
  unfold mX12_readDear DK_
  rfl
theorem dk_f (h : ¬ ρ.1 233 2 ≤ 0) (x : Int32) : DK_ x ρ = some ρ := by
  unfold DK_
  rw [want_f h, obs_eq, old_f h, obs_eq, if_neg h]
theorem dear_both (hd : 12 ≤ d) (h : Bo T n i τ σ ρ) (hs : stops τ = false) (D : Dra d KL TL HL nh nt σ ρ) {nd : Nat} (hnd : σ.1 1 7 = nI nd) (hl : nd < 20) : LnOk T n d i σ ρ (mX4_readDear 1 d σ) (mX12_readDear 233 ρ) := by
  obtain ⟨⟨n1, n2, n3⟩, nu, r1, r2, r3, r4, r5, r6, r7, r8, r9⟩ := id D
  obtain ⟨u1, u2, u3, u4, u5, u6, u7, u8⟩ := id nu
  obtain ⟨v0, v1, v2, v3, v4, v5, v6, v7, v8, v9, v10, v11, v12, v13, v14, -⟩ := rw6_vals
  have hnr : ρ.1 233 49 = nI nd := by
    obtain ⟨nd', x1, x2, x3⟩ := r7
    have : nd' = nd := (nI_eq (by omega) (by omega)).mp (by rw [← x2, hnd])
    rw [← this]; exact x3
  obtain ⟨τ1, R1, a1, a2, a3, a4, a5⟩ := next_bo h hs
  generalize hA : sI σ 3 6 (nI (i + 1)) = A at *
  have n2A : Dnm 9 6 10 TL A R1 := n2.fr (fun j => by rw [a4.2]) (fun j _ _ => a5.2 _ _ (by omega))
  have A2 : A.1 d 2 = nI TL.length := by rw [a4.1 _ _ (by omega)]; exact u2.1
  have R46 : R1.1 233 46 = nI TL.length := by rw [a5.1 _ _ (by omega)]; exact u2.2
  obtain ⟨b, C, x, F, b1, b2, b3, b4, b5, b6⟩ := old_name a3 (a := 9) (an := 10) (f := 6) n2A.2.1 n2A.2.2.1 n2A.1 n2A.2.2.2 (by omega)
  have b2' : mX12_oldName 233 (6 : Int32) (nI TL.length) R1 = some (x, F) := b2
  rw [readDear_eq]
  unfold mX4_readDear
  simp only [bnd_eq]
  rw [hnd, if_pos (show nI nd < (20 : Int32) from nI_lt (b := 20) hl (by omega)), show 1 + 2 = 3 from rfl, a1, obs_eq, A2, show 1 + 8 = 9 from rfl, show 1 + 9 = 10 from rfl, show 1 + 10 = 11 from rfl, b1, obs_eq, a2, obs_eq, R46, b2', obs_eq]
  cases b
  · have f := b6 rfl
    rw [if_neg (by simp), if_neg (fltw f.2.2), dk_f f.2.2]
    exact ⟨false, C, F, rfl, rfl, a4.cd.tr b3.cd, a5.rd.tr b4.rd, fun w => (by cases w), fun _ => f⟩
  · obtain ⟨y, y1, jx, y2, y3, jF, y4⟩ := b5 rfl
    subst jx
    subst jF
    have t10 := n2.2.2.2
    obtain ⟨τ2, R2, c1, c2, c3, c4, c5⟩ := next_bo y4 y3
    generalize hC1 : sI C 3 6 (nI (i + 1 + 1)) = C1 at *
    obtain ⟨b, E, Q, e1, e2, e3, e4, e5, e6⟩ := take_word c3 (w := 14) (by omega)
    have e1' : mX10_takeWord 3 (14 : Int32) C1 = some (b, E) := e1
    have e2' : mX12_want 233 (29807 : Int64) R2 = some Q := by rw [← v14]; exact e2
    have C9 : C.1 1 9 = nI y := y2
    rw [if_pos rfl, C9, c1, obs_eq, e1', obs_eq, if_pos y4.2.2, c2, obs_eq]
    cases b
    · have f := e6 rfl
      unfold DK_
      rw [if_neg (by simp), e2', obs_eq, old_f f.2.2, obs_eq, if_neg f.2.2]
      exact ⟨false, E, Q, rfl, rfl, ((a4.cd.tr b3.cd).tr c4.cd).tr e3.cd, (a5.rd.tr c5.rd).tr e4.rd, fun w => (by cases w), fun _ => f⟩
    · obtain ⟨τ3, w1⟩ := e5 rfl
      have EC : ∀ e j, ¬ ((e = 3 ∧ 6 ≤ j ∧ j ≤ 8) ∨ (e = 1 ∧ j = 9)) → E.1 e j = σ.1 e j := fun e j w => by rw [e3.1 e j w, c4.1 e j w, b3.1 e j w, a4.1 e j w]
      have QC : ∀ e j, ¬ (e = 233 ∧ 2 ≤ j ∧ j ≤ 8) → Q.1 e j = ρ.1 e j := fun e j w => by rw [e4.1 e j w, c5.1 e j w, a5.1 e j w]
      have E2 : E.2 = σ.2 := by rw [e3.2, c4.2, b3.2, a4.2]
      have Q2 : ∀ j, Q.2 235 j = ρ.2 235 j := fun j => by rw [e4.2 _ _ (by omega), c5.2 _ _ (by omega), a5.2 _ _ (by omega)]
      have n3E : Dnm 10 16 9 HL E Q := n3.fr (fun j => by rw [E2]) (fun j _ _ => Q2 j)
      obtain ⟨b, G, x', H, f1, f2, f3, f4, f5, f6⟩ := old_name w1 (a := 10) (an := 9) (f := 16) n3E.2.1 n3E.2.2.1 n3E.1 n3E.2.2.2 (by omega)
      have f2' : mX12_oldName 233 (16 : Int32) (nI HL.length) Q = some (x', H) := f2
      have E6 : E.1 1 6 = nI HL.length := by rw [EC _ _ (by omega)]; exact u3.1
      have Q12 : Q.1 233 12 = nI HL.length := by rw [QC _ _ (by omega)]; exact u3.2
      unfold DK_
      simp only [bnd_eq]
      rw [if_pos trivial, E6, f1, obs_eq, e2', obs_eq, Q12, f2', obs_eq]
      cases b
      · have f := f6 rfl
        rw [if_neg (by simp), if_neg f.2.2]
        exact ⟨false, G, H, rfl, rfl, fun e j w => by rw [f3.1 e j (by omega), EC e j (by omega)], fun e j w => by rw [f4.1 e j (by omega), QC e j (by omega)], fun w => (by cases w), fun _ => f⟩
      · obtain ⟨z, z1, jx, z2, z3, jF, z4⟩ := f5 rfl
        subst jx
        subst jF
        have h9 := n3.2.2.2
        obtain ⟨p, p1, p2, p3⟩ := r1 z z1
        have G11 : G.1 11 z = nI p := by rw [f3.1 _ _ (by omega), EC _ _ (by omega)]; exact p2
        have H236 : H.1 236 z = nI p := by rw [QC _ _ (by omega)]; exact p3
        have G8 : G.1 (d + 8) (10 * p + y) = ρ.1 252 (9 * y + p) := by rw [f3.1 _ _ (by omega), EC _ _ (by omega), Nat.mul_comm 10 p]; exact (r6.1 y y1 p p1).1
        have H252 : H.1 252 (9 * y + p) = ρ.1 252 (9 * y + p) := QC _ _ (by omega)
        have i9 : (9 : Int32) * nI y + nI p = nI (9 * y + p) := by rw [show (9 : Int32) = nI 9 from rfl, nI_mul, nI_add]
        rw [if_pos rfl, z2, binn (show z < 9 by omega) (by omega), if_pos rfl, pn_cl (show z < 2 ^ 31 by omega), G11, va_ix, binn (show 10 * p + y < 90 by omega) (by omega), if_pos rfl, pn_cl (show 10 * p + y < 2 ^ 31 by omega), G8, if_pos (show H.1 233 2 ≤ 0 by rw [z4.2.2]; decide), show 233 + 3 = 236 from rfl, H236, i9, binn (show 9 * y + p < 90 by omega) (by omega), pn_cl (show 9 * y + p < 2 ^ 31 by omega), show 233 + 19 = 252 from rfl, H252]
        simp only [if_true]
        by_cases qv : ρ.1 252 (9 * y + p) = -1
        · obtain ⟨τ4, R4, g1, g2, g3, g4, g5⟩ := next_bo z4 z3
          generalize hG1 : sI G 3 6 (nI (i + 1 + 1 + 1 + 1)) = G1 at *
          obtain ⟨b, M, l1, l2, l3⟩ := told_num g3 (lo := 0) (hi := 99) (by omega) (by omega)
          have l1' : mX4_readNumber 1 (0 : Int32) (99 : Int32) G1 = some (b, M) := l1
          have MC : ∀ e j, ¬ ((e = 3 ∧ 6 ≤ j ∧ j ≤ 8) ∨ (e = 1 ∧ j = 9)) → M.1 e j = σ.1 e j := fun e j w => by rw [l2.1 e j w, g4.1 e j w, f3.1 e j w, EC e j w]
          rw [if_pos qv, if_pos qv, g1, obs_eq, l1', obs_eq, if_pos z4.2.2, g2, obs_eq]
          rcases l3 with ⟨rfl, v, τ5, R5, m1, m2, -, -, m3, -, m4, m5, m6, m7⟩ | ⟨rfl, x, R5, m5, m6, m7⟩
          · have m5' : mX12_toldNumber 233 (0 : Int32) (99 : Int32) R4 = some (nI v, R5) := m5
            generalize hM1 : sI M 3 6 (nI (i + 1 + 1 + 1 + 1 + 1)) = M1 at m4 m7
            have M10 : ∀ e j, ¬ (e = 3 ∧ j = 6) → M1.1 e j = M.1 e j := fun e j w => by rw [← hM1, sI_get, if_neg w]
            have M12 : M1.2 = M.2 := by rw [← hM1, sI_2]
            have M19 : M1.1 1 9 = nI v := by rw [M10 _ _ (by omega)]; exact m3
            generalize hM2 : sI M1 (d + 8) (10 * p + y) (nI v) = M2
            have M27 : M2.1 1 7 = nI nd := by rw [← hM2, sI_get, if_neg (by omega), M10 _ _ (by omega), MC _ _ (by omega)]; exact hnd
            generalize hM3 : sI M2 1 7 (nI (nd + 1)) = M3
            have M30 : ∀ e j, ¬ ((e = d + 8 ∧ j = 10 * p + y) ∨ (e = 1 ∧ j = 7)) → M3.1 e j = M1.1 e j := fun e j w => by rw [← hM3, sI_get, if_neg (by omega), ← hM2, sI_get, if_neg (by omega)]
            have M32 : M3.2 = σ.2 := by rw [← hM3, sI_2, ← hM2, sI_2, M12, l2.2, g4.2, f3.2, E2]
            generalize hS1 : sI R5 252 (9 * y + p) (nI v) = S1
            have S149 : S1.1 233 49 = nI nd := by rw [← hS1, sI_get, if_neg (by omega), m6.1 _ _ (by omega), g5.1 _ _ (by omega), QC _ _ (by omega)]; exact hnr
            generalize hS2 : sI S1 233 49 (nI (nd + 1)) = S2
            have S20 : ∀ e j, ¬ ((e = 252 ∧ j = 9 * y + p) ∨ (e = 233 ∧ j = 49)) → S2.1 e j = R5.1 e j := fun e j w => by rw [← hS2, sI_get, if_neg (by omega), ← hS1, sI_get, if_neg (by omega)]
            have S22 : S2.2 = R5.2 := by rw [← hS2, sI_2, ← hS1, sI_2]
            rw [if_pos rfl, m4, obs_eq, M19, hM2, M27, nI_1, hM3, m5', obs_eq, hS1, S149, nI_1, hS2]
            have M3C : ∀ e j, ¬ ((e = 3 ∧ 6 ≤ j ∧ j ≤ 8) ∨ (e = 1 ∧ (j = 7 ∨ j = 9)) ∨ (e = d + 8 ∧ j = 10 * p + y)) → M3.1 e j = σ.1 e j := fun e j w => by rw [M30 e j (by omega), M10 e j (by omega), MC e j (by omega)]
            have S2C : ∀ e j, ¬ ((e = 233 ∧ ((2 ≤ j ∧ j ≤ 8) ∨ j = 49)) ∨ (e = 252 ∧ j = 9 * y + p)) → S2.1 e j = ρ.1 e j := fun e j w => by rw [S20 e j (by omega), m6.1 e j (by omega), g5.1 e j (by omega), QC e j (by omega)]
            have S2' : ∀ j, S2.2 235 j = ρ.2 235 j := fun j => by rw [S22, m6.2 _ _ (by omega), g5.2 _ _ (by omega), Q2]
            refine ⟨true, M3, S2, rfl, rfl, fun e j w => M3C e j (by omega), fun e j w => S2C e j (by omega), fun _ => ⟨i + 1 + 1 + 1 + 1 + 1, τ5, KL, TL, HL, nh, nt, by omega, m7.fr (fun a k w => M30 a k (by omega)) (fun k => by rw [← hM3, sI_2, ← hM2, sI_2]) (fun a k w => S20 a k (by omega)) (by rw [S22]), ⟨n1.fr (fun j => by rw [M32]) (fun j _ _ => S2' j), n2.fr (fun j => by rw [M32]) (fun j _ _ => S2' j), n3.fr (fun j => by rw [M32]) (fun j _ _ => S2' j)⟩, nu.fr (fun e j w => by unfold FCnum at w; exact M3C e j (by omega)) (fun e j w => by unfold FRnum at w; exact S2C e j (by omega)), r1.fr (fun j _ => M3C _ _ (by omega)) (fun j _ => S2C _ _ (by omega)), r2.fr (M3C _ _ (by omega)) (S2C _ _ (by omega)), r3.fr (fun e j _ _ _ => M3C _ _ (by omega)) (fun e j _ _ _ => S2C _ _ (by omega)), r4.fr (fun e j _ _ => M3C _ _ (by omega)) (fun e j _ _ => S2C _ _ (by omega)), r5.fr (fun e j _ _ _ => M3C _ _ (by omega)) (fun e j _ _ _ => S2C _ _ (by omega)), ⟨fun x hx g hg => ?_, fun x h1 h2 g hg => ?_⟩, ⟨nd + 1, by omega, by rw [← hM3, sI_get, if_pos ⟨rfl, rfl⟩], by rw [← hS2, sI_get, if_pos ⟨rfl, rfl⟩]⟩, r8.fr (M3C _ _ (by omega)) (fun j => M3C _ _ (by omega)) (fun j _ => S2C _ _ (by omega)), r9.fr (fun e j _ _ => M3C _ _ (by omega)) (fun e j w => S2C _ _ (by omega))⟩, fun w => by cases w⟩
            · by_cases q : x = y ∧ g = p
              · obtain ⟨rfl, rfl⟩ := q
                have c1' : M3.1 (d + 8) (g * 10 + x) = nI v := by rw [Nat.mul_comm g 10, ← hM3, sI_get, if_neg (by omega), ← hM2, sI_get, if_pos ⟨rfl, rfl⟩]
                have c2' : S2.1 252 (9 * x + g) = nI v := by rw [← hS2, sI_get, if_neg (by omega), ← hS1, sI_get, if_pos ⟨rfl, rfl⟩]
                rw [c1', c2']
                exact ⟨rfl, Or.inr ⟨v, m2, rfl⟩⟩
              · rw [M3C _ _ (by omega), S2C _ _ (by omega)]
                exact r6.1 x hx g hg
            · rw [M3C _ _ (by omega)]
              exact r6.2 x h1 h2 g hg
          · have m5' : mX12_toldNumber 233 (0 : Int32) (99 : Int32) R4 = some (x, R5) := m5
            rw [if_neg (by simp), m5', obs_eq]
            exact ⟨false, M, _, rfl, rfl, fun e j w => MC e j (by omega), fun e j w => by rw [sI_get, if_neg (by omega), sI_get, if_neg (by omega), m6.1 e j (by omega), g5.1 e j (by omega), QC e j (by omega)], fun w => (by cases w), fun _ => m7.fr (fun _ _ => rfl) (fun k w => by rw [sI_get, if_neg (by omega), sI_get, if_neg (by omega)])⟩
        · have n3' : ¬ τ3.1 = 3 := fun w => by unfold stops at z3; rw [decide_eq_true w, Bool.or_true] at z3; cases z3
          obtain ⟨o1, o2, o3⟩ := fau_of (σ := G) (ρ := H) (x := 3) (y := 3) rfl (by decide) (p := τ3.2.1)
          generalize hW : sI (sI H 233 2 3) 233 3 (nI τ3.2.1) = W at o1 o3
          rw [if_neg qv, if_neg qv, c_fail z4.1, obs_eq, r_wrong z4.2.1 z4.2.2, obs_eq, if_neg n3', hW, if_neg (fltw o1.2.2), told_f o1.2.2, obs_eq]
          exact ⟨false, _, _, rfl, rfl, fun e j w => by rw [o2.1 e j (by omega), f3.1 e j (by omega), EC e j (by omega)], fun e j w => by rw [sI_get, if_neg (by omega), sI_get, if_neg (by omega), o3.1 e j (by omega), QC e j (by omega)], fun w => (by cases w), fun _ => o1.fr (fun _ _ => rfl) (fun k w => by rw [sI_get, if_neg (by omega), sI_get, if_neg (by omega)])⟩
end DEARL
