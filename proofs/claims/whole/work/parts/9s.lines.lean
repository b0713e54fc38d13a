/-! lines: a KIND, the night, the law -/
section LINES
variable {σ σ' ρ ρ' : St_} {n i d nh nt : Nat} {T : Nat → Nat} {τ : Tkn} {KL TL HL : List (List Nat)}
theorem Bo.fr (h : Bo T n i τ σ ρ) (ec : ∀ a k, (a = 3 ∧ 5 ≤ k ∧ k ≤ 8) ∨ a = 5 ∨ a = 6 → σ'.1 a k = σ.1 a k) (ec2 : ∀ k, σ'.2 7 k = σ.2 7 k) (er : ∀ a k, (a = 233 ∧ 2 ≤ k ∧ k ≤ 8) ∨ a = 234 → ρ'.1 a k = ρ.1 a k) (er2 : ρ'.2 233 9 = ρ.2 233 9) : Bo T n i τ σ' ρ' := ⟨h.1.fr ec ec2, h.2.1.fr (fun a k w => er a k (by omega)) er2, by rw [er _ _ (by omega)]; exact h.2.2⟩
theorem Fau.fr (h : Fau σ ρ) (ec : ∀ k, k = 7 ∨ k = 8 → σ'.1 3 k = σ.1 3 k) (er : ∀ k, k = 2 ∨ k = 3 → ρ'.1 233 k = ρ.1 233 k) : Fau σ' ρ' := by
  unfold Fau
  rw [ec 7 (by omega), ec 8 (by omega), er 2 (by omega), er 3 (by omega)]
  exact h
/-- a line that can't stand: both tell it -/
theorem line_bad (h : Bo T n i τ σ ρ) : LnOk T n d i σ ρ ((mX10_refuse 3 σ).bind fun r => some (r.1, r.2)) (mX12_wrong 233 2 ρ) := by
  obtain ⟨f1, f2, f3⟩ := fau_of (σ := σ) (ρ := ρ) (x := if τ.1 = 3 then 1 else 2) rfl (two_pos (τ := τ)) (p := τ.2.1)
  rw [c_refuse h.1, obs_eq, r_wrong h.2.1 h.2.2]
  exact ⟨false, _, _, rfl, rfl, f2.cd, f3.rd, fun w => (by cases w), fun _ => f1⟩
theorem kind_both (hd : 12 ≤ d) (h : Bo T n i τ σ ρ) (hs : stops τ = false) (D : Dra d KL TL HL nh nt σ ρ) (hl : KL.length < 6) : LnOk T n d i σ ρ (mX4_readKind 1 d σ) (mX12_readKind 233 ρ) := by
  obtain ⟨⟨n1, n2, n3⟩, nu, re⟩ := id D
  obtain ⟨τ1, R1, a1, -⟩ := next_bo h hs
  obtain ⟨b, A, R, b1, b2, b3, b4, b5, b6⟩ := new_name h hs (a := 8) (an := 6) (f := 0) n1.2.1 n1.2.2.1 n1.1 hl (by omega) (by omega)
  have b2' : mX12_newName 233 (0 : Int32) (nI KL.length) ρ = some R := b2
  have g1 : (sI σ 3 6 (nI (i + 1))).1 d 1 = nI KL.length := by rw [sI_get, if_neg (by omega)]; exact nu.1.1
  unfold mX4_readKind mX12_readKind
  simp only [bnd_eq]
  rw [nu.1.1, if_pos (show nI KL.length < (6 : Int32) from nI_lt (b := 6) hl (by omega)), show 1 + 2 = 3 from rfl, a1, obs_eq, g1, show 1 + 7 = 8 from rfl, b1, obs_eq, nu.1.2, b2', obs_eq]
  cases b
  · have f := b6 rfl
    rw [if_neg (by simp), if_neg (fltw f.2.2)]
    exact ⟨false, A, R, rfl, rfl, b3.cd, b4.rd, fun w => (by cases w), fun _ => f⟩
  · obtain ⟨l, τ', c1, c2, c3, c4⟩ := b5 rfl
    have gA : A.1 d 1 = nI KL.length := by rw [b3.1 _ _ (by omega)]; exact nu.1.1
    have gR : R.1 233 45 = nI KL.length := by rw [b4.1 _ _ (by omega)]; exact nu.1.2
    rw [if_pos rfl, if_pos c4.2.2, gA, gR, nI_1]
    generalize hE : sI A d 1 (nI (KL.length + 1)) = E
    generalize hQ : sI R 233 45 (nI (KL.length + 1)) = Q
    have E0 : ∀ e j, ¬ (e = d ∧ j = 1) → E.1 e j = A.1 e j := fun e j w => by rw [← hE, sI_get, if_neg w]
    have Q0 : ∀ e j, ¬ (e = 233 ∧ j = 45) → Q.1 e j = R.1 e j := fun e j w => by rw [← hQ, sI_get, if_neg w]
    have E2 : E.2 = A.2 := by rw [← hE]; rfl
    have Q2 : Q.2 = R.2 := by rw [← hQ]; rfl
    have el : (KL ++ [l]).length = KL.length + 1 := by simp
    refine ⟨true, E, Q, rfl, rfl, b3.cd.tr (fun e j w => E0 e j (by omega)), b4.rd.tr (fun e j w => Q0 e j (by omega)), fun _ => ⟨i + 2, τ', KL ++ [l], TL, HL, nh, nt, by omega, c4.fr (fun a k w => E0 a k (by omega)) (fun k => by rw [E2]) (fun a k w => Q0 a k (by omega)) (by rw [Q2]), ⟨⟨c1, fun k l hk => by rw [E2]; exact c2 k l hk, fun k l hk => by rw [Q2]; exact c3 k l hk, by omega⟩, n2.fr (fun j => by rw [E2, b3.2 _ _ (by omega)]) (fun j h1 h2 => by rw [Q2, b4.2 _ _ (by omega)]), n3.fr (fun j => by rw [E2, b3.2 _ _ (by omega)]) (fun j h1 h2 => by rw [Q2, b4.2 _ _ (by omega)])⟩, ?_, re.fr (fun e j w => by unfold FCre at w; rw [E0 e j (by omega), b3.1 e j (by omega)]) (fun e j w => by unfold FRre at w; rw [Q0 e j (by omega), b4.1 e j (by omega)])⟩, fun w => by cases w⟩
    obtain ⟨-, u2, u3, u4, u5, u6⟩ := nu
    rw [el]
    refine ⟨⟨by rw [← hE, sI_get, if_pos ⟨rfl, rfl⟩], by rw [← hQ, sI_get, if_pos ⟨rfl, rfl⟩]⟩, ⟨?_, ?_⟩, ⟨?_, ?_⟩, ⟨?_, ?_⟩, ⟨?_, ?_⟩, u6⟩
    · rw [E0 _ _ (by omega), b3.1 _ _ (by omega)]; exact u2.1
    · rw [Q0 _ _ (by omega), b4.1 _ _ (by omega)]; exact u2.2
    · rw [E0 _ _ (by omega), b3.1 _ _ (by omega)]; exact u3.1
    · rw [Q0 _ _ (by omega), b4.1 _ _ (by omega)]; exact u3.2
    · rw [E0 _ _ (by omega), b3.1 _ _ (by omega)]; exact u4.1
    · rw [Q0 _ _ (by omega), b4.1 _ _ (by omega)]; exact u4.2
    · rw [E0 _ _ (by omega), b3.1 _ _ (by omega)]; exact u5.1
    · rw [Q0 _ _ (by omega), b4.1 _ _ (by omega)]; exact u5.2
theorem night_both (hd : 12 ≤ d) (h : Bo T n i τ σ ρ) (hw : τ.1 = 1 ∧ wnum τ.2.2.1 = some 6) (D : Dra d KL TL HL nh nt σ ρ) : LnOk T n d i σ ρ (mX4_readNight 1 0 d σ) ((mX12_told 233 (474214787188 : Int64) (1 : Int32) (9 : Int32) (sI ρ 233 56 (b2i true))).bind fun r => some (sI r.2 233 50 r.1)) := by
  obtain ⟨⟨n1, n2, n3⟩, nu, re⟩ := id D
  obtain ⟨v0, v1, v2, v3, v4, v5, v6, -⟩ := rw6_vals
  generalize hB : sI ρ 233 56 (b2i true) = B
  have B0 : ∀ e j, ¬ (e = 233 ∧ j = 56) → B.1 e j = ρ.1 e j := fun e j w => by rw [← hB, sI_get, if_neg w]
  have B2 : B.2 = ρ.2 := by rw [← hB]; rfl
  have hB' : Bo T n i τ σ B := h.fr (fun _ _ _ => rfl) (fun _ => rfl) (fun a k w => B0 a k (by omega)) (by rw [B2])
  obtain ⟨τ1, R1, a1, a2, a3, a4, a5⟩ := next_bo hB' (stop_1 hw.1)
  obtain ⟨b, A, b1, b2, b3⟩ := told_num a3 (lo := 1) (hi := 9) (by omega) (by omega)
  have b1' : mX4_readNumber 1 (1 : Int32) (9 : Int32) (sI σ 3 6 (nI (i + 1))) = some (b, A) := b1
  unfold mX4_readNight mX12_told mX12_want
  rw [if_pos (show (0 : Int32) ≤ 0 by decide), show 1 + 2 = 3 from rfl, a1, obs_eq, b1', obs_eq, hB'.2.2, if_pos (show (0 : Int32) ≤ 0 by decide), ← v6, r_isWord hB'.2.1 (by omega), obs_eq, decide_eq_true hw, if_pos rfl, a2, obs_eq, obs_eq]
  rcases b3 with ⟨rfl, v, τ2, R2, w1, w2, -, -, w3, -, w4, w5, w6, w7⟩ | ⟨rfl, x, R2, w5, w6, w7⟩
  · have w5' : mX12_toldNumber 233 (1 : Int32) (9 : Int32) R1 = some (nI v, R2) := w5
    generalize hC : sI A 3 6 (nI (i + 1 + 1)) = C at w4 w7
    have C9 : C.1 1 9 = nI v := by rw [← hC, sI_get, if_neg (by omega)]; exact w3
    have C0 : ∀ e j, ¬ (e = 3 ∧ j = 6) → C.1 e j = A.1 e j := fun e j w => by rw [← hC, sI_get, if_neg w]
    have C2 : C.2 = σ.2 := by rw [← hC, sI_2, b2.2, a4.2]
    rw [if_pos rfl, w4, obs_eq, C9, w5', obs_eq, obs_eq, bnd_eq]
    generalize hE : sI C d 0 (nI v) = E
    generalize hQ : sI R2 233 50 (nI v) = Q
    have E0 : ∀ e j, ¬ (e = d ∧ j = 0) → E.1 e j = C.1 e j := fun e j w => by rw [← hE, sI_get, if_neg w]
    have Q0 : ∀ e j, ¬ (e = 233 ∧ j = 50) → Q.1 e j = R2.1 e j := fun e j w => by rw [← hQ, sI_get, if_neg w]
    have E2 : E.2 = σ.2 := by rw [← hE, sI_2, C2]
    have Q2 : ∀ j, Q.2 235 j = ρ.2 235 j := fun j => by rw [← hQ, sI_2, w6.2 _ _ (by omega), a5.2 _ _ (by omega), B2]
    have EC : ∀ e j, ¬ ((e = 3 ∧ 6 ≤ j ∧ j ≤ 8) ∨ (e = 1 ∧ j = 9) ∨ (e = d ∧ j = 0)) → E.1 e j = σ.1 e j := fun e j w => by rw [E0 e j (by omega), C0 e j (by omega), b2.1 e j (by omega), a4.1 e j (by omega)]
    have QC : ∀ e j, ¬ (e = 233 ∧ ((2 ≤ j ∧ j ≤ 8) ∨ j = 50 ∨ j = 56)) → Q.1 e j = ρ.1 e j := fun e j w => by rw [Q0 e j (by omega), w6.1 e j (by omega), a5.1 e j (by omega), B0 e j (by omega)]
    obtain ⟨r1, r2, r3, r4, r5, r6, r7, r8, r9⟩ := re
    refine ⟨true, E, Q, rfl, rfl, fun e j w => EC e j (by omega), fun e j w => QC e j (by omega), fun _ => ⟨i + 1 + 1, τ2, KL, TL, HL, nh, nt, by omega, w7.fr (fun a k w => E0 a k (by omega)) (fun k => by rw [← hE, sI_2]) (fun a k w => Q0 a k (by omega)) (by rw [← hQ, sI_2]), ⟨n1.fr (fun j => by rw [E2]) (fun j _ _ => Q2 j), n2.fr (fun j => by rw [E2]) (fun j _ _ => Q2 j), n3.fr (fun j => by rw [E2]) (fun j _ _ => Q2 j)⟩, nu.fr (fun e j w => by unfold FCnum at w; exact EC e j (by omega)) (fun e j w => by unfold FRnum at w; exact QC e j (by omega)), r1.fr (fun j _ => EC _ _ (by omega)) (fun j _ => QC _ _ (by omega)), ⟨v, w1, w2, by rw [← hE, sI_get, if_pos ⟨rfl, rfl⟩], by rw [← hQ, sI_get, if_pos ⟨rfl, rfl⟩]⟩, r3.fr (fun e j _ _ _ => EC _ _ (by omega)) (fun e j _ _ _ => QC _ _ (by omega)), r4.fr (fun e j _ _ => EC _ _ (by omega)) (fun e j _ _ => QC _ _ (by omega)), r5.fr (fun e j _ _ _ => EC _ _ (by omega)) (fun e j _ _ _ => QC _ _ (by omega)), r6.fr (fun j => EC _ _ (by omega)) (fun j => QC _ _ (by omega)), r7.fr (EC _ _ (by omega)) (QC _ _ (by omega)), r8.fr (EC _ _ (by omega)) (fun j => EC _ _ (by omega)) (fun j _ => QC _ _ (by omega)), r9.fr (fun e j _ _ => EC _ _ (by omega)) (fun e j w => QC _ _ (by omega))⟩, fun w => by cases w⟩
  · have w5' : mX12_toldNumber 233 (1 : Int32) (9 : Int32) R1 = some (x, R2) := w5
    rw [if_neg (by simp), w5', obs_eq, obs_eq]
    refine ⟨false, A, _, rfl, rfl, (a4.tr b2).cd, fun e j w => by rw [sI_get, if_neg (by omega), w6.1 e j (by omega), a5.1 e j (by omega), B0 e j (by omega)], fun w => (by cases w), fun _ => w7.fr (fun _ _ => rfl) (fun k w => by rw [sI_get, if_neg (by omega)])⟩
theorem law_line (hd : 12 ≤ d) (h : Bo T n i τ σ ρ) (hs : stops τ = false) (D : Dra d KL TL HL nh nt σ ρ) (h58 : ρ.1 233 58 = 0) : LnOk T n d i σ ρ (mX4_readLaw 1 d σ) (mX12_readLaw 233 (sI ρ 233 58 (b2i true))) := by
  obtain ⟨⟨n1, n2, n3⟩, nu, r1, r2, r3, r4, r5, r6, r7, r8, r9⟩ := id D
  generalize hB : sI ρ 233 58 (b2i true) = B
  have B0 : ∀ e j, ¬ (e = 233 ∧ j = 58) → B.1 e j = ρ.1 e j := fun e j w => by rw [← hB, sI_get, if_neg w]
  have B58 : B.1 233 58 = 1 := by rw [← hB, sI_get, if_pos ⟨rfl, rfl⟩]; rfl
  have B2 : B.2 = ρ.2 := by rw [← hB]; rfl
  have hB' : Bo T n i τ σ B := h.fr (fun _ _ _ => rfl) (fun _ => rfl) (fun a k w => B0 a k (by omega)) (by rw [B2])
  obtain ⟨l1, l2, l3, l4⟩ : ρ.1 233 58 = 0 ∧ σ.1 (d + 11) 4 = 0 ∧ σ.1 (d + 11) 5 = 0 ∧ ρ.1 233 22 = 0 := by
    rcases r9 with w | w
    · exact w
    · rw [h58] at w; exact absurd w.1 (by decide)
  obtain ⟨b, E, Q, a1, a2, a3, a4, a5, a6⟩ := law_both hd hB' hs l2 l3 (by rw [B0 _ _ (by omega)]; exact l4)
  rw [a1, a2]
  refine ⟨b, E, Q, rfl, rfl, a3.cd, fun e j w => by rw [a4.1 e j (by omega), B0 e j (by omega)], fun w => ?_, a6⟩
  obtain ⟨i', τ', lw, u, c1, c2, c3, c4, c5, c6, c7, c8⟩ := a5 w
  have EC : ∀ e j, ¬ ((e = 3 ∧ 6 ≤ j ∧ j ≤ 8) ∨ (d + 11 ≤ e ∧ e ≤ d + 13)) → E.1 e j = σ.1 e j := fun e j w => a3.1 e j (by omega)
  have QC : ∀ e j, ¬ ((e = 233 ∧ ((2 ≤ j ∧ j ≤ 8) ∨ j = 19 ∨ j = 21 ∨ j = 22 ∨ j = 24 ∨ j = 25 ∨ j = 58)) ∨ e = 237 ∨ e = 238 ∨ e = 241) → Q.1 e j = ρ.1 e j := fun e j w => by rw [a4.1 e j (by omega), B0 e j (by omega)]
  have Q2 : ∀ j, Q.2 235 j = ρ.2 235 j := fun j => by rw [a4.2 _ _ (by omega), B2]
  have Q58 : Q.1 233 58 = 1 := by rw [a4.1 _ _ (by omega)]; exact B58
  exact ⟨i', τ', KL, TL, HL, nh, nt, c1, c2, ⟨n1.fr (fun j => by rw [a3.2]) (fun j _ _ => Q2 j), n2.fr (fun j => by rw [a3.2]) (fun j _ _ => Q2 j), n3.fr (fun j => by rw [a3.2]) (fun j _ _ => Q2 j)⟩, nu.fr (fun e j w => by unfold FCnum at w; exact EC e j (by omega)) (fun e j w => by unfold FRnum at w; exact QC e j (by omega)), r1.fr (fun j _ => EC _ _ (by omega)) (fun j _ => QC _ _ (by omega)), r2.fr (EC _ _ (by omega)) (QC _ _ (by omega)), r3.fr (fun e j _ _ _ => EC _ _ (by omega)) (fun e j _ _ _ => QC _ _ (by omega)), r4.fr (fun e j _ _ => EC _ _ (by omega)) (fun e j _ _ => QC _ _ (by omega)), r5.fr (fun e j _ _ _ => EC _ _ (by omega)) (fun e j _ _ _ => QC _ _ (by omega)), r6.fr (fun j => EC _ _ (by omega)) (fun j => QC _ _ (by omega)), r7.fr (EC _ _ (by omega)) (QC _ _ (by omega)), r8.fr (EC _ _ (by omega)) (fun j => EC _ _ (by omega)) (fun j _ => QC _ _ (by omega)), Or.inr ⟨Q58, lw, u, c3, c4, c5, c6, c7, c8⟩⟩
end LINES
