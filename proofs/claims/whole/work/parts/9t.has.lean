/-! things that a holder has, both sides -/
section HAS
variable {σ σ' ρ ρ' : St_} {n i d N nh nt p : Nat} {T : Nat → Nat} {τ : Tkn} {KL TL HL : List (List Nat)}
theorem hcode_nm {h : Nat} (hh : h < 9) : ¬ hcode h = -1 := by
  unfold hcode
  by_cases q : h < 5
  · rw [if_pos q]; exact nI_nm1 (by omega)
  · rw [if_neg q]; exact nI_nm1 (by omega)
theorem hcode_in {h g : Nat} (hh : h < 9) (hg : g < 9) (e : hcode h = hcode g) : h = g := by
  have : ∀ a b : Fin 9, hcode a.1 = hcode b.1 → a.1 = b.1 := by decide
  exact this ⟨h, hh⟩ ⟨g, hg⟩ e
theorem or_bit {m j x : Nat} : (m ||| 2 ^ j).testBit x = true ↔ (m.testBit x = true ∨ x = j) := by
  rw [Nat.testBit_or, Nat.testBit_two_pow, Bool.or_eq_true, decide_eq_true_eq]
  constructor
  · rintro (w | w)
    · exact Or.inl w
    · exact Or.inr w.symm
  · rintro (w | w)
    · exact Or.inl w
    · exact Or.inr w.symm
theorem or_lt {m j N : Nat} (h1 : m < 2 ^ N) (h2 : j < N) : m ||| 2 ^ j < 2 ^ N := Nat.or_lt_two_pow h1 (Nat.pow_lt_pow_right (by omega) h2)
/-- one THING more is there -/
theorem Dwh.put {pm m j : Nat} (hp : p < 9) (hj : j < N) (H : Dwh d N nh nt σ ρ) (hpm : σ.1 1 8 = nI pm) (hpl : pm < 2 ^ 31) (hN : N ≤ 10) (hm : σ.1 (d + 10) p = nI m) (hml : m < 2 ^ 31) (hfree : ρ.1 247 j = -1) (hal : (∃ h, h < nh ∧ hcode p = nI h) ∨ ∃ t, t < nt ∧ hcode p = nI (10 + t)) (e1 : σ'.1 1 8 = nI (pm ||| 2 ^ j)) (e2 : σ'.1 (d + 10) p = nI (m ||| 2 ^ j)) (e3 : ∀ h, ¬ h = p → σ'.1 (d + 10) h = σ.1 (d + 10) h) (e4 : ρ'.1 247 j = hcode p) (e5 : ∀ x, ¬ x = j → ρ'.1 247 x = ρ.1 247 x) : Dwh d N nh nt σ' ρ' := by
  obtain ⟨⟨pm', p1, p2, p3⟩, h2, h3⟩ := H
  have P2 : 2 ^ N ≤ 2 ^ 10 := Nat.pow_le_pow_right (by omega) hN
  have epm : pm' = pm := (nI_eq (by omega) hpl).mp (by rw [← p2, hpm])
  subst epm
  refine ⟨⟨pm' ||| 2 ^ j, or_lt p1 hj, e1, fun x hx => ?_⟩, fun h hh => ?_, fun x hx => ?_⟩
  · rw [or_bit]
    by_cases q : x = j
    · rw [q, e4]
      exact ⟨fun _ => hcode_nm hp, fun _ => Or.inr rfl⟩
    · rw [e5 x q, ← p3 x hx]
      exact ⟨fun w => w.elim id (fun w => absurd w q), Or.inl⟩
  · obtain ⟨m', m1, m2, m3⟩ := h2 h hh
    by_cases qh : h = p
    · subst qh
      have em : m' = m := (nI_eq (by omega) hml).mp (by rw [← m2, hm])
      subst em
      refine ⟨m' ||| 2 ^ j, or_lt m1 hj, e2, fun x hx => ?_⟩
      rw [or_bit]
      by_cases q : x = j
      · rw [q, e4]
        exact ⟨fun _ => rfl, fun _ => Or.inr rfl⟩
      · rw [e5 x q, ← m3 x hx]
        exact ⟨fun w => w.elim id (fun w => absurd w q), Or.inl⟩
    · refine ⟨m', m1, by rw [e3 h qh]; exact m2, fun x hx => ?_⟩
      by_cases q : x = j
      · rw [q, e4, m3 j hj, hfree]
        exact ⟨fun w => absurd w.symm (hcode_nm hh), fun w => absurd (hcode_in hp hh w).symm qh⟩
      · rw [e5 x q]; exact m3 x hx
  · by_cases q : x = j
    · rw [q, e4]; exact Or.inr hal
    · rw [e5 x q]; exact h3 x hx
def CS_ (d : Nat) (σ σ' : St_) : Prop := (∀ e j, ¬ ((e = 3 ∧ 6 ≤ j ∧ j ≤ 8) ∨ (e = 1 ∧ (j = 8 ∨ j = 9)) ∨ e = d + 10) → σ'.1 e j = σ.1 e j) ∧ σ'.2 = σ.2
def RS_ (ρ ρ' : St_) : Prop := (∀ e j, ¬ ((e = 233 ∧ 2 ≤ j ∧ j ≤ 8) ∨ e = 247) → ρ'.1 e j = ρ.1 e j) ∧ ∀ e j, ¬ (e = 233 ∧ j = 9) → ρ'.2 e j = ρ.2 e j
theorem CS_.tr {σ'' : St_} (a : CS_ d σ σ') (b : CS_ d σ' σ'') : CS_ d σ σ'' := ⟨fun e j q => by rw [b.1 e j q, a.1 e j q], by rw [b.2, a.2]⟩
theorem RS_.tr {ρ'' : St_} (a : RS_ ρ ρ') (b : RS_ ρ' ρ'') : RS_ ρ ρ'' := ⟨fun e j q => by rw [b.1 e j q, a.1 e j q], fun e j q => by rw [b.2 e j q, a.2 e j q]⟩
theorem CF.cs (h : CF σ σ') : CS_ d σ σ' := ⟨fun e j q => h.1 e j (by omega), h.2⟩
theorem RF.rs (h : RF ρ ρ') : RS_ ρ ρ' := ⟨fun e j q => h.1 e j (by omega), h.2⟩
theorem has_f (h : ¬ ρ.1 233 2 ≤ 0) (x : Int32) : mX12_readHas 233 x ρ = some ρ := by
  unfold mX12_readHas FU
  unfold mX12_readHas_L0
  rw [if_neg (fltw h)]
theorem stock_loop (hd : 12 ≤ d) (hp : p < 9) (hal : (∃ h, h < nh ∧ hcode p = nI h) ∨ ∃ t, t < nt ∧ hcode p = nI (10 + t)) {k59 : St_ → Option (Bool × St_)} (hk : ∀ s, k59 s = (mX10_fail 3 3 s).bind fun r => some (r.1, r.2)) : ∀ (r f x3 i : Nat) (τ : Tkn) (σ ρ : St_) (m : Nat), 1701 - i ≤ r → r < f → r < m → x3 < i → Bo T n i τ σ ρ → Dnm 9 6 10 TL σ ρ → σ.1 d 2 = nI TL.length → ρ.1 233 46 = nI TL.length → Dwh d TL.length nh nt σ ρ → ∃ b σ' ρ', mX4_readStock_L2 1 d (nI p) k59 f (nI x3) σ = some (b, σ') ∧ mX12_readHas_L0 233 (hcode p) m ρ = some ρ' ∧ CS_ d σ σ' ∧ RS_ ρ ρ' ∧ (b = true → ∃ i' τ', i ≤ i' ∧ Bo T n i' τ' σ' ρ' ∧ Dwh d TL.length nh nt σ' ρ') ∧ (b = false → Fau σ' ρ')
  | 0, f, x3, i, τ, σ, ρ, m, hr, hf, hm, hx, h, hN, hc, hrn, hW => by
    have := h.1.2.1
    omega
  | r + 1, f, x3, i, τ, σ, ρ, m, hr, hf, hm, hx, h, hN, hc, hrn, hW => by
    have hi := h.1.2.1
    obtain ⟨f, rfl, hf⟩ := fu_suc hf
    obtain ⟨m, rfl, hm⟩ := fu_suc hm
    obtain ⟨v0, v1, v2, v3, v4, v5, v6, v7, v8, v9, v10, v11, v12, -⟩ := rw6_vals
    have sw : mX10_isWord 3 (12 : Int32) σ = some (decide (τ.1 = 1 ∧ wnum τ.2.2.1 = some 12)) := c_isWord (w := 12) h.1 (by omega)
    have rw' : mX12_isWord 233 (6840691 : Int64) ρ = some (decide (τ.1 = 1 ∧ wnum τ.2.2.1 = some 12)) := by rw [← v12]; exact r_isWord (w := 12) h.2.1 (by omega)
    conv in mX4_readStock_L2 _ _ _ _ _ _ _ => unfold mX4_readStock_L2
    conv in mX12_readHas_L0 _ _ _ _ => unfold mX12_readHas_L0
    simp only [bnd_eq]
    rw [if_neg (show ¬ (1700 : Int32) ≤ nI x3 from nI_ge (b := 1700) (by omega) (by omega)), show 1 + 2 = 3 from rfl, sw, obs_eq, if_pos h.2.2, rw', obs_eq]
    by_cases q : τ.1 = 1 ∧ wnum τ.2.2.1 = some 12
    · obtain ⟨τ1, R1, a1, a2, a3, a4, a5⟩ := next_bo h (stop_1 q.1)
      generalize hA : sI σ 3 6 (nI (i + 1)) = A at *
      have hNA : Dnm 9 6 10 TL A R1 := hN.fr (fun j => by rw [a4.2]) (fun j _ _ => a5.2 _ _ (by omega))
      have hcA : A.1 d 2 = nI TL.length := by rw [a4.1 _ _ (by omega)]; exact hc
      have hrR : R1.1 233 46 = nI TL.length := by rw [a5.1 _ _ (by omega)]; exact hrn
      have hWA : Dwh d TL.length nh nt A R1 := hW.fr (a4.1 _ _ (by omega)) (fun j => a4.1 _ _ (by omega)) (fun j _ => a5.1 _ _ (by omega))
      have hi1 := a3.1.2.1
      obtain ⟨b, C, x, R2, b1, b2, b3, b4, b5, b6⟩ := old_name a3 (a := 9) (an := 10) (f := 6) hNA.2.1 hNA.2.2.1 hNA.1 hNA.2.2.2 (by omega)
      have b2' : mX12_oldName 233 (6 : Int32) (nI TL.length) R1 = some (x, R2) := b2
      rw [decide_eq_true q, if_pos rfl, if_pos rfl, a1, obs_eq, hcA, show 1 + 8 = 9 from rfl, b1, obs_eq, a2, obs_eq, hrR, b2', obs_eq]
      cases b
      · have fa := b6 rfl
        rw [if_neg (by simp), if_neg (fltw fa.2.2), if_neg fa.2.2]
        exact ⟨false, C, R2, rfl, rfl, (a4.tr b3).cs, (a5.tr b4).rs, fun w => (by cases w), fun _ => fa⟩
      · obtain ⟨j, j1, rfl, j2, j3, rfl, j4⟩ := b5 rfl
        have hN10 := hNA.2.2.2
        have P2 : 2 ^ TL.length ≤ 2 ^ 10 := Nat.pow_le_pow_right (by omega) hN10
        have hWC : Dwh d TL.length nh nt C R2 := hWA.fr (b3.1 _ _ (by omega)) (fun j => b3.1 _ _ (by omega)) (fun j _ => rfl)
        obtain ⟨⟨pm, p1, p2, p3⟩, h2, -⟩ := id hWC
        obtain ⟨mm, m1, m2, m3⟩ := h2 p hp
        have tbp : ((nI pm >>> (nI j &&& 31)) &&& (1 : Int32)) = if pm.testBit j = true then 1 else 0 := by
          rw [tb_get _ (by omega), tb_nI, decide_eq_true (show j < 32 by omega), Bool.true_and]
        rw [if_pos rfl, j2, p2, tbp, if_pos j4.2.2, binn (show j < 10 by omega) (by omega), if_pos rfl, pn_cl (show j < 2 ^ 31 by omega), show 233 + 14 = 247 from rfl]
        by_cases qp : R2.1 247 j = -1
        · have nb' : ¬ pm.testBit j = true := fun w => (p3 j j1).mp w qp
          generalize hE : sI C 1 8 (nI (pm ||| 2 ^ j)) = E
          have E9 : E.1 1 9 = nI j := by rw [← hE, sI_get, if_neg (by omega)]; exact j2
          have E10 : E.1 (d + 10) p = nI mm := by rw [← hE, sI_get, if_neg (by omega)]; exact m2
          generalize hG : sI E (d + 10) p (nI (mm ||| 2 ^ j)) = G
          generalize hQ : sI R2 247 j (hcode p) = Q
          have G0 : ∀ e k, ¬ ((e = 1 ∧ k = 8) ∨ e = d + 10) → G.1 e k = C.1 e k := fun e k w => by rw [← hG, sI_get, if_neg (by omega), ← hE, sI_get, if_neg (by omega)]
          have Q0 : ∀ e k, ¬ (e = 247 ∧ k = j) → Q.1 e k = R2.1 e k := fun e k w => by rw [← hQ, sI_get, if_neg w]
          have G2 : G.2 = C.2 := by rw [← hG, sI_2, ← hE, sI_2]
          have Q2 : Q.2 = R2.2 := by rw [← hQ]; rfl
          have bo : Bo T n (i + 1) τ1 G Q := j4.fr (fun a k w => G0 a k (by omega)) (fun k => by rw [G2]) (fun a k w => Q0 a k (by omega)) (by rw [Q2])
          have hWG : Dwh d TL.length nh nt G Q := hWC.put hp j1 p2 (by omega) hN10 m2 (by omega) qp hal (by rw [← hG, sI_get, if_neg (by omega), ← hE, sI_get, if_pos ⟨rfl, rfl⟩]) (by rw [← hG, sI_get, if_pos ⟨rfl, rfl⟩]) (fun h' w => by rw [← hG, sI_get, if_neg (by omega), ← hE, sI_get, if_neg (by omega)]) (by rw [← hQ, sI_get, if_pos ⟨rfl, rfl⟩]) (fun y w => Q0 _ _ (by omega))
          obtain ⟨τ2, R3, c1, c2, c3, c4, c5⟩ := next_bo bo j3
          generalize hA2 : sI G 3 6 (nI (i + 1 + 1)) = A2 at *
          rw [if_neg nb', if_pos rfl, shl_nI (by omega), nI_or, hE, E9, shl_nI (by omega), binn hp (by omega), if_pos rfl, if_pos rfl, pn_cl (by omega), E10, nI_or, hG, c1, obs_eq, nI_1, if_pos qp, if_pos (show R2.1 233 2 ≤ 0 by rw [j4.2.2]; decide), if_pos rfl, c2, obs_eq]
          obtain ⟨b, σ', ρ', e1, e2, e3, e4, e5, e6⟩ := stock_loop hd hp hal hk r f (x3 + 1) (i + 1 + 1) τ2 A2 R3 m (by omega) (by omega) (by omega) (by omega) c3 (hNA.fr (fun j => by rw [c4.2, G2, b3.2]) (fun j _ _ => by rw [c5.2 _ _ (by omega), Q2])) (by rw [c4.1 _ _ (by omega), G0 _ _ (by omega), b3.1 _ _ (by omega)]; exact hcA) (by rw [c5.1 _ _ (by omega), Q0 _ _ (by omega)]; exact hrR) (hWG.fr (c4.1 _ _ (by omega)) (fun j => c4.1 _ _ (by omega)) (fun j _ => c5.1 _ _ (by omega)))
          rw [e1, e2]
          have sA : CS_ d σ A2 := (((a4.tr b3).cs).tr ⟨fun e k w => G0 e k (by omega), G2⟩).tr c4.cs
          have sR : RS_ ρ R3 := ((a5.rs).tr ⟨fun e k w => Q0 e k (by omega), fun e k _ => by rw [Q2]⟩).tr c5.rs
          refine ⟨b, σ', ρ', rfl, rfl, sA.tr e3, sR.tr e4, fun w => ?_, e6⟩
          obtain ⟨i', τ', g1, g2, g3⟩ := e5 w
          exact ⟨i', τ', by omega, g2, g3⟩
        · have q247 : ¬ R2.1 247 j = -1 := qp
          have nb' : pm.testBit j = true := (p3 j j1).mpr q247
          have n3 : ¬ τ1.1 = 3 := fun w => by unfold stops at j3; rw [decide_eq_true w, Bool.or_true] at j3; cases j3
          obtain ⟨f1, f2, f3⟩ := fau_of (σ := C) (ρ := R2) (x := 3) (y := 3) rfl (by decide) (p := τ1.2.1)
          rw [if_pos nb', if_neg (show ¬ (1 : Int32) = 0 by decide), hk, c_fail j4.1, obs_eq, if_neg q247, r_wrong j4.2.1 j4.2.2, obs_eq, if_neg n3, if_neg f1.2.2]
          exact ⟨false, _, _, rfl, rfl, ((a4.tr b3).tr f2).cs, ((a5.tr b4).tr f3).rs, fun w => (by cases w), fun _ => f1⟩
    · rw [decide_eq_false q, if_neg (by simp), if_neg (by simp)]
      exact ⟨true, σ, ρ, rfl, rfl, CF.rfl'.cs, RF.rfl'.rs, fun _ => ⟨i, τ, Nat.le_refl _, h, hW⟩, fun w => by cases w⟩
end HAS
