/-! city, both sides -/
section CITY2
variable {σ σ' ρ ρ' : St_} {n i c d nh nt x : Nat} {T : Nat → Nat} {τ : Tkn} {KL TL HL : List (List Nat)}
/-- the class' end of city, where all lines were read -/
theorem class_tail (hd : 12 ≤ d) (hd2 : d + 15 < 44) {A S1 : St_} (hs : mX10_split 3 σ = some S1) (he : mX4_read 1 d S1 = ((mX1_settle d A).bind fun s => some (true, s))) : ∃ Z, mX11_city 0 c d σ = some (Z.1 d 2, Z, true) ∧ (∀ j, j < 90 → Z.1 (d + 8) j = if A.1 (d + 8) j = -1 then A.1 (d + 3) (j % 10) else A.1 (d + 8) j) ∧ (∀ j, j < 50 → Z.1 (d + 9) j = Z.1 (d + 8) j) ∧ Z.1 3 1 = 0 ∧ ((∀ j, j < 9 → Z.1 45 j = A.1 (d + 10) j) ∧ (∀ j, j < 4 → Z.1 46 j = 0) ∧ Z.1 44 2 = 0 ∧ Z.1 44 3 = 0 ∧ Z.1 44 4 = 0) ∧ ((∀ j, j < 9 → Z.1 50 j = A.1 (d + 10) j) ∧ (∀ j, j < 4 → Z.1 51 j = 0) ∧ Z.1 49 2 = 0 ∧ Z.1 49 3 = 0 ∧ Z.1 49 4 = 0) ∧ (Z.1 47 1 = 0 ∧ Z.1 47 2 = 0 ∧ Z.1 47 3 = 0 ∧ Z.1 174 7 = 0 ∧ Z.1 0 9 = 0 ∧ Z.1 0 7 = 0) ∧ ∀ e j, ¬ (e = d + 8 ∨ e = d + 9 ∨ (e = 3 ∧ j = 1) ∨ (44 ≤ e ∧ e ≤ 46) ∨ (e = 47 ∧ 1 ≤ j ∧ j ≤ 3) ∨ (49 ≤ e ∧ e < 52) ∨ (e = 174 ∧ j = 7) ∨ (e = 0 ∧ (j = 7 ∨ j = 9))) → Z.1 e j = A.1 e j := by
  obtain ⟨A1, a1, a2, a3, a4⟩ := settle_ok d A
  generalize hA2 : sI A1 3 1 0 = A2
  have A20 : ∀ e j, ¬ (e = 3 ∧ j = 1) → A2.1 e j = A1.1 e j := fun e j w => by rw [← hA2, sI_get, if_neg w]
  obtain ⟨A3, b1, b2, b3, b4, b5, b6, b7⟩ := begin_ok d hd hd2 A2
  obtain ⟨A4, c1, c2, c3, c4, c5, c6, c7, c8⟩ := c_begin A3
  generalize hZ : sI (sI (sI A4 174 7 0) 0 9 0) 0 7 0 = Z
  have Z0 : ∀ e j, ¬ ((e = 174 ∧ j = 7) ∨ (e = 0 ∧ (j = 7 ∨ j = 9))) → Z.1 e j = A4.1 e j := fun e j w => by rw [← hZ, sI_get, if_neg (by omega), sI_get, if_neg (by omega), sI_get, if_neg (by omega)]
  refine ⟨Z, ?_, fun j hj => ?_, fun j hj => ?_, ?_, ⟨fun j hj => ?_, fun j hj => ?_, ?_, ?_, ?_⟩, ⟨fun j hj => ?_, fun j hj => ?_, ?_, ?_, ?_⟩, ⟨?_, ?_, ?_, ?_, ?_, ?_⟩, fun e j w => ?_⟩
  · unfold mX11_city
    simp only [bnd_eq]
    rw [show 0 + 3 = 3 from rfl, hs, obs_eq, show 0 + 1 = 1 from rfl, he, a1, obs_eq, obs_eq, if_pos rfl, hA2, show 0 + 44 = 44 from rfl, b1, obs_eq, show 0 + 47 = 47 from rfl, c1, obs_eq, show 0 + 174 = 174 from rfl, hZ]
  · rw [Z0 _ _ (by omega), c8 _ _ (by omega) (by omega), b7 _ _ (by omega), A20 _ _ (by omega)]; exact a2 j hj
  · rw [Z0 _ _ (by omega), c8 _ _ (by omega) (by omega), b7 _ _ (by omega), A20 _ _ (by omega), Z0 _ _ (by omega), c8 _ _ (by omega) (by omega), b7 _ _ (by omega), A20 _ _ (by omega)]; exact a3 j hj
  · rw [Z0 _ _ (by omega), c8 _ _ (by omega) (by omega), b7 _ _ (by omega), ← hA2, sI_get, if_pos ⟨rfl, rfl⟩]
  · rw [Z0 _ _ (by omega), c8 _ _ (by omega) (by omega), b2 j hj, A20 _ _ (by omega), a4 _ _ (by omega)]
  · rw [Z0 _ _ (by omega), c8 _ _ (by omega) (by omega)]; exact b3 j hj
  · rw [Z0 _ _ (by omega), c8 _ _ (by omega) (by omega)]; exact b4
  · rw [Z0 _ _ (by omega), c8 _ _ (by omega) (by omega)]; exact b5
  · rw [Z0 _ _ (by omega), c8 _ _ (by omega) (by omega)]; exact b6
  · rw [Z0 _ _ (by omega), c5 j hj, b2 j hj, A20 _ _ (by omega), a4 _ _ (by omega)]
  · rw [Z0 _ _ (by omega), c6 j hj]; exact b3 j hj
  · rw [Z0 _ _ (by omega), c7 2 (by omega) (by omega)]; exact b4
  · rw [Z0 _ _ (by omega), c7 3 (by omega) (by omega)]; exact b5
  · rw [Z0 _ _ (by omega), c7 4 (by omega) (by omega)]; exact b6
  · rw [Z0 _ _ (by omega)]; exact c2
  · rw [Z0 _ _ (by omega)]; exact c3
  · rw [Z0 _ _ (by omega)]; exact c4
  · rw [← hZ]; simp [sI_get]
  · rw [← hZ]; simp [sI_get]
  · rw [← hZ]; simp [sI_get]
  · rw [Z0 _ _ (by omega), c8 _ _ (by omega) (by omega), b7 _ _ (by omega), A20 _ _ (by omega), a4 _ _ (by omega)]
/-- the class' end of city, where a FAULT was told -/
theorem class_fault {A S1 : St_} (hs : mX10_split 3 σ = some S1) (he : mX4_read 1 d S1 = some (false, A)) : mX11_city 0 c d σ = some (-1, sI A 3 1 0, false) := by
  unfold mX11_city
  simp only [bnd_eq]
  rw [show 0 + 3 = 3 from rfl, hs, obs_eq, show 0 + 1 = 1 from rfl, he, obs_eq, if_neg (by simp)]
theorem city_IS {W R A : St_} {s N : Nat} (hN : N ≤ 10) {Rr : Nat} (hR : 1 ≤ Rr) (wh : Dwh d N nh nt A R) (h262 : ∀ j, j < 10 → W.1 262 j = if j < N then R.1 247 j else -1) (h262b : ∀ j, 10 ≤ j → j < 17 → W.1 262 j = 0) (h1 : ∀ j, j < 9 → W.1 (s + 1) j = A.1 (d + 10) j) (h2 : ∀ j, j < 4 → W.1 (s + 2) j = 0) (h3 : W.1 s 2 = 0) (h4 : W.1 s 3 = 0) (h5 : W.1 s 4 = 0) : IS N nh nt Rr s 262 0 W := by
  obtain ⟨-, w2, w3⟩ := wh
  have g : ∀ x, x < N → W.1 262 (0 + x) = R.1 247 x := fun x hx => by rw [Nat.zero_add, h262 x (by omega), if_pos hx]
  refine ⟨fun h hh => ?_, fun x hx => by rw [g x hx]; exact w3 x hx, fun x h1 h2 => by rw [Nat.zero_add, h262 x h2, if_neg (by omega)], ⟨0, by omega, h3, h262b 10 (by omega) (by omega)⟩, ⟨0, by omega, h4, h262b 11 (by omega) (by omega)⟩, ⟨0, Nat.two_pow_pos nt, h5, h262b 12 (by omega) (by omega)⟩, fun t ht => by rw [h2 t ht, h262b (0 + 13 + t) (by omega) (by omega)]⟩
  obtain ⟨m, m1, m2, m3⟩ := w2 h hh
  exact ⟨m, m1, by rw [h1 h hh]; exact m2, fun x hx => by rw [g x hx]; exact m3 x hx⟩
set_option maxHeartbeats 4000000 in
theorem ok_2 : Ok_2 INV := by
  intro sw σ hI
  obtain ⟨htape, hfault, htime, hlaid, hother, hnums, harr, hhou, hthi, hval, hsaid, hlaw, hnow, hacts, hbox, hrep⟩ := id hI
  have hcd : (twO sw = 12 ∧ drO sw = 28) ∨ (twO sw = 28 ∧ drO sw = 12) := by cases sw <;> simp [twO, drO]
  have hsw : twO (xor sw true) = drO sw := by cases sw <;> rfl
  have hsw0 : xor sw false = sw := by cases sw <;> rfl
  generalize htw : twO sw = c at *
  generalize drO sw = d at *
  have hd : 12 ≤ d := by omega
  have hd2 : d + 15 < 44 := by omega
  obtain ⟨n, tn, t1, t2, t3⟩ := id htape
  have hTi : ∀ i, i < n → σ.1 4 i = nI (σ.1 4 i).toNatClampNeg := fun i hi => pn_of (t3 i hi).2.1
  have hT : TapC (fun i => (σ.1 4 i).toNatClampNeg) n σ := ⟨tn, fun i hi => by
    have h1 := (t3 i hi).2.2
    rw [hTi i hi, show (255 : Int32) = nI 255 from rfl, pn_le (pn_lt31 _) (by omega)] at h1
    show (σ.1 4 i).toNatClampNeg < 256
    omega, t1, fun i hi => hTi i hi⟩
  obtain ⟨S1, hs, -⟩ := c_split hT
  obtain ⟨A0, R0, -, -, cx0, -, out0⟩ := read_alw (ρ := σ) hd hT t2 (fun i hi => by rw [← (t3 i hi).1]; exact hTi i hi)
  rw [hs, obs_eq] at out0
  rcases out0 with ⟨e0, -⟩ | ⟨e0, -⟩
  · obtain ⟨Z, z0, -⟩ := class_tail (c := c) hd hd2 hs e0
    obtain ⟨Z0, zz0, -, -, -, -, -, -, zf0⟩ := class_tail (c := c) hd hd2 hs e0
    have eZ : Z0 = Z := by
      rw [zz0] at z0
      injection z0 with z0
      injection z0 with z1 z2
      injection z2
    subst eZ
    obtain ⟨A, R, r1, r2, cx, rx, out⟩ := read_alw (ρ := Z0) hd hT (by rw [zf0 _ _ (by omega), cx0 _ _ (by omega)]; exact t2) (fun i hi => by rw [zf0 _ _ (by omega), cx0 _ _ (by omega), ← (t3 i hi).1]; exact hTi i hi)
    rw [hs, obs_eq] at out
    rcases out with ⟨e1, i', τ', KL, TL, HL, nh, nt, bo, dra⟩ | ⟨e1, -⟩
    · obtain ⟨Y, y0, y1, y2, y3, ⟨y4, y5, y6, y7, y8⟩, ⟨y9, y10, y11, y12, y13⟩, ⟨y14, y15, y16, y17, y18, y19⟩, yf⟩ := class_tail (c := c) hd hd2 hs e1
      have eY : Y = Z0 := by
        rw [zz0] at y0
        injection y0 with y0
        injection y0 with z1 z2
        injection z2 with z2
        exact z2.symm
      subst eY
      obtain ⟨⟨n1, n2, n3⟩, ⟨u1, u2, u3, u4, u5, u6, u7, u8⟩, d1, d2, d3, d4, d5, d6, d7, d8, d9⟩ := dra
      have k6 := n1.2.2.2
      have t10 := n2.2.2.2
      obtain ⟨Rr, q1, q2, q3, q4⟩ := d2
      obtain ⟨l, hl, hl3, hlaw'⟩ : ∃ l, ((R.1 233 58 = 0 ∧ l = 0) ∨ (R.1 233 58 = 1 ∧ R.1 233 19 = nI l)) ∧ l ≤ 300 ∧ ((R.1 233 58 = 0 ∧ A.1 (d + 11) 4 = 0 ∧ A.1 (d + 11) 5 = 0 ∧ R.1 233 22 = 0) ∨ (R.1 233 58 = 1 ∧ ∃ lw u, lw.length = l ∧ LwC d lw A ∧ LwR lw R ∧ lwx lw 0 = some 1 ∧ A.1 (d + 11) 5 = nI u ∧ R.1 233 22 = nI u)) := by
        rcases d9 with w | ⟨w1, lw, u, w2, w3, w4, w5, w6, w7⟩
        · exact ⟨0, Or.inl ⟨w.1, rfl⟩, by omega, Or.inl w⟩
        · exact ⟨lw.length, Or.inr ⟨w1, w3.1⟩, w5, Or.inr ⟨w1, lw, u, rfl, w2, w3, w4, w6, w7⟩⟩
      obtain ⟨W, w0, ⟨m1, m2, m3, m4, m5, m6, m7, m8⟩, w1, w2, w3, w4, w5, w6, w7, ⟨w8, w9, w10, w11⟩, w12, wf⟩ := r_tail r1 bo.2.2 u2.2 t10 hl hl3
      have WC : ∀ e j, e < 233 → W.1 e j = Y.1 e j := fun e j he => by rw [wf e j (by omega), rx e j (by omega)]
      have WA : ∀ e j, e < 233 → ¬ (e = d + 8 ∨ e = d + 9 ∨ (e = 3 ∧ j = 1) ∨ (44 ≤ e ∧ e ≤ 46) ∨ (e = 47 ∧ 1 ≤ j ∧ j ≤ 3) ∨ (49 ≤ e ∧ e < 52) ∨ (e = 174 ∧ j = 7) ∨ (e = 0 ∧ (j = 7 ∨ j = 9))) → W.1 e j = A.1 e j := fun e j he w => by rw [WC e j he, yf e j w]
      have RS : ∀ e j, 233 ≤ e → ¬ ((e = 233 ∧ ((1 ≤ j ∧ j ≤ 12) ∨ j = 19 ∨ j = 21 ∨ j = 22 ∨ j = 24 ∨ j = 25 ∨ (45 ≤ j ∧ j ≤ 50) ∨ (56 ≤ j ∧ j ≤ 58))) ∨ (236 ≤ e ∧ e ≤ 238) ∨ e = 241 ∨ (244 ≤ e ∧ e ≤ 252)) → R.1 e j = σ.1 e j := fun e j he w => by rw [rx e j w, yf e j (by omega), cx e j (by omega)]
      have g51 : W.1 233 51 = nI KL.length := by rw [m1]; exact u1.2
      have g52 : W.1 233 52 = nI TL.length := by rw [m2]; exact u2.2
      have g53 : W.1 233 53 = nI nh := by rw [m3]; exact u4.2
      have g54 : W.1 233 54 = nI nt := by rw [m4]; exact u5.2
      have g55 : W.1 233 55 = nI Rr := by rw [m5]; exact q4
      have eK : nK W = KL.length := by unfold nK; rw [g51, pn_cl (by omega)]
      have eN : nN W = TL.length := by unfold nN; rw [g52, pn_cl (by omega)]
      have eH : nH W = nh := by unfold nH; rw [g53, pn_cl (by omega)]
      have eT : nT W = nt := by unfold nT; rw [g54, pn_cl (by omega)]
      have eR : nR W = Rr := by unfold nR; rw [g55, pn_cl (by omega)]
      have Yd2 : Y.1 d 2 = nI TL.length := by rw [yf _ _ (by omega)]; exact u2.1
      refine ⟨nI TL.length, Y, W, true, by rw [← Yd2]; exact zz0, w0, ?_⟩
      have isn : ∀ s, (∀ j, j < 9 → W.1 (s + 1) j = A.1 (d + 10) j) → (∀ j, j < 4 → W.1 (s + 2) j = 0) → W.1 s 2 = 0 → W.1 s 3 = 0 → W.1 s 4 = 0 → ISn W s 262 0 := fun s h1 h2 h3 h4 h5 => by
        show IS (nN W) (nH W) (nT W) (nR W) s 262 0 W
        rw [eN, eH, eT, eR]
        exact city_IS t10 q1 d8 w7 w6 h1 h2 h3 h4 h5
      unfold INV
      rw [hsw]
      refine ⟨⟨0, by omega, by rw [WC _ _ (by omega)]; exact y3, by rw [wf _ _ (by omega)]; exact r2, fun i hi => by omega⟩, ⟨?_, ?_⟩, ⟨?_, ?_, ?_⟩, ⟨0, by omega, by rw [WC _ _ (by omega)]; exact y18, w11, fun i hi => by omega⟩, ⟨?_, ?_⟩, ?_, fun x hx => ?_, fun x hx => ?_, fun x hx => ?_, fun x hx h hh => ?_, fun j hj => ?_, ?_, ⟨by omega, isn 44 (fun j hj => by rw [WC _ _ (by omega)]; exact y4 j hj) (fun j hj => by rw [WC _ _ (by omega)]; exact y5 j hj) (by rw [WC _ _ (by omega)]; exact y6) (by rw [WC _ _ (by omega)]; exact y7) (by rw [WC _ _ (by omega)]; exact y8)⟩, ⟨by omega, 0, 0, 0, by omega, by omega, by omega, by rw [WC _ _ (by omega)]; exact y14, by rw [WC _ _ (by omega)]; exact y15, by rw [WC _ _ (by omega)]; exact y16, w8, w9, fun j hj => by omega, fun j _ hj => by omega, isn 49 (fun j hj => by rw [WC _ _ (by omega)]; exact y9 j hj) (fun j hj => by rw [WC _ _ (by omega)]; exact y10 j hj) (by rw [WC _ _ (by omega)]; exact y11) (by rw [WC _ _ (by omega)]; exact y12) (by rw [WC _ _ (by omega)]; exact y13)⟩, ⟨by omega, 0, by omega, by rw [WC _ _ (by omega)]; exact y19, fun b hb => ⟨by rw [w12 b hb, Nat.zero_testBit], fun w => by rw [Nat.zero_testBit] at w; cases w⟩⟩, ⟨0, by omega, by rw [WC _ _ (by omega)]; exact y17, w10, fun i hi => by omega⟩⟩
      · rw [WA _ _ (by omega) (by omega), wf _ _ (by omega), bo.1.2.2.2.1.2.1, bo.2.2]
      · rw [WA _ _ (by omega) (by omega), wf _ _ (by omega), bo.1.2.2.2.1.2.2, bo.2.1.2.1.2]
      · rw [WA _ _ (by omega) (by omega), cx _ _ (by omega), wf _ _ (by omega), RS _ _ (by omega) (by omega)]; exact htime.1
      · rw [WA _ _ (by omega) (by omega), cx _ _ (by omega)]; exact htime.2.1
      · rw [WA _ _ (by omega) (by omega), cx _ _ (by omega)]; exact htime.2.2
      · rw [wf _ _ (by omega), RS _ _ (by omega) (by omega)]; exact hother.1
      · rw [wf _ _ (by omega), RS _ _ (by omega) (by omega)]; exact hother.2
      · unfold Inums
        rw [eK, eN, eH, eT, eR, g51, g52, g53, g54, g55, WA d 0 (by omega) (by omega), WA d 1 (by omega) (by omega), WA d 2 (by omega) (by omega), WA d 3 (by omega) (by omega), WA d 4 (by omega) (by omega)]
        exact ⟨⟨k6, rfl, u1.1⟩, ⟨t10, rfl, u2.1⟩, ⟨u6, rfl, u4.1⟩, ⟨u7, rfl, u5.1⟩, q1, q2, rfl, q3⟩
      · rw [eN] at hx
        rw [WA (d + 1) x (by omega) (by omega), WA (d + 2) x (by omega) (by omega), WA (d + 3) x (by omega) (by omega), (w2 x (by omega)).1, (w2 x (by omega)).2.1, (w2 x (by omega)).2.2]
        exact d3 x hx
      · rw [eH] at hx
        rw [WA (d + 4) x (by omega) (by omega), WA (d + 5) x (by omega) (by omega), (w3 x (by omega)).1, (w3 x (by omega)).2]
        exact d4.1 x hx
      · rw [eT] at hx
        rw [WA (d + 6) x (by omega) (by omega), WA (d + 7) x (by omega) (by omega), (w4 x (by omega)).1, (w4 x (by omega)).2]
        exact d5 x hx
      · rw [eN] at hx
        obtain ⟨v1, v2⟩ := d6.1 x hx h hh
        obtain ⟨-, -, p, p1, p2, p3⟩ := d3 x hx
        have em : (h * 10 + x) % 10 = x := by omega
        rw [WC _ _ (by omega), y1 _ (by omega), em, v1, w5 _ (by omega), (w2 x (by omega)).2.2]
        rcases v2 with v2 | ⟨v, v3, v4⟩
        · rw [v2, if_pos rfl, if_pos rfl]
          exact ⟨p, p1, p2, p3⟩
        · rw [v4, if_neg (nI_nm1 (by omega)), if_neg (nI_nm1 (by omega))]
          exact ⟨v, v3, rfl, rfl⟩
      · rw [WC _ _ (by omega), WC _ _ (by omega)]; exact y2 j hj
      · unfold Ilaw
        rw [m6, m7, m8, WA (d + 11) 4 (by omega) (by omega), WA (d + 11) 5 (by omega) (by omega)]
        rcases hlaw' with ⟨l1, l2, l3, l4⟩ | ⟨l1, lw, u, l2, l3, l4, l5, l6, l7⟩
        · exact ⟨by rw [l3, l4], Or.inl ⟨l1, l2⟩⟩
        · refine ⟨by rw [l6, l7], Or.inr ⟨l1, lw, ?_, by omega, l3.1, by rw [l2], lwx_f lw 0 l5, fun i q hq => ?_⟩⟩
          · intro e
            rw [e] at l5
            unfold lwx at l5
            injection l5 with l5
            omega
          · have il := (List.getElem?_eq_some_iff.mp hq).1
            obtain ⟨x1, x2⟩ := l3.2 i q hq
            obtain ⟨x3, x4⟩ := l4.2 i q hq
            refine ⟨by rw [WA _ _ (by omega) (by omega)]; exact x1, fun w => by rw [WA _ _ (by omega) (by omega)]; exact x2 w, by rw [(w1 i (by omega)).1]; exact x3, fun w => by rw [(w1 i (by omega)).2]; exact x4 w⟩
    · exfalso
      obtain ⟨A1, a1, -⟩ := settle_ok d A0
      rw [e0, a1, obs_eq] at e1
      injection e1 with e1
      injection e1 with e1 e2
      cases e1
  · have hc0 := class_fault (c := c) hs e0
    generalize hZ : sI A0 3 1 0 = Z at hc0
    have Z0 : ∀ e j, ¬ (e = 3 ∧ j = 1) → Z.1 e j = A0.1 e j := fun e j w => by rw [← hZ, sI_get, if_neg w]
    obtain ⟨A, R, r1, r2, cx, rx, out⟩ := read_alw (ρ := Z) hd hT (by rw [Z0 _ _ (by omega), cx0 _ _ (by omega)]; exact t2) (fun i hi => by rw [Z0 _ _ (by omega), cx0 _ _ (by omega), ← (t3 i hi).1]; exact hTi i hi)
    rw [hs, obs_eq] at out
    rcases out with ⟨e1, -⟩ | ⟨e1, fa⟩
    · exfalso
      obtain ⟨A1, a1, -⟩ := settle_ok d A
      rw [e0, a1, obs_eq] at e1
      injection e1 with e1
      injection e1 with e1 e2
      cases e1
    · have eA : A = A0 := by
        rw [e0] at e1
        injection e1 with e1
        injection e1 with e1 e2
        exact e2.symm
      subst eA
      have F : ∀ e j, ¬ ((e = 3 ∧ (j = 1 ∨ (5 ≤ j ∧ j ≤ 8))) ∨ e = 1 ∨ e = 5 ∨ e = 6 ∨ e = 11 ∨ (d ≤ e ∧ e ≤ d + 15) ∨ ((e = 233 ∧ ((1 ≤ j ∧ j ≤ 12) ∨ j = 19 ∨ j = 21 ∨ j = 22 ∨ j = 24 ∨ j = 25 ∨ (45 ≤ j ∧ j ≤ 50) ∨ (56 ≤ j ∧ j ≤ 58))) ∨ (236 ≤ e ∧ e ≤ 238) ∨ e = 241 ∨ (244 ≤ e ∧ e ≤ 252))) → R.1 e j = σ.1 e j := fun e j w => by rw [rx e j (by omega), Z0 e j (by omega), cx e j (by omega)]
      refine ⟨-1, Z, R, false, hc0, ?_, ?_⟩
      · rw [city_eq, r1, obs_eq, if_neg fa.2.2]
      · rw [hsw0]
        have hc : twO sw = c := htw
        unfold INV
        rw [hc]
        refine ⟨⟨0, by omega, by rw [rx _ _ (by omega), ← hZ, sI_get, if_pos ⟨rfl, rfl⟩]; rfl, r2, fun i hi => by omega⟩, ⟨?_, ?_⟩, htime.fr (fun a k q => F a k (by unfold FPtime at q; omega)), hlaid.fr (fun a k q => F a k (by unfold FPlaid at q; omega)), hother.fr (fun a k q => F a k (by unfold FPother at q; omega)), hnums.fr (fun a k q => F a k (by unfold FPnums at q; omega)), harr.fr (fun a k q => F a k (by unfold FParr FPnums at q; omega)), hhou.fr (fun a k q => F a k (by unfold FPhou FPnums at q; omega)), hthi.fr (fun a k q => F a k (by unfold FPthi FPnums at q; omega)), hval.fr (fun a k q => F a k (by unfold FPval FPnums at q; omega)), hsaid.fr (fun a k q => F a k (by unfold FPsaid at q; omega)), hlaw.fr (fun a k q => F a k (by unfold FPlaw at q; omega)), hnow.fr (c := c) (fun a k q => F a k (by unfold FPnow FPnums at q; omega)), hacts.fr (c := c) (fun a k q => F a k (by unfold FPacts FPnums at q; omega)), hbox.fr (c := c) (fun a k q => F a k (by unfold FPbox FPnums at q; omega)), hrep.fr (c := c) (fun a k q => F a k (by unfold FPrep FPnums at q; omega))⟩
        · rw [rx 3 7 (by omega), Z0 _ _ (by omega)]; exact fa.1
        · rw [rx 3 8 (by omega), Z0 _ _ (by omega)]; exact fa.2.1
end CITY2
