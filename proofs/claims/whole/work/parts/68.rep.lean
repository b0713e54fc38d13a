section REP
variable {σ σ' : St_} {c dr : Nat} {v : Vw}
theorem nI_s1 {n : Nat} (h : n < 2 ^ 31 - 1) : nI (n + 1) - 1 = nI n := by
  apply Int32.toInt_inj.mp
  rw [pn_sub1 (by omega), nI_toInt (by omega)]
  omega
theorem c_add {n : Nat} (hn : n < 30) (e : σ.1 174 7 = nI n) (p1 p2 p3 p4 : Int32) (p5 : Bool) (p6 : Int32) : mX5_add 174 p1 p2 p3 p4 p5 p6 σ = some (nI n, sI (sI (sI (sI (sI (sI (sI (sI σ 175 n p1) 176 n p2) 177 n p3) 178 n p4) 179 n (b2i p5)) 180 n p6) 181 n (-1)) 174 7 (nI (n + 1))) := by
  have hb : bin (nI n) 30 = true := binn hn (by omega)
  have hc : (nI n).toNatClampNeg = n := pn_cl (by omega)
  have h0 : nI n < 30 := nI_lt (b := 30) hn (by omega)
  unfold mX5_add
  simp only [bnd, sI_get, e, hb, hc, h0, if_true, nI_1, nI_s1 (show n < 2 ^ 31 - 1 by omega)]
  simp [nI_s1 (show n < 2 ^ 31 - 1 by omega), hb, hc, nI_1]
theorem core_27 (a1 a2 a3 a4 : Int32) (a5 : Bool) (hV : Vof c σ) (hcc : c = 12 ∨ c = 28) (htime : Itime σ) (hrep : Irep σ) : ∃ (r : Int32) (σ1 σ2 : St_), mX11_report 0 c dr a1 a2 a3 a4 a5 σ = some (r, σ1) ∧ mX12_report 233 a1 a2 a3 a4 a5 σ1 = some (r, σ2) ∧ Irep σ2 := by
  obtain ⟨v, ok, hc, hr, h1, h2, h3, h4, -⟩ := hV
  have oR := ok.R
  have oN := ok.N
  have oH := ok.H
  obtain ⟨n, n1, n2, n3, n4⟩ := id hrep
  have no : mX11_report 0 c dr a1 a2 a3 a4 a5 σ = some (-1, σ) → mX12_report 233 a1 a2 a3 a4 a5 σ = some (-1, σ) → ∃ (r : Int32) (σ1 σ2 : St_), mX11_report 0 c dr a1 a2 a3 a4 a5 σ = some (r, σ1) ∧ mX12_report 233 a1 a2 a3 a4 a5 σ1 = some (r, σ2) ∧ Irep σ2 := fun e1 e2 => ⟨-1, σ, σ, e1, e2, hrep⟩
  cases hb1 : bin a1 v.H
  · apply no
    · unfold mX11_report; rw [c_isHouse hc ok, hb1]; rfl
    · unfold mX12_report; rw [r_isHouse hr ok, hb1]; rfl
  cases hb2 : bin a2 v.N
  · apply no
    · unfold mX11_report; rw [c_isHouse hc ok, hb1, c_isThing hc ok, hb2]; rfl
    · unfold mX12_report; rw [r_isHouse hr ok, hb1, r_isThing hr ok, hb2]; rfl
  cases hb3 : bin a3 v.N
  · apply no
    · unfold mX11_report; rw [c_isHouse hc ok, hb1, c_isThing hc ok, hb2, c_isThing hc ok, hb3]; rfl
    · unfold mX12_report; rw [r_isHouse hr ok, hb1, r_isThing hr ok, hb2, r_isThing hr ok, hb3]; rfl
  have E1 : mX11_report 0 c dr a1 a2 a3 a4 a5 σ = if a2 = a3 then some (-1, σ) else if bin a4 v.R = true then ((mX5_add 174 a1 a2 a3 a4 a5 (σ.1 0 11) σ).bind fun r4 => some (r4.1, r4.2)) else some (-1, σ) := by
    unfold mX11_report
    rw [c_isHouse hc ok, hb1, c_isThing hc ok, hb2, c_isThing hc ok, hb3, hc.R, bin_nlt (by omega)]
    dsimp only [Option.bind]
    rw [if_pos rfl, if_pos rfl, if_pos rfl]
    by_cases q : a2 = a3
    · rw [if_pos q, if_pos q]
    · rw [if_neg q, if_neg q]
      by_cases q1 : a4 < 0
      · simp [q1]
      · by_cases q2 : nI v.R ≤ a4
        · have : ¬ a4 < nI v.R := Int32.not_lt.mpr q2
          simp [q1, q2, this]
        · have : a4 < nI v.R := Int32.not_le.mp q2
          simp [q1, q2, this]
  have E2 : ∀ σ : St_, RV v σ → σ.1 233 86 = nI n → mX12_report 233 a1 a2 a3 a4 a5 σ = if a2 = a3 then some (-1, σ) else if bin a4 v.R = true then (if n < 30 then some (nI n, sI (sI (sI (sI (sI (sI (sI (sI σ 270 n a1) 271 n a2) 272 n a3) 273 n a4) 276 n (b2i a5)) 274 n (σ.1 233 87)) 275 n (-1)) 233 86 (nI (n + 1))) else some (-1, σ)) else some (-1, σ) := by
    intro σ hr n3
    unfold mX12_report
    rw [r_isHouse hr ok, hb1, r_isThing hr ok, hb2, r_isThing hr ok, hb3, hr.R, isIn_eq, pn_in (by omega)]
    dsimp only [Option.bind]
    rw [if_pos rfl, if_pos rfl, if_pos rfl]
    by_cases q : a2 = a3
    · rw [if_pos q, if_pos q]
    · rw [if_neg q, if_neg q]
      cases q4 : bin a4 v.R
      · simp
      · by_cases q5 : n < 30
        · have hb : bin (nI n) 30 = true := binn q5 (by omega)
          have hc : (nI n).toNatClampNeg = n := pn_cl (by omega)
          have h0 : ¬ nI n = 30 := fun e => absurd (pn_inj (b := 30) (by omega) (by omega) e) (by omega)
          simp only [bnd, sI_get, n3, hb, hc, h0, if_true, if_false, q5, nI_1]
          simp [nI_s1 (show n < 2 ^ 31 - 1 by omega), hb, hc, nI_1]
        · have : n = 30 := by omega
          subst this
          simp only [n3, if_true]
          rfl
  by_cases q : a2 = a3
  · exact no (by rw [E1, if_pos q]) (by rw [E2 σ hr n3, if_pos q])
  · cases q4 : bin a4 v.R
    · exact no (by rw [E1, if_neg q, q4]; rfl) (by rw [E2 σ hr n3, if_neg q, q4]; rfl)
    · by_cases q5 : n < 30
      · rw [if_neg q, if_pos q4, c_add q5 n2] at E1
        dsimp only [Option.bind] at E1
        have hr1 : RV v (sI (sI (sI (sI (sI (sI (sI (sI σ 175 n a1) 176 n a2) 177 n a3) 178 n a4) 179 n (b2i a5)) 180 n (σ.1 0 11)) 181 n (-1)) 174 7 (nI (n + 1))) := hr.fr (fun a k w => (fX11_report _ _ _ _ _ _ _ _ _ _ E1 a k (by unfold MOD_X11_report; unfold FPr at w; omega)).1)
        have e2 := E2 _ hr1 (by simp [sI_get]; exact n3)
        rw [if_neg q, if_pos q4, if_pos q5] at e2
        refine ⟨_, _, _, E1, e2, n + 1, by omega, by simp [sI_get], by simp [sI_get], fun i hi => ?_⟩
        obtain ⟨x1, y1, rfl, -⟩ := bin_iff.mp hb1
        obtain ⟨x2, y2, rfl, -⟩ := bin_iff.mp hb2
        obtain ⟨x3, y3, rfl, -⟩ := bin_iff.mp hb3
        obtain ⟨x4, y4, rfl, -⟩ := bin_iff.mp q4
        have en : ∀ σ' : St_, (∀ k, 52 ≤ k → k ≤ 55 → σ'.1 233 k = σ.1 233 k) → nN σ' = nN σ ∧ nH σ' = nH σ ∧ nR σ' = nR σ := by
          intro σ' e
          unfold nN nH nR
          rw [e 52 (by omega) (by omega), e 53 (by omega) (by omega), e 55 (by omega) (by omega)]
          exact ⟨rfl, rfl, rfl⟩
        obtain ⟨eN, eH, eR⟩ := en (sI (sI (sI (sI (sI (sI (sI (sI (sI (sI (sI (sI (sI (sI (sI (sI σ 175 n (nI x1)) 176 n (nI x2)) 177 n (nI x3)) 178 n (nI x4)) 179 n (b2i a5)) 180 n (σ.1 0 11)) 181 n (-1)) 174 7 (nI (n + 1))) 270 n (nI x1)) 271 n (nI x2)) 272 n (nI x3)) 273 n (nI x4)) 276 n (b2i a5)) 274 n ((sI (sI (sI (sI (sI (sI (sI (sI σ 175 n (nI x1)) 176 n (nI x2)) 177 n (nI x3)) 178 n (nI x4)) 179 n (b2i a5)) 180 n (σ.1 0 11)) 181 n (-1)) 174 7 (nI (n + 1))).1 233 87)) 275 n (-1)) 233 86 (nI (n + 1))) (by intro k k1 k2; simp [sI_get, show k ≠ 86 by omega])
        rw [eN, eH, eR]
        by_cases qi : i = n
        · subst qi
          refine ⟨⟨x1, by omega, by simp [sI_get], by simp [sI_get]⟩, ⟨x2, by omega, by simp [sI_get], by simp [sI_get]⟩, ⟨x3, by omega, by simp [sI_get], by simp [sI_get]⟩, ⟨x4, by omega, by simp [sI_get], by simp [sI_get]⟩, ⟨a5, by simp [sI_get], by simp [sI_get]⟩, ?_, ?_, ?_⟩
          · simp [sI_get, htime.1]
          · simp [sI_get]
          · simpa [sI_get] using q
        · have := n4 i (by omega)
          simp only [sI_get, qi, and_false, if_false, and_true]
          simpa using this
      · have : n = 30 := by omega
        subst this
        have h0 : ¬ nI 30 < (30 : Int32) := by decide
        have ea : mX5_add 174 a1 a2 a3 a4 a5 (σ.1 0 11) σ = some (-1, σ) := by
          unfold mX5_add
          rw [n2, if_neg h0]
        rw [if_neg q, if_pos q4, ea] at E1
        exact no E1 (by rw [E2 σ hr n3, if_neg q, if_pos q4, if_neg q5])
theorem core_28 {tw : Nat} (a1 : Int32) (htime : Itime σ) (hrep : Irep σ) : ∃ (r : Bool) (σ1 σ2 : St_), mX11_untell 0 tw dr a1 σ = some (r, σ1) ∧ mX12_untell 233 a1 σ1 = some (r, σ2) ∧ Irep σ2 := by
  obtain ⟨n, n1, n2, n3, n4⟩ := id hrep
  unfold mX11_untell mX5_takeBack mX12_untell
  rw [show 0 + 174 = 174 from rfl, n2]
  have hb := @bin_nlt a1 n (by omega)
  cases q : bin a1 n
  · rw [q] at hb
    have e : (if a1 < 0 then (some (false, σ) : Option (Bool × St_)) else if nI n ≤ a1 then some (false, σ) else if bin a1 30 = true then bnd (σ.1 (174 + 7) a1.toNatClampNeg) fun v1 => if v1 = -1 then if bin a1 30 = true then bnd (sI σ (174 + 7) a1.toNatClampNeg (σ.1 0 11)) fun σ2 => some (true, σ2) else none else some (false, σ) else none) = some (false, σ) := by
      by_cases q1 : a1 < 0
      · rw [if_pos q1]
      · rw [if_neg q1] at hb
        by_cases q2 : nI n ≤ a1
        · rw [if_neg q1, if_pos q2]
        · rw [if_neg q2] at hb
          cases hb
    rw [e]
    refine ⟨false, σ, σ, rfl, ?_, hrep⟩
    rw [n3, isIn_eq, pn_in (by omega), q]
    rfl
  · obtain ⟨i, hi, rfl, -⟩ := bin_iff.mp q
    obtain ⟨c1, c2, c3, c4, c5, c6, ⟨c7, c8⟩, c9⟩ := n4 i hi
    dsimp only [bnd]
    rw [if_neg (nI_pos (by omega)), if_neg (nI_ge hi (by omega)), binn (by omega) (by omega), pn_cl (by omega), if_pos rfl, show 174 + 7 = 181 from rfl]
    by_cases q2 : σ.1 181 i = -1
    · refine ⟨true, sI σ 181 i (σ.1 0 11), sI (sI σ 181 i (σ.1 0 11)) 275 i (σ.1 0 11), ?_, ?_, ?_⟩
      · rw [if_pos q2]; rfl
      · have e1 : (sI σ 181 i (σ.1 0 11)).1 233 86 = nI n := by simp [sI_get, n3]
        have e2 : (sI σ 181 i (σ.1 0 11)).1 275 i = -1 := by simp [sI_get, ← c7, q2]
        have e3 : (sI σ 181 i (σ.1 0 11)).1 233 87 = σ.1 0 11 := by simp [sI_get, htime.1]
        rw [e1, isIn_eq, pn_in (by omega), q, show 233 + 42 = 275 from rfl, e2, e3]
        rfl
      · refine ⟨n, n1, by simp [sI_get, n2], by simp [sI_get, n3], fun j hj => ?_⟩
        have := n4 j hj
        have eN : nN (sI (sI σ 181 i (σ.1 0 11)) 275 i (σ.1 0 11)) = nN σ := by unfold nN; simp [sI_get]
        have eH : nH (sI (sI σ 181 i (σ.1 0 11)) 275 i (σ.1 0 11)) = nH σ := by unfold nH; simp [sI_get]
        have eR : nR (sI (sI σ 181 i (σ.1 0 11)) 275 i (σ.1 0 11)) = nR σ := by unfold nR; simp [sI_get]
        rw [eN, eH, eR]
        by_cases qj : j = i
        · subst qj
          obtain ⟨d1, d2, d3, d4, d5, d6, -, d9⟩ := this
          refine ⟨by simpa [sI_get] using d1, by simpa [sI_get] using d2, by simpa [sI_get] using d3, by simpa [sI_get] using d4, by simpa [sI_get] using d5, by simpa [sI_get] using d6, ?_, by simpa [sI_get] using d9⟩
          simp only [sI_get]
          simp
          exact Or.inr htime.2.1
        · simp only [sI_get, qj, and_false, if_false]
          exact this
    · refine ⟨false, σ, σ, ?_, ?_, hrep⟩
      · rw [if_neg q2]; rfl
      · have : ¬ σ.1 275 i < 0 := by
          rw [← c7]
          rcases c8 with e | e
          · exact absurd e q2
          · exact Int32.not_lt.mpr e
        rw [n3, isIn_eq, pn_in (by omega), q, show 233 + 42 = 275 from rfl]
        dsimp only [Option.bind]
        rw [if_pos rfl, if_neg this]
        rfl
end REP
