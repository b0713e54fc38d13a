/-! calls that show, and reports -/
section EASY
variable {σ σ' : St_} {c dr : Nat} {v : Vw}
def Vof (c : Nat) (σ : St_) : Prop := ∃ v : Vw, v.OK ∧ CV c v σ ∧ RV v σ ∧ v.N = nN σ ∧ v.H = nH σ ∧ v.T = nT σ ∧ v.R = nR σ ∧ v.sa = v.va
theorem now_of (ok : v.OK) (h1 : v.N = nN σ) (h2 : v.H = nH σ) (h3 : v.T = nT σ) (h4 : v.R = nR σ) (hn : Inow σ) : ∃ z : Sv, Sv.OK v z ∧ CS v 44 z σ ∧ RN v 262 0 z σ ∧ Irest v.T 44 262 0 σ := by
  have := hn.2
  unfold ISn at this
  rw [← h1, ← h2, ← h3, ← h4] at this
  exact of_IS ok this
theorem core_5 (a1 a2 : Int32) (a3 : Bool) (hV : Vof c σ) : ∃ r : Int32, mX11_worth 0 c dr a1 a2 a3 σ = some r ∧ mX12_worth 233 a1 a2 a3 σ = some r := by
  obtain ⟨v, ok, hc, hr, -⟩ := hV
  unfold mX11_worth mX12_worth
  rw [c_holderIndex hc ok, c_isThing hc ok, r_isThing hr ok, r_isHolder hr ok]
  dsimp only [Option.bind]
  cases hb : bin a1 v.N
  · exact ⟨-1, rfl, rfl⟩
  · cases hh : isHol v a2 a3
    · exact ⟨-1, by simp, by simp⟩
    · obtain ⟨x, hx, rfl, -⟩ := bin_iff.mp hb
      obtain ⟨i, rfl, hi, hi2, hi3⟩ := isHol_of ok hh
      have e := @hol_nI i a3
      rw [if_pos rfl, if_pos rfl, e, if_neg (nI_nm1 (by omega)), c_valueTo hc ok hi2 hx, if_pos rfl, r_trueWorth hr ok hx hi2]
      exact ⟨_, rfl, rfl⟩
theorem core_9 (a1 a2 a3 : Int32) (hV : Vof c σ) : ∃ r : Int32, mX11_minutes 0 c dr a1 a2 a3 σ = some r ∧ mX12_minutes 233 a1 a2 a3 σ = some r := by
  obtain ⟨v, ok, hc, hr, -⟩ := hV
  unfold mX11_minutes mX12_minutes
  rw [c_isThief hc ok, c_isHouse hc ok, r_isThief hr ok, r_isHouse hr ok, isIn_eq]
  dsimp only [Option.bind]
  cases hb : bin a1 v.T
  · exact ⟨-1, rfl, rfl⟩
  · cases hh : bin a2 v.H
    · exact ⟨-1, rfl, rfl⟩
    · obtain ⟨x, hx, rfl, -⟩ := bin_iff.mp hb
      obtain ⟨y, hy, rfl, -⟩ := bin_iff.mp hh
      rw [c_minutesOf hc ok hx hy, r_minutesOf hr ok hx hy]
      by_cases q1 : a3 < 1
      · have : ¬ (1 ≤ a3) := Int32.not_le.mpr q1
        exact ⟨-1, by simp [q1], by simp [this]⟩
      · have q1' : 1 ≤ a3 := Int32.not_lt.mp q1
        by_cases q2 : a3 ≤ 6
        · exact ⟨_, by simp [q1, q2]; rfl, by simp [q1', q2]⟩
        · exact ⟨-1, by simp [q1, q2], by simp [q2]⟩
theorem core_4 (a1 a2 : Int32) (hV : Vof c σ) (hn : Inow σ) : ∃ r : Int32, mX11_thing 0 c dr a1 a2 σ = some r ∧ mX12_thing 233 a1 a2 σ = some r := by
  obtain ⟨v, ok, hc, hr, h1, h2, h3, h4, -⟩ := hV
  obtain ⟨z, hz, zc, zr, -⟩ := now_of ok h1 h2 h3 h4 hn
  have := ok.N
  have := ok.H
  have := ok.T
  unfold mX11_thing mX12_thing
  rw [c_isThing hc ok, r_isThing hr ok]
  dsimp only [Option.bind]
  cases hb : bin a1 v.N
  · exact ⟨-2, rfl, rfl⟩
  · obtain ⟨x, hx, rfl, -⟩ := bin_iff.mp hb
    have zx := zr.wh x hx
    rw [Nat.zero_add] at zx
    rw [if_pos rfl, if_pos rfl, show 0 + 44 = 44 from rfl, c_holderOf ok hz zc hx, pn_cl (by omega), binn (by omega) (by omega), binn (by omega) (by omega), show 233 + 20 = 253 from rfl, show 233 + 21 = 254 from rfl, show 233 + 22 = 255 from rfl, show 233 + 29 = 262 from rfl, zx, hr.kd x hx, hr.wt x hx, hr.pr x hx, hc.kd x hx, hc.wt x hx, hc.pr x hx]
    dsimp only [bnd]
    by_cases p0 : a2 = 0
    · exact ⟨_, by rw [if_pos p0, if_pos rfl], by rw [if_pos p0, if_pos rfl]⟩
    · by_cases p1 : a2 = 1
      · exact ⟨_, by rw [if_neg p0, if_pos p1, if_pos rfl], by rw [if_neg p0, if_pos p1, if_pos rfl]⟩
      · by_cases p2 : a2 = 2
        · exact ⟨_, by rw [if_neg p0, if_neg p1, if_pos p2, if_pos rfl], by rw [if_neg p0, if_neg p1, if_pos p2, if_pos rfl]⟩
        · rw [if_neg p0, if_neg p0, if_neg p1, if_neg p1, if_neg p2, if_neg p2]
          have key : ∀ w : Fin 10, (if (5 : Int32) ≤ (if w.1 < 9 then nI w.1 else -1) then (-1 : Int32) else (if w.1 < 9 then nI w.1 else -1)) = (if (10 : Int32) ≤ wcode w.1 then -1 else wcode w.1) ∧ (if (5 : Int32) ≤ (if w.1 < 9 then nI w.1 else -1) then (if w.1 < 9 then nI w.1 else -1) - 5 else (-1 : Int32)) = (if (10 : Int32) ≤ wcode w.1 then wcode w.1 - 10 else -1) := by decide
          obtain ⟨k1, k2⟩ := key ⟨z.wh x, by have := hz.le ok hx; omega⟩
          dsimp only at k1 k2
          by_cases p3 : a2 = 3
          · rw [if_pos p3, if_pos p3, if_pos rfl, if_pos rfl]
            rw [← apply_ite some, ← apply_ite some]
            exact ⟨_, rfl, congrArg some k1.symm⟩
          · by_cases p4 : a2 = 4
            · rw [if_neg p3, if_neg p3, if_pos p4, if_pos p4, if_pos rfl, if_pos rfl]
              rw [← apply_ite some, ← apply_ite some]
              exact ⟨_, rfl, congrArg some k2.symm⟩
            · exact ⟨_, by rw [if_neg p3, if_neg p4], by rw [if_neg p3, if_neg p4]⟩
theorem core_6 (a1 : Int32) (a2 : Bool) (hV : Vof c σ) (hn : Inow σ) : ∃ (r : Int32) (σ2 : St_), mX11_has 0 c dr a1 a2 σ = some r ∧ mX12_has 233 a1 a2 σ = some (r, σ2) := by
  obtain ⟨v, ok, hc, hr, h1, h2, h3, h4, -⟩ := hV
  obtain ⟨z, hz, zc, zr, -⟩ := now_of ok h1 h2 h3 h4 hn
  obtain ⟨σ2, l1, l2⟩ := r_load ok.N zr
  have hr2 : RV v σ2 := hr.fr (fun a k q => (fX12_load _ _ _ l1 a k (by unfold MOD_X12_load; unfold FPr at q; omega)).1)
  unfold mX11_has mX12_has
  rw [c_holderIndex hc ok, l1]
  dsimp only [Option.bind]
  rw [r_isHolder hr2 ok]
  cases hh : isHol v a1 a2
  · exact ⟨-1, σ2, by simp, by simp⟩
  · obtain ⟨i, rfl, hi, hi2, hi3⟩ := isHol_of ok hh
    have e := @hol_nI i a2
    dsimp only [bnd]
    rw [if_pos rfl, e, if_neg (nI_nm1 (by omega)), binn (by omega) (by omega), pn_cl (by omega), if_pos rfl, if_pos rfl, holIx_w hi2 hi3]
    dsimp only
    rw [r_hasAt hr2 ok hz l2 (by omega), show 0 + 44 + 1 = 44 + 1 from rfl, zc.held _ hi2]
    exact ⟨_, σ2, rfl, rfl⟩
theorem core_7 (a1 : Int32) (a2 : Bool) (hV : Vof c σ) (hn : Inow σ) : ∃ (r : Int32) (σ2 : St_), mX11_sum 0 c dr a1 a2 σ = some r ∧ mX12_sum 233 a1 a2 σ = some (r, σ2) := by
  obtain ⟨v, ok, hc, hr, h1, h2, h3, h4, -⟩ := hV
  obtain ⟨z, hz, zc, zr, -⟩ := now_of ok h1 h2 h3 h4 hn
  obtain ⟨σ2, l1, l2⟩ := r_load ok.N zr
  have hr2 : RV v σ2 := hr.fr (fun a k q => (fX12_load _ _ _ l1 a k (by unfold MOD_X12_load; unfold FPr at q; omega)).1)
  unfold mX11_sum mX12_sum
  rw [c_holderIndex hc ok, l1]
  dsimp only [Option.bind]
  rw [r_isHolder hr2 ok]
  cases hh : isHol v a1 a2
  · exact ⟨-1, σ2, by simp, by simp⟩
  · obtain ⟨i, rfl, hi, hi2, hi3⟩ := isHol_of ok hh
    have e := @hol_nI i a2
    dsimp only [bnd]
    rw [if_pos rfl, e, if_neg (nI_nm1 (by omega)), binn (by omega) (by omega), pn_cl (by omega), if_pos rfl, if_pos rfl, holIx_w hi2 hi3]
    dsimp only
    rw [r_sumAt hr2 ok hz l2 (by omega) hi2, show 0 + 44 + 1 = 44 + 1 from rfl, zc.held _ hi2, c_valueOfSet hc ok hi2]
    exact ⟨_, σ2, rfl, rfl⟩
theorem wc_thief {i : Nat} (hi : i < 4) : (10 : Int32) + nI i = wcode (5 + i) := by
  have : ∀ i : Fin 4, (10 : Int32) + nI i.1 = wcode (5 + i.1) := by decide
  exact this ⟨i, hi⟩
theorem wc_house {i : Nat} (hi : i < 5) : nI i = wcode i := by
  have : ∀ i : Fin 5, nI i.1 = wcode i.1 := by decide
  exact this ⟨i, hi⟩
theorem core_8 (a1 a2 : Int32) (hV : Vof c σ) (hn : Inow σ) : ∃ (r : Int32) (σ2 : St_), mX11_thief 0 c dr a1 a2 σ = some r ∧ mX12_thief 233 a1 a2 σ = some (r, σ2) := by
  obtain ⟨v, ok, hc, hr, h1, h2, h3, h4, -⟩ := hV
  obtain ⟨z, hz, zc, zr, -, -, r3⟩ := now_of ok h1 h2 h3 h4 hn
  obtain ⟨σ2, l1, l2⟩ := r_load ok.N zr
  have F := fX12_load _ _ _ l1
  have hr2 : RV v σ2 := hr.fr (fun a k q => (F a k (by unfold MOD_X12_load; unfold FPr at q; omega)).1)
  have := ok.T
  unfold mX11_thief mX12_thief
  rw [c_isThief hc ok, r_isThief hr ok, l1]
  dsimp only [Option.bind]
  cases hb : bin a1 v.T
  · exact ⟨-1, σ, rfl, rfl⟩
  · obtain ⟨i, hi, rfl, -⟩ := bin_iff.mp hb
    have e5 : (5 : Int32) + nI i = nI (5 + i) := nI_add 5 i
    have e13 : (13 : Int32) + nI i = nI (13 + i) := nI_add 13 i
    have r3' := r3 i (by omega)
    rw [show 0 + 13 + i = 13 + i by omega] at r3'
    dsimp only [bnd]
    rw [if_pos rfl, if_pos rfl, e5, e13, wc_thief (by omega), r_hasAt hr2 ok hz l2 (by omega), binn (by omega) (by omega), binn (by omega) (by omega), binn (by omega) (by omega), pn_cl (by omega), pn_cl (by omega), pn_cl (by omega), show 0 + 44 + 1 = 44 + 1 from rfl, show 0 + 44 + 2 = 44 + 2 from rfl, show 0 + 44 = 44 from rfl, zc.held _ (by omega), c_weightOfSet hc ok, r3', zc.jl, l2.jl, show 233 + 29 = 262 from rfl, (F 262 (13 + i) (by unfold MOD_X12_load; omega)).1]
    dsimp only
    rw [r_weightOf hr2 ok]
    by_cases p0 : a2 = 0
    · exact ⟨_, σ2, by rw [if_pos p0], by rw [if_pos p0]⟩
    · by_cases p1 : a2 = 1
      · exact ⟨_, σ2, by rw [if_neg p0, if_pos p1, if_pos rfl], by rw [if_neg p0, if_pos p1, if_pos rfl]⟩
      · by_cases p2 : a2 = 2
        · exact ⟨_, σ2, by rw [if_neg p0, if_neg p1, if_pos p2, if_pos rfl], by rw [if_neg p0, if_neg p1, if_pos p2]⟩
        · exact ⟨_, σ2, by rw [if_neg p0, if_neg p1, if_neg p2], by rw [if_neg p0, if_neg p1, if_neg p2]⟩
theorem c_crimes : mX8_crimesInAll 44 σ = some (σ.1 46 0 + σ.1 46 1 + σ.1 46 2 + σ.1 46 3) := by
  have e : mX8_crimesInAll 44 σ = some (0 + σ.1 46 0 + σ.1 46 1 + σ.1 46 2 + σ.1 46 3) := rfl
  rw [e, Int32.zero_add]
theorem same_ite {α : Type} {P : Prop} [Decidable P] {a b c d : Option α} (h1 : ∃ r, a = some r ∧ b = some r) (h2 : ∃ r, c = some r ∧ d = some r) : ∃ r, (if P then a else c) = some r ∧ (if P then b else d) = some r := by
  by_cases h : P
  · obtain ⟨r, e1, e2⟩ := h1
    exact ⟨r, by rw [if_pos h, e1], by rw [if_pos h, e2]⟩
  · obtain ⟨r, e1, e2⟩ := h2
    exact ⟨r, by rw [if_neg h, e1], by rw [if_neg h, e2]⟩
theorem core_34 (a1 : Int32) (htape : Itape σ) (htime : Itime σ) (hlaid : Ilaid σ) (hnums : Inums c σ) (hlaw : Ilaw c σ) (hnow : Inow σ) (hacts : Iacts σ) (hrep : Irep σ) : ∃ r : Int32, mX11_about 0 c dr a1 σ = some r ∧ mX12_about 233 a1 σ = some r := by
  obtain ⟨-, -, -, ⟨i1, -, i2, i3⟩, ⟨j1, -, j2, j3⟩, ⟨k1, -, k2, k3⟩, cr⟩ := hnow.2
  obtain ⟨-, f, p, n, ha1, ha2, ha3, ha4, ha5, ha6, ha7, ha8, -⟩ := hacts
  obtain ⟨m1, -, m2, m3, -⟩ := htape
  obtain ⟨l1, -, l2, l3, -⟩ := hlaid
  obtain ⟨r1, -, r2, r3, -⟩ := hrep
  obtain ⟨⟨k1, k2', k3'⟩, ⟨n1, n2, n3⟩, ⟨h1, h2, h3⟩, ⟨t1, t2, t3⟩, ⟨rr1, rr2, rr3, rr4⟩⟩ := hnums
  unfold mX11_about mX12_about
  rw [show 0 + 44 = 44 from rfl, show 0 + 47 = 47 from rfl, show 0 + 174 = 174 from rfl, show 0 + 3 = 3 from rfl, c_crimes, k2', k3', n2, n3, h2, h3, t2, t3, rr3, rr4, i2, j2, k2, ha5, ha6, ha7, ha8, m2, m3, l2, l3, r2, r3, htime.1, hlaw.1]
  have c0 := cr 0 (by omega)
  have c1 := cr 1 (by omega)
  have c2 := cr 2 (by omega)
  have c3 := cr 3 (by omega)
  have e10 : σ.1 (233 + 29) (10 : Int32).toNatClampNeg = nI i1 := i3
  have e11 : σ.1 (233 + 29) (11 : Int32).toNatClampNeg = nI j1 := j3
  have e12 : σ.1 (233 + 29) (12 : Int32).toNatClampNeg = _ := k3
  have e13 : σ.1 (233 + 29) (13 : Int32).toNatClampNeg = σ.1 46 0 := c0.symm
  have e14 : σ.1 (233 + 29) (14 : Int32).toNatClampNeg = σ.1 46 1 := c1.symm
  have e15 : σ.1 (233 + 29) (15 : Int32).toNatClampNeg = σ.1 46 2 := c2.symm
  have e16 : σ.1 (233 + 29) (16 : Int32).toNatClampNeg = σ.1 46 3 := c3.symm
  have sub : nI n - nI p = nI (n - p) := by
    apply Int32.toInt_inj.mp
    rw [Int32.toInt_sub, nI_toInt (by omega), nI_toInt (by omega), nI_toInt (by omega), Int.bmod_eq_of_le (by omega) (by omega)]
    omega
  rw [e10, e11, e12, e13, e14, e15, e16, sub]
  dsimp only [bnd]
  repeat refine same_ite ⟨_, rfl, rfl⟩ ?_
  exact ⟨_, rfl, rfl⟩
end EASY
