/-! may, theft -/
section THEFT2
variable {σ σ' τ : St_} {c dr s : Nat} {v : Vw} {z : Sv}
def isTh (v : Vw) (z : Sv) (p1 p2 tk lf : Int32) : Prop := ∃ t h, t < v.T ∧ h < v.H ∧ p1 = nI t ∧ p2 = nI h ∧ tk ≠ 0 ∧ subS v z h tk ∧ mem tk ≤ 3 ∧ subS v z (5 + t) lf ∧ mem lf ≤ 3
theorem c_isPart (ok : v.OK) {h : Nat} (w : Int32) : (subS v z h w ∧ mem w ≤ 3 → mX11_isPart w (hset v z h) σ = some true) ∧ (¬ (subS v z h w ∧ mem w ≤ 3) → mX11_isPart w (hset v z h) σ = some false) := by
  unfold mX11_isPart
  by_cases q : subS v z h w
  · obtain ⟨m, m1, rfl⟩ := subS_nI ok q
    rw [if_pos ((subS_iff ok).mpr q), j_bitCount m1]
    dsimp only [Option.bind]
    constructor
    · intro e
      rw [if_neg (Int32.not_lt.mpr e.2)]
    · intro e
      have : (3 : Int32) < mem (nI m) := by
        apply Int32.not_le.mp
        exact fun w => e ⟨q, w⟩
      rw [if_pos this]
  · refine ⟨fun e => absurd e.1 q, fun _ => ?_⟩
    rw [if_neg (fun e => q ((subS_iff ok).mp e))]
theorem c_isTheft (hc : CV c v σ) (ok : v.OK) (hs : CS v 44 z σ) (p1 p2 tk lf : Int32) : (isTh v z p1 p2 tk lf → mX11_isTheft 0 c dr p1 p2 tk lf σ = some true) ∧ (¬ isTh v z p1 p2 tk lf → mX11_isTheft 0 c dr p1 p2 tk lf σ = some false) := by
  have oT := ok.T
  have oH := ok.H
  unfold mX11_isTheft
  rw [c_isThief hc ok, c_isHouse hc ok]
  dsimp only [Option.bind, bnd]
  cases b1 : bin p1 v.T
  · refine ⟨?_, fun _ => rfl⟩
    rintro ⟨t, h, ht, hh, rfl, -⟩
    rw [binn ht (by omega)] at b1; cases b1
  cases b2 : bin p2 v.H
  · refine ⟨?_, fun _ => rfl⟩
    rintro ⟨t, h, ht, hh, -, rfl, -⟩
    rw [binn hh (by omega)] at b2; cases b2
  obtain ⟨t, ht, rfl, -⟩ := bin_iff.mp b1
  obtain ⟨h, hh, rfl, -⟩ := bin_iff.mp b2
  have iff1 : isTh v z (nI t) (nI h) tk lf ↔ (tk ≠ 0 ∧ (subS v z h tk ∧ mem tk ≤ 3) ∧ (subS v z (5 + t) lf ∧ mem lf ≤ 3)) := by
    constructor
    · rintro ⟨t', h', ht', hh', e1, e2, e3, e4, e5, e6, e7⟩
      have := pn_inj (by omega) (by omega) e1
      have := pn_inj (by omega) (by omega) e2
      subst t'; subst h'
      exact ⟨e3, ⟨e4, e5⟩, e6, e7⟩
    · rintro ⟨e3, ⟨e4, e5⟩, e6, e7⟩
      exact ⟨t, h, ht, hh, rfl, rfl, e3, e4, e5, e6, e7⟩
  rw [iff1, if_pos rfl, if_pos rfl, show (5 : Int32) + nI t = nI (5 + t) from nI_add 5 t, binn (show h < 9 by omega) (by omega), binn (show 5 + t < 9 by omega) (by omega), pn_cl (show h < 2 ^ 31 by omega), pn_cl (show 5 + t < 2 ^ 31 by omega), show 0 + 44 + 1 = 44 + 1 from rfl, hs.held h (by omega), hs.held (5 + t) (by omega)]
  by_cases q0 : tk = 0
  · rw [if_pos q0]
    exact ⟨fun e => absurd q0 e.1, fun _ => rfl⟩
  rw [if_neg q0, if_pos rfl]
  by_cases q1 : subS v z h tk ∧ mem tk ≤ 3
  · rw [(c_isPart ok tk).1 q1]
    dsimp only
    rw [if_pos rfl, if_pos rfl]
    by_cases q2 : subS v z (5 + t) lf ∧ mem lf ≤ 3
    · rw [(c_isPart ok lf).1 q2]
      exact ⟨fun _ => rfl, fun e => absurd ⟨q0, q1, q2⟩ e⟩
    · rw [(c_isPart ok lf).2 q2]
      exact ⟨fun e => absurd e.2.2 q2, fun _ => rfl⟩
  · rw [(c_isPart ok tk).2 q1]
    exact ⟨fun e => absurd e.2.1 q1, fun _ => rfl⟩
theorem r_areSets (hr : RV v σ) (ok : v.OK) (hz : Sv.OK v z) (zr : RN v 262 0 z σ) (p1 p2 tk lf : Int32) : (isTh v z p1 p2 tk lf → ∃ σ', mX12_areSets 233 p1 p2 tk lf σ = some (true, σ') ∧ RW v z σ') ∧ (¬ isTh v z p1 p2 tk lf → ∃ σ', mX12_areSets 233 p1 p2 tk lf σ = some (false, σ')) := by
  have oT := ok.T
  have oH := ok.H
  obtain ⟨σ2, l1, l2⟩ := r_load ok.N zr
  have hr2 : RV v σ2 := hr.fr (fun a k q => (fX12_load _ _ _ l1 a k (by unfold MOD_X12_load; unfold FPr at q; omega)).1)
  unfold mX12_areSets
  rw [r_isThief hr ok, r_isHouse hr ok, l1]
  dsimp only [Option.bind, bnd]
  cases b1 : bin p1 v.T
  · refine ⟨?_, fun _ => ⟨σ, rfl⟩⟩
    rintro ⟨t, h, ht, hh, rfl, -⟩
    rw [binn ht (by omega)] at b1; cases b1
  cases b2 : bin p2 v.H
  · refine ⟨?_, fun _ => ⟨σ, rfl⟩⟩
    rintro ⟨t, h, ht, hh, -, rfl, -⟩
    rw [binn hh (by omega)] at b2; cases b2
  obtain ⟨t, ht, rfl, -⟩ := bin_iff.mp b1
  obtain ⟨h, hh, rfl, -⟩ := bin_iff.mp b2
  have iff1 : isTh v z (nI t) (nI h) tk lf ↔ (tk ≠ 0 ∧ (subS v z h tk ∧ mem tk ≤ 3) ∧ (subS v z (5 + t) lf ∧ mem lf ≤ 3)) := by
    constructor
    · rintro ⟨t', h', ht', hh', e1, e2, e3, e4, e5, e6, e7⟩
      have := pn_inj (by omega) (by omega) e1
      have := pn_inj (by omega) (by omega) e2
      subst t'; subst h'
      exact ⟨e3, ⟨e4, e5⟩, e6, e7⟩
    · rintro ⟨e3, ⟨e4, e5⟩, e6, e7⟩
      exact ⟨t, h, ht, hh, rfl, rfl, e3, e4, e5, e6, e7⟩
  rw [iff1, if_pos rfl, if_pos rfl, r_members, r_members, wc_thief (by omega), wc_house (i := h) (by omega), r_hasAt hr2 ok hz l2 (by omega), r_hasAt hr2 ok hz l2 (by omega)]
  dsimp only
  by_cases q1 : tk ≤ 0
  · rw [if_pos q1]
    refine ⟨fun e => ?_, fun _ => ⟨σ2, rfl⟩⟩
    obtain ⟨m, m1, rfl⟩ := subS_nI ok e.2.1.1
    have : nI m = 0 := Int32.le_antisymm q1 (nI_pos' (by omega))
    exact absurd this e.1
  rw [if_neg q1]
  by_cases q2 : lf < 0
  · rw [if_pos q2]
    refine ⟨fun e => ?_, fun _ => ⟨σ2, rfl⟩⟩
    obtain ⟨m, m1, rfl⟩ := subS_nI ok e.2.2.1
    exact absurd q2 (nI_pos (by omega))
  rw [if_neg q2]
  by_cases q3 : (3 : Int32) < mem tk
  · rw [if_pos q3]
    exact ⟨fun e => absurd e.2.1.2 (Int32.not_le.mpr q3), fun _ => ⟨σ2, rfl⟩⟩
  rw [if_neg q3]
  by_cases q4 : (3 : Int32) < mem lf
  · rw [if_pos q4]
    exact ⟨fun e => absurd e.2.2.2 (Int32.not_le.mpr q4), fun _ => ⟨σ2, rfl⟩⟩
  rw [if_neg q4]
  by_cases q5 : subS v z h tk
  · rw [if_pos ((subS_iff ok).mpr q5)]
    by_cases q6 : subS v z (5 + t) lf
    · rw [if_pos ((subS_iff ok).mpr q6)]
      refine ⟨fun _ => ⟨σ2, rfl, l2⟩, fun e => ?_⟩
      have : tk ≠ 0 := fun w => q1 (by rw [w]; decide)
      exact absurd ⟨this, ⟨q5, Int32.not_lt.mp q3⟩, q6, Int32.not_lt.mp q4⟩ e
    · rw [if_neg (fun e => q6 ((subS_iff ok).mp e))]
      exact ⟨fun e => absurd e.2.2.1 q6, fun _ => ⟨σ2, rfl⟩⟩
  · rw [if_neg (fun e => q5 ((subS_iff ok).mp e))]
    exact ⟨fun e => absurd e.2.1.1 q5, fun _ => ⟨σ2, rfl⟩⟩
theorem core_10 (a1 a2 a3 a4 a5 : Int32) (hV : Vof c σ) (hcc : c = 12 ∨ c = 28) (hnow : Inow σ) : ∃ (r : Int32) (σ1 σ2 : St_), mX11_may 0 c dr a1 a2 a3 a4 a5 σ = some (r, σ1) ∧ mX12_may 233 a1 a2 a3 a4 a5 σ1 = some (r, σ2) := by
  obtain ⟨v, ok, hc, hr, h1, h2, h3, h4, -⟩ := hV
  obtain ⟨z, hz, zc, zr, -⟩ := now_of ok h1 h2 h3 h4 hnow
  have oT := ok.T
  have oR := ok.R
  have hzr := hz.hr
  -- the reference at any state like this one
  have ref : ∀ ρ : St_, RV v ρ → RN v 262 0 z ρ → (isTh v z a1 a2 a3 a4 → ∃ σ', mX12_areSets 233 a1 a2 a3 a4 ρ = some (true, σ') ∧ RW v z σ' ∧ RV v σ') := by
    intro ρ r1 r2 q
    obtain ⟨σ', s1, s2⟩ := (r_areSets r1 ok hz r2 a1 a2 a3 a4).1 q
    exact ⟨σ', s1, s2, r1.fr (fun a k q => (fX12_areSets _ _ _ _ _ _ _ s1 a k (by unfold MOD_X12_areSets; unfold FPr at q; omega)).1)⟩
  by_cases q : isTh v z a1 a2 a3 a4
  · obtain ⟨t, h, ht, hh, rfl, rfl, e3, e4, e5, e6, e7⟩ := id q
    obtain ⟨m1, m1l, rfl⟩ := subS_nI ok e4
    obtain ⟨m2, m2l, rfl⟩ := subS_nI ok e6
    unfold mX11_may mX12_may
    rw [(c_isTheft hc ok zc _ _ _ _).1 q]
    dsimp only [Option.bind, bnd]
    rw [if_pos rfl, show 0 + 44 = 44 from rfl, zc.hr, c_canBe hc ok zc ht hh m1l m2l, c_isSeen hc ok hh (by omega), binn (show t < 4 by omega) (by omega), if_pos rfl, pn_cl (show t < 2 ^ 31 by omega), hc.sl t ht]
    by_cases p0 : a5 = 0
    · subst p0
      obtain ⟨σ', s1, s2, s3⟩ := ref σ hr zr q
      refine ⟨if aCan v z t h (nI m1) (nI m2) = true then 1 else 0, σ, σ', ?_, ?_⟩
      · rw [if_pos rfl]
        cases aCan v z t h (nI m1) (nI m2) <;> rfl
      · rw [s1]
        dsimp only
        rw [if_pos rfl, isIn_eq]
        dsimp only
        rw [if_pos (by decide), if_pos rfl, r_canBe s3 ok hz s2 ht hh]
        dsimp only
        rw [truth_eq]
    · rw [if_neg p0]
      by_cases p1 : a5 = 1
      · subst p1
        obtain ⟨σ', s1, s2, s3⟩ := ref σ hr zr q
        refine ⟨if tb (v.wa h) z.hr = true then 1 else 0, σ, σ', ?_, ?_⟩
        · rw [if_pos rfl]
          dsimp only
          cases tb (v.wa h) z.hr <;> rfl
        · rw [s1]
          dsimp only
          rw [if_pos rfl, isIn_eq]
          dsimp only
          rw [if_pos (by decide), if_neg (by decide), if_pos rfl, r_isSeen s3 ok hh (by omega) s2.hr]
          dsimp only
          rw [truth_eq]
      · rw [if_neg p1]
        by_cases p2 : a5 = 2
        · subst p2
          obtain ⟨σ1, u1⟩ := c_isLawful hc ok hh m1l m2l (nI z.hr) (v.sl t)
          have F := fX1_isLawful _ _ _ _ _ _ _ _ u1
          have F1 : ∀ a k, ¬ (c + 14 ≤ a ∧ a < c + 16) → σ1.1 a k = σ.1 a k := fun a k q => (F a k (by unfold MOD_X1_isLawful; omega)).1
          obtain ⟨σ', s1, s2, s3⟩ := ref σ1 (hr.fr (fun a k q => F1 a k (by unfold FPr at q; omega))) (zr.fr ok.N (fun k _ _ => F1 _ _ (by omega))) q
          obtain ⟨σ2, u2⟩ := r_isLawful s3 ok hh (nI m1) (nI m2) (nI z.hr) (v.sl t)
          refine ⟨if aLaw v h (nI m1) (nI m2) (nI z.hr) (v.sl t) = true then 1 else 0, σ1, σ2, ?_, ?_⟩
          · rw [if_pos rfl, u1]
            cases aLaw v h (nI m1) (nI m2) (nI z.hr) (v.sl t) <;> rfl
          · rw [s1]
            dsimp only
            rw [if_pos rfl, isIn_eq]
            dsimp only
            rw [if_pos (by decide), if_neg (by decide), if_neg (by decide), if_pos rfl, show 233 + 27 = 260 from rfl, s3.sl t ht, s2.hr, u2]
            dsimp only
            rw [truth_eq]
        · obtain ⟨σ', s1, s2, s3⟩ := ref σ hr zr q
          refine ⟨-1, σ, σ', ?_, ?_⟩
          · rw [if_neg p2]
          · rw [s1]
            dsimp only
            rw [if_pos rfl, isIn_eq]
            dsimp only
            have : (decide ((0 : Int32) ≤ a5) && decide (a5 ≤ 2)) = false := by
              by_cases w : 0 ≤ a5
              · by_cases w2 : a5 ≤ 2
                · exfalso
                  have e := pn_of w
                  have h31 := pn_lt31 a5
                  generalize a5.toNatClampNeg = k at e h31
                  subst e
                  have : k ≤ 2 := (pn_le (b := 2) h31 (by omega)).mp w2
                  have : k = 0 ∨ k = 1 ∨ k = 2 := by omega
                  rcases this with e | e | e
                  · subst e; exact p0 rfl
                  · subst e; exact p1 rfl
                  · subst e; exact p2 rfl
                · simp [w2]
              · simp [w]
            rw [this]
            rfl
  · unfold mX11_may mX12_may
    rw [(c_isTheft hc ok zc _ _ _ _).2 q]
    obtain ⟨σ', s1⟩ := (r_areSets hr ok hz zr a1 a2 a3 a4).2 q
    exact ⟨-1, σ, σ', rfl, by rw [s1]; rfl⟩
/-- in JAIL -/
def Sv.jailed (z : Sv) (t : Nat) : Sv := svK z.wh z.hr (z.jl ||| nI (2 ^ t))
theorem core_11 (a1 a2 a3 a4 : Int32) (hV : Vof c σ) (hcc : c = 12 ∨ c = 28) (hnow : Inow σ) (hacts : Iacts σ) : ∃ (r : Int32) (σ1 σ2 : St_), mX11_theft 0 c dr a1 a2 a3 a4 σ = some (r, σ1) ∧ mX12_theft 233 a1 a2 a3 a4 σ1 = some (r, σ2) ∧ Inow σ2 ∧ Iacts σ2 := by
  obtain ⟨v, ok, hc, hr, h1, h2, h3, h4, -⟩ := hV
  obtain ⟨z, hz, zc, zr, ⟨n, n1, n2, n3⟩, ⟨jm, j1, j2⟩, cr⟩ := now_of ok h1 h2 h3 h4 hnow
  obtain ⟨hN, f, p, m, hf, hp, hm, b1, b2, b3, b4, b5, h9, h10, h11⟩ := id hacts
  have oR := ok.R
  have oT := ok.T
  have oN := ok.N
  have hzr := hz.hr
  have c10 : bin (10 : Int32) 20 = true := by decide
  have d10 : (10 : Int32).toNatClampNeg = 10 := rfl
  have zjl : z.jl = nI jm := by rw [← zc.jl]; exact j2
  by_cases q : n = 200
  · subst q
    refine ⟨-1, σ, σ, ?_, ?_, hnow, hacts⟩
    · unfold mX11_theft
      rw [show 0 + 44 = 44 from rfl, n2, if_pos (by decide)]
    · unfold mX12_theft
      rw [c10, if_pos rfl, d10, show 233 + 29 = 262 from rfl]
      dsimp only [bnd]
      rw [show σ.1 262 10 = nI 200 from n3]
      rfl
  have nlt : ¬ (200 : Int32) ≤ nI n := nI_ge (b := 200) (by omega) (by omega)
  have nne : ¬ nI n = (200 : Int32) := fun e => q (pn_inj (b := 200) (by omega) (by omega) e)
  by_cases th : isTh v z a1 a2 a3 a4
  case neg =>
    obtain ⟨σ', s1⟩ := (r_areSets hr ok hz zr a1 a2 a3 a4).2 th
    have F : ∀ a k, ¬ (a = 263 ∨ (a = 233 ∧ (k = 62 ∨ k = 63))) → σ'.1 a k = σ.1 a k := fun a k q => (fX12_areSets _ _ _ _ _ _ _ s1 a k (by unfold MOD_X12_areSets; omega)).1
    refine ⟨-1, σ, σ', ?_, ?_, hnow.fr (c := c) (fun a k q => F a k (by unfold FPnow FPnums at q; omega)), hacts.fr (c := c) (fun a k q => F a k (by unfold FPacts FPnums at q; omega))⟩
    · unfold mX11_theft
      rw [show 0 + 44 = 44 from rfl, n2, if_neg nlt, (c_isTheft hc ok zc _ _ _ _).2 th]
      rfl
    · unfold mX12_theft
      rw [c10, if_pos rfl, d10, show 233 + 29 = 262 from rfl]
      dsimp only [bnd]
      rw [show σ.1 262 10 = nI n from n3, if_neg nne, s1]
      rfl
  obtain ⟨t, h, ht, hh, rfl, rfl, e3, e4, e5, e6, e7⟩ := id th
  obtain ⟨m1, m1l, rfl⟩ := subS_nI ok e4
  obtain ⟨m2, m2l, rfl⟩ := subS_nI ok e6
  cases can : aCan v z t h (nI m1) (nI m2)
  · obtain ⟨σ', s1, s2⟩ := (r_areSets hr ok hz zr _ _ _ _).1 th
    have F : ∀ a k, ¬ (a = 263 ∨ (a = 233 ∧ (k = 62 ∨ k = 63))) → σ'.1 a k = σ.1 a k := fun a k q => (fX12_areSets _ _ _ _ _ _ _ s1 a k (by unfold MOD_X12_areSets; omega)).1
    refine ⟨-1, σ, σ', ?_, ?_, hnow.fr (c := c) (fun a k q => F a k (by unfold FPnow FPnums at q; omega)), hacts.fr (c := c) (fun a k q => F a k (by unfold FPacts FPnums at q; omega))⟩
    · unfold mX11_theft
      rw [show 0 + 44 = 44 from rfl, n2, if_neg nlt, (c_isTheft hc ok zc _ _ _ _).1 th]
      dsimp only [Option.bind]
      rw [if_pos rfl, c_canBe hc ok zc ht hh m1l m2l, can]
      rfl
    · unfold mX12_theft
      rw [c10, if_pos rfl, d10, show 233 + 29 = 262 from rfl]
      dsimp only [bnd]
      rw [show σ.1 262 10 = nI n from n3, if_neg nne, s1]
      dsimp only [Option.bind]
      rw [if_pos rfl, r_canBe (hr.fr (fun a k q => F a k (by unfold FPr at q; omega))) ok hz s2 ht hh, can]
      rfl
  -- what is common: z5 is the state ahead of the HOUR's end; cw the crimes
  have common : ∀ (z5 : Sv) (r : Int32) (A : St_) (cw : Nat → Int32), Sv.OK v z5 → (∃ jm, jm < 2 ^ v.T ∧ z5.jl = nI jm) → CS v 44 z5 A → (∀ a k, ¬ (c + 14 ≤ a ∧ a < c + 16) → ¬ (44 ≤ a ∧ a ≤ 46) → A.1 a k = σ.1 a k) → A.1 44 2 = nI n → (∀ k, k < 4 → A.1 46 k = cw k) → mX11_theft 0 c dr (nI t) (nI h) (nI m1) (nI m2) σ = ((mX8_passHour 44 (A.1 c 0) A).bind fun σ8 => ((mX0_add 47 44 σ8).bind fun σ9 => (some (r, σ9)))) →
      (∀ B E : St_, RV v E → RW v z E → (∀ k, k < 20 → E.1 262 k = B.1 262 k) → (∀ k, k < 20 → B.1 262 k = σ.1 262 k) → ∃ G : St_, RW v z5 G ∧ (∀ a k, ¬ (a = 263 ∨ a = 242 ∨ a = 243 ∨ (a = 233 ∧ (k = 62 ∨ k = 63)) ∨ (a = 262 ∧ 13 ≤ k ∧ k < 17)) → G.1 a k = E.1 a k) ∧ (∀ k, k < 4 → G.1 262 (13 + k) = cw k) ∧ ((mX12_isSeen 233 (nI h) E).bind fun r5 => (if r5 = true then ((mX12_keepOn 233 (sI E 233 63 ((E.1 233 63) ||| ((1 : Int32) <<< (nI t &&& 31))))).bind fun σ10 => (some ((2 : Int32), σ10))) else (if bin (nI t) 4 = true then ((mX12_isLawful 233 (nI h) (nI m1) (nI m2) (E.1 233 62) (E.1 260 (nI t).toNatClampNeg) E).bind fun r13 => ((mX12_truth r13.1 r13.2).bind fun r14 => (if bin ((13 : Int32) + nI t) 20 = true then (if bin ((13 : Int32) + nI t) 20 = true then ((mX12_move 233 (nI t) (nI h) (nI m1) (nI m2) (sI r13.2 262 ((13 : Int32) + nI t).toNatClampNeg (r13.2.1 262 ((13 : Int32) + nI t).toNatClampNeg + ((1 : Int32) - r14)))).bind fun σ18 => ((mX12_keepOn 233 σ18).bind fun σ10 => (some (r14, σ10)))) else none) else none))) else none))) = ((mX12_keepOn 233 G).bind fun σ10 => (some (r, σ10)))) →
      ∃ (r : Int32) (σ1 σ2 : St_), mX11_theft 0 c dr (nI t) (nI h) (nI m1) (nI m2) σ = some (r, σ1) ∧ mX12_theft 233 (nI t) (nI h) (nI m1) (nI m2) σ1 = some (r, σ2) ∧ Inow σ2 ∧ Iacts σ2 := by
    intro z5 r A cw hz5 hj5 csA Af A2 Acw cls rf
    have hcA : CV c v A := by
      refine hc.fr (fun a k q => Af a k ?_ ?_)
      · unfold FPc at q; omega
      · unfold FPc at q; omega
    obtain ⟨A1, B, y1, y2, y3, y4, y5, y6, y7, y8, y9, y10, y11, y12⟩ := cls_end ok hz5 hcc hcA csA hf (show p ≤ 40 by omega) (by rw [Af _ _ (by omega) (by omega)]; exact b1) (by rw [Af _ _ (by omega) (by omega)]; exact b3)
    rw [y1] at cls
    dsimp only [Option.bind] at cls
    rw [y2] at cls
    dsimp only at cls
    have hw : (fN f p + pN p) % 41 < 41 := Nat.mod_lt _ (by omega)
    generalize hwe : (fN f p + pN p) % 41 = w at *
    have Bf : ∀ a k, 172 ≤ a → B.1 a k = σ.1 a k := fun a k q => by rw [y12 a k (by omega) (by omega) (by omega), Af a k (by omega) (by omega)]
    have hrB : RV v B := hr.fr (fun a k q => Bf a k (by unfold FPr at q; omega))
    have zrB : RN v 262 0 z B := zr.fr ok.N (fun k _ _ => Bf _ _ (by omega))
    obtain ⟨B', s1, s2⟩ := (r_areSets hrB ok hz zrB _ _ _ _).1 th
    have F : ∀ a k, ¬ (a = 263 ∨ (a = 233 ∧ (k = 62 ∨ k = 63))) → B'.1 a k = B.1 a k := fun a k q => (fX12_areSets _ _ _ _ _ _ _ s1 a k (by unfold MOD_X12_areSets; omega)).1
    have hrB' : RV v B' := hrB.fr (fun a k q => F a k (by unfold FPr at q; omega))
    obtain ⟨E, d1, d2, d3, d4, d5, d6⟩ := r_act (σ := B') (p := p) (by omega) (by rw [F _ _ (by omega), Bf _ _ (by omega)]; exact b4)
    have hrE : RV v E := hrB'.fr (fun a k q => d6 a k (by unfold FPr at q; omega) (by unfold FPr at q; omega))
    have rwE : RW v z E := s2.fr (fun a k q => d6 a k (by omega) (by omega))
    obtain ⟨G, G1, G2, G3, G4⟩ := rf B E hrE rwE (fun k hk => by rw [d6 _ _ (by omega) (by omega), F _ _ (by omega)]) (fun k hk => Bf _ _ (by omega))
    have hrG : RV v G := hrE.fr (fun a k q => G2 a k (by unfold FPr at q; omega))
    obtain ⟨D, k1, k2, k3, k4, k5⟩ := r_keepOn hrG ok hz5 G1
    rw [k1] at G4
    dsimp only [Option.bind] at G4
    have E10 : ∀ k, k < 13 → G.1 262 k = σ.1 262 k := fun k hk => by rw [G2 _ _ (by omega), d6 _ _ (by omega) (by omega), F _ _ (by omega), Bf _ _ (by omega)]
    have Dc : ∀ a k, a < 233 → D.1 a k = B.1 a k := fun a k q => by rw [k5 a k (by omega) (by omega), G2 a k (by omega), d6 a k (by omega) (by omega), F _ _ (by omega)]
    have nums : ∀ k, 51 ≤ k → k ≤ 55 → D.1 233 k = σ.1 233 k := fun k q1 q2 => by rw [k5 _ _ (by omega) (by omega), G2 _ _ (by omega), d6 _ _ (by omega) (by omega), F _ _ (by omega), Bf _ _ (by omega)]
    obtain ⟨g2, g3, g4, g5⟩ := nums_of nums
    have csD : CS v 44 (z5.tick v) D := y3.fr (fun a k q => Dc a k (by omega))
    have rest : Irest v.T 44 262 0 D := by
      refine ⟨?_, ?_, fun t ht => ?_⟩
      · rw [Dc _ _ (by omega), y4, Nat.zero_add, k4, A2, E10 10 (by omega), show σ.1 262 10 = nI n from n3]
        by_cases w : z5.hr + 1 < v.R
        · rw [if_pos w]; exact ⟨n, by omega, rfl, rfl⟩
        · rw [if_neg w]; exact ⟨n + 1, by omega, nI_1 n, nI_1 n⟩
      · rw [csD.jl]
        unfold Sv.tick
        by_cases w : z5.hr + 1 < v.R
        · rw [if_pos w]; exact hj5
        · rw [if_neg w]; exact ⟨0, Nat.two_pow_pos _, rfl⟩
      · rw [Dc _ _ (by omega), y5, Acw t ht, k5 _ _ (by omega) (by omega), Nat.zero_add, G3 t ht]
    have inow : ISn D 44 262 0 := by
      show IS (nN D) (nH D) (nT D) (nR D) _ _ _ D
      rw [g2, g3, g4, g5, ← h1, ← h2, ← h3, ← h4]
      exact IS_of ok (tick_OK ok hz5) csD k2 rest
    refine ⟨r, B, D, cls, ?_, ⟨by rw [g2]; exact hN, inow⟩, ?_⟩
    · unfold mX12_theft
      rw [c10, if_pos rfl, d10, show 233 + 29 = 262 from rfl]
      dsimp only [bnd]
      rw [Bf _ _ (by omega), show σ.1 262 10 = nI n from n3, if_neg nne, s1]
      dsimp only [Option.bind]
      rw [if_pos rfl, r_canBe hrB' ok hz s2 ht hh, can]
      dsimp only
      rw [if_pos rfl, d1]
      dsimp only
      exact G4
    · refine acts_add hN hf hp hm h9 h11 nums (by rw [Dc _ _ (by omega)]; exact y6) (by rw [Dc _ _ (by omega)]; exact y7) (by rw [Dc _ _ (by omega)]; exact y8) (fun k hk => ?_) (fun k hk => ?_) (fun k q1 q2 => ?_) (fun a k q1 q2 q3 => ?_) ?_ ?_ (fun k hk => ?_) (fun j hj k hk => ?_) inow
      · rw [hwe, Dc _ _ (by omega), Dc _ _ (by omega)]; exact y9 k hk
      · rw [hwe, Dc _ _ (by omega), Dc _ _ (by omega)]; exact y10 k hk
      · rw [hwe, Dc _ _ (by omega), Dc _ _ (by omega)]; exact y11 k q1 q2
      · rw [hwe] at q3
        rw [Dc _ _ (by omega), y12 a k (by omega) (by omega) q3, Af a k (by omega) (by omega)]
      · rw [k5 _ _ (by omega) (by omega), G2 _ _ (by omega)]; exact d2
      · rw [k5 _ _ (by omega) (by omega), G2 _ _ (by omega)]; exact d3
      · rw [k5 _ _ (by omega) (by omega), G2 _ _ (by omega), d4 k hk, F _ _ (by omega), Bf _ _ (by omega)]
      · rw [k5 _ _ (by omega) (by omega), G2 _ _ (by omega), d5 j hj k hk, F _ _ (by omega), Bf _ _ (by omega)]
  -- the class' road to its end
  have head : mX11_theft 0 c dr (nI t) (nI h) (nI m1) (nI m2) σ = (if tb (v.wa h) z.hr = true then ((mX8_passHour 44 ((sI σ 44 4 (σ.1 44 4 ||| ((1 : Int32) <<< (nI t &&& 31)))).1 c 0) (sI σ 44 4 (σ.1 44 4 ||| ((1 : Int32) <<< (nI t &&& 31))))).bind fun σ8 => ((mX0_add 47 44 σ8).bind fun σ9 => (some ((2 : Int32), σ9)))) else ((mX1_isLawful c (nI h) (nI m1) (nI m2) (nI z.hr) (v.sl t) σ).bind fun r12 => (bnd (fun (j13 : Bool) => ((mX8_exchange 44 (nI t) (nI h) (nI m1) (nI m2) r12.2).bind fun σ16 => ((mX8_passHour 44 ((sI σ16 46 t (σ16.1 46 t + ((1 : Int32) - (b2i j13)))).1 c 0) (sI σ16 46 t (σ16.1 46 t + ((1 : Int32) - (b2i j13))))).bind fun σ8 => ((mX0_add 47 44 σ8).bind fun σ9 => (some ((b2i j13), σ9)))))) fun k14 => (if r12.1 = true then (k14 true) else (k14 false))))) := by
    unfold mX11_theft
    rw [show 0 + 44 = 44 from rfl, show 0 + 47 = 47 from rfl, n2, if_neg nlt, (c_isTheft hc ok zc _ _ _ _).1 th]
    dsimp only [Option.bind, bnd]
    rw [if_pos rfl, c_canBe hc ok zc ht hh m1l m2l, can]
    dsimp only
    rw [if_pos rfl, zc.hr, c_isSeen hc ok hh (by omega)]
    dsimp only
    rw [binn (show t < 4 by omega) (by omega), pn_cl (show t < 2 ^ 31 by omega), hc.sl t ht]
    simp only [if_true]
  by_cases sn : tb (v.wa h) z.hr = true
  · rw [if_pos sn] at head
    have jn : σ.1 44 4 ||| ((1 : Int32) <<< (nI t &&& 31)) = z.jl ||| nI (2 ^ t) := by rw [zc.jl, shl_nI (by omega)]
    rw [jn] at head
    refine common (z.jailed t) 2 (sI σ 44 4 (z.jl ||| nI (2 ^ t))) (fun k => σ.1 46 k) ⟨hz.wh, hz.hr⟩ ⟨jm ||| 2 ^ t, Nat.or_lt_two_pow j1 (Nat.pow_lt_pow_right (by omega) ht), ?_⟩ ⟨fun y hy => ?_, ?_, ?_⟩ (fun a k q1 q2 => by rw [sI_get, if_neg (by omega)]) (by rw [sI_get, if_neg (by omega)]; exact n2) (fun k hk => by rw [sI_get, if_neg (by omega)]) head ?_
    · show z.jl ||| nI (2 ^ t) = _
      rw [zjl, nI_or]
    · rw [sI_get, if_neg (by omega)]; exact zc.held y hy
    · rw [sI_get, if_neg (by omega)]; exact zc.hr
    · rw [sI_get, if_pos ⟨rfl, rfl⟩]; rfl
    · intro B E hrE rwE EB Bs
      have jnE : E.1 233 63 ||| ((1 : Int32) <<< (nI t &&& 31)) = z.jl ||| nI (2 ^ t) := by rw [rwE.jl, shl_nI (by omega)]
      refine ⟨sI E 233 63 (z.jl ||| nI (2 ^ t)), ⟨fun x hx => ?_, fun x q1 q2 => ?_, ?_, ?_⟩, fun a k q => by rw [sI_get, if_neg (by omega)], fun k hk => ?_, ?_⟩
      · rw [sI_get, if_neg (by omega)]; exact rwE.wh x hx
      · rw [sI_get, if_neg (by omega)]; exact rwE.no x q1 q2
      · rw [sI_get, if_neg (by omega)]; exact rwE.hr
      · rw [sI_get, if_pos ⟨rfl, rfl⟩]; rfl
      · rw [sI_get, if_neg (by omega), EB _ (by omega), Bs _ (by omega)]
        have := cr k hk
        rw [show 0 + 13 + k = 13 + k by omega] at this
        exact this.symm
      · rw [r_isSeen hrE ok hh (by omega) rwE.hr, sn, jnE]
        rfl
  · rw [if_neg sn] at head
    obtain ⟨σ1, u1⟩ := c_isLawful hc ok hh m1l m2l (nI z.hr) (v.sl t)
    have F1 : ∀ a k, ¬ (c + 14 ≤ a ∧ a < c + 16) → σ1.1 a k = σ.1 a k := fun a k q => (fX1_isLawful _ _ _ _ _ _ _ _ u1 a k (by unfold MOD_X1_isLawful; omega)).1
    have zc1 : CS v 44 z σ1 := zc.fr (fun a k q => F1 a k (by omega))
    obtain ⟨σ2, x1, x2, x3⟩ := c_exchange ok zc1 ht hh e4 e6
    generalize hL : aLaw v h (nI m1) (nI m2) (nI z.hr) (v.sl t) = L at u1
    have e46 : σ2.1 46 t = σ.1 46 t := by rw [x3 _ _ (by omega), F1 _ _ (by omega)]
    have hd : mX11_theft 0 c dr (nI t) (nI h) (nI m1) (nI m2) σ = ((mX8_passHour 44 ((sI σ2 46 t (σ.1 46 t + ((1 : Int32) - (b2i L)))).1 c 0) (sI σ2 46 t (σ.1 46 t + ((1 : Int32) - (b2i L))))).bind fun σ8 => ((mX0_add 47 44 σ8).bind fun σ9 => (some ((b2i L), σ9)))) := by
      rw [head, u1]
      dsimp only [Option.bind, bnd]
      rw [x1]
      dsimp only
      rw [e46]
      cases L <;> rfl
    refine common (z.move t h (nI m1) (nI m2)) (b2i L) (sI σ2 46 t (σ.1 46 t + ((1 : Int32) - (b2i L)))) (fun k => if k = t then σ.1 46 t + ((1 : Int32) - (b2i L)) else σ.1 46 k) (move_OK hz ht hh _ _) ⟨jm, j1, zjl⟩ (x2.fr (fun a k q => by rw [sI_get, if_neg (by omega)])) (fun a k q1 q2 => ?_) ?_ (fun k hk => ?_) hd ?_
    · rw [sI_get, if_neg (by omega), x3 _ _ (by omega), F1 _ _ (by omega)]
    · rw [sI_get, if_neg (by omega), x3 _ _ (by omega), F1 _ _ (by omega)]; exact n2
    · rw [sI_get]
      by_cases e : k = t
      · rw [if_pos ⟨rfl, e⟩, if_pos e]
      · rw [if_neg (fun w => e w.2), if_neg e, x3 _ _ (by omega), F1 _ _ (by omega)]
    · intro B E hrE rwE EB Bs
      obtain ⟨E1, w1⟩ := r_isLawful hrE ok hh (nI m1) (nI m2) (nI z.hr) (v.sl t)
      rw [hL] at w1
      have FE : ∀ a k, ¬ (a = 242 ∨ a = 243) → E1.1 a k = E.1 a k := fun a k q => (fX12_isLawful _ _ _ _ _ _ _ _ w1 a k (by unfold MOD_X12_isLawful; omega)).1
      have e13 : (13 : Int32) + nI t = nI (13 + t) := nI_add 13 t
      have crt : E1.1 262 (13 + t) = σ.1 46 t := by
        have := cr t (by omega)
        rw [show 0 + 13 + t = 13 + t by omega] at this
        rw [FE _ _ (by omega), EB _ (by omega), Bs _ (by omega)]
        exact this.symm
      have hrE2 : RV v (sI E1 262 (13 + t) (σ.1 46 t + (1 - b2i L))) := hrE.fr (fun a k q => by rw [sI_get, if_neg (by unfold FPr at q; omega), FE _ _ (by unfold FPr at q; omega)])
      have rwE2 : RW v z (sI E1 262 (13 + t) (σ.1 46 t + (1 - b2i L))) := rwE.fr (fun a k q => by rw [sI_get, if_neg (by omega), FE _ _ (by omega)])
      obtain ⟨G, v1, v2, v3⟩ := r_move hrE2 ok rwE2 ht hh (nI m1) (nI m2)
      refine ⟨G, v2, fun a k q => ?_, fun k hk => ?_, ?_⟩
      · rw [v3 _ _ (by omega), sI_get, if_neg (by omega), FE _ _ (by omega)]
      · rw [v3 _ _ (by omega), sI_get]
        by_cases e : k = t
        · rw [if_pos ⟨rfl, by omega⟩, if_pos e]
        · rw [if_neg (by omega), if_neg e, FE _ _ (by omega), EB _ (by omega), Bs _ (by omega)]
          have := cr k hk
          rw [show 0 + 13 + k = 13 + k by omega] at this
          exact this.symm
      · rw [r_isSeen hrE ok hh (by omega) rwE.hr]
        dsimp only [Option.bind]
        rw [if_neg sn, binn (show t < 4 by omega) (by omega), if_pos rfl, pn_cl (show t < 2 ^ 31 by omega), hrE.sl t ht, rwE.hr, w1]
        dsimp only
        have tr : ∀ ρ : St_, mX12_truth L ρ = some (b2i L) := fun ρ => by rw [truth_eq]; cases L <;> rfl
        rw [tr]
        dsimp only
        rw [e13, binn (show 13 + t < 20 by omega) (by omega), if_pos rfl, if_pos rfl, pn_cl (show 13 + t < 2 ^ 31 by omega), crt, v1]
end THEFT2
