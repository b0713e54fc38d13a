/-! not, a relation, units, brackets; then all methods by depth -/
section LAWMETH2
variable {σ σ' ρ ρ' : St_} {n i d u k x a m : Nat} {T : Nat → Nat} {τ : Tkn} {lc lr : List (Nat × Int32)} {S P : List Nat} {rc : Nat → Nat → Nat → Int32 → St_ → Option (Bool × St_)}
theorem sg_34 (h : ¬ sgT τ = 0) (h4 : tgt (sgT τ) < 4) : tgt (sgT τ) < 3 := by
  rcases sgT_cases τ with ⟨-, -, e⟩ | ⟨-, -, e⟩ | ⟨f, e⟩ | ⟨f, e⟩ | ⟨f, e⟩ | ⟨e, -⟩
  · rw [e]; decide
  · rw [e]; decide
  · exfalso; rw [e] at h4; rcases f with f | f | f <;> rw [f] at h4 <;> exact absurd h4 (by decide)
  · exfalso; rw [e] at h4; rcases f with f | f <;> rw [f] at h4 <;> exact absurd h4 (by decide)
  · exfalso; rw [e] at h4; rcases f with f | f | f <;> rw [f] at h4 <;> exact absurd h4 (by decide)
  · exact absurd e h
theorem m_one (hd : 12 ≤ d) (hN : RcW rc T n d 3 4 3 x tcN) (hR : RcW rc T n d 4 5 5 x tcU) (hG : LGw T n i τ d lc lc S u k σ ρ) (hT : Tpw 4 S) (hx : nst S = x) (hb9 : lc.length + nb S ≤ 9 * u + nst S) (ha : 1710 ≤ a + i) (hm : 1710 ≤ m + i) : XOk 3 T n d (i + 1) S (k + 1) σ ρ (RU KLw a m ρ) (mX2_readOne_b rc 2 (d + 11) (nI x) σ) := by
  unfold mX2_readOne_b
  rw [show 2 + 1 = 3 from rfl, show (17 : Int32) = nI 17 from rfl, c_isWord hG.1.1 (by omega), obs_eq]
  by_cases q : τ.1 = 1 ∧ wnum τ.2.2.1 = some 17
  · rw [decide_eq_true q, if_pos rfl]
    obtain ⟨b, σ', h1, h2⟩ := hN i τ lc S u k σ ρ a m hG hT hx hb9 ha hm q
    rw [h1, obs_eq]
    exact ⟨b, σ', rfl, h2⟩
  · rw [decide_eq_false q, if_neg (by simp)]
    refine XOk.step (hR i τ lc S u k σ ρ a m hG (hT.mono (by omega)) hx hb9 ha hm (fun w => q w.1)) (fun σ1 => if_neg (by simp)) (fun i' τ' P lr u' σ1 ρ' m' g1 g2 g3 g4 g5 g6 => ?_)
    have h256 := g3.1.1.2.2.1.1
    have hi' := g3.1.1.2.1
    have s1 : mX10_isSign 3 (60 : Int32) σ1 = some (decide (τ'.1 = 60)) := c_isSign (c := 60) g3.1.1 (by omega) (by omega)
    have s2 : mX10_isSign 3 (62 : Int32) σ1 = some (decide (τ'.1 = 62)) := c_isSign (c := 62) g3.1.1 (by omega) (by omega)
    have s3 : mX10_isSign 3 (61 : Int32) σ1 = some (decide (τ'.1 = 61)) := c_isSign (c := 61) g3.1.1 (by omega) (by omega)
    have pick : ∀ (X Y : Option (Bool × St_)), (if decide (τ'.1 = 60) = true then X else if decide (τ'.1 = 62) = true then X else if decide (τ'.1 = 61) = true then X else Y) = if τ'.1 = 60 ∨ τ'.1 = 61 ∨ τ'.1 = 62 then X else Y := by
      intro X Y
      by_cases q1 : τ'.1 = 60
      · rw [decide_eq_true q1, if_pos rfl, if_pos (Or.inl q1)]
      · rw [decide_eq_false q1, if_neg (by simp)]
        by_cases q2 : τ'.1 = 62
        · rw [decide_eq_true q2, if_pos rfl, if_pos (Or.inr (Or.inr q2))]
        · rw [decide_eq_false q2, if_neg (by simp)]
          by_cases q3 : τ'.1 = 61
          · rw [decide_eq_true q3, if_pos rfl, if_pos (Or.inr (Or.inl q3))]
          · rw [decide_eq_false q3, if_neg (by simp), if_neg (by omega)]
    rw [if_pos rfl, s1, s2, s3]
    simp only [bnd_eq, obs_eq]
    rw [pick]
    by_cases qr : τ'.1 = 60 ∨ τ'.1 = 61 ∨ τ'.1 = 62
    · obtain ⟨r1, r2⟩ := sgq4.mpr qr
      obtain ⟨y1, y2, y3⟩ := sg_sign r1
      obtain ⟨m1, rfl⟩ : ∃ m1, m' = m1 + 1 := ⟨m' - 1, by omega⟩
      obtain ⟨τ1, ρ1, a1, a2, a3, a4, a5, a6, a7⟩ := h_sign (K := KLw) g3 hd rfl (fun o ho => ⟨(g4 o ho).1, by have := (g4 o ho).2; omega⟩) r1 (fun w => by rw [relS_tight P S g4, hT.rel] at w; cases w.2) hT (by omega) g5 m1
      have n1 : nst (sgT τ' :: S) = x := by
        conv => lhs; unfold nst
        rw [if_neg (by omega)]; omega
      rw [if_pos qr, c_numS g3.1.1 (by omega), obs_eq, a1, obs_eq]
      obtain ⟨b, σ2, c1, c2, c3, c4⟩ := hR (i' + 1) τ1 _ (sgT τ' :: S) u' (k + 1) _ ρ1 FU m1 a3 (a6.mono (by omega)) n1 a7 (by unfold FU; omega) (by omega) (mn_tight (by omega) y3 τ1 S u')
      rw [c1, obs_eq]
      cases b
      · rw [if_neg (by simp)]
        obtain ⟨ρ2, e1, e2, e3⟩ := c4 rfl
        exact ⟨false, σ2, rfl, a5.tr c2, fun w => (by cases w), fun _ => ⟨ρ2, by rw [a2, e1], e2, a4.tr e3⟩⟩
      · rw [if_pos rfl]
        obtain ⟨i2, τ2, P2, lr2, u2, ρ2, m2, e1, e2, e3, e4, e5, e6, e7, e8⟩ := c3 rfl
        have hk2 := e5.2.2.2.2.2.2.2.2.2
        have hx2 := e5.2.2.2.2.2.2.2.2.1
        obtain ⟨σ5, p1, p2, p3⟩ := put_ok (k1 := k + 1) e5 hd (fun o ho => (e6 o ho).1) y3 (lwx_bin hx2 y1 y2) (by omega) e7
        rw [sgv_c r1 (by omega) h256] at p1
        rw [p1, obs_eq]
        have eP : (P2 ++ [sgT τ']) ++ S = P2 ++ sgT τ' :: S := by simp
        have rl : relS (P2 ++ [sgT τ']) = true := by
          rw [relS_tight P2 _ e6]
          unfold relS
          rw [if_neg y3, if_pos (by omega), decide_eq_true r2]
        refine ⟨true, σ5, rfl, (a5.tr c2).tr p3, fun _ => ⟨i2, τ2, P2 ++ [sgT τ'], lr2, u2, ρ2, m2, by rw [a2, e1], e2, by omega, a4.tr e4, p2, fun o ho => ?_, by rw [eP]; exact e7, ?_⟩, fun w => by cases w⟩
        · rcases List.mem_append.mp ho with w | w
          · exact ⟨(e6 o w).1, by have := (e6 o w).2; omega⟩
          · rw [List.mem_singleton.mp w]
            exact ⟨y3, by omega⟩
        · by_cases q0 : sgT τ2 = 0
          · exact Or.inl q0
          · by_cases q4 : tgt (sgT τ2) = 4
            · exact Or.inr (Or.inr ⟨q4, rl⟩)
            · rcases e8 with w | w | w
              · exact absurd w q0
              · exact Or.inr (Or.inl (sg_34 q0 (by omega)))
              · exact absurd w.1 q4
    · rw [if_neg qr]
      refine ⟨true, σ1, rfl, CLw.rfl', fun _ => ⟨i', τ', P, lr, u', ρ', m', rfl, g1, Nat.le_refl _, RLw.rfl', g3, fun o ho => ⟨(g4 o ho).1, by have := (g4 o ho).2; omega⟩, g5, ?_⟩, fun w => by cases w⟩
      by_cases q0 : sgT τ' = 0
      · exact Or.inl q0
      · have q4 : ¬ tgt (sgT τ') = 4 := fun w => qr (sgq4.mp ⟨q0, w⟩)
        rcases g6 with w | w | w
        · exact absurd w q0
        · exact Or.inr (Or.inl (sg_34 q0 (by omega)))
        · exact absurd w.1 q4
theorem m_not (hd : 12 ≤ d) (hR : x ≤ 6 → RcW rc T n d 2 4 3 (x + 1) tcT) (hG : LGw T n i τ d lc lc S u k σ ρ) (hT : Tpw 4 S) (hx : nst S = x) (hb9 : lc.length + nb S ≤ 9 * u + nst S) (ha : 1710 ≤ a + i) (hm : 1710 ≤ m + i) (htc : tcN τ S u) : XOk 3 T n d (i + 1) S (k + 1) σ ρ (RU KLw a m ρ) (mX2_readNot_b rc 2 (d + 11) (nI x) σ) := by
  have hi := hG.1.1.2.1
  have x7 := hG.2.2.2.2.2.2.2.1.1
  obtain ⟨a1, rfl⟩ : ∃ a1, a = a1 + 1 + 1 := ⟨a - 2, by omega⟩
  obtain ⟨m1, rfl⟩ : ∃ m1, m = m1 + 1 := ⟨m - 1, by omega⟩
  unfold mX2_readNot_b
  rw [show 2 + 1 = 3 from rfl]
  by_cases h6 : x ≤ 6
  · obtain ⟨τ1, ρ1, b1, b2, b3, b4, b5, b6, b7⟩ := u_not (K := KLw) hG hd htc hT (by omega) hb9 (a1 + 1) (m1 + 1)
    have n1 : nst (21 :: S) = x + 1 := by
      conv => lhs; unfold nst
      rw [if_pos (Or.inr rfl)]; omega
    rw [if_pos (show nI x ≤ (6 : Int32) from nI_le (b := 6) h6 (by omega)), b1, obs_eq, nI_1]
    obtain ⟨b, σ2, c1, c2, c3, c4⟩ := hR h6 (i + 1) τ1 _ (21 :: S) u k _ ρ1 (a1 + 1) (m1 + 1) b3 b6 n1 b7 (by omega) (by omega) trivial
    rw [c1, obs_eq]
    cases b
    · rw [if_neg (by simp)]
      obtain ⟨ρ2, e1, e2, e3⟩ := c4 rfl
      exact ⟨false, σ2, rfl, b5.tr c2, fun w => (by cases w), fun _ => ⟨ρ2, by rw [b2, e1], e2, b4.tr e3⟩⟩
    · rw [if_pos rfl]
      obtain ⟨i2, τ2, P2, lr2, u2, ρ2, m2, e1, e2, e3, e4, e5, e6, e7, e8⟩ := c3 rfl
      have hk2 := e5.2.2.2.2.2.2.2.2.2
      have hx2 := e5.2.2.2.2.2.2.2.2.1
      obtain ⟨σ5, p1, p2, p3⟩ := put_ok (k1 := k + 1) e5 hd (fun o ho => (e6 o ho).1) (by omega) (lwx_not hx2) (by omega) e7
      rw [show lstepC (sto 21) = 2 by decide] at p1
      rw [p1, obs_eq]
      have eP : (P2 ++ [21]) ++ S = P2 ++ 21 :: S := by simp
      refine ⟨true, σ5, rfl, (b5.tr c2).tr p3, fun _ => ⟨i2, τ2, P2 ++ [21], lr2, u2, ρ2, m2, by rw [b2, e1], e2, by omega, b4.tr e4, p2, fun o ho => ?_, by rw [eP]; exact e7, ?_⟩, fun w => by cases w⟩
      · rcases List.mem_append.mp ho with w | w
        · exact e6 o w
        · rw [List.mem_singleton.mp w]
          exact ⟨by omega, by decide⟩
      · rcases e8 with w | w | w
        · exact Or.inl w
        · exact Or.inr (Or.inl w)
        · exact Or.inr (Or.inr ⟨w.1, relS_app _ _ w.2⟩)
  · obtain ⟨σf, ρf, f1, f2, f3, f4, f5⟩ := u_not_bad (K := KLw) hG htc hT (by omega) a1 m1
    rw [if_neg (show ¬ nI x ≤ (6 : Int32) from nI_ge (a := 6) (by omega) (by omega)), f1, obs_eq]
    exact ⟨false, σf, rfl, f5, fun w => (by cases w), fun _ => ⟨ρf, by rw [f2, kl_fault f3.2.2], f3, f4⟩⟩
theorem m_unit (hd : 12 ≤ d) (hI : RcW rc T n d 7 7 7 x tcB) (hG : LGw T n i τ d lc lc S u k σ ρ) (hT : Tpw 7 S) (hx : nst S = x) (hb9 : lc.length + nb S ≤ 9 * u + nst S) (ha : 1710 ≤ a + i) (hm : 1710 ≤ m + i) (htc : tcU τ S u) : XOk 7 T n d (i + 1) S (k + 1) σ ρ (RU KLw a m ρ) (mX2_readUnit_b rc 2 (d + 11) (nI x) σ) := by
  have hi := hG.1.1.2.1
  have u30 := hG.2.2.2.2.2.2.1.2.2.2
  have uc := hG.2.2.2.2.2.2.1.1
  have ku := hG.2.2.2.2.2.2.2.2.2
  have kx := hG.2.2.2.2.2.2.2.2.1
  obtain ⟨a1, ea⟩ : ∃ a1, a = a1 + 1 + 1 := ⟨a - 2, by omega⟩
  obtain ⟨m1, em⟩ : ∃ m1, m = m1 + 1 := ⟨m - 1, by omega⟩
  have bad : (u = 30 ∨ (¬ τ.1 = 40 ∧ ¬ τ.1 = 2 ∧ askT τ = none)) → XOk 7 T n d (i + 1) S (k + 1) σ ρ (RU KLw a m ρ) ((mX10_refuse 3 σ).bind fun r => some (r.1, r.2)) := by
    intro hbad
    by_cases q40 : τ.1 = 40
    · obtain ⟨σf, ρf, f1, f2, f3, f4, f5⟩ := u_open_bad (K := KLw) hG q40 (hbad.imp id (fun w => absurd q40 w.1)) a1 m1
      rw [f1, obs_eq, ea, em]
      exact ⟨false, σf, rfl, f5, fun w => (by cases w), fun _ => ⟨ρf, by rw [f2, kl_fault f3.2.2], f3, f4⟩⟩
    · obtain ⟨f1, f2, f3⟩ := fau_of (σ := σ) (ρ := ρ) (x := if τ.1 = 3 then 1 else 2) rfl (two_pos (τ := τ)) (p := τ.2.1)
      rw [c_refuse hG.1.1, obs_eq, ea, em]
      refine ⟨false, _, rfl, ⟨fun e j w => by rw [sI_get, if_neg (by omega), sI_get, if_neg (by omega)], rfl⟩, fun w => (by cases w), fun _ => ⟨_, ?_, f1, f3.rl⟩⟩
      rw [ru_fall hG q40 htc, ku_bad hG (hbad.imp id (fun w => w.2)), obs_eq, rh_fault f1.2.2, kl_fault f1.2.2]
  have good : ∀ (q : Nat × Int32) (A σ' ρ' : St_) (τ' : Tkn), mX3_put (d + 11) (lstepC q) q.2 σ = some A → RU KLw a m ρ = RH KLw m ρ' → LGw T n (i + 1) τ' d (lc ++ [q]) (lc ++ [q]) S (u + 1) (k + 1) σ' ρ' → RLw ρ ρ' → CLw d σ σ' → (lc ++ [q]).length + nb S + 1 ≤ 9 * (u + 1) → XOk 7 T n d (i + 1) S (k + 1) σ ρ (RU KLw a m ρ) (some (true, σ')) := by
    intro q A σ' ρ' τ' g1 g2 g3 g4 g5 g6
    refine ⟨true, σ', rfl, g5, fun _ => ⟨i + 1, τ', [], lc ++ [q], u + 1, ρ', m, g2, by omega, Nat.le_refl _, g4, by simpa using g3, fun o ho => absurd ho List.not_mem_nil, by simpa using g6, Or.inr (Or.inl (tgt_lt (sgT_lt g3.1.2.1.1.1)))⟩, fun w => by cases w⟩
  unfold mX2_readUnit_b
  rw [uc, show 2 + 1 = 3 from rfl]
  by_cases h30 : u < 30
  · have s40 : mX10_isSign 3 (40 : Int32) σ = some (decide (τ.1 = 40)) := c_isSign (c := 40) hG.1.1 (by omega) (by omega)
    have s4 : mX10_isSort 3 (4 : Int32) σ = some (decide (cso τ = 4)) := c_isSort (s := 4) hG.1.1 (by omega)
    have s3 : mX10_isSort 3 (3 : Int32) σ = some (decide (cso τ = 3)) := c_isSort (s := 3) hG.1.1 (by omega)
    rw [if_pos (show nI u < (30 : Int32) from nI_lt (b := 30) h30 (by omega)), s40, obs_eq]
    by_cases q40 : τ.1 = 40
    · rw [decide_eq_true q40, if_pos rfl]
      obtain ⟨b, σ', h1, h2⟩ := hI i τ lc S u k σ ρ a m hG hT hx hb9 ha hm ⟨q40, h30⟩
      rw [h1, obs_eq]
      exact ⟨b, σ', rfl, h2⟩
    · rw [decide_eq_false q40, if_neg (by simp), s4, obs_eq]
      simp only [bnd_eq]
      by_cases q2 : τ.1 = 2
      · obtain ⟨A, D, F, τ', σ', ρ', l1, l2, l3, l4, l5, l6, l7, l8, l9, l10, l11⟩ := leaf_go hG hd (stop_2 q2) h30 hb9 (0, nI τ.2.2.2.1) (by show 0 ≤ 1; omega) (lwx_num kx (by omega))
        have l1' : mX3_put (d + 11) (0 : Int32) (nI τ.2.2.2.1) σ = some A := l1
        have l6' : mX12_add 233 (nI 0) (nI τ.2.2.2.1) D = some F := l6
        have h8 : ρ.1 233 8 = nI τ.2.2.2.1 := hG.1.2.1.2.2.2.2.2.1 q2
        rw [decide_eq_true (cso_num.mpr q2), if_pos rfl, c_numN hG.1.1 q2, obs_eq, l1', obs_eq, l2, nI_1, l3, obs_eq]
        refine good _ A σ' ρ' τ' l1 ?_ l8 l9 l10 l11
        rw [ea, ru_fall hG q40 htc, (ku_good hG h30 l4).1 q2, l5, h8, l6', obs_eq, l7, obs_eq]
      · rw [decide_eq_false (fun w => q2 (cso_num.mp w)), if_neg (by simp), s3, obs_eq]
        by_cases qw : τ.1 = 1 ∧ (wnum τ.2.2.1).isSome = true
        · obtain ⟨w, hw⟩ := Option.isSome_iff_exists.mp qw.2
          have wl := wnum_lt hw
          rw [decide_eq_true (cso_word.mpr qw), if_pos rfl, c_numW hG.1.1 qw.1 hw]
          simp only [obs_eq]
          by_cases q18 : w < 18
          · have qa : askT τ = none := by
              unfold askT
              rw [if_pos qw.1, hw]
              show (if 18 ≤ w then some (w - 18) else none) = none
              rw [if_neg (by omega)]
            rw [if_pos (show nI w < (18 : Int32) from nI_lt (b := 18) q18 (by omega))]
            exact bad (Or.inr ⟨q40, q2, qa⟩)
          · have qa : askT τ = some (w - 18) := by
              unfold askT
              rw [if_pos qw.1, hw]
              show (if 18 ≤ w then some (w - 18) else none) = some (w - 18)
              rw [if_pos (by omega)]
            obtain ⟨A, D, F, τ', σ', ρ', l1, l2, l3, l4, l5, l6, l7, l8, l9, l10, l11⟩ := leaf_go hG hd (stop_1 qw.1) h30 hb9 (1, nI (w - 18)) (by show 1 ≤ 1; omega) (lwx_ask kx (by omega) (by omega))
            have l1' : mX3_put (d + 11) (1 : Int32) (nI (w - 18)) σ = some A := l1
            have l6' : mX12_add 233 (nI 1) (nI (w - 18)) D = some F := l6
            rw [if_neg (show ¬ nI w < (18 : Int32) from nI_nlt (b := 18) (by omega) (by omega)), show (18 : Int32) = nI 18 from rfl, nI_sub (by omega), l1', obs_eq, l2, nI_1, l3, obs_eq]
            refine good _ A σ' ρ' τ' l1 ?_ l8 l9 l10 l11
            rw [ea, ru_fall hG q40 htc, (ku_good hG h30 l4).2 _ qa (by omega), l6', obs_eq, l7, obs_eq]
        · rw [decide_eq_false (fun w => qw (cso_word.mp w)), if_neg (by simp)]
          have qa : askT τ = none := by
            unfold askT
            by_cases q1 : τ.1 = 1
            · rw [if_pos q1]
              cases hw : wnum τ.2.2.1 with
              | none => rfl
              | some w => exact absurd ⟨q1, by rw [hw]; rfl⟩ qw
            · rw [if_neg q1]
          exact bad (Or.inr ⟨q40, q2, qa⟩)
  · rw [if_neg (show ¬ nI u < (30 : Int32) from nI_nlt (b := 30) (by omega) (by omega))]
    exact bad (Or.inl (by omega))
theorem m_inner (hd : 12 ≤ d) (hR : x ≤ 6 → RcW rc T n d 0 1 1 (x + 1) tcT) (hG : LGw T n i τ d lc lc S u k σ ρ) (hT : Tpw 7 S) (hx : nst S = x) (hb9 : lc.length + nb S ≤ 9 * u + nst S) (ha : 1710 ≤ a + i) (hm : 1710 ≤ m + i) (htc : tcB τ S u) : XOk 7 T n d (i + 1) S (k + 1) σ ρ (RU KLw a m ρ) (mX2_readInner_b rc 2 (d + 11) (nI x) σ) := by
  have hi := hG.1.1.2.1
  have x7 := hG.2.2.2.2.2.2.2.1.1
  have uc := hG.2.2.2.2.2.2.1.1
  obtain ⟨a1, rfl⟩ : ∃ a1, a = a1 + 1 + 1 := ⟨a - 2, by omega⟩
  obtain ⟨m1, rfl⟩ : ∃ m1, m = m1 + 1 := ⟨m - 1, by omega⟩
  unfold mX2_readInner_b
  rw [show 2 + 1 = 3 from rfl]
  by_cases h6 : x ≤ 6
  · obtain ⟨τ1, ρ1, σ1, b1, b2, b3, b4, b5, b6, b7⟩ := u_open (K := KLw) hG hd htc.1 hT (by omega) htc.2 hb9 (a1 + 1) (m1 + 1)
    have n1 : nst (20 :: S) = x + 1 := by
      conv => lhs; unfold nst
      rw [if_pos (Or.inl rfl)]; omega
    simp only [bnd_eq]
    rw [if_pos (show nI x ≤ (6 : Int32) from nI_le (b := 6) h6 (by omega)), uc, nI_1, nI_1, b1, obs_eq]
    obtain ⟨b, σ2, c1, c2, c3, c4⟩ := hR h6 (i + 1) τ1 _ (20 :: S) (u + 1) k _ ρ1 (a1 + 1) (m1 + 1) b3 b6 n1 b7 (by omega) (by omega) trivial
    rw [c1, obs_eq]
    cases b
    · rw [if_neg (by simp)]
      obtain ⟨ρ2, e1, e2, e3⟩ := c4 rfl
      exact ⟨false, σ2, rfl, b5.tr c2, fun w => (by cases w), fun _ => ⟨ρ2, by rw [b2, e1], e2, b4.tr e3⟩⟩
    · rw [if_pos rfl]
      obtain ⟨i2, τ2, P2, lr2, u2, ρ2, m2, e1, e2, e3, e4, e5, e6, e7, e8⟩ := c3 rfl
      have h256 := e5.1.1.2.2.1.1
      have hi2 := e5.1.1.2.1
      have s41 : mX10_isSign 3 (41 : Int32) σ2 = some (decide (τ2.1 = 41)) := c_isSign (c := 41) e5.1.1 (by omega) (by omega)
      unfold mX10_takeSign
      rw [s41, obs_eq]
      by_cases q41 : τ2.1 = 41
      · obtain ⟨m3, rfl⟩ : ∃ m3, m2 = m3 + 1 := ⟨m2 - 1, by omega⟩
        obtain ⟨τ3, ρ3, f1, f2, f3, f4, f5, f6⟩ := h_close (K := KLw) e5 hd rfl (fun o ho => (e6 o ho).1) q41 e7 m3
        rw [decide_eq_true q41, if_pos rfl, f1, obs_eq, obs_eq, if_pos rfl]
        refine ⟨true, _, rfl, (b5.tr c2).tr f5, fun _ => ⟨i2 + 1, τ3, [], lr2 ++ P2.map sto, u2, ρ3, m3, by rw [b2, e1, f2], by omega, by omega, (b4.tr e4).tr f4, by simpa using f3, fun o ho => absurd ho List.not_mem_nil, by simpa using f6, Or.inr (Or.inl (tgt_lt (sgT_lt f3.1.2.1.1.1)))⟩, fun w => by cases w⟩
      · obtain ⟨m3, rfl⟩ : ∃ m3, m2 = m3 + 1 + 1 := ⟨m2 - 2, by omega⟩
        have hbr : (P2 ++ 20 :: S).any (fun o => decide (o = 20)) = true := by simp
        have hst := h_stop (K := KLw) e5 (by
          rcases e8 with w | w | w
          · exact Or.inl w
          · exact absurd w (by have := tgt_pos (sgT_lt h256); omega)
          · exact Or.inr ⟨w.1, relS_app _ _ w.2⟩) (fun w => q41 w.1) m3
        obtain ⟨f1, f2, f3⟩ := fau_of (σ := σ2) (ρ := ρ2) (x := if τ2.1 = 3 then 1 else 2) rfl (two_pos (τ := τ2)) (p := τ2.2.1)
        rw [decide_eq_false q41, if_neg (by simp), c_refuse e5.1.1, obs_eq, obs_eq, if_neg (by simp)]
        refine ⟨false, _, rfl, (b5.tr c2).tr ⟨fun e j w => by rw [sI_get, if_neg (by omega), sI_get, if_neg (by omega)], rfl⟩, fun w => (by cases w), fun _ => ⟨_, ?_, f1, (b4.tr e4).tr f3.rl⟩⟩
        rw [b2, e1, hst, kl_bracket e5 hbr]
  · obtain ⟨σf, ρf, f1, f2, f3, f4, f5⟩ := u_open_bad (K := KLw) hG htc.1 (Or.inr (by omega)) a1 m1
    rw [if_neg (show ¬ nI x ≤ (6 : Int32) from nI_ge (a := 6) (by omega) (by omega)), f1, obs_eq]
    exact ⟨false, σf, rfl, f5, fun w => (by cases w), fun _ => ⟨ρf, by rw [f2, kl_fault f3.2.2], f3, f4⟩⟩
theorem rec_eq (D w t p1 : Nat) (p2 : Int32) (σ : St_) : mX2_rec (D + 1) w t p1 p2 σ = if w = 0 then mX2_readEither_b (mX2_rec D) t p1 p2 σ else if w = 1 then mX2_readBoth_b (mX2_rec D) t p1 p2 σ else if w = 2 then mX2_readOne_b (mX2_rec D) t p1 p2 σ else if w = 3 then mX2_readNot_b (mX2_rec D) t p1 p2 σ else if w = 4 then mX2_readTotal_b (mX2_rec D) t p1 p2 σ else if w = 5 then mX2_readTerm_b (mX2_rec D) t p1 p2 σ else if w = 6 then mX2_readUnit_b (mX2_rec D) t p1 p2 σ else mX2_readInner_b (mX2_rec D) t p1 p2 σ := rfl
theorem rec_ok (hd : 12 ≤ d) : ∀ D x, (8 * (7 - x) + 8 ≤ D → RcW (mX2_rec D) T n d 0 1 1 x tcT) ∧ (8 * (7 - x) + 7 ≤ D → RcW (mX2_rec D) T n d 1 2 2 x tcT) ∧ (8 * (7 - x) + 6 ≤ D → RcW (mX2_rec D) T n d 2 4 3 x tcT) ∧ (8 * (7 - x) + 5 ≤ D → RcW (mX2_rec D) T n d 3 4 3 x tcN) ∧ (8 * (7 - x) + 5 ≤ D → RcW (mX2_rec D) T n d 4 5 5 x tcU) ∧ (8 * (7 - x) + 4 ≤ D → RcW (mX2_rec D) T n d 5 6 6 x tcU) ∧ (8 * (7 - x) + 3 ≤ D → RcW (mX2_rec D) T n d 6 7 7 x tcU) ∧ (8 * (7 - x) + 2 ≤ D → RcW (mX2_rec D) T n d 7 7 7 x tcB)
  | 0, x => ⟨fun h => by omega, fun h => by omega, fun h => by omega, fun h => by omega, fun h => by omega, fun h => by omega, fun h => by omega, fun h => by omega⟩
  | D + 1, x => by
    obtain ⟨r0, r1, r2, r3, r4, r5, r6, r7⟩ := rec_ok hd D x
    obtain ⟨s0, -, s2, -⟩ := rec_ok hd D (x + 1)
    refine ⟨fun h i τ lc S u k σ ρ a m hG hT hx hb9 ha hm htc => ?_, fun h i τ lc S u k σ ρ a m hG hT hx hb9 ha hm htc => ?_, fun h i τ lc S u k σ ρ a m hG hT hx hb9 ha hm htc => ?_, fun h i τ lc S u k σ ρ a m hG hT hx hb9 ha hm htc => ?_, fun h i τ lc S u k σ ρ a m hG hT hx hb9 ha hm htc => ?_, fun h i τ lc S u k σ ρ a m hG hT hx hb9 ha hm htc => ?_, fun h i τ lc S u k σ ρ a m hG hT hx hb9 ha hm htc => ?_, fun h i τ lc S u k σ ρ a m hG hT hx hb9 ha hm htc => ?_⟩
    · rw [rec_eq, if_pos rfl]
      exact m_either hd (r1 (by omega)) hG hT hx hb9 ha hm
    · rw [rec_eq, if_neg (by omega), if_pos rfl]
      exact m_both hd (r2 (by omega)) hG hT hx hb9 ha hm
    · rw [rec_eq, if_neg (by omega), if_neg (by omega), if_pos rfl]
      exact m_one hd (r3 (by omega)) (r4 (by omega)) hG hT hx hb9 ha hm
    · rw [rec_eq, if_neg (by omega), if_neg (by omega), if_neg (by omega), if_pos rfl]
      exact m_not hd (fun h6 => s2 (by omega)) hG hT hx hb9 ha hm htc
    · rw [rec_eq, if_neg (by omega), if_neg (by omega), if_neg (by omega), if_neg (by omega), if_pos rfl]
      exact m_total hd (r5 (by omega)) hG hT hx hb9 ha hm htc
    · rw [rec_eq, if_neg (by omega), if_neg (by omega), if_neg (by omega), if_neg (by omega), if_neg (by omega), if_pos rfl]
      exact m_term hd (r6 (by omega)) hG hT hx hb9 ha hm htc
    · rw [rec_eq, if_neg (by omega), if_neg (by omega), if_neg (by omega), if_neg (by omega), if_neg (by omega), if_neg (by omega), if_pos rfl]
      exact m_unit hd (r7 (by omega)) hG hT hx hb9 ha hm htc
    · rw [rec_eq, if_neg (by omega), if_neg (by omega), if_neg (by omega), if_neg (by omega), if_neg (by omega), if_neg (by omega), if_neg (by omega)]
      exact m_inner hd (fun h6 => s0 (by omega)) hG hT hx hb9 ha hm htc
/-- a whole law, both sides -/
theorem law_both (hd : 12 ≤ d) (h : Bo T n i τ σ ρ) (hs : stops τ = false) (hc4 : σ.1 (d + 11) 4 = 0) (hc5 : σ.1 (d + 11) 5 = 0) (hr : ρ.1 233 22 = 0) : ∃ b σ' ρ', mX4_readLaw 1 d σ = some (b, σ') ∧ mX12_readLaw 233 ρ = some ρ' ∧ CLw d σ σ' ∧ RLw ρ ρ' ∧ (b = true → ∃ i' τ' lw u, i < i' ∧ Bo T n i' τ' σ' ρ' ∧ LwC d lw σ' ∧ LwR lw ρ' ∧ lwx lw 0 = some 1 ∧ lw.length ≤ 300 ∧ σ'.1 (d + 11) 5 = nI u ∧ ρ'.1 233 22 = nI u) ∧ (b = false → Fau σ' ρ') := by
  obtain ⟨τ1, R, a1, a2, a3, a4, a5⟩ := next_bo h hs
  have hi1 := a3.1.2.1
  generalize hA : sI σ 3 6 (nI (i + 1)) = A at *
  generalize hB : sI R 233 19 0 = B
  generalize hC : sI B 233 21 0 = C
  generalize hD : sI C 233 25 0 = D
  generalize hE : sI D 233 24 0 = E
  have E0 : ∀ e j, ¬ (e = 233 ∧ (j = 19 ∨ j = 21 ∨ j = 25 ∨ j = 24)) → E.1 e j = R.1 e j := fun e j w => by rw [← hE, sI_get, if_neg (by omega), ← hD, sI_get, if_neg (by omega), ← hC, sI_get, if_neg (by omega), ← hB, sI_get, if_neg (by omega)]
  have E2 : E.2 = R.2 := by rw [← hE, sI_2, ← hD, sI_2, ← hC, sI_2, ← hB, sI_2]
  have E24 : E.1 233 24 = nI 0 := by rw [← hE, sI_get, if_pos ⟨rfl, rfl⟩]; rfl
  have E25 : E.1 233 25 = nI 0 := by rw [← hE, sI_get, if_neg (by omega), ← hD, sI_get, if_pos ⟨rfl, rfl⟩]; rfl
  have E21 : E.1 233 21 = nI 0 := by rw [← hE, sI_get, if_neg (by omega), ← hD, sI_get, if_neg (by omega), ← hC, sI_get, if_pos ⟨rfl, rfl⟩]; rfl
  have E19 : E.1 233 19 = nI 0 := by rw [← hE, sI_get, if_neg (by omega), ← hD, sI_get, if_neg (by omega), ← hC, sI_get, if_neg (by omega), ← hB, sI_get, if_pos ⟨rfl, rfl⟩]; rfl
  have hRE : RLw ρ E := a5.rl.tr ⟨fun e j w => E0 e j (by omega), fun e j w => by rw [E2]⟩
  have hG : LGw T n (i + 1) τ1 d [] [] [] 0 0 A E := by
    refine ⟨⟨a3.1, a3.2.1.fr (fun a j w => E0 a j (by omega)) (by rw [E2]), by rw [E0 _ _ (by omega)]; exact a3.2.2⟩, ⟨by rw [a4.1 _ _ (by omega)]; exact hc4, fun i q hq => by simp at hq⟩, ⟨E19, fun i q hq => by simp at hq⟩, ⟨E21, fun o S1 S2 e => by simp at e⟩, E25, fun o ho => absurd ho List.not_mem_nil, ⟨by rw [a4.1 _ _ (by omega)]; exact hc5, by rw [E0 _ _ (by omega), a5.1 _ _ (by omega)]; exact hr, E24, by omega⟩, ⟨by decide, by decide⟩, rfl, by omega⟩
  have top : Tpw 1 [] := ⟨by decide, fun o S' e => by cases e⟩
  obtain ⟨b, σ2, c1, c2, c3, c4⟩ := (rec_ok (T := T) (n := n) hd 110 0).1 (by omega) (i + 1) τ1 [] [] 0 0 A E FU FU hG top rfl (by decide) (by unfold FU; omega) (by unfold FU; omega) trivial
  rw [show nI 0 = (0 : Int32) from rfl] at c1
  have ref : mX12_readLaw 233 ρ = RU KLw FU FU E := by
    unfold mX12_readLaw
    simp only [bnd_eq]
    rw [a2, obs_eq, hB, hC, hD, hE, unitw_eq]
    unfold RU RH KLw
    simp only [bnd_eq]
  have cl : mX4_readLaw 1 d σ = some (b, σ2) := by
    unfold mX4_readLaw
    rw [hc4, if_pos (show (0 : Int32) ≤ 0 by decide), show 1 + 2 = 3 from rfl, a1, obs_eq, show 1 + 1 = 2 from rfl, c1, obs_eq]
  have hCA : CLw d σ A := by rw [← hA]; exact nx_cl _
  rw [cl, ref]
  cases b
  · obtain ⟨ρ2, e1, e2, e3⟩ := c4 rfl
    exact ⟨false, σ2, ρ2, rfl, e1, hCA.tr c2, hRE.tr e3, fun w => (by cases w), fun _ => e2⟩
  · obtain ⟨i2, τ2, P2, lr2, u2, ρ2, m2, e1, e2, e3, e4, e5, e6, e7, e8⟩ := c3 rfl
    rw [List.append_nil] at e5 e7
    have h256 := e5.1.1.2.2.1.1
    have hi2 := e5.1.1.2.1
    have u30 := e5.2.2.2.2.2.2.1.2.2.2
    have nba := nb_app (S := []) (fun o ho => (e6 o ho).1)
    rw [List.append_nil] at nba
    obtain ⟨m3, rfl⟩ : ∃ m3, m2 = m3 + 1 + 1 := ⟨m2 - 2, by omega⟩
    have hbr : ¬ P2.any (fun o => decide (o = 20)) = true := by
      rw [List.any_eq_true]
      rintro ⟨o, ho, w⟩
      exact (e6 o ho).1 (of_decide_eq_true w)
    have hst := h_stop (K := KLw) e5 (by
      rcases e8 with w | w | w
      · exact Or.inl w
      · exact absurd w (by have := tgt_pos (sgT_lt h256); omega)
      · exact Or.inr w) (fun w => hbr w.2) m3
    obtain ⟨ρ3, f1, f2, f3, f4, f5⟩ := kl_end e5 (fun o ho => (e6 o ho).1) rfl e7
    refine ⟨true, σ2, ρ3, rfl, by rw [e1, hst, f1], hCA.tr c2, (hRE.tr e4).tr f5, fun _ => ⟨i2, τ2, lr2 ++ P2.map sto, u2, by omega, f3, e5.2.1, f2, e5.2.2.2.2.2.2.2.2.1, by rw [List.length_append, List.length_map]; omega, e5.2.2.2.2.2.2.1.1, f4⟩, fun w => by cases w⟩
end LAWMETH2
