/-! waits, gift, may, theft -/
section THEFT
variable {σ σ' τ : St_} {c dr s : Nat} {v : Vw} {z : Sv}
/-- the class: an HOUR goes by, the ACT is kept -/
theorem cls_end (ok : v.OK) (hz : Sv.OK v z) {A : St_} (hcc : c = 12 ∨ c = 28) (hc : CV c v A) (hs : CS v 44 z A) {f p : Nat} (hf : f < 41) (hp : p ≤ 40) (e1 : A.1 47 1 = nI f) (e3 : A.1 47 3 = nI p) : ∃ A1 B, mX8_passHour 44 (A.1 c 0) A = some A1 ∧ mX0_add 47 44 A1 = some B ∧ CS v 44 (z.tick v) B ∧ B.1 44 2 = (if z.hr + 1 < v.R then A.1 44 2 else A.1 44 2 + 1) ∧ (∀ k, B.1 46 k = A.1 46 k) ∧ B.1 47 1 = nI (fN f p) ∧ B.1 47 2 = nI (pN p) ∧ B.1 47 3 = nI (pN p) ∧ (∀ k, k < 9 → B.1 (49 + 3 * ((fN f p + pN p) % 41) + 1) k = B.1 45 k) ∧ (∀ k, k < 4 → B.1 (49 + 3 * ((fN f p + pN p) % 41) + 2) k = B.1 46 k) ∧ (∀ k, 2 ≤ k → k ≤ 4 → B.1 (49 + 3 * ((fN f p + pN p) % 41)) k = B.1 44 k) ∧ ∀ a k, ¬ (a = 44 ∧ 2 ≤ k ∧ k ≤ 4) → ¬ (a = 47 ∧ 1 ≤ k ∧ k ≤ 3) → ¬ (49 + 3 * ((fN f p + pN p) % 41) ≤ a ∧ a < 49 + 3 * ((fN f p + pN p) % 41) + 3) → B.1 a k = A.1 a k := by
  obtain ⟨A1, a1, a2, a3, a4⟩ := c_pass ok hz hs
  obtain ⟨B, b1, b2, b3, b4, b5, b6, b7, b8⟩ := c_addact (σ := A1) hf hp (by rw [a4 _ _ (by omega)]; exact e1) (by rw [a4 _ _ (by omega)]; exact e3)
  have hw : (fN f p + pN p) % 41 < 41 := Nat.mod_lt _ (by omega)
  generalize (fN f p + pN p) % 41 = w at *
  refine ⟨A1, B, by rw [hc.R]; exact a1, b1, a2.fr (fun a k q => b8 a k (by omega) (by omega)), ?_, fun k => ?_, b2, b3, b4, fun k hk => ?_, fun k hk => ?_, fun k q1 q2 => ?_, fun a k q1 q2 q3 => ?_⟩
  · rw [b8 _ _ (by omega) (by omega)]; exact a3
  · rw [b8 _ _ (by omega) (by omega), a4 _ _ (by omega)]
  · rw [b5 k hk, b8 45 k (by omega) (by omega)]
  · rw [b6 k hk, b8 46 k (by omega) (by omega)]
  · rw [b7 k q1 q2, b8 44 k (by omega) (by omega)]
  · rw [b8 a k q2 q3, a4 a k q1]
theorem core_12 (hV : Vof c σ) (hcc : c = 12 ∨ c = 28) (hnow : Inow σ) (hacts : Iacts σ) : ∃ (r : Int32) (σ1 σ2 : St_), mX11_waits 0 c dr σ = some (r, σ1) ∧ mX12_waits 233 σ1 = some (r, σ2) ∧ Inow σ2 ∧ Iacts σ2 := by
  obtain ⟨v, ok, hc, hr, h1, h2, h3, h4, -⟩ := hV
  obtain ⟨z, hz, zc, zr, ⟨n, n1, n2, n3⟩, ⟨jm, j1, j2⟩, cr⟩ := now_of ok h1 h2 h3 h4 hnow
  obtain ⟨hN, f, p, m, hf, hp, hm, a1, a2, a3, b1, b2, h9, h10, h11⟩ := id hacts
  have oR := ok.R
  have oT := ok.T
  have c10 : bin (10 : Int32) 20 = true := by decide
  by_cases q : n = 200
  · subst q
    refine ⟨-1, σ, σ, ?_, ?_, hnow, hacts⟩
    · unfold mX11_waits
      rw [show 0 + 44 = 44 from rfl, n2, if_neg (by decide)]
    · unfold mX12_waits
      simp only [bnd_eq]
      rw [c10, if_pos rfl, show (10 : Int32).toNatClampNeg = 10 from rfl, show 233 + 29 = 262 from rfl, show σ.1 262 10 = nI 200 from n3]
      rfl
  · obtain ⟨A1, B, e1, e2, e3, e4, e5, e6, e7, e8, e9, e10, e11, e12⟩ := cls_end ok hz hcc hc zc hf (by omega) a1 a3
    have cls : mX11_waits 0 c dr σ = some (nI (z.tick v).hr, B) := by
      unfold mX11_waits
      rw [show 0 + 44 = 44 from rfl, show 0 + 47 = 47 from rfl, n2, if_pos (show nI n < (200 : Int32) from nI_lt (b := 200) (by omega) (by omega)), e1, obs_eq, e2, obs_eq, e3.hr]
    have hw : (fN f p + pN p) % 41 < 41 := Nat.mod_lt _ (by omega)
    generalize hwe : (fN f p + pN p) % 41 = w at *
    have Bf : ∀ a k, 172 ≤ a → B.1 a k = σ.1 a k := fun a k q => e12 a k (by omega) (by omega) (by omega)
    have B10 : B.1 262 10 = nI n := by rw [Bf _ _ (by omega)]; exact n3
    obtain ⟨C, d1, d2, d3, d4, d5, d6⟩ := r_act (σ := B) (p := p) (by omega) (by rw [Bf _ _ (by omega)]; exact b1)
    have Cf : ∀ a k, 172 ≤ a → ¬ a = 264 → ¬ (a = 233 ∧ (k = 68 ∨ k = 69)) → C.1 a k = σ.1 a k := fun a k q1 q2 q3 => by rw [d6 a k q2 q3]; exact Bf a k q1
    have zrC : RN v 262 0 z C := zr.fr ok.N (fun k _ _ => Cf _ _ (by omega) (by omega) (by omega))
    obtain ⟨E, l1, l2⟩ := r_load ok.N zrC
    have Ef : ∀ a k, ¬ (a = 263 ∨ (a = 233 ∧ (k = 62 ∨ k = 63))) → E.1 a k = C.1 a k := fun a k q => (fX12_load _ _ _ l1 a k (by unfold MOD_X12_load; omega)).1
    have hrE : RV v E := hr.fr (fun a k q => by rw [Ef a k (by unfold FPr at q; omega), Cf a k (by unfold FPr at q; omega) (by unfold FPr at q; omega) (by unfold FPr at q; omega)])
    obtain ⟨D, k1, k2, k3, k4, k5⟩ := r_keepOn hrE ok hz l2
    have Dc : ∀ a k, a < 233 → D.1 a k = B.1 a k := fun a k q => by rw [k5 a k (by omega) (by omega), Ef a k (by omega), d6 a k (by omega) (by omega)]
    have nums : ∀ k, 51 ≤ k → k ≤ 55 → D.1 233 k = σ.1 233 k := fun k q1 q2 => by rw [k5 _ _ (by omega) (by omega), Ef _ _ (by omega), Cf _ _ (by omega) (by omega) (by omega)]
    obtain ⟨g2, g3, g4, g5⟩ := nums_of nums
    have csD : CS v 44 (z.tick v) D := e3.fr (fun a k q => Dc a k (by omega))
    have rest : Irest v.T 44 262 0 D := by
      refine ⟨?_, ?_, fun t ht => ?_⟩
      · rw [Dc _ _ (by omega), e4, Nat.zero_add, k4, Ef _ _ (by omega), Cf _ _ (by omega) (by omega) (by omega), n2, show σ.1 262 10 = nI n from n3]
        by_cases w : z.hr + 1 < v.R
        · rw [if_pos w]; exact ⟨n, by omega, rfl, rfl⟩
        · rw [if_neg w]; exact ⟨n + 1, by omega, nI_1 n, nI_1 n⟩
      · rw [csD.jl]
        unfold Sv.tick
        by_cases w : z.hr + 1 < v.R
        · rw [if_pos w]; exact ⟨jm, j1, by rw [← j2, zc.jl]; rfl⟩
        · rw [if_neg w]; exact ⟨0, Nat.two_pow_pos _, rfl⟩
      · rw [Dc _ _ (by omega), e5, k5 _ _ (by omega) (by omega), Ef _ _ (by omega), Cf _ _ (by omega) (by omega) (by omega)]
        exact cr t ht
    have inow : ISn D 44 262 0 := by
      show IS (nN D) (nH D) (nT D) (nR D) _ _ _ D
      rw [g2, g3, g4, g5, ← h1, ← h2, ← h3, ← h4]
      exact IS_of ok (tick_OK ok hz) csD k2 rest
    have rf : mX12_waits 233 B = some (nI (z.tick v).hr, D) := by
      unfold mX12_waits
      simp only [bnd_eq]
      rw [c10, if_pos rfl, show (10 : Int32).toNatClampNeg = 10 from rfl, show 233 + 29 = 262 from rfl, B10, if_neg (show ¬ nI n = (200 : Int32) from fun e => q (pn_inj (b := 200) (by omega) (by omega) e)), d1, obs_eq, l1, obs_eq, k1, obs_eq, k3.hr]
    refine ⟨nI (z.tick v).hr, B, D, cls, rf, ⟨by rw [g2]; exact hN, inow⟩, ?_⟩
    refine acts_add hN hf hp hm h9 h11 nums (by rw [Dc _ _ (by omega)]; exact e6) (by rw [Dc _ _ (by omega)]; exact e7) (by rw [Dc _ _ (by omega)]; exact e8) (fun k hk => ?_) (fun k hk => ?_) (fun k q1 q2 => ?_) (fun a k q1 q2 q3 => ?_) ?_ ?_ (fun k hk => ?_) (fun j hj k hk => ?_) inow
    · rw [hwe, Dc _ _ (by omega), Dc _ _ (by omega)]; exact e9 k hk
    · rw [hwe, Dc _ _ (by omega), Dc _ _ (by omega)]; exact e10 k hk
    · rw [hwe, Dc _ _ (by omega), Dc _ _ (by omega)]; exact e11 k q1 q2
    · rw [hwe] at q3
      rw [Dc _ _ (by omega)]; exact e12 a k (by omega) (by omega) q3
    · rw [k5 _ _ (by omega) (by omega), Ef _ _ (by omega)]; exact d2
    · rw [k5 _ _ (by omega) (by omega), Ef _ _ (by omega)]; exact d3
    · rw [k5 _ _ (by omega) (by omega), Ef _ _ (by omega), d4 k hk, Bf _ _ (by omega)]
    · rw [k5 _ _ (by omega) (by omega), Ef _ _ (by omega), d5 j hj k hk, Bf _ _ (by omega)]
/-- a THING at another HOLDER -/
def Sv.put (z : Sv) (x h : Nat) : Sv := svK (fun y => if y = x then h else z.wh y) z.hr z.jl
theorem put_wh (x h y : Nat) : (z.put x h).wh y = if y = x then h else z.wh y := rfl
theorem put_OK (ok : v.OK) (hz : Sv.OK v z) {x i : Nat} {b : Bool} (hi : if b = true then i < v.T else i < v.H) : Sv.OK v (z.put x (holIx i b)) := by
  refine ⟨fun y hy => ?_, hz.hr⟩
  rw [put_wh]
  by_cases e : y = x
  · rw [if_pos e]
    unfold holIx
    cases b
    · simp at hi ⊢; exact Or.inl hi
    · simp at hi ⊢; exact Or.inr (Or.inl hi)
  · rw [if_neg e]; exact hz.wh y hy
theorem core_13 (a1 a2 : Int32) (a3 : Bool) (hV : Vof c σ) (hcc : c = 12 ∨ c = 28) (hnow : Inow σ) (hacts : Iacts σ) : ∃ (r : Bool) (σ1 σ2 : St_), mX11_gift 0 c dr a1 a2 a3 σ = some (r, σ1) ∧ mX12_gift 233 a1 a2 a3 σ1 = some (r, σ2) ∧ Inow σ2 ∧ Iacts σ2 := by
  obtain ⟨v, ok, hc, hr, h1, h2, h3, h4, -⟩ := hV
  obtain ⟨z, hz, zc, zr, ⟨n, n1, n2, n3⟩, ⟨jm, j1, j2⟩, cr⟩ := now_of ok h1 h2 h3 h4 hnow
  obtain ⟨hN, f, p, m, hf, hp, hm, b1, b2, b3, b4, b5, h9, h10, h11⟩ := id hacts
  have oN := ok.N
  cases hb : bin a1 v.N
  · refine ⟨false, σ, σ, ?_, ?_, hnow, hacts⟩
    · unfold mX11_gift
      rw [c_holderIndex hc ok, obs_eq, c_isThing hc ok, hb]; rfl
    · unfold mX12_gift
      rw [r_isThing hr ok, hb]; rfl
  · cases hh : isHol v a2 a3
    · refine ⟨false, σ, σ, ?_, ?_, hnow, hacts⟩
      · unfold mX11_gift
        have ci : mX11_holderIndex 0 c dr a2 a3 σ = some (-1) := by rw [c_holderIndex hc ok, hh]; simp
        rw [ci, obs_eq, c_isThing hc ok, hb, obs_eq, if_pos rfl, if_pos rfl]
      · unfold mX12_gift
        rw [r_isThing hr ok, hb, obs_eq, if_pos rfl, r_isHolder hr ok, hh]; rfl
    · obtain ⟨x, hx, rfl, -⟩ := bin_iff.mp hb
      obtain ⟨i, rfl, hi, hi2, hi3⟩ := isHol_of ok hh
      have e := @hol_nI i a3
      have ci : mX11_holderIndex 0 c dr (nI i) a3 σ = some (nI (holIx i a3)) := by rw [c_holderIndex hc ok, hh, if_pos rfl, e]
      have hle := hz.le ok hx
      have zx : σ.1 262 x = wcode (z.wh x) := by
        have := zr.wh x hx
        rwa [Nat.zero_add] at this
      have cho := c_holderOf ok hz zc hx
      have b20 : bin (nI x) 20 = true := binn (by omega) (by omega)
      have cl20 : (nI x).toNatClampNeg = x := pn_cl (by omega)
      -- the reference, when it is there already
      by_cases same : z.wh x = holIx i a3
      · have e1 : (if z.wh x < 9 then nI (z.wh x) else (-1 : Int32)) = nI (holIx i a3) := by rw [if_pos (by omega), same]
        refine ⟨false, σ, σ, ?_, ?_, hnow, hacts⟩
        · unfold mX11_gift
          simp only [bnd_eq]
          rw [ci, obs_eq, c_isThing hc ok, hb, obs_eq, if_pos rfl, if_neg (nI_nm1 (by omega)), show 0 + 44 = 44 from rfl, cho, obs_eq, if_pos e1]
        · unfold mX12_gift
          simp only [bnd_eq]
          rw [r_isThing hr ok, hb, obs_eq, if_pos rfl, r_isHolder hr ok, hh, obs_eq, if_pos rfl, b20, if_pos rfl, cl20, show 233 + 29 = 262 from rfl, holIx_w hi2 hi3, obs_eq, zx, same, if_pos rfl]
      · have e1 : ¬ (if z.wh x < 9 then nI (z.wh x) else (-1 : Int32)) = nI (holIx i a3) := by
          by_cases w : z.wh x < 9
          · rw [if_pos w]; exact fun q => same (pn_inj (by omega) (by omega) q)
          · rw [if_neg w]; exact fun q => nI_nm1 (i := holIx i a3) (by omega) q.symm
        generalize hH : holIx i a3 = H at *
        -- the class: the sets
        have cls : ∃ G : St_, CS v 44 (z.put x H) G ∧ (∀ a k, ¬ (a = 45) → G.1 a k = σ.1 a k) ∧ mX11_gift 0 c dr (nI x) (nI i) a3 σ = ((mX0_add 47 44 G).bind fun σ9 => (some (true, σ9))) := by
          have newbit : ∀ y, y < 9 → hset v (z.put x H) y = (if y = H then hset v z y ||| ((1 : Int32) <<< (nI x &&& 31)) else if y = z.wh x then hset v z y &&& (((1 : Int32) <<< (nI x &&& 31)) ^^^ (-1)) else hset v z y) := by
            intro y hy
            symm
            apply setI_ext (by omega)
            intro w hw
            rw [put_wh]
            by_cases q1 : y = H
            · rw [if_pos q1, tb_or, tb_hset ok, tb_shl (by omega) hw]
              by_cases q2 : w = x
              · subst q2; simp [hx, q1]
              · simp [q2]
            · rw [if_neg q1]
              by_cases q3 : y = z.wh x
              · rw [if_pos q3, tb_and, tb_xor, tb_hset ok, tb_shl (by omega) hw, tb_m1 hw]
                by_cases q2 : w = x
                · subst q2
                  have q4 : ¬ H = y := fun e => q1 e.symm
                  simp [q4]
                · simp [q2]
              · rw [if_neg q3, tb_hset ok]
                by_cases q2 : w = x
                · subst q2
                  have q4 : ¬ H = y := fun e => q1 e.symm
                  have q5 : ¬ z.wh w = y := fun e => q3 e.symm
                  rw [if_pos rfl, beq_false_of_ne q4, beq_false_of_ne q5]
                · simp [q2]
          by_cases w : z.wh x < 9
          · refine ⟨sI (sI σ 45 (z.wh x) (hset v z (z.wh x) &&& (((1 : Int32) <<< (nI x &&& 31)) ^^^ (-1)))) 45 H (hset v z H ||| ((1 : Int32) <<< (nI x &&& 31))), ⟨fun y hy => ?_, ?_, ?_⟩, fun a k q => ?_, ?_⟩
            · rw [newbit y hy, sI_get, sI_get]
              by_cases q1 : y = H
              · rw [if_pos ⟨rfl, q1⟩, if_pos q1, q1]
              · rw [if_neg (fun e => q1 e.2), if_neg q1]
                by_cases q3 : y = z.wh x
                · rw [if_pos ⟨rfl, q3⟩, if_pos q3, q3]
                · rw [if_neg (fun e => q3 e.2), if_neg q3]; exact zc.held y hy
            · rw [sI_get, if_neg (by omega), sI_get, if_neg (by omega)]; exact zc.hr
            · rw [sI_get, if_neg (by omega), sI_get, if_neg (by omega)]; exact zc.jl
            · rw [sI_get, if_neg (by omega), sI_get, if_neg (by omega)]
            · have s1 : σ.1 (44 + 1) (z.wh x) = hset v z (z.wh x) := zc.held _ w
              have s2 : (sI σ (44 + 1) (z.wh x) (hset v z (z.wh x) &&& (((1 : Int32) <<< (nI x &&& 31)) ^^^ (-1)))).1 (44 + 1) H = hset v z H := by
                rw [sI_get, if_neg (fun e => same e.2.symm)]; exact zc.held _ (by omega)
              unfold mX11_gift
              simp only [bnd_eq]
              rw [ci, obs_eq, c_isThing hc ok, hb, obs_eq, if_pos rfl, if_neg (nI_nm1 (by omega)), show 0 + 44 = 44 from rfl, show 0 + 47 = 47 from rfl, cho, obs_eq, if_neg e1]
              simp only [if_pos w, nI_nm1 (show z.wh x < 2 ^ 31 by omega), if_false, binn (show z.wh x < 9 by omega) (show z.wh x < 2 ^ 31 by omega), binn (show H < 9 by omega) (show H < 2 ^ 31 by omega), if_true, pn_cl (show z.wh x < 2 ^ 31 by omega), pn_cl (show H < 2 ^ 31 by omega), s1, s2]
          · refine ⟨sI σ 45 H (hset v z H ||| ((1 : Int32) <<< (nI x &&& 31))), ⟨fun y hy => ?_, ?_, ?_⟩, fun a k q => ?_, ?_⟩
            · rw [newbit y hy, sI_get]
              by_cases q1 : y = H
              · rw [if_pos ⟨rfl, q1⟩, if_pos q1, q1]
              · rw [if_neg (fun e => q1 e.2), if_neg q1, if_neg (by omega)]; exact zc.held y hy
            · rw [sI_get, if_neg (by omega)]; exact zc.hr
            · rw [sI_get, if_neg (by omega)]; exact zc.jl
            · rw [sI_get, if_neg (by omega)]
            · have s2 : σ.1 (44 + 1) H = hset v z H := zc.held _ (by omega)
              unfold mX11_gift
              simp only [bnd_eq]
              rw [ci, obs_eq, c_isThing hc ok, hb, obs_eq, if_pos rfl, if_neg (nI_nm1 (by omega)), show 0 + 44 = 44 from rfl, show 0 + 47 = 47 from rfl, cho, obs_eq, if_neg e1]
              simp only [if_neg w, if_true, binn (show H < 9 by omega) (show H < 2 ^ 31 by omega), pn_cl (show H < 2 ^ 31 by omega), s2]
        obtain ⟨G, G1, G2, G3⟩ := cls
        obtain ⟨B, e2, e6, e7, e8, e9, e10, e11, e12⟩ := c_addact (σ := G) hf (show p ≤ 40 by omega) (by rw [G2 _ _ (by omega)]; exact b1) (by rw [G2 _ _ (by omega)]; exact b3)
        rw [e2, obs_eq] at G3
        have hw : (fN f p + pN p) % 41 < 41 := Nat.mod_lt _ (by omega)
        generalize hwe : (fN f p + pN p) % 41 = w at *
        have Bf : ∀ a k, 172 ≤ a → B.1 a k = σ.1 a k := fun a k q => by rw [e12 a k (by omega) (by omega), G2 _ _ (by omega)]
        have hrB : RV v B := hr.fr (fun a k q => Bf a k (by unfold FPr at q; omega))
        obtain ⟨C, d1, d2, d3, d4, d5, d6⟩ := r_act (σ := B) (p := p) (by omega) (by rw [Bf _ _ (by omega)]; exact b4)
        refine ⟨true, B, sI C 262 x (wcode H), G3, ?_, ?_⟩
        · have hw2 : ∀ ρ : St_, mX12_whereOf (nI i) a3 ρ = some (wcode H) := fun ρ => by rw [← hH]; exact holIx_w (by rw [hH]; exact hi2) hi3
          unfold mX12_gift
          simp only [bnd_eq]
          rw [r_isThing hrB ok, hb, obs_eq, if_pos rfl, r_isHolder hrB ok, hh, obs_eq, if_pos rfl, b20, if_pos rfl, cl20, show 233 + 29 = 262 from rfl, hw2, obs_eq, Bf _ _ (by omega), zx, if_neg (fun e => same ((wcode_eq hle (by omega)).mp e)), d1, obs_eq, hw2, obs_eq, if_pos rfl]
        · generalize hD : sI C 262 x (wcode H) = D
          have D0 : ∀ a k, ¬ (a = 262 ∧ k = x) → D.1 a k = C.1 a k := fun a k q => by rw [← hD, sI_get, if_neg q]
          have Dc : ∀ a k, a < 233 → D.1 a k = B.1 a k := fun a k q => by rw [D0 a k (by omega), d6 a k (by omega) (by omega)]
          have Df : ∀ a k, 172 ≤ a → ¬ (a = 262 ∧ k = x) → ¬ a = 264 → ¬ (a = 233 ∧ (k = 68 ∨ k = 69)) → D.1 a k = σ.1 a k := fun a k q1 q2 q3 q4 => by rw [D0 a k q2, d6 a k q3 q4, Bf a k q1]
          have nums : ∀ k, 51 ≤ k → k ≤ 55 → D.1 233 k = σ.1 233 k := fun k q1 q2 => Df _ _ (by omega) (by omega) (by omega) (by omega)
          obtain ⟨g2, g3, g4, g5⟩ := nums_of nums
          have csD : CS v 44 (z.put x H) D := G1.fr (fun a k q => by rw [Dc a k (by omega), e12 a k (by omega) (by omega)])
          have rnD : RN v 262 0 (z.put x H) D := by
            refine ⟨fun y hy => ?_, fun y q1 q2 => ?_, ?_, ?_⟩
            · rw [put_wh, Nat.zero_add]
              by_cases e : y = x
              · rw [if_pos e, ← hD, sI_get, if_pos ⟨rfl, e⟩]
              · rw [if_neg e, Df _ _ (by omega) (by omega) (by omega) (by omega)]
                have := zr.wh y hy
                rwa [Nat.zero_add] at this
            · rw [Df _ _ (by omega) (by omega) (by omega) (by omega)]; exact zr.no y q1 q2
            · rw [Df _ _ (by omega) (by omega) (by omega) (by omega)]; exact zr.hr
            · rw [Df _ _ (by omega) (by omega) (by omega) (by omega)]; exact zr.jl
          have rest : Irest v.T 44 262 0 D := by
            refine ⟨⟨n, n1, ?_, ?_⟩, ⟨jm, j1, ?_⟩, fun t ht => ?_⟩
            · rw [Dc _ _ (by omega), e12 _ _ (by omega) (by omega), G2 _ _ (by omega)]; exact n2
            · rw [Df _ _ (by omega) (by omega) (by omega) (by omega)]; exact n3
            · rw [Dc _ _ (by omega), e12 _ _ (by omega) (by omega), G2 _ _ (by omega)]; exact j2
            · rw [Dc _ _ (by omega), e12 _ _ (by omega) (by omega), G2 _ _ (by omega), Df _ _ (by omega) (by omega) (by omega) (by omega)]; exact cr t ht
          have inow : ISn D 44 262 0 := by
            show IS (nN D) (nH D) (nT D) (nR D) _ _ _ D
            rw [g2, g3, g4, g5, ← h1, ← h2, ← h3, ← h4]
            exact IS_of ok (by rw [← hH]; exact put_OK ok hz hi) csD rnD rest
          refine ⟨⟨by rw [g2]; exact hN, inow⟩, ?_⟩
          refine acts_add hN hf hp hm h9 h11 nums (by rw [Dc _ _ (by omega)]; exact e6) (by rw [Dc _ _ (by omega)]; exact e7) (by rw [Dc _ _ (by omega)]; exact e8) (fun k hk => ?_) (fun k hk => ?_) (fun k q1 q2 => ?_) (fun a k q1 q2 q3 => ?_) ?_ ?_ (fun k hk => ?_) (fun j hj k hk => ?_) inow
          · rw [hwe, Dc _ _ (by omega), Dc _ _ (by omega), e9 k hk, e12 45 k (by omega) (by omega)]
          · rw [hwe, Dc _ _ (by omega), Dc _ _ (by omega), e10 k hk, e12 46 k (by omega) (by omega)]
          · rw [hwe, Dc _ _ (by omega), Dc _ _ (by omega), e11 k q1 q2, e12 44 k (by omega) (by omega)]
          · rw [hwe] at q3
            rw [Dc _ _ (by omega), e12 a k (by omega) q3, G2 _ _ (by omega)]
          · rw [D0 _ _ (by omega)]; exact d2
          · rw [D0 _ _ (by omega)]; exact d3
          · rw [D0 _ _ (by omega), d4 k hk, Bf _ _ (by omega)]
          · rw [D0 _ _ (by omega), d5 j hj k hk, Bf _ _ (by omega)]
end THEFT
