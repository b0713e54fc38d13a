/-! for what nothing is better -/
section UNBET
variable {σ σ' : St_} {c dr s t th : Nat} {v : Vw} {z : Sv}
def lawP (v : Vw) (z : Sv) (h x th : Nat) (p : Nat × Option Nat) : Bool := aLaw v h (nI (2 ^ x)) (pset p.1 p.2) (nI z.hr) (v.sl th)
def btr (v : Vw) (z : Sv) (h x th : Nat) : Bool := (sets v z th).any (lawP v z h x th)
theorem c_bet_L43 (ok : v.OK) (hcc : c = 12 ∨ c = 28) {h x : Nat} (hh : h < v.H) (hx : x < v.N) {x3 : Int32} {k104 : St_ → Option (Bool × St_)} : ∀ k n i (σ : St_), CV c v σ → CS v 44 z σ → SSc v th 183 (sets v z th) σ → i + k = (sets v z th).length → k < n → ∃ σ', mX11_canBeBettered_L43 0 c dr (nI h) (nI x) x3 (v.sl th) k104 n (nI i) σ = (if ((sets v z th).drop i).any (lawP v z h x th) = true then some (true, σ') else k104 σ') ∧ CV c v σ' ∧ CS v 44 z σ'
  | 0, n, i, σ, hc, hs, hS, hi, hn => by
    have := sets_55 (v := v) (z := z) (t := th) ok
    obtain ⟨m, rfl, -⟩ := fu_suc hn
    refine ⟨σ, ?_, hc, hs⟩
    unfold mX11_canBeBettered_L43
    rw [show 0 + 183 = 183 from rfl, hS.1, if_pos (nI_le (by omega) (by omega)), List.drop_eq_nil_of_le (by omega)]
    rfl
  | k + 1, n, i, σ, hc, hs, hS, hi, hn => by
    have o55 := sets_55 (v := v) (z := z) (t := th) ok
    obtain ⟨m, rfl, hm⟩ := fu_suc hn
    have hil : i < (sets v z th).length := by omega
    have hp : (sets v z th)[i] ∈ sets v z th := List.getElem_mem hil
    have hgi : (sets v z th)[i]? = some (sets v z th)[i] := List.getElem?_eq_getElem hil
    have hd := List.drop_eq_getElem_cons hil
    generalize (sets v z th)[i] = p at hp hgi hd
    rw [hd, List.any_cons]
    obtain ⟨S1, S2, S3, S4⟩ := hS.2 i p hgi
    obtain ⟨z1, z2, z3, z4⟩ := sets_pz ok hp
    obtain ⟨σ1, l1⟩ := c_isLawfulFor hc ok hh hx z1 z2 (nI z.hr) (v.sl th)
    have F1 : ∀ a k, ¬ (a = c + 14 ∨ a = c + 15) → σ1.1 a k = σ.1 a k := fun a k hn => (fX1_isLawfulFor _ _ _ _ _ _ _ _ _ l1 a k (by unfold MOD_X1_isLawfulFor; omega)).1
    have hc1 : CV c v σ1 := hc.fr (fun a k q => F1 a k (by unfold FPc at q; omega))
    have hs1 : CS v 44 z σ1 := hs.fr (fun a k q => F1 a k (by omega))
    unfold mX11_canBeBettered_L43
    simp only [bnd_eq]
    rw [show 0 + 183 = 183 from rfl, show 0 + 44 = 44 from rfl, hS.1, if_neg (nI_ge (by omega) (by omega)), binn (show i < 55 by omega) (by omega), if_pos rfl, if_pos rfl, pn_cl (by omega), S1, S2, hs.hr, l1]
    rw [obs_eq]
    rw [show aLaw v h (nI (2 ^ x)) (pset p.1 p.2) (nI z.hr) (v.sl th) = lawP v z h x th p from rfl]
    cases q : lawP v z h x th p
    · rw [if_neg (by simp), nI_1, Bool.false_or]
      exact c_bet_L43 ok hcc hh hx k m (i + 1) σ1 hc1 hs1 (hS.fr (fun a k q => F1 a k (by omega))) (by omega) (by omega)
    · rw [if_pos rfl, Bool.true_or]
      exact ⟨σ1, by rw [if_pos rfl], hc1, hs1⟩
theorem c_bet_L2 (ok : v.OK) (hcc : c = 12 ∨ c = 28) {h x : Nat} (hh : h < v.H) (hx : x < v.N) : ∀ k n i (σ : St_), CV c v σ → CS v 44 z σ → i + k = v.T → k < n → ∃ σ', mX11_canBeBettered_L2 0 c dr (nI h) (nI x) n (nI i) σ = some (anyF (btr v z h x) i k, σ') ∧ CV c v σ' ∧ CS v 44 z σ'
  | 0, n, i, σ, hc, hs, hi, hn => by
    have := ok.T
    obtain ⟨m, rfl, -⟩ := fu_suc hn
    refine ⟨σ, ?_, hc, hs⟩
    unfold mX11_canBeBettered_L2
    rw [hc.T, if_pos (nI_le (by omega) (by omega))]
    rfl
  | k + 1, n, i, σ, hc, hs, hi, hn => by
    have oT := ok.T
    have o55 := sets_55 (v := v) (z := z) (t := i) ok
    obtain ⟨m, rfl, hm⟩ := fu_suc hn
    obtain ⟨σ1, w1, w2⟩ := c_splitStock (t := 183) (s := 44) hc ok (by omega) (by omega) hs (th := i) (by omega)
    have F1 : ∀ a k, ¬ ((183 ≤ a ∧ a < 192)) → σ1.1 a k = σ.1 a k := fun a k hn => (fX9_splitStock _ _ _ _ _ _ w1 a k (by unfold MOD_X9_splitStock; omega)).1
    have hc1 : CV c v σ1 := hc.fr (fun a k q => F1 a k (by unfold FPc at q; omega))
    have hs1 : CS v 44 z σ1 := hs.fr (fun a k q => F1 a k (by omega))
    obtain ⟨σ2, u1, u2, u3⟩ := c_bet_L43 (dr := dr) ok hcc hh hx (x3 := nI i) (k104 := fun σ6 => mX11_canBeBettered_L2 0 c dr (nI h) (nI x) m (nI (i + 1)) σ6) (sets v z i).length FU 0 σ1 hc1 hs1 w2 (by omega) (by unfold FU; omega)
    rw [List.drop_zero] at u1
    unfold mX11_canBeBettered_L2
    simp only [bnd_eq]
    rw [hc.T, if_neg (nI_ge (by omega) (by omega)), binn (show i < 4 by omega) (by omega), if_pos rfl, pn_cl (by omega), hc.sl i (by omega), show 0 + 183 = 183 from rfl, show 0 + 44 = 44 from rfl, w1]
    simp only [obs_eq, nI_1]
    unfold anyF
    cases q : btr v z h x i
    · rw [show (sets v z i).any (lawP v z h x i) = btr v z h x i from rfl, q, if_neg (by simp)] at u1
      obtain ⟨σ', e1, e2, e3⟩ := c_bet_L2 ok hcc hh hx k m (i + 1) σ2 u2 u3 (by omega) (by omega)
      refine ⟨σ', ?_, e2, e3⟩
      rw [Bool.false_or]
      exact Eq.trans u1 e1
    · rw [show (sets v z i).any (lawP v z h x i) = btr v z h x i from rfl, q, if_pos rfl] at u1
      refine ⟨σ2, ?_, u2, u3⟩
      rw [Bool.true_or]
      exact u1
/-- as the reference looks: sets by their numbers -/
def btm (v : Vw) (z : Sv) (h x th m : Nat) : Bool := decide (nI m &&& (hset v z (5 + th) ^^^ (-1)) = 0) && decide (mem (nI m) ≤ 2) && aLaw v h (nI (2 ^ x)) (nI m) (nI z.hr) (v.sl th)
theorem btr_eq (ok : v.OK) {h x : Nat} : anyF (btm v z h x th) 1 1023 = btr v z h x th := by
  rw [Bool.eq_iff_iff, anyF_iff]
  unfold btr
  rw [List.any_eq_true]
  constructor
  · rintro ⟨m, m1, m2, m3⟩
    unfold btm at m3
    simp only [Bool.and_eq_true, decide_eq_true_eq] at m3
    obtain ⟨p, p1, p2⟩ := sets_of ok (m := m) (by omega) (by omega) m3.1.2 m3.1.1
    refine ⟨p, p1, ?_⟩
    unfold lawP pset
    rw [p2]
    exact m3.2
  · rintro ⟨p, p1, p2⟩
    have := sets_psn ok p1
    refine ⟨psn p.1 p.2, by omega, by omega, ?_⟩
    unfold btm
    rw [sets_sub ok p1]
    simp only [sets_mem2 ok p1, decide_true, Bool.and_self, Bool.true_and]
    exact p2
theorem i32_3 {m : Int32} : (3 : Int32) ≤ m ↔ ¬ m ≤ 2 := by
  rw [Int32.le_iff_toInt_le, Int32.le_iff_toInt_le]
  have a : (3 : Int32).toInt = 3 := rfl
  have b : (2 : Int32).toInt = 2 := rfl
  rw [a, b]
  omega
theorem r_bet_L32 (ok : v.OK) {h x : Nat} (hh : h < v.H) (hx : x < v.N) (hth : th < v.T) {k99 : Bool → St_ → Option (Bool × St_)} : ∀ k n i (b : Bool) (σ : St_), RV v σ → RW v z σ → i + k = 1024 → k < n → ∃ σ', mX12_isBettered_L32 233 (nI h) (nI x) (nI th) (hset v z (5 + th)) k99 n b (nI i) σ = k99 (b || anyF (btm v z h x th) i k) σ' ∧ RV v σ' ∧ RW v z σ'
  | 0, n, i, b, σ, hr, hw, hi, hn => by
    obtain ⟨m, rfl, -⟩ := fu_suc hn
    refine ⟨σ, ?_, hr, hw⟩
    unfold mX12_isBettered_L32
    rw [if_pos (show (1024 : Int32) ≤ nI i from nI_le (a := 1024) (by omega) (by omega))]
    simp [anyF]
  | k + 1, n, i, b, σ, hr, hw, hi, hn => by
    have oN := ok.N
    have oT := ok.T
    obtain ⟨m, rfl, hm⟩ := fu_suc hn
    unfold mX12_isBettered_L32
    simp only [bnd_eq]
    rw [if_neg (show ¬ (1024 : Int32) ≤ nI i from nI_ge (b := 1024) (by omega) (by omega))]
    cases b
    · have go := fun b' σ' h1 h2 => r_bet_L32 ok hh hx hth (k99 := k99) k m (i + 1) b' σ' h1 h2 (by omega) (by omega)
      rw [if_neg (by simp), nI_1]
      unfold anyF
      rw [Bool.false_or]
      by_cases q : nI i &&& (hset v z (5 + th) ^^^ (-1)) = 0
      · rw [if_pos q, r_members]
        rw [obs_eq]
        by_cases q2 : mem (nI i) ≤ 2
        · obtain ⟨σ1, l1⟩ := r_isLawful hr ok hh (nI (2 ^ x)) (nI i) (nI z.hr) (v.sl th)
          have F : ∀ a k, ¬ (a = 242 ∨ a = 243) → σ1.1 a k = σ.1 a k := fun a k hn => (fX12_isLawful _ _ _ _ _ _ _ _ l1 a k (by unfold MOD_X12_isLawful; omega)).1
          rw [if_neg (fun w => (i32_3.mp w) q2), binn (show th < 4 by omega) (by omega), if_pos rfl, pn_cl (by omega), show 233 + 27 = 260 from rfl, hr.sl th hth, shl_nI (by omega), hw.hr, l1]
          rw [obs_eq]
          have e : btm v z h x th i = aLaw v h (nI (2 ^ x)) (nI i) (nI z.hr) (v.sl th) := by unfold btm; rw [decide_eq_true q, decide_eq_true q2]; rfl
          rw [e]
          cases q3 : aLaw v h (nI (2 ^ x)) (nI i) (nI z.hr) (v.sl th)
          · rw [if_neg (by simp)]
            exact go false σ1 (rv_sw hr F) (rw_sw hw F)
          · rw [if_pos rfl]
            exact go true σ1 (rv_sw hr F) (rw_sw hw F)
        · have e : btm v z h x th i = false := by unfold btm; simp [q2]
          rw [if_pos (i32_3.mpr q2), e]
          exact go false σ hr hw
      · have e : btm v z h x th i = false := by unfold btm; rw [decide_eq_false q]; rfl
        rw [if_neg q, e]
        exact go false σ hr hw
    · rw [if_pos rfl, Bool.true_or]
      exact ⟨σ, rfl, hr, hw⟩
theorem r_bet_L5 (ok : v.OK) (hz : Sv.OK v z) {h x : Nat} (hh : h < v.H) (hx : x < v.N) : ∀ k n i (b : Bool) (σ : St_), RV v σ → RW v z σ → i + k = v.T → k < n → ∃ σ', mX12_isBettered_L5 233 (nI h) (nI x) n b (nI i) σ = some (b || anyF (btr v z h x) i k, σ') ∧ RV v σ' ∧ RW v z σ'
  | 0, n, i, b, σ, hr, hw, hi, hn => by
    have := ok.T
    obtain ⟨m, rfl, -⟩ := fu_suc hn
    refine ⟨σ, ?_, hr, hw⟩
    unfold mX12_isBettered_L5
    rw [hr.T, if_pos (nI_le (by omega) (by omega))]
    simp [anyF]
  | k + 1, n, i, b, σ, hr, hw, hi, hn => by
    have oT := ok.T
    obtain ⟨m, rfl, hm⟩ := fu_suc hn
    unfold mX12_isBettered_L5
    rw [hr.T, if_neg (nI_ge (by omega) (by omega))]
    cases b
    · obtain ⟨σ1, a1, a2, a3⟩ := r_bet_L32 ok hh hx (z := z) (show i < v.T by omega) (k99 := fun y12 σ13 => mX12_isBettered_L5 233 (nI h) (nI x) m y12 (nI (i + 1)) σ13) 1023 FU 1 false σ hr hw (by omega) (by unfold FU; omega)
      obtain ⟨σ', e1, e2, e3⟩ := r_bet_L5 ok hz hh hx k m (i + 1) (btr v z h x i) σ1 a2 a3 (by omega) (by omega)
      refine ⟨σ', ?_, e2, e3⟩
      rw [if_neg (by simp), wc_thief (by omega), r_hasAt hr ok hz hw (by omega)]
      simp only [obs_eq, nI_1]
      unfold anyF
      rw [Bool.false_or, btr_eq ok] at a1
      rw [Bool.false_or]
      exact Eq.trans a1 e1
    · rw [if_pos rfl, Bool.true_or]
      exact ⟨σ, rfl, hr, hw⟩
def unbS (v : Vw) (z : Sv) (h : Nat) (x : Nat) : Bool := (z.wh x == h) && !anyF (btr v z h x) 0 v.T
theorem unb_or {P : Nat → Bool} {i : Nat} (hi : i < 31) : (if P i = true then nI (bsum P i) ||| (1 : Int32) <<< (nI i &&& 31) else nI (bsum P i)) = nI (bsum P (i + 1)) := by
  rw [shl_nI hi, nI_or]
  conv => rhs; unfold bsum
  by_cases q : P i = true
  · rw [if_pos q, if_pos q]
  · rw [if_neg q, if_neg q, Nat.or_zero]
theorem c_unb_L14 (ok : v.OK) (hcc : c = 12 ∨ c = 28) {h : Nat} (hh : h < v.H) : ∀ k n i (σ : St_), CV c v σ → CS v 44 z σ → i + k = v.N → k < n → ∃ σ', mX11_unbettered_L14 0 c dr (nI h) n (nI (bsum (unbS v z h) i)) (nI i) σ = some (nI (bsum (unbS v z h) v.N), σ')
  | 0, n, i, σ, hc, hs, hi, hn => by
    have := ok.N
    obtain ⟨m, rfl, -⟩ := fu_suc hn
    refine ⟨σ, ?_⟩
    unfold mX11_unbettered_L14
    rw [hc.N, if_pos (nI_le (by omega) (by omega)), show i = v.N by omega]
  | k + 1, n, i, σ, hc, hs, hi, hn => by
    have oN := ok.N
    have oH := ok.H
    have oT := ok.T
    obtain ⟨m, rfl, hm⟩ := fu_suc hn
    have e := unb_or (P := unbS v z h) (i := i) (by omega)
    have go := fun σ' h1 h2 => c_unb_L14 ok hcc hh k m (i + 1) σ' h1 h2 (by omega) (by omega)
    unfold mX11_unbettered_L14
    simp only [bnd_eq]
    rw [hc.N, if_neg (nI_ge (by omega) (by omega)), binn (show h < 9 by omega) (by omega), if_pos rfl, pn_cl (by omega), show 0 + 44 + 1 = 44 + 1 from rfl, hs.held h (by omega), tb_get _ (by omega), tb_beq ok (by omega), nI_1]
    by_cases q : (z.wh i == h) = true
    · rw [if_pos q, if_neg (by decide)]
      obtain ⟨σ1, a1, a2, a3⟩ := c_bet_L2 (dr := dr) ok hcc hh (show i < v.N by omega) v.T FU 0 σ hc hs (by omega) (by unfold FU; omega)
      have a1' : mX11_canBeBettered 0 c dr (nI h) (nI i) σ = some (anyF (btr v z h i) 0 v.T, σ1) := by unfold mX11_canBeBettered; exact a1
      rw [a1']
      rw [obs_eq]
      cases q2 : anyF (btr v z h i) 0 v.T
      · have u : unbS v z h i = true := by unfold unbS; rw [q, q2]; rfl
        rw [u, if_pos rfl] at e
        rw [if_neg (by simp), e]
        exact go σ1 a2 a3
      · have u : unbS v z h i = false := by unfold unbS; rw [q2]; simp
        rw [u, if_neg (by simp)] at e
        rw [if_pos rfl, e]
        exact go σ1 a2 a3
    · have u : unbS v z h i = false := by unfold unbS; simp [q]
      rw [u, if_neg (by simp)] at e
      rw [if_neg q, if_pos rfl, e]
      exact go σ hc hs
theorem r_unb_L18 (ok : v.OK) (hz : Sv.OK v z) {h : Nat} (hh : h < v.H) : ∀ k n i (σ : St_), RV v σ → RW v z σ → i + k = v.N → k < n → ∃ σ', mX12_unbettered_L18 233 (nI h) n (nI (bsum (unbS v z h) i)) (nI i) σ = some (nI (bsum (unbS v z h) v.N), σ')
  | 0, n, i, σ, hr, hw, hi, hn => by
    have := ok.N
    obtain ⟨m, rfl, -⟩ := fu_suc hn
    refine ⟨σ, ?_⟩
    unfold mX12_unbettered_L18
    rw [hr.N, if_pos (nI_le (by omega) (by omega)), show i = v.N by omega]
  | k + 1, n, i, σ, hr, hw, hi, hn => by
    have oN := ok.N
    have oH := ok.H
    have oT := ok.T
    obtain ⟨m, rfl, hm⟩ := fu_suc hn
    have e := unb_or (P := unbS v z h) (i := i) (by omega)
    have go := fun σ' h1 h2 => r_unb_L18 ok hz hh k m (i + 1) σ' h1 h2 (by omega) (by omega)
    have o0 : nI (bsum (unbS v z h) i) ||| (0 : Int32) = nI (bsum (unbS v z h) i) := by
      have := nI_or (bsum (unbS v z h) i) 0
      rw [Nat.or_zero] at this
      exact this
    unfold mX12_unbettered_L18
    simp only [bnd_eq]
    rw [hr.N, if_neg (nI_ge (by omega) (by omega)), binn (show i < 10 by omega) (by omega), if_pos rfl, pn_cl (by omega), show 233 + 30 = 263 from rfl, hw.wh i (by omega), nI_1, o0]
    have we : wcode (z.wh i) = nI h ↔ z.wh i = h := by rw [wc_house (by omega)]; exact wcode_eq (hz.le ok (by omega)) (by omega)
    by_cases q : z.wh i = h
    · rw [if_pos (we.mpr q)]
      obtain ⟨σ1, a1, a2, a3⟩ := r_bet_L5 ok hz hh (show i < v.N by omega) v.T FU 0 false σ hr hw (by omega) (by unfold FU; omega)
      have a1' : mX12_isBettered 233 (nI h) (nI i) σ = some (anyF (btr v z h i) 0 v.T, σ1) := by
        unfold mX12_isBettered
        rw [Bool.false_or] at a1
        exact a1
      rw [a1']
      rw [obs_eq]
      cases q2 : anyF (btr v z h i) 0 v.T
      · have u : unbS v z h i = true := by unfold unbS; rw [q2]; simp [q]
        rw [u, if_pos rfl] at e
        rw [if_neg (by simp), e]
        exact go σ1 a2 a3
      · have u : unbS v z h i = false := by unfold unbS; rw [q2]; simp
        rw [u, if_neg (by simp)] at e
        rw [if_pos rfl, e]
        exact go σ1 a2 a3
    · have u : unbS v z h i = false := by unfold unbS; simp [q]
      rw [u, if_neg (by simp)] at e
      rw [if_neg (fun w => q (we.mp w)), e]
      exact go σ hr hw
theorem core_23 (a1 : Int32) (hV : Vof c σ) (hcc : c = 12 ∨ c = 28) (hnow : Inow σ) : ∃ (r : Int32) (σ1 σ2 : St_), mX11_unbettered 0 c dr a1 σ = some (r, σ1) ∧ mX12_unbettered 233 a1 σ1 = some (r, σ2) := by
  obtain ⟨v, ok, hc, hr, h1, h2, h3, h4, -⟩ := hV
  obtain ⟨z, hz, zc, zr, -⟩ := now_of ok h1 h2 h3 h4 hnow
  have oN := ok.N
  cases hb : bin a1 v.H
  · refine ⟨-1, σ, σ, ?_, ?_⟩
    · unfold mX11_unbettered; rw [c_isHouse hc ok, hb]; rfl
    · unfold mX12_unbettered; rw [r_isHouse hr ok, hb]; rfl
  · obtain ⟨h, hh, rfl, -⟩ := bin_iff.mp hb
    obtain ⟨σ1, g1⟩ := c_unb_L14 (dr := dr) ok hcc hh v.N FU 0 σ hc zc (by omega) (by unfold FU; omega)
    have z1 : nI (bsum (unbS v z h) 0) = (0 : Int32) := rfl
    have z2 : nI 0 = (0 : Int32) := rfl
    rw [z1, z2] at g1
    have cls : mX11_unbettered 0 c dr (nI h) σ = some (nI (bsum (unbS v z h) v.N), σ1) := by
      unfold mX11_unbettered
      rw [c_isHouse hc ok, hb, obs_eq, if_pos rfl]
      exact g1
    have F : ∀ a k, 233 ≤ a → σ1.1 a k = σ.1 a k := fun a k hn => (fX11_unbettered _ _ _ _ _ _ cls a k (by unfold MOD_X11_unbettered; omega)).1
    have hr1 : RV v σ1 := hr.fr (fun a k q => F a k (by unfold FPr at q; omega))
    obtain ⟨σ2, l1, l2⟩ := r_load ok.N (zr.fr ok.N (fun k _ _ => F 262 k (by omega)))
    have hr2 : RV v σ2 := hr1.fr (fun a k q => (fX12_load _ _ _ l1 a k (by unfold MOD_X12_load; unfold FPr at q; omega)).1)
    obtain ⟨σ3, e1⟩ := r_unb_L18 ok hz hh v.N FU 0 σ2 hr2 l2 (by omega) (by unfold FU; omega)
    rw [z1, z2] at e1
    refine ⟨_, σ1, σ3, cls, ?_⟩
    unfold mX12_unbettered
    rw [r_isHouse hr1 ok, hb, obs_eq, if_pos rfl, l1, obs_eq]
    exact e1
end UNBET
