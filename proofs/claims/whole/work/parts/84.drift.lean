/-! drift, sums, rests, lie -/
section DRIFT
variable {σ σ' : St_} {c dr s t th : Nat} {v : Vw} {z : Sv}
theorem in060 {p : Int32} {lo hi : Int32} : mX12_isIn p lo hi σ = some (decide (lo ≤ p) && decide (p ≤ hi)) := isIn_eq p lo hi
theorem p060 {p : Int32} (h0 : ¬ p < 0) (h1 : p ≤ 60) : ∃ n, n ≤ 60 ∧ p = nI n := by
  have e := pn_of (nn_of h0)
  refine ⟨p.toNatClampNeg, ?_, e⟩
  rw [e] at h1
  exact (nI_leI (b := 60) (pn_lt31 p) (by omega)).mp h1
/-- the reference: ROUNDS of n HOURS from now on -/
theorem r_then (hr : RV v σ) (ok : v.OK) (hz : Sv.OK v z) (zr : RN v 262 0 z σ) {N : Nat} (hN : N ≤ 60) : ∃ σ1 σ2, mX12_load 233 σ = some σ1 ∧ mX12_goRounds 233 (nI N) σ1 = some σ2 ∧ RV v σ2 ∧ RW v (iterH v N z) σ2 := by
  obtain ⟨σ1, l1, l2⟩ := r_load ok.N zr
  have hr1 : RV v σ1 := hr.fr (fun a k q => (fX12_load _ _ _ l1 a k (by unfold MOD_X12_load; unfold FPr at q; omega)).1)
  obtain ⟨σ2, a1, a2, a3, -⟩ := r_goRounds hr1 ok hz l2 hN
  exact ⟨σ1, σ2, l1, a1, a2, a3⟩
theorem drift_dec : ∀ h : Fin 10, (if (5 : Int32) ≤ (if h.1 < 9 then nI h.1 else -1) then ((if h.1 < 9 then nI h.1 else -1) - 5) + 10 else (if h.1 < 9 then nI h.1 else -1)) = wcode h.1 := by decide
theorem core_19 (a1 a2 : Int32) (hV : Vof c σ) (hcc : c = 12 ∨ c = 28) (hnow : Inow σ) : ∃ (r : Int32) (σ1 σ2 : St_), mX11_drift 0 c dr a1 a2 σ = some (r, σ1) ∧ mX12_drift 233 a1 a2 σ1 = some (r, σ2) := by
  obtain ⟨v, ok, hc, hr, h1, h2, h3, h4, -⟩ := hV
  obtain ⟨z, hz, zc, zr, -⟩ := now_of ok h1 h2 h3 h4 hnow
  have oN := ok.N
  have no : mX11_drift 0 c dr a1 a2 σ = some (-2, σ) → mX12_drift 233 a1 a2 σ = some (-2, σ) → ∃ (r : Int32) (σ1 σ2 : St_), mX11_drift 0 c dr a1 a2 σ = some (r, σ1) ∧ mX12_drift 233 a1 a2 σ1 = some (r, σ2) := fun e1 e2 => ⟨-2, σ, σ, e1, e2⟩
  cases hb : bin a1 v.N
  · apply no
    · unfold mX11_drift; rw [c_isThing hc ok, hb]; rfl
    · unfold mX12_drift; rw [r_isThing hr ok, hb]; rfl
  by_cases q0 : a2 < 0
  · apply no
    · unfold mX11_drift; rw [c_isThing hc ok, hb]; simp only [obs_eq, if_true, if_pos q0]
    · unfold mX12_drift; rw [r_isThing hr ok, hb]; simp only [obs_eq, if_true, in060, Int32.not_le.mpr q0]; rfl
  by_cases q1 : a2 ≤ 60
  · obtain ⟨N, hN, rfl⟩ := p060 q0 q1
    obtain ⟨x, hx, rfl, -⟩ := bin_iff.mp hb
    obtain ⟨σ1, g1, g2, g3⟩ := c_run (t := 192) (s := 44) (e := 61) hc ok (by omega) zc hz (by omega) hN (by omega)
    rw [rnF_61 N 1 0 z (by omega)] at g3
    have F : ∀ a k, 233 ≤ a → σ1.1 a k = σ.1 a k := fun a k hn => (fX6_run _ _ _ _ _ _ _ g1 a k (by unfold MOD_X6_run; omega)).1
    have hr1 : RV v σ1 := hr.fr (fun a k q => F a k (by unfold FPr at q; omega))
    have hz1 := iterH_OK ok N z hz
    obtain ⟨σ2, σ3, l1, a1, a2, a3⟩ := r_then hr1 ok hz (zr.fr ok.N (fun k _ _ => F 262 k (by omega))) hN
    have hw9 : (iterH v N z).wh x ≤ 9 := hz1.le ok hx
    refine ⟨wcode ((iterH v N z).wh x), σ1, σ3, ?_, ?_⟩
    · unfold mX11_drift
      rw [c_isThing hc ok, hb]
      simp only [obs_eq, if_true]
      rw [if_neg q0, if_pos q1, show 0 + 192 = 192 from rfl, show 0 + 44 = 44 from rfl, show (61 : Int32) = nI 61 from rfl, g1]
      rw [obs_eq]
      rw [c_holderOf ok hz1 g3 hx]
      rw [obs_eq]
      have := drift_dec ⟨(iterH v N z).wh x, by omega⟩
      simp only at this
      rw [← this]
      by_cases w : (5 : Int32) ≤ (if (iterH v N z).wh x < 9 then nI ((iterH v N z).wh x) else -1)
      · rw [if_pos w, if_pos w]
      · rw [if_neg w, if_neg w]
    · unfold mX12_drift
      rw [r_isThing hr1 ok, hb]
      simp only [obs_eq, if_true, in060, nn_of q0, q1, decide_true, Bool.and_self, l1, a1, bnd_eq, pn_cl (show x < 2 ^ 31 by omega), binn (show x < 10 by omega) (show x < 2 ^ 31 by omega), show 233 + 30 = 263 from rfl, a3.wh x hx]
  · apply no
    · unfold mX11_drift; rw [c_isThing hc ok, hb]; simp only [obs_eq, if_true, if_neg q0, if_neg q1]
    · unfold mX12_drift; rw [r_isThing hr ok, hb]; simp only [obs_eq, if_true, in060, q1, decide_false, Bool.and_false]; rfl
theorem core_20 (a1 : Int32) (a2 : Bool) (a3 : Int32) (hV : Vof c σ) (hcc : c = 12 ∨ c = 28) (hnow : Inow σ) : ∃ (r : Int32) (σ1 σ2 : St_), mX11_sums 0 c dr a1 a2 a3 σ = some (r, σ1) ∧ mX12_sums 233 a1 a2 a3 σ1 = some (r, σ2) := by
  obtain ⟨v, ok, hc, hr, h1, h2, h3, h4, -⟩ := hV
  obtain ⟨z, hz, zc, zr, -⟩ := now_of ok h1 h2 h3 h4 hnow
  have no : mX11_sums 0 c dr a1 a2 a3 σ = some (-1, σ) → mX12_sums 233 a1 a2 a3 σ = some (-1, σ) → ∃ (r : Int32) (σ1 σ2 : St_), mX11_sums 0 c dr a1 a2 a3 σ = some (r, σ1) ∧ mX12_sums 233 a1 a2 a3 σ1 = some (r, σ2) := fun e1 e2 => ⟨-1, σ, σ, e1, e2⟩
  cases hb : isHol v a1 a2
  · apply no
    · unfold mX11_sums; rw [c_holderIndex hc ok, hb]; simp
    · unfold mX12_sums; rw [r_isHolder hr ok, hb]; rfl
  · obtain ⟨i, rfl, hi, hi2, hi3⟩ := isHol_of ok hb
    have e := @hol_nI i a2
    have nm : ¬ nI (holIx i a2) = -1 := nI_nm1 (by omega)
    have ci : mX11_holderIndex 0 c dr (nI i) a2 σ = some (nI (holIx i a2)) := by rw [c_holderIndex hc ok, hb, if_pos rfl, e]
    by_cases q0 : a3 < 0
    · apply no
      · unfold mX11_sums; rw [ci]; simp only [obs_eq, if_neg nm, if_pos q0]
      · unfold mX12_sums; rw [r_isHolder hr ok, hb]; simp only [obs_eq, if_true, in060, Int32.not_le.mpr q0]; rfl
    by_cases q1 : a3 ≤ 60
    · obtain ⟨N, hN, rfl⟩ := p060 q0 q1
      obtain ⟨σ1, g1, g2, g3⟩ := c_run (t := 192) (s := 44) (e := 61) hc ok (by omega) zc hz (by omega) hN (by omega)
      rw [rnF_61 N 1 0 z (by omega)] at g3
      have F : ∀ a k, 233 ≤ a → σ1.1 a k = σ.1 a k := fun a k hn => (fX6_run _ _ _ _ _ _ _ g1 a k (by unfold MOD_X6_run; omega)).1
      have hr1 : RV v σ1 := hr.fr (fun a k q => F a k (by unfold FPr at q; omega))
      have hz1 := iterH_OK ok N z hz
      obtain ⟨σ2, σ3, l1, a1, a2', a3⟩ := r_then hr1 ok hz (zr.fr ok.N (fun k _ _ => F 262 k (by omega))) hN
      refine ⟨aV v (holIx i a2) (hset v (iterH v N z) (holIx i a2)), σ1, σ3, ?_, ?_⟩
      · unfold mX11_sums
        rw [ci]
        simp only [obs_eq, bnd_eq]
        rw [if_neg nm, if_neg q0, if_pos q1, show 0 + 192 = 192 from rfl, show 0 + 44 = 44 from rfl, show (61 : Int32) = nI 61 from rfl, g1]
        rw [obs_eq]
        rw [binn hi2 (by omega), if_pos rfl, pn_cl (by omega), show 192 + 10 + 1 = 192 + 10 + 1 from rfl, g3.held _ hi2, c_valueOfSet g2 ok hi2]
        rfl
      · unfold mX12_sums
        rw [r_isHolder hr1 ok, hb]
        simp only [obs_eq, if_true, in060, nn_of q0, q1, decide_true, Bool.and_self, l1, a1]
        rw [holIx_w hi2 hi3]
        rw [obs_eq]
        rw [r_sumAt a2' ok hz1 a3 (by omega) hi2]
        rfl
    · apply no
      · unfold mX11_sums; rw [ci]; simp only [obs_eq, if_neg nm, if_neg q0, if_neg q1]
      · unfold mX12_sums; rw [r_isHolder hr ok, hb]; simp only [obs_eq, if_true, in060, q1, decide_false, Bool.and_false]; rfl
theorem core_21 (hV : Vof c σ) (hcc : c = 12 ∨ c = 28) (hnow : Inow σ) : ∃ (r : Int32) (σ1 σ2 : St_), mX11_rests 0 c dr σ = some (r, σ1) ∧ mX12_rests 233 σ1 = some (r, σ2) := by
  obtain ⟨v, ok, hc, hr, h1, h2, h3, h4, -⟩ := hV
  obtain ⟨z, hz, zc, zr, -⟩ := now_of ok h1 h2 h3 h4 hnow
  have oR := ok.R
  obtain ⟨σ1, g1, g2, g3⟩ := c_run (t := 192) (s := 44) (e := v.R) (N := 60) hc ok (by omega) zc hz (by omega) (by omega) (by omega)
  have F : ∀ a k, 233 ≤ a → σ1.1 a k = σ.1 a k := fun a k hn => (fX6_run _ _ _ _ _ _ _ g1 a k (by unfold MOD_X6_run; omega)).1
  have hr1 : RV v σ1 := hr.fr (fun a k q => F a k (by unfold FPr at q; omega))
  obtain ⟨σ2, l1, l2⟩ := r_load ok.N (zr.fr ok.N (fun k _ _ => F 262 k (by omega)))
  have hr2 : RV v σ2 := hr1.fr (fun a k q => (fX12_load _ _ _ l1 a k (by unfold MOD_X12_load; unfold FPr at q; omega)).1)
  obtain ⟨σ3, u⟩ := r_rests_L ok 60 FU 1 0 z (sI σ2 233 78 0) (hr2.fr (fun a k q => by rw [sI_get, if_neg (by unfold FPr at q; omega)])) (l2.fr (fun a k q => by rw [sI_get, if_neg (by omega)])) hz (by omega) (by unfold FU; omega) (by omega) (by rw [sI_get, if_pos ⟨rfl, rfl⟩]; rfl)
  refine ⟨(rnF v v.R 60 1 0 z).1, σ1, σ3, ?_, ?_⟩
  · unfold mX11_rests
    rw [hc.R, show 0 + 192 = 192 from rfl, show 0 + 44 = 44 from rfl, show (60 : Int32) = nI 60 from rfl, g1]
    rfl
  · unfold mX12_rests
    rw [l1]
    simp only [obs_eq, bnd_eq]
    exact u
/-! another WORTH told -/
def Vw.sayF (v : Vw) (f : Nat → Nat → Int32) : Vw := (v.N, v.H, v.T, v.R, v.kd, v.wt, v.pr, v.lk, v.wa, v.sk, v.sl, v.va, f, v.lw)
def Vw.say (v : Vw) (h x : Nat) (w : Int32) : Vw := v.sayF (fun a b => if a = h ∧ b = x then w else v.sa a b)
theorem say_ok (ok : v.OK) (h x : Nat) (w : Int32) : (v.say h x w).OK := ok
/-- all of a CITY but what law counts in HOUSES -/
def CV0 (c : Nat) (v : Vw) (σ : St_) : Prop := (σ.1 c 0 = nI v.R) ∧ (σ.1 c 2 = nI v.N) ∧ (σ.1 c 3 = nI v.H) ∧ (σ.1 c 4 = nI v.T) ∧ (∀ x, x < v.N → σ.1 (c + 1) x = v.kd x) ∧ (∀ x, x < v.N → σ.1 (c + 2) x = v.wt x) ∧ (∀ x, x < v.N → σ.1 (c + 3) x = v.pr x) ∧ (∀ x, x < v.H → σ.1 (c + 4) x = v.lk x) ∧ (∀ x, x < v.H → σ.1 (c + 5) x = v.wa x) ∧ (∀ x, x < v.T → σ.1 (c + 6) x = v.sk x) ∧ (∀ x, x < v.T → σ.1 (c + 7) x = v.sl x) ∧ (∀ h, h < 9 → ∀ x, x < v.N → σ.1 (c + 8) (10 * h + x) = v.va h x) ∧ (v.lw = none → σ.1 (c + 11) 4 = 0) ∧ (∀ l, v.lw = some l → σ.1 (c + 11) 4 = nI l.length ∧ ∀ i q, l[i]? = some q → σ.1 (c + 12) i = lstepC q ∧ (q.1 ≤ 1 → σ.1 (c + 13) i = q.2))
theorem CV0.fr (h : CV0 c v σ) (e : ∀ a k, ¬ a = c + 9 → σ'.1 a k = σ.1 a k) : CV0 c v σ' := by
  obtain ⟨h1, h2, h3, h4, h5, h6, h7, h8, h9, h10, h11, h12, h13, h14⟩ := h
  refine ⟨?_, ?_, ?_, ?_, fun y hy => ?_, fun y hy => ?_, fun y hy => ?_, fun y hy => ?_, fun y hy => ?_, fun y hy => ?_, fun y hy => ?_, fun a ha b hb => ?_, fun q => ?_, fun l q => ⟨?_, fun i p hp => ?_⟩⟩
  · rw [e _ _ (by omega)]; exact h1
  · rw [e _ _ (by omega)]; exact h2
  · rw [e _ _ (by omega)]; exact h3
  · rw [e _ _ (by omega)]; exact h4
  · rw [e _ _ (by omega)]; exact h5 y hy
  · rw [e _ _ (by omega)]; exact h6 y hy
  · rw [e _ _ (by omega)]; exact h7 y hy
  · rw [e _ _ (by omega)]; exact h8 y hy
  · rw [e _ _ (by omega)]; exact h9 y hy
  · rw [e _ _ (by omega)]; exact h10 y hy
  · rw [e _ _ (by omega)]; exact h11 y hy
  · rw [e _ _ (by omega)]; exact h12 a ha b hb
  · rw [e _ _ (by omega)]; exact h13 q
  · rw [e _ _ (by omega)]; exact (h14 l q).1
  · rw [e (c + 12) _ (by omega), e (c + 13) _ (by omega)]; exact (h14 l q).2 i p hp
theorem cv_split {f : Nat → Nat → Int32} (hc : CV c (v.sayF f) σ) : CV0 c v σ ∧ ∀ h, h < v.H → ∀ x, x < v.N → σ.1 (c + 9) (10 * h + x) = f h x := ⟨⟨hc.R, hc.N, hc.H, hc.T, hc.kd, hc.wt, hc.pr, hc.lk, hc.wa, hc.sk, hc.sl, hc.va, hc.lw0, hc.lw1⟩, hc.sa⟩
theorem cv_join {f : Nat → Nat → Int32} (h : CV0 c v σ) (hs : ∀ h, h < v.H → ∀ x, x < v.N → σ.1 (c + 9) (10 * h + x) = f h x) : CV c (v.sayF f) σ := by
  obtain ⟨h1, h2, h3, h4, h5, h6, h7, h8, h9, h10, h11, h12, h13, h14⟩ := h
  exact ⟨h1, h2, h3, h4, h5, h6, h7, h8, h9, h10, h11, h12, hs, h13, h14⟩
theorem cv_0 (hc : CV c v σ) : CV0 c v σ := ⟨hc.R, hc.N, hc.H, hc.T, hc.kd, hc.wt, hc.pr, hc.lk, hc.wa, hc.sk, hc.sl, hc.va, hc.lw0, hc.lw1⟩
theorem say_cv0 (hc : CV c v σ) (h x : Nat) : CV c (v.say h x (v.sa h x)) σ := by
  refine cv_join (cv_0 hc) (fun a ha b hb => ?_)
  by_cases q : a = h ∧ b = x
  · rw [if_pos q, q.1, q.2]; exact hc.sa h (by rw [← q.1]; exact ha) x (by rw [← q.2]; exact hb)
  · rw [if_neg q]; exact hc.sa a ha b hb
theorem c_say (ok : v.OK) {h x : Nat} {u : Int32} (hh : h < v.H) (hx : x < v.N) (hc : CV c (v.say h x u) σ) (w : Int32) : ∃ σ', mX1_say c (nI h) (nI x) w σ = some σ' ∧ CV c (v.say h x w) σ' ∧ ∀ a k, ¬ (a = c + 9 ∧ k = 10 * h + x) → σ'.1 a k = σ.1 a k := by
  have oN := ok.N
  have oH := ok.H
  have hb : bin (nI (10 * h + x)) 50 = true := binn (by omega) (by omega)
  have hcl : (nI (10 * h + x)).toNatClampNeg = 10 * h + x := pn_cl (by omega)
  obtain ⟨h0, hs⟩ := cv_split hc
  unfold mX1_say
  simp only [bnd_eq, va_ix, hb, hcl, if_true]
  refine ⟨_, rfl, cv_join (h0.fr (fun a k hn => by rw [sI_get, if_neg (by omega)])) (fun a ha b hb => ?_), fun a k hn => by rw [sI_get, if_neg (by omega)]⟩
  rw [sI_get]
  by_cases q : a = h ∧ b = x
  · rw [if_pos q, if_pos ⟨rfl, by rw [q.1, q.2]⟩]
  · rw [if_neg q, if_neg (by omega), hs a ha b hb, if_neg q]
theorem c_sayTruth (ok : v.OK) {h x : Nat} {u : Int32} (hh : h < v.H) (hx : x < v.N) (hT : v.sa h x = v.va h x) (hc : CV c (v.say h x u) σ) : ∃ σ', mX1_sayTruth c (nI h) (nI x) σ = some σ' ∧ CV c v σ' ∧ ∀ a k, ¬ (a = c + 9 ∧ k = 10 * h + x) → σ'.1 a k = σ.1 a k := by
  have oH := ok.H
  unfold mX1_sayTruth
  have e : mX1_valueTo c (nI h) (nI x) σ = some (v.va h x) := c_valueTo hc (say_ok ok h x u) (by omega) hx
  rw [e]
  rw [obs_eq]
  obtain ⟨σ', s1, s2, s3⟩ := c_say ok hh hx hc (v.va h x)
  rw [s1]
  refine ⟨σ', rfl, ?_, s3⟩
  have e2 : v.say h x (v.va h x) = v := by
    have : (fun a b => if a = h ∧ b = x then v.va h x else v.sa a b) = v.sa := by
      funext a b
      by_cases q : a = h ∧ b = x
      · rw [if_pos q, q.1, q.2, hT]
      · rw [if_neg q]
    exact (congrArg (Vw.sayF v) this).trans rfl
  rw [e2] at s2
  exact s2
theorem say_rv {h x : Nat} (hx : x < v.N) (hh : h < v.H) (ok : v.OK) (hT : ∀ a b, a < v.H → b < v.N → v.sa a b = v.va a b) {w : Int32} (hr : RV v σ) (e : ∀ a k, FPr a k → ¬ (a = 233 ∧ (k = 64 ∨ k = 65 ∨ k = 66)) → σ'.1 a k = σ.1 a k) (e1 : σ'.1 233 64 = nI x) (e2 : σ'.1 233 65 = nI h) (e3 : σ'.1 233 66 = w) : RV (v.say h x w) σ' := by
  have oN := ok.N
  have oH := ok.H
  refine ⟨?_, ?_, ?_, ?_, fun y hy => ?_, fun y hy => ?_, fun y hy => ?_, fun y hy => ?_, fun y hy => ?_, fun y hy => ?_, fun y hy => ?_, fun a ha b hb => ?_, fun a ha b hb => ?_, fun q => ?_, fun l q => ⟨?_, ?_, fun i p hp => ?_⟩⟩
  · rw [e _ _ (by unfold FPr; omega) (by omega)]; exact hr.R
  · rw [e _ _ (by unfold FPr; omega) (by omega)]; exact hr.N
  · rw [e _ _ (by unfold FPr; omega) (by omega)]; exact hr.H
  · rw [e _ _ (by unfold FPr; omega) (by omega)]; exact hr.T
  · rw [e _ _ (by unfold FPr; omega) (by omega)]; exact hr.kd y hy
  · rw [e _ _ (by unfold FPr; omega) (by omega)]; exact hr.wt y hy
  · rw [e _ _ (by unfold FPr; omega) (by omega)]; exact hr.pr y hy
  · rw [e _ _ (by unfold FPr; omega) (by omega)]; exact hr.lk y hy
  · rw [e _ _ (by unfold FPr; omega) (by omega)]; exact hr.wa y hy
  · rw [e _ _ (by unfold FPr; omega) (by omega)]; exact hr.sk y hy
  · rw [e _ _ (by unfold FPr; omega) (by omega)]; exact hr.sl y hy
  · rw [e _ _ (by unfold FPr; omega) (by omega), e 255 _ (by unfold FPr; omega) (by omega)]; exact hr.va a ha b hb
  · have hb' : b < v.N := hb
    have ha' : a < v.H := ha
    rw [e1, e2, e3]
    show (if nI b = nI x ∧ nI a = nI h then w else v.va a b) = if a = h ∧ b = x then w else v.sa a b
    have p : (nI b = nI x ∧ nI a = nI h) = (a = h ∧ b = x) := propext (by
      rw [nI_eq (by omega) (by omega), nI_eq (by omega) (by omega)]
      exact And.comm)
    simp only [p, hT a b ha' hb']
  · rw [e _ _ (by unfold FPr; omega) (by omega)]; exact hr.lw0 q
  · rw [e _ _ (by unfold FPr; omega) (by omega)]; exact (hr.lw1 l q).1
  · rw [e _ _ (by unfold FPr; omega) (by omega)]; exact (hr.lw1 l q).2.1
  · rw [e 239 _ (by unfold FPr; omega) (by omega), e 240 _ (by unfold FPr; omega) (by omega)]; exact (hr.lw1 l q).2.2 i p hp
/-- LIE: what a HOUSE has behind ROUNDS, the best so far -/
def ownL (v : Vw) (z : Sv) (h n : Nat) (u : Vw) : Int32 := aV v h (hset v (iterH u n z) h)
def lieW (v : Vw) (z : Sv) (h n x : Nat) : Nat → Nat → Int32 × Int32 × Int32 → Int32 × Int32 × Int32
  | 0, _, a => a
  | k + 1, w, a => lieW v z h n x k (w + 1) (if ownL v z h n (v.say h x (nI w)) ≤ a.1 then a else (ownL v z h n (v.say h x (nI w)), nI x, nI w))
def lieX (v : Vw) (z : Sv) (h n : Nat) : Nat → Nat → Int32 × Int32 × Int32 → Int32 × Int32 × Int32
  | 0, _, a => a
  | k + 1, x, a => lieX v z h n k (x + 1) (lieW v z h n x 21 0 a)
def LieC (a : Int32 × Int32 × Int32) (σ : St_) : Prop := σ.1 192 2 = a.1 ∧ σ.1 192 3 = a.2.1 ∧ σ.1 192 4 = a.2.2
theorem c_ownL {u : Vw} (hu : u.va = v.va ∧ u.N = v.N) (hc : CV c u σ) (ok : u.OK) (hct : c + 16 ≤ 44) (zc : CS u 44 z σ) (hz : Sv.OK u z) {h n : Nat} (hh : h < u.H) (hn : n ≤ 4) : ∃ r σ1, mX6_run 192 c 44 (nI n) (61 : Int32) σ = some (r, σ1) ∧ CV c u σ1 ∧ bin (nI h) 9 = true ∧ (nI h).toNatClampNeg = h ∧ mX1_valueOfSet c (nI h) (σ1.1 203 h) σ1 = some (ownL v z h n u) ∧ ∀ a k, ¬ ((a = c + 14 ∨ a = c + 15) ∨ (193 ≤ a ∧ a ≤ 204)) → σ1.1 a k = σ.1 a k := by
  have oH := ok.H
  obtain ⟨σ1, g1, g2, g3⟩ := c_run (t := 192) (s := 44) (e := 61) (N := n) hc ok (by omega) zc hz (by omega) (by omega) (by omega)
  rw [rnF_61 n 1 0 z (by omega)] at g3
  refine ⟨_, σ1, g1, g2, binn (by omega) (by omega), pn_cl (by omega), ?_, fun a k hn => (fX6_run _ _ _ _ _ _ _ g1 a k (by unfold MOD_X6_run; omega)).1⟩
  have e : σ1.1 203 h = hset u (iterH u n z) h := g3.held h (by omega)
  rw [e, c_valueOfSet g2 ok (by omega)]
  unfold ownL aV hset
  rw [hu.1, hu.2]
theorem c_lie_L54 (ok : v.OK) (hcc : c = 12 ∨ c = 28) (hz : Sv.OK v z) {h n x : Nat} (hh : h < v.H) (hn : n ≤ 4) (hx : x < v.N) {k130 : St_ → Option St_} : ∀ k m w (a : Int32 × Int32 × Int32) (u : Int32) (σ : St_), CV c (v.say h x u) σ → CS v 44 z σ → LieC a σ → w + k = 21 → k < m → ∃ σ' u', mX6_findLie_L54 192 c 44 (nI h) (nI n) (nI x) k130 m (nI w) σ = k130 σ' ∧ CV c (v.say h x u') σ' ∧ CS v 44 z σ' ∧ LieC (lieW v z h n x k w a) σ' ∧ ∀ j, ¬ j = 10 * h + x → σ'.1 (c + 9) j = σ.1 (c + 9) j
  | 0, m, w, a, u, σ, hc, zc, hL, hw, hm => by
    obtain ⟨m, rfl, -⟩ := fu_suc hm
    refine ⟨σ, u, ?_, hc, zc, hL, fun j _ => rfl⟩
    unfold mX6_findLie_L54
    rw [if_pos (show (20 : Int32) < nI w from nI_lt (a := 20) (by omega) (by omega))]
  | k + 1, m, w, a, u, σ, hc, zc, hL, hw, hm => by
    obtain ⟨m, rfl, hm⟩ := fu_suc hm
    obtain ⟨σ1, s1, s2, s3⟩ := c_say ok hh hx hc (nI w)
    have zc1 : CS v 44 z σ1 := zc.fr (fun a k q => s3 a k (by omega))
    obtain ⟨r, σ2, g1, g2, g3, g4, g5, g6⟩ := c_ownL (v := v) (u := v.say h x (nI w)) ⟨rfl, rfl⟩ s2 (say_ok ok h x (nI w)) (by omega) zc1 hz hh hn
    have zc2 : CS v 44 z σ2 := zc1.fr (fun a k q => g6 a k (by omega))
    have hL2 : LieC a σ2 := by
      obtain ⟨l1, l2, l3⟩ := hL
      refine ⟨?_, ?_, ?_⟩
      · rw [g6 _ _ (by omega), s3 _ _ (by omega)]; exact l1
      · rw [g6 _ _ (by omega), s3 _ _ (by omega)]; exact l2
      · rw [g6 _ _ (by omega), s3 _ _ (by omega)]; exact l3
    have go := fun a' σ' h1 h2 h3 => c_lie_L54 ok hcc hz hh hn hx (k130 := k130) k m (w + 1) a' (nI w) σ' h1 h2 h3 (by omega) (by omega)
    unfold mX6_findLie_L54
    simp only [bnd_eq]
    rw [if_neg (show ¬ (20 : Int32) < nI w from nI_nlt (a := 20) (by omega) (by omega)), s1]
    rw [obs_eq]
    rw [g1]
    rw [obs_eq]
    rw [g3, if_pos rfl, g4, show 192 + 10 + 1 = 203 from rfl, g5]
    simp only [obs_eq, nI_1]
    rw [hL2.1]
    unfold lieW
    by_cases q : ownL v z h n (v.say h x (nI w)) ≤ a.1
    · rw [if_pos q, if_pos q]
      obtain ⟨σ', u', e1, e2, e3, e4, e5⟩ := go a σ2 g2 zc2 hL2
      exact ⟨σ', u', e1, e2, e3, e4, fun j hj => by rw [e5 j hj, g6 _ _ (by omega), s3 _ _ (by omega)]⟩
    · rw [if_neg q, if_neg q]
      have A : ∀ a k, ¬ a = 192 → (sI (sI (sI σ2 192 2 (ownL v z h n (v.say h x (nI w)))) 192 3 (nI x)) 192 4 (nI w)).1 a k = σ2.1 a k := fun a k hn => by rw [sI_get, if_neg (by omega), sI_get, if_neg (by omega), sI_get, if_neg (by omega)]
      obtain ⟨σ', u', e1, e2, e3, e4, e5⟩ := go (ownL v z h n (v.say h x (nI w)), nI x, nI w) (sI (sI (sI σ2 192 2 (ownL v z h n (v.say h x (nI w)))) 192 3 (nI x)) 192 4 (nI w)) (g2.fr (fun a k q => A a k (by unfold FPc at q; omega))) (zc2.fr (fun a k q => A a k (by omega))) ⟨by simp [sI_get], by simp [sI_get], by simp [sI_get]⟩
      exact ⟨σ', u', e1, e2, e3, e4, fun j hj => by rw [e5 j hj, A _ _ (by omega), g6 _ _ (by omega), s3 _ _ (by omega)]⟩
theorem c_lie_L42 (ok : v.OK) (hcc : c = 12 ∨ c = 28) (hz : Sv.OK v z) (hT : ∀ a b, a < v.H → b < v.N → v.sa a b = v.va a b) {h n : Nat} (hh : h < v.H) (hn : n ≤ 4) : ∀ k m x (a : Int32 × Int32 × Int32) (σ : St_), CV c v σ → CS v 44 z σ → LieC a σ → x + k = v.N → k < m → ∃ σ', mX6_findLie_L42 192 c 44 (nI h) (nI n) m (nI x) σ = some σ' ∧ CV c v σ' ∧ LieC (lieX v z h n k x a) σ' ∧ ∀ j, (∀ y, y < v.N → ¬ j = 10 * h + y) → σ'.1 (c + 9) j = σ.1 (c + 9) j
  | 0, m, x, a, σ, hc, zc, hL, hw, hm => by
    have := ok.N
    obtain ⟨m, rfl, -⟩ := fu_suc hm
    refine ⟨σ, ?_, hc, hL, fun j _ => rfl⟩
    unfold mX6_findLie_L42
    rw [hc.N, if_pos (nI_le (by omega) (by omega))]
  | k + 1, m, x, a, σ, hc, zc, hL, hw, hm => by
    have := ok.N
    obtain ⟨m, rfl, hm⟩ := fu_suc hm
    obtain ⟨σ1, u1, b1, b2, b3, b4, b5⟩ := c_lie_L54 ok hcc hz hh hn (show x < v.N by omega) (k130 := (fun (σ17 : St_) => ((mX1_sayTruth c (nI h) (nI x) σ17).bind fun σ18 => (mX6_findLie_L42 192 c 44 (nI h) (nI n) m (nI (x + 1)) σ18)))) 21 FU 0 a (v.sa h x) σ (say_cv0 hc h x) zc hL (by omega) (by unfold FU; omega)
    obtain ⟨σ2, d1, d2, d3⟩ := c_sayTruth ok hh (show x < v.N by omega) (hT h x hh (by omega)) b2
    have hL2 : LieC (lieW v z h n x 21 0 a) σ2 := by
      obtain ⟨l1, l2, l3⟩ := b4
      exact ⟨by rw [d3 _ _ (by omega)]; exact l1, by rw [d3 _ _ (by omega)]; exact l2, by rw [d3 _ _ (by omega)]; exact l3⟩
    obtain ⟨σ', e1, e2, e3, e4⟩ := c_lie_L42 ok hcc hz hT hh hn k m (x + 1) _ σ2 d2 (b3.fr (fun a k q => d3 a k (by omega))) hL2 (by omega) (by omega)
    refine ⟨σ', ?_, e2, e3, fun j hj => by rw [e4 j hj, d3 _ _ (by have := hj x (by omega); omega), b5 j (hj x (by omega))]⟩
    unfold mX6_findLie_L42
    rw [hc.N, if_neg (nI_ge (by omega) (by omega)), nI_1]
    refine Eq.trans b1 ?_
    try dsimp only
    rw [d1]
    exact e1
theorem r_hasThen {u : Vw} (hu : u.va = v.va ∧ u.N = v.N) (hr : RV u σ) (ok : u.OK) (hz : Sv.OK u z) (zr : RN u 262 0 z σ) {h n : Nat} (hh : h < u.H) (hn : n ≤ 4) : ∃ σ', mX12_hasThen 233 (nI h) (nI n) σ = some (ownL v z h n u, σ') ∧ RV u σ' := by
  have oH := ok.H
  obtain ⟨σ1, σ2, l1, a1, a2, a3⟩ := r_then hr ok hz zr (N := n) (by omega)
  refine ⟨σ2, ?_, a2⟩
  unfold mX12_hasThen
  rw [l1]
  rw [obs_eq]
  rw [a1]
  rw [obs_eq]
  have e := r_sumAt a2 ok (iterH_OK ok n z hz) a3 (h := h) (i := h) (b := false) (by omega) (by simp [holIx]; omega)
  rw [← wc_house (by omega)] at e
  rw [e]
  unfold ownL aV hset holIx
  rw [← hu.1, ← hu.2]
  rfl
theorem r_lie_L63 (ok : v.OK) (hz : Sv.OK v z) (hT : ∀ a b, a < v.H → b < v.N → v.sa a b = v.va a b) {h n x : Nat} {x3 : Int32} (hh : h < v.H) (hn : n ≤ 4) (hx : x < v.N) {ρ : St_} (hr0 : RV v ρ) (zr0 : RN v 262 0 z ρ) {k118 : Int32 → Int32 → Int32 → St_ → Option (Int32 × St_)} : ∀ k m w (a : Int32 × Int32 × Int32) (σ : St_), (∀ a k, ¬ MOD_X12_lie 233 a k → σ.1 a k = ρ.1 a k) → σ.1 233 65 = nI h → w + k = 21 → k < m → ∃ σ', mX12_lie_L63 233 (nI h) (nI n) x3 (nI x) k118 m a.1 a.2.1 a.2.2 (nI w) σ = k118 (lieW v z h n x k w a).1 (lieW v z h n x k w a).2.1 (lieW v z h n x k w a).2.2 σ' ∧ (∀ a k, ¬ MOD_X12_lie 233 a k → σ'.1 a k = ρ.1 a k) ∧ σ'.1 233 65 = nI h
  | 0, m, w, a, σ, hF, h65, hw, hm => by
    obtain ⟨m, rfl, -⟩ := fu_suc hm
    refine ⟨σ, ?_, hF, h65⟩
    unfold mX12_lie_L63
    rw [if_pos (show (20 : Int32) < nI w from nI_lt (a := 20) (by omega) (by omega))]
    rfl
  | k + 1, m, w, a, σ, hF, h65, hw, hm => by
    obtain ⟨m, rfl, hm⟩ := fu_suc hm
    have F2 : ∀ a k, ¬ MOD_X12_lie 233 a k → (sI (sI σ 233 64 (nI x)) 233 66 (nI w)).1 a k = ρ.1 a k := fun a k hn => by rw [sI_get, if_neg (by unfold MOD_X12_lie at hn; omega), sI_get, if_neg (by unfold MOD_X12_lie at hn; omega)]; exact hF a k hn
    have hr : RV (v.say h x (nI w)) (sI (sI σ 233 64 (nI x)) 233 66 (nI w)) := say_rv hx hh ok hT hr0 (fun a k q1 q2 => F2 a k (by unfold MOD_X12_lie; unfold FPr at q1; omega)) (by simp [sI_get]) (by simp [sI_get, h65]) (by simp [sI_get])
    have zr : RN (v.say h x (nI w)) 262 0 z (sI (sI σ 233 64 (nI x)) 233 66 (nI w)) := zr0.fr ok.N (fun k _ _ => F2 _ _ (by unfold MOD_X12_lie; omega))
    obtain ⟨σ1, a1, a2⟩ := r_hasThen (v := v) (u := v.say h x (nI w)) ⟨rfl, rfl⟩ hr (say_ok ok h x (nI w)) hz zr hh hn
    have F3 : ∀ a k, ¬ MOD_X12_hasThen 233 a k → σ1.1 a k = (sI (sI σ 233 64 (nI x)) 233 66 (nI w)).1 a k := fun a k hn => (fX12_hasThen _ _ _ _ _ a1 a k hn).1
    have go := fun a' => r_lie_L63 ok hz hT (x3 := x3) hh hn hx hr0 zr0 (k118 := k118) k m (w + 1) a' σ1 (fun a k hn => by rw [F3 a k (by unfold MOD_X12_hasThen; unfold MOD_X12_lie at hn; omega)]; exact F2 a k hn) (by rw [F3 _ _ (by unfold MOD_X12_hasThen; omega)]; simp [sI_get, h65]) (by omega) (by omega)
    unfold mX12_lie_L63
    simp only [bnd_eq]
    rw [if_neg (show ¬ (20 : Int32) < nI w from nI_nlt (a := 20) (by omega) (by omega)), a1]
    simp only [obs_eq, nI_1]
    unfold lieW
    by_cases q : ownL v z h n (v.say h x (nI w)) ≤ a.1
    · rw [if_neg (Int32.not_lt.mpr q), if_pos q]
      exact go a
    · rw [if_pos (Int32.not_le.mp q), if_neg q]
      exact go (ownL v z h n (v.say h x (nI w)), nI x, nI w)
theorem r_lie_L51 (ok : v.OK) (hz : Sv.OK v z) (hT : ∀ a b, a < v.H → b < v.N → v.sa a b = v.va a b) {h n : Nat} {x3 : Int32} (hh : h < v.H) (hn : n ≤ 4) {ρ : St_} (hr0 : RV v ρ) (zr0 : RN v 262 0 z ρ) {k124 : Int32 → Int32 → Int32 → St_ → Option (Int32 × St_)} : ∀ k m x (a : Int32 × Int32 × Int32) (σ : St_), (∀ a k, ¬ MOD_X12_lie 233 a k → σ.1 a k = ρ.1 a k) → σ.1 233 65 = nI h → x + k = v.N → k < m → ∃ σ', mX12_lie_L51 233 (nI h) (nI n) x3 k124 m a.1 a.2.1 a.2.2 (nI x) σ = k124 (lieX v z h n k x a).1 (lieX v z h n k x a).2.1 (lieX v z h n k x a).2.2 σ' ∧ ∀ a k, ¬ MOD_X12_lie 233 a k → σ'.1 a k = ρ.1 a k
  | 0, m, x, a, σ, hF, h65, hw, hm => by
    have := ok.N
    obtain ⟨m, rfl, -⟩ := fu_suc hm
    refine ⟨σ, ?_, hF⟩
    unfold mX12_lie_L51
    rw [hF 233 52 (by unfold MOD_X12_lie; omega), hr0.N, if_pos (nI_le (by omega) (by omega))]
    rfl
  | k + 1, m, x, a, σ, hF, h65, hw, hm => by
    have := ok.N
    obtain ⟨m, rfl, hm⟩ := fu_suc hm
    obtain ⟨σ1, b1, b2, b3⟩ := r_lie_L63 ok hz hT (x3 := x3) hh hn (show x < v.N by omega) hr0 zr0 (k118 := (fun (y14 : Int32) (y15 : Int32) (y16 : Int32) (σ17 : St_) => (mX12_lie_L51 233 (nI h) (nI n) x3 k124 m y14 y15 y16 (nI (x + 1)) σ17))) 21 FU 0 a σ hF h65 (by omega) (by unfold FU; omega)
    obtain ⟨σ', e1, e2⟩ := r_lie_L51 ok hz hT (x3 := x3) hh hn hr0 zr0 (k124 := k124) k m (x + 1) (lieW v z h n x 21 0 a) σ1 b2 b3 (by omega) (by omega)
    refine ⟨σ', ?_, e2⟩
    unfold mX12_lie_L51
    rw [hF 233 52 (by unfold MOD_X12_lie; omega), hr0.N, if_neg (nI_ge (by omega) (by omega)), nI_1]
    exact b1.trans e1
theorem core_22 (a1 a2 a3 : Int32) (hV : Vof c σ) (hcc : c = 12 ∨ c = 28) (hnow : Inow σ) (hother : Iother σ) (hsaid : Isaid c σ) : ∃ (r : Int32) (σ1 σ2 : St_), mX11_lie 0 c dr a1 a2 a3 σ = some (r, σ1) ∧ mX12_lie 233 a1 a2 a3 σ1 = some (r, σ2) ∧ Iother σ2 ∧ Isaid c σ2 := by
  obtain ⟨v, ok, hc, hr, h1, h2, h3, h4, hsv⟩ := hV
  obtain ⟨z, hz, zc, zr, -⟩ := now_of ok h1 h2 h3 h4 hnow
  have oN := ok.N
  have oH := ok.H
  have hT : ∀ a b, a < v.H → b < v.N → v.sa a b = v.va a b := fun a b _ _ => by rw [hsv]
  have no : mX11_lie 0 c dr a1 a2 a3 σ = some (-2, σ) → mX12_lie 233 a1 a2 a3 σ = some (-2, σ) → ∃ (r : Int32) (σ1 σ2 : St_), mX11_lie 0 c dr a1 a2 a3 σ = some (r, σ1) ∧ mX12_lie 233 a1 a2 a3 σ1 = some (r, σ2) ∧ Iother σ2 ∧ Isaid c σ2 := fun e1 e2 => ⟨-2, σ, σ, e1, e2, hother, hsaid⟩
  cases hb : bin a1 v.H
  · apply no
    · unfold mX11_lie; rw [c_isHouse hc ok, hb]; rfl
    · unfold mX12_lie; rw [r_isHouse hr ok, hb]; rfl
  by_cases q0 : a2 < 1
  · apply no
    · unfold mX11_lie; rw [c_isHouse hc ok, hb]; simp only [obs_eq, if_true, if_pos q0]
    · unfold mX12_lie; rw [r_isHouse hr ok, hb]; simp only [obs_eq, if_true, in060, Int32.not_le.mpr q0]; rfl
  by_cases q1 : (4 : Int32) < a2
  · apply no
    · unfold mX11_lie; rw [c_isHouse hc ok, hb]; simp only [obs_eq, if_true, if_neg q0, if_pos q1]
    · unfold mX12_lie; rw [r_isHouse hr ok, hb]; simp only [obs_eq, if_true, in060, Int32.not_le.mpr q1, decide_false, Bool.and_false]; rfl
  have q1' : a2 ≤ 4 := Int32.not_lt.mp q1
  have q0' : (1 : Int32) ≤ a2 := Int32.not_lt.mp q0
  by_cases q2 : a3 < 0
  · apply no
    · unfold mX11_lie; rw [c_isHouse hc ok, hb]; simp only [obs_eq, if_true, if_neg q0, if_neg q1, if_pos q2]
    · unfold mX12_lie; rw [r_isHouse hr ok, hb]; simp only [obs_eq, if_true, in060, q0', q1', Int32.not_le.mpr q2, decide_true, Bool.and_self]; rfl
  by_cases q3 : a3 ≤ 2
  · obtain ⟨h, hh, rfl, -⟩ := bin_iff.mp hb
    obtain ⟨n, hn, rfl⟩ : ∃ n, n ≤ 4 ∧ a2 = nI n := by
      have h0 : ¬ a2 < 0 := by
        rw [Int32.lt_iff_toInt_lt]
        rw [Int32.le_iff_toInt_le] at q0'
        have z0 : (0 : Int32).toInt = 0 := rfl
        have z1 : (1 : Int32).toInt = 1 := rfl
        omega
      exact nI_of2 (M := 4) (n := 4) rfl h0 q1'
    -- the class
    obtain ⟨r0, σa, g1, g2, g3, g4, g5, g6⟩ := c_ownL (v := v) (u := v) (c := c) (z := z) (σ := sI (sI σ 192 3 (-1)) 192 4 (-1)) ⟨rfl, rfl⟩ (hc.fr (fun a k q => by rw [sI_get, if_neg (by unfold FPc at q; omega), sI_get, if_neg (by unfold FPc at q; omega)])) ok (by omega) (zc.fr (fun a k q => by rw [sI_get, if_neg (by omega), sI_get, if_neg (by omega)])) hz hh hn
    have zca : CS v 44 z σa := zc.fr (fun a k q => by rw [g6 a k (by omega), sI_get, if_neg (by omega), sI_get, if_neg (by omega)])
    obtain ⟨σb, b1, b2, b3, b4⟩ := c_lie_L42 ok hcc hz hT hh hn v.N FU 0 (ownL v z h n v, -1, -1) (sI σa 192 2 (ownL v z h n v)) (g2.fr (fun a k q => by rw [sI_get, if_neg (by unfold FPc at q; omega)])) (zca.fr (fun a k q => by rw [sI_get, if_neg (by omega)])) (by
      refine ⟨by simp [sI_get], ?_, ?_⟩
      · rw [sI_get, if_neg (by omega), g6 _ _ (by omega)]; simp [sI_get]
      · rw [sI_get, if_neg (by omega), g6 _ _ (by omega)]; simp [sI_get]) (by omega) (by unfold FU; omega)
    generalize hX : lieX v z h n v.N 0 (ownL v z h n v, -1, -1) = X at b3
    have cls : mX11_lie 0 c dr (nI h) (nI n) a3 σ = some (if a3 = 0 then X.1 else if a3 = 1 then X.2.1 else X.2.2, σb) := by
      unfold mX11_lie mX6_findLie
      rw [c_isHouse hc ok, hb]
      simp only [obs_eq, bnd_eq, if_true, if_neg q0, if_neg q1, if_neg q2, if_pos q3, show 0 + 192 = 192 from rfl, show 0 + 44 = 44 from rfl]
      rw [g1]
      rw [obs_eq]
      rw [g3, if_pos rfl, g4, show 192 + 10 + 1 = 203 from rfl, g5]
      rw [obs_eq]
      have b1' : mX6_findLie_L42 192 c 44 (nI h) (nI n) FU (0 : Int32) (sI σa 192 2 (ownL v z h n v)) = some σb := b1
      rw [b1']
      simp only [obs_eq, b3.1, b3.2.1, b3.2.2]
      by_cases w0 : a3 = 0
      · rw [if_pos w0, if_pos w0]
      · rw [if_neg w0, if_neg w0]
        by_cases w1 : a3 = 1
        · rw [if_pos w1, if_pos w1]
        · rw [if_neg w1, if_neg w1]
    have Fc : ∀ a k, ¬ MOD_X11_lie 0 c a k → σb.1 a k = σ.1 a k := fun a k hn => (fX11_lie _ _ _ _ _ _ _ _ cls a k hn).1
    have hrb : RV v σb := hr.fr (fun a k q => Fc a k (by unfold MOD_X11_lie; unfold FPr at q; omega))
    have zrb : RN v 262 0 z σb := zr.fr ok.N (fun k _ _ => Fc _ _ (by unfold MOD_X11_lie; omega))
    -- the reference
    obtain ⟨σd, d1, d2⟩ := r_hasThen (v := v) (u := v) ⟨rfl, rfl⟩ hrb ok hz zrb hh hn
    have Fd : ∀ a k, ¬ MOD_X12_hasThen 233 a k → σd.1 a k = σb.1 a k := fun a k hn => (fX12_hasThen _ _ _ _ _ d1 a k hn).1
    obtain ⟨σe, e1, e2⟩ := r_lie_L51 ok hz hT (x3 := a3) hh hn hrb zrb (k124 := (fun (y18 : Int32) (y19 : Int32) (y20 : Int32) (σ21 : St_) => (if a3 = 0 then (some (y18, sI (sI σ21 233 65 (-1)) 233 64 (-1))) else (if a3 = (1 : Int32) then (some (y19, sI (sI σ21 233 65 (-1)) 233 64 (-1))) else (some (y20, sI (sI σ21 233 65 (-1)) 233 64 (-1))))))) v.N FU 0 (ownL v z h n v, -1, -1) (sI σd 233 65 (nI h)) (fun a k hn => by rw [sI_get, if_neg (by unfold MOD_X12_lie at hn; omega)]; exact Fd a k (by unfold MOD_X12_hasThen; unfold MOD_X12_lie at hn; omega)) (by simp [sI_get]) (by omega) (by unfold FU; omega)
    rw [hX] at e1
    have rf : mX12_lie 233 (nI h) (nI n) a3 σb = some (if a3 = 0 then X.1 else if a3 = 1 then X.2.1 else X.2.2, sI (sI σe 233 65 (-1)) 233 64 (-1)) := by
      unfold mX12_lie
      rw [r_isHouse hrb ok, hb]
      simp only [obs_eq, if_true, in060, q0', q1', nn_of q2, q3, decide_true, Bool.and_self]
      rw [d1]
      simp only [obs_eq, bnd_eq]
      refine Eq.trans e1 ?_
      by_cases w0 : a3 = 0
      · rw [if_pos w0, if_pos w0]
      · rw [if_neg w0, if_neg w0]
        by_cases w1 : a3 = 1
        · rw [if_pos w1, if_pos w1]
        · rw [if_neg w1, if_neg w1]
    refine ⟨_, _, _, cls, rf, ⟨by simp [sI_get], by simp [sI_get]⟩, fun j hj => ?_⟩
    have Fr : ∀ a k, a < 233 → (sI (sI σe 233 65 (-1)) 233 64 (-1)).1 a k = σb.1 a k := fun a k hlt => (fX12_lie _ _ _ _ _ _ rf a k (by unfold MOD_X12_lie; omega)).1
    rw [Fr _ _ (by omega), Fr _ _ (by omega)]
    by_cases w : ∃ y, y < v.N ∧ j = 10 * h + y
    · obtain ⟨y, y1, y2⟩ := w
      rw [y2, b2.sa h hh y y1, b2.va h (by omega) y y1, hsv]
    · have e9 := b4 j (fun y y1 y2 => w ⟨y, y1, y2⟩)
      rw [e9, sI_get, if_neg (by omega), g6 _ _ (by omega), sI_get, if_neg (by omega), sI_get, if_neg (by omega), Fc (c + 8) j (by unfold MOD_X11_lie; omega)]
      exact hsaid j hj
  · apply no
    · unfold mX11_lie; rw [c_isHouse hc ok, hb]; simp only [obs_eq, if_true, if_neg q0, if_neg q1, if_neg q2, if_neg q3]
    · unfold mX12_lie; rw [r_isHouse hr ok, hb]; simp only [obs_eq, if_true, in060, q0', q1', q3, decide_true, decide_false, Bool.and_self, Bool.and_false]; rfl
end DRIFT
