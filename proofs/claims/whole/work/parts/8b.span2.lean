section SPAN2
variable {σ σ' : St_} {c dr s t th : Nat} {v u : Vw} {z : Sv}
def SpR (P : Nat → Bool) (w : Nat) (σ : St_) : Prop := ∀ j, j < w → σ.1 277 j = b2i (P j)
/-- what the reference's span leaves alone -/
def OuR (a k : Nat) : Prop := ¬ (a = 242 ∨ a = 243 ∨ a = 277 ∨ (a = 233 ∧ (k = 64 ∨ k = 65 ∨ k = 66)))
theorem r_span_L6 (ok : v.OK) (hT : ∀ a b, a < v.H → b < v.N → v.sa a b = v.va a b) {n : Nat} {R : Nat → Rq} (hO : RpO v n R) {h x : Nat} (hh : h < v.H) (hx : x < v.N) (kk : Int32) {ρ : St_} (hr0 : RV v ρ) (hR0 : RpR n R ρ) {k186 : Int32 → St_ → Option (Int32 × St_)} : ∀ k m w (σ : St_), (∀ a j, OuR a j → σ.1 a j = ρ.1 a j) → SpR (fitP v h x kk n R) w σ → w + k = 100 → k < m → ∃ σ', mX12_laySpan_L6 233 (nI h) (nI x) kk k186 m (nI (frm (fitP v h x kk n R) 0 w).length) (nI w) σ = k186 (nI (frm (fitP v h x kk n R) 0 100).length) σ' ∧ SpR (fitP v h x kk n R) 100 σ' ∧ ∀ a j, OuR a j → σ'.1 a j = ρ.1 a j
  | 0, m, w, σ, hF, hS, hw, hm => by
    obtain ⟨m, rfl, -⟩ := fu_suc hm
    have hw' : w = 100 := by omega
    subst hw'
    refine ⟨σ, ?_, hS, hF⟩
    unfold mX12_laySpan_L6
    rw [if_pos (by decide)]
  | k + 1, m, w, σ, hF, hS, hw, hm => by
    have o30 := hO.1
    obtain ⟨m, rfl, hm⟩ := fu_suc hm
    have bw : bin (nI w) 100 = true := binn (by omega) (by omega)
    have cw : (nI w).toNatClampNeg = w := pn_cl (by omega)
    generalize hA : sI (sI (sI σ 233 65 (nI h)) 233 64 (nI x)) 233 66 (nI w) = A
    have A1 : ∀ a j, ¬ (a = 233 ∧ (j = 64 ∨ j = 65 ∨ j = 66)) → A.1 a j = σ.1 a j := fun a j hn => by rw [← hA, sI_get, if_neg (by omega), sI_get, if_neg (by omega), sI_get, if_neg (by omega)]
    have A0 : ∀ a j, OuR a j → A.1 a j = ρ.1 a j := fun a j hn => by rw [A1 a j (by unfold OuR at hn; omega)]; exact hF a j hn
    have hrA : RV (v.say h x (nI w)) A := say_rv hx hh ok hT hr0 (fun a k q1 q2 => A0 a k (by unfold OuR; unfold FPr at q1; omega)) (by rw [← hA]; simp [sI_get]) (by rw [← hA]; simp [sI_get]) (by rw [← hA]; simp [sI_get])
    have hRA : RpR n R A := hR0.fr (fun a k q => A0 a k (by unfold OuR; omega))
    obtain ⟨B, b1, b2, b3, b4⟩ := r_span_L32 (u := v.say h x (nI w)) (say_ok ok h x (nI w)) hO hh (show w < 100 by omega) kk (x2 := nI x) (x4 := nI (frm (fitP v h x kk n R) 0 w).length) (k165 := fun σ28 => (if true = true then if isB (σ28.1 277 w) = true then ((mX12_truth (σ28.1 277 w == 1) σ28).bind fun r30 => (mX12_laySpan_L6 233 (nI h) (nI x) kk k186 m (nI (frm (fitP v h x kk n R) 0 w).length + r30) (nI (w + 1)) σ28)) else none else none)) n FU 0 true (sI A 277 w (b2i true)) (hrA.fr (fun a k q => by rw [sI_get, if_neg (by unfold FPr at q; omega)])) (hRA.fr (fun a k q => by rw [sI_get, if_neg (by omega)])) (by rw [sI_get, if_pos ⟨rfl, rfl⟩]) (by omega) (by unfold FU; omega)
    rw [Bool.true_and] at b3
    have b3' : B.1 277 w = b2i (fitP v h x kk n R w) := b3
    have B0 : ∀ a j, ¬ (a = 242 ∨ a = 243 ∨ (a = 277 ∧ j = w)) → B.1 a j = A.1 a j := fun a j hn => by rw [b4 a j hn, sI_get, if_neg (by omega)]
    have en : nI (frm (fitP v h x kk n R) 0 w).length + (if fitP v h x kk n R w = true then 1 else 0) = nI (frm (fitP v h x kk n R) 0 (w + 1)).length := by
      rw [frm_snoc, List.length_append]
      cases fitP v h x kk n R w
      · exact Int32.add_zero _
      · exact nI_1 _
    obtain ⟨σ', e1, e2, e3⟩ := r_span_L6 ok hT hO hh hx kk hr0 hR0 (k186 := k186) k m (w + 1) B (fun a j hn => by rw [B0 a j (by unfold OuR at hn; omega)]; exact A0 a j hn) (fun j hj => by
      by_cases q : j = w
      · rw [q]; exact b3'
      · rw [B0 _ _ (by omega), A1 _ _ (by omega)]; exact hS j (by omega)) (by omega) (by omega)
    refine ⟨σ', ?_, e2, e3⟩
    unfold mX12_laySpan_L6
    simp only [bnd_eq]
    rw [if_neg (show ¬ (99 : Int32) < nI w from nI_nlt (a := 99) (by omega) (by omega)), r_lay_o, obs_eq, bw, if_pos rfl, cw, hA, show 233 + 44 = 277 from rfl, nI_1]
    refine Eq.trans b1 ?_
    try dsimp only
    rw [if_pos rfl, b3', if_pos (isBb _).1, (isBb _).2, truth_eq, obs_eq, en]
    exact e1
theorem r_laySpan (hr : RV v σ) (ok : v.OK) (hT : ∀ a b, a < v.H → b < v.N → v.sa a b = v.va a b) {n : Nat} {R : Nat → Rq} (hO : RpO v n R) (hR : RpR n R σ) {h x : Nat} (hh : h < v.H) (hx : x < v.N) (kk : Int32) (ho : Iother σ) : ∃ σ', mX12_laySpan 233 (nI h) (nI x) kk σ = some (nI (frm (fitP v h x kk n R) 0 100).length, σ') ∧ SpR (fitP v h x kk n R) 100 σ' ∧ RV v σ' ∧ Iother σ' ∧ ∀ a j, OuR a j → σ'.1 a j = σ.1 a j := by
  obtain ⟨A, a1, a2, a3⟩ := r_span_L6 ok hT hO hh hx kk hr hR (k186 := fun y32 σ33 => ((mX12_layOther 233 (-1 : Int32) (-1 : Int32) (0 : Int32) σ33).bind fun σ34 => (some (y32, σ34)))) 100 FU 0 σ (fun a j _ => rfl) (fun j hj => by omega) (by omega) (by unfold FU; omega)
  have z1 : nI (frm (fitP v h x kk n R) 0 0).length = (0 : Int32) := rfl
  rw [z1, show nI 0 = (0 : Int32) from rfl] at a1
  generalize hB : sI (sI (sI A 233 65 (-1)) 233 64 (-1)) 233 66 0 = B
  have B1 : ∀ a j, ¬ (a = 233 ∧ (j = 64 ∨ j = 65 ∨ j = 66)) → B.1 a j = A.1 a j := fun a j hn => by rw [← hB, sI_get, if_neg (by omega), sI_get, if_neg (by omega), sI_get, if_neg (by omega)]
  have B0 : ∀ a j, OuR a j → B.1 a j = σ.1 a j := fun a j hn => by rw [B1 a j (by unfold OuR at hn; omega)]; exact a3 a j hn
  have Bo : Iother B := ⟨by rw [← hB]; simp [sI_get], by rw [← hB]; simp [sI_get]⟩
  refine ⟨B, ?_, fun j hj => by rw [B1 _ _ (by omega)]; exact a2 j hj, ?_, Bo, B0⟩
  · unfold mX12_laySpan
    refine Eq.trans a1 ?_
    try dsimp only
    rw [r_lay_o, obs_eq, hB]
  · have oN := ok.N
    have F : ∀ a k, FPr a k → ¬ (a = 233 ∧ (k = 64 ∨ k = 65 ∨ k = 66)) → B.1 a k = σ.1 a k := fun a k q1 q2 => B0 a k (by unfold OuR; unfold FPr at q1; omega)
    refine ⟨?_, ?_, ?_, ?_, fun y hy => ?_, fun y hy => ?_, fun y hy => ?_, fun y hy => ?_, fun y hy => ?_, fun y hy => ?_, fun y hy => ?_, fun a ha b hb => ?_, fun a ha b hb => ?_, fun q => ?_, fun l q => ⟨?_, ?_, fun i p hp => ?_⟩⟩
    · rw [F _ _ (by unfold FPr; omega) (by omega)]; exact hr.R
    · rw [F _ _ (by unfold FPr; omega) (by omega)]; exact hr.N
    · rw [F _ _ (by unfold FPr; omega) (by omega)]; exact hr.H
    · rw [F _ _ (by unfold FPr; omega) (by omega)]; exact hr.T
    · rw [F _ _ (by unfold FPr; omega) (by omega)]; exact hr.kd y hy
    · rw [F _ _ (by unfold FPr; omega) (by omega)]; exact hr.wt y hy
    · rw [F _ _ (by unfold FPr; omega) (by omega)]; exact hr.pr y hy
    · rw [F _ _ (by unfold FPr; omega) (by omega)]; exact hr.lk y hy
    · rw [F _ _ (by unfold FPr; omega) (by omega)]; exact hr.wa y hy
    · rw [F _ _ (by unfold FPr; omega) (by omega)]; exact hr.sk y hy
    · rw [F _ _ (by unfold FPr; omega) (by omega)]; exact hr.sl y hy
    · rw [F _ _ (by unfold FPr; omega) (by omega), F 255 _ (by unfold FPr; omega) (by omega)]; exact hr.va a ha b hb
    · rw [Bo.1, Bo.2, if_neg (fun e => nI_nm1 (by omega) e.1), hT a b ha hb]
    · rw [F _ _ (by unfold FPr; omega) (by omega)]; exact hr.lw0 q
    · rw [F _ _ (by unfold FPr; omega) (by omega)]; exact (hr.lw1 l q).1
    · rw [F _ _ (by unfold FPr; omega) (by omega)]; exact (hr.lw1 l q).2.1
    · rw [F 239 _ (by unfold FPr; omega) (by omega), F 240 _ (by unfold FPr; omega) (by omega)]; exact (hr.lw1 l q).2.2 i p hp
theorem r_span_L47 {P : Nat → Bool} (hS : SpR P 100 σ) {x3 x5 : Int32} {k91 : Int32 → Int32 → Option (Int32 × St_)} : ∀ k m w, w + k = 100 → k < m → mX12_span_L47 233 σ x3 x5 k91 m (encO (frm P 0 w).head?) (encO (frm P 0 w).getLast?) (nI w) = k91 (encO (frm P 0 100).head?) (encO (frm P 0 100).getLast?)
  | 0, m, w, hw, hm => by
    obtain ⟨m, rfl, -⟩ := fu_suc hm
    have hw' : w = 100 := by omega
    subst hw'
    unfold mX12_span_L47
    rw [if_pos (by decide)]
  | k + 1, m, w, hw, hm => by
    obtain ⟨m, rfl, hm⟩ := fu_suc hm
    have bw : bin (nI w) 100 = true := binn (by omega) (by omega)
    have cw : (nI w).toNatClampNeg = w := pn_cl (by omega)
    have ih := r_span_L47 hS (x3 := x3) (x5 := x5) (k91 := k91) k m (w + 1) (by omega) (by omega)
    have sn := frm_snoc P w
    unfold mX12_span_L47
    simp only [bnd_eq]
    rw [if_neg (show ¬ (99 : Int32) < nI w from nI_nlt (a := 99) (by omega) (by omega)), bw, if_pos rfl, cw, show 233 + 44 = 277 from rfl, hS w (by omega), if_pos (isBb _).1, (isBb _).2]
    simp only [nI_1]
    cases q : P w
    · rw [q, if_neg (show ¬ false = true by simp), List.append_nil] at sn
      rw [if_neg (show ¬ false = true by simp), ← sn]
      exact ih
    · rw [q, if_pos rfl] at sn
      rw [if_pos rfl]
      rw [sn, List.getLast?_concat] at ih
      cases hL : frm P 0 w with
      | nil =>
        rw [hL] at ih
        rw [if_neg (show ¬ (0 : Int32) ≤ encO ([] : List Nat).head? by decide)]
        exact ih
      | cons a l =>
        rw [hL] at ih
        have ha : a < 100 := by
          have : a ∈ frm P 0 w := by rw [hL]; exact List.mem_cons_self
          have := (mem_frm.mp this).2.1
          omega
        rw [if_pos (show (0 : Int32) ≤ encO (a :: l).head? from nI_pos' (by omega))]
        exact ih
theorem said_of (hsv : v.sa = v.va) {h x : Nat} (ok : v.OK) (hh : h < v.H) (hx : x < v.N) (hc : CV c v σ') (hs : Isaid c σ) (e : ∀ a j, (a = c + 8 ∨ (a = c + 9 ∧ ¬ j = 10 * h + x)) → σ'.1 a j = σ.1 a j) : Isaid c σ' := by
  have oH := ok.H
  intro j hj
  by_cases q : j = 10 * h + x
  · rw [q, hc.sa h hh x hx, hc.va h (by omega) x hx, hsv]
  · rw [e (c + 9) j (by omega), e (c + 8) j (by omega)]; exact hs j hj
theorem core_30 (a1 a2 a3 a4 : Int32) (hV : Vof c σ) (hcc : c = 12 ∨ c = 28) (hrep : Irep σ) (hother : Iother σ) (hsaid : Isaid c σ) : ∃ (r : Int32) (σ1 σ2 : St_), mX11_span 0 c dr a1 a2 a3 a4 σ = some (r, σ1) ∧ mX12_span 233 a1 a2 a3 a4 σ1 = some (r, σ2) ∧ Iother σ2 ∧ Isaid c σ2 := by
  obtain ⟨v, ok, hc, hr, h1, h2, h3, h4, hsv⟩ := hV
  obtain ⟨n, R, hRc, hRr, hO⟩ := rp_of h1 h2 h4 hrep
  have hT : ∀ a b, a < v.H → b < v.N → v.sa a b = v.va a b := fun a b _ _ => by rw [hsv]
  have no : mX11_span 0 c dr a1 a2 a3 a4 σ = some (-2, σ) → mX12_span 233 a1 a2 a3 a4 σ = some (-2, σ) → ∃ (r : Int32) (σ1 σ2 : St_), mX11_span 0 c dr a1 a2 a3 a4 σ = some (r, σ1) ∧ mX12_span 233 a1 a2 a3 a4 σ1 = some (r, σ2) ∧ Iother σ2 ∧ Isaid c σ2 := fun e1 e2 => ⟨-2, σ, σ, e1, e2, hother, hsaid⟩
  cases hb1 : bin a1 v.H
  · apply no
    · unfold mX11_span; rw [c_isHouse hc ok, hb1]; rfl
    · unfold mX12_span; rw [r_isHouse hr ok, hb1]; rfl
  cases hb2 : bin a2 v.N
  · apply no
    · unfold mX11_span; rw [c_isHouse hc ok, hb1, obs_eq, if_pos rfl, c_isThing hc ok, hb2]; rfl
    · unfold mX12_span; rw [r_isHouse hr ok, hb1, obs_eq, if_pos rfl, r_isThing hr ok, hb2]; rfl
  by_cases q2 : a3 < 0
  · apply no
    · unfold mX11_span; rw [c_isHouse hc ok, hb1, obs_eq, if_pos rfl, c_isThing hc ok, hb2, obs_eq, if_pos rfl, if_pos q2]
    · unfold mX12_span; rw [r_isHouse hr ok, hb1, obs_eq, if_pos rfl, r_isThing hr ok, hb2, obs_eq, if_pos rfl, in060, obs_eq, decide_eq_false (Int32.not_le.mpr q2)]; rfl
  by_cases q3 : a3 ≤ 2
  · obtain ⟨h, hh, rfl, -⟩ := bin_iff.mp hb1
    obtain ⟨x, hx, rfl, -⟩ := bin_iff.mp hb2
    obtain ⟨A, f1, f2, f3, f4⟩ := c_fit hc ok hcc hO hRc hh hx (hT h x hh hx) a4
    obtain ⟨g1, g2, g3, -⟩ := f3
    have cls : mX11_span 0 c dr (nI h) (nI x) a3 a4 σ = some (if a3 = 0 then nI (frm (fitP v h x a4 n R) 0 100).length else if a3 = 1 then encO (frm (fitP v h x a4 n R) 0 100).head? else encO (frm (fitP v h x a4 n R) 0 100).getLast?, A) := by
      unfold mX11_span
      rw [c_isHouse hc ok, hb1, obs_eq, if_pos rfl, c_isThing hc ok, hb2, obs_eq, if_pos rfl, if_neg q2, if_pos q3, show 0 + 174 = 174 from rfl, f1, obs_eq, g1, g2, g3]
      by_cases w0 : a3 = 0
      · rw [if_pos w0, if_pos w0]
      · rw [if_neg w0, if_neg w0]
        by_cases w1 : a3 = 1
        · rw [if_pos w1, if_pos w1]
        · rw [if_neg w1, if_neg w1]
    have Fc : ∀ a k, 233 ≤ a → A.1 a k = σ.1 a k := fun a k hn => f4 a k (by omega)
    have hrA : RV v A := hr.fr (fun a k q => Fc a k (by unfold FPr at q; omega))
    obtain ⟨B, b1, b2, b3, b4, b5⟩ := r_laySpan hrA ok hT hO (hRr.fr (fun a k q => Fc a k (by omega))) hh hx a4 (hother.fr (fun a k q => Fc a k (by unfold FPother at q; omega)))
    have rf : mX12_span 233 (nI h) (nI x) a3 a4 A = some (if a3 = 0 then nI (frm (fitP v h x a4 n R) 0 100).length else if a3 = 1 then encO (frm (fitP v h x a4 n R) 0 100).head? else encO (frm (fitP v h x a4 n R) 0 100).getLast?, B) := by
      unfold mX12_span
      rw [r_isHouse hrA ok, hb1, obs_eq, if_pos rfl, r_isThing hrA ok, hb2, obs_eq, if_pos rfl, in060, obs_eq, decide_eq_true (nn_of q2), decide_eq_true q3, Bool.and_self, if_pos rfl, b1, obs_eq]
      have := r_span_L47 b2 (x3 := a3) (x5 := nI (frm (fitP v h x a4 n R) 0 100).length) (k91 := fun y13 y14 => (if a3 = 0 then (some (nI (frm (fitP v h x a4 n R) 0 100).length, B)) else (if a3 = (1 : Int32) then (some (y13, B)) else (some (y14, B))))) 100 FU 0 (by omega) (by unfold FU; omega)
      have z1 : encO (frm (fitP v h x a4 n R) 0 0).head? = (-1 : Int32) := rfl
      have z2 : encO (frm (fitP v h x a4 n R) 0 0).getLast? = (-1 : Int32) := rfl
      rw [z1, z2, show nI 0 = (0 : Int32) from rfl] at this
      refine Eq.trans this ?_
      try dsimp only
      by_cases w0 : a3 = 0
      · rw [if_pos w0, if_pos w0]
      · rw [if_neg w0, if_neg w0]
        by_cases w1 : a3 = 1
        · rw [if_pos w1, if_pos w1]
        · rw [if_neg w1, if_neg w1]
    refine ⟨_, A, B, cls, rf, b4, said_of hsv ok hh hx (f2.fr (fun a k q => b5 a k (by unfold OuR; unfold FPc at q; omega))) hsaid (fun a j q => ?_)⟩
    rw [b5 a j (by unfold OuR; omega), f4 a j (by omega)]
  · apply no
    · unfold mX11_span; rw [c_isHouse hc ok, hb1, obs_eq, if_pos rfl, c_isThing hc ok, hb2, obs_eq, if_pos rfl, if_neg q2, if_neg q3]
    · unfold mX12_span; rw [r_isHouse hr ok, hb1, obs_eq, if_pos rfl, r_isThing hr ok, hb2, obs_eq, if_pos rfl, in060, obs_eq, decide_eq_false q3, Bool.and_false]; rfl
end SPAN2
