/-! what lies there; BEST; all THIEVES, HOUR by HOUR -/
section ROUNDS
variable {σ σ' : St_} {c dr s t th : Nat} {v : Vw} {z : Sv}
/-- what lies there: the class' row, the reference's row -/
def LC (l : List Int32) (σ : St_) : Prop := σ.1 0 9 = nI l.length ∧ ∀ i x, l[i]? = some x → σ.1 173 i = x
def LR (l : List Int32) (σ : St_) : Prop := σ.1 233 71 = nI l.length ∧ ∀ i x, l[i]? = some x → σ.1 265 i = x
theorem LC.fr {l : List Int32} (h : LC l σ) (e : ∀ a k, a = 173 ∨ (a = 0 ∧ k = 9) → σ'.1 a k = σ.1 a k) : LC l σ' := by
  refine ⟨by rw [e _ _ (by omega)]; exact h.1, fun i x hx => ?_⟩
  rw [e _ _ (by omega)]; exact h.2 i x hx
theorem LR.fr {l : List Int32} (h : LR l σ) (e : ∀ a k, a = 265 ∨ (a = 233 ∧ k = 71) → σ'.1 a k = σ.1 a k) : LR l σ' := by
  refine ⟨by rw [e _ _ (by omega)]; exact h.1, fun i x hx => ?_⟩
  rw [e _ _ (by omega)]; exact h.2 i x hx
theorem laid_of {l : List Int32} (h1 : LC l σ) (h2 : LR l σ) (hl : l.length ≤ 30) : Ilaid σ := by
  refine ⟨l.length, hl, h1.1, h2.1, fun i hi => ?_⟩
  have e : l[i]? = some l[i] := List.getElem?_eq_getElem hi
  rw [h1.2 i _ e, h2.2 i _ e]
theorem c_lay {l : List Int32} {tw : Nat} (h : LC l σ) (hl : l.length < 30) (p : Int32) : ∃ σ', mX11_lay 0 tw dr p σ = some σ' ∧ LC (l ++ [p]) σ' ∧ ∀ a k, ¬ (a = 173 ∨ (a = 0 ∧ k = 9)) → σ'.1 a k = σ.1 a k := by
  have hb : bin (nI l.length) 30 = true := binn hl (by omega)
  have hcl : (nI l.length).toNatClampNeg = l.length := pn_cl (by omega)
  have h30 : ¬ (30 : Int32) ≤ nI l.length := nI_ge (b := 30) hl (by omega)
  unfold mX11_lay
  simp only [bnd_eq, h.1, hb, hcl, h30, if_true, if_false, show 0 + 173 = 173 from rfl]
  refine ⟨_, rfl, ⟨?_, fun i x hx => ?_⟩, fun a k hn => ?_⟩
  · simp [sI_get, h.1, nI_1]
  · rcases get_snoc hx with ⟨g1, g2⟩ | ⟨g1, g2⟩
    · have : ¬ i = l.length := by omega
      simp [sI_get, this]
      exact h.2 i x g2
    · subst g2
      simp [sI_get, g1]
  · rw [sI_get, if_neg (by omega), sI_get, if_neg (by omega)]
theorem r_lay {l : List Int32} (h : LR l σ) (hl : l.length < 32) (p : Int32) : ∃ σ', mX12_lay 233 p σ = some σ' ∧ LR (l ++ [p]) σ' ∧ ∀ a k, ¬ (a = 265 ∨ (a = 233 ∧ k = 71)) → σ'.1 a k = σ.1 a k := by
  have hb : bin (nI l.length) 32 = true := binn hl (by omega)
  have hcl : (nI l.length).toNatClampNeg = l.length := pn_cl (by omega)
  unfold mX12_lay
  simp only [bnd_eq, h.1, hb, hcl, if_true, show 233 + 32 = 265 from rfl]
  refine ⟨_, rfl, ⟨?_, fun i x hx => ?_⟩, fun a k hn => ?_⟩
  · simp [sI_get, h.1, nI_1]
  · rcases get_snoc hx with ⟨g1, g2⟩ | ⟨g1, g2⟩
    · have : ¬ i = l.length := by omega
      simp [sI_get, this]
      exact h.2 i x g2
    · subst g2
      simp [sI_get, g1]
  · rw [sI_get, if_neg (by omega), sI_get, if_neg (by omega)]
/-- the three numbers of a SWAP, or of waiting -/
def swN : Option Nat → List Int32
  | none => [-1, -1, 0]
  | some s => [nI (s / 10240), nI (s / 1024 % 10), nI (s % 1024)]
theorem r_laySwap {l : List Int32} (h : LR l σ) (hl : l.length < 30) {b : Option Nat} (hb : ∀ s, b = some s → s < 60000) : ∃ σ', mX12_laySwap 233 (encO b) σ = some σ' ∧ LR (l ++ swN b) σ' ∧ ∀ a k, ¬ (a = 265 ∨ (a = 233 ∧ k = 71)) → σ'.1 a k = σ.1 a k := by
  have three : ∀ x y w : Int32, ∃ σ1 σ2 σ3, mX12_lay 233 x σ = some σ1 ∧ mX12_lay 233 y σ1 = some σ2 ∧ mX12_lay 233 w σ2 = some σ3 ∧ LR (l ++ [x, y, w]) σ3 ∧ ∀ a k, ¬ (a = 265 ∨ (a = 233 ∧ k = 71)) → σ3.1 a k = σ.1 a k := by
    intro x y w
    obtain ⟨σ1, a1, a2, a3⟩ := r_lay h (by omega) x
    obtain ⟨σ2, b1, b2, b3⟩ := r_lay a2 (by simp; omega) y
    obtain ⟨σ3, c1, c2, c3⟩ := r_lay b2 (by simp; omega) w
    refine ⟨σ1, σ2, σ3, a1, b1, c1, ?_, fun a k hn => by rw [c3 a k hn, b3 a k hn, a3 a k hn]⟩
    simpa using c2
  unfold mX12_laySwap
  simp only [bnd_eq]
  cases b with
  | none =>
    obtain ⟨σ1, σ2, σ3, a1, b1, c1, d1, d2⟩ := three (-1) (-1) 0
    have n0 : ¬ (0 : Int32) ≤ encO none := by decide
    refine ⟨σ3, ?_, d1, d2⟩
    simp only [n0, if_false, a1, b1, c1, obs_eq]
  | some s =>
    have hs := hb s rfl
    have e1 : nI s / (10240 : Int32) = nI (s / 10240) := nI_div (b := 10240) (by omega) (by omega)
    have e2 : nI s / (1024 : Int32) = nI (s / 1024) := nI_div (b := 1024) (by omega) (by omega)
    have e3 : nI (s / 1024) - nI (s / 1024) / (10 : Int32) * (10 : Int32) = nI (s / 1024 % 10) := nI_rem (b := 10) (by omega) (by omega)
    have e4 : nI s - nI (s / 1024) * (1024 : Int32) = nI (s % 1024) := by
      have := nI_rem (a := s) (b := 1024) (by omega) (by omega)
      rw [show nI 1024 = (1024 : Int32) from rfl, e2] at this
      exact this
    obtain ⟨σ1, σ2, σ3, a1, b1, c1, d1, d2⟩ := three (nI (s / 10240)) (nI (s / 1024 % 10)) (nI (s % 1024))
    have n0 : (0 : Int32) ≤ nI s := nI_pos' (by omega)
    refine ⟨σ3, ?_, d1, d2⟩
    simp only [encO, n0, if_true, e1, e2, e3, e4, a1, b1, c1, obs_eq]
theorem lc_nil {tw : Int32} (h : tw = 0) : LC [] (sI σ 0 9 tw) := ⟨by rw [sI_get, if_pos ⟨rfl, rfl⟩, h]; rfl, fun i x hx => by simp at hx⟩
theorem lr_nil {tw : Int32} (h : tw = 0) : LR [] (sI σ 233 71 tw) := ⟨by rw [sI_get, if_pos ⟨rfl, rfl⟩, h]; rfl, fun i x hx => by simp at hx⟩
theorem core_17 (a1 : Int32) (hV : Vof c σ) (hcc : c = 12 ∨ c = 28) (hnow : Inow σ) : ∃ (r : Int32) (σ1 σ2 : St_), mX11_best 0 c dr a1 σ = some (r, σ1) ∧ mX12_best 233 a1 σ1 = some (r, σ2) ∧ Ilaid σ2 := by
  obtain ⟨v, ok, hc, hr, h1, h2, h3, h4, -⟩ := hV
  obtain ⟨z, hz, zc, zr, -⟩ := now_of ok h1 h2 h3 h4 hnow
  have oH := ok.H
  have hc0 : CV c v (sI σ 0 9 0) := hc.fr (fun a k q => by rw [sI_get, if_neg (by unfold FPc at q; omega)])
  have zc0 : CS v 44 z (sI σ 0 9 0) := zc.fr (fun a k q => by rw [sI_get, if_neg (by omega)])
  have L0 : LC [] (sI σ 0 9 0) := lc_nil rfl
  -- what the reference does
  have ref : ∀ ρ : St_, (∀ a k, 233 ≤ a → ρ.1 a k = σ.1 a k) → ∀ th, th < v.T → a1 = nI th → ∃ σ2, mX12_best 233 a1 ρ = some (match bestS v z th with | none => -1000000 | some s => gn v th s, σ2) ∧ LR (match bestS v z th with | none => [] | some s => swN (some s)) σ2 := by
    intro ρ hρ th hth e1
    subst e1
    have hr0 : RV v (sI ρ 233 71 0) := hr.fr (fun a k q => by rw [sI_get, if_neg (by unfold FPr at q; omega), hρ a k (by unfold FPr at q; omega)])
    have zr0 : RN v 262 0 z (sI ρ 233 71 0) := zr.fr ok.N (fun k _ _ => by rw [sI_get, if_neg (by omega), hρ _ _ (by omega)])
    obtain ⟨σ2, l1, l2⟩ := r_load ok.N zr0
    have Fl : ∀ a k, ¬ (a = 263 ∨ (a = 233 ∧ (k = 62 ∨ k = 63))) → σ2.1 a k = (sI ρ 233 71 0).1 a k := fun a k q => (fX12_load _ _ _ l1 a k (by unfold MOD_X12_load; omega)).1
    have hr2 : RV v σ2 := hr0.fr (fun a k q => Fl a k (by unfold FPr at q; omega))
    have LR2 : LR [] σ2 := (lr_nil (σ := ρ) rfl).fr (fun a k q => Fl a k (by omega))
    obtain ⟨σ3, b1, b2, b3, b4⟩ := r_bestOf hr2 ok hz l2 hth
    have LR3 : LR [] σ3 := LR2.fr (fun a k q => b4 a k (by omega))
    unfold mX12_best
    simp only [bnd_eq]
    rw [r_isThief hr0 ok, binn hth (by have := ok.T; omega)]
    simp only [obs_eq, if_true]
    rw [l1]
    rw [obs_eq]
    rw [b1]
    rw [obs_eq]
    cases hb : bestS v z th with
    | none =>
      have n0 : ¬ (0 : Int32) ≤ encO none := by decide
      rw [if_neg n0]
      exact ⟨σ3, rfl, LR3⟩
    | some s =>
      obtain ⟨s1, s2⟩ := bestS_spec hb
      have hsx := (isSw_spec ok s2).1
      have n0 : (0 : Int32) ≤ encO (some s) := nI_pos' (by omega)
      rw [if_pos n0]
      obtain ⟨σ4, d1, d2, d3⟩ := r_laySwap LR3 (by simp) (b := some s) (fun s' e => by cases e; omega)
      rw [d1]
      rw [obs_eq]
      have hr4 : RV v σ4 := b2.fr (fun a k q => d3 a k (by unfold FPr at q; omega))
      rw [show encO (some s) = nI s from rfl, r_gainOf hr4 ok hth (by omega) hsx]
      rw [obs_eq]
      exact ⟨σ4, rfl, by simpa using d2⟩
  unfold mX11_best
  simp only [bnd_eq]
  rw [c_isThief hc0 ok]
  rw [obs_eq]
  cases hb : bin a1 v.T
  · refine ⟨-1000000, sI σ 0 9 0, sI (sI σ 0 9 0) 233 71 0, rfl, ?_, laid_of (l := []) (L0.fr (fun a k q => by rw [sI_get, if_neg (by omega)])) (lr_nil rfl) (by simp)⟩
    have hr0 : RV v (sI (sI σ 0 9 0) 233 71 0) := hr.fr (fun a k q => by rw [sI_get, if_neg (by unfold FPr at q; omega), sI_get, if_neg (by unfold FPr at q; omega)])
    unfold mX12_best
    simp only [bnd_eq]
    rw [r_isThief hr0 ok, hb]
    rfl
  · obtain ⟨th, hth, rfl, -⟩ := bin_iff.mp hb
    obtain ⟨σ1, g1, g2⟩ := c_gather (t := 183) (s := 44) hc0 ok (by omega) (by omega) (by omega) hz zc0 hth
    have F : ∀ a k, ¬ (a = c + 14 ∨ a = c + 15 ∨ (183 ≤ a ∧ a < 192)) → σ1.1 a k = (sI σ 0 9 0).1 a k := fun a k hn => (fX9_gather _ _ _ _ _ _ g1 a k (by unfold MOD_X9_gather; omega)).1
    have Fr : ∀ a k, 233 ≤ a → σ1.1 a k = σ.1 a k := fun a k hn => by rw [F a k (by omega), sI_get, if_neg (by omega)]
    have L1 : LC [] σ1 := L0.fr (fun a k q => F a k (by omega))
    obtain ⟨r, p1, p2⟩ := c_pick ok g2
    rw [if_pos rfl, show 0 + 183 = 183 from rfl, show 0 + 44 = 44 from rfl, g1]
    rw [obs_eq]
    rw [p1]
    rw [obs_eq]
    cases hbs : bestS v z th with
    | none =>
      rw [hbs] at p2
      have p2' : r = -1 := p2
      rw [if_pos p2']
      obtain ⟨σ2, e1, e2⟩ := ref σ1 Fr th hth rfl
      rw [hbs] at e1 e2
      refine ⟨-1000000, σ1, σ2, rfl, e1, laid_of (l := []) (L1.fr (fun a k q => ?_)) e2 (by simp)⟩
      exact (fX12_best _ _ _ _ e1 a k (by unfold MOD_X12_best; omega)).1
    | some s =>
      obtain ⟨s1, s2⟩ := bestS_spec hbs
      rw [hbs] at p2
      obtain ⟨j, j1, j2, j3⟩ := p2
      subst j2
      obtain ⟨k1, k2, k3, k4⟩ := g2.2 j s j3
      obtain ⟨A, a1', a2, a3⟩ := c_lay (dr := dr) (tw := c) L1 (by simp) (nI (s / 10240))
      obtain ⟨B, b1, b2, b3⟩ := c_lay (dr := dr) (tw := c) a2 (by simp) (nI (s / 1024 % 10))
      obtain ⟨C, c1, c2, c3⟩ := c_lay (dr := dr) (tw := c) b2 (by simp) (nI (s % 1024))
      rw [if_neg (nI_nm1 (by omega)), binn j1 (by omega), if_pos rfl, pn_cl (by omega), k1, a1', obs_eq, if_pos rfl, a3 (183 + 2) j (by omega), k2, b1, obs_eq, if_pos rfl, b3 (183 + 3) j (by omega), a3 (183 + 3) j (by omega), k3, c1, obs_eq, if_pos rfl, c3 (183 + 4) j (by omega), b3 (183 + 4) j (by omega), a3 (183 + 4) j (by omega), k4]
      obtain ⟨σ2, e1, e2⟩ := ref C (fun a k hn => by rw [c3 a k (by omega), b3 a k (by omega), a3 a k (by omega), Fr a k hn]) th hth rfl
      rw [hbs] at e1 e2
      refine ⟨gn v th s, C, σ2, rfl, e1, laid_of (l := swN (some s)) (LC.fr (by simpa [swN] using c2) (fun a k q => ?_)) e2 (by simp [swN])⟩
      exact (fX12_best _ _ _ _ e1 a k (by unfold MOD_X12_best; omega)).1
/-- a THIEF's BEST, if its GAIN is more than 0 -/
def stepT (v : Vw) (z : Sv) (t : Nat) : Sv × Bool := match bestS v z t with
  | none => (z, false)
  | some s => if gn v t s ≤ 0 then (z, false) else (z.move t (s / 10240) (nI (2 ^ (s / 1024 % 10))) (nI (s % 1024)), true)
def rndL (v : Vw) : Nat → Nat → Sv → Bool → Sv × Bool
  | _, 0, z, b => (z, b)
  | i, k + 1, z, b => rndL v (i + 1) k (stepT v z i).1 (b || (stepT v z i).2)
/-- an HOUR of all THIEVES -/
def hourF (v : Vw) (z : Sv) : Sv × Bool := ((rndL v 0 v.T z false).1.tick v, (rndL v 0 v.T z false).2)
theorem stepT_OK (ok : v.OK) (hz : Sv.OK v z) (hth : th < v.T) : Sv.OK v (stepT v z th).1 := by
  unfold stepT
  cases hb : bestS v z th with
  | none => exact hz
  | some s =>
    obtain ⟨s1, s2⟩ := bestS_spec hb
    have : (if gn v th s ≤ 0 then (z, false) else (z.move th (s / 10240) (nI (2 ^ (s / 1024 % 10))) (nI (s % 1024)), true)).1 = if gn v th s ≤ 0 then z else z.move th (s / 10240) (nI (2 ^ (s / 1024 % 10))) (nI (s % 1024)) := by
      by_cases q : gn v th s ≤ 0
      · rw [if_pos q, if_pos q]
      · rw [if_neg q, if_neg q]
    simp only [this]
    by_cases q : gn v th s ≤ 0
    · rw [if_pos q]; exact hz
    · rw [if_neg q]; exact move_OK hz hth (by omega) _ _
theorem rndL_OK (ok : v.OK) : ∀ (k i : Nat) (z : Sv) (b : Bool), Sv.OK v z → i + k = v.T → Sv.OK v (rndL v i k z b).1
  | 0, i, z, b, hz, _ => hz
  | k + 1, i, z, b, hz, hi => by
    unfold rndL
    exact rndL_OK ok k (i + 1) _ _ (stepT_OK ok hz (by omega)) (by omega)
theorem hourF_OK (ok : v.OK) (hz : Sv.OK v z) : Sv.OK v (hourF v z).1 := tick_OK ok (rndL_OK ok v.T 0 z false hz (by omega))
theorem sub_bit {x h : Nat} (hx : x < v.N) (ok : v.OK) (hw : z.wh x = h) : subS v z h (nI (2 ^ x)) := by
  intro y hy
  have := ok.N
  rw [tb_bit (by omega)] at hy
  have e : y = x := by simpa using hy
  subst e
  exact ⟨hx, hw⟩
/-- the class: THIEVES from i on -/
theorem c_run_L26 (ok : v.OK) (hct : c + 16 ≤ t) {x3 x4 x6 : Int32} {a : Nat} {k127 : Int32 → St_ → Option (Int32 × St_)} : ∀ k n i (z : Sv) (b : Bool) (σ : St_), CV c v σ → CS v (t + 10) z σ → Sv.OK v z → i + k = v.T → k < n → ∃ σ', mX6_run_L26 t c s x3 x4 x6 k127 n (if b = true then 0 else nI a) (nI i) σ = k127 (if (rndL v i k z b).2 = true then 0 else nI a) σ' ∧ CV c v σ' ∧ CS v (t + 10) (rndL v i k z b).1 σ'
  | 0, n, i, z, b, σ, hc, hs, hz, hi, hn => by
    have := ok.T
    obtain ⟨m, rfl, -⟩ := fu_suc hn
    refine ⟨σ, ?_, hc, hs⟩
    unfold mX6_run_L26
    rw [hc.T, if_pos (nI_le (by omega) (by omega))]
    rfl
  | k + 1, n, i, z, b, σ, hc, hs, hz, hi, hn => by
    have oT := ok.T
    have oH := ok.H
    obtain ⟨m, rfl, hm⟩ := fu_suc hn
    obtain ⟨σ1, g1, g2⟩ := c_gather (t := t + 1) (s := t + 10) (th := i) hc ok (by omega) (by omega) (by omega) hz hs (by omega)
    have F : ∀ a k, ¬ (a = c + 14 ∨ a = c + 15 ∨ (t + 1 ≤ a ∧ a < t + 10)) → σ1.1 a k = σ.1 a k := fun a k hn => (fX9_gather _ _ _ _ _ _ g1 a k (by unfold MOD_X9_gather; omega)).1
    have hc1 : CV c v σ1 := hc.fr (fun a k q => F a k (by unfold FPc at q; omega))
    have hs1 : CS v (t + 10) z σ1 := hs.fr (fun a k q => F a k (by omega))
    obtain ⟨r, p1, p2⟩ := c_pick ok g2
    have go := fun z' b' σ' h1 h2 h3 => c_run_L26 ok hct (x3 := x3) (x4 := x4) (x6 := x6) (a := a) (k127 := k127) k m (i + 1) z' b' σ' h1 h2 h3 (by omega) (by omega)
    unfold mX6_run_L26
    simp only [bnd_eq]
    rw [hc.T, if_neg (nI_ge (by omega) (by omega)), g1]
    rw [obs_eq]
    rw [p1]
    simp only [obs_eq, nI_1]
    unfold rndL
    cases hb : bestS v z i with
    | none =>
      have e : stepT v z i = (z, false) := by unfold stepT; rw [hb]
      rw [hb] at p2
      have p2' : r = -1 := p2
      rw [if_pos p2', e]
      simp only [Bool.or_false]
      exact go z b σ1 hc1 hs1 hz
    | some w =>
      obtain ⟨s1, s2⟩ := bestS_spec hb
      obtain ⟨w1, w2, w3, w4⟩ := isSw_spec ok s2
      have oN := ok.N
      rw [hb] at p2
      obtain ⟨j, j1, j2, j3⟩ := p2
      subst j2
      obtain ⟨k1, k2, k3, k4⟩ := g2.2 j w j3
      rw [if_neg (nI_nm1 (by omega)), binn j1 (by omega), if_pos rfl, if_pos rfl, if_pos rfl, if_pos rfl, pn_cl (by omega), k1, k2, k3, k4]
      by_cases q : gn v i w ≤ 0
      · have e : stepT v z i = (z, false) := by unfold stepT; rw [hb]; simp only [if_pos q]
        rw [if_pos q, e]
        simp only [Bool.or_false]
        exact go z b σ1 hc1 hs1 hz
      · have e : stepT v z i = (z.move i (w / 10240) (nI (2 ^ (w / 1024 % 10))) (nI (w % 1024)), true) := by unfold stepT; rw [hb]; simp only [if_neg q]
        rw [if_neg q, e, shl_nI (by omega)]
        simp only [Bool.or_true]
        obtain ⟨σ2, u1, u2, u3⟩ := c_exchange ok hs1 (t := i) (h := w / 10240) (by omega) (by omega) (sub_bit w1 ok w2) w3
        rw [u1]
        rw [obs_eq]
        exact go _ true σ2 (hc1.fr (fun a k q => u3 a k (by unfold FPc at q; omega))) u2 (move_OK hz (by omega) (by omega) _ _)
/-- HOURS with an end: behind as many without a move as are enough -/
def rnF (v : Vw) (e : Nat) : Nat → Nat → Nat → Sv → Int32 × Sv
  | 0, _, _, z => (-1, z)
  | k + 1, hour, still, z => if e ≤ (if (hourF v z).2 = true then 0 else still + 1) then (nI hour, (hourF v z).1) else rnF v e k (hour + 1) (if (hourF v z).2 = true then 0 else still + 1) (hourF v z).1
theorem c_run_L14 (ok : v.OK) (hct : c + 16 ≤ t) {N e : Nat} (hN : N ≤ 60) (he : e ≤ 61) : ∀ k n hour still (z : Sv) (σ : St_), CV c v σ → CS v (t + 10) z σ → Sv.OK v z → hour + k = N + 1 → k < n → still ≤ hour → ∃ σ', mX6_run_L14 t c s (nI N) (nI e) n (nI still) (nI hour) σ = some ((rnF v e k hour still z).1, σ') ∧ CV c v σ' ∧ CS v (t + 10) (rnF v e k hour still z).2 σ'
  | 0, n, hour, still, z, σ, hc, hs, hz, hi, hn, hst => by
    obtain ⟨m, rfl, -⟩ := fu_suc hn
    refine ⟨σ, ?_, hc, hs⟩
    unfold mX6_run_L14
    rw [if_pos (nI_lt (by omega) (by omega))]
    rfl
  | k + 1, n, hour, still, z, σ, hc, hs, hz, hi, hn, hst => by
    have oT := ok.T
    obtain ⟨m, rfl, hm⟩ := fu_suc hn
    obtain ⟨σ1, a1, a2, a3⟩ := c_run_L26 (s := s) ok hct (x3 := nI N) (x4 := nI e) (x6 := nI hour) (a := still + 1) (k127 := (fun (y13 : Int32) (σ14 : St_) => ((mX8_passHour (t + 10) (σ14.1 c 0) σ14).bind fun σ15 =>
 (if y13 < nI e then
 (mX6_run_L14 t c s (nI N) (nI e) m y13 (nI (hour + 1)) σ15)
 else (some (nI hour, σ15)))))) v.T FU 0 z false σ hc hs hz (by omega) (by unfold FU; omega)
    have hz1 : Sv.OK v (rndL v 0 v.T z false).1 := rndL_OK ok v.T 0 z false hz (by omega)
    obtain ⟨σ2, b1, b2, b3, b4⟩ := c_pass ok hz1 a3
    have hc2 : CV c v σ2 := a2.fr (fun a k q => b4 a k (by unfold FPc at q; omega))
    unfold mX6_run_L14
    rw [if_neg (nI_nlt (by omega) (by omega))]
    simp only [nI_1]
    have e0 : (if false = true then (0 : Int32) else nI (still + 1)) = nI (still + 1) := rfl
    rw [e0, show nI 0 = (0 : Int32) from rfl] at a1
    unfold rnF
    rw [a1]
    try dsimp only
    rw [a2.R, b1]
    simp only [obs_eq, nI_1]
    have hf : (hourF v z).1 = (rndL v 0 v.T z false).1.tick v := rfl
    have hg : (hourF v z).2 = (rndL v 0 v.T z false).2 := rfl
    have ey : (if (rndL v 0 v.T z false).2 = true then (0 : Int32) else nI (still + 1)) = nI (if (hourF v z).2 = true then 0 else still + 1) := by
      rw [hg]
      by_cases q : (rndL v 0 v.T z false).2 = true
      · rw [if_pos q, if_pos q]; rfl
      · rw [if_neg q, if_neg q]
    rw [ey]
    have sb : (if (hourF v z).2 = true then 0 else still + 1) ≤ hour + 1 := by
      by_cases q : (hourF v z).2 = true
      · rw [if_pos q]; omega
      · rw [if_neg q]; omega
    generalize (if (hourF v z).2 = true then 0 else still + 1) = st at sb ⊢
    by_cases q : e ≤ st
    · rw [if_neg (nI_nlt q (by omega)), if_pos q]
      exact ⟨σ2, rfl, hc2, b2⟩
    · rw [if_pos (nI_lt (by omega) (by omega)), if_neg q]
      exact c_run_L14 ok hct hN he k m (hour + 1) st _ σ2 hc2 b2 (tick_OK ok hz1) (by omega) (by omega) sb
theorem c_run (hc : CV c v σ) (ok : v.OK) (hct : c + 16 ≤ t) (hs : CS v s z σ) (hz : Sv.OK v z) (hst : s + 3 ≤ t) {N e : Nat} (hN : N ≤ 60) (he : e ≤ 61) : ∃ σ', mX6_run t c s (nI N) (nI e) σ = some ((rnF v e N 1 0 z).1, σ') ∧ CV c v σ' ∧ CS v (t + 10) (rnF v e N 1 0 z).2 σ' := by
  unfold mX6_run
  obtain ⟨σ1, a1, a2⟩ := c_copy (σ := σ) (t := t + 10) (p := s) (Or.inl (by omega))
  rw [a1]
  rw [obs_eq]
  have hc1 : CV c v σ1 := hc.fr (fun a k q => by rw [a2, if_neg (by unfold FPc at q; omega), if_neg (by unfold FPc at q; omega), if_neg (by unfold FPc at q; omega)])
  have hs1 : CS v (t + 10) z σ1 := by
    refine ⟨fun h hh => ?_, ?_, ?_⟩
    · rw [a2, if_pos ⟨rfl, hh⟩]; exact hs.held h hh
    · rw [a2, if_neg (by omega), if_neg (by omega), if_pos (by omega)]; exact hs.hr
    · rw [a2, if_neg (by omega), if_neg (by omega), if_pos (by omega)]; exact hs.jl
  exact c_run_L14 (s := s) ok hct hN he N FU 1 0 z σ1 hc1 hs1 hz (by omega) (by unfold FU; omega) (by omega)
/-! the reference -/
theorem r_doSwap (hr : RV v σ) (ok : v.OK) (hw : RW v z σ) (hth : th < v.T) {s : Nat} (hs : s < 10240 * v.H) : ∃ σ', mX12_doSwap 233 (nI th) (nI s) σ = some σ' ∧ RW v (z.move th (s / 10240) (nI (2 ^ (s / 1024 % 10))) (nI (s % 1024))) σ' ∧ ∀ a k, ¬ a = 263 → σ'.1 a k = σ.1 a k := by
  have oH := ok.H
  have e1 : nI s / (10240 : Int32) = nI (s / 10240) := nI_div (b := 10240) (by omega) (by omega)
  have e2 : nI s / (1024 : Int32) = nI (s / 1024) := nI_div (b := 1024) (by omega) (by omega)
  have e3 : nI (s / 1024) - nI (s / 1024) / (10 : Int32) * (10 : Int32) = nI (s / 1024 % 10) := nI_rem (b := 10) (by omega) (by omega)
  have e4 : nI s - nI (s / 1024) * (1024 : Int32) = nI (s % 1024) := by
    have := nI_rem (a := s) (b := 1024) (by omega) (by omega)
    rw [show nI 1024 = (1024 : Int32) from rfl, e2] at this
    exact this
  obtain ⟨σ', u1, u2, u3⟩ := r_move hr ok hw hth (h := s / 10240) (by omega) (nI (2 ^ (s / 1024 % 10))) (nI (s % 1024))
  refine ⟨σ', ?_, u2, u3⟩
  unfold mX12_doSwap
  simp only [bnd_eq, e1, e2, e3, e4, shl_nI (show s / 1024 % 10 < 31 by omega), u1, obs_eq]
theorem rv_mv (hr : RV v σ) (e : ∀ a k, ¬ a = 263 → σ'.1 a k = σ.1 a k) : RV v σ' := hr.fr (fun a k q => e a k (by unfold FPr at q; omega))
theorem r_goRound_L4 (ok : v.OK) {k48 : Bool → St_ → Option (Bool × St_)} : ∀ k n i (z : Sv) (b : Bool) (σ : St_), RV v σ → RW v z σ → Sv.OK v z → i + k = v.T → k < n → ∃ σ', mX12_goRound_L4 233 k48 n b (nI i) σ = k48 (rndL v i k z b).2 σ' ∧ RV v σ' ∧ RW v (rndL v i k z b).1 σ'
  | 0, n, i, z, b, σ, hr, hw, hz, hi, hn => by
    have := ok.T
    obtain ⟨m, rfl, -⟩ := fu_suc hn
    refine ⟨σ, ?_, hr, hw⟩
    unfold mX12_goRound_L4
    rw [hr.T, if_pos (nI_le (by omega) (by omega))]
    rfl
  | k + 1, n, i, z, b, σ, hr, hw, hz, hi, hn => by
    have oT := ok.T
    have oH := ok.H
    obtain ⟨m, rfl, hm⟩ := fu_suc hn
    obtain ⟨σ1, g1, g2, g3, g4⟩ := r_bestOf hr ok hz hw (th := i) (by omega)
    have go := fun z' b' σ' h1 h2 h3 => r_goRound_L4 ok (k48 := k48) k m (i + 1) z' b' σ' h1 h2 h3 (by omega) (by omega)
    unfold mX12_goRound_L4
    simp only [bnd_eq]
    rw [hr.T, if_neg (nI_ge (by omega) (by omega)), g1]
    simp only [obs_eq, nI_1]
    unfold rndL
    cases hb : bestS v z i with
    | none =>
      have e : stepT v z i = (z, false) := by unfold stepT; rw [hb]
      rw [if_pos (by decide), e]
      simp only [Bool.or_false]
      exact go z b σ1 g2 g3 hz
    | some w =>
      obtain ⟨s1, s2⟩ := bestS_spec hb
      obtain ⟨w1, w2, w3, w4⟩ := isSw_spec ok s2
      rw [show encO (some w) = nI w from rfl, if_neg (nI_pos (by omega)), r_gainOf g2 ok (by omega) (by omega) w1]
      rw [obs_eq]
      by_cases q : gn v i w ≤ 0
      · have e : stepT v z i = (z, false) := by unfold stepT; rw [hb]; simp only [if_pos q]
        rw [if_neg (Int32.not_lt.mpr q), e]
        simp only [Bool.or_false]
        exact go z b σ1 g2 g3 hz
      · have e : stepT v z i = (z.move i (w / 10240) (nI (2 ^ (w / 1024 % 10))) (nI (w % 1024)), true) := by unfold stepT; rw [hb]; simp only [if_neg q]
        rw [if_pos (Int32.not_le.mp q), e]
        simp only [Bool.or_true]
        obtain ⟨σ2, u1, u2, u3⟩ := r_doSwap g2 ok g3 (th := i) (by omega) s1
        rw [u1]
        rw [obs_eq]
        exact go _ true σ2 (rv_mv g2 u3) u2 (move_OK hz (by omega) (by omega) _ _)
theorem r_goRound (hr : RV v σ) (ok : v.OK) (hz : Sv.OK v z) (hw : RW v z σ) : ∃ σ', mX12_goRound 233 σ = some ((hourF v z).2, σ') ∧ RV v σ' ∧ RW v (hourF v z).1 σ' := by
  have oT := ok.T
  obtain ⟨σ1, a1, a2, a3⟩ := r_goRound_L4 ok (k48 := (fun (y8 : Bool) (σ9 : St_) => ((mX12_tick 233 σ9).bind fun σ10 => (some (y8, σ10))))) v.T FU 0 z false σ hr hw hz (by omega) (by unfold FU; omega)
  have hz1 : Sv.OK v (rndL v 0 v.T z false).1 := rndL_OK ok v.T 0 z false hz (by omega)
  obtain ⟨σ2, b1, b2, b3⟩ := r_tick a2 ok hz1 a3
  refine ⟨σ2, ?_, a2.fr (fun a k q => b3 a k (by unfold FPr at q; omega)), b2⟩
  unfold mX12_goRound
  refine Eq.trans a1 ?_
  try dsimp only
  rw [b1]
  rfl
def iterH (v : Vw) : Nat → Sv → Sv
  | 0, z => z
  | n + 1, z => iterH v n (hourF v z).1
/-- HOURS without a move, as the reference counts on -/
def idF (v : Vw) : Nat → Sv → Int32 → Int32
  | 0, _, x => x
  | n + 1, z, x => idF v n (hourF v z).1 (if (hourF v z).2 = true then 0 else x + 1)
theorem r_goRounds_L2 (ok : v.OK) {N : Nat} (hN : N ≤ 60) : ∀ k n i (z : Sv) (σ : St_), RV v σ → RW v z σ → Sv.OK v z → i + k = N → k < n → ∃ σ', mX12_goRounds_L2 233 (nI N) n (nI i) σ = some σ' ∧ RV v σ' ∧ RW v (iterH v k z) σ' ∧ σ'.1 233 78 = idF v k z (σ.1 233 78)
  | 0, n, i, z, σ, hr, hw, hz, hi, hn => by
    obtain ⟨m, rfl, -⟩ := fu_suc hn
    refine ⟨σ, ?_, hr, hw, rfl⟩
    unfold mX12_goRounds_L2
    rw [if_pos (nI_le (by omega) (by omega))]
  | k + 1, n, i, z, σ, hr, hw, hz, hi, hn => by
    obtain ⟨m, rfl, hm⟩ := fu_suc hn
    obtain ⟨σ1, a1, a2, a3⟩ := r_goRound hr ok hz hw
    have F : σ1.1 233 78 = σ.1 233 78 := (fX12_goRound _ _ _ a1 233 78 (by unfold MOD_X12_goRound; omega)).1
    have go := fun x => r_goRounds_L2 ok hN k m (i + 1) (hourF v z).1 (sI σ1 233 78 x) (a2.fr (fun a k q => by rw [sI_get, if_neg (by unfold FPr at q; omega)])) (a3.fr (fun a k q => by rw [sI_get, if_neg (by omega)])) (hourF_OK ok hz) (by omega) (by omega)
    unfold mX12_goRounds_L2
    simp only [bnd_eq]
    rw [if_neg (nI_ge (by omega) (by omega)), a1]
    simp only [obs_eq, nI_1]
    unfold iterH idF
    cases hb : (hourF v z).2
    · rw [if_neg (by simp), F]
      obtain ⟨σ', u1, u2, u3, u4⟩ := go (σ.1 233 78 + 1)
      refine ⟨σ', u1, u2, u3, ?_⟩
      rw [u4, sI_get, if_pos ⟨rfl, rfl⟩]
      rfl
    · rw [if_pos rfl]
      obtain ⟨σ', u1, u2, u3, u4⟩ := go 0
      refine ⟨σ', u1, u2, u3, ?_⟩
      rw [u4, sI_get, if_pos ⟨rfl, rfl⟩]
      rfl
theorem r_goRounds (hr : RV v σ) (ok : v.OK) (hz : Sv.OK v z) (hw : RW v z σ) {N : Nat} (hN : N ≤ 60) : ∃ σ', mX12_goRounds 233 (nI N) σ = some σ' ∧ RV v σ' ∧ RW v (iterH v N z) σ' ∧ σ'.1 233 78 = idF v N z (σ.1 233 78) := by
  unfold mX12_goRounds
  exact r_goRounds_L2 ok hN N FU 0 z σ hr hw hz (by omega) (by unfold FU; omega)
theorem iterH_OK (ok : v.OK) : ∀ (n : Nat) (z : Sv), Sv.OK v z → Sv.OK v (iterH v n z)
  | 0, z, hz => hz
  | n + 1, z, hz => iterH_OK ok n _ (hourF_OK ok hz)
theorem rnF_61 : ∀ (k hour still : Nat) (z : Sv), still + k < 61 → (rnF v 61 k hour still z).2 = iterH v k z
  | 0, _, _, _, _ => rfl
  | k + 1, hour, still, z, h => by
    unfold rnF iterH
    have sb : (if (hourF v z).2 = true then 0 else still + 1) ≤ still + 1 := by
      by_cases q : (hourF v z).2 = true
      · rw [if_pos q]; omega
      · rw [if_neg q]; omega
    generalize (if (hourF v z).2 = true then 0 else still + 1) = st at sb ⊢
    rw [if_neg (by omega)]
    exact rnF_61 k (hour + 1) st _ (by omega)
theorem r_rests_L (ok : v.OK) : ∀ k n hour still (z : Sv) (σ : St_), RV v σ → RW v z σ → Sv.OK v z → hour + k = 61 → k < n → still ≤ hour → σ.1 233 78 = nI still → ∃ σ', mX12_rests_L11 233 n (nI hour) σ = some ((rnF v v.R k hour still z).1, σ')
  | 0, n, hour, still, z, σ, hr, hw, hz, hi, hn, hst, h78 => by
    obtain ⟨m, rfl, -⟩ := fu_suc hn
    refine ⟨σ, ?_⟩
    unfold mX12_rests_L11
    rw [if_pos (show (60 : Int32) < nI hour from nI_lt (a := 60) (by omega) (by omega))]
    rfl
  | k + 1, n, hour, still, z, σ, hr, hw, hz, hi, hn, hst, h78 => by
    have oR := ok.R
    obtain ⟨m, rfl, hm⟩ := fu_suc hn
    obtain ⟨σ1, a1, a2, a3, a4⟩ := r_goRounds hr ok hz hw (N := 1) (by omega)
    unfold mX12_rests_L11
    rw [if_neg (show ¬ (60 : Int32) < nI hour from nI_nlt (b := hour) (a := 60) (by omega) (by omega)), show (1 : Int32) = nI 1 from rfl, a1]
    rw [obs_eq]
    rw [show nI 1 = (1 : Int32) from rfl, nI_1, a2.R]
    have ey : σ1.1 233 78 = nI (if (hourF v z).2 = true then 0 else still + 1) := by
      rw [a4, h78]
      unfold idF idF
      by_cases q : (hourF v z).2 = true
      · rw [if_pos q, if_pos q]; rfl
      · rw [if_neg q, if_neg q, nI_1]
    rw [ey]
    have sb : (if (hourF v z).2 = true then 0 else still + 1) ≤ hour + 1 := by
      by_cases q : (hourF v z).2 = true
      · rw [if_pos q]; omega
      · rw [if_neg q]; omega
    unfold rnF
    generalize (if (hourF v z).2 = true then 0 else still + 1) = st at sb ey ⊢
    by_cases q : v.R ≤ st
    · rw [if_neg (nI_nlt q (by omega)), if_pos q]
      exact ⟨σ1, rfl⟩
    · rw [if_pos (nI_lt (by omega) (by omega)), if_neg q]
      exact r_rests_L ok k m (hour + 1) st _ σ1 a2 a3 (hourF_OK ok hz) (by omega) (by omega) sb ey
end ROUNDS
