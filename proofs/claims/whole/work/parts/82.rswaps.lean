/-! the reference: SWAPS one behind the other; BEST on both sides -/
section RSWAPS
variable {σ σ' : St_} {c s t th : Nat} {v : Vw} {z : Sv}
def encO : Option Nat → Int32
  | none => -1
  | some s => nI s
theorem z0_iff {m : Nat} (h : m < 2 ^ 31) : (nI m = 0) = (m = 0) := propext (nI_eq (b := 0) h (by omega))
theorem r_isSwap (hr : RV v σ) (ok : v.OK) (hz : Sv.OK v z) (hw : RW v z σ) (hth : th < v.T) {s : Nat} (hs : s < 10240 * v.H) : ∃ σ', mX12_isSwap 233 (nI th) (nI s) σ = some (isSw v z th s, σ') := by
  have oN := ok.N
  have oH := ok.H
  have oT := ok.T
  have oR := ok.R
  have hzr := hz.hr
  have hh : s / 10240 < v.H := by omega
  have e1 : nI s / (10240 : Int32) = nI (s / 10240) := nI_div (b := 10240) (by omega) (by omega)
  have e2 : nI s / (1024 : Int32) = nI (s / 1024) := nI_div (b := 1024) (by omega) (by omega)
  have e3 : nI (s / 1024) - nI (s / 1024) / (10 : Int32) * (10 : Int32) = nI (s / 1024 % 10) := nI_rem (b := 10) (by omega) (by omega)
  have e4 : nI s - nI (s / 1024) * (1024 : Int32) = nI (s % 1024) := by
    have := nI_rem (a := s) (b := 1024) (by omega) (by omega)
    rw [show nI 1024 = (1024 : Int32) from rfl, e2] at this
    exact this
  have hx10 : s / 1024 % 10 < 10 := by omega
  have hm : s % 1024 < 1024 := by omega
  have hwx : σ.1 263 (s / 1024 % 10) = nI (s / 10240) ↔ (s / 1024 % 10 < v.N ∧ z.wh (s / 1024 % 10) = s / 10240) := by
    by_cases q : s / 1024 % 10 < v.N
    · rw [hw.wh _ q, wc_house (show s / 10240 < 5 by omega), wcode_eq (hz.le ok q) (by omega)]
      simp [q]
    · rw [hw.no _ (by omega) hx10]
      constructor
      · intro e; exact absurd e.symm (nI_nm1 (by omega))
      · intro e; exact absurd e.1 q
  unfold mX12_isSwap isSw
  simp only [bnd_eq, e1, e2, e3, e4, z0_iff (show s % 1024 < 2 ^ 31 by omega)]
  by_cases q0 : s % 1024 = 0
  · exact ⟨σ, by simp [q0]⟩
  rw [if_neg q0, r_members]
  rw [obs_eq]
  by_cases q1 : (2 : Int32) < mem (nI (s % 1024))
  · exact ⟨σ, by simp [q1, Int32.not_le.mpr q1]⟩
  rw [if_neg q1, r_isThing hr ok, pn_bin (by omega)]
  rw [obs_eq]
  by_cases q2 : s / 1024 % 10 < v.N
  · have q2' : decide (s / 1024 % 10 < v.N) = true := by simp [q2]
    rw [q2', if_pos rfl, binn hx10 (by omega), if_pos rfl, pn_cl (by omega), show 233 + 30 = 263 from rfl]
    by_cases q3 : z.wh (s / 1024 % 10) = s / 10240
    · rw [if_pos (hwx.mpr ⟨q2, q3⟩), wc_thief (by omega), r_hasAt hr ok hz hw (by omega)]
      rw [obs_eq]
      by_cases q4 : nI (s % 1024) &&& (hset v z (5 + th) ^^^ (-1)) = 0
      · rw [if_pos q4, r_isSeen hr ok hh (by omega) hw.hr]
        rw [obs_eq]
        cases q5 : tb (v.wa (s / 10240)) z.hr
        · rw [if_neg (by simp), shl_nI (by omega), r_canBe hr ok hz hw hth hh]
          rw [obs_eq]
          cases q6 : aCan v z th (s / 10240) (nI (2 ^ (s / 1024 % 10))) (nI (s % 1024))
          · exact ⟨σ, by simp⟩
          · obtain ⟨σ', l1⟩ := r_isLawful hr ok hh (nI (2 ^ (s / 1024 % 10))) (nI (s % 1024)) (nI z.hr) (v.sl th)
            rw [if_pos rfl, binn (show th < 4 by omega) (by omega), if_pos rfl, pn_cl (by omega), show 233 + 27 = 260 from rfl, hr.sl th hth, hw.hr, l1]
            rw [obs_eq]
            refine ⟨σ', ?_⟩
            cases q7 : aLaw v (s / 10240) (nI (2 ^ (s / 1024 % 10))) (nI (s % 1024)) (nI z.hr) (v.sl th)
            · simp
            · rw [decide_eq_true q4]
              simp [q0, Int32.not_lt.mp q1, q2, q3]
        · exact ⟨σ, by simp⟩
      · rw [if_neg q4, decide_eq_false q4]
        exact ⟨σ, by simp⟩
    · rw [if_neg (fun w => q3 (hwx.mp w).2)]
      exact ⟨σ, by simp [q3]⟩
  · exact ⟨σ, by simp [q2]⟩
theorem or1023 (f : Nat) : f ||| 1023 = 1024 * (f / 1024) + 1023 := by
  have e : f = 2 ^ 10 * (f / 1024) ||| f % 1024 := by
    rw [← Nat.two_pow_add_eq_or_of_lt (show f % 1024 < 2 ^ 10 by omega)]
    omega
  have e2 : ∀ b : Fin 1024, b.1 ||| 1023 = 1023 := by decide +kernel
  have e3 := e2 ⟨f % 1024, by omega⟩
  simp only at e3
  conv => lhs; rw [e]
  rw [Nat.or_assoc, e3, ← Nat.two_pow_add_eq_or_of_lt (show 1023 < 2 ^ 10 by omega)]
theorem rv_sw (hr : RV v σ) (e : ∀ a k, ¬ (a = 242 ∨ a = 243) → σ'.1 a k = σ.1 a k) : RV v σ' := hr.fr (fun a k q => e a k (by unfold FPr at q; omega))
theorem rw_sw (hw : RW v z σ) (e : ∀ a k, ¬ (a = 242 ∨ a = 243) → σ'.1 a k = σ.1 a k) : RW v z σ' := hw.fr (fun a k q => e a k (by omega))
theorem r_next_L18 (ok : v.OK) (hz : Sv.OK v z) (hth : th < v.T) : ∀ k n f (σ : St_), RV v σ → RW v z σ → 10240 * v.H - f ≤ k → f < 60000 → k < n → ∃ σ', mX12_nextSwap_L18 233 (nI th) (hset v z (5 + th)) n (nI f) σ = some (encO (swF v z th f).head?, σ')
  | 0, n, f, σ, hr, hw, hk, hf, hn => by
    have oH := ok.H
    obtain ⟨m, rfl, -⟩ := fu_suc hn
    refine ⟨σ, ?_⟩
    unfold mX12_nextSwap_L18
    rw [hr.H, show (10240 : Int32) = nI 10240 from rfl, nI_mul, if_pos (nI_le (by omega) (by omega)), swF_end (by omega)]
    rfl
  | k + 1, n, f, σ, hr, hw, hk, hf, hn => by
    have oN := ok.N
    have oH := ok.H
    obtain ⟨m, rfl, hm⟩ := fu_suc hn
    by_cases hE : 10240 * v.H ≤ f
    · refine ⟨σ, ?_⟩
      unfold mX12_nextSwap_L18
      rw [hr.H, show (10240 : Int32) = nI 10240 from rfl, nI_mul, if_pos (nI_le (by omega) (by omega)), swF_end (by omega)]
      rfl
    · have e1 : nI f / (10240 : Int32) = nI (f / 10240) := nI_div (b := 10240) (by omega) (by omega)
      have e2 : nI f / (1024 : Int32) = nI (f / 1024) := nI_div (b := 1024) (by omega) (by omega)
      have e3 : nI (f / 1024) - nI (f / 1024) / (10 : Int32) * (10 : Int32) = nI (f / 1024 % 10) := nI_rem (b := 10) (by omega) (by omega)
      have e4 : nI f - nI (f / 1024) * (1024 : Int32) = nI (f % 1024) := by
        have := nI_rem (a := f) (b := 1024) (by omega) (by omega)
        rw [show nI 1024 = (1024 : Int32) from rfl, e2] at this
        exact this
      have e5 : nI f ||| (1023 : Int32) = nI (1024 * (f / 1024) + 1023) := by
        rw [← or1023]; exact nI_or f 1023
      have hx10 : f / 1024 % 10 < 10 := by omega
      have hM : ¬ (10240 : Int32) * nI v.H ≤ nI f := by
        rw [show (10240 : Int32) = nI 10240 from rfl, nI_mul]
        exact nI_ge (by omega) (by omega)
      unfold mX12_nextSwap_L18
      simp only [bnd_eq]
      rw [hr.H, if_neg hM]
      simp only [e1, e2, e3, e4, e5, nI_1, binn hx10 (show f / 1024 % 10 < 2 ^ 31 by omega), pn_cl (show f / 1024 % 10 < 2 ^ 31 by omega), if_true, show 233 + 30 = 263 from rfl]
      by_cases q : σ.1 263 (f / 1024 % 10) = nI (f / 10240)
      · rw [if_pos q]
        by_cases q2 : nI (f % 1024) &&& (hset v z (5 + th) ^^^ (-1)) = 0
        · rw [if_pos q2]
          obtain ⟨σ1, s1⟩ := r_isSwap hr ok hz hw hth (s := f) (by omega)
          have F : ∀ a k, ¬ (a = 242 ∨ a = 243) → σ1.1 a k = σ.1 a k := fun a k hn => (fX12_isSwap _ _ _ _ _ s1 a k (by unfold MOD_X12_isSwap; omega)).1
          rw [s1]
          rw [obs_eq]
          cases q3 : isSw v z th f
          · rw [if_neg (by simp)]
            obtain ⟨σ', u1⟩ := r_next_L18 ok hz hth k m (f + 1) σ1 (rv_sw hr F) (rw_sw hw F) (by omega) (by omega) (by omega)
            refine ⟨σ', ?_⟩
            rw [u1, swF_skip (f := f) (g := f + 1) (by omega) (fun s h1 h2 _ => by rw [show s = f by omega]; exact q3)]
          · rw [if_pos rfl]
            refine ⟨σ1, ?_⟩
            rw [swF_hit q3 (by omega)]
            rfl
        · rw [if_neg q2]
          obtain ⟨σ', u1⟩ := r_next_L18 ok hz hth k m (f + 1) σ hr hw (by omega) (by omega) (by omega)
          refine ⟨σ', ?_⟩
          rw [u1, swF_skip (f := f) (g := f + 1) (by omega) (fun s h1 h2 _ => by
            rw [show s = f by omega]
            unfold isSw
            rw [decide_eq_false q2]
            simp)]
      · rw [if_neg q]
        obtain ⟨σ', u1⟩ := r_next_L18 ok hz hth k m (1024 * (f / 1024) + 1023 + 1) σ hr hw (by omega) (by omega) (by omega)
        refine ⟨σ', ?_⟩
        rw [u1, swF_skip (f := f) (g := 1024 * (f / 1024) + 1023 + 1) (by omega) (fun s h1 h2 h3 => ?_)]
        have a1 : s / 1024 = f / 1024 := by omega
        have a2 : s / 10240 = f / 10240 := by omega
        by_cases w : isSw v z th s = true
        · obtain ⟨w1, w2, -⟩ := isSw_spec ok w
          rw [a1] at w1 w2
          rw [a2] at w2
          exact absurd (by rw [hw.wh _ w1, w2, ← wc_house (by omega)]) q
        · simpa using w
theorem r_nextSwap (hr : RV v σ) (ok : v.OK) (hz : Sv.OK v z) (hw : RW v z σ) (hth : th < v.T) {f : Nat} (hf : f ≤ 51200) : ∃ σ', mX12_nextSwap 233 (nI th) (nI f) σ = some (encO (swF v z th f).head?, σ') ∧ RV v σ' ∧ RW v z σ' ∧ ∀ a k, ¬ (a = 242 ∨ a = 243) → σ'.1 a k = σ.1 a k := by
  have oT := ok.T
  have oH := ok.H
  have main : ∃ σ', mX12_nextSwap 233 (nI th) (nI f) σ = some (encO (swF v z th f).head?, σ') := by
    unfold mX12_nextSwap
    rw [wc_thief (by omega), r_hasAt hr ok hz hw (by omega)]
    rw [obs_eq]
    by_cases q : hset v z (5 + th) = 0
    · rw [if_pos q]
      refine ⟨σ, ?_⟩
      have : swF v z th f = [] := by
        unfold swF
        apply frm_none
        intro s _ _
        by_cases w : isSw v z th s = true
        · obtain ⟨-, -, w3, w4⟩ := isSw_spec ok w
          exfalso
          apply w4
          have : nI (s % 1024) = 0 := by
            apply tb_ext
            intro x hx
            rw [tb_0]
            by_cases e : tb (nI (s % 1024)) x = true
            · obtain ⟨a1, a2⟩ := w3 x e
              have b := tb_hset (z := z) (h := 5 + th) (x := x) ok
              rw [q, tb_0] at b
              simp [a1, a2] at b
            · simpa using e
          exact (nI_eq (b := 0) (by omega) (by omega)).mp this
        · simpa using w
      rw [this]
      rfl
    · rw [if_neg q]
      exact r_next_L18 ok hz hth 51200 FU f σ hr hw (by omega) (by omega) (by unfold FU; omega)
  obtain ⟨σ', h1⟩ := main
  have F : ∀ a k, ¬ (a = 242 ∨ a = 243) → σ'.1 a k = σ.1 a k := fun a k hn => (fX12_nextSwap _ _ _ _ _ h1 a k (by unfold MOD_X12_nextSwap; omega)).1
  exact ⟨σ', h1, rv_sw hr F, rw_sw hw F, F⟩
theorem swF_tail {f s : Nat} {l : List Nat} (h : swF v z t f = s :: l) : swF v z t (s + 1) = l ∧ f ≤ s ∧ s < 10240 * v.H ∧ isSw v z t s = true := by
  have hs : s ∈ swF v z t f := by rw [h]; exact List.mem_cons_self
  obtain ⟨h1, h2, h3⟩ := swF_mem.mp hs
  refine ⟨?_, h1, h2, h3⟩
  have so : (swF v z t f).Pairwise (fun a b => a < b) := frm_sorted _ _
  rw [h, List.pairwise_cons] at so
  have e : swF v z t f = swF v z t s := swF_skip h1 (fun y y1 y2 y3 => by
    by_cases w : isSw v z t y = true
    · have : y ∈ swF v z t f := swF_mem.mpr ⟨y1, y3, w⟩
      rw [h] at this
      rcases List.mem_cons.mp this with e | e
      · omega
      · have := so.1 y e; omega
    · simpa using w)
  rw [h, swF_hit h3 h2] at e
  injection e with _ e2
  exact e2.symm
theorem r_gain_L (hr : RV v σ) (ok : v.OK) (hth : th < v.T) (m : Int32) : ∀ k n i (a : Int32), i + k = v.N → k < n → mX12_gainOf_L25 233 σ (nI th) m n a (nI i) = some (a - sumI (fun x => if tb m x = true then v.va (5 + th) x else 0) i k)
  | 0, n, i, a, hi, hn => by
    have := ok.N
    obtain ⟨m, rfl, -⟩ := fu_suc hn
    unfold mX12_gainOf_L25 sumI
    rw [hr.N, if_pos (nI_le (by omega) (by omega)), Int32.sub_zero]
  | k + 1, n, i, a, hi, hn => by
    have := ok.N
    have := ok.T
    obtain ⟨m', rfl, hm⟩ := fu_suc hn
    have ih := fun a => r_gain_L hr ok hth m k m' (i + 1) a (by omega) (by omega)
    have tw : mX12_trueWorth 233 (nI i) (nI th) true σ = some (v.va (5 + th) i) := r_trueWorth hr ok (b := true) (by omega) (by simp [holIx]; omega)
    unfold mX12_gainOf_L25 sumI
    simp only [bnd_eq]
    rw [hr.N, if_neg (nI_ge (by omega) (by omega)), tb_get _ (by omega), nI_1, ih, tw]
    rw [obs_eq]
    rw [ih]
    by_cases q : tb m i = true
    · simp only [q, if_true]
      congr 1
      simp only [Int32.sub_eq_add_neg, Int32.neg_add]
      ac_rfl
    · simp [q]
theorem r_gainOf (hr : RV v σ) (ok : v.OK) (hth : th < v.T) {s : Nat} (hs : s < 60000) (hx : s / 1024 % 10 < v.N) : mX12_gainOf 233 (nI th) (nI s) σ = some (gn v th s) := by
  have oN := ok.N
  have oT := ok.T
  have e2 : nI s / (1024 : Int32) = nI (s / 1024) := nI_div (b := 1024) (by omega) (by omega)
  have e3 : nI (s / 1024) - nI (s / 1024) / (10 : Int32) * (10 : Int32) = nI (s / 1024 % 10) := nI_rem (b := 10) (by omega) (by omega)
  have e4 : nI s - nI (s / 1024) * (1024 : Int32) = nI (s % 1024) := by
    have := nI_rem (a := s) (b := 1024) (by omega) (by omega)
    rw [show nI 1024 = (1024 : Int32) from rfl, e2] at this
    exact this
  have tw : mX12_trueWorth 233 (nI (s / 1024 % 10)) (nI th) true σ = some (v.va (5 + th) (s / 1024 % 10)) := r_trueWorth hr ok (b := true) hx (by simp [holIx]; omega)
  unfold mX12_gainOf
  simp only [bnd_eq, e2, e3, e4, tw, obs_eq]
  exact r_gain_L hr ok hth _ v.N FU 0 _ (by omega) (by unfold FU; omega)
/-- BEST of a list: of like ones the first -/
def pickL (g : Nat → Int32) : Option Nat → List Nat → Option Nat
  | b, [] => b
  | none, s :: l => pickL g (some s) l
  | some b, s :: l => pickL g (if g s ≤ g b then some b else some s) l
def bestS (v : Vw) (z : Sv) (t : Nat) : Option Nat := pickL (gn v t) none (swl v z t)
theorem pickL_mem {g : Nat → Int32} {P : Nat → Prop} : ∀ (l : List Nat) (b : Option Nat), (∀ s, b = some s → P s) → (∀ s, s ∈ l → P s) → ∀ s, pickL g b l = some s → P s
  | [], b, hb, _, s, h => by
    unfold pickL at h
    exact hb s h
  | a :: l, none, hb, hl, s, h => by
    unfold pickL at h
    exact pickL_mem l (some a) (fun s e => by cases e; exact hl a List.mem_cons_self) (fun s q => hl s (List.mem_cons_of_mem _ q)) s h
  | a :: l, some b, hb, hl, s, h => by
    unfold pickL at h
    refine pickL_mem l _ (fun s e => ?_) (fun s q => hl s (List.mem_cons_of_mem _ q)) s h
    by_cases q : g a ≤ g b
    · rw [if_pos q] at e; exact hb s e
    · rw [if_neg q] at e; cases e; exact hl a List.mem_cons_self
theorem bestS_spec {s : Nat} (h : bestS v z t = some s) : s < 10240 * v.H ∧ isSw v z t s = true := pickL_mem (P := fun s => s < 10240 * v.H ∧ isSw v z t s = true) (swl v z t) none (fun s e => by cases e) (fun s q => (swF_mem.mp q).2) s h
theorem r_best_L9 (ok : v.OK) (hz : Sv.OK v z) (hth : th < v.T) : ∀ (l : List Nat) n f b (σ : St_), RV v σ → RW v z σ → swF v z th f = l → l.length < n → (∀ s, b = some s → s < 51200 ∧ s / 1024 % 10 < v.N) → ∃ σ', mX12_bestOf_L9 233 (nI th) n (encO b) (encO l.head?) σ = some (encO (pickL (gn v th) b l), σ')
  | [], n, f, b, σ, hr, hw, hl, hn, hb => by
    obtain ⟨m, rfl, -⟩ := fu_suc hn
    refine ⟨σ, ?_⟩
    unfold mX12_bestOf_L9
    rw [if_pos (by decide)]
    unfold pickL
    rfl
  | s :: l, n, f, b, σ, hr, hw, hl, hn, hb => by
    have oH := ok.H
    obtain ⟨m, rfl, hm⟩ := fu_suc hn
    obtain ⟨t1, t2, t3, t4⟩ := swF_tail hl
    obtain ⟨σ1, s1, s2, s3, s4⟩ := r_nextSwap hr ok hz hw hth (f := s + 1) (by omega)
    rw [t1] at s1
    have hsx := (isSw_spec ok t4).1
    rw [List.length_cons] at hm
    have go : ∀ b', (∀ s, b' = some s → s < 51200 ∧ s / 1024 % 10 < v.N) → ∃ σ', mX12_bestOf_L9 233 (nI th) m (encO b') (encO l.head?) σ1 = some (encO (pickL (gn v th) b' l), σ') := fun b' hb' => r_best_L9 ok hz hth l m (s + 1) b' σ1 s2 s3 t1 (by omega) hb'
    unfold mX12_bestOf_L9
    simp only [bnd_eq]
    rw [show encO (s :: l).head? = nI s from rfl, if_neg (nI_pos (by omega)), nI_1, s1]
    simp only [obs_eq]
    cases b with
    | none =>
      rw [if_pos (by decide)]
      obtain ⟨σ', u⟩ := go (some s) (fun s' e => by cases e; exact ⟨by omega, hsx⟩)
      refine ⟨σ', ?_⟩
      unfold pickL
      exact u
    | some b =>
      obtain ⟨b1, b2⟩ := hb b rfl
      rw [show encO (some b) = nI b from rfl, if_neg (nI_pos (by omega)), r_gainOf hr ok hth (by omega) hsx, r_gainOf hr ok hth (by omega) b2]
      simp only [obs_eq]
      unfold pickL
      by_cases q : gn v th s ≤ gn v th b
      · rw [if_pos q, if_pos q]
        exact go (some b) (fun s' e => by cases e; exact ⟨b1, b2⟩)
      · rw [if_neg q, if_neg q]
        exact go (some s) (fun s' e => by cases e; exact ⟨by omega, hsx⟩)
theorem r_bestOf (hr : RV v σ) (ok : v.OK) (hz : Sv.OK v z) (hw : RW v z σ) (hth : th < v.T) : ∃ σ', mX12_bestOf 233 (nI th) σ = some (encO (bestS v z th), σ') ∧ RV v σ' ∧ RW v z σ' ∧ ∀ a k, ¬ (a = 242 ∨ a = 243) → σ'.1 a k = σ.1 a k := by
  obtain ⟨σ1, s1, s2, s3, s4⟩ := r_nextSwap hr ok hz hw hth (f := 0) (by omega)
  have hl := swl_len (v := v) (z := z) (t := th) ok
  obtain ⟨σ', u⟩ := r_best_L9 ok hz hth (swl v z th) FU 0 none σ1 s2 s3 rfl (by unfold FU; omega) (fun s e => by cases e)
  have e : mX12_bestOf 233 (nI th) σ = some (encO (bestS v z th), σ') := by
    unfold mX12_bestOf
    rw [show (0 : Int32) = nI 0 from rfl, s1]
    exact u
  have F : ∀ a k, ¬ (a = 242 ∨ a = 243) → σ'.1 a k = σ.1 a k := fun a k hn => (fX12_bestOf _ _ _ _ e a k (by unfold MOD_X12_bestOf; omega)).1
  exact ⟨σ', e, rv_sw hr F, rw_sw hw F, F⟩
/-- the class: the place of BEST -/
def Pk (L : List Nat) (x : Int32) : Option Nat → Prop
  | none => x = -1
  | some s => ∃ j, j < 100 ∧ x = nI j ∧ L[j]? = some s
theorem c_pick_L4 {L : List Nat} (hL : L.length ≤ 100) (hA : SLc v th t L σ) : ∀ k n i (x1 : Int32) (b : Option Nat), i + k = L.length → k < n → Pk L x1 b → ∃ r, mX9_pick_L4 t σ n x1 (nI i) = some r ∧ Pk L r (pickL (gn v th) b (L.drop i))
  | 0, n, i, x1, b, hi, hn, hb => by
    obtain ⟨m, rfl, -⟩ := fu_suc hn
    refine ⟨x1, ?_, ?_⟩
    · unfold mX9_pick_L4
      rw [hA.1, if_pos (nI_le (by omega) (by omega))]
    · rw [List.drop_eq_nil_of_le (by omega)]
      unfold pickL
      exact hb
  | k + 1, n, i, x1, b, hi, hn, hb => by
    obtain ⟨m, rfl, hm⟩ := fu_suc hn
    have hil : i < L.length := by omega
    have hgi : L[i]? = some L[i] := List.getElem?_eq_getElem hil
    have hd := List.drop_eq_getElem_cons hil
    generalize L[i] = s at hgi hd
    rw [hd]
    have go := fun x b => c_pick_L4 hL hA k m (i + 1) x b (by omega) (by omega)
    unfold mX9_pick_L4
    simp only [bnd_eq]
    rw [hA.1, if_neg (nI_ge (by omega) (by omega)), nI_1]
    cases b with
    | none =>
      have hx : x1 = -1 := hb
      rw [if_pos hx]
      unfold pickL
      exact go (nI i) (some s) ⟨i, by omega, rfl, hgi⟩
    | some b =>
      obtain ⟨j, j1, j2, j3⟩ := hb
      subst j2
      rw [if_neg (nI_nm1 (by omega)), binn (show i < 100 by omega) (by omega), binn j1 (by omega), if_pos rfl, if_pos rfl, pn_cl (by omega), pn_cl (by omega), (hA.2 i s hgi).2.2.2, (hA.2 j b j3).2.2.2]
      unfold pickL
      by_cases q : gn v th s ≤ gn v th b
      · rw [if_pos q, if_pos q]
        exact go (nI j) (some b) ⟨j, j1, rfl, j3⟩
      · rw [if_neg q, if_neg q]
        exact go (nI i) (some s) ⟨i, by omega, rfl, hgi⟩
theorem c_pick (ok : v.OK) (hA : SLc v th t (swl v z th) σ) : ∃ r, mX9_pick t σ = some r ∧ Pk (swl v z th) r (bestS v z th) := by
  have hl := swl_len (v := v) (z := z) (t := th) ok
  unfold mX9_pick bestS
  have := c_pick_L4 (L := swl v z th) (by omega) hA (swl v z th).length FU 0 (-1) none (by omega) (by unfold FU; omega) rfl
  rw [List.drop_zero] at this
  exact this
/-- the SWAPS of now -/
theorem core_16 (a1 : Int32) (hV : Vof c σ) (hcc : c = 12 ∨ c = 28) (hnow : Inow σ) : ∃ (r : Int32) (σ1 σ2 : St_), mX11_swaps 0 c s a1 σ = some (r, σ1) ∧ mX12_swaps 233 a1 σ1 = some (r, σ2) := by
  obtain ⟨v, ok, hc, hr, h1, h2, h3, h4, -⟩ := hV
  obtain ⟨z, hz, zc, zr, -⟩ := now_of ok h1 h2 h3 h4 hnow
  unfold mX11_swaps mX12_swaps
  rw [c_isThief hc ok]
  rw [obs_eq]
  cases hb : bin a1 v.T
  · refine ⟨-1, σ, σ, rfl, ?_⟩
    rw [r_isThief hr ok, hb]; rfl
  · obtain ⟨th, hth, rfl, -⟩ := bin_iff.mp hb
    obtain ⟨σ1, g1, g2⟩ := c_gather (t := 183) (s := 44) hc ok (by omega) (by omega) (by omega) hz zc hth
    have F : ∀ a k, 233 ≤ a → σ1.1 a k = σ.1 a k := fun a k hn => (fX9_gather _ _ _ _ _ _ g1 a k (by unfold MOD_X9_gather; omega)).1
    have hr1 : RV v σ1 := hr.fr (fun a k q => F a k (by unfold FPr at q; omega))
    obtain ⟨σ2, l1, l2⟩ := r_load ok.N (zr.fr ok.N (fun k _ _ => F 262 k (by omega)))
    have hr2 : RV v σ2 := hr1.fr (fun a k q => (fX12_load _ _ _ l1 a k (by unfold MOD_X12_load; unfold FPr at q; omega)).1)
    obtain ⟨σ3, n1, n2, n3, -⟩ := r_nextSwap hr2 ok hz l2 hth (f := 0) (by omega)
    have loop : ∀ (l : List Nat) n f (a : Nat) (σ : St_), RV v σ → RW v z σ → swF v z th f = l → l.length < n → ∃ σ', mX12_swaps_L23 233 (nI th) n (nI a) (encO l.head?) σ = some (nI (a + l.length), σ') := by
      intro l
      induction l with
      | nil =>
        intro n f a σ hr hw hl hn
        obtain ⟨m, rfl, -⟩ := fu_suc hn
        refine ⟨σ, ?_⟩
        unfold mX12_swaps_L23
        rw [if_pos (by decide)]
        rfl
      | cons s l ih =>
        intro n f a σ hr hw hl hn
        have oH := ok.H
        obtain ⟨m, rfl, hm⟩ := fu_suc hn
        obtain ⟨t1, t2, t3, t4⟩ := swF_tail hl
        obtain ⟨σ1, s1, s2, s3, s4⟩ := r_nextSwap hr ok hz hw hth (f := s + 1) (by omega)
        rw [t1] at s1
        rw [List.length_cons] at hm
        obtain ⟨σ', u⟩ := ih m (s + 1) (a + 1) σ1 s2 s3 t1 (by omega)
        refine ⟨σ', ?_⟩
        unfold mX12_swaps_L23
        rw [show encO (s :: l).head? = nI s from rfl, if_neg (nI_pos (by omega)), nI_1, s1]
        rw [obs_eq]
        rw [nI_1, u, List.length_cons, show a + 1 + l.length = a + (l.length + 1) by omega]
    have hl := swl_len (v := v) (z := z) (t := th) ok
    obtain ⟨σ4, u⟩ := loop (swl v z th) FU 0 0 σ3 n2 n3 rfl (by unfold FU; omega)
    refine ⟨nI (swl v z th).length, σ1, σ4, ?_, ?_⟩
    · rw [if_pos rfl, show 0 + 183 = 183 from rfl, show 0 + 44 = 44 from rfl, g1]
      rw [obs_eq]
      rw [g2.1]
    · rw [r_isThief hr1 ok, hb]
      rw [obs_eq]
      rw [if_pos rfl, l1]
      rw [obs_eq]
      rw [show (0 : Int32) = nI 0 from rfl, n1]
      rw [obs_eq]
      rw [Nat.zero_add] at u
      exact u
end RSWAPS
