/-! what is lawful: the class' side; whether a THEFT can be -/
section LAWS3
variable {σ σ' : St_} {c : Nat} {v : Vw}
theorem c_isLaw_L15 (hc : CV c v σ) (ok : v.OK) {h : Nat} (hh : h < v.H) {x2 x3 x4 x5 x8 x9 : Int32} {k70 : Int32 → Int32 → Option (Bool × St_)} : ∀ k n i (m0 a : Int32), i + k = v.N → k < n → ∃ m : Int32, mX1_isLawful_L15 c σ (nI h) x2 x3 x4 x5 x8 x9 k70 n m0 a (nI i) = k70 m (a + sumI (fun x => if tb x2 x = true then v.sa h x else 0) i k) ∧ ∀ b, b < 6 → tb m b = (tb m0 b || anyF (fun y => tb x2 y && decide (v.kd y = nI b)) i k)
  | 0, n, i, m0, a, hi, hn => by
    have := ok.N
    obtain ⟨m, rfl, -⟩ := fu_suc hn
    refine ⟨m0, ?_, fun b hb => by unfold anyF; rw [Bool.or_false]⟩
    unfold mX1_isLawful_L15 sumI
    rw [hc.N, if_pos (nI_le (by omega) (by omega)), Int32.add_zero]
  | k + 1, n, i, m0, a, hi, hn => by
    have := ok.N
    have := ok.H
    obtain ⟨m, rfl, hm⟩ := fu_suc hn
    obtain ⟨kd, k1, k2⟩ := ok.kd i (by omega)
    have e50 : nI h * 10 + nI i = nI (10 * h + i) := by rw [show (10 : Int32) = nI 10 from rfl, nI_mul, nI_add, Nat.mul_comm]
    by_cases q : tb x2 i = true
    · obtain ⟨m', s1, s2⟩ := c_isLaw_L15 hc ok hh (x2 := x2) (x3 := x3) (x4 := x4) (x5 := x5) (x8 := x8) (x9 := x9) (k70 := k70) k m (i + 1) (m0 ||| ((1 : Int32) <<< (nI kd &&& 31))) (a + v.sa h i) (by omega) (by omega)
      refine ⟨m', ?_, fun b hb => ?_⟩
      · unfold mX1_isLawful_L15 sumI
        dsimp only [bnd]
        rw [hc.N, if_neg (nI_ge (by omega) (by omega)), tb_get _ (by omega), nI_1, e50, binn (show i < 10 by omega) (by omega), pn_cl (show i < 2 ^ 31 by omega), hc.kd i (by omega), k2, binn (by omega) (by omega), pn_cl (by omega), hc.sa h hh i (by omega)]
        simp only [q, if_true, z10, if_false]
        rw [s1, Int32.add_assoc]
      · rw [s2 b hb, tb_or, tb_shl (by omega) (by omega)]
        conv => rhs; unfold anyF
        have e : decide (b = kd) = decide (v.kd i = nI b) := by
          rw [decide_eq_decide, k2]
          constructor
          · intro e; rw [e]
          · intro e; exact (pn_inj (by omega) (by omega) e).symm
        rw [e, q, Bool.true_and, Bool.or_assoc]
    · obtain ⟨m', s1, s2⟩ := c_isLaw_L15 hc ok hh (x2 := x2) (x3 := x3) (x4 := x4) (x5 := x5) (x8 := x8) (x9 := x9) (k70 := k70) k m (i + 1) m0 a (by omega) (by omega)
      refine ⟨m', ?_, fun b hb => ?_⟩
      · unfold mX1_isLawful_L15 sumI
        dsimp only [bnd]
        rw [hc.N, if_neg (nI_ge (by omega) (by omega)), tb_get _ (by omega), nI_1]
        simp only [q, if_true, if_false, Bool.false_eq_true, Int32.zero_add]
        exact s1
      · rw [s2 b hb]
        conv => rhs; unfold anyF
        simp [q]
theorem c_isLaw_L73 (hc : CV c v σ) (ok : v.OK) {h : Nat} (hh : h < v.H) {x2 x3 x4 x5 x6 x7 : Int32} {k131 : Int32 → Int32 → Option (Bool × St_)} (g : Nat → Int32) (hg : ∀ x, x < v.N → (x6 >>> (v.kd x &&& 31)) &&& (1 : Int32) = g x) : ∀ k n i (a b : Int32), i + k = v.N → k < n → mX1_isLawful_L73 c σ (nI h) x2 x3 x4 x5 x6 x7 k131 n a b (nI i) = k131 (a + sumI (fun x => if tb x3 x = true then g x else 0) i k) (b + sumI (fun x => if tb x3 x = true then v.sa h x else 0) i k)
  | 0, n, i, a, b, hi, hn => by
    have := ok.N
    obtain ⟨m, rfl, -⟩ := fu_suc hn
    unfold mX1_isLawful_L73 sumI
    rw [hc.N, if_pos (nI_le (by omega) (by omega)), Int32.add_zero, Int32.add_zero]
  | k + 1, n, i, a, b, hi, hn => by
    have := ok.N
    have := ok.H
    obtain ⟨m, rfl, hm⟩ := fu_suc hn
    have ih := fun a b => c_isLaw_L73 hc ok hh (x2 := x2) (x3 := x3) (x4 := x4) (x5 := x5) (x6 := x6) (x7 := x7) (k131 := k131) g hg k m (i + 1) a b (by omega) (by omega)
    have e50 : nI h * 10 + nI i = nI (10 * h + i) := by rw [show (10 : Int32) = nI 10 from rfl, nI_mul, nI_add, Nat.mul_comm]
    unfold mX1_isLawful_L73 sumI
    dsimp only [bnd]
    rw [hc.N, if_neg (nI_ge (by omega) (by omega)), tb_get _ (by omega), nI_1, e50, binn (show i < 10 by omega) (by omega), pn_cl (show i < 2 ^ 31 by omega), hc.kd i (by omega), hg i (by omega), binn (by omega) (by omega), pn_cl (by omega), hc.sa h hh i (by omega), ih, ih]
    by_cases q : tb x3 i = true
    · simp only [q, if_true, z10, if_false, Int32.add_assoc]
    · simp only [q, if_true, if_false, Bool.false_eq_true, Int32.zero_add]
theorem c_isLawful (hc : CV c v σ) (ok : v.OK) {h : Nat} (hh : h < v.H) {m1 m2 : Nat} (h1 : m1 < 1024) (h2 : m2 < 1024) (hr sk : Int32) : ∃ σ', mX1_isLawful c (nI h) (nI m1) (nI m2) hr sk σ = some (aLaw v h (nI m1) (nI m2) hr sk, σ') := by
  have := ok.N
  unfold mX1_isLawful
  obtain ⟨m, s1, s2⟩ := c_isLaw_L15 hc ok hh (x2 := nI m1) (x3 := nI m2) (x4 := hr) (x5 := sk) (x8 := 0) (x9 := 0) (k70 := _) v.N FU 0 0 0 (by omega) (by unfold FU; omega)
  have hg : ∀ x, x < v.N → (m >>> (v.kd x &&& 31)) &&& (1 : Int32) = if kin v (nI m1) x = true then 1 else 0 := by
    intro x hx
    obtain ⟨kd, k1, k2⟩ := ok.kd x hx
    rw [k2, tb_get _ (by omega), s2 kd k1, tb_0, Bool.false_or]
    unfold kin
    rw [k2]
  have s3 := c_isLaw_L73 hc ok hh (x2 := nI m1) (x3 := nI m2) (x4 := hr) (x5 := sk) (x6 := m) (x7 := 0 + sumI (fun x => if tb (nI m1) x = true then v.sa h x else 0) 0 v.N) (k131 := fun (y21 : Int32) (y22 : Int32) => ((mJ6_bitCount_0f7a4 (nI m1) σ).bind fun r23 => ((mJ6_bitCount_0f7a4 (nI m2) σ).bind fun r24 => ((mX3_allows (c + 11) (0 + sumI (fun x => if tb (nI m1) x = true then v.sa h x else 0) 0 v.N) y22 r23 r24 y21 hr sk σ).bind fun r25 => (some (r25.1, r25.2)))))) (fun x => if kin v (nI m1) x = true then 1 else 0) hg v.N FU 0 0 0 (by omega) (by unfold FU; omega)
  refine Exists.imp (fun σ' q => s1.trans (s3.trans q)) ?_
  rw [j_bitCount h1, j_bitCount h2, Int32.zero_add, Int32.zero_add, Int32.zero_add]
  dsimp only [Option.bind]
  obtain ⟨σ', e⟩ := c_allows hc ok (aS v h (nI m1)) (aS v h (nI m2)) (mem (nI m1)) (mem (nI m2)) (aAl v (nI m1) (nI m2)) hr sk
  refine ⟨σ', ?_⟩
  have e' : mX3_allows (c + 11) (sumI (fun x => if tb (nI m1) x = true then v.sa h x else 0) 0 v.N) (sumI (fun x => if tb (nI m2) x = true then v.sa h x else 0) 0 v.N) (mem (nI m1)) (mem (nI m2)) (sumI (fun x => if tb (nI m2) x = true then (if kin v (nI m1) x = true then 1 else 0) else 0) 0 v.N) hr sk σ = some (aLaw v h (nI m1) (nI m2) hr sk, σ') := e
  rw [e']
/-! one THING for one or two -/
def o2 {α : Type} (lo : Option Nat) (a : α) (b : Nat → α) : α := match lo with
  | none => a
  | some z => b z
def loI : Option Nat → Int32
  | none => -1
  | some y => nI y
def psn (hi : Nat) : Option Nat → Nat
  | none => 2 ^ hi
  | some y => 2 ^ hi ||| 2 ^ y
def pset (hi : Nat) (lo : Option Nat) : Int32 := nI (psn hi lo)
theorem tb_bit {x y : Nat} (hx : x < 31) : tb (nI (2 ^ x)) y = decide (y = x) := by
  rw [tb_nI, Nat.testBit_two_pow]
  by_cases e : y = x
  · subst e; simp; omega
  · have e2 : ¬ x = y := fun q => e q.symm
    simp [e, e2]
theorem tb_pset {hi y : Nat} {lo : Option Nat} (h : hi < 31) (hl : ∀ z, lo = some z → z < 31) : tb (pset hi lo) y = (decide (y = hi) || decide (lo = some y)) := by
  cases lo with
  | none => show tb (nI (2 ^ hi)) y = _; rw [tb_bit h]; simp
  | some z =>
    show tb (nI (2 ^ hi ||| 2 ^ z)) y = _
    rw [← nI_or, tb_or, tb_bit h, tb_bit (hl z rfl)]
    congr 1
    rw [decide_eq_decide]
    constructor
    · intro e; rw [e]
    · intro e; cases e; rfl
theorem psn_lt {hi : Nat} {lo : Option Nat} (h : hi < 10) (hl : ∀ z, lo = some z → z < 10) : psn hi lo < 1024 := by
  have e : ∀ z : Nat, z < 10 → 2 ^ z < 2 ^ 10 := fun z hz => Nat.pow_lt_pow_right (by omega) hz
  cases lo with
  | none => exact e hi h
  | some z => exact Nat.or_lt_two_pow (e hi h) (e z (hl z rfl))
theorem sum_bit {f : Nat → Int32} {N x : Nat} (hx : x < N) (hN : N ≤ 10) : sumI (fun y => if tb (nI (2 ^ x)) y = true then f y else 0) 0 N = f x := by
  rw [sumI_one (y := x) (by omega) (by omega)]
  · simp [tb_bit (show x < 31 by omega)]
  · intro y _ _ hne
    simp [tb_bit (show x < 31 by omega), hne]
theorem sum_pset {f : Nat → Int32} {N hi : Nat} {lo : Option Nat} (h : hi < N) (hl : ∀ z, lo = some z → z < N ∧ z ≠ hi) (hN : N ≤ 10) : sumI (fun y => if tb (pset hi lo) y = true then f y else 0) 0 N = o2 lo (f hi) (fun z => f hi + f z) := by
  cases lo with
  | none => exact sum_bit h hN
  | some z =>
    obtain ⟨h1, h2⟩ := hl z rfl
    have tbp : ∀ y, tb (pset hi (some z)) y = (decide (y = hi) || decide (some z = some y)) := fun y => tb_pset (by omega) (fun w hw => by cases hw; omega)
    rw [sumI_two (y := hi) (z := z) (by omega) (by omega) (by omega) (by omega) (fun e => h2 e.symm)]
    · simp [tbp, o2]
    · intro y _ _ n1 n2
      have n3 : ¬ z = y := fun e => n2 e.symm
      simp [tbp, n1, n3]
theorem kin_bit (ok : v.OK) {x y : Nat} (hx : x < v.N) : kin v (nI (2 ^ x)) y = decide (v.kd x = v.kd y) := by
  have := ok.N
  unfold kin
  rw [Bool.eq_iff_iff, anyF_iff, decide_eq_true_eq]
  constructor
  · rintro ⟨w, -, -, hw⟩
    rw [tb_bit (by omega)] at hw
    simp only [Bool.and_eq_true, decide_eq_true_eq] at hw
    rw [← hw.1]; exact hw.2
  · intro e
    exact ⟨x, by omega, by omega, by rw [tb_bit (by omega)]; simp [e]⟩
theorem aLaw_ps (ok : v.OK) {h x hi : Nat} {lo : Option Nat} (hx : x < v.N) (h1 : hi < v.N) (hl : ∀ z, lo = some z → z < v.N ∧ z ≠ hi) (hr sk : Int32) : aLaw v h (nI (2 ^ x)) (pset hi lo) hr sk = o2 lo (lawEv v (v.sa h x) (v.sa h hi) 1 1 (if v.kd hi = v.kd x then 1 else 0) hr sk) (fun z => lawEv v (v.sa h x) (v.sa h hi + v.sa h z) 1 2 ((if v.kd hi = v.kd x then 1 else 0) + (if v.kd z = v.kd x then 1 else 0)) hr sk) := by
  have oN := ok.N
  have s1 : aS v h (nI (2 ^ x)) = v.sa h x := sum_bit hx oN
  have s2 : aS v h (pset hi lo) = o2 lo (v.sa h hi) (fun z => v.sa h hi + v.sa h z) := sum_pset (f := fun y => v.sa h y) h1 hl oN
  have s3 : mem (nI (2 ^ x)) = 1 := sum_bit (f := fun _ => 1) (N := 10) (by omega) (by omega)
  have s4 : mem (pset hi lo) = o2 lo 1 (fun _ => (1 : Int32) + 1) := sum_pset (f := fun _ => 1) (N := 10) (by omega) (fun z hz => ⟨by have := (hl z hz).1; omega, (hl z hz).2⟩) (by omega)
  have s5 : aAl v (nI (2 ^ x)) (pset hi lo) = o2 lo (if v.kd hi = v.kd x then 1 else 0) (fun z => (if v.kd hi = v.kd x then 1 else 0) + (if v.kd z = v.kd x then 1 else 0)) := by
    have e : aAl v (nI (2 ^ x)) (pset hi lo) = sumI (fun y => if tb (pset hi lo) y = true then (if v.kd y = v.kd x then 1 else 0) else 0) 0 v.N := by
      unfold aAl
      apply sumI_congr
      intro y _ _
      rw [kin_bit ok hx]
      by_cases q : v.kd x = v.kd y
      · simp [q]
      · have q2 : ¬ v.kd y = v.kd x := fun e => q e.symm
        simp [q, q2]
    rw [e]
    exact sum_pset (f := fun y => if v.kd y = v.kd x then (1 : Int32) else 0) h1 hl oN
  unfold aLaw
  rw [s1, s2, s3, s4, s5]
  cases lo with
  | none => rfl
  | some z => rfl
theorem c_isLawfulFor (hc : CV c v σ) (ok : v.OK) {h x hi : Nat} {lo : Option Nat} (hh : h < v.H) (hx : x < v.N) (h1 : hi < v.N) (hl : ∀ z, lo = some z → z < v.N ∧ z ≠ hi) (hr sk : Int32) : ∃ σ', mX1_isLawfulFor c (nI h) (nI x) (nI hi) (loI lo) hr sk σ = some (aLaw v h (nI (2 ^ x)) (pset hi lo) hr sk, σ') := by
  have oN := ok.N
  have oH := ok.H
  have e50 : ∀ y, nI h * 10 + nI y = nI (10 * h + y) := fun y => by rw [show (10 : Int32) = nI 10 from rfl, nI_mul, nI_add, Nat.mul_comm]
  have al : ∀ p1 p2 p3 p4 p5 : Int32, ∃ σ', ((mX3_allows (c + 11) p1 p2 p3 p4 p5 hr sk σ).bind fun r16 => (some (r16.1, r16.2))) = some (lawEv v p1 p2 p3 p4 p5 hr sk, σ') := by
    intro p1 p2 p3 p4 p5
    obtain ⟨σ', e⟩ := c_allows hc ok p1 p2 p3 p4 p5 hr sk
    exact ⟨σ', by rw [e]; rfl⟩
  rw [aLaw_ps ok hx h1 hl]
  unfold mX1_isLawfulFor
  dsimp only [bnd]
  rw [e50, e50, binn (show hi < 10 by omega) (by omega), binn (show x < 10 by omega) (by omega), pn_cl (show hi < 2 ^ 31 by omega), pn_cl (show x < 2 ^ 31 by omega), hc.kd hi h1, hc.kd x hx, binn (show 10 * h + hi < 50 by omega) (by omega), binn (show 10 * h + x < 50 by omega) (by omega), pn_cl (show 10 * h + hi < 2 ^ 31 by omega), pn_cl (show 10 * h + x < 2 ^ 31 by omega), hc.sa h hh hi h1, hc.sa h hh x hx]
  cases lo with
  | none =>
    simp only [loI, o2, if_true]
    by_cases q : v.kd hi = v.kd x
    · simp only [q, if_true]
      exact al _ _ _ _ _
    · simp only [q, if_false]
      exact al _ _ _ _ _
  | some z =>
    obtain ⟨z1, z2⟩ := hl z rfl
    simp only [loI, o2, nI_nm1 (show z < 2 ^ 31 by omega), if_true, if_false]
    rw [e50, binn (show z < 10 by omega) (by omega), pn_cl (show z < 2 ^ 31 by omega), hc.kd z z1, binn (show 10 * h + z < 50 by omega) (by omega), pn_cl (show 10 * h + z < 2 ^ 31 by omega), hc.sa h hh z z1]
    by_cases q : v.kd hi = v.kd x <;> by_cases q2 : v.kd z = v.kd x <;> simp only [q, q2, if_true, if_false] <;> exact al _ _ _ _ _
/-! whether it can be -/
def aCan (v : Vw) (z : Sv) (t h : Nat) (tk lf : Int32) : Bool := !tb z.jl t && decide (aW v ((hset v z (5 + t) &&& (lf ^^^ (-1))) ||| tk) ≤ v.sk t) && decide (aMin v t h (mem tk + mem lf) ≤ 15)
theorem c_canBe (hc : CV c v σ) (ok : v.OK) {z : Sv} {s : Nat} (hs : CS v s z σ) {t h m1 m2 : Nat} (ht : t < v.T) (hh : h < v.H) (h1 : m1 < 1024) (h2 : m2 < 1024) : mX1_canBe c s (nI t) (nI h) (nI m1) (nI m2) σ = some (aCan v z t h (nI m1) (nI m2)) := by
  have oT := ok.T
  unfold mX1_canBe aCan
  rw [hs.jl, tb_get _ (by omega), j_bitCount h1, j_bitCount h2]
  dsimp only [Option.bind, bnd]
  rw [show (5 : Int32) + nI t = nI (5 + t) from nI_add 5 t, binn (by omega) (by omega), pn_cl (by omega), hs.held _ (by omega), c_minutesOf hc ok ht hh, c_weightOfSet hc ok, binn (by omega) (by omega), pn_cl (by omega), hc.sk t ht]
  generalize aW v ((hset v z (5 + t) &&& (nI m2 ^^^ (-1))) ||| nI m1) = W
  by_cases q : tb z.jl t = true
  · simp [q]
  · by_cases q1 : (15 : Int32) < aMin v t h (mem (nI m1) + mem (nI m2))
    · simp [q, q1, Int32.not_le.mpr q1]
    · by_cases q2 : v.sk t < W
      · simp [q, q1, q2, Int32.not_lt.mp q1, Int32.not_le.mpr q2]
      · simp [q, q1, q2, Int32.not_lt.mp q1, Int32.not_lt.mp q2]
theorem r_canBe (hr : RV v σ) (ok : v.OK) {z : Sv} (hz : Sv.OK v z) (hw : RW v z σ) {t h : Nat} (ht : t < v.T) (hh : h < v.H) (tk lf : Int32) : mX12_canBe 233 (nI t) (nI h) tk lf σ = some (aCan v z t h tk lf) := by
  have oT := ok.T
  unfold mX12_canBe aCan
  rw [hw.jl, tb_get _ (by omega), wc_thief (by omega), r_hasAt hr ok hz hw (by omega), r_members, r_members, binn (by omega) (by omega), pn_cl (by omega), show 233 + 26 = 259 from rfl, hr.sk t ht]
  dsimp only [Option.bind, bnd]
  rw [r_weightOf hr ok, r_minutesOf hr ok ht hh]
  generalize aW v ((hset v z (5 + t) &&& (lf ^^^ (-1))) ||| tk) = W
  by_cases q : tb z.jl t = true
  · simp [q]
  · by_cases q1 : (15 : Int32) < aMin v t h (mem tk + mem lf)
    · by_cases q2 : v.sk t < W
      · simp [q, q2, Int32.not_le.mpr q2]
      · simp [q, q1, q2, Int32.not_le.mpr q1]
    · by_cases q2 : v.sk t < W
      · simp [q, q2, Int32.not_le.mpr q2]
      · simp [q, q1, q2, Int32.not_lt.mp q1, Int32.not_lt.mp q2]
end LAWS3
