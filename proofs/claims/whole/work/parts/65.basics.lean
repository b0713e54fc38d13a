section BASICS
variable {σ σ' : St_} {c t dr : Nat} {v : Vw}
theorem nI_mul (a b : Nat) : nI a * nI b = nI (a * b) := (Int32.ofNat_mul a b).symm
theorem bin_iff {p : Int32} {n : Nat} : bin p n = true ↔ ∃ i, i < n ∧ p = nI i ∧ i < 2 ^ 31 := by
  unfold bin
  by_cases h : p < 0
  · simp only [h, decide_true, Bool.not_true, Bool.false_and, Bool.false_eq_true, false_iff]
    rintro ⟨i, hi, e, h31⟩
    subst e
    exact absurd h (nI_pos h31)
  · simp [h]
    constructor
    · intro q
      exact ⟨p.toNatClampNeg, q, pn_of (nn_of h), pn_lt31 p⟩
    · rintro ⟨i, hi, rfl, h31⟩
      rw [pn_cl h31]
      exact hi
theorem binn {i n : Nat} (h : i < n) (hi : i < 2 ^ 31) : bin (nI i) n = true := bin_iff.mpr ⟨i, h, rfl, hi⟩
theorem bin_nlt {p : Int32} {n : Nat} (hn : n < 2 ^ 31) : bin p n = (if p < 0 then false else if nI n ≤ p then false else true) := by
  unfold bin
  by_cases h : p < 0
  · simp [h]
  · have e := pn_of (nn_of h)
    have h31 := pn_lt31 p
    generalize p.toNatClampNeg = i at e h31
    subst e
    rw [if_neg h]
    simp only [h, decide_false, Bool.not_false, Bool.true_and]
    by_cases q : i < n
    · rw [if_neg (nI_ge q hn)]; simp [q]
    · rw [if_pos (nI_le (by omega) h31)]; simp [q]
theorem rec1 {α : Type} (a : Bool) (o : Option α) : ((some a).bind fun r => o) = o := rfl
theorem c_isThing (hc : CV c v σ) (ok : v.OK) (p : Int32) : mX11_isThing t c dr p σ = some (bin p v.N) := by
  have := ok.N
  unfold mX11_isThing
  rw [hc.N, bin_nlt (by omega)]
  by_cases h1 : p < 0 <;> by_cases h2 : nI v.N ≤ p <;> simp [h1, h2]
theorem c_isHouse (hc : CV c v σ) (ok : v.OK) (p : Int32) : mX11_isHouse t c dr p σ = some (bin p v.H) := by
  have := ok.H
  unfold mX11_isHouse
  rw [hc.H, bin_nlt (by omega)]
  by_cases h1 : p < 0 <;> by_cases h2 : nI v.H ≤ p <;> simp [h1, h2]
theorem c_isThief (hc : CV c v σ) (ok : v.OK) (p : Int32) : mX11_isThief t c dr p σ = some (bin p v.T) := by
  have := ok.T
  unfold mX11_isThief
  rw [hc.T, bin_nlt (by omega)]
  by_cases h1 : p < 0 <;> by_cases h2 : nI v.T ≤ p <;> simp [h1, h2]
theorem r_isThing (hr : RV v σ) (ok : v.OK) (p : Int32) : mX12_isThing 233 p σ = some (bin p v.N) := by
  have := ok.N
  unfold mX12_isThing
  rw [hr.N, isIn_eq, pn_in (by omega)]
  rfl
theorem r_isHouse (hr : RV v σ) (ok : v.OK) (p : Int32) : mX12_isHouse 233 p σ = some (bin p v.H) := by
  have := ok.H
  unfold mX12_isHouse
  rw [hr.H, isIn_eq, pn_in (by omega)]
  rfl
theorem r_isThief (hr : RV v σ) (ok : v.OK) (p : Int32) : mX12_isThief 233 p σ = some (bin p v.T) := by
  have := ok.T
  unfold mX12_isThief
  rw [hr.T, isIn_eq, pn_in (by omega)]
  rfl
/-- a HOLDER told as number and sort -/
def isHol (v : Vw) (p : Int32) (b : Bool) : Bool := if b = true then bin p v.T else bin p v.H
def holIx (h : Nat) (b : Bool) : Nat := if b = true then 5 + h else h
theorem r_isHolder (hr : RV v σ) (ok : v.OK) (p : Int32) (b : Bool) : mX12_isHolder 233 p b σ = some (isHol v p b) := by
  unfold mX12_isHolder isHol
  rw [r_isThief hr ok, r_isHouse hr ok]
  cases b <;> simp
theorem isHol_of (ok : v.OK) {p : Int32} {b : Bool} (h : isHol v p b = true) : ∃ i, p = nI i ∧ (if b = true then i < v.T else i < v.H) ∧ holIx i b < 9 ∧ i < 5 := by
  have := ok.T
  have := ok.H
  unfold isHol at h
  cases b
  · obtain ⟨i, hi, e, -⟩ := bin_iff.mp h
    exact ⟨i, e, by simpa using hi, by simp [holIx]; omega, by omega⟩
  · obtain ⟨i, hi, e, -⟩ := bin_iff.mp h
    exact ⟨i, e, by simpa using hi, by simp [holIx]; omega, by omega⟩
theorem c_holderIndex (hc : CV c v σ) (ok : v.OK) (p : Int32) (b : Bool) : mX11_holderIndex t c dr p b σ = some (if isHol v p b = true then (if b = true then 5 + p else p) else -1) := by
  unfold mX11_holderIndex isHol
  rw [c_isThief hc ok, c_isHouse hc ok]
  cases b
  · cases h : bin p v.H <;> simp
  · cases h : bin p v.T <;> simp
theorem hol_nI {i : Nat} {b : Bool} : (if b = true then (5 : Int32) + nI i else nI i) = nI (holIx i b) := by
  cases b
  · rfl
  · exact nI_add 5 i
theorem nI_nm1 {i : Nat} (h : i < 2 ^ 31) : ¬ nI i = (-1 : Int32) := by
  intro e
  have := congrArg Int32.toInt e
  rw [nI_toInt h] at this
  have z : (-1 : Int32).toInt = -1 := rfl
  rw [z] at this
  omega
theorem c_valueTo (hc : CV c v σ) (ok : v.OK) {h x : Nat} (hh : h < 9) (hx : x < v.N) : mX1_valueTo c (nI h) (nI x) σ = some (v.va h x) := by
  have := ok.N
  unfold mX1_valueTo
  dsimp only [bnd]
  rw [show (10 : Int32) = nI 10 from rfl, nI_mul, nI_add, if_pos (binn (by omega) (by omega)), pn_cl (by omega), Nat.mul_comm, hc.va h hh x hx]
theorem r_trueWorth (hr : RV v σ) (ok : v.OK) {x i : Nat} {b : Bool} (hx : x < v.N) (hi : holIx i b < 9) : mX12_trueWorth 233 (nI x) (nI i) b σ = some (v.va (holIx i b) x) := by
  have := ok.N
  have e := hr.va _ hi x hx
  unfold mX12_trueWorth bnd
  have z : (if b = true then (9 : Int32) * nI x + (5 + nI i) else 9 * nI x + nI i) = nI (9 * x + holIx i b) := by
    cases b
    · rw [show (9 : Int32) = nI 9 from rfl, nI_mul]
      exact nI_add _ _
    · rw [show (9 : Int32) = nI 9 from rfl, show (5 : Int32) = nI 5 from rfl, nI_mul, nI_add, nI_add]
      rfl
  have main : ∀ w : Int32, w = nI (9 * x + holIx i b) → (if bin w 90 = true then (if σ.1 (233 + 28) w.toNatClampNeg = -1 then if bin (nI x) 10 = true then some (σ.1 (233 + 22) (nI x).toNatClampNeg) else none else some (σ.1 (233 + 28) w.toNatClampNeg)) else none) = some (v.va (holIx i b) x) := by
    intro w hw
    subst hw
    rw [if_pos (binn (by omega) (by omega)), pn_cl (by omega), pn_cl (by omega), binn (by omega) (by omega), ← e]
    by_cases q : σ.1 261 (9 * x + holIx i b) = -1
    · rw [if_pos q, if_pos rfl, if_pos q]
    · rw [if_neg q, if_neg q]
  cases b
  · exact main _ z
  · exact main _ z
theorem r_worthTo (hr : RV v σ) (ok : v.OK) {x h : Nat} (hx : x < v.N) (hh : h < v.H) : mX12_worthTo 233 (nI x) (nI h) σ = some (v.sa h x) := by
  have := ok.H
  have e := hr.sa h hh x hx
  unfold mX12_worthTo bnd
  rw [r_trueWorth hr ok hx (by simp [holIx]; omega)]
  rw [← e]
  by_cases q1 : nI x = σ.1 233 64
  · by_cases q2 : nI h = σ.1 233 65
    · simp [q1, q2]
    · simp [q1, q2, holIx]
  · simp [q1, holIx]
/-- sums over a set -/
def aW (v : Vw) (s : Int32) : Int32 := sumI (fun x => if tb s x = true then v.wt x else 0) 0 v.N
def aV (v : Vw) (h : Nat) (s : Int32) : Int32 := sumI (fun x => if tb s x = true then v.va h x else 0) 0 v.N
def aS (v : Vw) (h : Nat) (s : Int32) : Int32 := sumI (fun x => if tb s x = true then v.sa h x else 0) 0 v.N
def mem (s : Int32) : Int32 := sumI (fun x => if tb s x = true then 1 else 0) 0 10
theorem fu_suc {n k : Nat} (h : k < n) : ∃ m, n = m + 1 ∧ k ≤ m := ⟨n - 1, by omega, by omega⟩
theorem c_wos_L (hc : CV c v σ) (ok : v.OK) (s : Int32) : ∀ k n i (a : Int32), i + k = v.N → k < n → mX1_weightOfSet_L4 c σ s n a (nI i) = some (a + sumI (fun x => if tb s x = true then v.wt x else 0) i k)
  | 0, n, i, a, hi, hn => by
    have := ok.N
    obtain ⟨m, rfl, -⟩ := fu_suc hn
    unfold mX1_weightOfSet_L4 sumI
    rw [hc.N, if_pos (nI_le (by omega) (by omega)), Int32.add_zero]
  | k + 1, n, i, a, hi, hn => by
    have := ok.N
    obtain ⟨m, rfl, hm⟩ := fu_suc hn
    have ih := fun a => c_wos_L hc ok s k m (i + 1) a (by omega) (by omega)
    unfold mX1_weightOfSet_L4 sumI
    dsimp only [bnd]
    rw [hc.N, if_neg (nI_ge (by omega) (by omega)), tb_get _ (by omega), nI_1, binn (by omega) (by omega), pn_cl (by omega), hc.wt i (by omega), ih, ih]
    by_cases q : tb s i = true <;> simp [q, Int32.add_assoc]
theorem c_weightOfSet (hc : CV c v σ) (ok : v.OK) (s : Int32) : mX1_weightOfSet c s σ = some (aW v s) := by
  have := ok.N
  unfold mX1_weightOfSet
  rw [show (0 : Int32) = nI 0 from rfl, c_wos_L hc ok s v.N FU 0 _ (by omega) (by unfold FU; omega)]
  exact congrArg some (Int32.zero_add _)
theorem r_wo_L (hr : RV v σ) (ok : v.OK) (s : Int32) : ∀ k n i (a : Int32), i + k = v.N → k < n → mX12_weightOf_L4 233 σ s n a (nI i) = some (a + sumI (fun x => if tb s x = true then v.wt x else 0) i k)
  | 0, n, i, a, hi, hn => by
    have := ok.N
    obtain ⟨m, rfl, -⟩ := fu_suc hn
    unfold mX12_weightOf_L4 sumI
    rw [hr.N, if_pos (nI_le (by omega) (by omega)), Int32.add_zero]
  | k + 1, n, i, a, hi, hn => by
    have := ok.N
    obtain ⟨m, rfl, hm⟩ := fu_suc hn
    have ih := fun a => r_wo_L hr ok s k m (i + 1) a (by omega) (by omega)
    unfold mX12_weightOf_L4 sumI
    dsimp only [bnd]
    rw [hr.N, if_neg (nI_ge (by omega) (by omega)), tb_get _ (by omega), nI_1, binn (by omega) (by omega), pn_cl (by omega), show 233 + 21 = 254 from rfl, hr.wt i (by omega), ih, ih]
    by_cases q : tb s i = true <;> simp [q, Int32.add_assoc]
theorem r_weightOf (hr : RV v σ) (ok : v.OK) (s : Int32) : mX12_weightOf 233 s σ = some (aW v s) := by
  have := ok.N
  unfold mX12_weightOf
  rw [show (0 : Int32) = nI 0 from rfl, r_wo_L hr ok s v.N FU 0 _ (by omega) (by unfold FU; omega)]
  exact congrArg some (Int32.zero_add _)
theorem c_vos_L (hc : CV c v σ) (ok : v.OK) {h : Nat} (hh : h < 9) (s : Int32) : ∀ k n i (a : Int32), i + k = v.N → k < n → mX1_valueOfSet_L5 c σ (nI h) s n a (nI i) = some (a + sumI (fun x => if tb s x = true then v.va h x else 0) i k)
  | 0, n, i, a, hi, hn => by
    have := ok.N
    obtain ⟨m, rfl, -⟩ := fu_suc hn
    unfold mX1_valueOfSet_L5 sumI
    rw [hc.N, if_pos (nI_le (by omega) (by omega)), Int32.add_zero]
  | k + 1, n, i, a, hi, hn => by
    have := ok.N
    obtain ⟨m, rfl, hm⟩ := fu_suc hn
    have ih := fun a => c_vos_L hc ok hh s k m (i + 1) a (by omega) (by omega)
    unfold mX1_valueOfSet_L5 sumI
    dsimp only [bnd]
    rw [hc.N, if_neg (nI_ge (by omega) (by omega)), tb_get _ (by omega), nI_1, c_valueTo hc ok hh (by omega), ih]
    dsimp only [Option.bind]
    rw [ih]
    by_cases q : tb s i = true <;> simp [q, Int32.add_assoc]
theorem c_valueOfSet (hc : CV c v σ) (ok : v.OK) {h : Nat} (hh : h < 9) (s : Int32) : mX1_valueOfSet c (nI h) s σ = some (aV v h s) := by
  have := ok.N
  unfold mX1_valueOfSet
  rw [show (0 : Int32) = nI 0 from rfl, c_vos_L hc ok hh s v.N FU 0 _ (by omega) (by unfold FU; omega)]
  exact congrArg some (Int32.zero_add _)
theorem r_mem_L (s : Int32) : ∀ k n i (a : Int32), i + k = 10 → k < n → mX12_members_L4 σ s n a (nI i) = some (a + sumI (fun x => if tb s x = true then 1 else 0) i k)
  | 0, n, i, a, hi, hn => by
    obtain ⟨m, rfl, -⟩ := fu_suc hn
    unfold mX12_members_L4 sumI
    rw [show (10 : Int32) = nI 10 from rfl, if_pos (nI_le (by omega) (by omega)), Int32.add_zero]
  | k + 1, n, i, a, hi, hn => by
    obtain ⟨m, rfl, hm⟩ := fu_suc hn
    have ih := fun a => r_mem_L s k m (i + 1) a (by omega) (by omega)
    unfold mX12_members_L4 sumI
    dsimp only [bnd]
    rw [show (10 : Int32) = nI 10 from rfl, if_neg (nI_ge (by omega) (by omega)), tb_get _ (by omega), nI_1, ih]
    by_cases q : tb s i = true <;> simp [q, Int32.add_assoc]
theorem r_members (s : Int32) : mX12_members s σ = some (mem s) := by
  unfold mX12_members
  rw [show (0 : Int32) = nI 0 from rfl, r_mem_L s 10 FU 0 _ (by omega) (by unfold FU; omega)]
  exact congrArg some (Int32.zero_add _)
theorem bitCount_dec : ∀ m : Fin 1024, mJ6_bitCount_0f7a4 (nI m.1) (fun _ _ => 0, fun _ _ => 0) = some (mem (nI m.1)) := by decide +kernel
theorem j_bitCount {m : Nat} (h : m < 1024) : mJ6_bitCount_0f7a4 (nI m) σ = some (mem (nI m)) := bitCount_dec ⟨m, h⟩
/-- how long, seen, whether it can be -/
def aMin (v : Vw) (t h : Nat) (n : Int32) : Int32 := (if (1 : Int32) < v.lk h - v.sl t then v.lk h - v.sl t else 1) + 2 * n
theorem c_minutesOf (hc : CV c v σ) (ok : v.OK) {t h : Nat} (ht : t < v.T) (hh : h < v.H) (n : Int32) : mX1_minutesOf c (nI t) (nI h) n σ = some (aMin v t h n) := by
  have := ok.T
  have := ok.H
  unfold mX1_minutesOf aMin
  dsimp only [bnd]
  rw [binn (by omega) (by omega), binn (by omega) (by omega), pn_cl (by omega), pn_cl (by omega), hc.lk h hh, hc.sl t ht]
  rfl
theorem r_minutesOf (hr : RV v σ) (ok : v.OK) {t h : Nat} (ht : t < v.T) (hh : h < v.H) (n : Int32) : mX12_minutesOf 233 (nI t) (nI h) n σ = some (aMin v t h n) := by
  have := ok.T
  have := ok.H
  unfold mX12_minutesOf aMin
  dsimp only [bnd]
  rw [binn (by omega) (by omega), binn (by omega) (by omega), pn_cl (by omega), pn_cl (by omega), show 233 + 24 = 257 from rfl, show 233 + 27 = 260 from rfl, hr.lk h hh, hr.sl t ht]
  by_cases q : (1 : Int32) < v.lk h - v.sl t
  · have q2 : (1 : Int32) ≤ v.lk h - v.sl t := by
      rw [Int32.lt_iff_toInt_lt] at q
      rw [Int32.le_iff_toInt_le]
      omega
    simp [q, q2]
  · by_cases q2 : (1 : Int32) ≤ v.lk h - v.sl t
    · have e : v.lk h - v.sl t = 1 := by
        apply Int32.toInt_inj.mp
        rw [Int32.lt_iff_toInt_lt] at q
        rw [Int32.le_iff_toInt_le] at q2
        omega
      simp [e]
    · simp [q, q2]
theorem c_isSeen (hc : CV c v σ) (ok : v.OK) {h hr : Nat} (hh : h < v.H) (hh2 : hr < 32) : mX1_isSeen c (nI h) (nI hr) σ = some (tb (v.wa h) hr) := by
  have := ok.H
  unfold mX1_isSeen
  dsimp only [bnd]
  rw [binn (by omega) (by omega), pn_cl (by omega), hc.wa h hh, tb_get _ hh2]
  cases tb (v.wa h) hr <;> simp
theorem r_isSeen (hr : RV v σ) (ok : v.OK) {h x : Nat} (hh : h < v.H) (hx : x < 32) (e : σ.1 233 62 = nI x) : mX12_isSeen 233 (nI h) σ = some (tb (v.wa h) x) := by
  have := ok.H
  unfold mX12_isSeen
  dsimp only [bnd]
  rw [binn (by omega) (by omega), pn_cl (by omega), show 233 + 25 = 258 from rfl, hr.wa h hh, e, tb_get _ hx]
  cases tb (v.wa h) x <;> simp
end BASICS
