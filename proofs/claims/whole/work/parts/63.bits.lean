/-! sets as ints: bits -/
section BITS
def tb (v : Int32) (x : Nat) : Bool := v.toBitVec.getLsbD x
theorem tb_ext {a b : Int32} (h : ∀ x, x < 32 → tb a x = tb b x) : a = b := by
  apply Int32.toBitVec_inj.mp
  apply BitVec.eq_of_getLsbD_eq
  intro i hi
  exact h i hi
theorem tb_or (a b : Int32) (x : Nat) : tb (a ||| b) x = (tb a x || tb b x) := by simp [tb]
theorem tb_and (a b : Int32) (x : Nat) : tb (a &&& b) x = (tb a x && tb b x) := by simp [tb]
theorem tb_xor (a b : Int32) (x : Nat) : tb (a ^^^ b) x = (tb a x ^^ tb b x) := by simp [tb]
theorem tb_m1 {x : Nat} (h : x < 32) : tb (-1) x = true := by
  have : ∀ x : Fin 32, tb (-1) x = true := by decide
  exact this ⟨x, h⟩
theorem tb_0 (x : Nat) : tb 0 x = false := by simp [tb]
theorem tb_nI (m x : Nat) : tb (nI m) x = (decide (x < 32) && m.testBit x) := by
  unfold tb nI
  rw [show (Int32.ofNat m).toBitVec = BitVec.ofNat 32 m from rfl, BitVec.getLsbD_ofNat]
theorem tb_big {v : Int32} {x : Nat} (h : 32 ≤ x) : tb v x = false := by
  unfold tb
  exact BitVec.getLsbD_of_ge _ _ h
theorem nI_bv {n : Nat} (h : n < 32) : (nI n &&& 31).toBitVec = BitVec.ofNat 32 n := by
  have : ∀ n : Fin 32, (nI n &&& 31).toBitVec = BitVec.ofNat 32 n := by decide
  exact this ⟨n, h⟩
theorem tb_get (v : Int32) {x : Nat} (h : x < 32) : (v >>> (nI x &&& 31)) &&& (1 : Int32) = if tb v x = true then 1 else 0 := by
  apply Int32.toBitVec_inj.mp
  have hs : (BitVec.ofNat 32 x).smod 32#32 = BitVec.ofNat 32 x := by
    have : ∀ x : Fin 32, (BitVec.ofNat 32 x).smod 32#32 = BitVec.ofNat 32 x := by decide
    exact this ⟨x, h⟩
  have e : (v >>> (nI x &&& 31)).toBitVec = v.toBitVec.sshiftRight x := by
    rw [Int32.toBitVec_shiftRight, nI_bv h]
    show v.toBitVec.sshiftRight' ((BitVec.ofNat 32 x).smod 32#32) = _
    rw [hs]
    show v.toBitVec.sshiftRight (BitVec.ofNat 32 x).toNat = _
    simp [Nat.mod_eq_of_lt (show x < 2 ^ 32 by omega)]
  rw [Int32.toBitVec_and, e]
  apply BitVec.eq_of_getLsbD_eq
  intro i hi
  have e1 : ((1 : Int32).toBitVec) = 1#32 := rfl
  rw [BitVec.getLsbD_and, BitVec.getLsbD_sshiftRight, e1, BitVec.getLsbD_one]
  by_cases h0 : i = 0
  · subst h0
    unfold tb
    cases hb : v.toBitVec.getLsbD x <;> simp [h, hb]
  · cases hb : tb v x <;> simp [h0]
theorem tb_shl {y x : Nat} (hy : y < 32) (hx : x < 32) : tb ((1 : Int32) <<< (nI y &&& 31)) x = decide (x = y) := by
  have : ∀ y x : Fin 32, tb ((1 : Int32) <<< (nI y.1 &&& 31)) x.1 = decide (x.1 = y.1) := by decide +kernel
  exact this ⟨y, hy⟩ ⟨x, hx⟩
theorem shl_nI {y : Nat} (hy : y < 31) : (1 : Int32) <<< (nI y &&& 31) = nI (2 ^ y) := by
  have : ∀ y : Fin 31, (1 : Int32) <<< (nI y.1 &&& 31) = nI (2 ^ y.1) := by decide +kernel
  exact this ⟨y, hy⟩
theorem nI_and (a b : Nat) : nI a &&& nI b = nI (a &&& b) := by
  apply tb_ext
  intro x hx
  rw [tb_and, tb_nI, tb_nI, tb_nI, Nat.testBit_and]
  simp [hx]
theorem nI_or (a b : Nat) : nI a ||| nI b = nI (a ||| b) := by
  apply tb_ext
  intro x hx
  rw [tb_or, tb_nI, tb_nI, tb_nI, Nat.testBit_or]
  simp [hx]
/-- a set of places below n -/
theorem set_of {v : Int32} {n : Nat} (hn : n < 32) (h : ∀ x, n ≤ x → x < 32 → tb v x = false) : ∃ m, m < 2 ^ n ∧ v = nI m := by
  refine ⟨v.toBitVec.toNat, ?_, ?_⟩
  · apply Nat.lt_pow_two_of_testBit
    intro j hj
    rw [← BitVec.getLsbD]
    by_cases hj2 : j < 32
    · exact h j (by omega) hj2
    · exact BitVec.getLsbD_of_ge _ _ (by omega)
  · apply Int32.toBitVec_inj.mp
    unfold nI
    rw [show (Int32.ofNat v.toBitVec.toNat).toBitVec = BitVec.ofNat 32 v.toBitVec.toNat from rfl]
    simp
theorem tb_hi {m n x : Nat} (hm : m < 2 ^ n) (hx : n ≤ x) : tb (nI m) x = false := by
  rw [tb_nI, Nat.testBit_lt_two_pow (Nat.lt_of_lt_of_le hm (Nat.pow_le_pow_right (by omega) hx))]
  simp
/-- sums -/
def sumI (f : Nat → Int32) : Nat → Nat → Int32
  | _, 0 => 0
  | i, k + 1 => f i + sumI f (i + 1) k
theorem sumI_congr {f g : Nat → Int32} : ∀ {k i : Nat}, (∀ x, i ≤ x → x < i + k → f x = g x) → sumI f i k = sumI g i k
  | 0, _, _ => rfl
  | k + 1, i, h => by
    unfold sumI
    rw [h i (by omega) (by omega), sumI_congr (fun x h1 h2 => h x (by omega) (by omega))]
theorem sumI_zero {f : Nat → Int32} : ∀ {k i : Nat}, (∀ x, i ≤ x → x < i + k → f x = 0) → sumI f i k = 0
  | 0, _, _ => rfl
  | k + 1, i, h => by
    unfold sumI
    rw [h i (by omega) (by omega), sumI_zero (fun x h1 h2 => h x (by omega) (by omega))]
    rfl
theorem sumI_one {f : Nat → Int32} {y : Nat} : ∀ {k i : Nat}, i ≤ y → y < i + k → (∀ x, i ≤ x → x < i + k → x ≠ y → f x = 0) → sumI f i k = f y
  | 0, _, _, _, _ => by omega
  | k + 1, i, h1, h2, h => by
    unfold sumI
    by_cases e : i = y
    · subst e
      rw [sumI_zero (fun x q1 q2 => h x (by omega) (by omega) (by omega))]
      exact Int32.add_zero _
    · rw [h i (by omega) (by omega) e, sumI_one (by omega) (by omega) (fun x q1 q2 q3 => h x (by omega) (by omega) q3)]
      exact Int32.zero_add _
theorem sumI_add (f g : Nat → Int32) : ∀ (k i : Nat), sumI (fun x => f x + g x) i k = sumI f i k + sumI g i k
  | 0, _ => by unfold sumI; rfl
  | k + 1, i => by
    unfold sumI
    rw [sumI_add f g k]
    ac_rfl
theorem sumI_two {f : Nat → Int32} {y z : Nat} {k i : Nat} (hy : i ≤ y) (hy2 : y < i + k) (hz : i ≤ z) (hz2 : z < i + k) (hyz : y ≠ z) (h : ∀ x, i ≤ x → x < i + k → x ≠ y → x ≠ z → f x = 0) : sumI f i k = f y + f z := by
  have e : sumI f i k = sumI (fun x => (if x = y then f x else 0) + (if x = z then f x else 0)) i k := by
    apply sumI_congr
    intro x h1 h2
    by_cases q1 : x = y
    · subst q1; simp [hyz]
    · by_cases q2 : x = z
      · simp [q1, q2]; simp [← q2, q1]
      · simp [q1, q2, h x h1 h2 q1 q2]
  rw [e, sumI_add, sumI_one hy hy2 (fun x _ _ q => by simp [q]), sumI_one hz hz2 (fun x _ _ q => by simp [q])]
  simp
end BITS
