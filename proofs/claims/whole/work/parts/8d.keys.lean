/-! longs as bits; the key of where THINGS are -/
section KEYS
variable {σ σ' : St_} {c dr s t th : Nat} {v : Vw} {z : Sv} {w w' w0 : Nat → Nat}
def tbL (a : Int64) (i : Nat) : Bool := a.toBitVec.getLsbD i
theorem tbL_ext {a b : Int64} (h : ∀ i, i < 64 → tbL a i = tbL b i) : a = b := by
  apply Int64.toBitVec_inj.mp
  apply BitVec.eq_of_getLsbD_eq
  intro i hi
  exact h i hi
theorem tbL_or (a b : Int64) (i : Nat) : tbL (a ||| b) i = (tbL a i || tbL b i) := by simp [tbL]
theorem tbL_xor (a b : Int64) (i : Nat) : tbL (a ^^^ b) i = (tbL a i ^^ tbL b i) := by simp [tbL]
theorem tbL_lN (m i : Nat) : tbL (lN m) i = (decide (i < 64) && m.testBit i) := by
  unfold tbL lN
  rw [show (Int64.ofNat m).toBitVec = BitVec.ofNat 64 m from rfl, BitVec.getLsbD_ofNat]
theorem sh_bv {k : Nat} (h : k < 64) : (((nI k).toInt64 &&& 63 : Int64).toBitVec.smod 64#64) = BitVec.ofNat 64 k := by
  have : ∀ k : Fin 64, (((nI k.1).toInt64 &&& 63 : Int64).toBitVec.smod 64#64) = BitVec.ofNat 64 k.1 := by decide +kernel
  exact this ⟨k, h⟩
theorem tbL_shl (a : Int64) {k i : Nat} (hk : k < 64) (hi : i < 64) : tbL (a <<< ((nI k).toInt64 &&& 63)) i = (decide (k ≤ i) && tbL a (i - k)) := by
  unfold tbL
  rw [Int64.toBitVec_shiftLeft]
  have e : ((nI k).toInt64 &&& 63 : Int64).toBitVec.smod 64 = BitVec.ofNat 64 k := sh_bv hk
  rw [e, BitVec.shiftLeft_eq', BitVec.getLsbD_shiftLeft]
  have e2 : (BitVec.ofNat 64 k).toNat = k := by simp; omega
  rw [e2]
  by_cases q : k ≤ i
  · simp [hi, q, Nat.not_lt.mpr q]
  · simp [q, Nat.not_le.mp q]
theorem tbL_shr (a : Int64) {k i : Nat} (hk : k + i < 64) : tbL (a >>> ((nI k).toInt64 &&& 63)) i = tbL a (k + i) := by
  unfold tbL
  rw [Int64.toBitVec_shiftRight]
  have e : ((nI k).toInt64 &&& 63 : Int64).toBitVec.smod 64 = BitVec.ofNat 64 k := sh_bv (by omega)
  rw [e]
  have e2 : a.toBitVec.sshiftRight' (BitVec.ofNat 64 k) = a.toBitVec.sshiftRight k := by
    show a.toBitVec.sshiftRight (BitVec.ofNat 64 k).toNat = _
    congr 1
    simp; omega
  rw [e2, BitVec.getLsbD_sshiftRight, if_pos hk]
  have : ¬ 64 ≤ i := by omega
  simp [this]
theorem tb_toI32 (a : Int64) {i : Nat} (hi : i < 32) : tb a.toInt32 i = tbL a i := by
  unfold tb tbL
  rw [Int64.toBitVec_toInt32, BitVec.getLsbD_signExtend]
  have : i < 64 := by omega
  simp [hi, this]
theorem tb_1023 {i : Nat} (hi : i < 32) : tb 1023 i = decide (i < 10) := by
  have : ∀ i : Fin 32, tb 1023 i.1 = decide (i.1 < 10) := by decide +kernel
  exact this ⟨i, hi⟩
/-- bit 10 * HOUSE + THING: the THING is there -/
def kbit (v : Vw) (w : Nat → Nat) (i : Nat) : Bool := decide (i % 10 < v.N) && (w (i % 10) == i / 10)
def keyL (v : Vw) (w : Nat → Nat) : Int64 := lN (bsum (kbit v w) 50)
theorem tbL_key {i : Nat} (hi : i < 64) : tbL (keyL v w) i = (decide (i < 50) && kbit v w i) := by
  unfold keyL
  rw [tbL_lN, bsum_bit]
  simp [hi]
theorem ten_mul (h : Nat) : (10 : Int32) * nI h = nI (10 * h) := nI_mul 10 h
theorem ext_key (ok : v.OK) {h : Nat} (hh : h < 5) : ((keyL v w >>> ((nI (10 * h)).toInt64 &&& 63)).toInt32 &&& (1023 : Int32)) = setI v.N (fun x => w x == h) := by
  have oN := ok.N
  apply setI_ext (by omega)
  intro x hx
  rw [tb_and, tb_toI32 _ hx, tb_1023 hx]
  by_cases q : x < 10
  · rw [tbL_shr _ (by omega), tbL_key (by omega)]
    unfold kbit
    rw [show (10 * h + x) % 10 = x by omega, show (10 * h + x) / 10 = h by omega]
    have : 10 * h + x < 50 := by omega
    simp [q, this]
  · have : ¬ x < v.N := by omega
    simp [q, this]
theorem in_L4 (ok : v.OK) : ∀ k n i, i + k = 5 → k < n → mX7_inHouses_L4 σ (keyL v w) n (setI v.N (fun x => decide (w x < i))) (nI i) = some (setI v.N (fun x => decide (w x < 5)))
  | 0, n, i, hi, hn => by
    obtain ⟨m, rfl, -⟩ := fu_suc hn
    have hi' : i = 5 := by omega
    subst hi'
    unfold mX7_inHouses_L4
    rw [if_pos (by decide)]
  | k + 1, n, i, hi, hn => by
    have oN := ok.N
    obtain ⟨m, rfl, hm⟩ := fu_suc hn
    have ih := in_L4 ok k m (i + 1) (by omega) (by omega)
    unfold mX7_inHouses_L4
    simp only [bnd_eq]
    rw [if_neg (show ¬ (5 : Int32) ≤ nI i from nI_ge (b := 5) (by omega) (by omega)), ten_mul, ext_key ok (by omega), nI_1]
    have e : setI v.N (fun x => decide (w x < i)) ||| setI v.N (fun x => w x == i) = setI v.N (fun x => decide (w x < i + 1)) := by
      apply setI_ext (by omega)
      intro x hx
      rw [tb_or, tb_setI (by omega), tb_setI (by omega)]
      by_cases q : w x < i
      · have q2 : w x < i + 1 := by omega
        have q4 : ¬ w x = i := by omega
        simp [q, q2, q4]
      · by_cases q2 : w x = i
        · have q3 : w x < i + 1 := by omega
          simp [q2, q3]
        · have q3 : ¬ w x < i + 1 := by omega
          simp [q, q2, q3]
    rw [e]
    exact ih
theorem c_inHouses (ok : v.OK) : mX7_inHouses (keyL v w) σ = some (setI v.N (fun x => decide (w x < 5))) := by
  have oN := ok.N
  unfold mX7_inHouses
  have := in_L4 (σ := σ) (w := w) ok 5 FU 0 (by omega) (by unfold FU; omega)
  have e : setI v.N (fun x => decide (w x < 0)) = (0 : Int32) := by
    symm
    apply setI_ext (by omega)
    intro x hx
    simp [tb_0]
  rw [e, show nI 0 = (0 : Int32) from rfl] at this
  exact this
/-- where THINGS can be by SWAPS of a THIEF, from w0 on -/
def NIn (v : Vw) (t : Nat) (w0 w : Nat → Nat) : Prop := ∀ x, x < v.N → ((w0 x < 5 ∨ w0 x = 5 + t) → (w x < v.H ∨ w x = 5 + t)) ∧ (¬ (w0 x < 5 ∨ w0 x = 5 + t) → w x = w0 x)
theorem key_eqW (ok : v.OK) (h1 : NIn v t w0 w) (h2 : NIn v t w0 w') (a b : Nat) (j1 j2 : Int32) : keyL v w = keyL v w' ↔ eqW v (svK w a j1) (svK w' b j2) = true := by
  have oN := ok.N
  have oH := ok.H
  rw [eqW_iff]
  constructor
  · intro e x hx
    show w x = w' x
    have key : ∀ h, h < 5 → (w x = h ↔ w' x = h) := by
      intro h hh
      have := congrArg (fun k => tbL k (10 * h + x)) e
      simp only [tbL_key (show 10 * h + x < 64 by omega)] at this
      unfold kbit at this
      rw [show (10 * h + x) % 10 = x by omega, show (10 * h + x) / 10 = h by omega] at this
      have h50 : 10 * h + x < 50 := by omega
      simp only [h50, hx, decide_true, Bool.true_and] at this
      rw [Bool.eq_iff_iff] at this
      simpa using this
    by_cases q : w0 x < 5 ∨ w0 x = 5 + t
    · have a1 := (h1 x hx).1 q
      have a2 := (h2 x hx).1 q
      by_cases q1 : w x < 5
      · exact ((key _ q1).mp rfl).symm
      · by_cases q2 : w' x < 5
        · exact (key _ q2).mpr rfl
        · omega
    · rw [(h1 x hx).2 q, (h2 x hx).2 q]
  · intro e
    apply tbL_ext
    intro i hi
    rw [tbL_key hi, tbL_key hi]
    by_cases q : i % 10 < v.N
    · have := e (i % 10) q
      have e2 : w (i % 10) = w' (i % 10) := this
      unfold kbit
      rw [e2]
    · unfold kbit
      simp [q]
theorem NIn_0 (ok : v.OK) (hz : Sv.OK v z) : NIn v t z.wh z.wh := by
  intro x hx
  have oH := ok.H
  have := hz.wh x hx
  exact ⟨fun q => by omega, fun _ => rfl⟩
theorem NIn_mv (ok : v.OK) (hz : NIn v t w0 z.wh) {s : Nat} (hs : s < 10240 * v.H) (hsw : isSw v z t s = true) : NIn v t w0 (swM z t s).wh := by
  have oN := ok.N
  have oH := ok.H
  obtain ⟨a1, a2, a3, a4⟩ := isSw_spec ok hsw
  intro x hx
  obtain ⟨b1, b2⟩ := hz x hx
  unfold swM
  rw [move_wh]
  by_cases q1 : tb (nI (s % 1024)) x = true
  · rw [if_pos q1]
    have wx := (a3 x q1).2
    refine ⟨fun _ => Or.inl (by omega), fun q => ?_⟩
    have := b2 q
    exact absurd (Or.inr (by omega)) q
  · rw [if_neg q1]
    by_cases q2 : tb (nI (2 ^ (s / 1024 % 10))) x = true
    · rw [if_pos q2]
      rw [tb_bit (by omega)] at q2
      have ex : x = s / 1024 % 10 := by simpa using q2
      refine ⟨fun _ => Or.inr rfl, fun q => ?_⟩
      have := b2 q
      rw [ex, a2] at this
      rw [ex] at q
      exact absurd (Or.inl (by omega)) q
    · rw [if_neg q2]
      exact ⟨b1, b2⟩
theorem key_move (ok : v.OK) {s : Nat} (hs : s < 10240 * v.H) (hsw : isSw v z t s = true) : keyL v z.wh ^^^ ((lN (2 ^ (s / 1024 % 10)) ||| (nI (s % 1024)).toInt64) <<< ((nI (10 * (s / 10240))).toInt64 &&& 63)) = keyL v (swM z t s).wh := by
  have oN := ok.N
  have oH := ok.H
  obtain ⟨a1, a2, a3, a4⟩ := isSw_spec ok hsw
  have hx10 : s / 1024 % 10 < 10 := by omega
  have hm : s % 1024 < 2 ^ 10 := by omega
  rw [nI_l (show s % 1024 < 2 ^ 31 by omega)]
  apply tbL_ext
  intro i hi
  rw [tbL_xor, tbL_key hi, tbL_key hi, tbL_shl _ (by omega) hi, tbL_or, tbL_lN, tbL_lN]
  generalize hH : s / 10240 = H at *
  generalize hX : s / 1024 % 10 = X at *
  have tm : ∀ y, y < 32 → (s % 1024).testBit y = tb (nI (s % 1024)) y := fun y hy => by rw [tb_nI]; simp [hy]
  have mw : (swM z t s).wh (i % 10) = if tb (nI (s % 1024)) (i % 10) = true then H else if decide (i % 10 = X) = true then 5 + t else z.wh (i % 10) := by
    unfold swM
    rw [move_wh, hH, hX, tb_bit (by omega)]
  have ki : kbit v (swM z t s).wh i = (decide (i % 10 < v.N) && ((if tb (nI (s % 1024)) (i % 10) = true then H else if decide (i % 10 = X) = true then 5 + t else z.wh (i % 10)) == i / 10)) := by
    unfold kbit
    rw [mw]
  rw [ki]
  have ki0 : kbit v z.wh i = (decide (i % 10 < v.N) && (z.wh (i % 10) == i / 10)) := rfl
  rw [ki0]
  have sub : tb (nI (s % 1024)) (i % 10) = true → i % 10 < v.N ∧ z.wh (i % 10) = 5 + t := a3 (i % 10)
  have nX : tb (nI (s % 1024)) X = false := by
    by_cases q : tb (nI (s % 1024)) X = true
    · have := (a3 X q).2
      omega
    · simpa using q
  by_cases r1 : 10 * H ≤ i ∧ i < 10 * H + 10
  · have d1 : i / 10 = H := by omega
    have d2 : i - 10 * H = i % 10 := by omega
    have d3 : i < 50 := by omega
    have d4 : 10 * H ≤ i := r1.1
    rw [d2, tm _ (by omega), Nat.testBit_two_pow, d1]
    have d5 : i % 10 < 64 := by omega
    simp only [d3, d4, d5, decide_true, Bool.true_and]
    by_cases q1 : tb (nI (s % 1024)) (i % 10) = true
    · obtain ⟨b1, b2⟩ := sub q1
      have ne : ¬ 5 + t = H := by omega
      simp [q1, b1, b2, ne]
    · by_cases q2 : X = i % 10
      · have ne : ¬ 5 + t = H := by omega
        have b1 : i % 10 < v.N := by omega
        have b2 : z.wh (i % 10) = H := by rw [← q2]; exact a2
        simp [q1, q2, b1, b2, ne]
      · have q3 : ¬ i % 10 = X := fun e => q2 e.symm
        simp [q1, q2, q3]
  · have z2 : (decide (10 * H ≤ i) && (decide (i - 10 * H < 64) && (2 ^ X).testBit (i - 10 * H) || decide (i - 10 * H < 64) && (s % 1024).testBit (i - 10 * H))) = false := by
      by_cases q : 10 * H ≤ i
      · have g : 10 ≤ i - 10 * H := by omega
        rw [Nat.testBit_two_pow, Nat.testBit_lt_two_pow (Nat.lt_of_lt_of_le hm (Nat.pow_le_pow_right (by omega) g))]
        have : ¬ X = i - 10 * H := by omega
        simp [this]
      · simp [q]
    rw [z2, Bool.xor_false]
    by_cases h5 : i < 50
    · have dn : ¬ H = i / 10 := by omega
      have dt : ¬ 5 + t = i / 10 := by omega
      have be : (z.wh (i % 10) == i / 10) = ((if tb (nI (s % 1024)) (i % 10) = true then H else if decide (i % 10 = X) = true then 5 + t else z.wh (i % 10)) == i / 10) := by
        by_cases q1 : tb (nI (s % 1024)) (i % 10) = true
        · rw [if_pos q1, (sub q1).2, beq_false_of_ne dt, beq_false_of_ne dn]
        · rw [if_neg q1]
          by_cases q2 : i % 10 = X
          · have b2 : z.wh (i % 10) = H := by rw [q2]; exact a2
            rw [if_pos (by simpa using q2), b2, beq_false_of_ne dt, beq_false_of_ne dn]
          · rw [if_neg (by simpa using q2)]
      rw [be]
    · simp [h5]
end KEYS
