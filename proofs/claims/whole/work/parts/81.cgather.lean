/-! the class: SWAPS gathered, HOUSE by HOUSE -/
section CGATHER
variable {σ σ' : St_} {c s t th : Nat} {v : Vw} {z : Sv}
theorem sumI_nI {f : Nat → Int32} {g : Nat → Nat} : ∀ {k i : Nat}, (∀ x, i ≤ x → x < i + k → f x = nI (g x)) → sumI f i k = nI (sumN g i k)
  | 0, _, _ => rfl
  | k + 1, i, h => by
    unfold sumI sumN
    rw [h i (by omega) (by omega), sumI_nI (g := g) (fun x h1 h2 => h x (by omega) (by omega)), nI_add]
theorem sumN_le {g : Nat → Nat} {b : Nat} : ∀ {k i : Nat}, (∀ x, i ≤ x → x < i + k → g x ≤ b) → sumN g i k ≤ b * k
  | 0, _, _ => Nat.zero_le _
  | k + 1, i, h => by
    unfold sumN
    have h1 := h i (by omega) (by omega)
    have h2 := sumN_le (g := g) (b := b) (k := k) (i := i + 1) (fun x h1 h2 => h x (by omega) (by omega))
    rw [Nat.mul_succ]
    omega
theorem sumN_congr {f g : Nat → Nat} : ∀ {k i : Nat}, (∀ x, i ≤ x → x < i + k → f x = g x) → sumN f i k = sumN g i k
  | 0, _, _ => rfl
  | k + 1, i, h => by
    unfold sumN
    rw [h i (by omega) (by omega), sumN_congr (fun x h1 h2 => h x (by omega) (by omega))]
theorem sumN_one {f : Nat → Nat} {y : Nat} : ∀ {k i : Nat}, i ≤ y → y < i + k → (∀ x, i ≤ x → x < i + k → x ≠ y → f x = 0) → sumN f i k = f y
  | 0, _, _, _, _ => by omega
  | k + 1, i, h1, h2, h => by
    unfold sumN
    by_cases e : i = y
    · subst e
      rw [sumN_zero (fun x q1 q2 => h x (by omega) (by omega) (by omega))]
      rfl
    · rw [h i (by omega) (by omega) e, sumN_one (by omega) (by omega) (fun x q1 q2 q3 => h x (by omega) (by omega) q3)]
      omega
def wn (v : Vw) (x : Nat) : Nat := (v.wt x).toNatClampNeg
theorem wn_spec (ok : v.OK) {x : Nat} (hx : x < v.N) : v.wt x = nI (wn v x) ∧ wn v x ≤ 99 := by
  obtain ⟨n, h1, h2⟩ := ok.wt x hx
  unfold wn
  rw [h2, pn_cl (by omega)]
  exact ⟨rfl, h1⟩
def wN (v : Vw) (s : Int32) : Nat := sumN (fun x => if tb s x = true then wn v x else 0) 0 v.N
theorem wN_spec (ok : v.OK) (s : Int32) : aW v s = nI (wN v s) ∧ wN v s ≤ 990 := by
  have oN := ok.N
  refine ⟨?_, ?_⟩
  · unfold aW wN
    apply sumI_nI
    intro x _ hx
    by_cases q : tb s x = true
    · rw [if_pos q, if_pos q]; exact (wn_spec ok (by omega)).1
    · rw [if_neg q, if_neg q]; rfl
  · have := sumN_le (g := fun x => if tb s x = true then wn v x else 0) (b := 99) (k := v.N) (i := 0) (fun x _ hx => by
      by_cases q : tb s x = true
      · simp only [q, if_true]; exact (wn_spec ok (by omega)).2
      · simp [q])
    unfold wN
    have : 99 * v.N ≤ 990 := by omega
    omega
theorem nI_subI {a b : Nat} (ha : a < 2 ^ 30) (hb : b < 2 ^ 30) : (nI a - nI b).toInt = (a : Int) - b := by
  rw [Int32.toInt_sub, nI_toInt (by omega), nI_toInt (by omega), Int.bmod_eq_of_le (by omega) (by omega)]
theorem sets_pz (ok : v.OK) {p : Nat × Option Nat} (hp : p ∈ sets v z th) : p.1 < v.N ∧ (∀ y, p.2 = some y → y < v.N ∧ y ≠ p.1) ∧ z.wh p.1 = 5 + th ∧ (∀ y, p.2 = some y → z.wh y = 5 + th) := by
  obtain ⟨h1, h2, h3⟩ := sets_mem.mp hp
  refine ⟨h1, fun y hy => ?_, h2, fun y hy => ?_⟩
  · rcases h3 with e | ⟨u, u1, u2, e⟩
    · rw [e] at hy; cases hy
    · rw [e] at hy; cases hy; omega
  · rcases h3 with e | ⟨u, u1, u2, e⟩
    · rw [e] at hy; cases hy
    · rw [e] at hy; cases hy; exact u2
theorem pW_eq (ok : v.OK) {p : Nat × Option Nat} (hp : p ∈ sets v z th) : pW v p = aW v (pset p.1 p.2) := by
  obtain ⟨h1, h2, -⟩ := sets_pz ok hp
  unfold aW
  rw [sum_pset h1 h2 ok.N]
  rfl
theorem pV_eq (ok : v.OK) {p : Nat × Option Nat} (hp : p ∈ sets v z th) : pV v th p = aV v (5 + th) (pset p.1 p.2) := by
  obtain ⟨h1, h2, -⟩ := sets_pz ok hp
  unfold aV
  rw [sum_pset h1 h2 ok.N]
  rfl
/-- how many move -/
def nMv (p : Nat × Option Nat) : Int32 := match p.2 with
  | none => 2
  | some _ => 3
theorem nMv_eq (ok : v.OK) {p : Nat × Option Nat} (hp : p ∈ sets v z th) {x : Nat} (hx : x < v.N) : mem (nI (2 ^ x)) + mem (pset p.1 p.2) = nMv p := by
  obtain ⟨h1, h2, -⟩ := sets_pz ok hp
  have oN := ok.N
  have s3 : mem (nI (2 ^ x)) = 1 := sum_bit (f := fun _ => 1) (N := 10) (by omega) (by omega)
  have s4 : mem (pset p.1 p.2) = o2 p.2 1 (fun _ => (1 : Int32) + 1) := sum_pset (f := fun _ => 1) (N := 10) (by omega) (fun z hz => ⟨by have := (h2 z hz).1; omega, (h2 z hz).2⟩) (by omega)
  rw [s3, s4]
  unfold nMv o2
  cases p.2 <;> rfl
theorem room_iff (ok : v.OK) {p : Nat × Option Nat} (hp : p ∈ sets v z th) {x : Nat} (hx : x < v.N) (hw : z.wh x ≠ 5 + th) (hth : th < v.T) : (v.sk th - aW v (hset v z (5 + th)) < v.wt x - pW v p) ↔ ¬ aW v ((hset v z (5 + th) &&& (pset p.1 p.2 ^^^ (-1))) ||| nI (2 ^ x)) ≤ v.sk th := by
  obtain ⟨h1, h2, h3, h4⟩ := sets_pz ok hp
  have oN := ok.N
  obtain ⟨k, k1, k2⟩ := ok.sk th hth
  rw [pW_eq ok hp, k2, (wn_spec ok hx).1, (wN_spec ok (hset v z (5 + th))).1, (wN_spec ok (pset p.1 p.2)).1, (wN_spec ok ((hset v z (5 + th) &&& (pset p.1 p.2 ^^^ (-1))) ||| nI (2 ^ x))).1]
  have b1 := (wN_spec ok (hset v z (5 + th))).2
  have b2 := (wN_spec ok (pset p.1 p.2)).2
  have b3 := (wN_spec ok ((hset v z (5 + th) &&& (pset p.1 p.2 ^^^ (-1))) ||| nI (2 ^ x))).2
  have b4 := (wn_spec ok hx).2
  have key : wN v ((hset v z (5 + th) &&& (pset p.1 p.2 ^^^ (-1))) ||| nI (2 ^ x)) + wN v (pset p.1 p.2) = wN v (hset v z (5 + th)) + wn v x := by
    have e1 : wn v x = sumN (fun y => if y = x then wn v y else 0) 0 v.N := by
      rw [sumN_one (y := x) (by omega) (by omega)]
      · simp
      · intro y _ _ hne; simp [hne]
    rw [e1]
    unfold wN
    rw [← sumN_add, ← sumN_add]
    apply sumN_congr
    intro y _ hy
    have hy' : y < v.N := by omega
    have tp := @tb_pset p.1 y p.2 (by omega) (fun w hw => by have := (h2 w hw).1; omega)
    simp only [tb_or, tb_and, tb_xor, tb_m1 (show y < 32 by omega), tb_bit (show x < 31 by omega), tb_hset ok, hy', decide_true, Bool.true_and]
    by_cases q1 : tb (pset p.1 p.2) y = true
    · have wy : z.wh y = 5 + th := by
        rw [tp] at q1
        simp only [Bool.or_eq_true, decide_eq_true_eq] at q1
        rcases q1 with e | e
        · rw [e]; exact h3
        · exact h4 y e
      have nx : ¬ y = x := fun e => hw (by rw [← e]; exact wy)
      simp [q1, wy, nx]
    · by_cases q2 : y = x
      · subst q2
        simp [q1, hw]
      · by_cases q3 : z.wh y = 5 + th
        · simp [q1, q2, q3]
        · simp [q1, q2, q3]
  rw [Int32.lt_iff_toInt_lt, Int32.le_iff_toInt_le, nI_subI (by omega) (by omega), nI_subI (by omega) (by omega), nI_toInt (by omega), nI_toInt (by omega)]
  omega
theorem c_addSwap (hc : CV c v σ) (ok : v.OK) (hct : c + 16 ≤ t) {L : List (Nat × Option Nat)} (hS : SSc v th t L σ) {acc : List Nat} (hA : SLc v th t acc σ) (hl : acc.length < 100) (hth : th < v.T) {h x i : Nat} (hx : x < v.N) {p : Nat × Option Nat} (hi : L[i]? = some p) (hi2 : i < 55) (hp : p ∈ sets v z th) : ∃ σ', mX9_addSwap t c (nI th) (nI h) (nI x) (nI i) σ = some σ' ∧ SLc v th t (acc ++ [scode h x (psn p.1 p.2)]) σ' := by
  have oN := ok.N
  have oT := ok.T
  have pv := pV_eq ok hp
  obtain ⟨z1, z2, -⟩ := sets_pz ok hp
  have hm := (sets_psn ok hp).2
  obtain ⟨S1, S2, S3, S4⟩ := hS.2 i p hi
  have h4 := hA.1
  have hb : bin (nI acc.length) 100 = true := binn hl (by omega)
  have hcl : (nI acc.length).toNatClampNeg = acc.length := pn_cl (by omega)
  have h55 : nI acc.length < (100 : Int32) := nI_lt (b := 100) hl (by omega)
  have hbi : bin (nI i) 55 = true := binn (by omega) (by omega)
  have hci : (nI i).toNatClampNeg = i := pn_cl (by omega)
  have e5 : (5 : Int32) + nI th = nI (5 + th) := nI_add 5 th
  have hb9 : bin (nI (10 * (5 + th) + x)) 90 = true := binn (by omega) (by omega)
  have hc9 : (nI (10 * (5 + th) + x)).toNatClampNeg = 10 * (5 + th) + x := pn_cl (by omega)
  have n1 : ¬ t = t + 1 := by omega
  have n2 : ¬ t = t + 2 := by omega
  have n3 : ¬ t = t + 3 := by omega
  have n4 : ¬ t = t + 4 := by omega
  have m21 : ¬ c + 8 = t + 1 := by omega
  have m22 : ¬ c + 8 = t + 2 := by omega
  have m23 : ¬ c + 8 = t + 3 := by omega
  have q51 : ¬ t + 5 = t + 1 := by omega
  have q52 : ¬ t + 5 = t + 2 := by omega
  have q61 : ¬ t + 6 = t + 1 := by omega
  have q62 : ¬ t + 6 = t + 2 := by omega
  have q81 : ¬ t + 8 = t + 1 := by omega
  have q82 : ¬ t + 8 = t + 2 := by omega
  have q83 : ¬ t + 8 = t + 3 := by omega
  have fin : ∀ (ρ : St_), ρ.1 t 4 = nI (acc.length + 1) → (∀ i, ρ.1 (t + 1) i = if i = acc.length then nI h else σ.1 (t + 1) i) → (∀ i, ρ.1 (t + 2) i = if i = acc.length then nI x else σ.1 (t + 2) i) → (∀ i, ρ.1 (t + 3) i = if i = acc.length then nI (psn p.1 p.2) else σ.1 (t + 3) i) → (∀ i, ρ.1 (t + 4) i = if i = acc.length then v.va (5 + th) x - pV v th p else σ.1 (t + 4) i) → SLc v th t (acc ++ [scode h x (psn p.1 p.2)]) ρ := by
    intro ρ r0 r1 r2 r3 r4
    refine ⟨by rw [r0, List.length_append]; rfl, fun i q hq => ?_⟩
    rw [r1, r2, r3, r4]
    rcases get_snoc hq with ⟨g1, g2⟩ | ⟨g1, g2⟩
    · have : ¬ i = acc.length := by omega
      simp only [this, if_false]
      exact hA.2 i q g2
    · subst g2
      rw [if_pos g1, if_pos g1, if_pos g1, if_pos g1]
      unfold gn
      rw [scode_h (by omega) hm, scode_x (by omega) hm, scode_m hm, pv]
      exact ⟨rfl, rfl, rfl, rfl⟩
  unfold mX9_addSwap mX1_valueTo
  obtain ⟨p1, p2⟩ := p
  cases p2 with
  | none =>
    simp only [loI] at S2
    have s1 : (1 : Int32) <<< (nI p1 &&& 31) = nI (psn p1 none) := shl_nI (by simp only at z1; omega)
    simp only [bnd_eq, sI_get, h4, hb, hcl, h55, hbi, hci, S1, S2, S4, s1, e5, va_ix, hb9, hc9, n1, n2, n3, n4, m21, m22, m23, q51, q52, q61, q62, q81, q82, q83, if_true, if_false, false_and, obs_eq, hc.va (5 + th) (by omega) x hx, nI_1]
    refine ⟨_, rfl, fin _ ?_ (fun i => ?_) (fun i => ?_) (fun i => ?_) (fun i => ?_)⟩ <;> simp [sI_get]
  | some y =>
    have hy := z2 y rfl
    simp only [loI] at S2
    have ny : ¬ nI y = (-1 : Int32) := nI_nm1 (by omega)
    have s1 : (1 : Int32) <<< (nI p1 &&& 31) = nI (2 ^ p1) := shl_nI (by simp only at z1; omega)
    have s2 : (1 : Int32) <<< (nI y &&& 31) = nI (2 ^ y) := shl_nI (by omega)
    have s3 : nI (2 ^ p1) ||| nI (2 ^ y) = nI (psn p1 (some y)) := nI_or _ _
    simp only [bnd_eq, sI_get, h4, hb, hcl, h55, hbi, hci, S1, S2, S4, s1, s2, s3, ny, e5, va_ix, hb9, hc9, n1, n2, n3, n4, m21, m22, m23, q51, q52, q61, q62, q81, q82, q83, if_true, if_false, false_and, obs_eq, hc.va (5 + th) (by omega) x hx, nI_1]
    refine ⟨_, rfl, fin _ ?_ (fun i => ?_) (fun i => ?_) (fun i => ?_) (fun i => ?_)⟩ <;> simp [sI_get]
theorem blk_cons {h x : Nat} {p : Nat × Option Nat} {l : List (Nat × Option Nat)} : blk v z th h x (p :: l) = if okS v z th h x p = true then scode h x (psn p.1 p.2) :: blk v z th h x l else blk v z th h x l := by
  unfold blk
  rw [List.filter_cons]
  by_cases q : okS v z th h x p = true
  · rw [if_pos q, if_pos q, List.map_cons]
  · rw [if_neg q, if_neg q]
theorem c_gf_L3 (ok : v.OK) (hct : c + 16 ≤ t) (hz : Sv.OK v z) (hth : th < v.T) {h x : Nat} (hh : h < v.H) (hx : x < v.N) (hxh : z.wh x = h) (hj : tb z.jl th = false) : ∀ k n i (acc : List Nat) (σ : St_), CV c v σ → SSc v th t (sets v z th) σ → SLc v th t acc σ → i + k = (sets v z th).length → k < n → acc.length + (blk v z th h x ((sets v z th).drop i)).length ≤ 100 → ∃ σ', mX9_gatherFor_L3 t c (nI z.hr) (nI th) (nI h) (nI x) (v.sk th - aW v (hset v z (5 + th))) n (nI i) σ = some σ' ∧ SLc v th t (acc ++ blk v z th h x ((sets v z th).drop i)) σ' ∧ ∀ a k, ¬ MOD_X9_gatherFor t c a k → σ'.1 a k = σ.1 a k
  | 0, n, i, acc, σ, hc, hS, hA, hi, hn, hl => by
    have := sets_55 (v := v) (z := z) (t := th) ok
    obtain ⟨m, rfl, -⟩ := fu_suc hn
    refine ⟨σ, ?_, ?_, fun a k _ => rfl⟩
    · unfold mX9_gatherFor_L3
      rw [hS.1, if_pos (nI_le (by omega) (by omega))]
    · rw [List.drop_eq_nil_of_le (by omega)]
      simpa [blk] using hA
  | k + 1, n, i, acc, σ, hc, hS, hA, hi, hn, hl => by
    have oH := ok.H
    have oN := ok.N
    have oT := ok.T
    have o55 := sets_55 (v := v) (z := z) (t := th) ok
    obtain ⟨m, rfl, hm⟩ := fu_suc hn
    have hil : i < (sets v z th).length := by omega
    have hp : (sets v z th)[i] ∈ sets v z th := List.getElem_mem hil
    have hgi : (sets v z th)[i]? = some (sets v z th)[i] := List.getElem?_eq_getElem hil
    have hd := List.drop_eq_getElem_cons hil
    generalize (sets v z th)[i] = p at hp hgi hd
    rw [hd, blk_cons] at hl ⊢
    obtain ⟨S1, S2, S3, S4⟩ := hS.2 i p hgi
    obtain ⟨z1, z2, z3, z4⟩ := sets_pz ok hp
    have ri := room_iff ok hp hx (by omega) hth
    have nm := nMv_eq ok hp hx
    have okd : okS v z th h x p = (decide (aW v ((hset v z (5 + th) &&& (pset p.1 p.2 ^^^ (-1))) ||| nI (2 ^ x)) ≤ v.sk th) && decide (aMin v th h (nMv p) ≤ 15) && aLaw v h (nI (2 ^ x)) (pset p.1 p.2) (nI z.hr) (v.sl th)) := by
      unfold okS aCan
      rw [hj, nm]
      simp
    generalize aW v ((hset v z (5 + th) &&& (pset p.1 p.2 ^^^ (-1))) ||| nI (2 ^ x)) = W at ri okd
    -- going on without it
    have no : okS v z th h x p = false → ∀ ρ : St_, (∀ a k, ¬ MOD_X9_gatherFor t c a k → ρ.1 a k = σ.1 a k) → SLc v th t acc ρ → ∃ σ', mX9_gatherFor_L3 t c (nI z.hr) (nI th) (nI h) (nI x) (v.sk th - aW v (hset v z (5 + th))) m (nI (i + 1)) ρ = some σ' ∧ SLc v th t (acc ++ (if okS v z th h x p = true then scode h x (psn p.1 p.2) :: blk v z th h x ((sets v z th).drop (i + 1)) else blk v z th h x ((sets v z th).drop (i + 1)))) σ' ∧ ∀ a k, ¬ MOD_X9_gatherFor t c a k → σ'.1 a k = σ.1 a k := by
      intro q ρ hρ hA2
      rw [q] at hl ⊢
      simp only [Bool.false_eq_true, if_false] at hl ⊢
      obtain ⟨σ', u1, u2, u3⟩ := c_gf_L3 ok hct hz hth hh hx hxh hj k m (i + 1) acc ρ (cv_list hc hct (fun a k hn => hρ a k (by unfold MOD_X9_gatherFor; omega))) (hS.fr (fun a k q => hρ a k (by unfold MOD_X9_gatherFor; omega))) hA2 (by omega) (by omega) hl
      exact ⟨σ', u1, u2, fun a k hn => by rw [u3 a k hn, hρ a k hn]⟩
    have hbi : bin (nI i) 55 = true := binn (by omega) (by omega)
    have hci : (nI i).toNatClampNeg = i := pn_cl (by omega)
    have hbx : bin (nI x) 10 = true := binn (by omega) (by omega)
    have hcx : (nI x).toNatClampNeg = x := pn_cl (by omega)
    have hbt : bin (nI th) 4 = true := binn (by omega) (by omega)
    have hct2 : (nI th).toNatClampNeg = th := pn_cl (by omega)
    have h0 : ¬ nI (sets v z th).length ≤ nI i := nI_ge (by omega) (by omega)
    obtain ⟨σ1, l1⟩ := c_isLawfulFor hc ok hh hx z1 z2 (nI z.hr) (v.sl th)
    have F1 : ∀ a k, ¬ MOD_X1_isLawfulFor c a k → σ1.1 a k = σ.1 a k := fun a k hn => (fX1_isLawfulFor _ _ _ _ _ _ _ _ _ l1 a k hn).1
    have main : ∃ σ', (if v.sk th - aW v (hset v z (5 + th)) < v.wt x - pW v p then mX9_gatherFor_L3 t c (nI z.hr) (nI th) (nI h) (nI x) (v.sk th - aW v (hset v z (5 + th))) m (nI (i + 1)) σ else if (15 : Int32) < aMin v th h (nMv p) then mX9_gatherFor_L3 t c (nI z.hr) (nI th) (nI h) (nI x) (v.sk th - aW v (hset v z (5 + th))) m (nI (i + 1)) σ else if aLaw v h (nI (2 ^ x)) (pset p.1 p.2) (nI z.hr) (v.sl th) = true then (mX9_addSwap t c (nI th) (nI h) (nI x) (nI i) σ1).bind fun σ15 => mX9_gatherFor_L3 t c (nI z.hr) (nI th) (nI h) (nI x) (v.sk th - aW v (hset v z (5 + th))) m (nI (i + 1)) σ15 else mX9_gatherFor_L3 t c (nI z.hr) (nI th) (nI h) (nI x) (v.sk th - aW v (hset v z (5 + th))) m (nI (i + 1)) σ1) = some σ' ∧ SLc v th t (acc ++ (if okS v z th h x p = true then scode h x (psn p.1 p.2) :: blk v z th h x ((sets v z th).drop (i + 1)) else blk v z th h x ((sets v z th).drop (i + 1)))) σ' ∧ ∀ a k, ¬ MOD_X9_gatherFor t c a k → σ'.1 a k = σ.1 a k := by
      by_cases q1 : v.sk th - aW v (hset v z (5 + th)) < v.wt x - pW v p
      · rw [if_pos q1]
        exact no (by rw [okd]; simp [ri.mp q1]) σ (fun a k _ => rfl) hA
      · rw [if_neg q1]
        have q1' : W ≤ v.sk th := by
          by_cases w : W ≤ v.sk th
          · exact w
          · exact absurd (ri.mpr w) q1
        by_cases q2 : (15 : Int32) < aMin v th h (nMv p)
        · rw [if_pos q2]
          exact no (by rw [okd]; simp [Int32.not_le.mpr q2]) σ (fun a k _ => rfl) hA
        · rw [if_neg q2]
          cases q3 : aLaw v h (nI (2 ^ x)) (pset p.1 p.2) (nI z.hr) (v.sl th)
          · rw [if_neg (by simp)]
            exact no (by rw [okd, q3]; simp) σ1 (fun a k hn => F1 a k (by unfold MOD_X1_isLawfulFor; unfold MOD_X9_gatherFor at hn; omega)) (hA.fr (fun a k q => F1 a k (by unfold MOD_X1_isLawfulFor; omega)))
          · rw [if_pos rfl]
            have yes : okS v z th h x p = true := by rw [okd, q3]; simp [q1', Int32.not_lt.mp q2]
            rw [yes] at hl ⊢
            simp only [if_true, List.length_cons] at hl ⊢
            have hc1 : CV c v σ1 := cv_list hc hct (fun a k hn => F1 a k (by unfold MOD_X1_isLawfulFor; omega))
            have hS1 : SSc v th t (sets v z th) σ1 := hS.fr (fun a k q => F1 a k (by unfold MOD_X1_isLawfulFor; omega))
            obtain ⟨σ2, w1, w2⟩ := c_addSwap (h := h) hc1 ok hct hS1 (hA.fr (fun a k q => F1 a k (by unfold MOD_X1_isLawfulFor; omega))) (by omega) hth hx hgi (by omega) hp
            have F2 : ∀ a k, ¬ MOD_X9_addSwap t a k → σ2.1 a k = σ1.1 a k := fun a k hn => (fX9_addSwap _ _ _ _ _ _ _ _ w1 a k hn).1
            rw [w1]
            rw [obs_eq]
            obtain ⟨σ', u1, u2, u3⟩ := c_gf_L3 ok hct hz hth hh hx hxh hj k m (i + 1) (acc ++ [scode h x (psn p.1 p.2)]) σ2 (cv_list hc1 hct (fun a k hn => F2 a k (by unfold MOD_X9_addSwap; omega))) (hS1.fr (fun a k q => F2 a k (by unfold MOD_X9_addSwap; omega))) w2 (by omega) (by omega) (by rw [List.length_append]; simp only [List.length_cons, List.length_nil]; omega)
            refine ⟨σ', u1, ?_, fun a k hn => ?_⟩
            · rw [List.append_assoc, List.singleton_append] at u2
              exact u2
            · rw [u3 a k hn, F2 a k (by unfold MOD_X9_addSwap; unfold MOD_X9_gatherFor at hn; omega), F1 a k (by unfold MOD_X1_isLawfulFor; unfold MOD_X9_gatherFor at hn; omega)]
    refine Exists.imp (fun σ' q => ⟨Eq.trans ?_ q.1, q.2⟩) main
    conv => lhs; unfold mX9_gatherFor_L3
    simp only [bnd_eq]
    have hcw := hc.wt x hx
    have hcs := hc.sl th hth
    cases e2 : p.2 with
    | none =>
      have S2' : σ.1 (t + 6) i = -1 := by rw [S2, e2]; rfl
      have l1' : mX1_isLawfulFor c (nI h) (nI x) (nI p.1) (-1) (nI z.hr) (v.sl th) σ = some (aLaw v h (nI (2 ^ x)) (pset p.1 p.2) (nI z.hr) (v.sl th), σ1) := by rw [← l1, e2]; rfl
      have en : nMv p = 2 := by unfold nMv; rw [e2]
      rw [hS.1, if_neg h0]
      simp only [hbi, hci, S1, S2', S3, hbx, hcx, hcw, hbt, hct2, hcs, if_true, c_minutesOf hc ok hth hh, l1', obs_eq, en, nI_1]
      rw [e2]
    | some y =>
      have hy := (z2 y e2).1
      have S2' : σ.1 (t + 6) i = nI y := by rw [S2, e2]; rfl
      have ny : ¬ nI y = (-1 : Int32) := nI_nm1 (by omega)
      have l1' : mX1_isLawfulFor c (nI h) (nI x) (nI p.1) (nI y) (nI z.hr) (v.sl th) σ = some (aLaw v h (nI (2 ^ x)) (pset p.1 p.2) (nI z.hr) (v.sl th), σ1) := by rw [← l1, e2]; rfl
      have en : nMv p = 3 := by unfold nMv; rw [e2]
      rw [hS.1, if_neg h0]
      simp only [hbi, hci, S1, S2', S3, ny, hbx, hcx, hcw, hbt, hct2, hcs, if_true, if_false, c_minutesOf hc ok hth hh, l1', obs_eq, en, nI_1]
      rw [e2]
theorem gf_def {p2 p3 p4 p5 p6 : Int32} : mX9_gatherFor t c p2 p3 p4 p5 p6 σ = mX9_gatherFor_L3 t c p2 p3 p4 p5 p6 FU 0 σ := by unfold mX9_gatherFor; exact Eq.trans (Eq.refl _) (Eq.refl _)
theorem c_ga_L60 (ok : v.OK) (hct : c + 16 ≤ t) (hcs : c + 16 ≤ s) (hst : s + 3 ≤ t ∨ t + 9 ≤ s) (hz : Sv.OK v z) (hth : th < v.T) {h : Nat} (hh : h < v.H) (hj : tb z.jl th = false) (hsn : tb (v.wa h) z.hr = false) {k119 : St_ → Option St_} : ∀ k n i (acc : List Nat) (σ : St_), CV c v σ → CS v s z σ → SSc v th t (sets v z th) σ → SLc v th t acc σ → i + k = v.N → k < n → acc.length + (gX v z th h i k).length ≤ 100 → ∃ σ', mX9_gather_L60 t c s (nI th) (v.sk th - aW v (hset v z (5 + th))) (nI h) k119 n (nI i) σ = k119 σ' ∧ SLc v th t (acc ++ gX v z th h i k) σ' ∧ ∀ a k, ¬ MOD_X9_gatherFor t c a k → σ'.1 a k = σ.1 a k
  | 0, n, i, acc, σ, hc, hs, hS, hA, hi, hn, hl => by
    have := ok.N
    obtain ⟨m, rfl, -⟩ := fu_suc hn
    refine ⟨σ, ?_, by simpa [gX] using hA, fun a k _ => rfl⟩
    unfold mX9_gather_L60
    rw [hc.N, if_pos (nI_le (by omega) (by omega))]
  | k + 1, n, i, acc, σ, hc, hs, hS, hA, hi, hn, hl => by
    have oN := ok.N
    have oH := ok.H
    have oR := ok.R
    have hzr := hz.hr
    have o55 := sets_55 (v := v) (z := z) (t := th) ok
    obtain ⟨m, rfl, hm⟩ := fu_suc hn
    unfold gX at hl ⊢
    unfold mX9_gather_L60
    simp only [bnd_eq]
    rw [hc.N, if_neg (nI_ge (by omega) (by omega)), hs.hr, c_isSeen hc ok hh (by omega), hsn]
    simp only [obs_eq, Bool.false_eq_true, if_false]
    rw [binn (show h < 9 by omega) (by omega), if_pos rfl, pn_cl (show h < 2 ^ 31 by omega), hs.held h (by omega), tb_get _ (by omega), tb_beq ok (by omega), nI_1]
    by_cases q : (z.wh i == h) = true
    · rw [if_pos q, if_neg (by decide), gf_def]
      rw [if_pos q] at hl ⊢
      rw [List.length_append] at hl
      obtain ⟨σ1, w1, w2, w3⟩ := c_gf_L3 ok hct hz hth hh (show i < v.N by omega) (by simpa using q) hj (sets v z th).length FU 0 acc σ hc hS hA (by omega) (by unfold FU; omega) (by rw [List.drop_zero]; omega)
      rw [List.drop_zero] at w2
      have w1' : mX9_gatherFor_L3 t c (nI z.hr) (nI th) (nI h) (nI i) (v.sk th - aW v (hset v z (5 + th))) FU 0 σ = some σ1 := w1
      rw [w1']
      rw [obs_eq]
      obtain ⟨σ', u1, u2, u3⟩ := c_ga_L60 ok hct hcs hst hz hth hh hj hsn (k119 := k119) k m (i + 1) _ σ1 (cv_list hc hct (fun a k hn => w3 a k (by unfold MOD_X9_gatherFor; omega))) (hs.fr (fun a k q => w3 a k (by unfold MOD_X9_gatherFor; omega))) (hS.fr (fun a k q => w3 a k (by unfold MOD_X9_gatherFor; omega))) w2 (by omega) (by omega) (by rw [List.length_append]; omega)
      refine ⟨σ', u1, ?_, fun a k hn => by rw [u3 a k hn, w3 a k hn]⟩
      rw [List.append_assoc] at u2
      exact u2
    · rw [if_neg q, if_pos rfl]
      rw [if_neg q, List.nil_append] at hl ⊢
      exact c_ga_L60 ok hct hcs hst hz hth hh hj hsn (k119 := k119) k m (i + 1) acc σ hc hs hS hA (by omega) (by omega) hl
theorem c_ga_L48 (ok : v.OK) (hct : c + 16 ≤ t) (hcs : c + 16 ≤ s) (hst : s + 3 ≤ t ∨ t + 9 ≤ s) (hz : Sv.OK v z) (hth : th < v.T) (hj : tb z.jl th = false) : ∀ k n i (acc : List Nat) (σ : St_), CV c v σ → CS v s z σ → SSc v th t (sets v z th) σ → SLc v th t acc σ → i + k = v.H → k < n → acc.length + (gH v z th i k).length ≤ 100 → ∃ σ', mX9_gather_L48 t c s (nI th) (v.sk th - aW v (hset v z (5 + th))) n (nI i) σ = some σ' ∧ SLc v th t (acc ++ gH v z th i k) σ'
  | 0, n, i, acc, σ, hc, hs, hS, hA, hi, hn, hl => by
    have := ok.H
    obtain ⟨m, rfl, -⟩ := fu_suc hn
    refine ⟨σ, ?_, by simpa [gH] using hA⟩
    unfold mX9_gather_L48
    rw [hc.H, if_pos (nI_le (by omega) (by omega))]
  | k + 1, n, i, acc, σ, hc, hs, hS, hA, hi, hn, hl => by
    have oN := ok.N
    have oH := ok.H
    have oR := ok.R
    have hzr := hz.hr
    obtain ⟨m, rfl, hm⟩ := fu_suc hn
    unfold gH at hl ⊢
    unfold mX9_gather_L48
    rw [hc.H, if_neg (nI_ge (by omega) (by omega))]
    by_cases q : tb (v.wa i) z.hr = true
    · rw [if_pos q, List.nil_append] at hl ⊢
      obtain ⟨σ', u1, u2⟩ := c_ga_L48 ok hct hcs hst hz hth hj k m (i + 1) acc σ hc hs hS hA (by omega) (by omega) hl
      refine ⟨σ', Eq.trans ?_ u1, u2⟩
      have e : FU = 999999 + 1 := rfl
      rw [e]
      unfold mX9_gather_L60
      simp only [bnd_eq]
      rw [hs.hr, c_isSeen hc ok (show i < v.H by omega) (by omega), q]
      simp only [obs_eq, if_true, nI_1]
      by_cases w : σ.1 c 2 ≤ 0
      · rw [if_pos w]
      · rw [if_neg w]
    · rw [if_neg q] at hl ⊢
      rw [List.length_append] at hl
      obtain ⟨σ1, w1, w2, w3⟩ := c_ga_L60 ok hct hcs hst hz hth (show i < v.H by omega) hj (by simpa using q) (k119 := fun σ14 => mX9_gather_L48 t c s (nI th) (v.sk th - aW v (hset v z (5 + th))) m (nI (i + 1)) σ14) v.N FU 0 acc σ hc hs hS hA (by omega) (by unfold FU; omega) (by omega)
      obtain ⟨σ', u1, u2⟩ := c_ga_L48 ok hct hcs hst hz hth hj k m (i + 1) _ σ1 (cv_list hc hct (fun a k hn => w3 a k (by unfold MOD_X9_gatherFor; omega))) (hs.fr (fun a k q => w3 a k (by unfold MOD_X9_gatherFor; omega))) (hS.fr (fun a k q => w3 a k (by unfold MOD_X9_gatherFor; omega))) w2 (by omega) (by omega) (by rw [List.length_append]; omega)
      refine ⟨σ', Eq.trans ?_ (w1.trans u1), ?_⟩
      · rw [nI_1]; rfl
      · rw [List.append_assoc] at u2
        exact u2
theorem c_gather (hc : CV c v σ) (ok : v.OK) (hct : c + 16 ≤ t) (hcs : c + 16 ≤ s) (hst : s + 3 ≤ t ∨ t + 9 ≤ s) (hz : Sv.OK v z) (hs : CS v s z σ) (hth : th < v.T) : ∃ σ', mX9_gather t c s (nI th) σ = some σ' ∧ SLc v th t (swl v z th) σ' := by
  have oT := ok.T
  unfold mX9_gather
  simp only [bnd_eq]
  have hc1 : CV c v (sI σ t 4 0) := cv_list hc hct (fun a k hn => by rw [sI_get, if_neg (by omega)])
  have hs1 : CS v s z (sI σ t 4 0) := hs.fr (fun a k q => by rw [sI_get, if_neg (by omega)])
  have hA : SLc v th t [] (sI σ t 4 0) := ⟨by rw [sI_get, if_pos ⟨rfl, rfl⟩]; rfl, fun i p hp => by simp at hp⟩
  rw [hs1.jl, tb_get _ (by omega)]
  cases hj : tb z.jl th
  · rw [if_neg (show ¬ false = true by simp), if_pos rfl]
    obtain ⟨σ2, w1, w2⟩ := c_splitStock hc1 ok hct hst hs1 hth
    have F : ∀ a k, ¬ MOD_X9_splitStock t a k → σ2.1 a k = (sI σ t 4 0).1 a k := fun a k hn => (fX9_splitStock _ _ _ _ _ _ w1 a k hn).1
    have hc2 : CV c v σ2 := cv_list hc1 hct (fun a k hn => F a k (by unfold MOD_X9_splitStock; omega))
    have hs2 : CS v s z σ2 := hs1.fr (fun a k q => F a k (by unfold MOD_X9_splitStock; omega))
    have hA2 : SLc v th t [] σ2 := hA.fr (fun a k q => F a k (by unfold MOD_X9_splitStock; omega))
    rw [w1]
    rw [obs_eq]
    rw [show (5 : Int32) + nI th = nI (5 + th) from nI_add 5 th, binn (show th < 4 by omega) (by omega), binn (show 5 + th < 9 by omega) (by omega), pn_cl (show th < 2 ^ 31 by omega), pn_cl (show 5 + th < 2 ^ 31 by omega), hs2.held _ (by omega), c_weightOfSet hc2 ok, hc2.sk th hth, if_pos rfl, if_pos rfl]
    rw [obs_eq]
    have hl := swl_len (v := v) (z := z) (t := th) ok
    rw [← swl_gH ok] at hl ⊢
    obtain ⟨σ', u1, u2⟩ := c_ga_L48 ok hct hcs hst hz hth hj v.H FU 0 [] σ2 hc2 hs2 w2 hA2 (by omega) (by unfold FU; have := ok.H; omega) (by simp only [List.length_nil]; omega)
    exact ⟨σ', u1, u2⟩
  · rw [if_pos (show true = true from rfl), if_neg (by decide)]
    refine ⟨_, rfl, ?_⟩
    have : swl v z th = [] := by
      unfold swl swF
      apply frm_none
      intro s _ _
      unfold isSw aCan
      rw [hj]
      simp
    rw [this]
    exact hA
end CGATHER
