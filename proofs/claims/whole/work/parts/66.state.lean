/-! where things are, as both sides have it -/
section STATES
variable {σ σ' : St_} {c t dr s A o : Nat} {v : Vw}
def bsum (p : Nat → Bool) : Nat → Nat
  | 0 => 0
  | n + 1 => bsum p n ||| (if p n = true then 2 ^ n else 0)
theorem bsum_bit (p : Nat → Bool) (x : Nat) : ∀ n, (bsum p n).testBit x = (decide (x < n) && p x)
  | 0 => by simp [bsum]
  | n + 1 => by
    unfold bsum
    rw [Nat.testBit_or, bsum_bit p x n]
    by_cases h : x = n
    · subst h
      cases hp : p x <;> simp [Nat.testBit_two_pow_self]
    · have e : decide (x < n + 1) = decide (x < n) := by rw [decide_eq_decide]; omega
      rw [e]
      by_cases hp : p n = true
      · rw [if_pos hp, Nat.testBit_two_pow_of_ne (by omega)]; simp
      · rw [if_neg hp]; simp
theorem bsum_lt (p : Nat → Bool) (n : Nat) : bsum p n < 2 ^ n := by
  apply Nat.lt_pow_two_of_testBit
  intro i hi
  rw [bsum_bit]
  simp; omega
def setI (N : Nat) (p : Nat → Bool) : Int32 := nI (bsum p N)
theorem tb_setI {N x : Nat} {p : Nat → Bool} (h : N ≤ 32) : tb (setI N p) x = (decide (x < N) && p x) := by
  unfold setI
  rw [tb_nI, bsum_bit]
  by_cases q : x < N
  · simp [q, show x < 32 by omega]
  · simp [q]
theorem setI_ext {N : Nat} {p : Nat → Bool} {w : Int32} (h : N ≤ 32) (e : ∀ x, x < 32 → tb w x = (decide (x < N) && p x)) : w = setI N p := tb_ext (fun x hx => by rw [e x hx, tb_setI h])
theorem setI_congr {N : Nat} {p q : Nat → Bool} (e : ∀ x, x < N → p x = q x) (h : N ≤ 32) : setI N p = setI N q := setI_ext h (fun x hx => by
  rw [tb_setI h]
  by_cases hx : x < N
  · rw [e x hx]
  · simp [hx])
def Sv : Type := (Nat → Nat) × Nat × Int32
def Sv.wh (v : Sv) : Nat → Nat := v.1
def Sv.hr (v : Sv) : Nat := v.2.1
def Sv.jl (v : Sv) : Int32 := v.2.2
def Sv.OK (v : Vw) (z : Sv) : Prop := (∀ x, x < v.N → z.wh x < v.H ∨ (5 ≤ z.wh x ∧ z.wh x < 5 + v.T) ∨ z.wh x = 9) ∧ (z.hr < v.R)
theorem Sv.OK.wh {v : Vw} {z : Sv} (h : Sv.OK v z) : ∀ x, x < v.N → z.wh x < v.H ∨ (5 ≤ z.wh x ∧ z.wh x < 5 + v.T) ∨ z.wh x = 9 := h.1
theorem Sv.OK.hr {v : Vw} {z : Sv} (h : Sv.OK v z) : z.hr < v.R := h.2
def wcode (h : Nat) : Int32 := if h < 5 then nI h else if h < 9 then nI (h + 5) else -1
theorem wcode_inj {a b : Nat} (ha : a ≤ 9) (hb : b ≤ 9) (h : wcode a = wcode b) : a = b := by
  have : ∀ a b : Fin 10, wcode a.1 = wcode b.1 → a.1 = b.1 := by decide
  exact this ⟨a, by omega⟩ ⟨b, by omega⟩ h
theorem wcode_eq {a b : Nat} (ha : a ≤ 9) (hb : b ≤ 9) : wcode a = wcode b ↔ a = b := ⟨wcode_inj ha hb, fun e => by rw [e]⟩
theorem Sv.OK.le {z : Sv} (h : Sv.OK v z) (ok : v.OK) {x : Nat} (hx : x < v.N) : z.wh x ≤ 9 := by
  have := ok.H
  have := ok.T
  rcases h.wh x hx with q | q | q <;> omega
/-- what a HOLDER has -/
def hset (v : Vw) (z : Sv) (h : Nat) : Int32 := setI v.N (fun x => z.wh x == h)
theorem tb_hset (ok : v.OK) {z : Sv} {h x : Nat} : tb (hset v z h) x = (decide (x < v.N) && z.wh x == h) := tb_setI (by have := ok.N; omega)
def CS (v : Vw) (s : Nat) (z : Sv) (σ : St_) : Prop := (∀ h, h < 9 → σ.1 (s + 1) h = hset v z h) ∧ (σ.1 s 3 = nI z.hr) ∧ (σ.1 s 4 = z.jl)
theorem CS.held {v : Vw} {s : Nat} {z : Sv} {σ : St_} (h : CS v s z σ) : ∀ h, h < 9 → σ.1 (s + 1) h = hset v z h := h.1
theorem CS.hr {v : Vw} {s : Nat} {z : Sv} {σ : St_} (h : CS v s z σ) : σ.1 s 3 = nI z.hr := h.2.1
theorem CS.jl {v : Vw} {s : Nat} {z : Sv} {σ : St_} (h : CS v s z σ) : σ.1 s 4 = z.jl := h.2.2
def RN (v : Vw) (A o : Nat) (z : Sv) (σ : St_) : Prop := (∀ x, x < v.N → σ.1 A (o + x) = wcode (z.wh x)) ∧ (∀ x, v.N ≤ x → x < 10 → σ.1 A (o + x) = -1) ∧ (σ.1 A (o + 11) = nI z.hr) ∧ (σ.1 A (o + 12) = z.jl)
theorem RN.wh {v : Vw} {A o : Nat} {z : Sv} {σ : St_} (h : RN v A o z σ) : ∀ x, x < v.N → σ.1 A (o + x) = wcode (z.wh x) := h.1
theorem RN.no {v : Vw} {A o : Nat} {z : Sv} {σ : St_} (h : RN v A o z σ) : ∀ x, v.N ≤ x → x < 10 → σ.1 A (o + x) = -1 := h.2.1
theorem RN.hr {v : Vw} {A o : Nat} {z : Sv} {σ : St_} (h : RN v A o z σ) : σ.1 A (o + 11) = nI z.hr := h.2.2.1
theorem RN.jl {v : Vw} {A o : Nat} {z : Sv} {σ : St_} (h : RN v A o z σ) : σ.1 A (o + 12) = z.jl := h.2.2.2
def RW (v : Vw) (z : Sv) (σ : St_) : Prop := (∀ x, x < v.N → σ.1 263 x = wcode (z.wh x)) ∧ (∀ x, v.N ≤ x → x < 10 → σ.1 263 x = -1) ∧ (σ.1 233 62 = nI z.hr) ∧ (σ.1 233 63 = z.jl)
theorem RW.wh {v : Vw} {z : Sv} {σ : St_} (h : RW v z σ) : ∀ x, x < v.N → σ.1 263 x = wcode (z.wh x) := h.1
theorem RW.no {v : Vw} {z : Sv} {σ : St_} (h : RW v z σ) : ∀ x, v.N ≤ x → x < 10 → σ.1 263 x = -1 := h.2.1
theorem RW.hr {v : Vw} {z : Sv} {σ : St_} (h : RW v z σ) : σ.1 233 62 = nI z.hr := h.2.2.1
theorem RW.jl {v : Vw} {z : Sv} {σ : St_} (h : RW v z σ) : σ.1 233 63 = z.jl := h.2.2.2
theorem CS.fr {z : Sv} (h : CS v s z σ) (e : ∀ a k, a = s ∨ a = s + 1 → σ'.1 a k = σ.1 a k) : CS v s z σ' := by
  refine ⟨fun y hy => ?_, ?_, ?_⟩
  · rw [e _ _ (by omega)]; exact h.held y hy
  · rw [e _ _ (by omega)]; exact h.hr
  · rw [e _ _ (by omega)]; exact h.jl
theorem RN.fr {z : Sv} (h : RN v A o z σ) (hN : v.N ≤ 10) (e : ∀ k, o ≤ k → k < o + 17 → σ'.1 A k = σ.1 A k) : RN v A o z σ' := by
  refine ⟨fun x hx => ?_, fun x h1 h2 => ?_, ?_, ?_⟩
  · rw [e _ (by omega) (by omega)]; exact h.wh x hx
  · rw [e _ (by omega) (by omega)]; exact h.no x h1 h2
  · rw [e _ (by omega) (by omega)]; exact h.hr
  · rw [e _ (by omega) (by omega)]; exact h.jl
theorem RW.fr {z : Sv} (h : RW v z σ) (e : ∀ a k, a = 263 ∨ (a = 233 ∧ (k = 62 ∨ k = 63)) → σ'.1 a k = σ.1 a k) : RW v z σ' := by
  refine ⟨fun x hx => ?_, fun x h1 h2 => ?_, ?_, ?_⟩
  · rw [e _ _ (by omega)]; exact h.wh x hx
  · rw [e _ _ (by omega)]; exact h.no x h1 h2
  · rw [e _ _ (by omega)]; exact h.hr
  · rw [e _ _ (by omega)]; exact h.jl
theorem hcode_w {h : Nat} (hh : h < 9) : hcode h = wcode h := by
  have : ∀ h : Fin 9, hcode h.1 = wcode h.1 := by decide
  exact this ⟨h, hh⟩
/-- the rest of a state -/
def Irest (Tn s A o : Nat) (σ : St_) : Prop := (∃ n, n ≤ 200 ∧ σ.1 s 2 = nI n ∧ σ.1 A (o + 10) = nI n) ∧ (∃ n, n < 2 ^ Tn ∧ σ.1 s 4 = nI n) ∧ (∀ t, t < 4 → σ.1 (s + 2) t = σ.1 A (o + 13 + t))
theorem IS_of (ok : v.OK) {z : Sv} (hz : Sv.OK v z) (h1 : CS v s z σ) (h2 : RN v A o z σ) (h3 : Irest v.T s A o σ) : IS v.N v.H v.T v.R s A o σ := by
  have := ok.H
  have := ok.T
  have := ok.N
  obtain ⟨r1, ⟨j, j1, j2⟩, r3⟩ := h3
  refine ⟨fun h hh => ⟨bsum (fun x => z.wh x == h) v.N, bsum_lt _ _, h1.held h hh, fun x hx => ?_⟩, fun x hx => ?_, h2.no, r1, ⟨z.hr, hz.hr, h1.hr, h2.hr⟩, ⟨j, j1, j2, ?_⟩, r3⟩
  · rw [bsum_bit, h2.wh x hx, hcode_w hh, wcode_eq (hz.le ok hx) (by omega)]
    simp [hx]
  · rw [h2.wh x hx]
    rcases hz.wh x hx with q | q | q
    · exact Or.inr (Or.inl ⟨z.wh x, q, by unfold wcode; rw [if_pos (by omega)]⟩)
    · refine Or.inr (Or.inr ⟨z.wh x - 5, by omega, ?_⟩)
      unfold wcode
      rw [if_neg (by omega), if_pos (by omega)]
      congr 1; omega
    · exact Or.inl (by rw [q]; rfl)
  · rw [h2.jl, ← h1.jl, j2]
theorem of_IS (ok : v.OK) (h : IS v.N v.H v.T v.R s A o σ) : ∃ z : Sv, Sv.OK v z ∧ CS v s z σ ∧ RN v A o z σ ∧ Irest v.T s A o σ := by
  have := ok.H
  have := ok.T
  have := ok.N
  obtain ⟨h1, h2, h3, h4, ⟨hr, q1, q2, q3⟩, ⟨j, j1, j2, j3⟩, h7⟩ := h
  have key : ∀ x, ∃ w : Nat, x < v.N → (w < v.H ∨ (5 ≤ w ∧ w < 5 + v.T) ∨ w = 9) ∧ σ.1 A (o + x) = wcode w := by
    intro x
    by_cases hx : x < v.N
    · rcases h2 x hx with e | ⟨h, hh, e⟩ | ⟨t, ht, e⟩
      · exact ⟨9, fun _ => ⟨by omega, e⟩⟩
      · exact ⟨h, fun _ => ⟨by omega, by rw [e]; unfold wcode; rw [if_pos (by omega)]⟩⟩
      · refine ⟨5 + t, fun _ => ⟨by omega, ?_⟩⟩
        rw [e]
        unfold wcode
        rw [if_neg (by omega), if_pos (by omega)]
        congr 1; omega
    · exact ⟨0, fun q => absurd q hx⟩
  obtain ⟨wh, hw⟩ := Classical.skolem.mp key
  have hz : Sv.OK v ⟨wh, hr, nI j⟩ := ⟨fun x hx => (hw x hx).1, q1⟩
  refine ⟨⟨wh, hr, nI j⟩, hz, ⟨fun y hy => ?_, q2, j2⟩, ⟨fun x hx => (hw x hx).2, h3, q3, j3⟩, h4, ⟨j, j1, j2⟩, h7⟩
  obtain ⟨m, m1, m2, m3⟩ := h1 y hy
  rw [m2]
  apply setI_ext (by omega)
  intro x hx
  by_cases hxN : x < v.N
  · rw [tb_nI]
    have e := m3 x hxN
    rw [(hw x hxN).2, hcode_w hy, wcode_eq (show wh x ≤ 9 from hz.le ok hxN) (by omega)] at e
    show (decide (x < 32) && m.testBit x) = (decide (x < v.N) && (wh x == y))
    simp only [hx, hxN, decide_true, Bool.true_and]
    rw [Bool.eq_iff_iff]
    simpa using e
  · rw [tb_hi m1 (by omega)]
    simp [hxN]
/-! methods -/
theorem holIx_w {i : Nat} {b : Bool} (h : holIx i b < 9) (hi : i < 5) : mX12_whereOf (nI i) b σ = some (wcode (holIx i b)) := by
  unfold mX12_whereOf holIx wcode
  unfold holIx at h
  cases b
  · simp [hi]
  · simp only [if_true] at h ⊢
    rw [if_neg (by omega), if_pos (by omega), show (10 : Int32) = nI 10 from rfl, nI_add]
    congr 2; omega
theorem r_hasAt_L (hr : RV v σ) (ok : v.OK) {z : Sv} (hz : Sv.OK v z) (hw : RW v z σ) {h : Nat} (hh : h ≤ 9) : ∀ k n i, i + k = v.N → k < n → mX12_hasAt_L4 233 σ (wcode h) n (nI (bsum (fun x => z.wh x == h) i)) (nI i) = some (hset v z h)
  | 0, n, i, hi, hn => by
    have := ok.N
    obtain ⟨m, rfl, -⟩ := fu_suc hn
    unfold mX12_hasAt_L4
    rw [hr.N, if_pos (nI_le (by omega) (by omega))]
    unfold hset setI
    rw [show i = v.N by omega]
  | k + 1, n, i, hi, hn => by
    have := ok.N
    obtain ⟨m, rfl, hm⟩ := fu_suc hn
    have ih := r_hasAt_L hr ok hz hw hh k m (i + 1) (by omega) (by omega)
    unfold mX12_hasAt_L4
    dsimp only [bnd]
    rw [hr.N, if_neg (nI_ge (by omega) (by omega)), binn (by omega) (by omega), pn_cl (by omega), show 233 + 30 = 263 from rfl, hw.wh i (by omega), nI_1, shl_nI (by omega), nI_or, ← ih, if_pos rfl]
    have we := wcode_eq (hz.le ok (show i < v.N by omega)) hh
    by_cases q : z.wh i = h
    · rw [if_pos (we.mpr q)]
      conv => rhs; unfold bsum
      rw [if_pos (by simp [q])]
    · rw [if_neg (fun e => q (we.mp e))]
      conv => rhs; unfold bsum
      rw [if_neg (by simp [q]), ← nI_or]
      rfl
theorem r_hasAt (hr : RV v σ) (ok : v.OK) {z : Sv} (hz : Sv.OK v z) (hw : RW v z σ) {h : Nat} (hh : h ≤ 9) : mX12_hasAt 233 (wcode h) σ = some (hset v z h) := by
  have := ok.N
  unfold mX12_hasAt
  exact r_hasAt_L hr ok hz hw hh v.N FU 0 (by omega) (by unfold FU; omega)
theorem r_sumAt_L (hr : RV v σ) (ok : v.OK) {z : Sv} (hz : Sv.OK v z) (hw : RW v z σ) {h i : Nat} {b : Bool} (hh : h ≤ 9) (hi : holIx i b < 9) : ∀ k n y (a : Int32), y + k = v.N → k < n → mX12_sumAt_L6 233 σ (wcode h) (nI i) b n a (nI y) = some (a + sumI (fun x => if tb (hset v z h) x = true then v.va (holIx i b) x else 0) y k)
  | 0, n, y, a, hy, hn => by
    have := ok.N
    obtain ⟨m, rfl, -⟩ := fu_suc hn
    unfold mX12_sumAt_L6 sumI
    rw [hr.N, if_pos (nI_le (by omega) (by omega)), Int32.add_zero]
  | k + 1, n, y, a, hy, hn => by
    have := ok.N
    obtain ⟨m, rfl, hm⟩ := fu_suc hn
    have ih := fun a => r_sumAt_L hr ok hz hw hh hi k m (y + 1) a (by omega) (by omega)
    unfold mX12_sumAt_L6 sumI
    dsimp only [bnd]
    rw [hr.N, if_neg (nI_ge (by omega) (by omega)), binn (by omega) (by omega), pn_cl (by omega), show 233 + 30 = 263 from rfl, hw.wh y (by omega), nI_1, r_trueWorth hr ok (by omega) hi, if_pos rfl, tb_hset ok]
    dsimp only [Option.bind]
    rw [ih, ih]
    have we := wcode_eq (hz.le ok (show y < v.N by omega)) hh
    by_cases q : z.wh y = h
    · rw [if_pos (we.mpr q)]
      simp [q, show y < v.N by omega, Int32.add_assoc]
    · rw [if_neg (fun e => q (we.mp e))]
      simp [q]
theorem r_sumAt (hr : RV v σ) (ok : v.OK) {z : Sv} (hz : Sv.OK v z) (hw : RW v z σ) {h i : Nat} {b : Bool} (hh : h ≤ 9) (hi : holIx i b < 9) : mX12_sumAt 233 (wcode h) (nI i) b σ = some (aV v (holIx i b) (hset v z h)) := by
  have := ok.N
  unfold mX12_sumAt
  rw [show (0 : Int32) = nI 0 from rfl, r_sumAt_L hr ok hz hw hh hi v.N FU 0 _ (by omega) (by unfold FU; omega)]
  exact congrArg some (Int32.zero_add _)
/-- load -/
theorem r_load_L {k26 : St_ → Option St_} : ∀ k n i (σ : St_), i + k = 10 → k < n → ∃ σ' : St_, mX12_load_L2 233 k26 n (nI i) σ = k26 σ' ∧ σ'.2 = σ.2 ∧ ∀ a b, σ'.1 a b = if a = 263 ∧ i ≤ b ∧ b < 10 then σ.1 262 b else σ.1 a b
  | 0, n, i, σ, hi, hn => by
    obtain ⟨m, rfl, -⟩ := fu_suc hn
    refine ⟨σ, ?_, rfl, fun a b => by rw [if_neg (by omega)]⟩
    unfold mX12_load_L2
    rw [show (10 : Int32) = nI 10 from rfl, if_pos (nI_le (by omega) (by omega))]
  | k + 1, n, i, σ, hi, hn => by
    obtain ⟨m, rfl, hm⟩ := fu_suc hn
    obtain ⟨σ', e1, e2, e3⟩ := r_load_L (k26 := k26) k m (i + 1) (sI σ 263 i (σ.1 262 i)) (by omega) (by omega)
    refine ⟨σ', ?_, e2, fun a b => ?_⟩
    · unfold mX12_load_L2
      dsimp only [bnd]
      rw [show (10 : Int32) = nI 10 from rfl, if_neg (nI_ge (by omega) (by omega)), binn (by omega) (by omega), binn (by omega) (by omega), pn_cl (by omega), nI_1]
      exact e1
    · rw [e3, sI_get, sI_get, if_neg (show ¬ (262 = 263 ∧ b = i) by omega)]
      by_cases q : a = 263 ∧ i ≤ b ∧ b < 10
      · rw [if_pos q]
        by_cases q2 : b = i
        · rw [if_neg (by omega), if_pos ⟨q.1, q2⟩, q2]
        · rw [if_pos (by omega)]
      · rw [if_neg q, if_neg (by omega), if_neg (by omega)]
theorem r_load (hN : v.N ≤ 10) {z : Sv} (hn : RN v 262 0 z σ) : ∃ σ' : St_, mX12_load 233 σ = some σ' ∧ RW v z σ' := by
  unfold mX12_load
  obtain ⟨σ1, e1, e2, e3⟩ := r_load_L (k26 := (fun (σ3 : St_) => (if bin (11 : Int32) 20 = true then bnd (σ3.1 (233 + 29) (11 : Int32).toNatClampNeg) fun v4 =>
 (bnd (sI σ3 233 62 v4) fun σ5 =>
 (if bin (12 : Int32) 20 = true then bnd (σ5.1 (233 + 29) (12 : Int32).toNatClampNeg) fun v6 =>
 (bnd (sI σ5 233 63 v6) fun σ7 =>
 (some σ7))
 else none))
 else none))) 10 FU 0 σ (by omega) (by unfold FU; omega)
  refine ⟨sI (sI σ1 233 62 (σ1.1 262 11)) 233 63 (σ1.1 262 12), ?_, ?_⟩
  · refine e1.trans ?_
    rfl
  · have h0 := hn.hr
    have h1 := hn.jl
    refine ⟨fun x hx => ?_, fun x q1 q2 => ?_, ?_, ?_⟩
    · have := hn.wh x hx
      rw [Nat.zero_add] at this
      simp [sI_get, e3, show x < 10 by omega, this]
    · have := hn.no x q1 q2
      rw [Nat.zero_add] at this
      simp [sI_get, e3, q2, this]
    · simp [sI_get, e3]; exact h0
    · simp [sI_get, e3]; exact h1
/-- the class: who has it -/
theorem c_holderOf_L (ok : v.OK) {z : Sv} (hz : Sv.OK v z) (hs : CS v s z σ) {x : Nat} (hx : x < v.N) : ∀ k n h, h + k = 9 → k < n → (h ≤ z.wh x) → mX8_holderOf_L2 s σ (nI x) n (nI h) = some (if z.wh x < 9 then nI (z.wh x) else -1)
  | 0, n, h, hi, hn, hl => by
    obtain ⟨m, rfl, -⟩ := fu_suc hn
    unfold mX8_holderOf_L2
    rw [show (9 : Int32) = nI 9 from rfl, if_pos (nI_le (by omega) (by omega)), if_neg (by omega)]
  | k + 1, n, h, hi, hn, hl => by
    have := ok.N
    obtain ⟨m, rfl, hm⟩ := fu_suc hn
    unfold mX8_holderOf_L2
    dsimp only [bnd]
    rw [show (9 : Int32) = nI 9 from rfl, if_neg (nI_ge (by omega) (by omega)), binn (by omega) (by omega), pn_cl (by omega), hs.held h (by omega), tb_get _ (by omega), tb_hset ok, nI_1]
    by_cases q : z.wh x = h
    · simp [q, hx]
      intro q2
      omega
    · have ih := c_holderOf_L ok hz hs hx k m (h + 1) (by omega) (by omega) (by omega)
      simp [q, ih]
theorem c_holderOf (ok : v.OK) {z : Sv} (hz : Sv.OK v z) (hs : CS v s z σ) {x : Nat} (hx : x < v.N) : mX8_holderOf s (nI x) σ = some (if z.wh x < 9 then nI (z.wh x) else -1) :=
  c_holderOf_L ok hz hs hx 9 FU 0 (by omega) (by unfold FU; omega) (by omega)
end STATES
