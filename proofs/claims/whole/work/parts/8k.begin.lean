/-! a tour's start; the first state with the THING; the next HOUR -/
section BEGIN
variable {σ σ' : St_} {c dr s t th x : Nat} {v : Vw} {z : Sv} {w w' w0 : Nat → Nat}
theorem key_step (ok : v.OK) {i : Nat} (hi : i < 5) : lN (bsum (kbit v w) (10 * i)) ||| ((setI v.N (fun x => w x == i)).toInt64 <<< ((nI (10 * i)).toInt64 &&& 63)) = lN (bsum (kbit v w) (10 * (i + 1))) := by
  have oN := ok.N
  have hb : bsum (fun x => w x == i) v.N < 2 ^ 31 := Nat.lt_of_lt_of_le (bsum_lt _ _) (Nat.pow_le_pow_right (by omega) (by omega))
  unfold setI
  rw [nI_l hb]
  apply tbL_ext
  intro j hj
  rw [tbL_or, tbL_lN, tbL_lN, tbL_shl _ (by omega) hj, tbL_lN, bsum_bit, bsum_bit, bsum_bit]
  unfold kbit
  by_cases q1 : j < 10 * i
  · have a1 : ¬ 10 * i ≤ j := by omega
    have a2 : j < 10 * (i + 1) := by omega
    simp [q1, a1, a2]
  · have a1 : 10 * i ≤ j := by omega
    by_cases q2 : j < 10 * (i + 1)
    · have a3 : j - 10 * i = j % 10 := by omega
      have a4 : j / 10 = i := by omega
      have a5 : j % 10 < 64 := by omega
      rw [a3, a4]
      simp only [q1, a1, q2, hj, a5, decide_true, decide_false, Bool.true_and, Bool.false_and, Bool.and_false, Bool.false_or]
    · have a3 : ¬ j - 10 * i < v.N := by omega
      simp [q1, q2, a3]
theorem c_fill : ∀ r m i (σ : St_), i + r = 4096 → r < m → ∃ σ', mJ7_fill_53178_L5 220 4096 (-1) (nI 4096) m (nI i) σ = some σ' ∧ ∀ a b, σ'.1 a b = if a = 220 ∧ i ≤ b ∧ b < 4096 then -1 else σ.1 a b
  | 0, m, i, σ, hi, hm => by
    obtain ⟨m, rfl, -⟩ := fu_suc hm
    refine ⟨σ, ?_, fun a b => by rw [if_neg (by omega)]⟩
    unfold mJ7_fill_53178_L5
    rw [if_pos (nI_le (by omega) (by omega))]
  | r + 1, m, i, σ, hi, hm => by
    obtain ⟨m, rfl, hm⟩ := fu_suc hm
    obtain ⟨σ', e1, e2⟩ := c_fill r m (i + 1) (sI σ 220 i (-1)) (by omega) (by omega)
    refine ⟨σ', ?_, fun a b => ?_⟩
    · unfold mJ7_fill_53178_L5
      simp only [bnd_eq]
      rw [if_neg (nI_ge (by omega) (by omega)), binn (show i < 4096 by omega) (by omega), if_pos rfl, pn_cl (by omega), nI_1]
      exact e1
    · rw [e2, sI_get]
      by_cases q : a = 220 ∧ i + 1 ≤ b ∧ b < 4096
      · rw [if_pos q, if_pos (by omega)]
      · rw [if_neg q]
        by_cases q2 : a = 220 ∧ b = i
        · rw [if_pos q2, if_pos (by omega)]
        · rw [if_neg q2, if_neg (by omega)]
theorem c_fill_all : ∃ σ', mJ7_fill_53178 220 4096 (-1) σ = some σ' ∧ ∀ a b, σ'.1 a b = if a = 220 ∧ 0 ≤ b ∧ b < 4096 then -1 else σ.1 a b := by
  obtain ⟨B, b1, b2⟩ := c_fill 4096 FU 0 σ (by omega) (by unfold FU; omega)
  rw [show nI 0 = (0 : Int32) from rfl] at b1
  refine ⟨B, ?_, b2⟩
  unfold mJ7_fill_53178
  rw [bnd_eq, show Int32.ofNat 4096 = nI 4096 from rfl, b1]
theorem c_begin_L43 (ok : v.OK) (ht : t < v.T) {k88 : Int64 → St_ → Option St_} : ∀ r m i (σ : St_), i + r = 5 → r < m → (∀ h, h < 9 → σ.1 45 h = hset v z h) → σ.1 205 7 = setI v.N (fun x => decide (z.wh x < i) || z.wh x == 5 + t) → ∃ σ', mX7_begin_L43 205 44 k88 m (lN (bsum (kbit v z.wh) (10 * i))) (nI i) σ = k88 (keyL v z.wh) σ' ∧ σ'.1 205 7 = setI v.N (fun x => decide (z.wh x < 5) || z.wh x == 5 + t) ∧ ∀ a k, ¬ (a = 205 ∧ k = 7) → σ'.1 a k = σ.1 a k
  | 0, m, i, σ, hi, hm, hS, h7 => by
    obtain ⟨m, rfl, -⟩ := fu_suc hm
    have e : i = 5 := by omega
    subst e
    refine ⟨σ, ?_, h7, fun a k _ => rfl⟩
    unfold mX7_begin_L43
    rw [if_pos (show (5 : Int32) ≤ nI 5 by decide)]
    rfl
  | r + 1, m, i, σ, hi, hm, hS, h7 => by
    have oN := ok.N
    obtain ⟨m, rfl, hm⟩ := fu_suc hm
    have hv : σ.1 45 i = setI v.N (fun x => z.wh x == i) := hS i (by omega)
    have e7 : setI v.N (fun x => decide (z.wh x < i) || z.wh x == 5 + t) ||| setI v.N (fun x => z.wh x == i) = setI v.N (fun x => decide (z.wh x < i + 1) || z.wh x == 5 + t) := by
      apply setI_ext (by omega)
      intro y hy
      rw [tb_or, tb_setI (by omega), tb_setI (by omega)]
      by_cases q : z.wh y = i
      · have a1 : z.wh y < i + 1 := by omega
        have a2 : ¬ z.wh y < i := by omega
        simp [q]
        exact fun h _ => h
      · have a1 : z.wh y < i + 1 ↔ z.wh y < i := by omega
        simp [q, a1]
    obtain ⟨σ', e1, e2, e3⟩ := c_begin_L43 ok ht (k88 := k88) r m (i + 1) (sI σ 205 7 (setI v.N (fun x => decide (z.wh x < i + 1) || z.wh x == 5 + t))) (by omega) (by omega) (fun h hh => by rw [sI_get, if_neg (by omega)]; exact hS h hh) (by rw [sI_get, if_pos ⟨rfl, rfl⟩])
    refine ⟨σ', ?_, e2, fun a k hn => by rw [e3 a k hn, sI_get, if_neg (by omega)]⟩
    unfold mX7_begin_L43
    simp only [bnd_eq]
    rw [if_neg (show ¬ (5 : Int32) ≤ nI i from nI_ge (b := 5) (by omega) (by omega)), binn (show i < 9 by omega) (by omega), if_pos rfl, if_pos rfl, pn_cl (by omega), show 44 + 1 = 45 from rfl, hv, h7, e7, sI_get, if_neg (by omega), hv, ten_mul, key_step ok (by omega), nI_1]
    exact e1
theorem tc_begin (ok : v.OK) (hz : Sv.OK v z) (ht : t < v.T) (hS : CS v 44 z σ) : ∃ σ', mX7_begin 205 44 (nI t) σ = some σ' ∧ TC v [(z.wh, none, none, 0)] 0 σ' ∧ ScO v t z.wh z.hr z.jl σ' := by
  have oN := ok.N
  have oT := ok.T
  obtain ⟨A, a1, a2⟩ := c_copy (σ := σ) (t := 215) (p := 44) (by omega)
  obtain ⟨B, b1, b2⟩ := c_fill_all (σ := A)
  have B44 : ∀ a k, a = 44 ∨ a = 45 → B.1 a k = σ.1 a k := fun a k q => by rw [b2, if_neg (by omega), a2, if_neg (by omega), if_neg (by omega), if_neg (by omega)]
  generalize hC : sI (sI (sI B 205 5 0) 205 6 0) 205 7 (hset v z (5 + t)) = C
  have C0 : ∀ a k, ¬ (a = 205 ∧ 5 ≤ k ∧ k ≤ 7) → C.1 a k = B.1 a k := fun a k q => by rw [← hC, sI_get, if_neg (by omega), sI_get, if_neg (by omega), sI_get, if_neg (by omega)]
  have C5 : C.1 205 5 = 0 := by rw [← hC, sI_get, if_neg (by omega), sI_get, if_neg (by omega), sI_get, if_pos ⟨rfl, rfl⟩]
  have C6 : C.1 205 6 = 0 := by rw [← hC, sI_get, if_neg (by omega), sI_get, if_pos ⟨rfl, rfl⟩]
  have C7 : C.1 205 7 = setI v.N (fun x => decide (z.wh x < 0) || z.wh x == 5 + t) := by
    rw [← hC, sI_get, if_pos ⟨rfl, rfl⟩]
    apply setI_ext (by omega)
    intro y hy
    rw [tb_hset ok]
    simp
  obtain ⟨D, d1, d2, d3⟩ := c_begin_L43 (z := z) ok ht (k88 := (fun (y12 : Int64) (σ13 : St_) => ((mX7_come 205 y12 (-1 : Int32) σ13).bind fun r14 => (some r14.2)))) 5 FU 0 C (by omega) (by unfold FU; omega) (fun h hh => by rw [C0 45 h (by omega), B44 45 h (by omega)]; exact hS.held h hh) C7
  have TD : TC v [] 0 D := by
    refine ⟨by rw [d3 _ _ (by omega), C5]; rfl, by rw [d3 _ _ (by omega), C6]; rfl, Nat.le_refl 0, by simp, fun i q hq => by simp at hq, ⟨fun i h1 h2 => ?_, fun a b j _ _ h1 h2 => ?_, fun a ha => ?_⟩⟩
    · simp at h2
    · simp at h2
    · left
      rw [d3 _ _ (by omega), C0 _ _ (by omega), b2, if_pos (by omega)]
  have hN : NdO v t z.wh [] := fun i q hq => by simp at hq
  obtain ⟨E, f1, f2⟩ := (c_come (q := (z.wh, none, none, 0)) ok TD hN (NIn_0 ok hz)).2.1 rfl (by simp)
  have f1' : mX7_come 205 (keyL v z.wh) (-1) D = some (true, E) := f1
  have FE : ∀ a k, ¬ ((218 ≤ a ∧ a < 221) ∨ (a = 205 ∧ k = 5)) → E.1 a k = D.1 a k := fun a k q => (fX7_come _ _ _ _ _ f1' a k (by unfold MOD_X7_come; omega)).1
  have FD : ∀ a k, ¬ a = 205 → D.1 a k = B.1 a k := fun a k q => by rw [d3 a k (by omega), C0 a k (by omega)]
  refine ⟨E, ?_, f2, ⟨?_, ?_, fun y y1 y2 y3 => ?_, ?_⟩⟩
  · unfold mX7_begin
    simp only [bnd_eq]
    rw [show 205 + 10 = 215 from rfl, a1, obs_eq, show 205 + 15 = 220 from rfl, b1, obs_eq, show (5 : Int32) + nI t = nI (5 + t) from nI_add 5 t, binn (show 5 + t < 9 by omega) (by omega), if_pos rfl, pn_cl (by omega), show 44 + 1 = 45 from rfl, sI_get, if_neg (by omega), sI_get, if_neg (by omega), B44 _ _ (by omega), hS.held (5 + t) (by omega), hC]
    refine Eq.trans d1 ?_
    rw [f1', obs_eq]
  · rw [FE _ _ (by omega), FD _ _ (by omega), b2, if_neg (by omega), a2, if_neg (by omega), if_neg (by omega), if_pos (by omega)]; exact hS.hr
  · rw [FE _ _ (by omega), FD _ _ (by omega), b2, if_neg (by omega), a2, if_neg (by omega), if_neg (by omega), if_pos (by omega)]; exact hS.jl
  · rw [FE _ _ (by omega), FD _ _ (by omega), b2, if_neg (by omega), a2, if_pos (by omega)]; exact hS.held y y2
  · rw [FE _ _ (by omega)]; exact d2
/-- the first state in which the THIEF has the THING -/
def fwF (t x : Nat) (L : List Nd) : Nat → Nat → Option Nat
  | 0, _ => none
  | n + 1, i => match L[i]? with
    | none => none
    | some q => if q.1 x = 5 + t then some i else fwF t x L n (i + 1)
theorem fwF_1 {L : List Nd} {n i : Nat} {q : Nd} (hq : L[i]? = some q) : fwF t x L (n + 1) i = if q.1 x = 5 + t then some i else fwF t x L n (i + 1) := by
  conv => lhs; unfold fwF
  rw [hq]
theorem fwF_spec {L : List Nd} : ∀ n i g, fwF t x L n i = some g → i ≤ g ∧ ∃ q, L[g]? = some q
  | 0, i, g, h => by cases h
  | n + 1, i, g, h => by
    cases hq : L[i]? with
    | none =>
      unfold fwF at h
      rw [hq] at h
      cases h
    | some q =>
      rw [fwF_1 hq] at h
      by_cases q1 : q.1 x = 5 + t
      · rw [if_pos q1] at h
        cases h
        exact ⟨Nat.le_refl _, q, hq⟩
      · rw [if_neg q1] at h
        obtain ⟨a, b⟩ := fwF_spec n (i + 1) g h
        exact ⟨by omega, b⟩
theorem fwF_none {L : List Nd} (h : ∀ (i : Nat) (q : Nd), L[i]? = some q → ¬ q.1 x = 5 + t) : ∀ n i, fwF t x L n i = none
  | 0, i => rfl
  | n + 1, i => by
    cases hq : L[i]? with
    | none =>
      unfold fwF
      rw [hq]
    | some q => rw [fwF_1 hq, if_neg (h i q hq)]; exact fwF_none h n (i + 1)
theorem c_fw_L15 (ok : v.OK) (hx : x < v.N) {L : List Nd} {ly : Nat} (hT : TC v L ly σ) (hN : NdO v t w0 L) (hm : w0 x < 5 ∨ w0 x = 5 + t) : ∀ n m i, i + n = L.length → n < m → mX7_firstWith_L15 205 σ (nI x) m (nI i) = some (encO (fwF t x L n i))
  | 0, m, i, hi, hn => by
    have := hT.2.2.2.1
    obtain ⟨m, rfl, -⟩ := fu_suc hn
    unfold mX7_firstWith_L15
    rw [hT.1, if_pos (nI_le (by omega) (by omega))]
    rfl
  | n + 1, m, i, hi, hn => by
    have hl := hT.2.2.2.1
    have oN := ok.N
    have oH := ok.H
    obtain ⟨m, rfl, hn⟩ := fu_suc hn
    have ih := c_fw_L15 ok hx hT hN hm n m (i + 1) (by omega) (by omega)
    have hq : L[i]? = some L[i] := List.getElem?_eq_getElem (by omega)
    generalize L[i] = q at hq
    have nq := (hN i q hq x hx).1 hm
    unfold mX7_firstWith_L15
    simp only [bnd_eq]
    rw [hT.1, if_neg (nI_ge (by omega) (by omega)), binn (show i < 2000 by omega) (by omega), if_pos rfl, pn_cl (by omega), show 205 + 13 = 218 from rfl, (hT.2.2.2.2.1 i q hq).1, c_inHouses ok, obs_eq, tb_get _ (by omega), tb_setI (by omega), nI_1, ih, fwF_1 hq]
    by_cases q1 : q.1 x = 5 + t
    · have e : (decide (x < v.N) && decide (q.1 x < 5)) = false := by simp; omega
      rw [if_pos q1, e]
      rfl
    · have e : (decide (x < v.N) && decide (q.1 x < 5)) = true := by simp; omega
      rw [if_neg q1, e]
      rfl
theorem c_firstWith (ok : v.OK) (hx : x < v.N) {L : List Nd} {ly first : Nat} (hT : TC v L ly σ) (hN : NdO v t w0 L) (h7 : σ.1 205 7 = setI v.N (fun x => decide (w0 x < 5) || w0 x == 5 + t)) (hf : first ≤ L.length) : mX7_firstWith 205 (nI first) (nI x) σ = some (encO (fwF t x L (L.length - first) first)) := by
  have oN := ok.N
  have hl := hT.2.2.2.1
  unfold mX7_firstWith
  rw [h7, tb_get _ (by omega), tb_setI (by omega)]
  by_cases q : w0 x < 5 ∨ w0 x = 5 + t
  · have e : (decide (x < v.N) && (decide (w0 x < 5) || w0 x == 5 + t)) = true := by simp; omega
    rw [e, if_pos rfl, if_neg (show ¬ (1 : Int32) = 0 by decide)]
    exact c_fw_L15 ok hx hT hN q _ FU first (by omega) (by unfold FU; omega)
  · have e : (decide (x < v.N) && (decide (w0 x < 5) || w0 x == 5 + t)) = false := by
      have a1 : ¬ w0 x < 5 := fun h => q (Or.inl h)
      have a2 : ¬ w0 x = 5 + t := fun h => q (Or.inr h)
      simp [a1, a2]
    rw [e, fwF_none (fun i p hp => ?_)]
    · rfl
    · rw [(hN i p hp x hx).2 q]
      exact fun h => q (Or.inr h)
theorem r_fw_L64 (ok : v.OK) (hx : x < v.N) (ht : t < v.T) {L : List Nd} {ly : Nat} (hT : TR v L ly σ) (hl : L.length ≤ 2000) (h9 : ∀ (i : Nat) (q : Nd), L[i]? = some q → q.1 x ≤ 9) {x3 : Bool} {x4 : Int32} {k107 : Option (Int32 × St_)} {k92 : Int32 → Option (Int32 × St_)} : ∀ n m i, i + n = L.length → n < m → mX12_tour_L64 233 σ (nI t) (nI x) x3 x4 k107 k92 m (nI i) = (fwF t x L n i).elim k107 (fun g => k92 (nI g))
  | 0, m, i, hi, hn => by
    obtain ⟨m, rfl, -⟩ := fu_suc hn
    unfold mX12_tour_L64
    rw [hT.1, if_pos (nI_le (by omega) (by omega))]
    rfl
  | n + 1, m, i, hi, hn => by
    have oN := ok.N
    have oT := ok.T
    obtain ⟨m, rfl, hn⟩ := fu_suc hn
    have ih := r_fw_L64 ok hx ht hT hl h9 (x3 := x3) (x4 := x4) (k107 := k107) (k92 := k92) n m (i + 1) (by omega) (by omega)
    have hq : L[i]? = some L[i] := List.getElem?_eq_getElem (by omega)
    generalize L[i] = q at hq
    have e : (10 : Int32) + nI t = wcode (5 + t) := by
      unfold wcode
      rw [if_neg (by omega), if_pos (by omega), show (10 : Int32) = nI 10 from rfl, nI_add]
      congr 1
      omega
    unfold mX12_tour_L64
    simp only [bnd_eq]
    rw [hT.1, if_neg (nI_ge (by omega) (by omega)), ten_mul, nI_add, binn (show 10 * i + x < 20020 by omega) (by omega), if_pos rfl, pn_cl (by omega), show 233 + 33 = 266 from rfl, (hT.2.2.2 i q hq).1 x hx, e, nI_1, ih, fwF_1 hq]
    by_cases q1 : q.1 x = 5 + t
    · rw [if_pos q1, if_pos (by rw [q1])]
      rfl
    · rw [if_neg q1, if_neg (fun h => q1 (wcode_inj (h9 i q hq) (by omega) h))]
theorem c_pass2 (ok : v.OK) {hr : Nat} {jl : Int32} (hh : hr < v.R) (h3 : σ.1 215 3 = nI hr) (h4 : σ.1 215 4 = jl) : ∃ σ', mX8_passHour 215 (nI v.R) σ = some σ' ∧ σ'.1 215 3 = nI ((svK w hr jl).tick v).hr ∧ σ'.1 215 4 = ((svK w hr jl).tick v).jl ∧ ∀ a k, ¬ (a = 215 ∧ 2 ≤ k ∧ k ≤ 4) → σ'.1 a k = σ.1 a k := by
  have h9 := ok.R
  unfold mX8_passHour
  simp only [bnd_eq]
  have g : (sI σ 215 3 (σ.1 215 3 + 1)).1 215 3 = nI (hr + 1) := by rw [sI_get, if_pos ⟨rfl, rfl⟩, h3, nI_1]
  rw [g]
  by_cases q : hr + 1 < v.R
  · rw [if_pos (nI_lt q (by omega))]
    refine ⟨_, rfl, ?_, ?_, fun a k hn => ?_⟩
    · rw [g]; unfold Sv.tick; rw [if_pos (by exact q)]; rfl
    · rw [sI_get, if_neg (by omega), h4]; unfold Sv.tick; rw [if_pos (by exact q)]; rfl
    · rw [sI_get, if_neg (by omega)]
  · rw [if_neg (nI_nlt (by omega) (by omega))]
    refine ⟨_, rfl, ?_, ?_, fun a k hn => ?_⟩
    · rw [sI_get, if_neg (by omega), sI_get, if_neg (by omega), sI_get, if_pos ⟨rfl, rfl⟩]; unfold Sv.tick; rw [if_neg (by exact q)]; rfl
    · rw [sI_get, if_pos ⟨rfl, rfl⟩]; unfold Sv.tick; rw [if_neg (by exact q)]; rfl
    · rw [sI_get, if_neg (by omega), sI_get, if_neg (by omega), sI_get, if_neg (by omega), sI_get, if_neg (by omega)]
theorem r_tick2 (hrv : RV v σ) (ok : v.OK) {hr : Nat} {jl : Int32} (hh : hr < v.R) (h3 : σ.1 233 62 = nI hr) (h4 : σ.1 233 63 = jl) : ∃ σ', mX12_tick 233 σ = some σ' ∧ σ'.1 233 62 = nI ((svK w hr jl).tick v).hr ∧ σ'.1 233 63 = ((svK w hr jl).tick v).jl ∧ ∀ a k, ¬ (a = 233 ∧ (k = 62 ∨ k = 63)) → σ'.1 a k = σ.1 a k := by
  have h9 := ok.R
  unfold mX12_tick
  simp only [bnd_eq]
  have g : (sI σ 233 62 (σ.1 233 62 + 1)).1 233 62 = nI (hr + 1) := by rw [sI_get, if_pos ⟨rfl, rfl⟩, h3, nI_1]
  have g2 : (sI σ 233 62 (σ.1 233 62 + 1)).1 233 55 = nI v.R := by rw [sI_get, if_neg (by omega)]; exact hrv.R
  rw [g, g2]
  by_cases q : hr + 1 < v.R
  · rw [if_neg (nI_ge q (by omega))]
    refine ⟨_, rfl, ?_, ?_, fun a k hn => ?_⟩
    · rw [g]; unfold Sv.tick; rw [if_pos (by exact q)]; rfl
    · rw [sI_get, if_neg (by omega), h4]; unfold Sv.tick; rw [if_pos (by exact q)]; rfl
    · rw [sI_get, if_neg (by omega)]
  · rw [if_pos (nI_le (by omega) (by omega))]
    refine ⟨_, rfl, ?_, ?_, fun a k hn => ?_⟩
    · rw [sI_get, if_neg (by omega), sI_get, if_pos ⟨rfl, rfl⟩]; unfold Sv.tick; rw [if_neg (by exact q)]; rfl
    · rw [sI_get, if_pos ⟨rfl, rfl⟩]; unfold Sv.tick; rw [if_neg (by exact q)]; rfl
    · rw [sI_get, if_neg (by omega), sI_get, if_neg (by omega), sI_get, if_neg (by omega)]
end BEGIN
