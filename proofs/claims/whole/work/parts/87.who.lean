/-! who did it -/
section WHO
variable {σ σ' : St_} {c dr s t th : Nat} {v : Vw} {z zn : Sv}
def catL {α : Type} (g : Nat → List α) : Nat → Nat → List α
  | _, 0 => []
  | i, k + 1 => g i ++ catL g (i + 1) k
theorem catL_app {α : Type} {g : Nat → List α} : ∀ (k i j : Nat), catL g i (k + j) = catL g i k ++ catL g (i + k) j
  | 0, i, j => by simp [catL]
  | k + 1, i, j => by
    have e1 : catL g i (k + 1 + j) = g i ++ catL g (i + 1) (k + j) := by
      rw [show k + 1 + j = (k + j) + 1 by omega]
      rfl
    have e2 : catL g i (k + 1) = g i ++ catL g (i + 1) k := rfl
    rw [e1, e2, catL_app k (i + 1) j, show i + 1 + k = i + (k + 1) by omega, List.append_assoc]
theorem catL_len {α : Type} {g : Nat → List α} {b : Nat} : ∀ (k i : Nat), (∀ j, i ≤ j → j < i + k → (g j).length ≤ b) → (catL g i k).length ≤ b * k
  | 0, i, _ => by simp [catL]
  | k + 1, i, h => by
    unfold catL
    rw [List.length_append, Nat.mul_succ]
    have h1 := h i (by omega) (by omega)
    have h2 := catL_len (g := g) (b := b) k (i + 1) (fun j a b => h j (by omega) (by omega))
    omega
/-- THINGS are in like places -/
def eqW (v : Vw) (a b : Sv) : Bool := !anyF (fun x => !(a.wh x == b.wh x)) 0 v.N
theorem eqW_iff {a b : Sv} : eqW v a b = true ↔ ∀ x, x < v.N → a.wh x = b.wh x := by
  unfold eqW
  rw [Bool.not_eq_true', ← Bool.not_eq_true, anyF_iff]
  constructor
  · intro h x hx
    by_cases q : a.wh x = b.wh x
    · exact q
    · exact absurd ⟨x, by omega, by omega, by simpa using q⟩ h
  · rintro h ⟨x, -, h2, h3⟩
    simp at h3
    exact h3 (h x (by omega))
theorem hset_eqW (ok : v.OK) {a b : Sv} (ha : Sv.OK v a) (hb : Sv.OK v b) : eqW v a b = true ↔ ∀ y, y < 9 → hset v a y = hset v b y := by
  rw [eqW_iff]
  constructor
  · intro h y _
    unfold hset
    exact setI_congr (fun x hx => by rw [h x hx]) (by have := ok.N; omega)
  · intro h x hx
    have ea := ha.le ok hx
    have eb := hb.le ok hx
    have key : ∀ y, y < 9 → (a.wh x = y ↔ b.wh x = y) := by
      intro y hy
      have := congrArg (fun w => tb w x) (h y hy)
      simp only [tb_hset ok, hx, decide_true, Bool.true_and] at this
      rw [Bool.eq_iff_iff] at this
      simpa using this
    by_cases q : a.wh x < 9
    · exact ((key _ q).mp rfl).symm
    · by_cases q2 : b.wh x < 9
      · exact (key _ q2).mpr rfl
      · omega
/-- what a SWAP makes of it -/
def swM (z : Sv) (th s : Nat) : Sv := z.move th (s / 10240) (nI (2 ^ (s / 1024 % 10))) (nI (s % 1024))
theorem swM_OK (ok : v.OK) (hz : Sv.OK v z) (hth : th < v.T) {s : Nat} (hs : s < 10240 * v.H) : Sv.OK v (swM z th s) := move_OK hz hth (by omega) _ _
theorem xor_move (ok : v.OK) (hz : Sv.OK v z) (hth : th < v.T) {s : Nat} (hs : s < 10240 * v.H) (hsw : isSw v z th s = true) {y : Nat} (hy : y < 9) : (if y = s / 10240 ∨ y = 5 + th then hset v z y ^^^ (nI (2 ^ (s / 1024 % 10)) ||| nI (s % 1024)) else hset v z y) = hset v (swM z th s) y := by
  have oN := ok.N
  have oH := ok.H
  obtain ⟨w1, w2, w3, w4⟩ := isSw_spec ok hsw
  have hx : s / 1024 % 10 < 31 := by omega
  apply setI_ext (by omega)
  intro x hx32
  unfold swM
  rw [move_wh, tb_bit hx]
  have nl : tb (nI (s % 1024)) x = true → x < v.N ∧ z.wh x = 5 + th := w3 x
  have ne1 : ¬ 5 + th = s / 10240 := by omega
  have ne2 : ¬ s / 10240 = 5 + th := by omega
  by_cases q1 : tb (nI (s % 1024)) x = true
  · obtain ⟨a1, a2⟩ := nl q1
    rw [if_pos q1]
    have nx : ¬ x = s / 1024 % 10 := by
      intro e
      rw [e, w2] at a2
      omega
    by_cases y1 : y = s / 10240 ∨ y = 5 + th
    · rw [if_pos y1, tb_xor, tb_or, tb_hset ok, tb_bit hx, q1, a2]
      rcases y1 with e | e
      · have : ¬ 5 + th = y := by omega
        simp [a1, nx, ne1, ne2, e]
      · have : ¬ s / 10240 = y := by omega
        simp [a1, nx, ne1, ne2, e]
    · rw [if_neg y1, tb_hset ok, a2]
      have b1 : ¬ 5 + th = y := by omega
      have b2 : ¬ s / 10240 = y := by omega
      rw [beq_false_of_ne b1, beq_false_of_ne b2]
  · rw [if_neg q1]
    by_cases q2 : x = s / 1024 % 10
    · have d : decide (x = s / 1024 % 10) = true := by simp [q2]
      rw [if_pos d]
      have a1 : x < v.N := by rw [q2]; exact w1
      have a2 : z.wh x = s / 10240 := by rw [q2]; exact w2
      by_cases y1 : y = s / 10240 ∨ y = 5 + th
      · rw [if_pos y1, tb_xor, tb_or, tb_hset ok, tb_bit hx, a2, d]
        rcases y1 with e | e
        · have : ¬ 5 + th = y := by omega
          simp [a1, q1, ne1, ne2, e]
        · have : ¬ s / 10240 = y := by omega
          simp [a1, q1, ne1, ne2, e]
      · rw [if_neg y1, tb_hset ok, a2]
        have b1 : ¬ 5 + th = y := by omega
        have b2 : ¬ s / 10240 = y := by omega
        rw [beq_false_of_ne b1, beq_false_of_ne b2]
    · have d : decide (x = s / 1024 % 10) = false := by simp [q2]
      rw [d, if_neg (show ¬ false = true by simp)]
      by_cases y1 : y = s / 10240 ∨ y = 5 + th
      · rw [if_pos y1, tb_xor, tb_or, tb_hset ok, tb_bit hx, d]
        simp [q1]
      · rw [if_neg y1, tb_hset ok]
theorem c_leads_L (ok : v.OK) (hz : Sv.OK v z) (hth : th < v.T) {s : Nat} (hs : s < 10240 * v.H) (hsw : isSw v z th s = true) (hc1 : CS v 221 z σ) (hc2 : CS v 44 zn σ) : ∀ k n y, y + k = 9 → k < n → mX11_leadsToNow_L36 0 c dr σ (nI th) (nI (s / 10240)) (nI (2 ^ (s / 1024 % 10)) ||| nI (s % 1024)) n (nI y) = some (!anyF (fun y => !decide (hset v (swM z th s) y = hset v zn y)) y k)
  | 0, n, y, hy, hn => by
    obtain ⟨m, rfl, -⟩ := fu_suc hn
    unfold mX11_leadsToNow_L36
    rw [if_pos (show (9 : Int32) ≤ nI y from nI_le (a := 9) (by omega) (by omega))]
    rfl
  | k + 1, n, y, hy, hn => by
    have oH := ok.H
    have oT := ok.T
    obtain ⟨m, rfl, hm⟩ := fu_suc hn
    have ih := c_leads_L ok hz hth hs hsw hc1 hc2 k m (y + 1) (by omega) (by omega)
    have xm := xor_move ok hz hth hs hsw (y := y) (by omega)
    unfold mX11_leadsToNow_L36
    simp only [bnd_eq]
    rw [if_neg (show ¬ (9 : Int32) ≤ nI y from nI_ge (b := 9) (by omega) (by omega)), show (5 : Int32) + nI th = nI (5 + th) from nI_add 5 th]
    simp only [binn (show y < 9 by omega) (show y < 2 ^ 31 by omega), pn_cl (show y < 2 ^ 31 by omega), if_true, if_false, Bool.false_eq_true, show 0 + 44 + 1 = 44 + 1 from rfl, show 0 + 221 + 1 = 221 + 1 from rfl, hc1.held y (by omega), hc2.held y (by omega), nI_1, ih]
    have e1 : (nI y = nI (s / 10240)) = (y = s / 10240) := propext (nI_eq (by omega) (by omega))
    have e2 : (nI y = nI (5 + th)) = (y = 5 + th) := propext (nI_eq (by omega) (by omega))
    simp only [e1, e2]
    conv => rhs; unfold anyF
    have fin : ∀ A : Int32, A = hset v (swM z th s) y → (if A = hset v zn y then some (!anyF (fun y => !decide (hset v (swM z th s) y = hset v zn y)) (y + 1) k) else some false) = some (!(!decide (hset v (swM z th s) y = hset v zn y) || anyF (fun y => !decide (hset v (swM z th s) y = hset v zn y)) (y + 1) k)) := by
      intro A hA
      rw [hA]
      by_cases q : hset v (swM z th s) y = hset v zn y
      · simp [q]
      · simp [q]
    by_cases q1 : y = s / 10240
    · rw [if_pos (Or.inl q1)] at xm
      rw [if_pos q1]
      exact fin _ xm
    · rw [if_neg q1]
      by_cases q2 : y = 5 + th
      · rw [if_pos (Or.inr q2)] at xm
        rw [if_pos q2]
        exact fin _ xm
      · rw [if_neg (by omega)] at xm
        rw [if_neg q2]
        exact fin _ xm
theorem c_leads (ok : v.OK) (hz : Sv.OK v z) (hzn : Sv.OK v zn) (hth : th < v.T) (hc1 : CS v 221 z σ) (hc2 : CS v 44 zn σ) {L : List Nat} (hA : SLc v th 183 L σ) {i s : Nat} (hi : L[i]? = some s) (hi2 : i < 100) (hs : s < 10240 * v.H) (hsw : isSw v z th s = true) : mX11_leadsToNow 0 c dr (nI th) (nI i) σ = some (eqW v (swM z th s) zn) := by
  have oN := ok.N
  obtain ⟨k1, k2, k3, -⟩ := hA.2 i s hi
  unfold mX11_leadsToNow
  simp only [bnd_eq]
  rw [binn hi2 (by omega), if_pos rfl, if_pos rfl, if_pos rfl, pn_cl (by omega), show 0 + 183 = 183 from rfl, k1, k2, k3, shl_nI (by omega)]
  have := c_leads_L (c := c) (dr := dr) ok hz hth hs hsw hc1 hc2 9 FU 0 (by omega) (by unfold FU; omega)
  refine Eq.trans this ?_
  congr 1
  rw [Bool.eq_iff_iff, hset_eqW ok (swM_OK ok hz hth hs) hzn, Bool.not_eq_true', ← Bool.not_eq_true, anyF_iff]
  constructor
  · intro h y hy
    by_cases q : hset v (swM z th s) y = hset v zn y
    · exact q
    · exact absurd ⟨y, by omega, by omega, by simpa using q⟩ h
  · rintro h ⟨y, -, h2, h3⟩
    simp at h3
    exact h3 (h y (by omega))
/-- what lies there of the first -/
def whoN : Option (Nat × Nat × Nat) → List Int32
  | none => []
  | some q => [nI q.1, nI q.2.1] ++ swN (some q.2.2)
def whB (v : Vw) (z : Sv) (zn : Sv) (th hour : Nat) (l : List Nat) : List (Nat × Nat × Nat) := (l.filter (fun s => eqW v (swM z th s) zn)).map (fun s => (th, hour, s))
theorem whB_cons {hour s : Nat} {l : List Nat} : whB v z zn th hour (s :: l) = if eqW v (swM z th s) zn = true then (th, hour, s) :: whB v z zn th hour l else whB v z zn th hour l := by
  unfold whB
  rw [List.filter_cons]
  by_cases q : eqW v (swM z th s) zn = true
  · rw [if_pos q, if_pos q, List.map_cons]
  · rw [if_neg q, if_neg q]
theorem head_app {α : Type} {a : List α} {x : α} (h : a ≠ []) : (a ++ [x]).head? = a.head? := by
  cases a with
  | nil => exact absurd rfl h
  | cons y l => rfl
theorem c_layDoer {acc : List (Nat × Nat × Nat)} {hour i s : Nat} {L : List Nat} (hA : SLc v th 183 L σ) (hi : L[i]? = some s) (hi2 : i < 100) (hL : LC (whoN acc.head?) σ) : ∃ σ', mX11_layDoer 0 c dr (nI th) (nI hour) (nI i) σ = some σ' ∧ LC (whoN (acc ++ [(th, hour, s)]).head?) σ' ∧ ∀ a k, ¬ (a = 173 ∨ (a = 0 ∧ k = 9)) → σ'.1 a k = σ.1 a k := by
  obtain ⟨k1, k2, k3, -⟩ := hA.2 i s hi
  unfold mX11_layDoer
  simp only [bnd_eq]
  cases acc with
  | nil =>
    have h0 : σ.1 0 9 = 0 := hL.1
    obtain ⟨A, a1, a2, a3⟩ := c_lay (dr := dr) (tw := c) hL (by simp [whoN]) (nI th)
    obtain ⟨B, b1, b2, b3⟩ := c_lay (dr := dr) (tw := c) a2 (by simp [whoN]) (nI hour)
    obtain ⟨C, c1, c2, c3⟩ := c_lay (dr := dr) (tw := c) b2 (by simp [whoN]) (nI (s / 10240))
    obtain ⟨D, d1, d2, d3⟩ := c_lay (dr := dr) (tw := c) c2 (by simp [whoN]) (nI (s / 1024 % 10))
    obtain ⟨E, e1, e2, e3⟩ := c_lay (dr := dr) (tw := c) d2 (by simp [whoN]) (nI (s % 1024))
    refine ⟨E, ?_, by simpa [whoN, swN] using e2, fun a k hn => by rw [e3 a k hn, d3 a k hn, c3 a k hn, b3 a k hn, a3 a k hn]⟩
    rw [h0, if_pos (by decide), a1]
    rw [obs_eq]
    rw [b1]
    rw [obs_eq]
    rw [binn hi2 (by omega), if_pos rfl, pn_cl (by omega), show 0 + 183 = 183 from rfl, b3 (183 + 1) i (by omega), a3 (183 + 1) i (by omega), k1, c1]
    rw [obs_eq, if_pos rfl]
    rw [c3 (183 + 2) i (by omega), b3 (183 + 2) i (by omega), a3 (183 + 2) i (by omega), k2, d1]
    rw [obs_eq, if_pos rfl]
    rw [d3 (183 + 3) i (by omega), c3 (183 + 3) i (by omega), b3 (183 + 3) i (by omega), a3 (183 + 3) i (by omega), k3, e1]
    rfl
  | cons q l =>
    have h0 : σ.1 0 9 = 5 := hL.1
    rw [h0, if_neg (by decide)]
    exact ⟨σ, rfl, hL, fun a k _ => rfl⟩
theorem c_who_L94 (ok : v.OK) (hz : Sv.OK v z) (hzn : Sv.OK v zn) (hth : th < v.T) {x1 : Int32} {hour : Nat} {k134 : Int32 → St_ → Option (Int32 × St_)} : ∀ k n i (acc : List (Nat × Nat × Nat)) (σ : St_), CS v 221 z σ → CS v 44 zn σ → SLc v th 183 (swl v z th) σ → LC (whoN acc.head?) σ → i + k = (swl v z th).length → k < n → ∃ σ', mX11_who_L94 0 c dr x1 (nI th) (nI hour) k134 n (nI acc.length) (nI i) σ = k134 (nI (acc ++ whB v z zn th hour ((swl v z th).drop i)).length) σ' ∧ LC (whoN (acc ++ whB v z zn th hour ((swl v z th).drop i)).head?) σ' ∧ ∀ a k, ¬ (a = 173 ∨ (a = 0 ∧ k = 9)) → σ'.1 a k = σ.1 a k
  | 0, n, i, acc, σ, h1, h2, hA, hL, hi, hn => by
    have hl := swl_len (v := v) (z := z) (t := th) ok
    obtain ⟨m, rfl, -⟩ := fu_suc hn
    refine ⟨σ, ?_, ?_, fun a k _ => rfl⟩
    · unfold mX11_who_L94
      rw [show 0 + 183 = 183 from rfl, hA.1, if_pos (nI_le (by omega) (by omega)), List.drop_eq_nil_of_le (by omega)]
      simp [whB]
    · rw [List.drop_eq_nil_of_le (by omega)]
      simpa [whB] using hL
  | k + 1, n, i, acc, σ, h1, h2, hA, hL, hi, hn => by
    have hl := swl_len (v := v) (z := z) (t := th) ok
    obtain ⟨m, rfl, hm⟩ := fu_suc hn
    have hil : i < (swl v z th).length := by omega
    have hp : (swl v z th)[i] ∈ swl v z th := List.getElem_mem hil
    have hgi : (swl v z th)[i]? = some (swl v z th)[i] := List.getElem?_eq_getElem hil
    have hd := List.drop_eq_getElem_cons hil
    generalize (swl v z th)[i] = s at hp hgi hd
    obtain ⟨-, s1, s2⟩ := swF_mem.mp hp
    rw [hd, whB_cons]
    unfold mX11_who_L94
    simp only [bnd_eq]
    rw [show 0 + 183 = 183 from rfl, hA.1, if_neg (nI_ge (by omega) (by omega)), c_leads ok hz hzn hth h1 h2 hA hgi (by omega) s1 s2]
    simp only [obs_eq, nI_1]
    cases q : eqW v (swM z th s) zn
    · rw [if_neg (by simp), if_neg (by simp)]
      exact c_who_L94 ok hz hzn hth k m (i + 1) acc σ h1 h2 hA hL (by omega) (by omega)
    · rw [if_pos rfl, if_pos rfl]
      obtain ⟨σ1, d1, d2, d3⟩ := c_layDoer (c := c) (dr := dr) (hour := hour) hA hgi (by omega) hL
      rw [d1]
      rw [obs_eq]
      obtain ⟨σ', e1, e2, e3⟩ := c_who_L94 ok hz hzn hth (x1 := x1) (hour := hour) (k134 := k134) k m (i + 1) (acc ++ [(th, hour, s)]) σ1 (h1.fr (fun a k q => d3 a k (by omega))) (h2.fr (fun a k q => d3 a k (by omega))) (hA.fr (fun a k q => d3 a k (by omega))) d2 (by omega) (by omega)
      refine ⟨σ', ?_, ?_, fun a k hn => by rw [e3 a k hn, d3 a k hn]⟩
      · rw [List.append_assoc, List.singleton_append, List.length_append, List.length_cons, List.length_nil] at e1
        exact e1
      · rw [List.append_assoc, List.singleton_append] at e2
        exact e2
/-- all of an HOUR, by its number: THIEF, HOUR -/
def whG (v : Vw) (zb zn : Sv) (i : Nat) : List (Nat × Nat × Nat) := whB v (svK zb.wh (i % v.R) 0) zn (i / v.R) (i % v.R) (swl v (svK zb.wh (i % v.R) 0) (i / v.R))
theorem box_OK {zb : Sv} (hz : Sv.OK v zb) {hour : Nat} (hh : hour < v.R) : Sv.OK v (svK zb.wh hour 0) := ⟨hz.wh, hh⟩
theorem c_who_L33 (ok : v.OK) (hcc : c = 12 ∨ c = 28) {zb : Sv} (hz : Sv.OK v zb) (hzn : Sv.OK v zn) (hth : th < v.T) {b : Nat} (hb : b < 3) {k140 : Int32 → St_ → Option (Int32 × St_)} : ∀ k n hour (acc : List (Nat × Nat × Nat)) (σ : St_), CV c v σ → CS v (224 + 3 * b) zb σ → CS v 44 zn σ → LC (whoN acc.head?) σ → hour + k = v.R → k < n → ∃ σ', mX11_who_L33 0 c dr (nI b) (nI th) k140 n (nI acc.length) (nI hour) σ = k140 (nI (acc ++ catL (whG v zb zn) (v.R * th + hour) k).length) σ' ∧ LC (whoN (acc ++ catL (whG v zb zn) (v.R * th + hour) k).head?) σ' ∧ CV c v σ' ∧ CS v (224 + 3 * b) zb σ' ∧ CS v 44 zn σ'
  | 0, n, hour, acc, σ, hc, h1, h2, hL, hi, hn => by
    have := ok.R
    obtain ⟨m, rfl, -⟩ := fu_suc hn
    refine ⟨σ, ?_, by simpa [catL] using hL, hc, h1, h2⟩
    unfold mX11_who_L33
    rw [hc.R, if_pos (nI_le (by omega) (by omega))]
    simp [catL]
  | k + 1, n, hour, acc, σ, hc, h1, h2, hL, hi, hn => by
    have oR := ok.R
    have oR0 := ok.R0
    obtain ⟨m, rfl, hm⟩ := fu_suc hn
    have e1 : (v.R * th + hour) % v.R = hour := by rw [Nat.mul_add_mod, Nat.mod_eq_of_lt (by omega)]
    have e2 : (v.R * th + hour) / v.R = th := by rw [Nat.mul_add_div (by omega), Nat.div_eq_of_lt (by omega)]; rfl
    have eg : whG v zb zn (v.R * th + hour) = whB v (svK zb.wh hour 0) zn th hour (swl v (svK zb.wh hour 0) th) := by unfold whG; rw [e1, e2]
    have hz2 : Sv.OK v (svK zb.wh hour 0) := box_OK hz (by omega)
    obtain ⟨σ1, a1, a2⟩ := c_copy (σ := σ) (t := 221) (p := 224 + 3 * b) (Or.inr (by omega))
    have G : ∀ a k, ¬ (221 ≤ a ∧ a ≤ 223) → (sI (sI σ1 221 4 0) 221 3 (nI hour)).1 a k = σ.1 a k := fun a k hn => by rw [sI_get, if_neg (by omega), sI_get, if_neg (by omega), a2, if_neg (by omega), if_neg (by omega), if_neg (by omega)]
    have cs : CS v 221 (svK zb.wh hour 0) (sI (sI σ1 221 4 0) 221 3 (nI hour)) := by
      refine ⟨fun h hh => ?_, ?_, ?_⟩
      · rw [sI_get, if_neg (by omega), sI_get, if_neg (by omega), a2, if_pos ⟨rfl, hh⟩]; exact h1.held h hh
      · rw [sI_get, if_pos ⟨rfl, rfl⟩]; rfl
      · rw [sI_get, if_neg (by omega), sI_get, if_pos ⟨rfl, rfl⟩]; rfl
    have hcG : CV c v (sI (sI σ1 221 4 0) 221 3 (nI hour)) := hc.fr (fun a k q => G a k (by unfold FPc at q; omega))
    obtain ⟨σ2, g1, g2⟩ := c_gather (t := 183) (s := 221) hcG ok (by omega) (by omega) (by omega) hz2 cs hth
    have F : ∀ a k, ¬ (a = c + 14 ∨ a = c + 15 ∨ (183 ≤ a ∧ a < 192)) → σ2.1 a k = (sI (sI σ1 221 4 0) 221 3 (nI hour)).1 a k := fun a k hn => (fX9_gather _ _ _ _ _ _ g1 a k (by unfold MOD_X9_gather; omega)).1
    have FG : ∀ a k, ¬ (a = c + 14 ∨ a = c + 15 ∨ (183 ≤ a ∧ a < 192)) → ¬ (221 ≤ a ∧ a ≤ 223) → σ2.1 a k = σ.1 a k := fun a k n1 n2 => by rw [F a k n1, G a k n2]
    obtain ⟨σ3, w1, w2, w3⟩ := c_who_L94 (c := c) (dr := dr) ok hz2 hzn hth (x1 := nI b) (hour := hour) (k134 := fun y14 σ15 => mX11_who_L33 0 c dr (nI b) (nI th) k140 m y14 (nI (hour + 1)) σ15) (swl v (svK zb.wh hour 0) th).length FU 0 acc σ2 (cs.fr (fun a k q => F a k (by omega))) (h2.fr (fun a k q => FG a k (by omega) (by omega))) g2 (hL.fr (fun a k q => FG a k (by omega) (by omega))) (by omega) (by unfold FU; have := swl_len (v := v) (z := (svK zb.wh hour 0)) (t := th) ok; omega)
    rw [List.drop_zero, ← eg] at w1 w2
    obtain ⟨σ', u1, u2, u3, u4, u5⟩ := c_who_L33 ok hcc hz hzn hth hb (k140 := k140) k m (hour + 1) (acc ++ whG v zb zn (v.R * th + hour)) σ3 (hc.fr (fun a k q => by rw [w3 a k (by unfold FPc at q; omega), FG a k (by unfold FPc at q; omega) (by unfold FPc at q; omega)])) (h1.fr (fun a k q => by rw [w3 a k (by omega), FG a k (by omega) (by omega)])) (h2.fr (fun a k q => by rw [w3 a k (by omega), FG a k (by omega) (by omega)])) w2 (by omega) (by omega)
    rw [List.append_assoc, show v.R * th + (hour + 1) = v.R * th + hour + 1 by omega] at u1 u2
    refine ⟨σ', ?_, u2, u3, u4, u5⟩
    unfold mX11_who_L33
    simp only [bnd_eq]
    rw [hc.R, if_neg (nI_ge (by omega) (by omega)), binn hb (by omega), if_pos rfl, pn_cl (by omega), show 0 + 221 = 221 from rfl, show 0 + 224 + 3 * b = 224 + 3 * b by omega, a1]
    rw [obs_eq]
    rw [show 0 + 183 = 183 from rfl, g1]
    simp only [obs_eq, nI_1]
    exact w1.trans u1
theorem c_who_L19 (ok : v.OK) (hcc : c = 12 ∨ c = 28) {zb : Sv} (hz : Sv.OK v zb) (hzn : Sv.OK v zn) {b : Nat} (hb : b < 3) : ∀ k n th (acc : List (Nat × Nat × Nat)) (σ : St_), CV c v σ → CS v (224 + 3 * b) zb σ → CS v 44 zn σ → LC (whoN acc.head?) σ → th + k = v.T → k < n → ∃ σ', mX11_who_L19 0 c dr (nI b) n (nI acc.length) (nI th) σ = some (nI (acc ++ catL (whG v zb zn) (v.R * th) (v.R * k)).length, σ') ∧ LC (whoN (acc ++ catL (whG v zb zn) (v.R * th) (v.R * k)).head?) σ'
  | 0, n, th, acc, σ, hc, h1, h2, hL, hi, hn => by
    have := ok.T
    obtain ⟨m, rfl, -⟩ := fu_suc hn
    refine ⟨σ, ?_, by simpa [catL] using hL⟩
    unfold mX11_who_L19
    rw [hc.T, if_pos (nI_le (by omega) (by omega))]
    simp [catL]
  | k + 1, n, th, acc, σ, hc, h1, h2, hL, hi, hn => by
    have oT := ok.T
    have oR := ok.R
    obtain ⟨m, rfl, hm⟩ := fu_suc hn
    obtain ⟨σ1, a1, a2, a3, a4, a5⟩ := c_who_L33 (dr := dr) ok hcc hz hzn (show th < v.T by omega) hb (k140 := fun y16 σ17 => mX11_who_L19 0 c dr (nI b) m y16 (nI (th + 1)) σ17) v.R FU 0 acc σ hc h1 h2 hL (by omega) (by unfold FU; omega)
    obtain ⟨σ', e1, e2⟩ := c_who_L19 ok hcc hz hzn hb k m (th + 1) _ σ1 a3 a4 a5 a2 (by omega) (by omega)
    have ec : acc ++ catL (whG v zb zn) (v.R * th + 0) v.R ++ catL (whG v zb zn) (v.R * (th + 1)) (v.R * k) = acc ++ catL (whG v zb zn) (v.R * th) (v.R * (k + 1)) := by
      rw [List.append_assoc, Nat.add_zero, Nat.mul_succ v.R k, Nat.add_comm (v.R * k) v.R, catL_app, Nat.mul_succ v.R th]
    rw [ec] at e1 e2
    refine ⟨σ', ?_, e2⟩
    unfold mX11_who_L19
    rw [hc.T, if_neg (nI_ge (by omega) (by omega)), nI_1]
    exact a1.trans e1
/-! the reference -/
theorem r_loadBox_L {b : Nat} (hb : b < 3) : ∀ k n i (σ : St_), i + k = 10 → k < n → ∃ σ' : St_, mX12_loadBox_L2 233 (nI b) n (nI i) σ = some σ' ∧ ∀ a j, σ'.1 a j = if a = 263 ∧ i ≤ j ∧ j < 10 then σ.1 279 (20 * b + j) else σ.1 a j
  | 0, n, i, σ, hi, hn => by
    obtain ⟨m, rfl, -⟩ := fu_suc hn
    refine ⟨σ, ?_, fun a j => by rw [if_neg (by omega)]⟩
    unfold mX12_loadBox_L2
    rw [show (10 : Int32) = nI 10 from rfl, if_pos (nI_le (by omega) (by omega))]
  | k + 1, n, i, σ, hi, hn => by
    obtain ⟨m, rfl, hm⟩ := fu_suc hn
    obtain ⟨σ', e1, e3⟩ := r_loadBox_L hb k m (i + 1) (sI σ 263 i (σ.1 279 (20 * b + i))) (by omega) (by omega)
    refine ⟨σ', ?_, fun a j => ?_⟩
    · unfold mX12_loadBox_L2
      simp only [bnd_eq]
      rw [show (10 : Int32) = nI 10 from rfl, if_neg (nI_ge (by omega) (by omega)), show (20 : Int32) = nI 20 from rfl, nI_mul, nI_add, binn (show 20 * b + i < 60 by omega) (by omega), binn (show i < 10 by omega) (by omega), if_pos rfl, if_pos rfl, pn_cl (by omega), pn_cl (by omega), nI_1]
      exact e1
    · rw [e3, sI_get, sI_get, if_neg (show ¬ (279 = 263 ∧ 20 * b + j = i) by omega)]
      by_cases q : a = 263 ∧ i ≤ j ∧ j < 10
      · rw [if_pos q]
        by_cases q2 : j = i
        · rw [if_neg (by omega), if_pos ⟨q.1, q2⟩, q2]
        · rw [if_pos (by omega)]
      · rw [if_neg q, if_neg (by omega), if_neg (by omega)]
theorem r_loadBox (ok : v.OK) {zb : Sv} {b hour : Nat} (hb : b < 3) (hn : RN v 279 (20 * b) zb σ) (h62 : σ.1 233 62 = nI hour) (h63 : σ.1 233 63 = 0) : ∃ σ', mX12_loadBox 233 (nI b) σ = some σ' ∧ RW v (svK zb.wh hour 0) σ' ∧ ∀ a k, ¬ a = 263 → σ'.1 a k = σ.1 a k := by
  have oN := ok.N
  obtain ⟨σ', e1, e2⟩ := r_loadBox_L hb 10 FU 0 σ (by omega) (by unfold FU; omega)
  refine ⟨σ', by unfold mX12_loadBox; exact e1, ⟨fun x hx => ?_, fun x q1 q2 => ?_, ?_, ?_⟩, fun a k hn => by rw [e2, if_neg (by omega)]⟩
  · rw [e2, if_pos (by omega)]; exact hn.wh x hx
  · rw [e2, if_pos (by omega)]; exact hn.no x q1 q2
  · rw [e2, if_neg (by omega)]; exact h62
  · rw [e2, if_neg (by omega)]; exact h63
theorem r_isNow_L (hr : RV v σ) (ok : v.OK) (hz : Sv.OK v z) (hzn : Sv.OK v zn) (hw : RW v z σ) (hn : RN v 262 0 zn σ) : ∀ k n i (b : Bool), i + k = v.N → k < n → mX12_isNow_L4 233 σ n b (nI i) = some (b && !anyF (fun x => !(z.wh x == zn.wh x)) i k)
  | 0, n, i, b, hi, hn => by
    have := ok.N
    obtain ⟨m, rfl, -⟩ := fu_suc hn
    unfold mX12_isNow_L4
    rw [hr.N, if_pos (nI_le (by omega) (by omega))]
    simp [anyF]
  | k + 1, n, i, b, hi, hnn => by
    have := ok.N
    obtain ⟨m, rfl, hm⟩ := fu_suc hnn
    have ih := fun b => r_isNow_L hr ok hz hzn hw hn k m (i + 1) b (by omega) (by omega)
    have e0 := hn.wh i (by omega)
    rw [Nat.zero_add] at e0
    unfold mX12_isNow_L4
    simp only [bnd_eq]
    rw [hr.N, if_neg (nI_ge (by omega) (by omega)), nI_1, ih, ih, binn (show i < 10 by omega) (by omega), binn (show i < 20 by omega) (by omega), if_pos rfl, if_pos rfl, pn_cl (by omega), show 233 + 30 = 263 from rfl, show 233 + 29 = 262 from rfl, hw.wh i (by omega), e0]
    have we := wcode_eq (hz.le ok (show i < v.N by omega)) (hzn.le ok (show i < v.N by omega))
    conv => rhs; unfold anyF
    cases b
    · simp
    · rw [if_pos rfl]
      by_cases q : z.wh i = zn.wh i
      · rw [if_pos (we.mpr q)]
        simp [q]
      · rw [if_neg (fun w => q (we.mp w))]
        simp [q]
theorem r_isNow (hr : RV v σ) (ok : v.OK) (hz : Sv.OK v z) (hzn : Sv.OK v zn) (hw : RW v z σ) (hn : RN v 262 0 zn σ) : mX12_isNow 233 σ = some (eqW v z zn) := by
  have := ok.N
  unfold mX12_isNow
  have := r_isNow_L hr ok hz hzn hw hn v.N FU 0 true (by omega) (by unfold FU; omega)
  rw [Bool.true_and] at this
  exact this
theorem r_putWho {acc : List (Nat × Nat × Nat)} {hour s : Nat} (hacc : acc = []) (hL : LR (whoN acc.head?) σ) (h62 : σ.1 233 62 = nI hour) (hs : s < 60000) : ∃ σ', mX12_putWho 233 (nI th) (nI s) σ = some σ' ∧ LR (whoN (acc ++ [(th, hour, s)]).head?) σ' ∧ ∀ a k, ¬ (a = 265 ∨ (a = 233 ∧ k = 71)) → σ'.1 a k = σ.1 a k := by
  subst hacc
  obtain ⟨A, a1, a2, a3⟩ := r_lay hL (by simp [whoN]) (nI th)
  obtain ⟨B, b1, b2, b3⟩ := r_lay a2 (by simp [whoN]) (nI hour)
  obtain ⟨C, c1, c2, c3⟩ := r_laySwap b2 (by simp [whoN]) (b := some s) (fun s' e => by cases e; exact hs)
  refine ⟨C, ?_, by simpa [whoN] using c2, fun a k hn => by rw [c3 a k hn, b3 a k hn, a3 a k hn]⟩
  unfold mX12_putWho
  rw [a1]
  rw [obs_eq]
  rw [a3 233 62 (by omega), h62, b1]
  rw [obs_eq]
  have c1' : mX12_laySwap 233 (nI s) B = some C := c1
  rw [c1']
  rfl
theorem r_who_L77 (ok : v.OK) {zb : Sv} {b hour : Nat} {x3 : Int32} (hb : b < 3) (hzb : Sv.OK v zb) (hzn : Sv.OK v zn) (hh : hour < v.R) (hth : th < v.T) {k132 : Int32 → St_ → Option (Int32 × St_)} : ∀ (l : List Nat) n f (acc : List (Nat × Nat × Nat)) (σ : St_), RV v σ → RW v (svK zb.wh hour 0) σ → RN v 279 (20 * b) zb σ → RN v 262 0 zn σ → LR (whoN acc.head?) σ → swF v (svK zb.wh hour 0) th f = l → l.length < n → acc.length + l.length < 2 ^ 31 → ∃ σ', mX12_who_L77 233 (nI b) x3 (nI th) k132 n (nI acc.length) (encO l.head?) σ = k132 (nI (acc ++ whB v (svK zb.wh hour 0) zn th hour l).length) σ' ∧ RV v σ' ∧ RN v 279 (20 * b) zb σ' ∧ RN v 262 0 zn σ' ∧ LR (whoN (acc ++ whB v (svK zb.wh hour 0) zn th hour l).head?) σ' ∧ σ'.1 233 63 = 0
  | [], n, f, acc, σ, hr, hw, hB, hN, hL, hl, hn, hbd => by
    obtain ⟨m, rfl, -⟩ := fu_suc hn
    refine ⟨σ, ?_, hr, hB, hN, by simpa [whB] using hL, hw.jl⟩
    unfold mX12_who_L77
    rw [if_pos (by decide)]
    simp [whB]
  | s :: l, n, f, acc, σ, hr, hw, hB, hN, hL, hl, hn, hbd => by
    have oH := ok.H
    have oN := ok.N
    have hz2 : Sv.OK v (svK zb.wh hour 0) := box_OK hzb hh
    obtain ⟨m, rfl, hm⟩ := fu_suc hn
    obtain ⟨t1, t2, t3, t4⟩ := swF_tail hl
    rw [List.length_cons] at hm hbd
    obtain ⟨σ1, a1, a2, a3⟩ := r_doSwap hr ok hw hth t3
    have hr1 : RV v σ1 := rv_mv hr a3
    have hN1 : RN v 262 0 zn σ1 := hN.fr oN (fun k _ _ => a3 _ _ (by omega))
    have hB1 : RN v 279 (20 * b) zb σ1 := hB.fr oN (fun k _ _ => a3 _ _ (by omega))
    have isn : mX12_isNow 233 σ1 = some (eqW v (swM (svK zb.wh hour 0) th s) zn) := r_isNow hr1 ok (swM_OK ok hz2 hth t3) hzn a2 hN1
    -- behind it: the BOX again, the next SWAP
    have go : ∀ (acc' : List (Nat × Nat × Nat)) (ρ : St_), (∀ a k, ¬ (a = 265 ∨ (a = 233 ∧ k = 71)) → ρ.1 a k = σ1.1 a k) → LR (whoN acc'.head?) ρ → acc'.length + l.length < 2 ^ 31 → ∃ σ', ((mX12_loadBox 233 (nI b) ρ).bind fun σ18 => ((mX12_nextSwap 233 (nI th) (nI (s + 1)) σ18).bind fun r19 => (mX12_who_L77 233 (nI b) x3 (nI th) k132 m (nI acc'.length) r19.1 r19.2))) = k132 (nI (acc' ++ whB v (svK zb.wh hour 0) zn th hour l).length) σ' ∧ RV v σ' ∧ RN v 279 (20 * b) zb σ' ∧ RN v 262 0 zn σ' ∧ LR (whoN (acc' ++ whB v (svK zb.wh hour 0) zn th hour l).head?) σ' ∧ σ'.1 233 63 = 0 := by
      intro acc' ρ hρ hL' hbd'
      have g62 : ρ.1 233 62 = nI hour := by rw [hρ _ _ (by omega), a3 _ _ (by omega)]; exact hw.hr
      have g63 : ρ.1 233 63 = 0 := by rw [hρ _ _ (by omega), a3 _ _ (by omega)]; exact hw.jl
      have hBρ : RN v 279 (20 * b) zb ρ := hB1.fr oN (fun k _ _ => hρ _ _ (by omega))
      obtain ⟨σ2, b1, b2, b3⟩ := r_loadBox ok hb hBρ g62 g63
      have hr2 : RV v σ2 := rv_mv (hr1.fr (fun a k q => hρ a k (by unfold FPr at q; omega))) b3
      obtain ⟨σ3, n1, n2, n3, n4⟩ := r_nextSwap hr2 ok hz2 b2 hth (f := s + 1) (by omega)
      rw [t1] at n1
      rw [b1]
      rw [obs_eq]
      rw [n1]
      rw [obs_eq]
      refine r_who_L77 ok hb hzb hzn hh hth l m (s + 1) acc' σ3 n2 n3 ?_ ?_ ?_ t1 (by omega) hbd'
      · exact hBρ.fr oN (fun k _ _ => by rw [n4 _ _ (by omega), b3 _ _ (by omega)])
      · exact hN1.fr oN (fun k _ _ => by rw [n4 _ _ (by omega), b3 _ _ (by omega), hρ _ _ (by omega)])
      · exact hL'.fr (fun a k q => by rw [n4 _ _ (by omega), b3 _ _ (by omega)])
    unfold mX12_who_L77
    simp only [bnd_eq]
    rw [show encO (s :: l).head? = nI s from rfl, if_neg (nI_pos (by omega)), a1]
    rw [obs_eq]
    rw [isn]
    simp only [obs_eq, nI_1]
    rw [whB_cons]
    have hL1 : LR (whoN acc.head?) σ1 := hL.fr (fun a k q => a3 a k (by omega))
    cases q : eqW v (swM (svK zb.wh hour 0) th s) zn
    · rw [if_neg (by simp), if_neg (by simp)]
      exact go acc σ1 (fun a k _ => rfl) hL1 (by omega)
    · rw [if_pos rfl, if_pos rfl]
      have fin : ∀ ρ : St_, (∀ a k, ¬ (a = 265 ∨ (a = 233 ∧ k = 71)) → ρ.1 a k = σ1.1 a k) → LR (whoN (acc ++ [(th, hour, s)]).head?) ρ → ∃ σ', ((mX12_loadBox 233 (nI b) ρ).bind fun σ18 => ((mX12_nextSwap 233 (nI th) (nI (s + 1)) σ18).bind fun r19 => (mX12_who_L77 233 (nI b) x3 (nI th) k132 m (nI (acc.length + 1)) r19.1 r19.2))) = k132 (nI (acc ++ (th, hour, s) :: whB v (svK zb.wh hour 0) zn th hour l).length) σ' ∧ RV v σ' ∧ RN v 279 (20 * b) zb σ' ∧ RN v 262 0 zn σ' ∧ LR (whoN (acc ++ (th, hour, s) :: whB v (svK zb.wh hour 0) zn th hour l).head?) σ' ∧ σ'.1 233 63 = 0 := by
        intro ρ hρ hLρ
        have := go (acc ++ [(th, hour, s)]) ρ hρ hLρ (by rw [List.length_append, List.length_cons, List.length_nil]; omega)
        rw [List.append_assoc, List.singleton_append, List.length_append, List.length_cons, List.length_nil] at this
        exact this
      by_cases q2 : acc = []
      · obtain ⟨σ2, d1, d2, d3⟩ := r_putWho (th := th) (hour := hour) (s := s) q2 hL1 (by rw [a3 _ _ (by omega)]; exact hw.hr) (by omega)
        have e0 : nI acc.length = 0 := by rw [q2]; rfl
        rw [if_pos e0, d1]
        rw [obs_eq]
        exact fin σ2 d3 d2
      · have e0 : ¬ nI acc.length = 0 := nI_ne0 (List.length_pos_iff.mpr q2) (by omega)
        rw [if_neg e0]
        exact fin σ1 (fun a k _ => rfl) (by rw [head_app q2]; exact hL1)
theorem whG_len (ok : v.OK) (zb zn : Sv) (i : Nat) : (whG v zb zn i).length ≤ 84 := by
  unfold whG whB
  rw [List.length_map]
  exact Nat.le_trans (List.length_filter_le _ _) (swl_len ok)
theorem r_who_L32 (ok : v.OK) {zb : Sv} {b : Nat} (hb : b < 3) (hzb : Sv.OK v zb) (hzn : Sv.OK v zn) : ∀ k n i (acc : List (Nat × Nat × Nat)) (σ : St_), RV v σ → RN v 279 (20 * b) zb σ → RN v 262 0 zn σ → LR (whoN acc.head?) σ → σ.1 233 63 = 0 → i + k = v.R * v.T → k < n → acc.length ≤ 84 * i → ∃ σ', mX12_who_L32 233 (nI b) n (nI acc.length) (nI i) σ = some (nI (acc ++ catL (whG v zb zn) i k).length, σ') ∧ LR (whoN (acc ++ catL (whG v zb zn) i k).head?) σ'
  | 0, n, i, acc, σ, hr, hB, hN, hL, h63, hi, hn, hbd => by
    have oT := ok.T
    have oR := ok.R
    have hRT : v.R * v.T ≤ 9 * 4 := Nat.mul_le_mul oR oT
    obtain ⟨m, rfl, -⟩ := fu_suc hn
    refine ⟨σ, ?_, by simpa [catL] using hL⟩
    unfold mX12_who_L32
    rw [hr.T, hr.R, nI_mul, Nat.mul_comm v.T v.R, if_pos (nI_le (by omega) (by omega))]
    simp [catL]
  | k + 1, n, i, acc, σ, hr, hB, hN, hL, h63, hi, hn, hbd => by
    have oT := ok.T
    have oR := ok.R
    have oR0 := ok.R0
    have oN := ok.N
    have hRT : v.R * v.T ≤ 9 * 4 := Nat.mul_le_mul oR oT
    obtain ⟨m, rfl, hm⟩ := fu_suc hn
    have hlt : i < v.R * v.T := by omega
    have hth : i / v.R < v.T := Nat.div_lt_of_lt_mul hlt
    have hho : i % v.R < v.R := Nat.mod_lt _ (by omega)
    have e1 : nI i / nI v.R = nI (i / v.R) := nI_div (by omega) (by omega)
    have e2 : nI i - nI (i / v.R) * nI v.R = nI (i % v.R) := by
      have := nI_rem (a := i) (b := v.R) (by omega) (by omega)
      rw [e1] at this
      exact this
    have r0 : ¬ nI v.R = 0 := nI_ne0 (by omega) (by omega)
    obtain ⟨σ1, b1, b2, b3⟩ := r_loadBox (σ := sI σ 233 62 (nI (i % v.R))) ok hb (hour := i % v.R) (hB.fr oN (fun k _ _ => by rw [sI_get, if_neg (by omega)])) (by rw [sI_get, if_pos ⟨rfl, rfl⟩]) (by rw [sI_get, if_neg (by omega)]; exact h63)
    have F1 : ∀ a k, ¬ a = 263 → ¬ (a = 233 ∧ k = 62) → σ1.1 a k = σ.1 a k := fun a k n1 n2 => by rw [b3 a k n1, sI_get, if_neg (by omega)]
    have hr1 : RV v σ1 := hr.fr (fun a k q => F1 a k (by unfold FPr at q; omega) (by unfold FPr at q; omega))
    have hz2 : Sv.OK v (svK zb.wh (i % v.R) 0) := box_OK hzb hho
    obtain ⟨σ2, n1, n2, n3, n4⟩ := r_nextSwap hr1 ok hz2 b2 hth (f := 0) (by omega)
    have hl84 := swl_len (v := v) (z := (svK zb.wh (i % v.R) 0)) (t := i / v.R) ok
    obtain ⟨σ3, w1, w2, w3, w4, w5, w6⟩ := r_who_L77 ok (x3 := nI i) hb hzb hzn hho hth (k132 := fun y24 σ25 => mX12_who_L32 233 (nI b) m y24 (nI (i + 1)) σ25) (swl v (svK zb.wh (i % v.R) 0) (i / v.R)) FU 0 acc σ2 n2 n3 (hB.fr oN (fun k _ _ => by rw [n4 _ _ (by omega), F1 _ _ (by omega) (by omega)])) (hN.fr oN (fun k _ _ => by rw [n4 _ _ (by omega), F1 _ _ (by omega) (by omega)])) (hL.fr (fun a k q => by rw [n4 _ _ (by omega), F1 _ _ (by omega) (by omega)])) rfl (by unfold FU; omega) (by omega)
    have w1' : mX12_who_L77 233 (nI b) (nI i) (nI (i / v.R)) (fun y24 σ25 => mX12_who_L32 233 (nI b) m y24 (nI (i + 1)) σ25) FU (nI acc.length) (encO (swF v (svK zb.wh (i % v.R) 0) (i / v.R) 0).head?) σ2 = mX12_who_L32 233 (nI b) m (nI (acc ++ whG v zb zn i).length) (nI (i + 1)) σ3 := w1
    have w5' : LR (whoN (acc ++ whG v zb zn i).head?) σ3 := w5
    have gl := whG_len ok zb zn i
    obtain ⟨σ', u1, u2⟩ := r_who_L32 ok hb hzb hzn k m (i + 1) (acc ++ whG v zb zn i) σ3 w2 w3 w4 w5' w6 (by omega) (by omega) (by rw [List.length_append]; omega)
    rw [List.append_assoc] at u1 u2
    refine ⟨σ', ?_, u2⟩
    unfold mX12_who_L32
    simp only [bnd_eq]
    rw [hr.T, hr.R, nI_mul, Nat.mul_comm v.T v.R, if_neg (nI_ge (by omega) (by omega)), if_neg r0, if_neg r0, e1, e2, b1]
    rw [obs_eq]
    rw [show (0 : Int32) = nI 0 from rfl, n1]
    simp only [obs_eq, nI_1]
    exact w1'.trans u1
end WHO
