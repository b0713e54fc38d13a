/-! swaps that undo one another -/
section LOOPH
variable {σ σ' : St_} {c dr s t th : Nat} {v : Vw} {z : Sv}
theorem dec_y {N a y : Nat} (hy : y < N) : (a * N + y) % N = y ∧ (a * N + y) / N = a := by
  have h0 : 0 < N := by omega
  refine ⟨?_, ?_⟩
  · rw [Nat.mul_comm, Nat.mul_add_mod, Nat.mod_eq_of_lt hy]
  · rw [Nat.mul_comm, Nat.mul_add_div h0, Nat.div_eq_of_lt hy, Nat.add_zero]
/-- THIEF, HOUSE, THING there, THING in STOCK as one number -/
def lcode (H N t h x y : Nat) : Nat := ((t * H + h) * N + x) * N + y
theorem lcode_dec {H N t h x y : Nat} (hh : h < H) (hx : x < N) (hy : y < N) : lcode H N t h x y % N = y ∧ lcode H N t h x y / N % N = x ∧ lcode H N t h x y / (N * N) % H = h ∧ lcode H N t h x y / (H * N * N) = t := by
  unfold lcode
  obtain ⟨a1, a2⟩ := dec_y (a := (t * H + h) * N + x) hy
  obtain ⟨b1, b2⟩ := dec_y (a := t * H + h) hx
  obtain ⟨c1, c2⟩ := dec_y (a := t) hh
  refine ⟨a1, by rw [a2]; exact b1, ?_, ?_⟩
  · rw [← Nat.div_div_eq_div_mul, a2, b2]; exact c1
  · rw [Nat.mul_assoc, Nat.mul_comm H (N * N), ← Nat.div_div_eq_div_mul, ← Nat.div_div_eq_div_mul, a2, b2]; exact c2
theorem lcode_lt {H N T t h x y : Nat} (ht : t < T) (hh : h < H) (hx : x < N) (hy : y < N) : lcode H N t h x y < T * H * N * N := by
  unfold lcode
  have e1 : t * H + h + 1 ≤ T * H := by
    have := Nat.mul_le_mul_right H (show t + 1 ≤ T by omega)
    rw [Nat.add_mul, Nat.one_mul] at this
    omega
  have e2 : (t * H + h) * N + x + 1 ≤ T * H * N := by
    have := Nat.mul_le_mul_right N e1
    rw [Nat.add_mul, Nat.one_mul] at this
    omega
  have := Nat.mul_le_mul_right N e2
  rw [Nat.add_mul, Nat.one_mul] at this
  omega
theorem lcode_of {H N T i : Nat} (hi : i < T * H * N * N) : ∃ t h x y, t < T ∧ h < H ∧ x < N ∧ y < N ∧ i = lcode H N t h x y := by
  have hN : 0 < N := by
    rcases Nat.eq_zero_or_pos N with e | e
    · rw [e, Nat.mul_zero] at hi; omega
    · exact e
  have hH : 0 < H := by
    rcases Nat.eq_zero_or_pos H with e | e
    · rw [e, Nat.mul_zero, Nat.zero_mul, Nat.zero_mul] at hi; omega
    · exact e
  refine ⟨i / N / N / H, i / N / N % H, i / N % N, i % N, ?_, Nat.mod_lt _ hH, Nat.mod_lt _ hN, Nat.mod_lt _ hN, ?_⟩
  · apply Nat.div_lt_of_lt_mul
    apply Nat.div_lt_of_lt_mul
    apply Nat.div_lt_of_lt_mul
    rw [Nat.mul_comm H T, Nat.mul_comm N (T * H), Nat.mul_comm N (T * H * N)]
    exact hi
  · unfold lcode
    have e1 := Nat.div_add_mod (i / N / N) H
    have e2 := Nat.div_add_mod (i / N) N
    have e3 := Nat.div_add_mod i N
    rw [Nat.mul_comm (i / N / N / H) H, e1, Nat.mul_comm (i / N / N) N, e2, Nat.mul_comm (i / N) N, e3]
theorem lex_lt {N a b y y' : Nat} (h : a < b) (hy : y < N) : a * N + y < b * N + y' := by
  have := Nat.mul_le_mul_right N (show a + 1 ≤ b by omega)
  rw [Nat.add_mul, Nat.one_mul] at this
  omega
theorem lcode_mono {H N t h x y h' x' y' : Nat} (hx : x < N) (hy : y < N) (hs : h < h' ∨ (h = h' ∧ (x < x' ∨ (x = x' ∧ y < y')))) : lcode H N t h x y < lcode H N t h' x' y' := by
  unfold lcode
  rcases hs with e | ⟨rfl, e | ⟨rfl, e⟩⟩
  · exact lex_lt (lex_lt (by omega) hx) hy
  · exact lex_lt (by omega) hy
  · omega
/-- that done, to take it back is one too -/
def undoB (v : Vw) (z : Sv) (t s : Nat) : Bool := !tb (v.wa (s / 10240)) z.hr && aCan v (swM z t s) t (s / 10240) (nI (s % 1024)) (nI (2 ^ (s / 1024 % 10))) && aLaw v (s / 10240) (nI (s % 1024)) (nI (2 ^ (s / 1024 % 10))) (nI z.hr) (v.sl t)
theorem one_dec : ∀ m : Fin 1024, mem (nI m.1) = 1 → ∃ y : Fin 10, m.1 = 2 ^ y.1 := by decide +kernel
theorem one_mem : ∀ y : Fin 10, mem (nI (2 ^ y.1)) = 1 := by decide +kernel
theorem p2_lt {y : Nat} (hy : y < 10) : 2 ^ y < 1024 := Nat.pow_lt_pow_right (a := 2) (by omega) hy
theorem undo_eq (ok : v.OK) (ht : t < v.T) {h x y : Nat} (hh : h < v.H) (hx : x < v.N) (hy : y < v.N) (hsw : isSw v z t (scode h x (2 ^ y)) = true) : isSw v (swM z t (scode h x (2 ^ y))) t (scode h y (2 ^ x)) = undoB v z t (scode h x (2 ^ y)) := by
  have oN := ok.N
  have oH := ok.H
  have px := p2_lt (show x < 10 by omega)
  have py := p2_lt (show y < 10 by omega)
  have p0 := Nat.two_pow_pos x
  obtain ⟨w1, w2, w3, w4⟩ := isSw_spec ok hsw
  have e1 := scode_h (h := h) (show x < 10 by omega) py
  have e2 := scode_x (h := h) (show x < 10 by omega) py
  have e3 := scode_m (h := h) (x := x) py
  have f1 := scode_h (h := h) (show y < 10 by omega) px
  have f2 := scode_x (h := h) (show y < 10 by omega) px
  have f3 := scode_m (h := h) (x := y) px
  rw [e2, e1] at w2
  rw [e3] at w3
  have wy := (w3 y (by rw [tb_bit (by omega)]; simp)).2
  have ne : ¬ x = y := fun e => by rw [e, wy] at w2; omega
  have my : (swM z t (scode h x (2 ^ y))).wh y = h := by
    unfold swM
    rw [move_wh, e3, e1, tb_bit (by omega), if_pos (by simp)]
  have mx : (swM z t (scode h x (2 ^ y))).wh x = 5 + t := by
    unfold swM
    rw [move_wh, e3, e2, tb_bit (by omega), tb_bit (by omega), if_neg (by simpa using ne), if_pos (by simp)]
  have sb : nI (2 ^ x) &&& (hset v (swM z t (scode h x (2 ^ y))) (5 + t) ^^^ (-1)) = 0 := (subS_iff ok).mpr (sub_bit hx ok mx)
  have hr' : (swM z t (scode h x (2 ^ y))).hr = z.hr := rfl
  unfold isSw undoB
  rw [f1, f2, f3, e1, e2, e3, my, hr', decide_eq_true sb, decide_eq_true (show 2 ^ x ≠ 0 by omega), decide_eq_true (two_mem ⟨x, by omega⟩).1, decide_eq_true hy]
  simp
/-- the reference's question, by its number -/
def lpQ (v : Vw) (z : Sv) (t h x y : Nat) : Bool := decide (z.wh x = h) && decide (z.wh y = 5 + t) && isSw v z t (scode h x (2 ^ y)) && isSw v (swM z t (scode h x (2 ^ y))) t (scode h y (2 ^ x))
def lpI (v : Vw) (z : Sv) (i : Nat) : Bool := lpQ v z (i / (v.H * v.N * v.N)) (i / (v.N * v.N) % v.H) (i / v.N % v.N) (i % v.N)
theorem lpI_code {t h x y : Nat} (hh : h < v.H) (hx : x < v.N) (hy : y < v.N) : lpI v z (lcode v.H v.N t h x y) = lpQ v z t h x y := by
  obtain ⟨d1, d2, d3, d4⟩ := lcode_dec (t := t) hh hx hy
  unfold lpI
  rw [d1, d2, d3, d4]
def lpP (v : Vw) (z : Sv) (t s : Nat) : Bool := decide (mem (nI (s % 1024)) = 1) && undoB v z t s
def vcode (v : Vw) (t s : Nat) : Nat := lcode v.H v.N t (s / 10240) (s / 1024 % 10) (Nat.log2 (s % 1024))
def lpB (v : Vw) (z : Sv) (t : Nat) (l : List Nat) : List Nat := (l.filter (lpP v z t)).map (vcode v t)
theorem lpP_spec (ok : v.OK) {s : Nat} (hs : isSw v z t s = true) (hp : lpP v z t s = true) : ∃ y, y < v.N ∧ z.wh y = 5 + t ∧ s % 1024 = 2 ^ y ∧ Nat.log2 (s % 1024) = y := by
  unfold lpP at hp
  simp only [Bool.and_eq_true, decide_eq_true_eq] at hp
  obtain ⟨y, hy⟩ := one_dec ⟨s % 1024, by omega⟩ hp.1
  simp only at hy
  obtain ⟨w1, w2, w3, w4⟩ := isSw_spec ok hs
  have := w3 y.1 (by rw [hy, tb_bit (by omega)]; simp)
  exact ⟨y.1, this.1, this.2, hy, by rw [hy]; exact Nat.log2_two_pow⟩
theorem lpB_sorted (ok : v.OK) (l : List Nat) (hl : l.Pairwise (fun a b => a < b)) (hm : ∀ s, s ∈ l → s < 10240 * v.H ∧ isSw v z t s = true) : (lpB v z t l).Pairwise (fun a b => a < b) := by
  have oN := ok.N
  unfold lpB
  rw [List.pairwise_map]
  refine List.Pairwise.imp_of_mem ?_ (List.Pairwise.filter _ hl)
  intro a b ha hb hab
  obtain ⟨a1, a2⟩ := List.mem_filter.mp ha
  obtain ⟨b1, b2⟩ := List.mem_filter.mp hb
  have ha3 := (hm a a1).2
  have hb3 := (hm b b1).2
  obtain ⟨y, y1, -, y2, y3⟩ := lpP_spec ok ha3 a2
  obtain ⟨y', y1', -, y2', y3'⟩ := lpP_spec ok hb3 b2
  have xa := (isSw_spec ok ha3).1
  unfold vcode
  rw [y3, y3']
  apply lcode_mono xa y1
  have ea := scode_of a
  have eb := scode_of b
  unfold scode at ea eb
  by_cases q1 : a / 10240 = b / 10240
  · by_cases q2 : a / 1024 % 10 = b / 1024 % 10
    · refine Or.inr ⟨q1, Or.inr ⟨q2, ?_⟩⟩
      have lt2 : 2 ^ y < 2 ^ y' := by rw [← y2, ← y2']; omega
      exact (Nat.pow_lt_pow_iff_right (by omega)).mp lt2
    · exact Or.inr ⟨q1, Or.inl (by omega)⟩
  · exact Or.inl (by omega)
theorem mem_lpB {l : List Nat} {i : Nat} : i ∈ lpB v z t l ↔ ∃ s, s ∈ l ∧ lpP v z t s = true ∧ i = vcode v t s := by
  unfold lpB
  rw [List.mem_map]
  constructor
  · rintro ⟨p, hp, e⟩
    obtain ⟨p1, p2⟩ := List.mem_filter.mp hp
    exact ⟨p, p1, p2, e.symm⟩
  · rintro ⟨p, p1, p2, e⟩
    exact ⟨p, List.mem_filter.mpr ⟨p1, p2⟩, e.symm⟩
theorem mem_catL {α : Type} {g : Nat → List α} {x : α} : ∀ {k i : Nat}, x ∈ catL g i k ↔ ∃ j, i ≤ j ∧ j < i + k ∧ x ∈ g j
  | 0, i => by
    simp only [catL, List.not_mem_nil, false_iff]
    rintro ⟨j, h1, h2, -⟩
    omega
  | k + 1, i => by
    unfold catL
    rw [List.mem_append, mem_catL (k := k)]
    constructor
    · rintro (h | ⟨j, h1, h2, h3⟩)
      · exact ⟨i, by omega, by omega, h⟩
      · exact ⟨j, by omega, by omega, h3⟩
    · rintro ⟨j, h1, h2, h3⟩
      by_cases e : j = i
      · subst e; exact Or.inl h3
      · exact Or.inr ⟨j, by omega, by omega, h3⟩
theorem catL_sorted {g : Nat → List Nat} {M : Nat} : ∀ (k i : Nat), (∀ j, i ≤ j → j < i + k → (g j).Pairwise (fun a b => a < b)) → (∀ j s, i ≤ j → j < i + k → s ∈ g j → j * M ≤ s ∧ s < (j + 1) * M) → (catL g i k).Pairwise (fun a b => a < b)
  | 0, _, _, _ => List.Pairwise.nil
  | k + 1, i, h1, h2 => by
    unfold catL
    rw [List.pairwise_append]
    refine ⟨h1 i (by omega) (by omega), catL_sorted (M := M) k (i + 1) (fun j a b => h1 j (by omega) (by omega)) (fun j s a b => h2 j s (by omega) (by omega)), fun a ha b hb => ?_⟩
    obtain ⟨j, j1, j2, j3⟩ := mem_catL.mp hb
    have e1 := (h2 i a (by omega) (by omega) ha).2
    have e2 := (h2 j b (by omega) (by omega) j3).1
    have e3 := Nat.mul_le_mul_right M (show i + 1 ≤ j by omega)
    omega
/-- all of the class' are all of the reference's -/
theorem lp_all (ok : v.OK) : catL (fun t => lpB v z t (swl v z t)) 0 v.T = frm (lpI v z) 0 (v.T * v.H * v.N * v.N) := by
  have oN := ok.N
  have oH := ok.H
  have swm : ∀ t s, s ∈ swl v z t → s < 10240 * v.H ∧ isSw v z t s = true := fun t s hs => (swF_mem.mp hs).2
  apply sorted_ext
  · apply catL_sorted (M := v.H * v.N * v.N)
    · intro j _ _
      exact lpB_sorted ok _ (frm_sorted _ _) (swm j)
    · intro j i _ _ hi
      obtain ⟨s, s1, s2, s3⟩ := mem_lpB.mp hi
      obtain ⟨a1, a2⟩ := swm j s s1
      obtain ⟨y, y1, -, y2, y3⟩ := lpP_spec ok a2 s2
      have hx := (isSw_spec ok a2).1
      unfold vcode at s3
      rw [y3] at s3
      have d := (lcode_dec (t := j) (show s / 10240 < v.H by omega) hx y1).2.2.2
      rw [← s3] at d
      have hp : 0 < v.H * v.N * v.N := Nat.mul_pos (Nat.mul_pos (by omega) (by omega)) (by omega)
      have e := Nat.div_add_mod i (v.H * v.N * v.N)
      have e2 := Nat.mod_lt i hp
      rw [d, Nat.mul_comm] at e
      rw [Nat.add_mul, Nat.one_mul]
      omega
  · exact frm_sorted _ _
  · intro i
    rw [mem_catL, mem_frm]
    constructor
    · rintro ⟨j, -, j2, j3⟩
      obtain ⟨s, s1, s2, s3⟩ := mem_lpB.mp j3
      obtain ⟨a1, a2⟩ := swm j s s1
      obtain ⟨y, y1, y4, y2, y3⟩ := lpP_spec ok a2 s2
      obtain ⟨w1, w2, w3, w4⟩ := isSw_spec ok a2
      have hh : s / 10240 < v.H := by omega
      unfold vcode at s3
      rw [y3] at s3
      refine ⟨by omega, by rw [s3]; have := lcode_lt (T := v.T) (t := j) (by omega) hh w1 y1; omega, ?_⟩
      rw [s3, lpI_code hh w1 y1]
      have es : scode (s / 10240) (s / 1024 % 10) (2 ^ y) = s := by rw [← y2]; exact (scode_of s).symm
      unfold lpQ
      have ue := undo_eq (v := v) (z := z) (t := j) ok (by omega) hh w1 y1 (by rw [es]; exact a2)
      rw [ue, es, a2, decide_eq_true w2, decide_eq_true y4]
      unfold lpP at s2
      simp only [Bool.and_eq_true] at s2
      rw [s2.2]
      rfl
    · rintro ⟨-, i2, i3⟩
      obtain ⟨t, h, x, y, ht, hh, hx, hy, e⟩ := lcode_of (T := v.T) (show i < v.T * v.H * v.N * v.N by omega)
      rw [e, lpI_code hh hx hy] at i3
      unfold lpQ at i3
      simp only [Bool.and_eq_true, decide_eq_true_eq] at i3
      obtain ⟨⟨⟨b1, b2⟩, b3⟩, b4⟩ := i3
      have py := p2_lt (show y < 10 by omega)
      have e1 := scode_h (h := h) (show x < 10 by omega) py
      have e2 := scode_x (h := h) (show x < 10 by omega) py
      have e3 := scode_m (h := h) (x := x) py
      rw [undo_eq ok ht hh hx hy b3] at b4
      refine ⟨t, by omega, by omega, mem_lpB.mpr ⟨scode h x (2 ^ y), swF_mem.mpr ⟨by omega, by unfold scode; omega, b3⟩, ?_, ?_⟩⟩
      · unfold lpP
        rw [e3, b4, decide_eq_true (one_mem ⟨y, by omega⟩)]
        rfl
      · unfold vcode
        rw [e1, e2, e3, Nat.log2_two_pow]
        exact e
/-! the class -/
theorem c_isSwap (hc : CV c v σ) (ok : v.OK) (hz : Sv.OK v z) (hs : CS v s z σ) {t h m1 m2 : Nat} (ht : t < v.T) (hh : h < v.H) (h1 : m1 < 1024) (h2 : m2 < 1024) : ∃ σ', mX1_isSwap c s (nI t) (nI h) (nI m1) (nI m2) σ = some (!tb (v.wa h) z.hr && aCan v z t h (nI m1) (nI m2) && aLaw v h (nI m1) (nI m2) (nI z.hr) (v.sl t), σ') := by
  have oT := ok.T
  have oR := ok.R
  have hzr := hz.hr
  unfold mX1_isSwap
  simp only [bnd_eq]
  rw [hs.hr, c_isSeen hc ok hh (by omega), obs_eq]
  cases q1 : tb (v.wa h) z.hr
  · rw [if_neg (show ¬ false = true by simp), c_canBe hc ok hs ht hh h1 h2, obs_eq]
    cases q2 : aCan v z t h (nI m1) (nI m2)
    · exact ⟨σ, rfl⟩
    · obtain ⟨σ', l1⟩ := c_isLawful hc ok hh h1 h2 (nI z.hr) (v.sl t)
      rw [if_pos rfl, binn (show t < 4 by omega) (by omega), if_pos rfl, pn_cl (by omega), hc.sl t ht, l1, obs_eq]
      refine ⟨σ', ?_⟩
      cases q3 : aLaw v h (nI m1) (nI m2) (nI z.hr) (v.sl t) <;> rfl
  · exact ⟨σ, rfl⟩
theorem c_canUndo (hc : CV c v σ) (ok : v.OK) (hcc : c = 12 ∨ c = 28) (hz : Sv.OK v z) (hs : CS v 44 z σ) (ht : t < v.T) {L : List Nat} (hA : SLc v t 183 L σ) {i s : Nat} (hi : L[i]? = some s) (hi2 : i < 100) (hs1 : s < 10240 * v.H) (hsw : isSw v z t s = true) : ∃ σ', mX11_canUndo 0 c dr (nI t) (nI i) σ = some (undoB v z t s, σ') ∧ CV c v σ' ∧ ∀ a k, ¬ (a = c + 14 ∨ a = c + 15 ∨ (221 ≤ a ∧ a ≤ 223)) → σ'.1 a k = σ.1 a k := by
  have oN := ok.N
  have oH := ok.H
  obtain ⟨k1, k2, k3, -⟩ := hA.2 i s hi
  obtain ⟨w1, w2, w3, w4⟩ := isSw_spec ok hsw
  obtain ⟨A, a1, a2⟩ := c_copy (σ := σ) (t := 221) (p := 44) (Or.inl (by omega))
  have GA : ∀ a k, ¬ (221 ≤ a ∧ a ≤ 223) → A.1 a k = σ.1 a k := fun a k hn => by rw [a2, if_neg (by omega), if_neg (by omega), if_neg (by omega)]
  have csA : CS v 221 z A := by
    refine ⟨fun h hh => ?_, ?_, ?_⟩
    · rw [a2, if_pos ⟨rfl, hh⟩]; exact hs.held h hh
    · rw [a2, if_neg (by omega), if_neg (by omega), if_pos (by omega)]; exact hs.hr
    · rw [a2, if_neg (by omega), if_neg (by omega), if_pos (by omega)]; exact hs.jl
  obtain ⟨B, b1, b2, b3⟩ := c_exchange ok csA (t := t) (h := s / 10240) ht (by omega) (sub_bit w1 ok w2) w3
  have hcB : CV c v B := hc.fr (fun a k q => by rw [b3 a k (by unfold FPc at q; omega), GA a k (by unfold FPc at q; omega)])
  obtain ⟨C, c1⟩ := c_isSwap hcB ok (swM_OK ok hz ht hs1) b2 ht (h := s / 10240) (by omega) (m1 := s % 1024) (m2 := 2 ^ (s / 1024 % 10)) (by omega) (p2_lt (by omega))
  have FC : ∀ a k, ¬ (a = c + 14 ∨ a = c + 15) → C.1 a k = B.1 a k := fun a k hn => (fX1_isSwap _ _ _ _ _ _ _ _ c1 a k (by unfold MOD_X1_isSwap; omega)).1
  refine ⟨C, ?_, hcB.fr (fun a k q => FC a k (by unfold FPc at q; omega)), fun a k hn => by rw [FC a k (by omega), b3 a k (by omega), GA a k (by omega)]⟩
  unfold mX11_canUndo
  simp only [bnd_eq]
  rw [binn hi2 (by omega), if_pos rfl, if_pos rfl, pn_cl (by omega), show 0 + 183 = 183 from rfl, show 0 + 221 = 221 from rfl, show 0 + 44 = 44 from rfl, k1, k2, shl_nI (by omega), a1, obs_eq, if_pos rfl, GA (183 + 3) i (by omega), k3, b1, obs_eq, if_pos rfl, b3 (183 + 3) i (by omega), GA (183 + 3) i (by omega), k3, c1, obs_eq]
  rfl
theorem ntz_dec : ∀ y : Fin 10, mJ6_numberOfTrailingZeros_0f7a4 (nI (2 ^ y.1)) (fun _ _ => 0, fun _ _ => 0) = some (nI y.1) := by decide +kernel
theorem j_ntz {y : Nat} (h : y < 10) : mJ6_numberOfTrailingZeros_0f7a4 (nI (2 ^ y)) σ = some (nI y) := ntz_dec ⟨y, h⟩
def quadN (v : Vw) : Option Nat → List Int32
  | none => []
  | some i => [nI (i / (v.H * v.N * v.N)), nI (i / (v.N * v.N) % v.H), nI (i / v.N % v.N), nI (i % v.N)]
theorem c_layLoop (ok : v.OK) {acc : List Nat} {i s : Nat} {L : List Nat} (hA : SLc v t 183 L σ) (hi : L[i]? = some s) (hi2 : i < 100) (hs1 : s < 10240 * v.H) (hsw : isSw v z t s = true) (hp : lpP v z t s = true) (hL : LC (quadN v acc.head?) σ) : ∃ σ', mX11_layLoophole 0 c dr (nI t) (nI i) σ = some σ' ∧ LC (quadN v (acc ++ [vcode v t s]).head?) σ' ∧ ∀ a k, ¬ (a = 173 ∨ (a = 0 ∧ k = 9)) → σ'.1 a k = σ.1 a k := by
  have oN := ok.N
  obtain ⟨k1, k2, k3, -⟩ := hA.2 i s hi
  obtain ⟨y, y1, -, y2, y3⟩ := lpP_spec ok hsw hp
  have hx := (isSw_spec ok hsw).1
  obtain ⟨d1, d2, d3, d4⟩ := lcode_dec (t := t) (show s / 10240 < v.H by omega) hx y1
  unfold mX11_layLoophole
  simp only [bnd_eq]
  cases acc with
  | nil =>
    have h0 : σ.1 0 9 = 0 := hL.1
    obtain ⟨A, a1, a2, a3⟩ := c_lay (dr := dr) (tw := c) hL (by simp [quadN]) (nI t)
    obtain ⟨B, b1, b2, b3⟩ := c_lay (dr := dr) (tw := c) a2 (by simp [quadN]) (nI (s / 10240))
    obtain ⟨C, c1, c2, c3⟩ := c_lay (dr := dr) (tw := c) b2 (by simp [quadN]) (nI (s / 1024 % 10))
    obtain ⟨D, e1, e2, e3⟩ := c_lay (dr := dr) (tw := c) c2 (by simp [quadN]) (nI y)
    refine ⟨D, ?_, ?_, fun a k hn => by rw [e3 a k hn, c3 a k hn, b3 a k hn, a3 a k hn]⟩
    · rw [h0, if_pos (by decide), a1, obs_eq, binn hi2 (by omega), if_pos rfl, pn_cl (by omega), show 0 + 183 = 183 from rfl, a3 (183 + 1) i (by omega), k1, b1, obs_eq, if_pos rfl, b3 (183 + 2) i (by omega), a3 (183 + 2) i (by omega), k2, c1, obs_eq, if_pos rfl, c3 (183 + 3) i (by omega), b3 (183 + 3) i (by omega), a3 (183 + 3) i (by omega), k3, y2, j_ntz (by omega), obs_eq, e1, obs_eq]
    · have : quadN v ([] ++ [vcode v t s]).head? = [nI t, nI (s / 10240), nI (s / 1024 % 10), nI y] := by
        show [nI (vcode v t s / (v.H * v.N * v.N)), nI (vcode v t s / (v.N * v.N) % v.H), nI (vcode v t s / v.N % v.N), nI (vcode v t s % v.N)] = _
        unfold vcode
        rw [y3, d1, d2, d3, d4]
      rw [this]
      simpa [quadN] using e2
  | cons q l =>
    have h0 : σ.1 0 9 = 4 := hL.1
    rw [h0, if_neg (by decide)]
    exact ⟨σ, rfl, hL, fun a k _ => rfl⟩
theorem lpB_cons {s : Nat} {l : List Nat} : lpB v z t (s :: l) = if lpP v z t s = true then vcode v t s :: lpB v z t l else lpB v z t l := by
  unfold lpB
  rw [List.filter_cons]
  by_cases q : lpP v z t s = true
  · rw [if_pos q, if_pos q, List.map_cons]
  · rw [if_neg q, if_neg q]
theorem c_lp_L38 (ok : v.OK) (hcc : c = 12 ∨ c = 28) (hz : Sv.OK v z) (ht : t < v.T) {k89 : Int32 → St_ → Option (Int32 × St_)} : ∀ k n i (acc : List Nat) (σ : St_), CV c v σ → CS v 44 z σ → SLc v t 183 (swl v z t) σ → LC (quadN v acc.head?) σ → i + k = (swl v z t).length → k < n → ∃ σ', mX11_loopholes_L38 0 c dr (nI t) k89 n (nI acc.length) (nI i) σ = k89 (nI (acc ++ lpB v z t ((swl v z t).drop i)).length) σ' ∧ LC (quadN v (acc ++ lpB v z t ((swl v z t).drop i)).head?) σ' ∧ CV c v σ' ∧ CS v 44 z σ'
  | 0, n, i, acc, σ, hc, hs, hA, hL, hi, hn => by
    have hl := swl_len (v := v) (z := z) (t := t) ok
    obtain ⟨m, rfl, -⟩ := fu_suc hn
    refine ⟨σ, ?_, ?_, hc, hs⟩
    · unfold mX11_loopholes_L38
      rw [show 0 + 183 = 183 from rfl, hA.1, if_pos (nI_le (by omega) (by omega)), List.drop_eq_nil_of_le (by omega)]
      simp [lpB]
    · rw [List.drop_eq_nil_of_le (by omega)]
      simpa [lpB] using hL
  | k + 1, n, i, acc, σ, hc, hs, hA, hL, hi, hn => by
    have hl := swl_len (v := v) (z := z) (t := t) ok
    obtain ⟨m, rfl, hm⟩ := fu_suc hn
    have hil : i < (swl v z t).length := by omega
    have hp : (swl v z t)[i] ∈ swl v z t := List.getElem_mem hil
    have hgi : (swl v z t)[i]? = some (swl v z t)[i] := List.getElem?_eq_getElem hil
    have hd := List.drop_eq_getElem_cons hil
    generalize (swl v z t)[i] = s at hp hgi hd
    obtain ⟨-, s1, s2⟩ := swF_mem.mp hp
    rw [hd, lpB_cons]
    have k3 := (hA.2 i s hgi).2.2.1
    unfold mX11_loopholes_L38
    simp only [bnd_eq]
    rw [show 0 + 183 = 183 from rfl, hA.1, if_neg (nI_ge (by omega) (by omega)), binn (show i < 100 by omega) (by omega), if_pos rfl, pn_cl (by omega), k3, j_bitCount (by omega), obs_eq]
    simp only [nI_1]
    by_cases q1 : mem (nI (s % 1024)) = 1
    · rw [if_pos q1]
      obtain ⟨σ1, a1, a2, a3⟩ := c_canUndo (dr := dr) hc ok hcc hz hs ht hA hgi (by omega) s1 s2
      have hs1 : CS v 44 z σ1 := hs.fr (fun a k q => a3 a k (by omega))
      have hA1 : SLc v t 183 (swl v z t) σ1 := hA.fr (fun a k q => a3 a k (by omega))
      have hL1 : LC (quadN v acc.head?) σ1 := hL.fr (fun a k q => a3 a k (by omega))
      rw [a1, obs_eq]
      have ep : lpP v z t s = undoB v z t s := by unfold lpP; rw [decide_eq_true q1]; rfl
      rw [ep]
      cases q2 : undoB v z t s
      · rw [if_neg (show ¬ false = true by simp), if_neg (show ¬ false = true by simp)]
        exact c_lp_L38 ok hcc hz ht k m (i + 1) acc σ1 a2 hs1 hA1 hL1 (by omega) (by omega)
      · rw [if_pos rfl, if_pos rfl]
        obtain ⟨σ2, b1, b2, b3⟩ := c_layLoop (c := c) (dr := dr) ok hA1 hgi (by omega) s1 s2 (by rw [ep]; exact q2) hL1
        rw [b1, obs_eq]
        obtain ⟨σ', e1, e2, e3, e4⟩ := c_lp_L38 ok hcc hz ht (k89 := k89) k m (i + 1) (acc ++ [vcode v t s]) σ2 (a2.fr (fun a k q => b3 a k (by unfold FPc at q; omega))) (hs1.fr (fun a k q => b3 a k (by omega))) (hA1.fr (fun a k q => b3 a k (by omega))) b2 (by omega) (by omega)
        refine ⟨σ', ?_, ?_, e3, e4⟩
        · rw [List.append_assoc, List.singleton_append, List.length_append, List.length_cons, List.length_nil] at e1
          exact e1
        · rw [List.append_assoc, List.singleton_append] at e2
          exact e2
    · have ep : lpP v z t s = false := by unfold lpP; rw [decide_eq_false q1]; rfl
      rw [if_neg q1, ep, if_neg (show ¬ false = true by simp)]
      exact c_lp_L38 ok hcc hz ht k m (i + 1) acc σ hc hs hA hL (by omega) (by omega)
theorem c_lp_L9 (ok : v.OK) (hcc : c = 12 ∨ c = 28) (hz : Sv.OK v z) : ∀ k n t (acc : List Nat) (σ : St_), CV c v σ → CS v 44 z σ → LC (quadN v acc.head?) σ → t + k = v.T → k < n → ∃ σ', mX11_loopholes_L9 0 c dr n (nI acc.length) (nI t) σ = some (nI (acc ++ catL (fun t => lpB v z t (swl v z t)) t k).length, σ') ∧ LC (quadN v (acc ++ catL (fun t => lpB v z t (swl v z t)) t k).head?) σ'
  | 0, n, t, acc, σ, hc, hs, hL, hi, hn => by
    have := ok.T
    obtain ⟨m, rfl, -⟩ := fu_suc hn
    refine ⟨σ, ?_, by simpa [catL] using hL⟩
    unfold mX11_loopholes_L9
    rw [hc.T, if_pos (nI_le (by omega) (by omega))]
    simp [catL]
  | k + 1, n, t, acc, σ, hc, hs, hL, hi, hn => by
    have oT := ok.T
    have hl := swl_len (v := v) (z := z) (t := t) ok
    obtain ⟨m, rfl, hm⟩ := fu_suc hn
    obtain ⟨σ1, g1, g2⟩ := c_gather (t := 183) (s := 44) (th := t) hc ok (by omega) (by omega) (by omega) hz hs (by omega)
    have F : ∀ a k, ¬ (a = c + 14 ∨ a = c + 15 ∨ (183 ≤ a ∧ a < 192)) → σ1.1 a k = σ.1 a k := fun a k hn => (fX9_gather _ _ _ _ _ _ g1 a k (by unfold MOD_X9_gather; omega)).1
    obtain ⟨σ2, a1, a2, a3, a4⟩ := c_lp_L38 (dr := dr) ok hcc hz (show t < v.T by omega) (k89 := fun y11 σ12 => mX11_loopholes_L9 0 c dr m y11 (nI (t + 1)) σ12) (swl v z t).length FU 0 acc σ1 (hc.fr (fun a k q => F a k (by unfold FPc at q; omega))) (hs.fr (fun a k q => F a k (by omega))) g2 (hL.fr (fun a k q => F a k (by omega))) (by omega) (by unfold FU; omega)
    rw [List.drop_zero, show nI 0 = (0 : Int32) from rfl] at a1
    rw [List.drop_zero] at a2
    obtain ⟨σ', e1, e2⟩ := c_lp_L9 ok hcc hz k m (t + 1) (acc ++ lpB v z t (swl v z t)) σ2 a3 a4 a2 (by omega) (by omega)
    rw [List.append_assoc] at e1 e2
    refine ⟨σ', ?_, e2⟩
    unfold mX11_loopholes_L9
    rw [hc.T, if_neg (nI_ge (by omega) (by omega)), show 0 + 183 = 183 from rfl, show 0 + 44 = 44 from rfl, g1, obs_eq, nI_1]
    exact a1.trans e1
/-! the reference -/
theorem r_isLoop (hr : RV v σ) (ok : v.OK) (hz : Sv.OK v z) (zr : RN v 262 0 z σ) {t h x y : Nat} (ht : t < v.T) (hh : h < v.H) (hx : x < v.N) (hy : y < v.N) : ∃ σ', mX12_isLoophole 233 (nI t) (nI h) (nI x) (nI y) σ = some (lpQ v z t h x y, σ') := by
  have oN := ok.N
  have oH := ok.H
  have oT := ok.T
  have px := p2_lt (show x < 10 by omega)
  have py := p2_lt (show y < 10 by omega)
  obtain ⟨σ1, l1, l2⟩ := r_load ok.N zr
  have hr1 : RV v σ1 := hr.fr (fun a k q => (fX12_load _ _ _ l1 a k (by unfold MOD_X12_load; unfold FPr at q; omega)).1)
  have so : ∀ (ρ : St_) (x y : Nat), y < 10 → mX12_swapOf (nI h) (nI x) ((1 : Int32) <<< (nI y &&& 31)) ρ = some (nI (scode h x (2 ^ y))) := by
    intro ρ x y hy
    unfold mX12_swapOf scode
    rw [shl_nI (by omega), show (10240 : Int32) = nI 10240 from rfl, show (1024 : Int32) = nI 1024 from rfl, nI_mul, nI_mul, nI_add, nI_add]
  unfold mX12_isLoophole lpQ
  simp only [bnd_eq]
  rw [l1, obs_eq, binn (show x < 10 by omega) (by omega), if_pos rfl, pn_cl (show x < 2 ^ 31 by omega), show 233 + 30 = 263 from rfl, l2.wh x hx]
  have we : wcode (z.wh x) = nI h ↔ z.wh x = h := by rw [wc_house (by omega)]; exact wcode_eq (hz.le ok hx) (by omega)
  by_cases q1 : z.wh x = h
  · rw [if_pos (we.mpr q1), binn (show y < 10 by omega) (by omega), if_pos rfl, pn_cl (show y < 2 ^ 31 by omega), l2.wh y hy, wc_thief (by omega), decide_eq_true q1]
    have we2 : wcode (z.wh y) = wcode (5 + t) ↔ z.wh y = 5 + t := wcode_eq (hz.le ok hy) (by omega)
    by_cases q2 : z.wh y = 5 + t
    · rw [if_pos (we2.mpr q2), so _ _ _ (by omega), obs_eq, decide_eq_true q2]
      have hsl : scode h x (2 ^ y) < 10240 * v.H := by unfold scode; omega
      obtain ⟨σ2, a1⟩ := r_isSwap hr1 ok hz l2 ht hsl
      have F2 : ∀ a k, ¬ (a = 242 ∨ a = 243) → σ2.1 a k = σ1.1 a k := fun a k hn => (fX12_isSwap _ _ _ _ _ a1 a k (by unfold MOD_X12_isSwap; omega)).1
      rw [a1, obs_eq]
      cases q3 : isSw v z t (scode h x (2 ^ y))
      · exact ⟨σ2, rfl⟩
      · obtain ⟨σ3, b1, b2, b3⟩ := r_doSwap (rv_sw hr1 F2) ok (rw_sw l2 F2) ht hsl
        have hr3 : RV v σ3 := rv_mv (rv_sw hr1 F2) b3
        obtain ⟨σ4, c1⟩ := r_isSwap hr3 ok (swM_OK ok hz ht hsl) b2 ht (s := scode h y (2 ^ x)) (by unfold scode; omega)
        rw [if_pos rfl, so _ _ _ (by omega), obs_eq, b1, obs_eq, so _ _ _ (by omega), obs_eq, c1, obs_eq]
        exact ⟨σ4, rfl⟩
    · rw [if_neg (fun w => q2 (we2.mp w)), decide_eq_false q2]
      exact ⟨σ1, rfl⟩
  · rw [if_neg (fun w => q1 (we.mp w)), decide_eq_false q1]
    exact ⟨σ1, rfl⟩
theorem r_lp_L9 (ok : v.OK) (hz : Sv.OK v z) : ∀ k n i (acc : List Nat) (σ : St_), RV v σ → RN v 262 0 z σ → LR (quadN v acc.head?) σ → i + k = v.T * v.H * v.N * v.N → k < n → acc.length ≤ i → ∃ σ', mX12_loopholes_L9 233 n (nI acc.length) (nI i) σ = some (nI (acc ++ frm (lpI v z) i k).length, σ') ∧ LR (quadN v (acc ++ frm (lpI v z) i k).head?) σ'
  | 0, n, i, acc, σ, hr, zr, hL, hi, hn, hb => by
    have oN := ok.N
    have oH := ok.H
    have oT := ok.T
    have hM : v.T * v.H * v.N * v.N ≤ 4 * 5 * 10 * 10 := Nat.mul_le_mul (Nat.mul_le_mul (Nat.mul_le_mul oT oH) oN) oN
    obtain ⟨m, rfl, -⟩ := fu_suc hn
    refine ⟨σ, ?_, by simpa [frm] using hL⟩
    unfold mX12_loopholes_L9
    rw [hr.T, hr.H, hr.N, nI_mul, nI_mul, nI_mul, if_pos (nI_le (by omega) (by omega))]
    simp [frm]
  | k + 1, n, i, acc, σ, hr, zr, hL, hi, hn, hb => by
    have oN := ok.N
    have oH := ok.H
    have oT := ok.T
    have hM : v.T * v.H * v.N * v.N ≤ 4 * 5 * 10 * 10 := Nat.mul_le_mul (Nat.mul_le_mul (Nat.mul_le_mul oT oH) oN) oN
    obtain ⟨m, rfl, hm⟩ := fu_suc hn
    obtain ⟨t, h, x, y, ht, hh, hx, hy, ei⟩ := lcode_of (T := v.T) (show i < v.T * v.H * v.N * v.N by omega)
    obtain ⟨d1, d2, d3, d4⟩ := lcode_dec (t := t) hh hx hy
    rw [← ei] at d1 d2 d3 d4
    have hNN : v.N * v.N ≤ 10 * 10 := Nat.mul_le_mul oN oN
    have hHNN : v.H * v.N * v.N ≤ 5 * 10 * 10 := Nat.mul_le_mul (Nat.mul_le_mul oH oN) oN
    have pN : 0 < v.N := by omega
    have pNN : 0 < v.N * v.N := Nat.mul_pos pN pN
    have pHNN : 0 < v.H * v.N * v.N := Nat.mul_pos (Nat.mul_pos (by omega) pN) pN
    have ev : lpI v z i = lpQ v z t h x y := by rw [ei]; exact lpI_code hh hx hy
    have e1 : nI i / nI (v.H * v.N * v.N) = nI t := by rw [nI_div (by omega) (by omega), d4]
    have e2 : nI i / nI (v.N * v.N) = nI (i / (v.N * v.N)) := nI_div (by omega) (by omega)
    have dle1 : i / (v.N * v.N) ≤ i := Nat.div_le_self _ _
    have dle2 : i / v.N ≤ i := Nat.div_le_self _ _
    have e3 : nI (i / (v.N * v.N)) - nI (i / (v.N * v.N)) / nI v.H * nI v.H = nI h := by rw [nI_rem (by omega) (by omega), d3]
    have e4 : nI i / nI v.N = nI (i / v.N) := nI_div (by omega) (by omega)
    have e5 : nI (i / v.N) - nI (i / v.N) / nI v.N * nI v.N = nI x := by rw [nI_rem (by omega) (by omega), d2]
    have e6 : nI i - nI (i / v.N) * nI v.N = nI y := by
      have := nI_rem (a := i) (b := v.N) (by omega) (by omega)
      rw [e4, d1] at this
      exact this
    obtain ⟨σ1, a1⟩ := r_isLoop hr ok hz zr ht hh hx hy
    have F1 : ∀ a k, ¬ (a = 242 ∨ a = 243 ∨ a = 263 ∨ (a = 233 ∧ (k = 62 ∨ k = 63))) → σ1.1 a k = σ.1 a k := fun a k hn => (fX12_isLoophole _ _ _ _ _ _ _ a1 a k (by unfold MOD_X12_isLoophole; omega)).1
    have go : ∀ (acc' : List Nat) (ρ : St_), (∀ a k, ¬ (a = 265 ∨ (a = 233 ∧ k = 71)) → ρ.1 a k = σ1.1 a k) → LR (quadN v acc'.head?) ρ → acc'.length ≤ i + 1 → ∃ σ', mX12_loopholes_L9 233 m (nI acc'.length) (nI (i + 1)) ρ = some (nI (acc' ++ frm (lpI v z) (i + 1) k).length, σ') ∧ LR (quadN v (acc' ++ frm (lpI v z) (i + 1) k).head?) σ' := fun acc' ρ hρ hL' hb' => r_lp_L9 ok hz k m (i + 1) acc' ρ (hr.fr (fun a k q => by rw [hρ a k (by unfold FPr at q; omega), F1 a k (by unfold FPr at q; omega)])) (zr.fr oN (fun k _ _ => by rw [hρ _ _ (by omega), F1 _ _ (by omega)])) hL' (by omega) (by omega) hb'
    unfold mX12_loopholes_L9
    simp only [bnd_eq]
    rw [hr.T, hr.H, hr.N]
    simp only [nI_mul]
    rw [if_neg (nI_ge (by omega) (by omega)), if_neg (nI_ne0 pHNN (by omega)), if_neg (nI_ne0 pNN (by omega)), if_neg (nI_ne0 (show 0 < v.H by omega) (by omega)), if_neg (nI_ne0 pN (by omega)), if_neg (nI_ne0 pN (by omega)), if_neg (nI_ne0 pN (by omega)), e1, e2, e3, e4, e5, e6, a1, obs_eq]
    simp only [nI_1]
    unfold frm
    rw [ev]
    have hL1 : LR (quadN v acc.head?) σ1 := hL.fr (fun a k q => F1 a k (by omega))
    cases q : lpQ v z t h x y
    · rw [if_neg (show ¬ false = true by simp), if_neg (show ¬ false = true by simp)]
      exact go acc σ1 (fun a k _ => rfl) hL1 (by omega)
    · rw [if_pos rfl, if_pos rfl]
      have fin : ∀ ρ : St_, (∀ a k, ¬ (a = 265 ∨ (a = 233 ∧ k = 71)) → ρ.1 a k = σ1.1 a k) → LR (quadN v (acc ++ [i]).head?) ρ → ∃ σ', mX12_loopholes_L9 233 m (nI (acc.length + 1)) (nI (i + 1)) ρ = some (nI (acc ++ i :: frm (lpI v z) (i + 1) k).length, σ') ∧ LR (quadN v (acc ++ i :: frm (lpI v z) (i + 1) k).head?) σ' := by
        intro ρ hρ hLρ
        have := go (acc ++ [i]) ρ hρ hLρ (by rw [List.length_append, List.length_cons, List.length_nil]; omega)
        rw [List.append_assoc, List.singleton_append, List.length_append, List.length_cons, List.length_nil] at this
        exact this
      by_cases q2 : acc = []
      · have e0 : nI acc.length = 0 := by rw [q2]; rfl
        have hL2 : LR [] σ1 := by rw [q2] at hL1; exact hL1
        obtain ⟨A, a1', a2, a3⟩ := r_lay hL2 (by simp) (nI t)
        obtain ⟨B, b1, b2, b3⟩ := r_lay a2 (by simp) (nI h)
        obtain ⟨C, c1, c2, c3⟩ := r_lay b2 (by simp) (nI x)
        obtain ⟨D, f1, f2, f3⟩ := r_lay c2 (by simp) (nI y)
        rw [if_pos e0, a1', obs_eq, b1, obs_eq, c1, obs_eq, f1, obs_eq]
        refine fin D (fun a k hn => by rw [f3 a k hn, c3 a k hn, b3 a k hn, a3 a k hn]) ?_
        rw [q2]
        have : quadN v ([] ++ [i]).head? = [nI t, nI h, nI x, nI y] := by
          show [nI (i / (v.H * v.N * v.N)), nI (i / (v.N * v.N) % v.H), nI (i / v.N % v.N), nI (i % v.N)] = _
          rw [d1, d2, d3, d4]
        rw [this]
        simpa using f2
      · have e0 : ¬ nI acc.length = 0 := nI_ne0 (List.length_pos_iff.mpr q2) (by omega)
        rw [if_neg e0]
        exact fin σ1 (fun a k _ => rfl) (by rw [head_app q2]; exact hL1)
theorem core_24 (hV : Vof c σ) (hcc : c = 12 ∨ c = 28) (hnow : Inow σ) : ∃ (r : Int32) (σ1 σ2 : St_), mX11_loopholes 0 c dr σ = some (r, σ1) ∧ mX12_loopholes 233 σ1 = some (r, σ2) ∧ Ilaid σ2 := by
  obtain ⟨v, ok, hc, hr, h1, h2, h3, h4, -⟩ := hV
  obtain ⟨z, hz, zc, zr, -⟩ := now_of ok h1 h2 h3 h4 hnow
  have oN := ok.N
  have oH := ok.H
  have oT := ok.T
  have hM : v.T * v.H * v.N * v.N ≤ 4 * 5 * 10 * 10 := Nat.mul_le_mul (Nat.mul_le_mul (Nat.mul_le_mul oT oH) oN) oN
  obtain ⟨σ1, w1, w2⟩ := c_lp_L9 (dr := dr) ok hcc hz v.T FU 0 [] (sI σ 0 9 0) (hc.fr (fun a k q => by rw [sI_get, if_neg (by unfold FPc at q; omega)])) (zc.fr (fun a k q => by rw [sI_get, if_neg (by omega)])) (lc_nil rfl) (by omega) (by unfold FU; omega)
  rw [List.nil_append, lp_all ok] at w1 w2
  generalize hQ : frm (lpI v z) 0 (v.T * v.H * v.N * v.N) = Q at w1 w2
  have cls : mX11_loopholes 0 c dr σ = some (nI Q.length, σ1) := by
    unfold mX11_loopholes
    simp only [bnd_eq]
    exact w1
  have F : ∀ a k, 233 ≤ a → σ1.1 a k = σ.1 a k := fun a k hn => (fX11_loopholes _ _ _ _ _ cls a k (by unfold MOD_X11_loopholes; omega)).1
  have G : ∀ a k, 233 ≤ a → ¬ (a = 233 ∧ k = 71) → (sI σ1 233 71 0).1 a k = σ.1 a k := fun a k n1 n2 => by rw [sI_get, if_neg (by omega), F a k n1]
  obtain ⟨σ2, e1, e2⟩ := r_lp_L9 ok hz (v.T * v.H * v.N * v.N) FU 0 [] (sI σ1 233 71 0) (hr.fr (fun a k q => G a k (by unfold FPr at q; omega) (by unfold FPr at q; omega))) (zr.fr oN (fun k _ _ => G _ _ (by omega) (by omega))) (lr_nil rfl) (by omega) (by unfold FU; omega) (by simp)
  rw [List.nil_append, hQ] at e1 e2
  have rf : mX12_loopholes 233 σ1 = some (nI Q.length, σ2) := by
    unfold mX12_loopholes
    simp only [bnd_eq]
    exact e1
  refine ⟨_, _, _, cls, rf, laid_of (l := quadN v Q.head?) (w2.fr (fun a k q => ?_)) e2 ?_⟩
  · exact (fX12_loopholes _ _ _ rf a k (by unfold MOD_X12_loopholes; omega)).1
  · cases Q.head? with
    | none => simp [quadN]
    | some q => simp [quadN]
end LOOPH
