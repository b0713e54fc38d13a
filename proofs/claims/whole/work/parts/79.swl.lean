/-! SWAPS as numbers: 10240 * HOUSE + 1024 * THING + the set LEFT; sets of one or two -/
section SWL
variable {v : Vw} {z : Sv} {t : Nat}
def scode (h x m : Nat) : Nat := 10240 * h + 1024 * x + m
theorem scode_h {h x m : Nat} (hx : x < 10) (hm : m < 1024) : scode h x m / 10240 = h := by unfold scode; omega
theorem scode_x {h x m : Nat} (hx : x < 10) (hm : m < 1024) : scode h x m / 1024 % 10 = x := by unfold scode; omega
theorem scode_m {h x m : Nat} (hm : m < 1024) : scode h x m % 1024 = m := by unfold scode; omega
theorem scode_of (s : Nat) : s = scode (s / 10240) (s / 1024 % 10) (s % 1024) := by unfold scode; omega
/-- sets of one, or of two, of those for which st is, hi from i on -/
def stF (st : Nat → Bool) : Nat → Nat → List (Nat × Option Nat)
  | _, 0 => []
  | i, k + 1 => (if st i = true then (i, none) :: (frm st 0 i).map (fun y => (i, some y)) else []) ++ stF st (i + 1) k
theorem mem_stF {st : Nat → Bool} {p : Nat × Option Nat} : ∀ {k i : Nat}, p ∈ stF st i k ↔ i ≤ p.1 ∧ p.1 < i + k ∧ st p.1 = true ∧ (p.2 = none ∨ ∃ y, y < p.1 ∧ st y = true ∧ p.2 = some y)
  | 0, i => by
    simp only [stF, List.not_mem_nil, false_iff]
    omega
  | k + 1, i => by
    unfold stF
    rw [List.mem_append, mem_stF (k := k)]
    constructor
    · rintro (h | ⟨h1, h2, h3⟩)
      · by_cases q : st i = true
        · rw [if_pos q, List.mem_cons, List.mem_map] at h
          rcases h with e | ⟨y, hy, e⟩
          · subst e; exact ⟨Nat.le_refl _, by show i < i + (k + 1); omega, q, Or.inl rfl⟩
          · subst e
            obtain ⟨-, y2, y3⟩ := mem_frm.mp hy
            exact ⟨Nat.le_refl _, by show i < i + (k + 1); omega, q, Or.inr ⟨y, by simpa using y2, y3, rfl⟩⟩
        · rw [if_neg q] at h; cases h
      · exact ⟨by omega, by omega, h3⟩
    · rintro ⟨h1, h2, h3, h4⟩
      by_cases e : p.1 = i
      · left
        rw [← e, if_pos h3, List.mem_cons, List.mem_map]
        rcases h4 with e2 | ⟨y, y1, y2, y3⟩
        · left; exact Prod.ext rfl e2
        · right; exact ⟨y, mem_frm.mpr ⟨by omega, by omega, y2⟩, Prod.ext rfl y3.symm⟩
      · right; exact ⟨by omega, by omega, h3, h4⟩
theorem psn_some {hi y : Nat} (h : y < hi) : psn hi (some y) = 2 ^ hi + 2 ^ y := by
  have e := Nat.two_pow_add_eq_or_of_lt (i := hi) (b := 2 ^ y) (Nat.pow_lt_pow_right (by omega) h) 1
  rw [Nat.mul_one] at e
  exact e.symm
theorem psn_le {p : Nat × Option Nat} {st : Nat → Bool} (h : p.2 = none ∨ ∃ y, y < p.1 ∧ st y = true ∧ p.2 = some y) : 2 ^ p.1 ≤ psn p.1 p.2 ∧ psn p.1 p.2 < 2 ^ (p.1 + 1) := by
  have h0 := Nat.two_pow_pos p.1
  rw [Nat.pow_succ]
  rcases h with e | ⟨y, y1, -, e⟩
  · rw [e]; show 2 ^ p.1 ≤ 2 ^ p.1 ∧ 2 ^ p.1 < _; omega
  · rw [e, psn_some y1]
    have := Nat.pow_lt_pow_right (a := 2) (by omega) y1
    have := Nat.two_pow_pos y
    omega
theorem stF_sorted {st : Nat → Bool} : ∀ (k i : Nat), (stF st i k).Pairwise (fun a b => psn a.1 a.2 < psn b.1 b.2)
  | 0, i => List.Pairwise.nil
  | k + 1, i => by
    unfold stF
    rw [List.pairwise_append]
    refine ⟨?_, stF_sorted k (i + 1), fun a ha b hb => ?_⟩
    · by_cases q : st i = true
      · rw [if_pos q, List.pairwise_cons]
        refine ⟨fun b hb => ?_, ?_⟩
        · obtain ⟨y, hy, e⟩ := List.mem_map.mp hb
          have y2 := (mem_frm.mp hy).2.1
          subst e
          show psn i none < psn i (some y)
          rw [psn_some (by omega)]
          have := Nat.two_pow_pos y
          show 2 ^ i < _
          omega
        · rw [List.pairwise_map]
          refine List.Pairwise.imp_of_mem ?_ (frm_sorted i 0)
          intro a b ha hb hab
          have a2 := (mem_frm.mp ha).2.1
          have b2 := (mem_frm.mp hb).2.1
          show psn i (some a) < psn i (some b)
          rw [psn_some (by omega), psn_some (by omega)]
          have := Nat.pow_lt_pow_right (a := 2) (by omega) hab
          omega
      · rw [if_neg q]; exact List.Pairwise.nil
    · obtain ⟨b1, b2, b3, b4⟩ := mem_stF.mp hb
      have hb2 := psn_le b4
      have ha1 : a.1 = i ∧ (a.2 = none ∨ ∃ y, y < a.1 ∧ st y = true ∧ a.2 = some y) := by
        have : a ∈ stF st i 1 := by
          unfold stF
          rw [List.mem_append]
          exact Or.inl ha
        obtain ⟨a1, a2, a3, a4⟩ := mem_stF.mp this
        exact ⟨by omega, a4⟩
      have ha2 := psn_le ha1.2
      have := Nat.pow_le_pow_right (n := 2) (by omega) (show a.1 + 1 ≤ b.1 by omega)
      omega
theorem stF_len {st : Nat → Bool} : ∀ (k i : Nat), (stF st i k).length + tri (cnt st i) = tri (cnt st (i + k))
  | 0, i => by simp [stF]
  | k + 1, i => by
    have ih := @stF_len st k (i + 1)
    rw [show i + 1 + k = i + (k + 1) by omega, cnt_suc] at ih
    unfold stF
    rw [List.length_append]
    by_cases q : st i = true
    · rw [if_pos q] at ih ⊢
      rw [List.length_cons, List.length_map]
      have e : tri (cnt st i + 1) = tri (cnt st i) + (cnt st i + 1) := rfl
      have e2 : (frm st 0 i).length = cnt st i := rfl
      omega
    · rw [if_neg q] at ih ⊢
      simp only [List.length_nil, Nat.zero_add]
      exact ih
/-- the sets of one or two of what a THIEF has -/
def sets (v : Vw) (z : Sv) (t : Nat) : List (Nat × Option Nat) := stF (fun x => z.wh x == 5 + t) 0 v.N
theorem sets_len (v : Vw) (z : Sv) (t : Nat) : (sets v z t).length = tri (cnt (fun x => z.wh x == 5 + t) v.N) := by
  have := @stF_len (fun x => z.wh x == 5 + t) v.N 0
  rw [Nat.zero_add] at this
  have e : tri (cnt (fun x => z.wh x == 5 + t) 0) = 0 := rfl
  rw [e] at this
  exact this
theorem sets_55 (ok : v.OK) : (sets v z t).length ≤ 55 := by
  have := cnt_le (fun x => z.wh x == 5 + t) v.N
  have := ok.N
  rw [sets_len]
  exact (tri_le ⟨_, show cnt (fun x => z.wh x == 5 + t) v.N < 11 by omega⟩).1
/-- a SWAP as the reference asks -/
def isSw (v : Vw) (z : Sv) (t s : Nat) : Bool := decide (s % 1024 ≠ 0) && decide (mem (nI (s % 1024)) ≤ 2) && decide (s / 1024 % 10 < v.N) && decide (z.wh (s / 1024 % 10) = s / 10240) && decide (nI (s % 1024) &&& (hset v z (5 + t) ^^^ (-1)) = 0) && !tb (v.wa (s / 10240)) z.hr && aCan v z t (s / 10240) (nI (2 ^ (s / 1024 % 10))) (nI (s % 1024)) && aLaw v (s / 10240) (nI (2 ^ (s / 1024 % 10))) (nI (s % 1024)) (nI z.hr) (v.sl t)
/-- all SWAPS of a THIEF, from a number on -/
def swF (v : Vw) (z : Sv) (t f : Nat) : List Nat := frm (isSw v z t) f (10240 * v.H - f)
def swl (v : Vw) (z : Sv) (t : Nat) : List Nat := swF v z t 0
/-- one that it can be, and is LAWFUL -/
def okS (v : Vw) (z : Sv) (t h x : Nat) (p : Nat × Option Nat) : Bool := aCan v z t h (nI (2 ^ x)) (pset p.1 p.2) && aLaw v h (nI (2 ^ x)) (pset p.1 p.2) (nI z.hr) (v.sl t)
def blk (v : Vw) (z : Sv) (t h x : Nat) (l : List (Nat × Option Nat)) : List Nat := (l.filter (okS v z t h x)).map (fun p => scode h x (psn p.1 p.2))
def gX (v : Vw) (z : Sv) (t h : Nat) : Nat → Nat → List Nat
  | _, 0 => []
  | i, k + 1 => (if (z.wh i == h) = true then blk v z t h i (sets v z t) else []) ++ gX v z t h (i + 1) k
def gH (v : Vw) (z : Sv) (t : Nat) : Nat → Nat → List Nat
  | _, 0 => []
  | i, k + 1 => (if tb (v.wa i) z.hr = true then [] else gX v z t i 0 v.N) ++ gH v z t (i + 1) k
theorem mem_blk {h x s : Nat} {l : List (Nat × Option Nat)} : s ∈ blk v z t h x l ↔ ∃ p, p ∈ l ∧ okS v z t h x p = true ∧ s = scode h x (psn p.1 p.2) := by
  unfold blk
  rw [List.mem_map]
  constructor
  · rintro ⟨p, hp, e⟩
    obtain ⟨p1, p2⟩ := List.mem_filter.mp hp
    exact ⟨p, p1, p2, e.symm⟩
  · rintro ⟨p, p1, p2, e⟩
    exact ⟨p, List.mem_filter.mpr ⟨p1, p2⟩, e.symm⟩
theorem sets_mem {p : Nat × Option Nat} : p ∈ sets v z t ↔ p.1 < v.N ∧ z.wh p.1 = 5 + t ∧ (p.2 = none ∨ ∃ y, y < p.1 ∧ z.wh y = 5 + t ∧ p.2 = some y) := by
  unfold sets
  rw [mem_stF]
  simp only [beq_iff_eq]
  constructor
  · rintro ⟨-, h2, h3, h4⟩
    exact ⟨by omega, h3, h4⟩
  · rintro ⟨h2, h3, h4⟩
    exact ⟨by omega, by omega, h3, h4⟩
theorem sets_psn (ok : v.OK) {p : Nat × Option Nat} (h : p ∈ sets v z t) : 1 ≤ psn p.1 p.2 ∧ psn p.1 p.2 < 1024 := by
  obtain ⟨h1, h2, h3⟩ := sets_mem.mp h
  have := ok.N
  have h4 := psn_le (p := p) (st := fun y => decide (z.wh y = 5 + t)) (h3.imp id (fun ⟨y, a, b, c⟩ => ⟨y, a, by simpa using b, c⟩))
  have h5 := Nat.pow_le_pow_right (n := 2) (by omega) (show p.1 + 1 ≤ 10 by omega)
  have h6 := Nat.two_pow_pos p.1
  omega
theorem mem_gX {h s : Nat} : ∀ {k i : Nat}, s ∈ gX v z t h i k ↔ ∃ x, i ≤ x ∧ x < i + k ∧ z.wh x = h ∧ s ∈ blk v z t h x (sets v z t)
  | 0, i => by
    simp only [gX, List.not_mem_nil, false_iff]
    rintro ⟨x, h1, h2, -⟩
    omega
  | k + 1, i => by
    unfold gX
    rw [List.mem_append, mem_gX (k := k)]
    constructor
    · rintro (q | ⟨x, h1, h2, h3⟩)
      · by_cases e : (z.wh i == h) = true
        · rw [if_pos e] at q
          exact ⟨i, by omega, by omega, by simpa using e, q⟩
        · rw [if_neg e] at q; cases q
      · exact ⟨x, by omega, by omega, h3⟩
    · rintro ⟨x, h1, h2, h3, h4⟩
      by_cases e : x = i
      · subst e
        left
        rw [if_pos (by simpa using h3)]
        exact h4
      · exact Or.inr ⟨x, by omega, by omega, h3, h4⟩
theorem mem_gH {s : Nat} : ∀ {k i : Nat}, s ∈ gH v z t i k ↔ ∃ h, i ≤ h ∧ h < i + k ∧ tb (v.wa h) z.hr = false ∧ s ∈ gX v z t h 0 v.N
  | 0, i => by
    simp only [gH, List.not_mem_nil, false_iff]
    rintro ⟨x, h1, h2, -⟩
    omega
  | k + 1, i => by
    unfold gH
    rw [List.mem_append, mem_gH (k := k)]
    constructor
    · rintro (q | ⟨x, h1, h2, h3⟩)
      · by_cases e : tb (v.wa i) z.hr = true
        · rw [if_pos e] at q; cases q
        · rw [if_neg e] at q
          exact ⟨i, by omega, by omega, by simpa using e, q⟩
      · exact ⟨x, by omega, by omega, h3⟩
    · rintro ⟨x, h1, h2, h3, h4⟩
      by_cases e : x = i
      · subst e
        left
        rw [if_neg (by simp [h3])]
        exact h4
      · exact Or.inr ⟨x, by omega, by omega, h3, h4⟩
theorem blk_in (ok : v.OK) {h x s : Nat} (hs : s ∈ blk v z t h x (sets v z t)) : 10240 * h + 1024 * x < s ∧ s < 10240 * h + 1024 * (x + 1) := by
  obtain ⟨p, p1, -, e⟩ := mem_blk.mp hs
  have := sets_psn ok p1
  subst e
  unfold scode
  omega
theorem blk_sorted (h x : Nat) : (blk v z t h x (sets v z t)).Pairwise (fun a b => a < b) := by
  unfold blk
  rw [List.pairwise_map]
  refine List.Pairwise.imp ?_ (List.Pairwise.filter _ (stF_sorted v.N 0))
  intro a b hab
  unfold scode
  omega
theorem gX_sorted (ok : v.OK) (h : Nat) : ∀ (k i : Nat), (gX v z t h i k).Pairwise (fun a b => a < b)
  | 0, i => List.Pairwise.nil
  | k + 1, i => by
    unfold gX
    rw [List.pairwise_append]
    refine ⟨?_, gX_sorted ok h k (i + 1), fun a ha b hb => ?_⟩
    · by_cases q : (z.wh i == h) = true
      · rw [if_pos q]; exact blk_sorted h i
      · rw [if_neg q]; exact List.Pairwise.nil
    · obtain ⟨x, x1, x2, x3, x4⟩ := mem_gX.mp hb
      have hb2 := blk_in ok x4
      by_cases q : (z.wh i == h) = true
      · rw [if_pos q] at ha
        have ha2 := blk_in ok ha
        omega
      · rw [if_neg q] at ha; cases ha
theorem gX_in (ok : v.OK) {h s : Nat} (hs : s ∈ gX v z t h 0 v.N) : 10240 * h < s ∧ s < 10240 * (h + 1) := by
  obtain ⟨x, x1, x2, x3, x4⟩ := mem_gX.mp hs
  have := blk_in ok x4
  have := ok.N
  omega
theorem gH_sorted (ok : v.OK) : ∀ (k i : Nat), (gH v z t i k).Pairwise (fun a b => a < b)
  | 0, i => List.Pairwise.nil
  | k + 1, i => by
    unfold gH
    rw [List.pairwise_append]
    refine ⟨?_, gH_sorted ok k (i + 1), fun a ha b hb => ?_⟩
    · by_cases q : tb (v.wa i) z.hr = true
      · rw [if_pos q]; exact List.Pairwise.nil
      · rw [if_neg q]; exact gX_sorted ok i v.N 0
    · obtain ⟨x, x1, x2, x3, x4⟩ := mem_gH.mp hb
      have hb2 := gX_in ok x4
      by_cases q : tb (v.wa i) z.hr = true
      · rw [if_pos q] at ha; cases ha
      · rw [if_neg q] at ha
        have ha2 := gX_in ok ha
        omega
theorem two_dec : ∀ m : Fin 1024, m.1 ≠ 0 → mem (nI m.1) ≤ 2 → ∃ hi : Fin 10, m.1 = 2 ^ hi.1 ∨ ∃ y : Fin 10, y.1 < hi.1 ∧ m.1 = 2 ^ hi.1 ||| 2 ^ y.1 := by decide +kernel
theorem two_mem : ∀ hi : Fin 10, mem (nI (2 ^ hi.1)) ≤ 2 ∧ ∀ y : Fin 10, mem (nI (2 ^ hi.1 ||| 2 ^ y.1)) ≤ 2 := by decide +kernel
theorem sets_sub (ok : v.OK) {p : Nat × Option Nat} : p ∈ sets v z t → nI (psn p.1 p.2) &&& (hset v z (5 + t) ^^^ (-1)) = 0 := by
  intro h
  obtain ⟨h1, h2, h3⟩ := sets_mem.mp h
  have oN := ok.N
  apply (subS_iff ok).mpr
  intro y hy
  have := @tb_pset p.1 y p.2 (by omega) (fun w hw => by
    rcases h3 with e | ⟨u, u1, u2, e⟩
    · rw [e] at hw; cases hw
    · rw [e] at hw; cases hw; omega)
  unfold pset at this
  rw [this] at hy
  simp only [Bool.or_eq_true, decide_eq_true_eq] at hy
  rcases hy with e | e
  · subst e; exact ⟨h1, h2⟩
  · rcases h3 with e2 | ⟨u, u1, u2, e2⟩
    · rw [e2] at e; cases e
    · rw [e2] at e; cases e; exact ⟨by omega, u2⟩
theorem sets_of (ok : v.OK) {m : Nat} (hm : m < 1024) (h0 : m ≠ 0) (h2 : mem (nI m) ≤ 2) (h3 : nI m &&& (hset v z (5 + t) ^^^ (-1)) = 0) : ∃ p, p ∈ sets v z t ∧ psn p.1 p.2 = m := by
  have hs := subS_of ok h3
  obtain ⟨hi, e | ⟨y, hy, e⟩⟩ := two_dec ⟨m, hm⟩ h0 h2
  · refine ⟨(hi.1, none), sets_mem.mpr ?_, e.symm⟩
    have := hs hi.1 (by
      rw [show m = 2 ^ hi.1 from e, tb_bit (by omega)]
      simp)
    exact ⟨this.1, this.2, Or.inl rfl⟩
  · refine ⟨(hi.1, some y.1), sets_mem.mpr ?_, e.symm⟩
    have a1 := hs hi.1 (by
      rw [show m = 2 ^ hi.1 ||| 2 ^ y.1 from e, ← nI_or, tb_or, tb_bit (by omega)]
      simp)
    have a2 := hs y.1 (by
      rw [show m = 2 ^ hi.1 ||| 2 ^ y.1 from e, ← nI_or, tb_or, tb_bit (show y.1 < 31 by omega)]
      simp)
    exact ⟨a1.1, a1.2, Or.inr ⟨y.1, hy, a2.2, rfl⟩⟩
theorem sets_mem2 (ok : v.OK) {p : Nat × Option Nat} (h : p ∈ sets v z t) : mem (nI (psn p.1 p.2)) ≤ 2 := by
  obtain ⟨h1, h2, h3⟩ := sets_mem.mp h
  have oN := ok.N
  have := two_mem ⟨p.1, by omega⟩
  rcases h3 with e | ⟨y, y1, -, e⟩
  · rw [e]; exact this.1
  · rw [e]; exact this.2 ⟨y, by omega⟩
/-- both ways to all SWAPS -/
theorem swl_gH (ok : v.OK) : gH v z t 0 v.H = swl v z t := by
  have oN := ok.N
  apply sorted_ext (gH_sorted ok v.H 0) (frm_sorted _ _)
  intro s
  rw [mem_gH, mem_frm]
  constructor
  · rintro ⟨h, -, h2, h3, h4⟩
    obtain ⟨x, -, x2, x3, x4⟩ := mem_gX.mp h4
    obtain ⟨p, p1, p2, p3⟩ := mem_blk.mp x4
    have hp := sets_psn ok p1
    have e1 : s / 10240 = h := by rw [p3, scode_h (by omega) hp.2]
    have e2 : s / 1024 % 10 = x := by rw [p3, scode_x (by omega) hp.2]
    have e3 : s % 1024 = psn p.1 p.2 := by rw [p3, scode_m hp.2]
    refine ⟨by omega, by omega, ?_⟩
    unfold isSw
    rw [e1, e2, e3, sets_sub ok p1, h3]
    unfold okS pset at p2
    simp only [Bool.and_eq_true] at p2
    simp [p2.1, p2.2, x3, sets_mem2 ok p1, show psn p.1 p.2 ≠ 0 by omega, show x < v.N by omega]
  · rintro ⟨-, s2, s3⟩
    unfold isSw at s3
    simp only [Bool.and_eq_true, decide_eq_true_eq, Bool.not_eq_true'] at s3
    obtain ⟨⟨⟨⟨⟨⟨⟨a1, a2⟩, a3⟩, a4⟩, a5⟩, a6⟩, a7⟩, a8⟩ := s3
    obtain ⟨p, p1, p2⟩ := sets_of ok (m := s % 1024) (by omega) a1 a2 a5
    refine ⟨s / 10240, by omega, by omega, a6, mem_gX.mpr ⟨s / 1024 % 10, by omega, by omega, a4, mem_blk.mpr ⟨p, p1, ?_, ?_⟩⟩⟩
    · unfold okS pset
      rw [p2, a7, a8]; rfl
    · rw [p2]; exact scode_of s
theorem gX_len (h : Nat) : ∀ (k i : Nat), (gX v z t h i k).length ≤ (frm (fun x => z.wh x == h) i k).length * (sets v z t).length
  | 0, i => by simp [gX]
  | k + 1, i => by
    have ih := gX_len h k (i + 1)
    unfold gX frm
    rw [List.length_append]
    by_cases q : (z.wh i == h) = true
    · rw [if_pos q, if_pos q, List.length_cons, Nat.add_mul, Nat.one_mul]
      have : (blk v z t h i (sets v z t)).length ≤ (sets v z t).length := by
        unfold blk
        rw [List.length_map]
        exact List.length_filter_le _ _
      omega
    · rw [if_neg q, if_neg q, List.length_nil, Nat.zero_add]; exact ih
theorem gH_len : ∀ (k i : Nat), (gH v z t i k).length ≤ sumN (fun h => cnt (fun x => z.wh x == h) v.N) i k * (sets v z t).length
  | 0, i => by simp [gH]
  | k + 1, i => by
    have ih := gH_len k (i + 1)
    unfold gH sumN
    rw [List.length_append, Nat.add_mul]
    by_cases q : tb (v.wa i) z.hr = true
    · rw [if_pos q, List.length_nil, Nat.zero_add]; omega
    · rw [if_neg q]
      have := gX_len (v := v) (z := z) (t := t) i v.N 0
      unfold cnt at ih ⊢
      omega
theorem swl_len (ok : v.OK) : (swl v z t).length ≤ 84 := by
  have oN := ok.N
  have oH := ok.H
  have h1 := gH_len (v := v) (z := z) (t := t) v.H 0
  have h2 := cnt_all (wh := z.wh) (H := v.H) (g := 5 + t) (by omega) v.N
  rw [swl_gH ok, sets_len] at h1
  have h3 := cnt_le (fun x => z.wh x == 5 + t) v.N
  generalize cnt (fun x => z.wh x == 5 + t) v.N = k at h1 h2 h3
  generalize sumN (fun h => cnt (fun x => z.wh x == h) v.N) 0 v.H = m at h1 h2
  have h4 := (tri_le ⟨k, by omega⟩).2
  have h5 : m * tri k ≤ (10 - k) * tri k := Nat.mul_le_mul_right _ (by omega)
  have h6 : (10 - k) * tri k ≤ 84 := h4
  omega
/-- from one SWAP on to the next -/
theorem swF_skip {f g : Nat} (hfg : f ≤ g) (h : ∀ s, f ≤ s → s < g → s < 10240 * v.H → isSw v z t s = false) : swF v z t f = swF v z t g := by
  unfold swF
  by_cases q : g ≤ 10240 * v.H
  · have e : 10240 * v.H - f = (g - f) + (10240 * v.H - g) := by omega
    rw [e, frm_app, frm_none (fun s h1 h2 => h s h1 (by omega) (by omega)), List.nil_append, show f + (g - f) = g by omega]
  · have e : 10240 * v.H - g = 0 := by omega
    rw [e, frm_none (k := 10240 * v.H - f) (i := f) (fun s h1 h2 => h s h1 (by omega) (by omega))]
    rfl
theorem swF_hit {f : Nat} (h : isSw v z t f = true) (hf : f < 10240 * v.H) : swF v z t f = f :: swF v z t (f + 1) := by
  unfold swF
  obtain ⟨k, hk⟩ : ∃ k, 10240 * v.H - f = k + 1 := ⟨10240 * v.H - f - 1, by omega⟩
  rw [hk, show 10240 * v.H - (f + 1) = k by omega]
  conv => lhs; unfold frm
  rw [if_pos h]
theorem swF_end {f : Nat} (hf : 10240 * v.H ≤ f) : swF v z t f = [] := by
  unfold swF
  rw [show 10240 * v.H - f = 0 by omega]
  rfl
theorem swF_mem {f s : Nat} : s ∈ swF v z t f ↔ f ≤ s ∧ s < 10240 * v.H ∧ isSw v z t s = true := by
  unfold swF
  rw [mem_frm]
  constructor
  · rintro ⟨h1, h2, h3⟩; exact ⟨h1, by omega, h3⟩
  · rintro ⟨h1, h2, h3⟩; exact ⟨h1, by omega, h3⟩
theorem isSw_spec (ok : v.OK) {s : Nat} (h : isSw v z t s = true) : s / 1024 % 10 < v.N ∧ z.wh (s / 1024 % 10) = s / 10240 ∧ subS v z (5 + t) (nI (s % 1024)) ∧ s % 1024 ≠ 0 := by
  unfold isSw at h
  simp only [Bool.and_eq_true, decide_eq_true_eq, Bool.not_eq_true'] at h
  obtain ⟨⟨⟨⟨⟨⟨⟨a1, a2⟩, a3⟩, a4⟩, a5⟩, a6⟩, a7⟩, a8⟩ := h
  exact ⟨a3, a4, subS_of ok a5, a1⟩
end SWL
