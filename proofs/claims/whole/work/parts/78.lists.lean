/-! lists of numbers, counted and in order -/
section LISTS
theorem nI_div {a b : Nat} (ha : a < 2 ^ 31) (hb : b < 2 ^ 31) : nI a / nI b = nI (a / b) := by
  have hq : a / b ≤ a := Nat.div_le_self a b
  apply Int32.toInt_inj.mp
  rw [Int32.toInt_div, nI_toInt ha, nI_toInt hb, nI_toInt (by omega), ← Int.ofNat_tdiv]
  generalize a / b = q at hq
  rw [Int.bmod_eq_of_le (by omega) (by omega)]
theorem nI_sub {a b : Nat} (h : b ≤ a) : nI a - nI b = nI (a - b) := by
  have : nI a = nI (a - b) + nI b := by rw [nI_add, Nat.sub_add_cancel h]
  rw [this, Int32.add_sub_cancel]
theorem nI_rem {a b : Nat} (ha : a < 2 ^ 31) (hb : b < 2 ^ 31) : nI a - nI a / nI b * nI b = nI (a % b) := by
  have h2 : a / b * b ≤ a := Nat.div_mul_le_self a b
  rw [nI_div ha hb, nI_mul, nI_sub h2]
  congr 1
  have := Nat.div_add_mod a b
  rw [Nat.mul_comm] at this
  omega
/-- those of k places from i on for which p is -/
def frm (p : Nat → Bool) : Nat → Nat → List Nat
  | _, 0 => []
  | i, k + 1 => if p i = true then i :: frm p (i + 1) k else frm p (i + 1) k
theorem mem_frm {p : Nat → Bool} : ∀ {k i s : Nat}, s ∈ frm p i k ↔ i ≤ s ∧ s < i + k ∧ p s = true
  | 0, i, s => by
    simp only [frm, List.not_mem_nil, false_iff]
    omega
  | k + 1, i, s => by
    unfold frm
    by_cases h : p i = true
    · rw [if_pos h, List.mem_cons, mem_frm (k := k)]
      constructor
      · rintro (e | ⟨h1, h2, h3⟩)
        · subst e; exact ⟨by omega, by omega, h⟩
        · exact ⟨by omega, by omega, h3⟩
      · rintro ⟨h1, h2, h3⟩
        by_cases e : s = i
        · exact Or.inl e
        · exact Or.inr ⟨by omega, by omega, h3⟩
    · rw [if_neg h, mem_frm (k := k)]
      constructor
      · rintro ⟨h1, h2, h3⟩
        exact ⟨by omega, by omega, h3⟩
      · rintro ⟨h1, h2, h3⟩
        by_cases e : s = i
        · subst e; exact absurd h3 h
        · exact ⟨by omega, by omega, h3⟩
theorem frm_sorted {p : Nat → Bool} : ∀ (k i : Nat), (frm p i k).Pairwise (fun a b => a < b)
  | 0, i => List.Pairwise.nil
  | k + 1, i => by
    unfold frm
    by_cases h : p i = true
    · rw [if_pos h, List.pairwise_cons]
      refine ⟨fun s hs => ?_, frm_sorted k (i + 1)⟩
      have := (mem_frm.mp hs).1
      omega
    · rw [if_neg h]; exact frm_sorted k (i + 1)
theorem sorted_ext : ∀ {l1 l2 : List Nat}, l1.Pairwise (fun a b => a < b) → l2.Pairwise (fun a b => a < b) → (∀ s, s ∈ l1 ↔ s ∈ l2) → l1 = l2
  | [], [], _, _, _ => rfl
  | [], b :: l2, _, _, h => by
    have := (h b).mpr List.mem_cons_self
    cases this
  | a :: l1, [], _, _, h => by
    have := (h a).mp List.mem_cons_self
    cases this
  | a :: l1, b :: l2, h1, h2, h => by
    rw [List.pairwise_cons] at h1 h2
    have e : a = b := by
      rcases List.mem_cons.mp ((h a).mp List.mem_cons_self) with e | e
      · exact e
      · rcases List.mem_cons.mp ((h b).mpr List.mem_cons_self) with e2 | e2
        · exact e2.symm
        · have q1 := h2.1 a e
          have q2 := h1.1 b e2
          omega
    subst e
    have : l1 = l2 := sorted_ext h1.2 h2.2 (fun s => by
      constructor
      · intro hs
        have q := h1.1 s hs
        rcases List.mem_cons.mp ((h s).mp (List.mem_cons_of_mem _ hs)) with e | e
        · omega
        · exact e
      · intro hs
        have q := h2.1 s hs
        rcases List.mem_cons.mp ((h s).mpr (List.mem_cons_of_mem _ hs)) with e | e
        · omega
        · exact e)
    rw [this]
theorem frm_app {p : Nat → Bool} : ∀ (k i j : Nat), frm p i (k + j) = frm p i k ++ frm p (i + k) j
  | 0, i, j => by simp [frm]
  | k + 1, i, j => by
    have e1 : frm p i (k + 1 + j) = if p i = true then i :: frm p (i + 1) (k + j) else frm p (i + 1) (k + j) := by
      rw [show k + 1 + j = (k + j) + 1 by omega]
      rfl
    have e2 : frm p i (k + 1) = if p i = true then i :: frm p (i + 1) k else frm p (i + 1) k := rfl
    rw [e1, e2, frm_app k (i + 1) j, show i + 1 + k = i + (k + 1) by omega]
    by_cases h : p i = true
    · rw [if_pos h, if_pos h, List.cons_append]
    · rw [if_neg h, if_neg h]
theorem frm_none {p : Nat → Bool} : ∀ {k i : Nat}, (∀ s, i ≤ s → s < i + k → p s = false) → frm p i k = []
  | 0, _, _ => rfl
  | k + 1, i, h => by
    unfold frm
    rw [if_neg (by rw [h i (by omega) (by omega)]; simp), frm_none (fun s h1 h2 => h s (by omega) (by omega))]
theorem frm_len {p : Nat → Bool} : ∀ (k i : Nat), (frm p i k).length ≤ k
  | 0, _ => Nat.le_refl _
  | k + 1, i => by
    have := @frm_len p k (i + 1)
    unfold frm
    by_cases h : p i = true
    · rw [if_pos h, List.length_cons]; omega
    · rw [if_neg h]; omega
/-- how many of the first n -/
def cnt (p : Nat → Bool) (n : Nat) : Nat := (frm p 0 n).length
theorem cnt_suc (p : Nat → Bool) (n : Nat) : cnt p (n + 1) = cnt p n + (if p n = true then 1 else 0) := by
  unfold cnt
  rw [frm_app n 0 1, List.length_append, Nat.zero_add]
  congr 1
  unfold frm
  by_cases h : p n = true
  · rw [if_pos h, if_pos h]; rfl
  · rw [if_neg h, if_neg h]; rfl
theorem cnt_le (p : Nat → Bool) (n : Nat) : cnt p n ≤ n := frm_len n 0
/-- 1 + 2 + .. + n -/
def tri : Nat → Nat
  | 0 => 0
  | n + 1 => tri n + (n + 1)
theorem tri_le : ∀ k : Fin 11, tri k.1 ≤ 55 ∧ (10 - k.1) * tri k.1 ≤ 84 := by decide
/-- sums of counts over kinds i .. -/
def sumN (f : Nat → Nat) : Nat → Nat → Nat
  | _, 0 => 0
  | i, k + 1 => f i + sumN f (i + 1) k
theorem sumN_add (f g : Nat → Nat) : ∀ (k i : Nat), sumN (fun x => f x + g x) i k = sumN f i k + sumN g i k
  | 0, _ => rfl
  | k + 1, i => by
    unfold sumN
    rw [sumN_add f g k]
    omega
theorem sumN_zero {f : Nat → Nat} : ∀ {k i : Nat}, (∀ x, i ≤ x → x < i + k → f x = 0) → sumN f i k = 0
  | 0, _, _ => rfl
  | k + 1, i, h => by
    unfold sumN
    rw [h i (by omega) (by omega), sumN_zero (fun x h1 h2 => h x (by omega) (by omega))]
theorem sumN_ind {w : Nat} : ∀ {k i : Nat}, sumN (fun h => if (w == h) = true then 1 else 0) i k ≤ 1
  | 0, _ => Nat.zero_le _
  | k + 1, i => by
    unfold sumN
    by_cases e : (w == i) = true
    · have hz : sumN (fun h => if (w == h) = true then 1 else 0) (i + 1) k = 0 := sumN_zero (fun x h1 h2 => by
        simp at e
        simp
        omega)
      rw [if_pos e, hz]
      exact Nat.le_refl _
    · rw [if_neg e, Nat.zero_add]; exact sumN_ind
theorem sumN_mono {f g : Nat → Nat} : ∀ {k i : Nat}, (∀ x, i ≤ x → x < i + k → f x ≤ g x) → sumN f i k ≤ sumN g i k
  | 0, _, _ => Nat.le_refl _
  | k + 1, i, h => by
    unfold sumN
    have := h i (by omega) (by omega)
    have := sumN_mono (f := f) (g := g) (k := k) (i := i + 1) (fun x h1 h2 => h x (by omega) (by omega))
    omega
theorem sumN_mul {f : Nat → Nat} {S : Nat} : ∀ {k i : Nat}, sumN (fun x => f x * S) i k = sumN f i k * S
  | 0, _ => by simp [sumN]
  | k + 1, i => by
    unfold sumN
    rw [sumN_mul (k := k), Nat.add_mul]
/-- THINGS in the first H HOUSES and those at another HOLDER are all in all no more than there are -/
theorem cnt_all {wh : Nat → Nat} {H g : Nat} (hg : H ≤ g) : ∀ n, sumN (fun h => cnt (fun x => wh x == h) n) 0 H + cnt (fun x => wh x == g) n ≤ n
  | 0 => by
    rw [sumN_zero (f := fun h => cnt (fun x => wh x == h) 0) (fun x _ _ => rfl)]
    exact Nat.le_refl _
  | n + 1 => by
    have ih := cnt_all (wh := wh) hg n
    have e : sumN (fun h => cnt (fun x => wh x == h) (n + 1)) 0 H = sumN (fun h => cnt (fun x => wh x == h) n) 0 H + sumN (fun h => if (wh n == h) = true then 1 else 0) 0 H := by
      rw [← sumN_add]
      congr 1
      funext h
      exact cnt_suc _ _
    rw [e, cnt_suc]
    by_cases q : (wh n == g) = true
    · rw [if_pos q, sumN_zero (f := fun h => if (wh n == h) = true then 1 else 0)]
      · omega
      · intro x _ hx
        simp at q
        simp
        omega
    · rw [if_neg q]
      have := sumN_ind (w := wh n) (k := H) (i := 0)
      omega
end LISTS
