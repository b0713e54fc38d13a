/-! words as numbers, both sides -/
section NAMES
variable {σ σ' ρ : St_} {n : Nat} {T : Nat → Nat}
/-- the words, in the class' order -/
def WL : List (List Nat) := [[107, 105, 110, 100], [116, 104, 105, 110, 103], [104, 111, 117, 115, 101], [116, 104, 105, 101, 102], [100, 101, 97, 114], [108, 97, 119], [110, 105, 103, 104, 116], [111, 102], [119, 101, 105, 103, 104, 116], [119, 111, 114, 116, 104], [108, 111, 99, 107], [119, 97, 116, 99, 104], [104, 97, 115], [115, 97, 99, 107], [116, 111], [111, 114], [97, 110, 100], [110, 111, 116], [116, 97, 107, 101, 110], [108, 101, 102, 116], [116, 111, 111, 107], [103, 97, 118, 101], [97, 108, 105, 107, 101], [104, 111, 117, 114], [115, 107, 105, 108, 108]]
def wl (w : Nat) : List Nat := WL.getD w []
def lets (l : List Nat) : Prop := l.length ≤ 8 ∧ ∀ c ∈ l, isL c = true
theorem wl_lets0 : ∀ w : Fin 25, (wl w.1).length ≤ 8 ∧ (wl w.1).all isL = true ∧ ∀ i : Fin 8, wch (8 * w.1 + i.1) = (wl w.1).getD i.1 32 := by decide +kernel
theorem wl_lets {w : Nat} (h : w < 25) : lets (wl w) := ⟨(wl_lets0 ⟨w, h⟩).1, fun c hc => List.all_eq_true.mp (wl_lets0 ⟨w, h⟩).2.1 c hc⟩
theorem isL_ne {c : Nat} (h : isL c = true) : 97 ≤ c ∧ c ≤ 122 := by
  unfold isL at h
  simp only [Bool.and_eq_true, decide_eq_true_eq] at h
  exact h
theorem fr_inj {B : Nat} {f : Nat → Nat} (hf : ∀ c, isL c = true → 1 ≤ f c ∧ f c < B) (hi : ∀ c d, isL c = true → isL d = true → f c = f d → c = d) : ∀ l m : List Nat, (∀ c ∈ l, isL c = true) → (∀ c ∈ m, isL c = true) → l.foldr (fun c a => a * B + f c) 0 = m.foldr (fun c a => a * B + f c) 0 → l = m
  | [], [], _, _, _ => rfl
  | [], d :: m, _, h2, e => by
    have := (hf d (h2 d List.mem_cons_self)).1
    simp only [List.foldr_cons, List.foldr_nil] at e
    omega
  | c :: l, [], h1, _, e => by
    have := (hf c (h1 c List.mem_cons_self)).1
    simp only [List.foldr_cons, List.foldr_nil] at e
    omega
  | c :: l, d :: m, h1, h2, e => by
    obtain ⟨c1, c2⟩ := hf c (h1 c List.mem_cons_self)
    obtain ⟨d1, d2⟩ := hf d (h2 d List.mem_cons_self)
    simp only [List.foldr_cons] at e
    generalize hx : l.foldr (fun c a => a * B + f c) 0 = x at e
    generalize hy : m.foldr (fun c a => a * B + f c) 0 = y at e
    have em : f c = f d := by
      have := congrArg (fun z => z % B) e
      simp only [Nat.mul_add_mod_self_right, Nat.mod_eq_of_lt c2, Nat.mod_eq_of_lt d2] at this
      exact this
    have exy : x = y := by
      rw [em] at e
      have := Nat.add_right_cancel e
      exact Nat.eq_of_mul_eq_mul_right (by omega) this
    have cd := hi c d (h1 c List.mem_cons_self) (h2 d List.mem_cons_self) em
    have lm := fr_inj hf hi l m (fun c hc => h1 c (List.mem_cons_of_mem _ hc)) (fun c hc => h2 c (List.mem_cons_of_mem _ hc)) (by rw [hx, hy, exy])
    rw [cd, lm]
theorem fr_lt {B : Nat} {f : Nat → Nat} (hf : ∀ c, isL c = true → 1 ≤ f c ∧ f c < B) : ∀ l : List Nat, (∀ c ∈ l, isL c = true) → l.foldr (fun c a => a * B + f c) 0 < B ^ l.length
  | [], _ => by simp
  | c :: l, h => by
    obtain ⟨c1, c2⟩ := hf c (h c List.mem_cons_self)
    have ih := fr_lt hf l (fun c hc => h c (List.mem_cons_of_mem _ hc))
    simp only [List.foldr_cons, List.length_cons]
    rw [Nat.pow_succ]
    calc _ < (l.foldr (fun c a => a * B + f c) 0 + 1) * B := by rw [Nat.add_mul]; omega
      _ ≤ B ^ l.length * B := Nat.mul_le_mul_right _ ih
theorem h256 : ∀ c, isL c = true → 1 ≤ c ∧ c < 256 := fun c h => by have := isL_ne h; omega
theorem h27 : ∀ c, isL c = true → 1 ≤ c - 96 ∧ c - 96 < 27 := fun c h => by have := isL_ne h; omega
theorem rev_let {l : List Nat} (h : ∀ c ∈ l, isL c = true) : ∀ c ∈ l.reverse, isL c = true := fun c hc => h c (List.mem_reverse.mp hc)
theorem e256 (l : List Nat) : l.foldl g256 0 = l.reverse.foldr (fun c a => a * 256 + c) 0 := List.foldl_eq_foldr_reverse
theorem e27 (l : List Nat) : l.foldl g27 0 = l.reverse.foldr (fun c a => a * 27 + (c - 96)) 0 := List.foldl_eq_foldr_reverse
theorem lN_inj {a b : Nat} (ha : a < 2 ^ 64) (hb : b < 2 ^ 64) (h : lN a = lN b) : a = b := by
  apply Nat.eq_of_testBit_eq
  intro i
  by_cases q : i < 64
  · have e := congrArg (fun z => tbL z i) h
    simp only [tbL_lN, decide_eq_true q, Bool.true_and] at e
    exact e
  · rw [Nat.testBit_lt_two_pow (Nat.lt_of_lt_of_le ha (Nat.pow_le_pow_right (by omega) (by omega))), Nat.testBit_lt_two_pow (Nat.lt_of_lt_of_le hb (Nat.pow_le_pow_right (by omega) (by omega)))]
theorem w256_iff {l m : List Nat} (hl : lets l) (hm : lets m) : lN (l.foldl g256 0) = lN (m.foldl g256 0) ↔ l = m := by
  refine ⟨fun h => ?_, fun h => by rw [h]⟩
  have b : ∀ k : List Nat, lets k → k.foldl g256 0 < 2 ^ 64 := fun k hk => by
    rw [e256]
    have := fr_lt (B := 256) (f := fun c => c) h256 k.reverse (rev_let hk.2)
    rw [List.length_reverse] at this
    exact Nat.lt_of_lt_of_le this (Nat.le_trans (Nat.pow_le_pow_right (by omega) hk.1) (by omega))
  have e := lN_inj (b l hl) (b m hm) h
  rw [e256, e256] at e
  exact List.reverse_inj.mp (fr_inj (B := 256) (f := fun c => c) h256 (fun c d _ _ w => w) _ _ (rev_let hl.2) (rev_let hm.2) e)
theorem w27_iff {l m : List Nat} (hl : lets l) (hm : lets m) : lN (l.foldl g27 0) = lN (m.foldl g27 0) ↔ l = m := by
  refine ⟨fun h => ?_, fun h => by rw [h]⟩
  have b : ∀ k : List Nat, lets k → k.foldl g27 0 < 2 ^ 64 := fun k hk => by
    rw [e27]
    have := fr_lt (B := 27) (f := fun c => c - 96) h27 k.reverse (rev_let hk.2)
    rw [List.length_reverse] at this
    exact Nat.lt_of_lt_of_le this (Nat.le_trans (Nat.pow_le_pow_right (by omega) hk.1) (by omega))
  have e := lN_inj (b l hl) (b m hm) h
  rw [e27, e27] at e
  exact List.reverse_inj.mp (fr_inj (B := 27) (f := fun c => c - 96) h27 (fun c d hc hd w => by have := isL_ne hc; have := isL_ne hd; omega) _ _ (rev_let hl.2) (rev_let hm.2) e)
theorem pad_eq {l m : List Nat} (hl : lets l) (hm : lets m) (h : ∀ i, i < 8 → l.getD i 32 = m.getD i 32) : l = m := by
  have no : ∀ k k' : List Nat, lets k → lets k' → (∀ i, i < 8 → k.getD i 32 = k'.getD i 32) → ¬ k.length < k'.length := fun k k' hk hk' e w => by
    have := hk'.1
    have e1 := e k.length (by omega)
    rw [List.getD_eq_getElem?_getD, List.getElem?_eq_none (Nat.le_refl _), List.getD_eq_getElem?_getD, List.getElem?_eq_getElem w] at e1
    have e2 := isL_ne (hk'.2 _ (List.getElem_mem w))
    simp only [Option.getD_none, Option.getD_some] at e1
    omega
  have n1 := no l m hl hm h
  have n2 := no m l hm hl (fun i hi => (h i hi).symm)
  apply List.ext_getElem (by omega)
  intro i h1 h2
  have := hl.1
  have e := h i (by omega)
  rw [List.getD_eq_getElem?_getD, List.getElem?_eq_getElem h1, List.getD_eq_getElem?_getD, List.getElem?_eq_getElem h2] at e
  simpa using e
theorem cellF_iff {l : List Nat} {w : Nat} : ∀ r i, cellF l w r i = true ↔ ∀ j, i ≤ j → j < i + r → wch (8 * w + j) = l.getD j 32
  | 0, i => ⟨fun _ j a b => by omega, fun _ => rfl⟩
  | r + 1, i => by
    have ih := cellF_iff (l := l) (w := w) r (i + 1)
    unfold cellF
    by_cases q : wch (8 * w + i) = l.getD i 32
    · rw [if_pos q, ih]
      refine ⟨fun h j a b => ?_, fun h j a b => h j (by omega) (by omega)⟩
      by_cases e : j = i
      · rw [e]; exact q
      · exact h j (by omega) (by omega)
    · rw [if_neg q]
      exact ⟨fun h => (by cases h), fun h => absurd (h i (Nat.le_refl _) (by omega)) q⟩
theorem cell_wl {l : List Nat} (hl : lets l) {w : Nat} (hw : w < 25) : cellF l w 8 0 = true ↔ l = wl w := by
  rw [cellF_iff]
  have h := (wl_lets0 ⟨w, hw⟩).2.2
  refine ⟨fun e => pad_eq hl (wl_lets hw) (fun i hi => by rw [← e i (by omega) (by omega)]; exact h ⟨i, hi⟩), fun e j _ hj => by rw [e]; exact h ⟨j, by omega⟩⟩
theorem wl_inj : ∀ a b : Fin 25, wl a.1 = wl b.1 → a = b := by decide +kernel
theorem wnF_iff {l : List Nat} (hl : lets l) : ∀ r i w, i + r = 25 → i ≤ w → w < 25 → (wnF l r i = some w ↔ l = wl w)
  | 0, i, w, hi, h1, h2 => by omega
  | r + 1, i, w, hi, h1, h2 => by
    unfold wnF
    by_cases q : cellF l i 8 0 = true
    · rw [if_pos q]
      have ei := (cell_wl hl (by omega)).mp q
      refine ⟨fun h => by cases h; exact ei, fun h => ?_⟩
      have := wl_inj ⟨i, by omega⟩ ⟨w, h2⟩ (by show wl i = wl w; rw [← ei, h])
      rw [show i = w from congrArg Fin.val this]
    · rw [if_neg q]
      by_cases e : i = w
      · subst e
        refine ⟨fun h => ?_, fun h => absurd ((cell_wl hl (by omega)).mpr h) q⟩
        have : ∀ r j w, j + r = 25 → wnF l r j = some w → j ≤ w := by
          intro r
          induction r with
          | zero => intro j w _ h; cases h
          | succ r ih =>
            intro j w hj h
            unfold wnF at h
            by_cases q : cellF l j 8 0 = true
            · rw [if_pos q] at h; cases h; omega
            · rw [if_neg q] at h; have := ih (j + 1) w (by omega) h; omega
        have := this r (i + 1) i (by omega) h
        omega
      · exact wnF_iff hl r (i + 1) w (by omega) (by omega) h2
theorem wnum_iff {l : List Nat} (hl : lets l) {w : Nat} (hw : w < 25) : wnum l = some w ↔ l = wl w := wnF_iff hl 25 0 w (by omega) (by omega) hw
theorem wnum_lt {l : List Nat} {w : Nat} (h : wnum l = some w) : w < 25 := by
  have : ∀ r i j, i + r ≤ 25 → wnF l r i = some j → j < 25 := by
    intro r
    induction r with
    | zero => intro i j _ h; cases h
    | succ r ih =>
      intro i j hr h
      unfold wnF at h
      by_cases q : cellF l i 8 0 = true
      · rw [if_pos q] at h; cases h; omega
      · rw [if_neg q] at h; exact ih (i + 1) j (by omega) h
  exact this 25 0 w (by omega) h
/-- the reference's number of a word -/
def rw6 (w : Nat) : Int64 := lN ((wl w).foldl g256 0)
theorem rw6_iff {l : List Nat} (hl : lets l) {w : Nat} (hw : w < 25) : lN (l.foldl g256 0) = rw6 w ↔ wnum l = some w := by
  unfold rw6
  rw [w256_iff hl (wl_lets hw), wnum_iff hl hw]
theorem rw6_vals : rw6 0 = 1802071652 ∧ rw6 1 = 499967946343 ∧ rw6 2 = 448546567013 ∧ rw6 3 = 499967944038 ∧ rw6 4 = 1684365682 ∧ rw6 5 = 7102839 ∧ rw6 6 = 474214787188 ∧ rw6 7 = 28518 ∧ rw6 8 = 131277443786868 ∧ rw6 9 = 512970880104 ∧ rw6 10 = 1819239275 ∧ rw6 11 = 512736125800 ∧ rw6 12 = 6840691 ∧ rw6 13 = 1935762283 ∧ rw6 14 = 29807 ∧ rw6 15 = 28530 ∧ rw6 16 = 6385252 ∧ rw6 17 = 7237492 ∧ rw6 18 = 499850634606 ∧ rw6 19 = 1818584692 ∧ rw6 20 = 1953460075 ∧ rw6 21 = 1734440549 ∧ rw6 22 = 418430675813 ∧ rw6 23 = 1752135026 ∧ rw6 24 = 495723310188 := by decide +kernel
end NAMES
