/-! the class: SWAPS gathered in a list (cell t) -/
section CSWAPS
variable {σ σ' : St_} {c s t th : Nat} {v : Vw} {z : Sv}
def pW (v : Vw) (p : Nat × Option Nat) : Int32 := match p.2 with
  | none => v.wt p.1
  | some y => v.wt p.1 + v.wt y
def pV (v : Vw) (th : Nat) (p : Nat × Option Nat) : Int32 := match p.2 with
  | none => v.va (5 + th) p.1
  | some y => v.va (5 + th) p.1 + v.va (5 + th) y
/-- the GAIN of a SWAP -/
def gn (v : Vw) (th s : Nat) : Int32 := v.va (5 + th) (s / 1024 % 10) - aV v (5 + th) (nI (s % 1024))
def SSc (v : Vw) (th t : Nat) (l : List (Nat × Option Nat)) (σ : St_) : Prop := σ.1 t 9 = nI l.length ∧ ∀ i p, l[i]? = some p → σ.1 (t + 5) i = nI p.1 ∧ σ.1 (t + 6) i = loI p.2 ∧ σ.1 (t + 7) i = pW v p ∧ σ.1 (t + 8) i = pV v th p
def SLc (v : Vw) (th t : Nat) (l : List Nat) (σ : St_) : Prop := σ.1 t 4 = nI l.length ∧ ∀ i s, l[i]? = some s → σ.1 (t + 1) i = nI (s / 10240) ∧ σ.1 (t + 2) i = nI (s / 1024 % 10) ∧ σ.1 (t + 3) i = nI (s % 1024) ∧ σ.1 (t + 4) i = gn v th s
theorem SSc.fr {l : List (Nat × Option Nat)} (h : SSc v th t l σ) (e : ∀ a k, (t + 5 ≤ a ∧ a ≤ t + 8) ∨ (a = t ∧ k = 9) → σ'.1 a k = σ.1 a k) : SSc v th t l σ' := by
  refine ⟨by rw [e _ _ (by omega)]; exact h.1, fun i p hp => ?_⟩
  rw [e _ _ (by omega), e _ _ (by omega), e _ _ (by omega), e _ _ (by omega)]
  exact h.2 i p hp
theorem SLc.fr {l : List Nat} (h : SLc v th t l σ) (e : ∀ a k, (t + 1 ≤ a ∧ a ≤ t + 4) ∨ (a = t ∧ k = 4) → σ'.1 a k = σ.1 a k) : SLc v th t l σ' := by
  refine ⟨by rw [e _ _ (by omega)]; exact h.1, fun i p hp => ?_⟩
  rw [e _ _ (by omega), e _ _ (by omega), e _ _ (by omega), e _ _ (by omega)]
  exact h.2 i p hp
theorem get_snoc {α : Type} {l : List α} {x y : α} {i : Nat} (h : (l ++ [x])[i]? = some y) : (i < l.length ∧ l[i]? = some y) ∨ (i = l.length ∧ y = x) := by
  by_cases q : i < l.length
  · rw [List.getElem?_append_left q] at h
    exact Or.inl ⟨q, h⟩
  · rw [List.getElem?_append_right (by omega)] at h
    by_cases e : i = l.length
    · subst e
      rw [Nat.sub_self] at h
      simp at h
      exact Or.inr ⟨rfl, h.symm⟩
    · obtain ⟨k, hk⟩ : ∃ k, i - l.length = k + 1 := ⟨i - l.length - 1, by omega⟩
      rw [hk] at h
      simp at h
theorem va_ix {h x : Nat} : nI h * 10 + nI x = nI (10 * h + x) := by rw [show (10 : Int32) = nI 10 from rfl, nI_mul, nI_add, Nat.mul_comm]
theorem c_addSet (hc : CV c v σ) (ok : v.OK) (hct : c + 16 ≤ t) {l : List (Nat × Option Nat)} (hS : SSc v th t l σ) (hl : l.length < 55) (hth : th < v.T) {p : Nat × Option Nat} (hp : p.1 < v.N) (hp2 : ∀ y, p.2 = some y → y < v.N) : ∃ σ', mX9_addSet t c (nI th) (nI p.1) (loI p.2) σ = some σ' ∧ SSc v th t (l ++ [p]) σ' := by
  have oN := ok.N
  have oT := ok.T
  obtain ⟨p1, p2⟩ := p
  simp only at hp hp2 ⊢
  have h9 := hS.1
  have hb : bin (nI l.length) 55 = true := binn hl (by omega)
  have hcl : (nI l.length).toNatClampNeg = l.length := pn_cl (by omega)
  have h55 : nI l.length < (55 : Int32) := nI_lt (b := 55) hl (by omega)
  have hb1 : bin (nI p1) 10 = true := binn (by omega) (by omega)
  have hc1 : (nI p1).toNatClampNeg = p1 := pn_cl (by omega)
  have e5 : (5 : Int32) + nI th = nI (5 + th) := nI_add 5 th
  have hb9 : ∀ y, y < v.N → bin (nI (10 * (5 + th) + y)) 90 = true := fun y hy => binn (by omega) (by omega)
  have hc9 : ∀ y, y < v.N → (nI (10 * (5 + th) + y)).toNatClampNeg = 10 * (5 + th) + y := fun y hy => pn_cl (by omega)
  have n1 : ¬ t = t + 5 := by omega
  have n2 : ¬ t = t + 6 := by omega
  have n3 : ¬ t = t + 7 := by omega
  have n4 : ¬ t = t + 8 := by omega
  have m1 : ∀ j, j ≤ 8 → ¬ c + 2 = t + j := by intro j hj; omega
  have m2 : ∀ j, j ≤ 8 → ¬ c + 8 = t + j := by intro j hj; omega
  have m15 := m1 5 (by omega)
  have m16 := m1 6 (by omega)
  have m17 := m1 7 (by omega)
  have m18 := m1 8 (by omega)
  have m25 := m2 5 (by omega)
  have m26 := m2 6 (by omega)
  have m27 := m2 7 (by omega)
  have m28 := m2 8 (by omega)
  have d87 : ¬ t + 8 = t + 7 := by omega
  have d78 : ¬ t + 7 = t + 8 := by omega
  have fin : ∀ (A B : Int32) (ρ : St_), A = pW v (p1, p2) → B = pV v th (p1, p2) → ρ.1 t 9 = nI (l.length + 1) → (∀ i, ρ.1 (t + 5) i = if i = l.length then nI p1 else σ.1 (t + 5) i) → (∀ i, ρ.1 (t + 6) i = if i = l.length then loI p2 else σ.1 (t + 6) i) → (∀ i, ρ.1 (t + 7) i = if i = l.length then A else σ.1 (t + 7) i) → (∀ i, ρ.1 (t + 8) i = if i = l.length then B else σ.1 (t + 8) i) → SSc v th t (l ++ [(p1, p2)]) ρ := by
    intro A B ρ hA hB r0 r1 r2 r3 r4
    refine ⟨by rw [r0, List.length_append]; rfl, fun i q hq => ?_⟩
    rw [r1, r2, r3, r4]
    rcases get_snoc hq with ⟨g1, g2⟩ | ⟨g1, g2⟩
    · have : ¬ i = l.length := by omega
      simp only [this, if_false]
      exact hS.2 i q g2
    · subst g2
      rw [if_pos g1, if_pos g1, if_pos g1, if_pos g1]
      exact ⟨rfl, rfl, hA, hB⟩
  unfold mX9_addSet mX1_valueTo
  cases p2 with
  | none =>
    simp only [bnd_eq, loI, sI_get, h9, hb, hcl, h55, hb1, hc1, e5, va_ix, hb9 p1 hp, hc9 p1 hp, n1, n2, n3, n4, m15, m16, m17, m18, m25, m26, m27, m28, if_true, if_false, false_and, obs_eq, hc.wt p1 hp, hc.va (5 + th) (by omega) p1 hp, nI_1]
    refine ⟨_, rfl, fin (v.wt p1) (v.va (5 + th) p1) _ rfl rfl ?_ (fun i => ?_) (fun i => ?_) (fun i => ?_) (fun i => ?_)⟩ <;> simp [sI_get, loI]
  | some y =>
    have hy := hp2 y rfl
    have hby : bin (nI y) 10 = true := binn (by omega) (by omega)
    have hcy : (nI y).toNatClampNeg = y := pn_cl (by omega)
    have ny : ¬ nI y = (-1 : Int32) := nI_nm1 (by omega)
    simp only [bnd_eq, loI, sI_get, h9, hb, hcl, h55, hb1, hc1, hby, hcy, ny, e5, va_ix, hb9 p1 hp, hc9 p1 hp, hb9 y hy, hc9 y hy, n1, n2, n3, n4, m15, m16, m17, m18, m25, m26, m27, m28, d87, d78, and_self, if_true, if_false, false_and, true_and, obs_eq, hc.wt p1 hp, hc.va (5 + th) (by omega) p1 hp, hc.wt y hy, hc.va (5 + th) (by omega) y hy, nI_1]
    refine ⟨_, rfl, fin (v.wt p1 + v.wt y) (v.va (5 + th) p1 + v.va (5 + th) y) _ rfl rfl ?_ (fun i => ?_) (fun i => ?_) (fun i => ?_) (fun i => ?_)⟩
    · simp [sI_get, loI]
    · simp [sI_get, loI]
    · simp [sI_get, loI]
    · by_cases q : i = l.length <;> simp [sI_get, q]
    · by_cases q : i = l.length <;> simp [sI_get, q]
/-- what the list's methods leave alone -/
theorem cv_list (hc : CV c v σ) (hct : c + 16 ≤ t) (e : ∀ a k, ¬ ((t ≤ a ∧ a ≤ t + 8) ∨ a = c + 14 ∨ a = c + 15) → σ'.1 a k = σ.1 a k) : CV c v σ' := hc.fr (fun a k q => e a k (by unfold FPc at q; omega))
theorem tb_beq (ok : v.OK) {y h : Nat} (hy : y < v.N) : tb (hset v z h) y = (z.wh y == h) := by
  rw [tb_hset ok]
  simp [hy]
theorem c_split_L49 (ok : v.OK) (hct : c + 16 ≤ t) (hth : th < v.T) {i : Nat} (hi : i < v.N) {k82 : St_ → Option St_} : ∀ k n j (l : List (Nat × Option Nat)) (σ : St_), CV c v σ → SSc v th t l σ → j + k = i → k < n → l.length + ((frm (fun x => z.wh x == 5 + th) j k).map (fun y => (i, some y))).length ≤ 55 → ∃ σ', mX9_splitStock_L49 t c s (nI th) (hset v z (5 + th)) (nI i) k82 n (nI j) σ = k82 σ' ∧ SSc v th t (l ++ (frm (fun x => z.wh x == 5 + th) j k).map (fun y => (i, some y))) σ' ∧ ∀ a k, ¬ MOD_X9_addSet t a k → σ'.1 a k = σ.1 a k
  | 0, n, j, l, σ, hc, hS, hj, hn, hl => by
    have := ok.N
    obtain ⟨m, rfl, -⟩ := fu_suc hn
    refine ⟨σ, ?_, by simpa [frm] using hS, fun a k _ => rfl⟩
    unfold mX9_splitStock_L49
    rw [if_pos (nI_le (by omega) (by omega))]
  | k + 1, n, j, l, σ, hc, hS, hj, hn, hl => by
    have := ok.N
    obtain ⟨m, rfl, hm⟩ := fu_suc hn
    unfold mX9_splitStock_L49
    simp only [bnd_eq]
    rw [if_neg (nI_ge (by omega) (by omega)), tb_get _ (by omega), tb_beq ok (by omega), nI_1]
    by_cases q : (z.wh j == 5 + th) = true
    · rw [if_pos q, if_neg (by decide)]
      unfold frm at hl ⊢
      rw [if_pos q] at hl ⊢
      simp only [List.map_cons, List.length_cons] at hl ⊢
      obtain ⟨σ1, s1, s2⟩ := c_addSet (p := (i, some j)) hc ok hct hS (by omega) hth hi (fun y hy => by cases hy; omega)
      have F : ∀ a k, ¬ MOD_X9_addSet t a k → σ1.1 a k = σ.1 a k := fun a k hn => (fX9_addSet _ _ _ _ _ _ _ s1 a k hn).1
      have s1' : mX9_addSet t c (nI th) (nI i) (nI j) σ = some σ1 := s1
      rw [s1']
      rw [obs_eq]
      obtain ⟨σ2, u1, u2, u3⟩ := c_split_L49 ok hct hth hi (k82 := k82) k m (j + 1) (l ++ [(i, some j)]) σ1 (cv_list hc hct (fun a k hn => F a k (by unfold MOD_X9_addSet; omega))) s2 (by omega) (by omega) (by rw [List.length_append]; simp only [List.length_cons, List.length_nil]; omega)
      refine ⟨σ2, u1, ?_, fun a k hn => by rw [u3 a k hn, F a k hn]⟩
      rw [List.append_assoc, List.singleton_append] at u2
      exact u2
    · rw [if_neg q, if_pos rfl]
      unfold frm at hl ⊢
      rw [if_neg q] at hl ⊢
      exact c_split_L49 ok hct hth hi (k82 := k82) k m (j + 1) l σ hc hS (by omega) (by omega) hl
theorem c_split_L18 (ok : v.OK) (hct : c + 16 ≤ t) (hth : th < v.T) : ∀ k n i (l : List (Nat × Option Nat)) (σ : St_), CV c v σ → SSc v th t l σ → i + k = v.N → k < n → l.length + (stF (fun x => z.wh x == 5 + th) i k).length ≤ 55 → ∃ σ', mX9_splitStock_L18 t c s (nI th) (hset v z (5 + th)) n (nI i) σ = some σ' ∧ SSc v th t (l ++ stF (fun x => z.wh x == 5 + th) i k) σ' ∧ ∀ a k, ¬ MOD_X9_addSet t a k → σ'.1 a k = σ.1 a k
  | 0, n, i, l, σ, hc, hS, hi, hn, hl => by
    have := ok.N
    obtain ⟨m, rfl, -⟩ := fu_suc hn
    refine ⟨σ, ?_, by simpa [stF] using hS, fun a k _ => rfl⟩
    unfold mX9_splitStock_L18
    rw [hc.N, if_pos (nI_le (by omega) (by omega))]
  | k + 1, n, i, l, σ, hc, hS, hi, hn, hl => by
    have := ok.N
    obtain ⟨m, rfl, hm⟩ := fu_suc hn
    unfold mX9_splitStock_L18
    simp only [bnd_eq]
    rw [hc.N, if_neg (nI_ge (by omega) (by omega)), tb_get _ (by omega), tb_beq ok (by omega), nI_1]
    by_cases q : (z.wh i == 5 + th) = true
    · rw [if_pos q, if_neg (by decide)]
      unfold stF at hl ⊢
      rw [if_pos q] at hl ⊢
      simp only [List.length_append, List.length_cons] at hl
      obtain ⟨σ1, s1, s2⟩ := c_addSet (p := (i, none)) hc ok hct hS (by omega) hth (by show i < v.N; omega) (fun y hy => by cases hy)
      have F : ∀ a k, ¬ MOD_X9_addSet t a k → σ1.1 a k = σ.1 a k := fun a k hn => (fX9_addSet _ _ _ _ _ _ _ s1 a k hn).1
      have hc1 : CV c v σ1 := cv_list hc hct (fun a k hn => F a k (by unfold MOD_X9_addSet; omega))
      have s1' : mX9_addSet t c (nI th) (nI i) (-1) σ = some σ1 := s1
      rw [s1']
      rw [obs_eq]
      obtain ⟨σ2, w1, w2, w3⟩ := c_split_L49 (s := s) (z := z) ok hct hth (show i < v.N by omega) (k82 := fun σ12 => mX9_splitStock_L18 t c s (nI th) (hset v z (5 + th)) m (nI (i + 1)) σ12) i FU 0 (l ++ [(i, none)]) σ1 hc1 s2 (by omega) (by unfold FU; omega) (by simp only [List.length_append, List.length_cons, List.length_nil] at hl ⊢; omega)
      obtain ⟨σ3, u1, u2, u3⟩ := c_split_L18 ok hct hth k m (i + 1) _ σ2 (cv_list hc1 hct (fun a k hn => w3 a k (by unfold MOD_X9_addSet; omega))) w2 (by omega) (by omega) (by simp only [List.length_append, List.length_cons, List.length_nil] at hl ⊢; omega)
      refine ⟨σ3, w1.trans u1, ?_, fun a k hn => by rw [u3 a k hn, w3 a k hn, F a k hn]⟩
      simp only [List.append_assoc, List.singleton_append, List.cons_append] at u2 ⊢
      exact u2
    · rw [if_neg q, if_pos rfl]
      unfold stF at hl ⊢
      rw [if_neg q] at hl ⊢
      rw [List.nil_append] at hl ⊢
      exact c_split_L18 ok hct hth k m (i + 1) l σ hc hS (by omega) (by omega) hl
theorem c_splitStock (hc : CV c v σ) (ok : v.OK) (hct : c + 16 ≤ t) (hst : s + 3 ≤ t ∨ t + 9 ≤ s) (hs : CS v s z σ) (hth : th < v.T) : ∃ σ', mX9_splitStock t c s (nI th) σ = some σ' ∧ SSc v th t (sets v z th) σ' := by
  have oT := ok.T
  unfold mX9_splitStock
  simp only [bnd_eq]
  rw [show (5 : Int32) + nI th = nI (5 + th) from nI_add 5 th, binn (show 5 + th < 9 by omega) (by omega), pn_cl (show 5 + th < 2 ^ 31 by omega), hs.held (5 + th) (by omega), if_pos rfl]
  have hc1 : CV c v (sI σ t 9 0) := cv_list hc hct (fun a k hn => by rw [sI_get, if_neg (by omega)])
  obtain ⟨σ', u1, u2, -⟩ := c_split_L18 (s := s) (z := z) ok hct hth v.N FU 0 [] (sI σ t 9 0) hc1 ⟨by rw [sI_get, if_pos ⟨rfl, rfl⟩]; rfl, fun i p hp => by simp at hp⟩ (by omega) (by unfold FU; have := ok.N; omega) (by have := sets_55 (v := v) (z := z) (t := th) ok; unfold sets at this; simpa using this)
  exact ⟨σ', u1, u2⟩
end CSWAPS
