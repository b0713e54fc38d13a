/-! states come to: the table of the one side, the row of the other -/
section HASH
variable {σ σ' : St_} {c dr s t th : Nat} {v : Vw} {z : Sv} {w w' w0 : Nat → Nat}
theorem pigeon : ∀ (m n : Nat) (f : Nat → Nat), (∀ d, d < n → f d < m) → (∀ a b, a < n → b < n → f a = f b → a = b) → n ≤ m
  | 0, n, f, h1, _ => by
    rcases Nat.eq_zero_or_pos n with e | e
    · omega
    · have := h1 0 e
      omega
  | m + 1, 0, f, _, _ => Nat.zero_le _
  | m + 1, n + 1, f, h1, h2 => by
    have ih := pigeon m n (fun d => if f d = m then f n else f d) (fun d hd => by
      by_cases q : f d = m
      · simp only [q, if_true]
        have a := h1 n (by omega)
        have b : ¬ f n = m := fun e => by
          have := h2 d n (by omega) (by omega) (by rw [q, e])
          omega
        omega
      · simp only [q, if_false]
        have := h1 d (by omega)
        omega) (fun a b ha hb e => by
      by_cases qa : f a = m
      · by_cases qb : f b = m
        · exact h2 a b (by omega) (by omega) (by rw [qa, qb])
        · simp only [qa, qb, if_true, if_false] at e
          have := h2 n b (by omega) (by omega) e
          omega
      · by_cases qb : f b = m
        · simp only [qa, qb, if_true, if_false] at e
          have := h2 a n (by omega) (by omega) e
          omega
        · simp only [qa, qb, if_false] at e
          exact h2 a b (by omega) (by omega) e)
    omega
/-- a state come to: where THINGS are, from which, by what, behind how many HOURS -/
abbrev Nd : Type := (Nat → Nat) × Option Nat × Option Nat × Nat
/-- the table: where a key begins -/
def hsh (k : Int64) : Nat := (((((k ^^^ ((k.toUInt64 >>> ((13 : Int32).toInt64.toUInt64 &&& Int64.toUInt64 63)).toInt64)) ^^^ ((k.toUInt64 >>> ((27 : Int32).toInt64.toUInt64 &&& Int64.toUInt64 63)).toInt64)) ^^^ ((k.toUInt64 >>> ((41 : Int32).toInt64.toUInt64 &&& Int64.toUInt64 63)).toInt64)).toInt32) &&& (4095 : Int32)).toNatClampNeg
theorem and4095 (a : Int32) : ∃ j, j < 4096 ∧ a &&& (4095 : Int32) = nI j := by
  have h1 : ∀ i : Fin 32, 12 ≤ i.1 → tb 4095 i.1 = false := by decide +kernel
  obtain ⟨m, m1, m2⟩ := set_of (v := a &&& (4095 : Int32)) (n := 12) (by omega) (fun x h1' h2 => by rw [tb_and, h1 ⟨x, h2⟩ h1', Bool.and_false])
  exact ⟨m, m1, m2⟩
theorem hsh_spec (k : Int64) : hsh k < 4096 ∧ (((((k ^^^ ((k.toUInt64 >>> ((13 : Int32).toInt64.toUInt64 &&& Int64.toUInt64 63)).toInt64)) ^^^ ((k.toUInt64 >>> ((27 : Int32).toInt64.toUInt64 &&& Int64.toUInt64 63)).toInt64)) ^^^ ((k.toUInt64 >>> ((41 : Int32).toInt64.toUInt64 &&& Int64.toUInt64 63)).toInt64)).toInt32) &&& (4095 : Int32)) = nI (hsh k) := by
  unfold hsh
  obtain ⟨j, j1, j2⟩ := and4095 ((((k ^^^ ((k.toUInt64 >>> ((13 : Int32).toInt64.toUInt64 &&& Int64.toUInt64 63)).toInt64)) ^^^ ((k.toUInt64 >>> ((27 : Int32).toInt64.toUInt64 &&& Int64.toUInt64 63)).toInt64)) ^^^ ((k.toUInt64 >>> ((41 : Int32).toInt64.toUInt64 &&& Int64.toUInt64 63)).toInt64)).toInt32)
  rw [j2, pn_cl (by omega)]
  exact ⟨j1, rfl⟩
theorem slot_next {i : Nat} (h : i < 4096) : (nI i + (1 : Int32)) &&& (4095 : Int32) = nI ((i + 1) % 4096) := by
  rw [nI_1, show (4095 : Int32) = nI 4095 from rfl, nI_and]
  congr 1
  exact Nat.and_two_pow_sub_one_eq_mod (i + 1) 12
/-- a place of the table that counts -/
def occ (ly n : Nat) (tbl : Nat → Int32) (i : Nat) : Prop := ∃ j, ly ≤ j ∧ j < n ∧ tbl i = nI j
def HT (key : Nat → Int64) (ly n : Nat) (tbl : Nat → Int32) : Prop :=
  (∀ i, ly ≤ i → i < n → ∃ d, d < 4096 ∧ tbl ((hsh (key i) + d) % 4096) = nI i ∧ ∀ e, e < d → occ ly n tbl ((hsh (key i) + e) % 4096)) ∧
  (∀ a b j, a < 4096 → b < 4096 → ly ≤ j → j < n → tbl a = nI j → tbl b = nI j → a = b) ∧
  (∀ a, a < 4096 → tbl a = -1 ∨ ∃ j, j < n ∧ tbl a = nI j)
theorem HT.layer {key : Nat → Int64} {ly n : Nat} {tbl : Nat → Int32} (h : HT key ly n tbl) : HT key n n tbl := ⟨fun i h1 h2 => by omega, fun a b j _ _ h1 h2 => by omega, h.2.2⟩
/-- some place on the way is free -/
theorem HT.free {key : Nat → Int64} {ly n : Nat} {tbl : Nat → Int32} (h : HT key ly n tbl) (hn : n ≤ 2000) {s0 : Nat} (hs : s0 < 4096) : ∃ d, d < 4096 ∧ ¬ occ ly n tbl ((s0 + d) % 4096) := by
  by_cases q : ∃ d, d < 4096 ∧ ¬ occ ly n tbl ((s0 + d) % 4096)
  · exact q
  · exfalso
    have all : ∀ d, d < 4096 → occ ly n tbl ((s0 + d) % 4096) := fun d hd => by
      by_cases w : occ ly n tbl ((s0 + d) % 4096)
      · exact w
      · exact absurd ⟨d, hd, w⟩ q
    have key2 : ∀ d, ∃ j, d < 4096 → ly ≤ j ∧ j < n ∧ tbl ((s0 + d) % 4096) = nI j := fun d => by
      by_cases hd : d < 4096
      · obtain ⟨j, j1, j2, j3⟩ := all d hd
        exact ⟨j, fun _ => ⟨j1, j2, j3⟩⟩
      · exact ⟨0, fun w => absurd w hd⟩
    obtain ⟨f, hf⟩ := Classical.skolem.mp key2
    have := pigeon n 4096 f (fun d hd => (hf d hd).2.1) (fun a b ha hb e => by
      obtain ⟨a1, a2, a3⟩ := hf a ha
      obtain ⟨b1, b2, b3⟩ := hf b hb
      rw [← e] at b3
      have := h.2.1 _ _ (f a) (Nat.mod_lt _ (by omega)) (Nat.mod_lt _ (by omega)) a1 a2 a3 b3
      omega)
    omega
/-- one more, at the first free place of its way -/
theorem HT.add {key : Nat → Int64} {ly n : Nat} {tbl : Nat → Int32} (h : HT key ly n tbl) (hn : n < 2000) (hly : ly ≤ n) {k : Int64} {d : Nat} (hd : d < 4096) (hfree : ¬ occ ly n tbl ((hsh k + d) % 4096)) (hway : ∀ e, e < d → occ ly n tbl ((hsh k + e) % 4096)) {key' : Nat → Int64} {tbl' : Nat → Int32} (hk : ∀ i, i < n → key' i = key i) (hk2 : key' n = k) (ht : ∀ a, tbl' a = if a = (hsh k + d) % 4096 then nI n else tbl a) : HT key' ly (n + 1) tbl' := by
  have oc : ∀ a, occ ly n tbl a → a ≠ (hsh k + d) % 4096 ∧ occ ly (n + 1) tbl' a := fun a ha => by
    have ne : a ≠ (hsh k + d) % 4096 := fun e => hfree (e ▸ ha)
    obtain ⟨j, j1, j2, j3⟩ := ha
    exact ⟨ne, j, j1, by omega, by rw [ht, if_neg ne]; exact j3⟩
  refine ⟨fun i h1 h2 => ?_, fun a b j ha hb h1 h2 ea eb => ?_, fun a ha => ?_⟩
  · by_cases q : i = n
    · subst q
      rw [hk2]
      exact ⟨d, hd, by rw [ht, if_pos rfl], fun e he => (oc _ (hway e he)).2⟩
    · obtain ⟨d', d1, d2, d3⟩ := h.1 i h1 (by omega)
      rw [hk i (by omega)]
      have o := oc _ ⟨i, h1, by omega, d2⟩
      exact ⟨d', d1, by rw [ht, if_neg o.1]; exact d2, fun e he => (oc _ (d3 e he)).2⟩
  · rw [ht] at ea eb
    by_cases qa : a = (hsh k + d) % 4096
    · by_cases qb : b = (hsh k + d) % 4096
      · rw [qa, qb]
      · rw [if_pos qa] at ea
        rw [if_neg qb] at eb
        have ej : n = j := pn_inj (by omega) (by omega) ea
        rcases h.2.2 b hb with w | ⟨j', w1, w2⟩
        · rw [w] at eb
          exact absurd eb.symm (nI_nm1 (by omega))
        · rw [w2] at eb
          have := pn_inj (by omega) (by omega) eb
          omega
    · by_cases qb : b = (hsh k + d) % 4096
      · rw [if_neg qa] at ea
        rw [if_pos qb] at eb
        have ej : n = j := pn_inj (by omega) (by omega) eb
        rcases h.2.2 a ha with w | ⟨j', w1, w2⟩
        · rw [w] at ea
          exact absurd ea.symm (nI_nm1 (by omega))
        · rw [w2] at ea
          have := pn_inj (by omega) (by omega) ea
          omega
      · rw [if_neg qa] at ea
        rw [if_neg qb] at eb
        rcases h.2.2 a ha with w | ⟨j', w1, w2⟩
        · rw [w] at ea
          exact absurd ea.symm (nI_nm1 (by omega))
        · have e2 := w2
          rw [ea] at e2
          have := pn_inj (by omega) (by omega) e2
          exact h.2.1 a b j ha hb h1 (by omega) ea eb
  · rw [ht]
    by_cases q : a = (hsh k + d) % 4096
    · rw [if_pos q]; exact Or.inr ⟨n, by omega, rfl⟩
    · rw [if_neg q]
      rcases h.2.2 a ha with w | ⟨j, w1, w2⟩
      · exact Or.inl w
      · exact Or.inr ⟨j, by omega, w2⟩
theorem lcmp_0 (a b : Int64) : lg_cmp a b = 0 ↔ a = b := by
  unfold lg_cmp
  by_cases q1 : a > b
  · rw [if_pos q1]
    refine ⟨fun e => absurd e (by decide), fun e => ?_⟩
    subst e
    exact absurd q1 (Int64.lt_irrefl)
  · rw [if_neg q1]
    by_cases q2 : a = b
    · rw [if_pos q2]; exact ⟨fun _ => q2, fun _ => rfl⟩
    · rw [if_neg q2]; exact ⟨fun e => absurd e (by decide), fun e => absurd e q2⟩
theorem least_of {P : Nat → Prop} (h : ∃ d, P d) : ∃ D, P D ∧ ∀ e, e < D → ¬ P e := by
  obtain ⟨d, hd⟩ := h
  induction d using Nat.strongRecOn with
  | ind d ih =>
    by_cases q : ∃ e, e < d ∧ P e
    · obtain ⟨e, e1, e2⟩ := q
      exact ih e e1 e2
    · exact ⟨d, hd, fun e he w => q ⟨e, he, w⟩⟩
/-- the walk through the table -/
theorem come_at {key : Nat → Int64} {ly n : Nat} {k : Int64} {p2 : Int32} {kk : Int32 → Option (Bool × St_)} (h6 : σ.1 205 6 = nI ly) (h5 : σ.1 205 5 = nI n) (hn : n ≤ 2000) (hkey : ∀ i, i < n → σ.2 218 i = key i) {i d : Nat} (hi : i < 4096) (hd : d < 4096) {j : Nat} (j1 : ly ≤ j) (j2 : j < n) (j3 : σ.1 220 i = nI j) (m : Nat) : mX7_come_L26 205 σ k p2 kk kk (m + 1) (nI i) (nI d) = if lg_cmp (key j) k = 0 then some (true, σ) else mX7_come_L26 205 σ k p2 kk kk m (nI ((i + 1) % 4096)) (nI (d + 1)) := by
  conv => lhs; unfold mX7_come_L26
  simp only [bnd_eq]
  rw [if_neg (show ¬ (4096 : Int32) ≤ nI d from nI_ge (b := 4096) (by omega) (by omega)), binn hi (by omega), if_pos rfl, pn_cl (by omega), show 205 + 15 = 220 from rfl, show 205 + 13 = 218 from rfl, j3, h6, h5, if_neg (nI_nlt j1 (by omega)), if_pos (nI_lt j2 (by omega)), binn (show j < 2000 by omega) (by omega), if_pos rfl, pn_cl (by omega), hkey j j2, slot_next hi, nI_1]
theorem come_free {ly n : Nat} {k : Int64} {p2 : Int32} {kk : Int32 → Option (Bool × St_)} (h6 : σ.1 205 6 = nI ly) (h5 : σ.1 205 5 = nI n) (hly : ly ≤ n) (hn : n ≤ 2000) {i d : Nat} (hi : i < 4096) (hd : d < 4096) (hf : ¬ occ ly n (σ.1 220) i) (m : Nat) : mX7_come_L26 205 σ k p2 kk kk (m + 1) (nI i) (nI d) = kk (nI i) := by
  unfold mX7_come_L26
  simp only [bnd_eq]
  rw [if_neg (show ¬ (4096 : Int32) ≤ nI d from nI_ge (b := 4096) (by omega) (by omega)), binn hi (by omega), if_pos rfl, pn_cl (by omega), show 205 + 15 = 220 from rfl, show 205 + 13 = 218 from rfl, h6, h5]
  by_cases q1 : σ.1 220 i < nI ly
  · rw [if_pos q1]
  · rw [if_neg q1]
    by_cases q2 : σ.1 220 i < nI n
    · exfalso
      apply hf
      have p0 : ¬ σ.1 220 i < 0 := by
        intro w
        apply q1
        rw [Int32.lt_iff_toInt_lt] at w ⊢
        rw [nI_toInt (by omega)]
        have z0 : (0 : Int32).toInt = 0 := rfl
        omega
      obtain ⟨j, j1, j2⟩ := nI_of p0
      rw [j2] at q1 q2
      have a1 := (nI_ltI j1 (by omega)).mp q2
      refine ⟨j, ?_, a1, j2⟩
      by_cases w : ly ≤ j
      · exact w
      · exact absurd (nI_lt (show j < ly by omega) (by omega)) q1
    · rw [if_neg q2]
theorem come_walk {key : Nat → Int64} {ly n : Nat} {k : Int64} {p2 : Int32} {kk : Int32 → Option (Bool × St_)} (h6 : σ.1 205 6 = nI ly) (h5 : σ.1 205 5 = nI n) (hn : n ≤ 2000) (hkey : ∀ i, i < n → σ.2 218 i = key i) {s0 D : Nat} (hD : D < 4096) (hway : ∀ e, e < D → ∃ j, ly ≤ j ∧ j < n ∧ σ.1 220 ((s0 + e) % 4096) = nI j ∧ key j ≠ k) {R : Option (Bool × St_)} (hend : ∀ m, mX7_come_L26 205 σ k p2 kk kk (m + 1) (nI ((s0 + D) % 4096)) (nI D) = R) : ∀ r m d, d + r = D → r < m → mX7_come_L26 205 σ k p2 kk kk m (nI ((s0 + d) % 4096)) (nI d) = R
  | 0, m, d, hd, hm => by
    obtain ⟨m, rfl, -⟩ := fu_suc hm
    have ed : d = D := by omega
    subst ed
    exact hend m
  | r + 1, m, d, hd, hm => by
    obtain ⟨m, rfl, hm⟩ := fu_suc hm
    obtain ⟨j, j1, j2, j3, j4⟩ := hway d (by omega)
    rw [come_at h6 h5 hn hkey (Nat.mod_lt _ (by omega)) (by omega) j1 j2 j3, if_neg (fun e => j4 ((lcmp_0 _ _).mp e)), show ((s0 + d) % 4096 + 1) % 4096 = (s0 + (d + 1)) % 4096 by omega]
    exact come_walk h6 h5 hn hkey hD hway hend r m (d + 1) (by omega) (by omega)
/-! both sides' rows of states -/
def kf (v : Vw) (L : List Nd) (i : Nat) : Int64 := match L[i]? with
  | some q => keyL v q.1
  | none => 0
def TC (v : Vw) (L : List Nd) (ly : Nat) (σ : St_) : Prop := σ.1 205 5 = nI L.length ∧ σ.1 205 6 = nI ly ∧ ly ≤ L.length ∧ L.length ≤ 2000 ∧ (∀ i q, L[i]? = some q → σ.2 218 i = keyL v q.1 ∧ σ.1 219 i = encO q.2.1) ∧ HT (kf v L) ly L.length (σ.1 220)
def TR (v : Vw) (L : List Nd) (ly : Nat) (σ : St_) : Prop := σ.1 233 76 = nI L.length ∧ σ.1 233 77 = nI ly ∧ ly ≤ L.length ∧ ∀ i q, L[i]? = some q → (∀ x, x < v.N → σ.1 266 (10 * i + x) = wcode (q.1 x)) ∧ (∀ x, v.N ≤ x → x < 10 → σ.1 266 (10 * i + x) = -1) ∧ σ.1 267 i = encO q.2.1 ∧ σ.1 268 i = encO q.2.2.1
def NdO (v : Vw) (t : Nat) (w0 : Nat → Nat) (L : List Nd) : Prop := ∀ (i : Nat) (q : Nd), L[i]? = some q → NIn v t w0 q.1
def fnd (v : Vw) (L : List Nd) (ly : Nat) (w : Nat → Nat) : Bool := (L.drop ly).any (fun p => eqW v (svK p.1 0 0) (svK w 0 0))
theorem fnd_iff {L : List Nd} {ly : Nat} : fnd v L ly w = true ↔ ∃ i q, ly ≤ i ∧ L[i]? = some q ∧ eqW v (svK q.1 0 0) (svK w 0 0) = true := by
  unfold fnd
  rw [List.any_eq_true]
  constructor
  · rintro ⟨q, hq, e⟩
    obtain ⟨i, hi, ei⟩ := List.getElem_of_mem hq
    have : (L.drop ly)[i]? = some q := by rw [List.getElem?_eq_getElem hi, ei]
    rw [List.getElem?_drop] at this
    exact ⟨ly + i, q, by omega, this, e⟩
  · rintro ⟨i, q, h1, h2, e⟩
    refine ⟨q, ?_, e⟩
    have : (L.drop ly)[i - ly]? = some q := by rw [List.getElem?_drop, show ly + (i - ly) = i by omega]; exact h2
    exact List.mem_of_getElem? this
/-- one more is kept, if there is room -/
def comeK (k : Int64) (p2 : Int32) (σ : St_) (y : Int32) : Option (Bool × St_) := (if (σ.1 205 5) < (2000 : Int32) then (if bin y 4096 = true then (if bin ((sI σ 220 y.toNatClampNeg (σ.1 205 5)).1 205 5) 2000 = true then (if bin ((sL (sI σ 220 y.toNatClampNeg (σ.1 205 5)) 218 ((sI σ 220 y.toNatClampNeg (σ.1 205 5)).1 205 5).toNatClampNeg k).1 205 5) 2000 = true then (some (true, sI (sI (sL (sI σ 220 y.toNatClampNeg (σ.1 205 5)) 218 ((sI σ 220 y.toNatClampNeg (σ.1 205 5)).1 205 5).toNatClampNeg k) 219 ((sL (sI σ 220 y.toNatClampNeg (σ.1 205 5)) 218 ((sI σ 220 y.toNatClampNeg (σ.1 205 5)).1 205 5).toNatClampNeg k).1 205 5).toNatClampNeg p2) 205 5 ((sI (sL (sI σ 220 y.toNatClampNeg (σ.1 205 5)) 218 ((sI σ 220 y.toNatClampNeg (σ.1 205 5)).1 205 5).toNatClampNeg k) 219 ((sL (sI σ 220 y.toNatClampNeg (σ.1 205 5)) 218 ((sI σ 220 y.toNatClampNeg (σ.1 205 5)).1 205 5).toNatClampNeg k).1 205 5).toNatClampNeg p2).1 205 5 + 1))) else none) else none) else none) else some (false, σ))
theorem come_def (k : Int64) (p2 : Int32) (σ : St_) : mX7_come 205 k p2 σ = mX7_come_L26 205 σ k p2 (comeK k p2 σ) (comeK k p2 σ) FU (nI (hsh k)) 0 := by
  have e : comeK k p2 σ = fun y => comeK k p2 σ y := rfl
  unfold mX7_come
  simp only [bnd_eq, show 205 + 15 = 220 from rfl, show 205 + 13 = 218 from rfl, show 205 + 14 = 219 from rfl]
  rw [(hsh_spec k).2, e]
  unfold comeK
  exact Eq.trans (Eq.refl _) (Eq.refl _)
theorem c_come {L : List Nd} {ly : Nat} (ok : v.OK) (hT : TC v L ly σ) (hN : NdO v t w0 L) {q : Nd} (hq : NIn v t w0 q.1) : (fnd v L ly q.1 = true → mX7_come 205 (keyL v q.1) (encO q.2.1) σ = some (true, σ)) ∧ (fnd v L ly q.1 = false → L.length < 2000 → ∃ σ', mX7_come 205 (keyL v q.1) (encO q.2.1) σ = some (true, σ') ∧ TC v (L ++ [q]) ly σ') ∧ (fnd v L ly q.1 = false → ¬ L.length < 2000 → mX7_come 205 (keyL v q.1) (encO q.2.1) σ = some (false, σ)) := by
  obtain ⟨h5, h6, hly, h2000, hcell, hH⟩ := id hT
  have hkey : ∀ i, i < L.length → σ.2 218 i = kf v L i := fun i hi => by
    have e : L[i]? = some L[i] := List.getElem?_eq_getElem hi
    unfold kf
    rw [e]
    exact (hcell i _ e).1
  obtain ⟨hs1, hs2⟩ := hsh_spec (keyL v q.1)
  have stop : ∃ d, d < 4096 ∧ (¬ occ ly L.length (σ.1 220) ((hsh (keyL v q.1) + d) % 4096) ∨ ∃ j, ly ≤ j ∧ j < L.length ∧ σ.1 220 ((hsh (keyL v q.1) + d) % 4096) = nI j ∧ kf v L j = keyL v q.1) := by
    obtain ⟨d, d1, d2⟩ := hH.free h2000 hs1
    exact ⟨d, d1, Or.inl d2⟩
  obtain ⟨D, ⟨D1, D2⟩, D3⟩ := least_of stop
  have hway : ∀ e, e < D → ∃ j, ly ≤ j ∧ j < L.length ∧ σ.1 220 ((hsh (keyL v q.1) + e) % 4096) = nI j ∧ kf v L j ≠ keyL v q.1 := fun e he => by
    have ns := D3 e he
    by_cases o : occ ly L.length (σ.1 220) ((hsh (keyL v q.1) + e) % 4096)
    · obtain ⟨j, j1, j2, j3⟩ := o
      refine ⟨j, j1, j2, j3, fun w => ns ⟨by omega, Or.inr ⟨j, j1, j2, j3, w⟩⟩⟩
    · exact absurd ⟨by omega, Or.inl o⟩ ns
  have walk := fun (p2 : Int32) (kk : Int32 → Option (Bool × St_)) (R : Option (Bool × St_)) hend => come_walk (k := keyL v q.1) (p2 := p2) (kk := kk) h6 h5 h2000 hkey D1 hway (R := R) hend D FU 0 (by omega) (by unfold FU; omega)
  have start : nI ((hsh (keyL v q.1) + 0) % 4096) = nI (hsh (keyL v q.1)) := by rw [Nat.add_zero, Nat.mod_eq_of_lt hs1]
  have keq : ∀ j, j < L.length → ∀ p, L[j]? = some p → (kf v L j = keyL v q.1 ↔ eqW v (svK p.1 0 0) (svK q.1 0 0) = true) := fun j hj p hp => by
    unfold kf
    rw [hp]
    exact key_eqW ok (hN j p hp) hq 0 0 0 0
  refine ⟨fun hf => ?_, fun hf hl => ?_, fun hf hl => ?_⟩
  · obtain ⟨i, p, i1, i2, i3⟩ := fnd_iff.mp hf
    have il : i < L.length := by
      obtain ⟨w, -⟩ := List.getElem?_eq_some_iff.mp i2
      exact w
    have ki := (keq i il p i2).mpr i3
    obtain ⟨d0, e1, e2, e3⟩ := hH.1 i i1 il
    rw [ki] at e2 e3
    have hle : D ≤ d0 := by
      by_cases w : D ≤ d0
      · exact w
      · exact absurd ⟨e1, Or.inr ⟨i, i1, il, e2, ki⟩⟩ (D3 d0 (by omega))
    have fj : ∃ j, ly ≤ j ∧ j < L.length ∧ σ.1 220 ((hsh (keyL v q.1) + D) % 4096) = nI j ∧ kf v L j = keyL v q.1 := by
      rcases D2 with w | w
      · exfalso
        apply w
        by_cases e : D = d0
        · rw [e]; exact ⟨i, i1, il, e2⟩
        · exact e3 D (by omega)
      · exact w
    obtain ⟨j, j1, j2, j3, j4⟩ := fj
    rw [come_def]
    have := walk (encO q.2.1) (comeK (keyL v q.1) (encO q.2.1) σ) (some (true, σ)) (fun m => by rw [come_at h6 h5 h2000 hkey (Nat.mod_lt _ (by omega)) D1 j1 j2 j3, if_pos ((lcmp_0 _ _).mpr j4)])
    rw [start, show nI 0 = (0 : Int32) from rfl] at this
    exact this
  all_goals
    have free : ¬ occ ly L.length (σ.1 220) ((hsh (keyL v q.1) + D) % 4096) := by
      rcases D2 with w | ⟨j, j1, j2, j3, j4⟩
      · exact w
      · exfalso
        have e : L[j]? = some L[j] := List.getElem?_eq_getElem j2
        have := fnd_iff.mpr ⟨j, L[j], j1, e, (keq j j2 _ e).mp j4⟩
        rw [hf] at this
        cases this
  · generalize hS : (hsh (keyL v q.1) + D) % 4096 = S at *
    have S4 : S < 4096 := by rw [← hS]; exact Nat.mod_lt _ (by omega)
    generalize hn : L.length = n at *
    have bn : bin (nI n) 2000 = true := binn hl (by omega)
    have cn : (nI n).toNatClampNeg = n := pn_cl (by omega)
    have bS : bin (nI S) 4096 = true := binn S4 (by omega)
    have cS : (nI S).toNatClampNeg = S := pn_cl (by omega)
    have l2 : nI n < (2000 : Int32) := nI_lt (b := 2000) hl (by omega)
    have n1 : ∀ x, (sI σ 220 S x).1 205 5 = nI n := fun x => by rw [sI_get, if_neg (by omega)]; exact h5
    have n2 : ∀ x y, (sL (sI σ 220 S x) 218 n y).1 205 5 = nI n := fun x y => by rw [sL_1]; exact n1 x
    have n3 : ∀ x y u, (sI (sL (sI σ 220 S x) 218 n y) 219 n u).1 205 5 = nI n := fun x y u => by rw [sI_get, if_neg (by omega)]; exact n2 x y
    have kkv : comeK (keyL v q.1) (encO q.2.1) σ (nI S) = some (true, sI (sI (sL (sI σ 220 S (nI n)) 218 n (keyL v q.1)) 219 n (encO q.2.1)) 205 5 (nI (n + 1))) := by
      unfold comeK
      simp only [h5, l2, bS, cS, n1, n2, n3, bn, cn, if_true, nI_1]
    refine ⟨sI (sI (sL (sI σ 220 S (nI n)) 218 n (keyL v q.1)) 219 n (encO q.2.1)) 205 5 (nI (n + 1)), ?_, ?_⟩
    · rw [come_def]
      have := walk (encO q.2.1) (comeK (keyL v q.1) (encO q.2.1) σ) _ (fun m => by exact (come_free h6 h5 hly h2000 S4 D1 free m).trans kkv)
      rw [start, show nI 0 = (0 : Int32) from rfl] at this
      exact this
    · refine ⟨?_, ?_, ?_, ?_, fun i p hp => ?_, ?_⟩
      · rw [sI_get, if_pos ⟨rfl, rfl⟩, List.length_append, hn]; rfl
      · rw [sI_get, if_neg (by omega), sI_get, if_neg (by omega), sL_1, sI_get, if_neg (by omega)]; exact h6
      · rw [List.length_append, hn]; simp; omega
      · rw [List.length_append, hn]; simp; omega
      · have g219 : ∀ i, (sI (sI (sL (sI σ 220 S (nI n)) 218 n (keyL v q.1)) 219 n (encO q.2.1)) 205 5 (nI (n + 1))).1 219 i = if i = n then encO q.2.1 else σ.1 219 i := fun i => by
          rw [sI_get, if_neg (by omega), sI_get, sL_1, sI_get, if_neg (show ¬ (219 = 220 ∧ i = S) by omega)]
          simp
        have g218 : ∀ i, (sI (sI (sL (sI σ 220 S (nI n)) 218 n (keyL v q.1)) 219 n (encO q.2.1)) 205 5 (nI (n + 1))).2 218 i = if i = n then keyL v q.1 else σ.2 218 i := fun i => by
          show (up2 σ.2 218 n (keyL v q.1)) 218 i = _
          simp [up2]
        rw [g218, g219]
        rcases get_snoc hp with ⟨g1, g2⟩ | ⟨g1, g2⟩
        · rw [if_neg (by omega), if_neg (by omega)]
          exact hcell i p g2
        · rw [if_pos (by omega), if_pos (by omega), g2]
          exact ⟨rfl, rfl⟩
      · have en : (L ++ [q]).length = n + 1 := by rw [List.length_append, hn]; rfl
        rw [en]
        refine hH.add hl hly D1 (by rw [hS]; exact free) (fun e he => ?_) (key' := kf v (L ++ [q])) (k := keyL v q.1) (fun i hi => ?_) ?_ (fun a => ?_)
        · obtain ⟨j, j1, j2, j3, -⟩ := hway e he
          exact ⟨j, j1, j2, j3⟩
        · unfold kf
          rw [List.getElem?_append_left (by omega)]
        · unfold kf
          rw [← hn, List.getElem?_concat_length]
        · rw [hS, sI_get, if_neg (by omega), sI_get, if_neg (by omega), sL_1, sI_get]
          simp
  · have l2 : ¬ nI L.length < (2000 : Int32) := nI_nlt (b := 2000) (by omega) (by omega)
    rw [come_def]
    have := walk (encO q.2.1) (comeK (keyL v q.1) (encO q.2.1) σ) _ (fun m => come_free h6 h5 hly h2000 (Nat.mod_lt _ (by omega)) D1 free m)
    rw [start, show nI 0 = (0 : Int32) from rfl] at this
    refine Eq.trans this ?_
    unfold comeK
    rw [h5, if_neg l2]
end HASH
