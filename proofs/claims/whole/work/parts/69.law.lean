/-! what is lawful -/
section LAWS
variable {σ σ' : St_} {c : Nat} {v : Vw}
theorem bnd_eq {α β : Type} (a : α) (k : α → β) : bnd a k = k a := Eq.trans (Eq.refl (k a)) (Eq.refl (k a))
theorem obs_eq {α β : Type} (a : α) (k : α → Option β) : (some a).bind k = k a := Eq.trans (Eq.refl (k a)) (Eq.refl (k a))
def upF (f : Nat → Int32) (d : Nat) (x : Int32) : Nat → Int32 := fun j => if j = d then x else f j
def dn (s a b : Int32) : Int32 := if s = 37 then (if b = 0 then 0 else a - a / b * b) else if s = 38 then (if a = 0 then 0 else if b = 0 then 0 else 1) else if s = 42 then a * b else if s = 43 then a + b else if s = 45 then a - b else if s = 47 then (if b = 0 then 0 else a / b) else if s = 60 then (if b ≤ a then 0 else 1) else if s = 61 then (if a = b then 1 else 0) else if s = 62 then (if a ≤ b then 0 else 1) else (if a = 0 then (if b = 0 then 0 else 1) else 1)
def runF (asks : Nat → Int32) : List (Nat × Int32) → (Nat → Int32) → Nat → Int32
  | [], f, _ => f 0
  | q :: l, f, d => if q.1 = 0 then runF asks l (upF f d q.2) (d + 1) else if q.1 = 1 then runF asks l (upF f d (asks q.2.toNatClampNeg)) (d + 1) else if q.1 = 2 then runF asks l (upF f (d - 1) (if f (d - 1) = 0 then 1 else 0)) d else runF asks l (upF f (d - 2) (dn q.2 (f (d - 2)) (f (d - 1)))) (d - 1)
theorem upF_rel {A d d' j : Nat} {x : Int32} {f : Nat → Int32} (h : ∀ j, j < d → j ≠ d' → σ.1 A j = f j) (hj : j < d ∨ j = d') : (sI σ A d' x).1 A j = upF f d' x j := by
  rw [sI_get]
  unfold upF
  by_cases q : j = d'
  · simp [q]
  · simp [q]
    exact h j (by omega) q
theorem c_joined {q : Nat × Int32} (h : lsign q.2 = true) (h3 : q.1 = 3) (a b : Int32) : mX3_joined (lstepC q) a b σ = some (dn q.2 a b) := by
  obtain ⟨q1, q2⟩ := q
  simp only at h h3
  subst h3
  unfold lsign at h
  simp only [Bool.or_eq_true, beq_iff_eq] at h
  unfold mX3_joined dn lstepC
  rcases h with ((((((((h | h) | h) | h) | h) | h) | h) | h) | h) | h <;> subst h <;> simp
  · by_cases h1 : a = 0 <;> by_cases h2 : b = 0 <;> simp [h1, h2]
  · by_cases h1 : a = 0 <;> by_cases h2 : b = 0 <;> simp [h1, h2]
  · by_cases h1 : b ≤ a <;> simp [h1]
  · by_cases h1 : a ≤ b <;> simp [h1]
  · by_cases h1 : a = b <;> simp [h1]
  · by_cases h2 : b = 0 <;> simp [h2]
  · by_cases h2 : b = 0 <;> simp [h2]
theorem r_done (s a b : Int32) : mX12_done s a b σ = some (dn s a b) := by
  unfold mX12_done dn bnd mX12_truth
  by_cases e1 : s = 37
  · by_cases h2 : b = 0 <;> simp [e1, h2]
  · by_cases e2 : s = 38
    · subst e2
      by_cases h1 : a = 0 <;> by_cases h2 : b = 0 <;> simp [h1, h2]
    · by_cases e3 : s = 42
      · simp [e3]
      · by_cases e4 : s = 43
        · simp [e4]
        · by_cases e5 : s = 45
          · simp [e5]
          · by_cases e6 : s = 47
            · by_cases h2 : b = 0 <;> simp [e6, h2]
            · by_cases e7 : s = 60
              · by_cases h1 : b ≤ a <;> simp [e7, h1]
              · by_cases e8 : s = 61
                · by_cases h1 : a = b <;> simp [e8, h1]
                · by_cases e9 : s = 62
                  · by_cases h1 : a ≤ b <;> simp [e9, h1]
                  · by_cases h1 : a = 0 <;> by_cases h2 : b = 0 <;> simp [e1, e2, e3, e4, e5, e6, e7, e8, e9, h1, h2]
theorem lstep_sign {q : Nat × Int32} (h : lsign q.2 = true) (h3 : q.1 = 3) : lstepC q ≠ 0 ∧ lstepC q ≠ 1 ∧ lstepC q ≠ 2 := by
  obtain ⟨q1, q2⟩ := q
  simp only at h h3
  subst h3
  unfold lsign at h
  simp only [Bool.or_eq_true, beq_iff_eq] at h
  unfold lstepC
  rcases h with ((((((((h | h) | h) | h) | h) | h) | h) | h) | h) | h <;> subst h <;> simp
/-- the class' stack -/
theorem c_allows_L {asks : Nat → Int32} {L : Nat} (hL : L ≤ 300) : ∀ (l : List (Nat × Int32)) (n i d : Nat) (f : Nat → Int32) (σ : St_), lwf l d = true → i + l.length = L → l.length < n → d ≤ 30 → σ.1 (c + 11) 4 = nI L → (∀ j q, l[j]? = some q → σ.1 (c + 12) (i + j) = lstepC q ∧ (q.1 ≤ 1 → σ.1 (c + 13) (i + j) = q.2)) → (∀ j, j < 7 → σ.1 (c + 15) j = asks j) → (∀ j, j < d → σ.1 (c + 14) j = f j) → ∃ σ', (∀ k242 : St_ → Option (Bool × St_), mX3_allows_L78 (c + 11) k242 n (nI d) (nI i) σ = k242 σ') ∧ σ'.1 (c + 14) 0 = runF asks l f d := by
  intro l
  induction l with
  | nil =>
    intro n i d f σ hw hi hn hd h1 h2 h3 h4
    obtain ⟨m, rfl, -⟩ := fu_suc hn
    simp only [List.length_nil] at hi
    unfold lwf at hw
    simp only [beq_iff_eq] at hw
    refine ⟨σ, fun k242 => ?_, h4 0 (by omega)⟩
    unfold mX3_allows_L78
    rw [h1, if_pos (nI_le (by omega) (by omega))]
  | cons q l ih =>
    intro n i d f σ hw hi hn hd h1 h2 h3 h4
    obtain ⟨m, rfl, hm⟩ := fu_suc hn
    simp only [List.length_cons] at hi hn hm
    have q0 := h2 0 q (by simp)
    simp only [Nat.add_zero] at q0
    have step : ∀ (d' e : Nat) (x : Int32) (f' : Nat → Int32), e < 30 → lwf l d' = true → d' ≤ 30 → (∀ j, j < d' → (sI σ (c + 14) e x).1 (c + 14) j = f' j) → ∃ σ', (∀ k242 : St_ → Option (Bool × St_), mX3_allows_L78 (c + 11) k242 m (nI d') (nI (i + 1)) (sI σ (c + 14) e x) = k242 σ') ∧ σ'.1 (c + 14) 0 = runF asks l f' d' := by
      intro d' e x f' he hw' hd' hf
      refine ih m (i + 1) d' f' (sI σ (c + 14) e x) hw' (by omega) (by omega) hd' ?_ ?_ ?_ hf
      · rw [sI_get, if_neg (by omega)]; exact h1
      · intro j p hp
        have := h2 (j + 1) p (by simpa using hp)
        rw [sI_get, sI_get, if_neg (by omega), if_neg (by omega), show i + 1 + j = i + (j + 1) by omega]
        exact this
      · intro j hj
        rw [sI_get, if_neg (by omega)]
        exact h3 j hj
    unfold lwf at hw
    unfold runF
    by_cases e0 : q.1 = 0
    · rw [if_pos e0] at hw
      simp only [Bool.and_eq_true, decide_eq_true_eq] at hw
      have es : lstepC q = 0 := by unfold lstepC; rw [if_pos e0]
      obtain ⟨σ', s1, s2⟩ := step (d + 1) d q.2 (upF f d q.2) hw.1 hw.2 (by omega) (fun j hj => upF_rel (d := d) (fun j hj hne => h4 j hj) (by omega))
      refine ⟨σ', fun k242 => ?_, by rw [if_pos e0]; exact s2⟩
      unfold mX3_allows_L78
      rw [h1, if_neg (nI_ge (by omega) (by omega)), binn (show i < 300 by omega) (by omega), pn_cl (show i < 2 ^ 31 by omega), if_pos rfl]
      simp only [bnd_eq]
      rw [show c + 11 + 1 = c + 12 by omega, q0.1, es, if_pos rfl, if_pos (show nI d < (30 : Int32) from nI_lt (b := 30) hw.1 (by omega)), binn hw.1 (by omega), pn_cl (by omega), show c + 11 + 3 = c + 14 by omega, show c + 11 + 2 = c + 13 by omega, q0.2 (by omega), nI_1, nI_1]
      try simp only [if_true, obs_eq]
      exact s1 k242
    · by_cases e1 : q.1 = 1
      · rw [if_neg e0, if_pos e1] at hw
        simp only [Bool.and_eq_true, decide_eq_true_eq] at hw
        have es : lstepC q = 1 := by unfold lstepC; rw [if_neg e0, if_pos e1]
        have hq7 : ∃ j, j < 7 ∧ q.2 = nI j := by
          refine ⟨q.2.toNatClampNeg, ?_, pn_of hw.1.2.1⟩
          have := hw.1.2.2
          rw [pn_of hw.1.2.1] at this
          exact (pn_lt (b := 7) (pn_lt31 _) (by omega)).mp this
        obtain ⟨j, hj, ej⟩ := hq7
        have eask : asks q.2.toNatClampNeg = asks j := by rw [ej, pn_cl (by omega)]
        obtain ⟨σ', s1, s2⟩ := step (d + 1) d (asks j) (upF f d (asks j)) hw.1.1 hw.2 (by omega) (fun j hj => upF_rel (d := d) (fun j hj hne => h4 j hj) (by omega))
        refine ⟨σ', fun k242 => ?_, by rw [if_neg e0, if_pos e1, eask]; exact s2⟩
        unfold mX3_allows_L78
        rw [h1, if_neg (nI_ge (by omega) (by omega)), binn (show i < 300 by omega) (by omega), pn_cl (show i < 2 ^ 31 by omega), if_pos rfl]
        simp only [bnd_eq]
        rw [show c + 11 + 1 = c + 12 by omega, q0.1, es, if_neg (by decide), if_pos rfl, if_pos (show nI d < (30 : Int32) from nI_lt (b := 30) hw.1.1 (by omega)), if_neg (by decide), binn hw.1.1 (by omega), pn_cl (by omega), show c + 11 + 3 = c + 14 by omega, show c + 11 + 2 = c + 13 by omega, q0.2 (by omega), ej, binn hj (by omega), pn_cl (by omega), show c + 11 + 4 = c + 15 by omega, h3 j hj, nI_1, nI_1]
        try simp only [if_true, obs_eq]
        exact s1 k242
      · by_cases e2 : q.1 = 2
        · rw [if_neg e0, if_neg e1, if_pos e2] at hw
          simp only [Bool.and_eq_true, decide_eq_true_eq] at hw
          have es : lstepC q = 2 := by unfold lstepC; rw [if_neg e0, if_neg e1, if_pos e2]
          obtain ⟨d', rfl⟩ : ∃ d', d = d' + 1 := ⟨d - 1, by omega⟩
          obtain ⟨σ', s1, s2⟩ := step (d' + 1) d' (if f d' = 0 then 1 else 0) (upF f d' (if f d' = 0 then 1 else 0)) (by omega) hw.2 (by omega) (fun j hj => upF_rel (d := d' + 1) (fun j hj hne => h4 j hj) (by omega))
          refine ⟨σ', fun k242 => ?_, by rw [if_neg e0, if_neg e1, if_pos e2]; exact s2⟩
          have hlt : ¬ nI (d' + 1) < (1 : Int32) := by
            have := nI_nlt (a := d' + 1) (b := 1) (by omega) (by omega)
            exact this
          unfold mX3_allows_L78
          rw [h1, if_neg (nI_ge (by omega) (by omega)), binn (show i < 300 by omega) (by omega), pn_cl (show i < 2 ^ 31 by omega), if_pos rfl]
          simp only [bnd_eq]
          rw [show c + 11 + 1 = c + 12 by omega, q0.1, es, if_neg (by decide), if_neg (by decide), if_neg hlt, if_pos rfl, nI_s1 (by omega), binn (by omega) (by omega), pn_cl (by omega), show c + 11 + 3 = c + 14 by omega, h4 d' (by omega), nI_1]
          by_cases z : f d' = 0
          · rw [if_pos z] at s1
            rw [if_pos rfl, if_pos z]
            try simp only [if_true, obs_eq]
            exact s1 k242
          · rw [if_neg z] at s1
            rw [if_pos rfl, if_neg z]
            try simp only [if_true, obs_eq]
            exact s1 k242
        · rw [if_neg e0, if_neg e1, if_neg e2] at hw
          simp only [Bool.and_eq_true, decide_eq_true_eq] at hw
          obtain ⟨⟨⟨w1, w2⟩, w3⟩, w4⟩ := hw
          obtain ⟨n0, n1, n2⟩ := lstep_sign w2 w1
          obtain ⟨d', rfl⟩ : ∃ d', d = d' + 2 := ⟨d - 2, by omega⟩
          obtain ⟨σ', s1, s2⟩ := step (d' + 1) d' (dn q.2 (f d') (f (d' + 1))) (upF f d' (dn q.2 (f d') (f (d' + 1)))) (by omega) w4 (by omega) (fun j hj => upF_rel (d := d' + 1) (fun j hj hne => h4 j (by omega)) (by omega))
          refine ⟨σ', fun k242 => ?_, by rw [if_neg e0, if_neg e1, if_neg e2]; exact s2⟩
          have hlt : ¬ nI (d' + 2) < (1 : Int32) := nI_nlt (a := d' + 2) (b := 1) (by omega) (by omega)
          have hlt2 : ¬ nI (d' + 2) < (2 : Int32) := nI_nlt (a := d' + 2) (b := 2) (by omega) (by omega)
          have m1 : nI (d' + 2) + (-1) = nI (d' + 1) := by
            have := nI_s1 (n := d' + 1) (by omega)
            rw [Int32.sub_eq_add_neg] at this
            exact this
          unfold mX3_allows_L78
          rw [h1, if_neg (nI_ge (by omega) (by omega)), binn (show i < 300 by omega) (by omega), pn_cl (show i < 2 ^ 31 by omega), if_pos rfl]
          simp only [bnd_eq]
          rw [show c + 11 + 1 = c + 12 by omega, q0.1, if_neg n0, if_neg n1, if_neg hlt, if_neg n2, if_neg hlt2, m1, nI_s1 (by omega), binn (by omega) (by omega), binn (by omega) (by omega), pn_cl (by omega), pn_cl (by omega), show c + 11 + 3 = c + 14 by omega, h4 d' (by omega), h4 (d' + 1) (by omega), c_joined w2 w1, nI_1]
          try simp only [if_true, obs_eq]
          exact s1 k242
def askF (p1 p2 p3 p4 p5 p6 p7 : Int32) (j : Nat) : Int32 := if j = 0 then p1 else if j = 1 then p2 else if j = 2 then p3 else if j = 3 then p4 else if j = 4 then p5 else if j = 5 then p6 else p7
def lawEv (v : Vw) (p1 p2 p3 p4 p5 p6 p7 : Int32) : Bool := match v.lw with
  | none => decide (p1 < p2)
  | some l => !decide (runF (askF p1 p2 p3 p4 p5 p6 p7) l (fun _ => 0) 0 = 0)
theorem c_allows (hc : CV c v σ) (ok : v.OK) (p1 p2 p3 p4 p5 p6 p7 : Int32) : ∃ σ', mX3_allows (c + 11) p1 p2 p3 p4 p5 p6 p7 σ = some (lawEv v p1 p2 p3 p4 p5 p6 p7, σ') := by
  unfold mX3_allows lawEv
  cases hl : v.lw with
  | none =>
    rw [hc.lw0 hl, if_pos rfl]
    by_cases q : p2 ≤ p1
    · exact ⟨σ, by rw [if_pos q]; simp [Int32.not_lt.mpr q]⟩
    · exact ⟨σ, by rw [if_neg q]; simp [Int32.not_le.mp q]⟩
  | some l =>
    obtain ⟨o1, o2, o3⟩ := ok.lw l hl
    obtain ⟨l1, l2⟩ := hc.lw1 l hl
    have hp : 0 < l.length := List.length_pos_iff.mpr o1
    rw [l1, if_neg (nI_ne0 hp (by omega))]
    obtain ⟨σ', s1, s2⟩ := c_allows_L (c := c) (asks := askF p1 p2 p3 p4 p5 p6 p7) o2 l FU 0 0 (fun _ => 0) (sI (sI (sI (sI (sI (sI (sI σ (c + 15) 0 p1) (c + 15) 1 p2) (c + 15) 2 p3) (c + 15) 3 p4) (c + 15) 4 p5) (c + 15) 5 p6) (c + 15) 6 p7) o3 (by omega) (by unfold FU; omega) (by omega) (by simp [sI_get, l1]) (by
        intro j q hq
        have := l2 j q hq
        simp only [sI_get]
        simpa using this) (by
        intro j hj
        have h7 : j = 0 ∨ j = 1 ∨ j = 2 ∨ j = 3 ∨ j = 4 ∨ j = 5 ∨ j = 6 := by omega
        rcases h7 with h | h | h | h | h | h | h <;> subst h <;> simp [sI_get, askF]) (by intro j hj; omega)
    refine ⟨σ', ?_⟩
    have c0 : bin (0 : Int32) 7 = true := by decide
    have c1 : bin (1 : Int32) 7 = true := by decide
    have c2 : bin (2 : Int32) 7 = true := by decide
    have c3 : bin (3 : Int32) 7 = true := by decide
    have c4 : bin (4 : Int32) 7 = true := by decide
    have c5 : bin (5 : Int32) 7 = true := by decide
    have c6 : bin (6 : Int32) 7 = true := by decide
    have c9 : bin (0 : Int32) 30 = true := by decide
    have d0 : (0 : Int32).toNatClampNeg = 0 := rfl
    have d1 : (1 : Int32).toNatClampNeg = 1 := rfl
    have d2 : (2 : Int32).toNatClampNeg = 2 := rfl
    have d3 : (3 : Int32).toNatClampNeg = 3 := rfl
    have d4 : (4 : Int32).toNatClampNeg = 4 := rfl
    have d5 : (5 : Int32).toNatClampNeg = 5 := rfl
    have d6 : (6 : Int32).toNatClampNeg = 6 := rfl
    have s1' : ∀ k242 : St_ → Option (Bool × St_), mX3_allows_L78 (c + 11) k242 FU (0 : Int32) (0 : Int32) (sI (sI (sI (sI (sI (sI (sI σ (c + 15) 0 p1) (c + 15) 1 p2) (c + 15) 2 p3) (c + 15) 3 p4) (c + 15) 4 p5) (c + 15) 5 p6) (c + 15) 6 p7) = k242 σ' := s1
    simp only [bnd_eq, c0, c1, c2, c3, c4, c5, c6, d0, d1, d2, d3, d4, d5, d6, if_true, show c + 11 + 4 = c + 15 by omega, show c + 11 + 3 = c + 14 by omega, s1', c9, s2]
    by_cases z : runF (askF p1 p2 p3 p4 p5 p6 p7) l (fun _ => 0) 0 = 0
    · rw [if_pos z]; simp [z]
    · rw [if_neg z]; simp [z]
end LAWS
