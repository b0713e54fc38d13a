/-! what is lawful: the reference's side, and both sides' sets -/
section LAWS2
variable {σ σ' : St_} {c : Nat} {v : Vw}
theorem z10 : ((1 : Int32) = 0) = False := eq_false (by decide)
theorem z20 : ((2 : Int32) = 0) = False := eq_false (by decide)
theorem z21 : ((2 : Int32) = 1) = False := eq_false (by decide)
theorem z30 : ((3 : Int32) = 0) = False := eq_false (by decide)
theorem z31 : ((3 : Int32) = 1) = False := eq_false (by decide)
theorem z32 : ((3 : Int32) = 2) = False := eq_false (by decide)
theorem z01 : ((0 : Int32) = 1) = False := eq_false (by decide)
theorem truth_eq (b : Bool) : mX12_truth b σ = some (if b = true then 1 else 0) := by
  unfold mX12_truth
  cases b <;> rfl
theorem nI_m1 {d : Nat} (h : d < 2 ^ 31 - 1) : nI (d + 1) + (-1) = nI d := by
  have := nI_s1 (n := d) h
  rw [Int32.sub_eq_add_neg] at this
  exact this
theorem r_worked_L {asks : Nat → Int32} {L : Nat} (hL : L ≤ 300) : ∀ (l : List (Nat × Int32)) (n i d : Nat) (f : Nat → Int32) (σ : St_), lwf l d = true → i + l.length = L → l.length < n → d ≤ 30 → σ.1 233 20 = nI L → (∀ j q, l[j]? = some q → σ.1 239 (i + j) = nI q.1 ∧ (q.1 ≠ 2 → σ.1 240 (i + j) = q.2)) → (∀ j, j < 7 → σ.1 243 j = asks j) → (∀ j, j < d → σ.1 242 j = f j) → ∃ σ', mX12_worked_L4 233 n (nI d) (nI i) σ = some (runF asks l f d, σ') := by
  intro l
  induction l with
  | nil =>
    intro n i d f σ hw hi hn hd h1 h2 h3 h4
    obtain ⟨m, rfl, -⟩ := fu_suc hn
    simp only [List.length_nil] at hi
    unfold lwf at hw
    simp only [beq_iff_eq] at hw
    refine ⟨σ, ?_⟩
    unfold mX12_worked_L4 runF
    rw [h1, if_pos (nI_le (by omega) (by omega)), ← h4 0 (by omega)]
    rfl
  | cons q l ih =>
    intro n i d f σ hw hi hn hd h1 h2 h3 h4
    obtain ⟨m, rfl, hm⟩ := fu_suc hn
    simp only [List.length_cons] at hi hn hm
    have q0 := h2 0 q (by simp)
    simp only [Nat.add_zero] at q0
    have b1 : bin (nI i) 320 = true := binn (by omega) (by omega)
    have b2 : (nI i).toNatClampNeg = i := pn_cl (by omega)
    have step : ∀ (d' e : Nat) (x : Int32) (f' : Nat → Int32), e < 30 → lwf l d' = true → d' ≤ 30 → (∀ j, j < d' → (sI σ 242 e x).1 242 j = f' j) → ∃ σ', mX12_worked_L4 233 m (nI d') (nI (i + 1)) (sI σ 242 e x) = some (runF asks l f' d', σ') := by
      intro d' e x f' he hw' hd' hf
      refine ih m (i + 1) d' f' (sI σ 242 e x) hw' (by omega) (by omega) hd' ?_ ?_ ?_ hf
      · rw [sI_get, if_neg (by omega)]; exact h1
      · intro j p hp
        have := h2 (j + 1) p (by simpa using hp)
        rw [sI_get, sI_get, if_neg (by omega), if_neg (by omega), show i + 1 + j = i + (j + 1) by omega]
        exact this
      · intro j hj
        rw [sI_get, if_neg (by omega)]
        exact h3 j hj
    unfold lwf at hw
    unfold mX12_worked_L4 runF
    rw [h1, if_neg (nI_ge (by omega) (by omega))]
    by_cases e0 : q.1 = 0
    · rw [if_pos e0] at hw
      simp only [Bool.and_eq_true, decide_eq_true_eq] at hw
      have es : σ.1 239 i = 0 := by rw [q0.1, e0]; rfl
      have ea := q0.2 (by omega)
      obtain ⟨σ', s1⟩ := step (d + 1) d q.2 (upF f d q.2) hw.1 hw.2 (by omega) (fun j hj => upF_rel (d := d) (fun j hj hne => h4 j hj) (by omega))
      refine ⟨σ', ?_⟩
      have b3 : bin (nI d) 64 = true := binn (by omega) (by omega)
      have b4 : (nI d).toNatClampNeg = d := pn_cl (by omega)
      simp only [bnd_eq, b1, b2, b3, b4, es, ea, e0, if_true, nI_1, show 233 + 6 = 239 from rfl, show 233 + 7 = 240 from rfl, show 233 + 9 = 242 from rfl, s1]
    · by_cases e1 : q.1 = 1
      · rw [if_neg e0, if_pos e1] at hw
        simp only [Bool.and_eq_true, decide_eq_true_eq] at hw
        have es : σ.1 239 i = 1 := by rw [q0.1, e1]; rfl
        have hq7 : ∃ j, j < 7 ∧ q.2 = nI j := by
          refine ⟨q.2.toNatClampNeg, ?_, pn_of hw.1.2.1⟩
          have := hw.1.2.2
          rw [pn_of hw.1.2.1] at this
          exact (pn_lt (b := 7) (pn_lt31 _) (by omega)).mp this
        obtain ⟨j, hj, ej⟩ := hq7
        have ea := q0.2 (by omega)
        rw [ej] at ea
        have eask : asks q.2.toNatClampNeg = asks j := by rw [ej, pn_cl (by omega)]
        obtain ⟨σ', s1⟩ := step (d + 1) d (asks j) (upF f d (asks j)) hw.1.1 hw.2 (by omega) (fun j hj => upF_rel (d := d) (fun j hj hne => h4 j hj) (by omega))
        refine ⟨σ', ?_⟩
        have b3 : bin (nI d) 64 = true := binn (by omega) (by omega)
        have b4 : (nI d).toNatClampNeg = d := pn_cl (by omega)
        have b5 : bin (nI j) 7 = true := binn (by omega) (by omega)
        have b6 : (nI j).toNatClampNeg = j := pn_cl (by omega)
        rw [if_neg e0, if_pos e1, eask]
        simp only [bnd_eq, b1, b2, b3, b4, b5, b6, es, ea, h3 j hj, z10, if_true, if_false, nI_1, show 233 + 6 = 239 from rfl, show 233 + 7 = 240 from rfl, show 233 + 9 = 242 from rfl, show 233 + 10 = 243 from rfl, s1]
      · by_cases e2 : q.1 = 2
        · rw [if_neg e0, if_neg e1, if_pos e2] at hw
          simp only [Bool.and_eq_true, decide_eq_true_eq] at hw
          have es : σ.1 239 i = 2 := by rw [q0.1, e2]; rfl
          obtain ⟨d', rfl⟩ : ∃ d', d = d' + 1 := ⟨d - 1, by omega⟩
          obtain ⟨σ', s1⟩ := step (d' + 1) d' (if f d' = 0 then 1 else 0) (upF f d' (if f d' = 0 then 1 else 0)) (by omega) hw.2 (by omega) (fun j hj => upF_rel (d := d' + 1) (fun j hj hne => h4 j hj) (by omega))
          refine ⟨σ', ?_⟩
          have b3 : bin (nI d') 64 = true := binn (by omega) (by omega)
          have b4 : (nI d').toNatClampNeg = d' := pn_cl (by omega)
          have b5 : nI (d' + 1) - 1 = nI d' := nI_s1 (by omega)
          rw [if_neg e0, if_neg e1, if_pos e2, Nat.add_sub_cancel]
          by_cases zz : f d' = 0
          · rw [if_pos zz] at s1
            rw [if_pos zz]
            simp only [bnd_eq, b1, b2, b3, b4, b5, es, h4 d' (by omega), zz, z20, z21, truth_eq, obs_eq, if_true, if_false, nI_1, show 233 + 6 = 239 from rfl, show 233 + 7 = 240 from rfl, show 233 + 9 = 242 from rfl, s1]
          · rw [if_neg zz] at s1
            rw [if_neg zz]
            simp only [bnd_eq, b1, b2, b3, b4, b5, es, h4 d' (by omega), zz, z20, z21, truth_eq, obs_eq, if_true, if_false, nI_1, Bool.false_eq_true, show 233 + 6 = 239 from rfl, show 233 + 7 = 240 from rfl, show 233 + 9 = 242 from rfl, s1]
        · rw [if_neg e0, if_neg e1, if_neg e2] at hw
          simp only [Bool.and_eq_true, decide_eq_true_eq] at hw
          obtain ⟨⟨⟨w1, w2⟩, w3⟩, w4⟩ := hw
          have es : σ.1 239 i = 3 := by rw [q0.1, w1]; rfl
          have ea := q0.2 e2
          obtain ⟨d', rfl⟩ : ∃ d', d = d' + 2 := ⟨d - 2, by omega⟩
          obtain ⟨σ', s1⟩ := step (d' + 1) d' (dn q.2 (f d') (f (d' + 1))) (upF f d' (dn q.2 (f d') (f (d' + 1)))) (by omega) w4 (by omega) (fun j hj => upF_rel (d := d' + 1) (fun j hj hne => h4 j (by omega)) (by omega))
          refine ⟨σ', ?_⟩
          have b3 : bin (nI d') 64 = true := binn (by omega) (by omega)
          have b4 : (nI d').toNatClampNeg = d' := pn_cl (by omega)
          have b5 : nI (d' + 1) - 1 = nI d' := nI_s1 (by omega)
          have b6 : nI (d' + 2) + (-1) = nI (d' + 1) := nI_m1 (by omega)
          have b7 : bin (nI (d' + 1)) 64 = true := binn (by omega) (by omega)
          have b8 : (nI (d' + 1)).toNatClampNeg = d' + 1 := pn_cl (by omega)
          rw [if_neg e0, if_neg e1, if_neg e2, show d' + 2 - 2 = d' by omega, show d' + 2 - 1 = d' + 1 by omega]
          simp only [bnd_eq, b1, b2, b6, b5, b3, b4, b7, b8, es, ea, h4 d' (by omega), h4 (d' + 1) (by omega), r_done, z30, z31, z32, obs_eq, if_true, if_false, nI_1, show 233 + 6 = 239 from rfl, show 233 + 7 = 240 from rfl, show 233 + 9 = 242 from rfl, s1]
/-- some place of a row -/
def anyF (p : Nat → Bool) : Nat → Nat → Bool
  | _, 0 => false
  | i, k + 1 => p i || anyF p (i + 1) k
theorem anyF_iff {p : Nat → Bool} : ∀ {k i : Nat}, anyF p i k = true ↔ ∃ y, i ≤ y ∧ y < i + k ∧ p y = true
  | 0, i => by
    simp only [anyF, Bool.false_eq_true, false_iff]
    rintro ⟨y, h1, h2, -⟩
    omega
  | k + 1, i => by
    unfold anyF
    rw [Bool.or_eq_true, anyF_iff (k := k)]
    constructor
    · rintro (h | ⟨y, h1, h2, h3⟩)
      · exact ⟨i, by omega, by omega, h⟩
      · exact ⟨y, by omega, by omega, h3⟩
    · rintro ⟨y, h1, h2, h3⟩
      by_cases e : y = i
      · subst e; exact Or.inl h3
      · exact Or.inr ⟨y, by omega, by omega, h3⟩
def kin (v : Vw) (s : Int32) (x : Nat) : Bool := anyF (fun y => tb s y && decide (v.kd y = v.kd x)) 0 v.N
def aAl (v : Vw) (tk lf : Int32) : Int32 := sumI (fun x => if tb lf x = true then (if kin v tk x = true then 1 else 0) else 0) 0 v.N
def aLaw (v : Vw) (h : Nat) (tk lf hr sk : Int32) : Bool := lawEv v (aS v h tk) (aS v h lf) (mem tk) (mem lf) (aAl v tk lf) hr sk
theorem r_alike_L32 (hr : RV v σ) (ok : v.OK) {x1 x2 x3 : Int32} {x : Nat} (hx : x < v.N) {k86 : Bool → Option Int32} : ∀ k n i (b : Bool), i + k = v.N → k < n → mX12_alike_L32 233 σ x1 x2 x3 (nI x) k86 n b (nI i) = k86 (b || anyF (fun y => tb x1 y && decide (v.kd y = v.kd x)) i k)
  | 0, n, i, b, hi, hn => by
    have := ok.N
    obtain ⟨m, rfl, -⟩ := fu_suc hn
    unfold mX12_alike_L32 anyF
    rw [hr.N, if_pos (nI_le (by omega) (by omega)), Bool.or_false]
  | k + 1, n, i, b, hi, hn => by
    have := ok.N
    obtain ⟨m, rfl, hm⟩ := fu_suc hn
    have ih := fun b => r_alike_L32 hr ok (x1 := x1) (x2 := x2) (x3 := x3) hx (k86 := k86) k m (i + 1) b (by omega) (by omega)
    unfold mX12_alike_L32 anyF
    simp only [bnd_eq]
    rw [hr.N, if_neg (nI_ge (by omega) (by omega)), tb_get _ (by omega), nI_1, ih, ih, binn (show i < 10 by omega) (by omega), binn (show x < 10 by omega) (by omega), pn_cl (show i < 2 ^ 31 by omega), pn_cl (show x < 2 ^ 31 by omega), show 233 + 20 = 253 from rfl, hr.kd i (by omega), hr.kd x hx]
    cases b <;> by_cases q : tb x1 i = true <;> by_cases q2 : v.kd i = v.kd x <;> simp [q, q2]
theorem r_alike_L5 (hr : RV v σ) (ok : v.OK) {x1 x2 : Int32} : ∀ k n i (a : Int32), i + k = v.N → k < n → mX12_alike_L5 233 σ x1 x2 n a (nI i) = some (a + sumI (fun x => if tb x2 x = true then (if kin v x1 x = true then 1 else 0) else 0) i k)
  | 0, n, i, a, hi, hn => by
    have := ok.N
    obtain ⟨m, rfl, -⟩ := fu_suc hn
    unfold mX12_alike_L5 sumI
    rw [hr.N, if_pos (nI_le (by omega) (by omega)), Int32.add_zero]
  | k + 1, n, i, a, hi, hn => by
    have := ok.N
    obtain ⟨m, rfl, hm⟩ := fu_suc hn
    have ih := fun a => r_alike_L5 hr ok (x1 := x1) (x2 := x2) k m (i + 1) a (by omega) (by omega)
    unfold mX12_alike_L5 sumI
    simp only [bnd_eq]
    rw [hr.N, if_neg (nI_ge (by omega) (by omega)), tb_get _ (by omega), nI_1, ih, show (0 : Int32) = nI 0 from rfl, r_alike_L32 hr ok (show i < v.N by omega) v.N FU 0 false (by omega) (by unfold FU; omega), truth_eq]
    simp only [obs_eq]
    rw [ih]
    by_cases q : tb x2 i = true
    · simp only [q, if_true, Bool.false_or]
      rw [if_neg (by decide), Int32.add_assoc]
      rfl
    · simp [q]
      rfl
theorem r_alike (hr : RV v σ) (ok : v.OK) (x1 x2 : Int32) : mX12_alike 233 x1 x2 σ = some (aAl v x1 x2) := by
  have := ok.N
  unfold mX12_alike
  rw [show (0 : Int32) = nI 0 from rfl, r_alike_L5 hr ok v.N FU 0 _ (by omega) (by unfold FU; omega)]
  exact congrArg some (Int32.zero_add _)
theorem r_isLaw_L3 {x1 x2 x3 x4 x5 : Int32} : ∀ k n i (σ : St_), i + k = 7 → k < n → ∃ σ' : St_, (∀ k24 : St_ → Option (Bool × St_), mX12_isLawful_L3 233 x1 x2 x3 x4 x5 k24 n (nI i) σ = k24 σ') ∧ ∀ a b, σ'.1 a b = if a = 243 ∧ i ≤ b ∧ b < 7 then 0 else σ.1 a b
  | 0, n, i, σ, hi, hn => by
    obtain ⟨m, rfl, -⟩ := fu_suc hn
    refine ⟨σ, fun k24 => ?_, fun a b => by rw [if_neg (by omega)]⟩
    unfold mX12_isLawful_L3
    rw [show (7 : Int32) = nI 7 from rfl, if_pos (nI_le (by omega) (by omega))]
  | k + 1, n, i, σ, hi, hn => by
    obtain ⟨m, rfl, hm⟩ := fu_suc hn
    obtain ⟨σ', e1, e3⟩ := r_isLaw_L3 (x1 := x1) (x2 := x2) (x3 := x3) (x4 := x4) (x5 := x5) k m (i + 1) (sI σ 243 i 0) (by omega) (by omega)
    refine ⟨σ', fun k24 => ?_, fun a b => ?_⟩
    · unfold mX12_isLawful_L3
      simp only [bnd_eq]
      rw [show (7 : Int32) = nI 7 from rfl, if_neg (nI_ge (by omega) (by omega)), binn (by omega) (by omega), pn_cl (by omega), nI_1, if_pos rfl]
      exact e1 k24
    · rw [e3, sI_get]
      by_cases q : a = 243 ∧ i ≤ b ∧ b < 7
      · rw [if_pos q]
        by_cases q2 : b = i
        · rw [if_neg (by omega), if_pos ⟨q.1, q2⟩]
        · rw [if_pos (by omega)]
      · rw [if_neg q, if_neg (by omega), if_neg (by omega)]
theorem r_isLaw_L27 (ok : v.OK) {h : Nat} (hh : h < v.H) {x2 x3 x4 x5 : Int32} : ∀ k n i (σ : St_), RV v σ → i + k = v.N → k < n → ∃ σ' : St_, (∀ k102 : St_ → Option (Bool × St_), mX12_isLawful_L27 233 (nI h) x2 x3 x4 x5 k102 n (nI i) σ = k102 σ') ∧ σ'.1 243 0 = σ.1 243 0 + sumI (fun x => if tb x2 x = true then v.sa h x else 0) i k ∧ σ'.1 243 1 = σ.1 243 1 + sumI (fun x => if tb x3 x = true then v.sa h x else 0) i k ∧ ∀ a b, ¬ (a = 243 ∧ b ≤ 1) → σ'.1 a b = σ.1 a b
  | 0, n, i, σ, hr, hi, hn => by
    have := ok.N
    obtain ⟨m, rfl, -⟩ := fu_suc hn
    refine ⟨σ, fun k102 => ?_, ?_, ?_, fun a b _ => rfl⟩
    · unfold mX12_isLawful_L27
      rw [hr.N, if_pos (nI_le (by omega) (by omega))]
    · unfold sumI; rw [Int32.add_zero]
    · unfold sumI; rw [Int32.add_zero]
  | k + 1, n, i, σ, hr, hi, hn => by
    have := ok.N
    obtain ⟨m, rfl, hm⟩ := fu_suc hn
    have e0 : ∀ (A B : Int32), ∃ σ' : St_, (∀ k102 : St_ → Option (Bool × St_), mX12_isLawful_L27 233 (nI h) x2 x3 x4 x5 k102 m (nI (i + 1)) (sI (sI σ 243 0 (σ.1 243 0 + A)) 243 1 (σ.1 243 1 + B)) = k102 σ') ∧ σ'.1 243 0 = (σ.1 243 0 + A) + sumI (fun x => if tb x2 x = true then v.sa h x else 0) (i + 1) k ∧ σ'.1 243 1 = (σ.1 243 1 + B) + sumI (fun x => if tb x3 x = true then v.sa h x else 0) (i + 1) k ∧ ∀ a b, ¬ (a = 243 ∧ b ≤ 1) → σ'.1 a b = σ.1 a b := by
      intro A B
      have hr2 : RV v (sI (sI σ 243 0 (σ.1 243 0 + A)) 243 1 (σ.1 243 1 + B)) := hr.fr (fun a k q => by rw [sI_get, sI_get, if_neg (by unfold FPr at q; omega), if_neg (by unfold FPr at q; omega)])
      obtain ⟨σ', s1, s2, s3, s4⟩ := r_isLaw_L27 ok hh (x2 := x2) (x3 := x3) (x4 := x4) (x5 := x5) k m (i + 1) _ hr2 (by omega) (by omega)
      refine ⟨σ', s1, ?_, ?_, fun a b q => ?_⟩
      · rw [s2]; simp [sI_get]
      · rw [s3]; simp [sI_get]
      · rw [s4 a b q, sI_get, sI_get, if_neg (by omega), if_neg (by omega)]
    obtain ⟨σ', s1, s2, s3, s4⟩ := e0 (if tb x2 i = true then v.sa h i else 0) (if tb x3 i = true then v.sa h i else 0)
    refine ⟨σ', fun k102 => ?_, ?_, ?_, s4⟩
    · have hr3 : ∀ A, RV v (sI σ 243 0 A) := fun A => hr.fr (fun a k q => by rw [sI_get, if_neg (by unfold FPr at q; omega)])
      have c0 : bin (0 : Int32) 7 = true := by decide
      have c1 : bin (1 : Int32) 7 = true := by decide
      have d0 : (0 : Int32).toNatClampNeg = 0 := rfl
      have d1 : (1 : Int32).toNatClampNeg = 1 := rfl
      have g1 : ∀ A, (sI σ 243 0 A).1 243 1 = σ.1 243 1 := fun A => by rw [sI_get, if_neg (by omega)]
      unfold mX12_isLawful_L27
      simp only [bnd_eq]
      rw [hr.N, if_neg (nI_ge (by omega) (by omega)), tb_get _ (by omega), tb_get _ (by omega), nI_1, c0, c1, d0, d1, show 233 + 10 = 243 from rfl, r_worthTo hr ok (by omega) hh]
      simp only [if_true, r_worthTo (hr3 _) ok (show i < v.N by omega) hh, obs_eq, g1]
      by_cases q : tb x2 i = true <;> by_cases q2 : tb x3 i = true <;> simp only [q, q2, if_true, if_false, z01, Bool.false_eq_true] at s1 ⊢ <;> exact s1 k102
    · rw [s2]
      conv => rhs; unfold sumI
      rw [Int32.add_assoc]
    · rw [s3]
      conv => rhs; unfold sumI
      rw [Int32.add_assoc]
theorem r_isLawful (hr : RV v σ) (ok : v.OK) {h : Nat} (hh : h < v.H) (tk lf hr' sk : Int32) : ∃ σ', mX12_isLawful 233 (nI h) tk lf hr' sk σ = some (aLaw v h tk lf hr' sk, σ') := by
  have oN := ok.N
  unfold mX12_isLawful
  obtain ⟨σ1, e1, e2⟩ := r_isLaw_L3 (x1 := nI h) (x2 := tk) (x3 := lf) (x4 := hr') (x5 := sk) 7 FU 0 σ (by omega) (by unfold FU; omega)
  have hr1 : RV v σ1 := hr.fr (fun a k q => by rw [e2, if_neg (by unfold FPr at q; omega)])
  obtain ⟨σ2, f1, f2, f3, f4⟩ := r_isLaw_L27 ok hh (x2 := tk) (x3 := lf) (x4 := hr') (x5 := sk) v.N FU 0 σ1 hr1 (by omega) (by unfold FU; omega)
  have hr2 : RV v σ2 := hr1.fr (fun a k q => by rw [f4 a k (by unfold FPr at q; omega)])
  have g0 : σ2.1 243 0 = aS v h tk := by rw [f2, e2, if_pos (by omega)]; exact Int32.zero_add _
  have g1 : σ2.1 243 1 = aS v h lf := by rw [f3, e2, if_pos (by omega)]; exact Int32.zero_add _
  have c0 : bin (0 : Int32) 7 = true := by decide
  have c1 : bin (1 : Int32) 7 = true := by decide
  have c2 : bin (2 : Int32) 7 = true := by decide
  have c3 : bin (3 : Int32) 7 = true := by decide
  have c4 : bin (4 : Int32) 7 = true := by decide
  have c5 : bin (5 : Int32) 7 = true := by decide
  have c6 : bin (6 : Int32) 7 = true := by decide
  have d0 : (0 : Int32).toNatClampNeg = 0 := rfl
  have d1 : (1 : Int32).toNatClampNeg = 1 := rfl
  have d2 : (2 : Int32).toNatClampNeg = 2 := rfl
  have d3 : (3 : Int32).toNatClampNeg = 3 := rfl
  have d4 : (4 : Int32).toNatClampNeg = 4 := rfl
  have d5 : (5 : Int32).toNatClampNeg = 5 := rfl
  have d6 : (6 : Int32).toNatClampNeg = 6 := rfl
  have e1' : ∀ k24 : St_ → Option (Bool × St_), mX12_isLawful_L3 233 (nI h) tk lf hr' sk k24 FU (0 : Int32) σ = k24 σ1 := e1
  have f1' : ∀ k102 : St_ → Option (Bool × St_), mX12_isLawful_L27 233 (nI h) tk lf hr' sk k102 FU (0 : Int32) σ1 = k102 σ2 := f1
  rw [e1', f1']
  simp only [bnd_eq]
  unfold aLaw lawEv
  cases hl : v.lw with
  | none =>
    rw [hr2.lw0 hl, if_pos rfl, c0, c1, d0, d1, show 233 + 10 = 243 from rfl, g0, g1, if_pos rfl]
    by_cases q : aS v h lf ≤ aS v h tk
    · exact ⟨σ2, by rw [if_pos rfl, if_pos q]; simp [Int32.not_lt.mpr q]⟩
    · exact ⟨σ2, by rw [if_pos rfl, if_neg q]; simp [Int32.not_le.mp q]⟩
  | some l =>
    obtain ⟨o1, o2, o3⟩ := ok.lw l hl
    obtain ⟨l1, l2, l3⟩ := hr2.lw1 l hl
    have hal : ∀ A B, RV v (sI (sI σ2 243 2 A) 243 3 B) := fun A B => hr2.fr (fun a k q => by rw [sI_get, sI_get, if_neg (by unfold FPr at q; omega), if_neg (by unfold FPr at q; omega)])
    obtain ⟨σ', s1⟩ := r_worked_L (asks := askF (aS v h tk) (aS v h lf) (mem tk) (mem lf) (aAl v tk lf) hr' sk) o2 l FU 0 0 (fun _ => 0) (sI (sI (sI (sI (sI σ2 243 2 (mem tk)) 243 3 (mem lf)) 243 4 (aAl v tk lf)) 243 5 hr') 243 6 sk) o3 (by omega) (by unfold FU; omega) (by omega) (by simp [sI_get, l2]) (by
        intro j q hq
        have := l3 j q hq
        simp only [sI_get]
        simpa using this) (by
        intro j hj
        have h7 : j = 0 ∨ j = 1 ∨ j = 2 ∨ j = 3 ∨ j = 4 ∨ j = 5 ∨ j = 6 := by omega
        rcases h7 with h | h | h | h | h | h | h <;> subst h <;> simp [sI_get, askF, g0, g1]) (by intro j hj; omega)
    rw [l1, if_neg (by decide)]
    simp only [r_members, obs_eq, c2, c3, c4, c5, c6, d2, d3, d4, d5, d6, if_true, show 233 + 10 = 243 from rfl, r_alike (hal _ _) ok]
    have s1' : mX12_worked 233 (sI (sI (sI (sI (sI σ2 243 2 (mem tk)) 243 3 (mem lf)) 243 4 (aAl v tk lf)) 243 5 hr') 243 6 sk) = some (runF (askF (aS v h tk) (aS v h lf) (mem tk) (mem lf) (aAl v tk lf) hr' sk) l (fun _ => 0) 0, σ') := by unfold mX12_worked; exact s1
    rw [s1']
    simp only [obs_eq]
    by_cases q : runF (askF (aS v h tk) (aS v h lf) (mem tk) (mem lf) (aAl v tk lf) hr' sk) l (fun _ => 0) 0 = 0
    · refine ⟨σ', ?_⟩
      simp [q]
    · refine ⟨σ', ?_⟩
      simp [q]
end LAWS2
