section ASK
variable {σ σ' : St_} {c dr s t th : Nat} {v u : Vw} {z : Sv}
def lawA (v : Vw) (h x a b w : Nat) : Bool := aLaw (v.say h x (nI w)) h (nI (2 ^ a)) (nI (2 ^ b)) 0 0
def ctA (v : Vw) (h x : Nat) (P : Nat → Bool) (a b w : Nat) : Nat := ((frm P 0 w).filter (lawA v h x a b)).length
theorem ctA_suc {h x a b w : Nat} {P : Nat → Bool} : ctA v h x P a b (w + 1) = ctA v h x P a b w + (if (P w && lawA v h x a b w) = true then 1 else 0) := by
  unfold ctA
  rw [frm_snoc, List.filter_append, List.length_append]
  congr 1
  cases q1 : P w
  · rfl
  · rw [if_pos rfl, Bool.true_and]
    cases q2 : lawA v h x a b w
    · simp [q2]
    · simp [q2]
theorem ctA_le {h x a b w : Nat} {P : Nat → Bool} : ctA v h x P a b w ≤ (frm P 0 w).length := List.length_filter_le _ _
def mxN (L n : Nat) : Nat := if L < n - L then n - L else L
theorem c_mx {L n : Nat} (h : L ≤ n) (hn : n ≤ 100) : (if nI L < nI n - nI L then nI n - nI L else nI L) = nI (mxN L n) := by
  rw [nI_sub h]
  unfold mxN
  by_cases q : L < n - L
  · rw [if_pos (nI_lt q (by omega)), if_pos q]
  · rw [if_neg (nI_nlt (by omega) (by omega)), if_neg q]
theorem r_mx {L n : Nat} (h : L ≤ n) (hn : n ≤ 100) : (if nI L ≤ nI n - nI L then nI n - nI L else nI L) = nI (mxN L n) := by
  rw [nI_sub h]
  unfold mxN
  by_cases q : L < n - L
  · rw [if_pos (nI_le (by omega) (by omega)), if_pos q]
  · rw [if_neg q]
    by_cases q2 : L ≤ n - L
    · rw [if_pos (nI_le q2 (by omega)), show n - L = L by omega]
    · rw [if_neg (nI_ge (by omega) (by omega))]
theorem mxN_le {L n : Nat} (h : L ≤ n) : mxN L n ≤ n := by
  unfold mxN
  by_cases q : L < n - L
  · rw [if_pos q]; omega
  · rw [if_neg q]; omega
theorem lawEv_say {f : Nat → Nat → Int32} {p1 p2 p3 p4 p5 p6 p7 : Int32} : lawEv (v.sayF f) p1 p2 p3 p4 p5 p6 p7 = lawEv v p1 p2 p3 p4 p5 p6 p7 := rfl
theorem lawA_c (ok : v.OK) {h x a b : Nat} (ha : a < v.N) (hb : b < v.N) (hax : ¬ a = x) (hbx : ¬ b = x) (w : Nat) : lawA v h x a b w = lawA v h x a b 0 := by
  have e : ∀ w, lawA v h x a b w = lawEv v (v.sa h a) (v.sa h b) 1 1 (if v.kd b = v.kd a then 1 else 0) 0 0 := by
    intro w
    have := aLaw_ps (v := v.say h x (nI w)) (say_ok ok h x (nI w)) (h := h) (x := a) (hi := b) (lo := none) ha hb (fun z hz => by cases hz) 0 0
    have e1 : (v.say h x (nI w)).sa h a = v.sa h a := by
      show (if h = h ∧ a = x then nI w else v.sa h a) = _
      rw [if_neg (fun e => hax e.2)]
    have e2 : (v.say h x (nI w)).sa h b = v.sa h b := by
      show (if h = h ∧ b = x then nI w else v.sa h b) = _
      rw [if_neg (fun e => hbx e.2)]
    rw [e1, e2] at this
    exact this
  rw [e w, e 0]
theorem stay_c (ok : v.OK) {h x a b : Nat} {P : Nat → Bool} (ha : a < v.N) (hb : b < v.N) (hax : ¬ a = x) (hbx : ¬ b = x) : mxN (ctA v h x P a b 100) (frm P 0 100).length = (frm P 0 100).length := by
  have hf : ctA v h x P a b 100 = if lawA v h x a b 0 = true then (frm P 0 100).length else 0 := by
    unfold ctA
    by_cases q : lawA v h x a b 0 = true
    · rw [if_pos q, List.filter_eq_self.mpr (fun w _ => by rw [lawA_c ok ha hb hax hbx w]; exact q)]
    · rw [if_neg q, List.filter_eq_nil_iff.mpr (fun w _ => by rw [lawA_c ok ha hb hax hbx w]; exact q)]
      rfl
  rw [hf]
  unfold mxN
  by_cases q : lawA v h x a b 0 = true
  · rw [if_pos q, if_neg (by omega)]
  · rw [if_neg q]
    by_cases q2 : 0 < (frm P 0 100).length - 0
    · rw [if_pos q2]; omega
    · rw [if_neg q2]; omega
theorem c_most_L23 (ok : v.OK) (hcc : c = 12 ∨ c = 28) {h x a b : Nat} (hh : h < v.H) (hx : x < v.N) (ha : a < v.N) (hb : b < v.N) {P : Nat → Bool} {k79 : Int32 → St_ → Option (Int32 × St_)} : ∀ k m w (y : Int32) (σ : St_), CV c (v.say h x y) σ → (∀ j, j < 100 → σ.1 182 j = b2i (P j)) → w + k = 100 → k < m → ∃ σ' y', mX5_mostLeft_L23 174 c (nI h) (nI x) (nI a) (nI b) k79 m (nI (ctA v h x P a b w)) (nI w) σ = k79 (nI (ctA v h x P a b 100)) σ' ∧ CV c (v.say h x y') σ' ∧ ∀ a j, ¬ (a = c + 14 ∨ a = c + 15 ∨ (a = c + 9 ∧ j = 10 * h + x)) → σ'.1 a j = σ.1 a j
  | 0, m, w, y, σ, hc, hF, hw, hm => by
    obtain ⟨m, rfl, -⟩ := fu_suc hm
    have hw' : w = 100 := by omega
    subst hw'
    refine ⟨σ, y, ?_, hc, fun a j _ => rfl⟩
    unfold mX5_mostLeft_L23
    rw [if_pos (by decide)]
  | k + 1, m, w, y, σ, hc, hF, hw, hm => by
    obtain ⟨m, rfl, hm⟩ := fu_suc hm
    have bw : bin (nI w) 100 = true := binn (by omega) (by omega)
    have cw : (nI w).toNatClampNeg = w := pn_cl (by omega)
    have cs := ctA_suc (v := v) (h := h) (x := x) (a := a) (b := b) (w := w) (P := P)
    unfold mX5_mostLeft_L23
    simp only [bnd_eq]
    rw [if_neg (show ¬ (100 : Int32) ≤ nI w from nI_ge (b := 100) (by omega) (by omega)), bw, if_pos rfl, cw, show 174 + 8 = 182 from rfl, hF w (by omega), if_pos (isBb _).1, (isBb _).2]
    simp only [nI_1]
    cases q : P w
    · have cs0 : ctA v h x P a b (w + 1) = ctA v h x P a b w := by rw [cs, q]; rfl
      rw [if_neg (show ¬ false = true by simp), ← cs0]
      exact c_most_L23 ok hcc hh hx ha hb k m (w + 1) y σ hc hF (by omega) (by omega)
    · obtain ⟨σ1, s1, s2, s3⟩ := c_say ok hh hx hc (nI w)
      have l0 : ∃ σ2, mX1_isLawfulFor c (nI h) (nI a) (nI b) (-1) 0 0 σ1 = some (lawA v h x a b w, σ2) := c_isLawfulFor s2 (say_ok ok h x (nI w)) (lo := none) hh ha hb (fun z hz => by cases hz) 0 0
      obtain ⟨σ2, l1⟩ := l0
      have F2 : ∀ a k, ¬ (a = c + 14 ∨ a = c + 15) → σ2.1 a k = σ1.1 a k := fun a k hn => (fX1_isLawfulFor _ _ _ _ _ _ _ _ _ l1 a k (by unfold MOD_X1_isLawfulFor; omega)).1
      rw [if_pos rfl, s1, obs_eq, l1, obs_eq]
      have go := c_most_L23 ok hcc hh hx ha hb (k79 := k79) k m (w + 1) (nI w) σ2 (s2.fr (fun a k q => F2 a k (by unfold FPc at q; omega))) (fun j hj => by rw [F2 _ _ (by omega), s3 _ _ (by omega)]; exact hF j hj) (by omega) (by omega)
      obtain ⟨σ', y', e1, e2, e3⟩ := go
      refine ⟨σ', y', ?_, e2, fun a j hn => by rw [e3 a j hn, F2 a j (by omega), s3 a j (by omega)]⟩
      cases q2 : lawA v h x a b w
      · have cs0 : ctA v h x P a b (w + 1) = ctA v h x P a b w := by rw [cs, q, q2]; rfl
        rw [cs0] at e1
        rw [if_neg (show ¬ false = true by simp), show b2i false = (0 : Int32) from rfl, Int32.add_zero]
        exact e1
      · have cs1 : ctA v h x P a b (w + 1) = ctA v h x P a b w + 1 := by rw [cs, q, q2]; rfl
        rw [cs1] at e1
        rw [if_pos rfl, show b2i true = (1 : Int32) from rfl, nI_1]
        exact e1
/-- how many are left at the most -/
def stay (v : Vw) (h x : Nat) (P : Nat → Bool) (a b : Nat) : Nat := mxN (ctA v h x P a b 100) (frm P 0 100).length
theorem stay_le {h x a b : Nat} {P : Nat → Bool} : stay v h x P a b ≤ 100 := by
  have h1 : (frm P 0 100).length ≤ 100 := frm_len 100 0
  have h2 := mxN_le (ctA_le (v := v) (h := h) (x := x) (P := P) (a := a) (b := b) (w := 100))
  unfold stay
  omega
theorem c_most (hc : CV c v σ) (ok : v.OK) (hcc : c = 12 ∨ c = 28) {h x a b : Nat} (hh : h < v.H) (hx : x < v.N) (ha : a < v.N) (hb : b < v.N) (hT : v.sa h x = v.va h x) {P : Nat → Bool} (hF : ∀ j, j < 100 → σ.1 182 j = b2i (P j)) (h9 : σ.1 174 9 = nI (frm P 0 100).length) : ∃ σ', mX5_mostLeft 174 c (nI h) (nI x) (nI a) (nI b) σ = some (nI (stay v h x P a b), σ') ∧ CV c v σ' ∧ ∀ a j, ¬ (a = c + 14 ∨ a = c + 15 ∨ (a = c + 9 ∧ j = 10 * h + x)) → σ'.1 a j = σ.1 a j := by
  have oN := ok.N
  have hl : (frm P 0 100).length ≤ 100 := frm_len 100 0
  obtain ⟨A, y, a1, a2, a3⟩ := c_most_L23 ok hcc hh hx ha hb (P := P) (k79 := (fun (y14 : Int32) (σ15 : St_) => ((mX1_sayTruth c (nI h) (nI x) σ15).bind fun σ16 => (some (if y14 < ((σ16.1 174 9) - y14) then ((σ16.1 174 9) - y14) else y14, σ16))))) 100 FU 0 (v.sa h x) σ (say_cv0 hc h x) hF (by omega) (by unfold FU; omega)
  have z1 : nI (ctA v h x P a b 0) = (0 : Int32) := rfl
  rw [z1, show nI 0 = (0 : Int32) from rfl] at a1
  obtain ⟨B, b1, b2, b3⟩ := c_sayTruth ok hh hx hT a2
  have B9 : B.1 174 9 = nI (frm P 0 100).length := by rw [b3 _ _ (by omega), a3 _ _ (by omega)]; exact h9
  have main : mX5_mostLeft_L23 174 c (nI h) (nI x) (nI a) (nI b) (fun (y14 : Int32) (σ15 : St_) => ((mX1_sayTruth c (nI h) (nI x) σ15).bind fun σ16 => (some (if y14 < ((σ16.1 174 9) - y14) then ((σ16.1 174 9) - y14) else y14, σ16)))) FU 0 0 σ = some (nI (stay v h x P a b), B) := by
    refine Eq.trans a1 ?_
    try dsimp only
    rw [b1, obs_eq, B9, c_mx ctA_le hl]
    rfl
  unfold mX5_mostLeft
  simp only [bnd_eq]
  rw [main]
  by_cases q1 : a = x
  · rw [if_pos (show nI a = nI x by rw [q1])]
    exact ⟨B, rfl, b2, fun a j hn => by rw [b3 a j (by omega), a3 a j hn]⟩
  · rw [if_neg (fun w => q1 ((nI_eq (by omega) (by omega)).mp w))]
    by_cases q2 : b = x
    · rw [if_pos (show nI b = nI x by rw [q2])]
      exact ⟨B, rfl, b2, fun a j hn => by rw [b3 a j (by omega), a3 a j hn]⟩
    · rw [if_neg (fun w => q2 ((nI_eq (by omega) (by omega)).mp w)), h9]
      refine ⟨σ, ?_, hc, fun a j _ => rfl⟩
      unfold stay
      rw [stay_c ok ha hb q1 q2]
/-- the question so far: taken, left, how many stay -/
def stp (st : Option (Nat × Nat × Nat)) (a b s : Nat) : Option (Nat × Nat × Nat) := match st with
  | none => some (a, b, s)
  | some q => if q.2.2 ≤ s then some q else some (a, b, s)
def asB (S : Nat → Nat → Nat) (a : Nat) : Nat → Nat → Option (Nat × Nat × Nat) → Option (Nat × Nat × Nat)
  | 0, _, st => st
  | k + 1, b, st => asB S a k (b + 1) (if a = b then st else stp st a b (S a b))
def asA (S : Nat → Nat → Nat) (N : Nat) : Nat → Nat → Option (Nat × Nat × Nat) → Option (Nat × Nat × Nat)
  | 0, _, st => st
  | k + 1, a, st => asA S N k (a + 1) (asB S a N 0 st)
def okT (st : Option (Nat × Nat × Nat)) : Prop := ∀ q, st = some q → q.1 < 10 ∧ q.2.1 < 10 ∧ q.2.2 ≤ 100
theorem stp_ok {st : Option (Nat × Nat × Nat)} {a b s : Nat} (h : okT st) (ha : a < 10) (hb : b < 10) (hs : s ≤ 100) : okT (stp st a b s) := by
  intro q hq
  cases st with
  | none =>
    have hq2 : some (a, b, s) = some q := hq
    injection hq2 with e
    rw [← e]
    exact ⟨ha, hb, hs⟩
  | some p =>
    unfold stp at hq
    by_cases w : p.2.2 ≤ s
    · simp only [if_pos w] at hq
      exact h q hq
    · simp only [if_neg w] at hq
      injection hq with e
      rw [← e]
      exact ⟨ha, hb, hs⟩
theorem stp_some {st : Option (Nat × Nat × Nat)} {a b s : Nat} : stp st a b s ≠ none := by
  cases st with
  | none => intro h; cases h
  | some p =>
    unfold stp
    by_cases w : p.2.2 ≤ s
    · simp only [if_pos w]; intro h; cases h
    · simp only [if_neg w]; intro h; cases h
theorem asB_some {S : Nat → Nat → Nat} {a : Nat} : ∀ (k b : Nat) (st : Option (Nat × Nat × Nat)), st ≠ none → asB S a k b st ≠ none
  | 0, _, _, h => h
  | k + 1, b, st, h => by
    unfold asB
    apply asB_some k (b + 1)
    by_cases q : a = b
    · rw [if_pos q]; exact h
    · rw [if_neg q]; exact stp_some
theorem asA_some {S : Nat → Nat → Nat} {N : Nat} : ∀ (k a : Nat) (st : Option (Nat × Nat × Nat)), st ≠ none → asA S N k a st ≠ none
  | 0, _, _, h => h
  | k + 1, a, st, h => by
    unfold asA
    exact asA_some k (a + 1) _ (asB_some N 0 st h)
theorem ask_some {S : Nat → Nat → Nat} {N : Nat} (hN : 2 ≤ N) : asA S N N 0 none ≠ none := by
  obtain ⟨m, rfl⟩ : ∃ m, N = m + 2 := ⟨N - 2, by omega⟩
  have : asA S (m + 2) (m + 2) 0 none = asA S (m + 2) (m + 1) 1 (asB S 0 m 2 (stp none 0 1 (S 0 1))) := rfl
  rw [this]
  exact asA_some _ _ _ (asB_some _ _ _ stp_some)
def AskC (st : Option (Nat × Nat × Nat)) (σ : St_) : Prop := match st with
  | none => σ.1 174 12 = -1
  | some q => σ.1 174 12 = nI q.1 ∧ σ.1 174 13 = nI q.2.1 ∧ σ.1 174 14 = nI q.2.2
theorem AskC.fr {st : Option (Nat × Nat × Nat)} (h : AskC st σ) (e : ∀ j, σ'.1 174 j = σ.1 174 j) : AskC st σ' := by
  cases st with
  | none => show σ'.1 174 12 = -1; rw [e]; exact h
  | some q => exact ⟨by rw [e]; exact h.1, by rw [e]; exact h.2.1, by rw [e]; exact h.2.2⟩
theorem c_q_L20 (ok : v.OK) (hcc : c = 12 ∨ c = 28) {h x a : Nat} (hh : h < v.H) (hx : x < v.N) (ha : a < v.N) (hT : v.sa h x = v.va h x) {P : Nat → Bool} {k93 : St_ → Option St_} : ∀ k m b (st : Option (Nat × Nat × Nat)) (σ : St_), CV c v σ → (∀ j, j < 100 → σ.1 182 j = b2i (P j)) → σ.1 174 9 = nI (frm P 0 100).length → AskC st σ → okT st → b + k = v.N → k < m → ∃ σ', mX5_findQuestion_L20 174 c (nI h) (nI x) (nI a) k93 m (nI b) σ = k93 σ' ∧ CV c v σ' ∧ AskC (asB (stay v h x P) a k b st) σ' ∧ okT (asB (stay v h x P) a k b st) ∧ ∀ a j, ¬ (a = c + 14 ∨ a = c + 15 ∨ (a = c + 9 ∧ j = 10 * h + x) ∨ (a = 174 ∧ 12 ≤ j)) → σ'.1 a j = σ.1 a j
  | 0, m, b, st, σ, hc, hF, h9, hA, hok, hb, hm => by
    have := ok.N
    obtain ⟨m, rfl, -⟩ := fu_suc hm
    refine ⟨σ, ?_, hc, hA, hok, fun a j _ => rfl⟩
    unfold mX5_findQuestion_L20
    rw [hc.N, if_pos (nI_le (by omega) (by omega))]
  | k + 1, m, b, st, σ, hc, hF, h9, hA, hok, hb, hm => by
    have oN := ok.N
    obtain ⟨m, rfl, hm⟩ := fu_suc hm
    have go := fun st' σ' h1 h2 h3 h4 h5 => c_q_L20 ok hcc hh hx ha hT (P := P) (k93 := k93) k m (b + 1) st' σ' h1 h2 h3 h4 h5 (by omega) (by omega)
    unfold mX5_findQuestion_L20
    simp only [bnd_eq]
    rw [hc.N, if_neg (nI_ge (by omega) (by omega))]
    simp only [nI_1]
    unfold asB
    by_cases q : a = b
    · rw [if_pos (show nI a = nI b by rw [q]), if_pos q]
      exact go st σ hc hF h9 hA hok
    · rw [if_neg (fun w => q ((nI_eq (by omega) (by omega)).mp w)), if_neg q]
      obtain ⟨A, a1, a2, a3⟩ := c_most hc ok hcc hh hx ha (show b < v.N by omega) hT hF h9
      have sl : stay v h x P a b ≤ 100 := stay_le
      rw [a1, obs_eq]
      have A174 : ∀ j, A.1 174 j = σ.1 174 j := fun j => a3 _ _ (by omega)
      have hAA : AskC st A := hA.fr A174
      have hFA : ∀ j, j < 100 → A.1 182 j = b2i (P j) := fun j hj => by rw [a3 _ _ (by omega)]; exact hF j hj
      have W : ∀ a j, ¬ (a = 174 ∧ 12 ≤ j) → (sI (sI (sI A 174 12 (nI a)) 174 13 (nI b)) 174 14 (nI (stay v h x P a b))).1 a j = A.1 a j := fun a j hn => by rw [sI_get, if_neg (by omega), sI_get, if_neg (by omega), sI_get, if_neg (by omega)]
      have W2 : ∀ e j, ¬ (e = 174 ∧ 12 ≤ j) → (sI (sI (sI A 174 12 (nI a)) 174 13 (nI b)) 174 14 (nI (stay v h x P a b))).1 e j = A.1 e j := fun e j hn => by rw [sI_get, if_neg (by omega), sI_get, if_neg (by omega), sI_get, if_neg (by omega)]
      have take : stp st a b (stay v h x P a b) = some (a, b, stay v h x P a b) → ∃ σ', mX5_findQuestion_L20 174 c (nI h) (nI x) (nI a) k93 m (nI (b + 1)) (sI (sI (sI A 174 12 (nI a)) 174 13 (nI b)) 174 14 (nI (stay v h x P a b))) = k93 σ' ∧ CV c v σ' ∧ AskC (asB (stay v h x P) a k (b + 1) (stp st a b (stay v h x P a b))) σ' ∧ okT (asB (stay v h x P) a k (b + 1) (stp st a b (stay v h x P a b))) ∧ ∀ a j, ¬ (a = c + 14 ∨ a = c + 15 ∨ (a = c + 9 ∧ j = 10 * h + x) ∨ (a = 174 ∧ 12 ≤ j)) → σ'.1 a j = σ.1 a j := by
        intro e
        obtain ⟨σ', e1, e2, e3, e4, e5⟩ := go (stp st a b (stay v h x P a b)) _ (a2.fr (fun a k q => W2 a k (by unfold FPc at q; omega))) (fun j hj => by rw [W2 _ _ (by omega)]; exact hFA j hj) (by rw [W2 _ _ (by omega), A174]; exact h9) (by rw [e]; exact ⟨by simp [sI_get], by simp [sI_get], by simp [sI_get]⟩) (stp_ok hok (by omega) (by omega) sl)
        exact ⟨σ', e1, e2, e3, e4, fun a j hn => by rw [e5 a j hn, W2 a j (by omega), a3 a j (by omega)]⟩
      cases st with
      | none =>
        have t12 : A.1 174 12 = -1 := hAA
        rw [if_pos t12]
        exact take rfl
      | some p =>
        obtain ⟨t12, t13, t14⟩ := hAA
        obtain ⟨p1, p2, p3⟩ := hok p rfl
        rw [t12, if_neg (nI_nm1 (by omega)), t14]
        by_cases w : p.2.2 ≤ stay v h x P a b
        · have e : stp (some p) a b (stay v h x P a b) = some p := by unfold stp; simp only [if_pos w]
          rw [if_pos (nI_le w (by omega)), e]
          obtain ⟨σ', e1, e2, e3, e4, e5⟩ := go (some p) A a2 hFA (by rw [A174]; exact h9) ⟨t12, t13, t14⟩ hok
          exact ⟨σ', e1, e2, e3, e4, fun a j hn => by rw [e5 a j hn, a3 a j (by omega)]⟩
        · have e : stp (some p) a b (stay v h x P a b) = some (a, b, stay v h x P a b) := by unfold stp; simp only [if_neg w]
          rw [if_neg (nI_ge (by omega) (by omega))]
          exact take e
theorem c_q_L8 (ok : v.OK) (hcc : c = 12 ∨ c = 28) {h x : Nat} (hh : h < v.H) (hx : x < v.N) (hT : v.sa h x = v.va h x) {P : Nat → Bool} : ∀ k m a (st : Option (Nat × Nat × Nat)) (σ : St_), CV c v σ → (∀ j, j < 100 → σ.1 182 j = b2i (P j)) → σ.1 174 9 = nI (frm P 0 100).length → AskC st σ → okT st → a + k = v.N → k < m → ∃ σ', mX5_findQuestion_L8 174 c (nI h) (nI x) m (nI a) σ = some σ' ∧ CV c v σ' ∧ AskC (asA (stay v h x P) v.N k a st) σ' ∧ okT (asA (stay v h x P) v.N k a st) ∧ ∀ a j, ¬ (a = c + 14 ∨ a = c + 15 ∨ (a = c + 9 ∧ j = 10 * h + x) ∨ (a = 174 ∧ 12 ≤ j)) → σ'.1 a j = σ.1 a j
  | 0, m, a, st, σ, hc, hF, h9, hA, hok, ha, hm => by
    have := ok.N
    obtain ⟨m, rfl, -⟩ := fu_suc hm
    refine ⟨σ, ?_, hc, hA, hok, fun a j _ => rfl⟩
    unfold mX5_findQuestion_L8
    rw [hc.N, if_pos (nI_le (by omega) (by omega))]
  | k + 1, m, a, st, σ, hc, hF, h9, hA, hok, ha, hm => by
    have oN := ok.N
    obtain ⟨m, rfl, hm⟩ := fu_suc hm
    obtain ⟨A, a1, a2, a3, a4, a5⟩ := c_q_L20 ok hcc hh hx (show a < v.N by omega) hT (P := P) (k93 := fun σ11 => mX5_findQuestion_L8 174 c (nI h) (nI x) m (nI (a + 1)) σ11) v.N FU 0 st σ hc hF h9 hA hok (by omega) (by unfold FU; omega)
    rw [show nI 0 = (0 : Int32) from rfl] at a1
    obtain ⟨σ', e1, e2, e3, e4, e5⟩ := c_q_L8 ok hcc hh hx hT (P := P) k m (a + 1) (asB (stay v h x P) a v.N 0 st) A a2 (fun j hj => by rw [a5 _ _ (by omega)]; exact hF j hj) (by rw [a5 _ _ (by omega)]; exact h9) a3 a4 (by omega) (by omega)
    refine ⟨σ', ?_, e2, e3, e4, fun a j hn => by rw [e5 a j hn, a5 a j hn]⟩
    unfold mX5_findQuestion_L8
    rw [hc.N, if_neg (nI_ge (by omega) (by omega)), nI_1]
    exact a1.trans e1
end ASK
