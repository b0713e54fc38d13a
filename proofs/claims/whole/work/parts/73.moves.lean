/-! an HOUR goes by, THINGS move -/
section MOVES
variable {σ σ' τ : St_} {c s : Nat} {v : Vw} {z : Sv}
def svK (w : Nat → Nat) (h : Nat) (j : Int32) : Sv := (w, h, j)
theorem svK_wh (w : Nat → Nat) (h : Nat) (j : Int32) : (svK w h j).wh = w := rfl
theorem svK_hr (w : Nat → Nat) (h : Nat) (j : Int32) : (svK w h j).hr = h := rfl
theorem svK_jl (w : Nat → Nat) (h : Nat) (j : Int32) : (svK w h j).jl = j := rfl
def Sv.tick (v : Vw) (z : Sv) : Sv := if z.hr + 1 < v.R then svK z.wh (z.hr + 1) z.jl else svK z.wh 0 0
theorem tick_wh : (z.tick v).wh = z.wh := by
  unfold Sv.tick
  by_cases q : z.hr + 1 < v.R
  · rw [if_pos q]; rfl
  · rw [if_neg q]; rfl
theorem tick_hset (h : Nat) : hset v (z.tick v) h = hset v z h := by
  unfold hset
  rw [tick_wh]
theorem tick_OK (ok : v.OK) (hz : Sv.OK v z) : Sv.OK v (z.tick v) := by
  have := ok.R0
  refine ⟨fun x hx => ?_, ?_⟩
  · rw [tick_wh]; exact hz.wh x hx
  · unfold Sv.tick
    by_cases q : z.hr + 1 < v.R
    · rw [if_pos q]; exact q
    · rw [if_neg q]; show 0 < v.R; omega
theorem c_pass (ok : v.OK) (hz : Sv.OK v z) (hs : CS v s z σ) : ∃ σ', mX8_passHour s (nI v.R) σ = some σ' ∧ CS v s (z.tick v) σ' ∧ σ'.1 s 2 = (if z.hr + 1 < v.R then σ.1 s 2 else σ.1 s 2 + 1) ∧ ∀ a k, ¬ (a = s ∧ 2 ≤ k ∧ k ≤ 4) → σ'.1 a k = σ.1 a k := by
  have h9 := ok.R
  have hr := hz.hr
  unfold mX8_passHour
  dsimp only [bnd]
  have g : (sI σ s 3 (σ.1 s 3 + 1)).1 s 3 = nI (z.hr + 1) := by rw [sI_get, if_pos ⟨rfl, rfl⟩, hs.hr, nI_1]
  rw [g]
  by_cases q : z.hr + 1 < v.R
  · rw [if_pos (nI_lt q (by omega)), if_pos q]
    refine ⟨_, rfl, ⟨fun h hh => ?_, ?_, ?_⟩, ?_, fun a k hn => ?_⟩
    · rw [tick_hset, sI_get, if_neg (by omega)]; exact hs.held h hh
    · rw [g]; unfold Sv.tick; rw [if_pos q]; rfl
    · rw [sI_get, if_neg (by omega), hs.jl]; unfold Sv.tick; rw [if_pos q]; rfl
    · rw [sI_get, if_neg (by omega)]
    · rw [sI_get, if_neg (by omega)]
  · rw [if_neg (nI_nlt (by omega) (by omega)), if_neg q]
    refine ⟨_, rfl, ⟨fun h hh => ?_, ?_, ?_⟩, ?_, fun a k hn => ?_⟩
    · rw [tick_hset]
      simp only [sI_get]
      rw [if_neg (by omega), if_neg (by omega), if_neg (by omega), if_neg (by omega)]; exact hs.held h hh
    · simp only [sI_get]
      unfold Sv.tick; rw [if_neg q]; simp; rfl
    · simp only [sI_get]
      unfold Sv.tick; rw [if_neg q]; simp; rfl
    · simp [sI_get]
    · simp only [sI_get]
      rw [if_neg (by omega), if_neg (by omega), if_neg (by omega), if_neg (by omega)]
theorem r_tick (hr : RV v σ) (ok : v.OK) (hz : Sv.OK v z) (hw : RW v z σ) : ∃ σ', mX12_tick 233 σ = some σ' ∧ RW v (z.tick v) σ' ∧ ∀ a k, ¬ (a = 233 ∧ (k = 62 ∨ k = 63)) → σ'.1 a k = σ.1 a k := by
  have h9 := ok.R
  have h1 := hz.hr
  unfold mX12_tick
  dsimp only [bnd]
  have g : (sI σ 233 62 (σ.1 233 62 + 1)).1 233 62 = nI (z.hr + 1) := by rw [sI_get, if_pos ⟨rfl, rfl⟩, hw.hr, nI_1]
  have g2 : (sI σ 233 62 (σ.1 233 62 + 1)).1 233 55 = nI v.R := by rw [sI_get, if_neg (by omega)]; exact hr.R
  rw [g, g2]
  by_cases q : z.hr + 1 < v.R
  · rw [if_neg (nI_ge q (by omega))]
    refine ⟨_, rfl, ⟨fun x hx => ?_, fun x h1 h2 => ?_, ?_, ?_⟩, fun a k hn => ?_⟩
    · rw [tick_wh, sI_get, if_neg (by omega)]; exact hw.wh x hx
    · rw [sI_get, if_neg (by omega)]; exact hw.no x h1 h2
    · rw [g]; unfold Sv.tick; rw [if_pos q]; rfl
    · rw [sI_get, if_neg (by omega), hw.jl]; unfold Sv.tick; rw [if_pos q]; rfl
    · rw [sI_get, if_neg (by omega)]
  · rw [if_pos (nI_le (by omega) (by omega))]
    refine ⟨_, rfl, ⟨fun x hx => ?_, fun x h1 h2 => ?_, ?_, ?_⟩, fun a k hn => ?_⟩
    · rw [tick_wh]
      simp only [sI_get]
      rw [if_neg (by omega), if_neg (by omega), if_neg (by omega)]; exact hw.wh x hx
    · simp only [sI_get]
      rw [if_neg (by omega), if_neg (by omega), if_neg (by omega)]; exact hw.no x h1 h2
    · simp only [sI_get]
      unfold Sv.tick; rw [if_neg q]; simp; rfl
    · simp only [sI_get]
      unfold Sv.tick; rw [if_neg q]; simp; rfl
    · simp only [sI_get]
      rw [if_neg (by omega), if_neg (by omega), if_neg (by omega)]
theorem r_keep_L24 {k48 : St_ → Option St_} : ∀ k n i (σ : St_), i + k = 10 → k < n → ∃ σ' : St_, mX12_keepOn_L24 233 k48 n (nI i) σ = k48 σ' ∧ ∀ a b, σ'.1 a b = if a = 262 ∧ i ≤ b ∧ b < 10 then σ.1 263 b else σ.1 a b
  | 0, n, i, σ, hi, hn => by
    obtain ⟨m, rfl, -⟩ := fu_suc hn
    refine ⟨σ, ?_, fun a b => by rw [if_neg (by omega)]⟩
    unfold mX12_keepOn_L24
    rw [show (10 : Int32) = nI 10 from rfl, if_pos (nI_le (by omega) (by omega))]
  | k + 1, n, i, σ, hi, hn => by
    obtain ⟨m, rfl, hm⟩ := fu_suc hn
    obtain ⟨σ', e1, e3⟩ := r_keep_L24 (k48 := k48) k m (i + 1) (sI σ 262 i (σ.1 263 i)) (by omega) (by omega)
    refine ⟨σ', ?_, fun a b => ?_⟩
    · unfold mX12_keepOn_L24
      dsimp only [bnd]
      rw [show (10 : Int32) = nI 10 from rfl, if_neg (nI_ge (by omega) (by omega)), binn (show i < 10 by omega) (by omega), binn (show i < 20 by omega) (by omega), pn_cl (by omega), nI_1]
      exact e1
    · rw [e3, sI_get, sI_get, if_neg (show ¬ (263 = 262 ∧ b = i) by omega)]
      by_cases q : a = 262 ∧ i ≤ b ∧ b < 10
      · rw [if_pos q]
        by_cases q2 : b = i
        · rw [if_neg (by omega), if_pos ⟨q.1, q2⟩, q2]
        · rw [if_pos (by omega)]
      · rw [if_neg q, if_neg (by omega), if_neg (by omega)]
theorem r_keepOn (hr : RV v σ) (ok : v.OK) (hz : Sv.OK v z) (hw : RW v z σ) : ∃ σ', mX12_keepOn 233 σ = some σ' ∧ RN v 262 0 (z.tick v) σ' ∧ RW v (z.tick v) σ' ∧ σ'.1 262 10 = (if z.hr + 1 < v.R then σ.1 262 10 else σ.1 262 10 + 1) ∧ ∀ a k, ¬ (a = 233 ∧ (k = 62 ∨ k = 63)) → ¬ (a = 262 ∧ k ≤ 12) → σ'.1 a k = σ.1 a k := by
  have oN := ok.N
  have h1 := hz.hr
  have h9 := ok.R
  obtain ⟨σ1, t1, t2, t3⟩ := r_tick hr ok hz hw
  have c10 : bin (10 : Int32) 20 = true := by decide
  have c11 : bin (11 : Int32) 20 = true := by decide
  have c12 : bin (12 : Int32) 20 = true := by decide
  have d10 : (10 : Int32).toNatClampNeg = 10 := rfl
  have d11 : (11 : Int32).toNatClampNeg = 11 := rfl
  have d12 : (12 : Int32).toNatClampNeg = 12 := rfl
  -- behind the NIGHT
  have tail : ∀ ρ : St_, RW v (z.tick v) ρ → ∃ σ', (mX12_keepOn_L24 233 (fun (σ7 : St_) => (some (sI (sI σ7 262 11 (σ7.1 233 62)) 262 12 ((sI σ7 262 11 (σ7.1 233 62)).1 233 63)))) FU (0 : Int32) ρ) = some σ' ∧ RN v 262 0 (z.tick v) σ' ∧ RW v (z.tick v) σ' ∧ σ'.1 262 10 = ρ.1 262 10 ∧ ∀ a k, ¬ (a = 262 ∧ k ≤ 12) → σ'.1 a k = ρ.1 a k := by
    intro ρ hρ
    obtain ⟨σ2, u1, u2⟩ := r_keep_L24 (k48 := (fun (σ7 : St_) => (some (sI (sI σ7 262 11 (σ7.1 233 62)) 262 12 ((sI σ7 262 11 (σ7.1 233 62)).1 233 63))))) 10 FU 0 ρ (by omega) (by unfold FU; omega)
    have w1 : σ2.1 233 62 = nI (z.tick v).hr := by rw [u2, if_neg (by omega)]; exact hρ.hr
    have w2 : (sI σ2 262 11 (σ2.1 233 62)).1 233 63 = (z.tick v).jl := by rw [sI_get, if_neg (by omega), u2, if_neg (by omega)]; exact hρ.jl
    refine ⟨_, u1, ⟨fun x hx => ?_, fun x q1 q2 => ?_, ?_, ?_⟩, ?_, ?_, fun a k hn => ?_⟩
    · rw [Nat.zero_add, sI_get, if_neg (by omega), sI_get, if_neg (by omega), u2, if_pos (by omega)]; exact hρ.wh x hx
    · rw [Nat.zero_add, sI_get, if_neg (by omega), sI_get, if_neg (by omega), u2, if_pos (by omega)]; exact hρ.no x q1 q2
    · rw [Nat.zero_add, sI_get, if_neg (by omega), sI_get, if_pos ⟨rfl, rfl⟩, w1]
    · rw [Nat.zero_add, sI_get, if_pos ⟨rfl, rfl⟩, w2]
    · refine hρ.fr (fun a k q => ?_)
      rw [sI_get, if_neg (by omega), sI_get, if_neg (by omega), u2, if_neg (by omega)]
    · rw [sI_get, if_neg (by omega), sI_get, if_neg (by omega), u2, if_neg (by omega)]
    · rw [sI_get, if_neg (by omega), sI_get, if_neg (by omega), u2, if_neg (by omega)]
  unfold mX12_keepOn
  rw [t1]
  simp only [obs_eq, bnd_eq]
  rw [c10, c11, c12, d10, d11, d12, t2.hr, show 233 + 29 = 262 from rfl]
  simp only [if_true]
  by_cases q : z.hr + 1 < v.R
  · have e : (z.tick v).hr = z.hr + 1 := by unfold Sv.tick; rw [if_pos q]; rfl
    rw [e, if_neg (nI_ne0 (by omega) (by omega)), if_pos q]
    obtain ⟨σ', s1, s2, s3, s4, s5⟩ := tail σ1 t2
    refine ⟨σ', s1, s2, s3, by rw [s4]; exact t3 262 10 (by omega), fun a k n1 n2 => by rw [s5 a k n2]; exact t3 a k n1⟩
  · have e : (z.tick v).hr = 0 := by unfold Sv.tick; rw [if_neg q]; rfl
    rw [e, if_pos (show nI 0 = (0 : Int32) from rfl), if_neg q]
    obtain ⟨σ', s1, s2, s3, s4, s5⟩ := tail (sI σ1 262 10 (σ1.1 262 10 + 1)) (t2.fr (fun a k q => by rw [sI_get, if_neg (by omega)]))
    refine ⟨σ', s1, s2, s3, ?_, fun a k n1 n2 => ?_⟩
    · rw [s4, sI_get, if_pos ⟨rfl, rfl⟩, t3 262 10 (by omega)]
    · rw [s5 a k n2, sI_get, if_neg (by omega)]; exact t3 a k n1
/-- a THEFT done -/
def Sv.move (z : Sv) (t h : Nat) (tk lf : Int32) : Sv := svK (fun x => if tb lf x = true then h else if tb tk x = true then 5 + t else z.wh x) z.hr z.jl
theorem move_wh (t h : Nat) (tk lf : Int32) (x : Nat) : (z.move t h tk lf).wh x = if tb lf x = true then h else if tb tk x = true then 5 + t else z.wh x := rfl
theorem move_OK (hz : Sv.OK v z) {t h : Nat} (ht : t < v.T) (hh : h < v.H) (tk lf : Int32) : Sv.OK v (z.move t h tk lf) := by
  refine ⟨fun x hx => ?_, hz.hr⟩
  rw [move_wh]
  by_cases q1 : tb lf x = true
  · rw [if_pos q1]; exact Or.inl hh
  · rw [if_neg q1]
    by_cases q2 : tb tk x = true
    · rw [if_pos q2]; exact Or.inr (Or.inl ⟨by omega, by omega⟩)
    · rw [if_neg q2]; exact hz.wh x hx
/-- a set of what a HOLDER has -/
def subS (v : Vw) (z : Sv) (h : Nat) (s : Int32) : Prop := ∀ x, tb s x = true → x < v.N ∧ z.wh x = h
theorem subS_hset (ok : v.OK) {h : Nat} : subS v z h (hset v z h) := by
  intro x hx
  rw [tb_hset ok] at hx
  simpa using hx
theorem subS_of (ok : v.OK) {h : Nat} {s : Int32} (e : s &&& (hset v z h ^^^ (-1)) = 0) : subS v z h s := by
  intro x hx
  have h32 : x < 32 := by
    by_cases q : x < 32
    · exact q
    · rw [tb_big (by omega)] at hx; cases hx
  have := congrArg (fun w => tb w x) e
  simp only [tb_and, tb_xor, tb_0, tb_m1 h32, hx, tb_hset ok, Bool.true_and] at this
  simpa using this
theorem subS_iff (ok : v.OK) {h : Nat} {s : Int32} : s &&& (hset v z h ^^^ (-1)) = 0 ↔ subS v z h s := by
  refine ⟨subS_of ok, fun hs => tb_ext fun x hx => ?_⟩
  rw [tb_and, tb_xor, tb_0, tb_m1 hx, tb_hset ok]
  by_cases q : tb s x = true
  · obtain ⟨h1, h2⟩ := hs x q
    simp [h1, h2]
  · simp [q]
theorem subS_nI (ok : v.OK) {h : Nat} {s : Int32} (hs : subS v z h s) : ∃ m, m < 1024 ∧ s = nI m := by
  have := ok.N
  obtain ⟨m, h1, h2⟩ := set_of (v := s) (n := 10) (by omega) (fun x h1 h2 => by
    by_cases q : tb s x = true
    · have := (hs x q).1; omega
    · simpa using q)
  exact ⟨m, h1, h2⟩
theorem c_exchange (ok : v.OK) (hs : CS v s z σ) {t h : Nat} (ht : t < v.T) (hh : h < v.H) {tk lf : Int32} (h1 : subS v z h tk) (h2 : subS v z (5 + t) lf) : ∃ σ', mX8_exchange s (nI t) (nI h) tk lf σ = some σ' ∧ CS v s (z.move t h tk lf) σ' ∧ ∀ a k, ¬ (a = s + 1 ∧ (k = h ∨ k = 5 + t)) → σ'.1 a k = σ.1 a k := by
  have oN := ok.N
  have oT := ok.T
  have oH := ok.H
  unfold mX8_exchange
  dsimp only [bnd]
  rw [show (5 : Int32) + nI t = nI (5 + t) from nI_add 5 t, binn (show h < 9 by omega) (by omega), binn (show 5 + t < 9 by omega) (by omega), pn_cl (show h < 2 ^ 31 by omega), pn_cl (show 5 + t < 2 ^ 31 by omega)]
  simp only [if_true]
  rw [sI_get, if_neg (show ¬ (s + 1 = s + 1 ∧ 5 + t = h) by omega), hs.held h (by omega), hs.held (5 + t) (by omega)]
  refine ⟨_, rfl, ⟨fun y hy => ?_, ?_, ?_⟩, fun a k hn => ?_⟩
  · rw [sI_get, sI_get]
    by_cases y1 : y = 5 + t
    · subst y1
      rw [if_pos ⟨rfl, rfl⟩]
      apply setI_ext (by omega)
      intro x hx
      rw [tb_or, tb_and, tb_xor, tb_m1 hx, tb_hset ok, move_wh]
      by_cases q1 : tb lf x = true
      · have w1 := h2 x q1
        have w2 : tb tk x = false := by
          by_cases q : tb tk x = true
          · have := (h1 x q).2; omega
          · simpa using q
        rw [if_pos q1, w2, q1]
        have : ¬ h = 5 + t := by omega
        simp [this]
      · rw [if_neg q1]
        by_cases q2 : tb tk x = true
        · have w1 := h1 x q2
          rw [if_pos q2, q2]
          simp [w1.1]
        · rw [if_neg q2]
          simp [q1, q2]
    · rw [if_neg (by omega)]
      by_cases y2 : y = h
      · subst y2
        rw [if_pos ⟨rfl, rfl⟩]
        apply setI_ext (by omega)
        intro x hx
        rw [tb_or, tb_and, tb_xor, tb_m1 hx, tb_hset ok, move_wh]
        by_cases q1 : tb lf x = true
        · have w1 := h2 x q1
          rw [if_pos q1, q1]
          simp [w1.1]
        · rw [if_neg q1]
          by_cases q2 : tb tk x = true
          · rw [if_pos q2, q2]
            have : ¬ 5 + t = y := by omega
            simp [q1, this]
          · rw [if_neg q2]
            simp [q1, q2]
      · rw [if_neg (by omega), hs.held y hy]
        apply setI_ext (by omega)
        intro x hx
        rw [tb_hset ok, move_wh]
        by_cases q1 : tb lf x = true
        · have w1 := h2 x q1
          rw [if_pos q1, w1.2]
          have a1 : ¬ h = y := fun e => y2 e.symm
          have a2 : ¬ 5 + t = y := fun e => y1 e.symm
          rw [beq_false_of_ne a1, beq_false_of_ne a2]
        · rw [if_neg q1]
          by_cases q2 : tb tk x = true
          · have w1 := h1 x q2
            rw [if_pos q2, w1.2]
            have a1 : ¬ h = y := fun e => y2 e.symm
            have a2 : ¬ 5 + t = y := fun e => y1 e.symm
            rw [beq_false_of_ne a1, beq_false_of_ne a2]
          · rw [if_neg q2]
  · rw [sI_get, if_neg (by omega), sI_get, if_neg (by omega)]; exact hs.hr
  · rw [sI_get, if_neg (by omega), sI_get, if_neg (by omega)]; exact hs.jl
  · rw [sI_get, if_neg (by omega), sI_get, if_neg (by omega)]
theorem r_move_L3 (ok : v.OK) {t h : Nat} (ht : t < v.T) (hh : h < v.H) (tk lf : Int32) : ∀ k n i (σ : St_), RV v σ → i + k = v.N → k < n → ∃ σ' : St_, mX12_move_L3 233 (nI t) (nI h) tk lf n (nI i) σ = some σ' ∧ ∀ a b, σ'.1 a b = if a = 263 ∧ i ≤ b ∧ b < v.N then (if tb lf b = true then nI h else if tb tk b = true then wcode (5 + t) else σ.1 263 b) else σ.1 a b
  | 0, n, i, σ, hr, hi, hn => by
    have := ok.N
    obtain ⟨m, rfl, -⟩ := fu_suc hn
    refine ⟨σ, ?_, fun a b => by rw [if_neg (by omega)]⟩
    unfold mX12_move_L3
    rw [hr.N, if_pos (nI_le (by omega) (by omega))]
  | k + 1, n, i, σ, hr, hi, hn => by
    have := ok.N
    have := ok.T
    obtain ⟨m, rfl, hm⟩ := fu_suc hn
    have ih : ∀ ρ : St_, (∀ a b, ¬ a = 263 → ρ.1 a b = σ.1 a b) → (∀ b, i < b → ρ.1 263 b = σ.1 263 b) → (∀ b, b < i → ρ.1 263 b = σ.1 263 b) → ρ.1 263 i = (if tb lf i = true then nI h else if tb tk i = true then wcode (5 + t) else σ.1 263 i) → ∃ σ' : St_, mX12_move_L3 233 (nI t) (nI h) tk lf m (nI (i + 1)) ρ = some σ' ∧ ∀ a b, σ'.1 a b = if a = 263 ∧ i ≤ b ∧ b < v.N then (if tb lf b = true then nI h else if tb tk b = true then wcode (5 + t) else σ.1 263 b) else σ.1 a b := by
      intro ρ p1 p2 p4 p3
      obtain ⟨σ', s1, s2⟩ := r_move_L3 ok ht hh tk lf k m (i + 1) ρ (hr.fr (fun a k q => p1 a k (by unfold FPr at q; omega))) (by omega) (by omega)
      refine ⟨σ', s1, fun a b => ?_⟩
      rw [s2]
      by_cases a1 : a = 263
      · subst a1
        by_cases q : i ≤ b ∧ b < v.N
        · by_cases e : b = i
          · rw [e, if_neg (by omega), if_pos (by omega), p3]
          · rw [p2 b (by omega), if_pos (show 263 = 263 ∧ i + 1 ≤ b ∧ b < v.N by omega), if_pos (show 263 = 263 ∧ i ≤ b ∧ b < v.N by omega)]
        · rw [if_neg (by omega), if_neg (by omega)]
          by_cases e : b < i
          · exact p4 b e
          · exact p2 b (by omega)
      · rw [if_neg (by omega), if_neg (by omega)]; exact p1 a b a1
    unfold mX12_move_L3
    dsimp only [bnd]
    rw [hr.N, if_neg (nI_ge (by omega) (by omega)), tb_get _ (by omega), tb_get _ (by omega), nI_1, binn (by omega) (by omega), pn_cl (by omega), wc_thief (by omega), show 233 + 30 = 263 from rfl]
    by_cases q1 : tb tk i = true <;> by_cases q2 : tb lf i = true <;> simp only [q1, q2, if_true, if_false, z01, Bool.false_eq_true]
    · refine ih _ (fun a b q => by simp [sI_get, q]) (fun b q => ?_) (fun b q => ?_) (by simp [sI_get, q2])
      · rw [sI_get, if_neg (by omega), sI_get, if_neg (by omega)]
      · rw [sI_get, if_neg (by omega), sI_get, if_neg (by omega)]
    · refine ih _ (fun a b q => by simp [sI_get, q]) (fun b q => ?_) (fun b q => ?_) (by simp [sI_get, q1, q2])
      · rw [sI_get, if_neg (by omega)]
      · rw [sI_get, if_neg (by omega)]
    · refine ih _ (fun a b q => by simp [sI_get, q]) (fun b q => ?_) (fun b q => ?_) (by simp [sI_get, q2])
      · rw [sI_get, if_neg (by omega)]
      · rw [sI_get, if_neg (by omega)]
    · exact ih σ (fun a b q => rfl) (fun b q => rfl) (fun b q => rfl) (by simp [q1, q2])
theorem r_move (hr : RV v σ) (ok : v.OK) (hw : RW v z σ) {t h : Nat} (ht : t < v.T) (hh : h < v.H) (tk lf : Int32) : ∃ σ', mX12_move 233 (nI t) (nI h) tk lf σ = some σ' ∧ RW v (z.move t h tk lf) σ' ∧ ∀ a k, ¬ a = 263 → σ'.1 a k = σ.1 a k := by
  have oN := ok.N
  have oT := ok.T
  have oH := ok.H
  unfold mX12_move
  obtain ⟨σ', s1, s2⟩ := r_move_L3 ok ht hh tk lf v.N FU 0 σ hr (by omega) (by unfold FU; omega)
  refine ⟨σ', s1, ⟨fun x hx => ?_, fun x h1 h2 => ?_, ?_, ?_⟩, fun a k hn => by rw [s2, if_neg (by omega)]⟩
  · rw [s2, if_pos (by omega), move_wh, hw.wh x hx, wc_house (by omega)]
    by_cases q1 : tb lf x = true
    · rw [if_pos q1, if_pos q1]
    · rw [if_neg q1, if_neg q1]
      by_cases q2 : tb tk x = true
      · rw [if_pos q2, if_pos q2]
      · rw [if_neg q2, if_neg q2]
  · rw [s2, if_neg (by omega)]; exact hw.no x h1 h2
  · rw [s2, if_neg (by omega)]; exact hw.hr
  · rw [s2, if_neg (by omega)]; exact hw.jl
end MOVES
