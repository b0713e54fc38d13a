/-! which cells a mirror may change -/
def Fr {β : Type} (M : Nat → Nat → Prop) (σ : St_) (g : β → St_) (o : Option β) : Prop := ∀ b, o = some b → ∀ a k, ¬ M a k → (g b).1 a k = σ.1 a k ∧ (g b).2 a k = σ.2 a k
section FR
variable {β γ : Type} {M M' : Nat → Nat → Prop} {σ : St_} {g : β → St_} {g' : γ → St_} {o o1 o2 : Option β}
theorem fr_none : Fr M σ g (none : Option β) := fun b hb => by cases hb
theorem fr_some {b : β} (h : g b = σ) : Fr M σ g (some b) := fun b' hb => by cases hb; intro a k _; rw [h]; exact ⟨rfl, rfl⟩
theorem fr_ite {c : Prop} [Decidable c] (h1 : Fr M σ g o1) (h2 : Fr M σ g o2) : Fr M σ g (if c then o1 else o2) := by
  by_cases hc : c
  · rw [if_pos hc]; exact h1
  · rw [if_neg hc]; exact h2
theorem fr_gd {c : Bool} (h1 : c = true → Fr M σ g o) : Fr M σ g (if c = true then o else none) := by
  by_cases hc : c = true
  · rw [if_pos hc]; exact h1 hc
  · rw [if_neg hc]; exact fr_none
theorem fr_bv {α : Type} {x : α} {K : α → Option β} (h : ∀ v, Fr M σ g (K v)) : Fr M σ g (bnd x K) := h x
theorem fr_jn {α : Type} {x : α} {K : α → Option β} (J : α → Prop) (h1 : J x) (h2 : ∀ a, J a → Fr M σ g (K a)) : Fr M σ g (bnd x K) := h2 x h1
theorem fr_sI {i k : Nat} {x : Int32} {K : St_ → Option β} (hM : M i k) (h : ∀ s, Fr M s g (K s)) : Fr M σ g (bnd (sI σ i k x) K) := by
  intro b hb a j hn
  have h1 := h (sI σ i k x) b hb a j hn
  have e : up2 σ.1 i k x a j = σ.1 a j := by
    by_cases ha : a = i
    · subst ha
      have hj : ¬ j = k := fun e => hn (e ▸ hM)
      simp [up2, hj]
    · simp [up2, ha]
  exact ⟨h1.1.trans e, h1.2⟩
theorem fr_sL {i k : Nat} {x : Int64} {K : St_ → Option β} (hM : M i k) (h : ∀ s, Fr M s g (K s)) : Fr M σ g (bnd (sL σ i k x) K) := by
  intro b hb a j hn
  have h1 := h (sL σ i k x) b hb a j hn
  have e : up2 σ.2 i k x a j = σ.2 a j := by
    by_cases ha : a = i
    · subst ha
      have hj : ¬ j = k := fun e => hn (e ▸ hM)
      simp [up2, hj]
    · simp [up2, ha]
  exact ⟨h1.1, h1.2.trans e⟩
theorem fr_cp {i j : Nat} {sp dp n : Int32} {K : St_ → Option β} (hM : ∀ k, M j k) (h : ∀ s, Fr M s g (K s)) : Fr M σ g (bnd (cpI σ i j sp dp n) K) := by
  intro b hb a k hn
  have h1 := h (cpI σ i j sp dp n) b hb a k hn
  have ha : ¬ a = j := fun e => hn (e ▸ hM k)
  have e : (cpI σ i j sp dp n).1 a k = σ.1 a k := by simp [cpI, ha]
  exact ⟨h1.1.trans e, h1.2⟩
theorem fr_bind {o' : Option γ} {K : γ → Option β} (h1 : Fr M' σ g' o') (hs : ∀ a k, M' a k → M a k) (h2 : ∀ r, Fr M (g' r) g (K r)) : Fr M σ g (o'.bind K) := by
  intro b hb a k hn
  cases ho : o' with
  | none => rw [ho] at hb; cases hb
  | some r =>
    rw [ho] at hb
    have e1 := h1 r ho a k (fun q => hn (hs a k q))
    have e2 := h2 r b hb a k hn
    exact ⟨e2.1.trans e1.1, e2.2.trans e1.2⟩
theorem fr_bindP {o' : Option γ} {K : γ → Option β} (h2 : ∀ r, Fr M σ g (K r)) : Fr M σ g (o'.bind K) := by
  intro b hb
  cases ho : o' with
  | none => rw [ho] at hb; cases hb
  | some r => rw [ho] at hb; exact h2 r b hb
end FR
def MOD_X8_copy (t : Nat) : Nat → Nat → Prop := fun a k => (t + 1 ≤ a ∧ a < t + 3) ∨ (a = t ∧ (k = 2 ∨ k = 3 ∨ k = 4))
theorem fX8_copy (t : Nat) (p1 : Nat) (σ : St_) : Fr (MOD_X8_copy t) σ (fun b => b) (mX8_copy t p1 σ) := by
  rw [mX8_copy]
  refine fr_ite ?_ ?_
  · refine fr_cp (fun k => by unfold MOD_X8_copy; omega) (fun σ1 => ?_)
    refine fr_ite ?_ ?_
    · refine fr_cp (fun k => by unfold MOD_X8_copy; omega) (fun σ2 => ?_)
      refine fr_sI (by unfold MOD_X8_copy; omega) (fun σ3 => ?_)
      refine fr_sI (by unfold MOD_X8_copy; omega) (fun σ4 => ?_)
      refine fr_sI (by unfold MOD_X8_copy; omega) (fun σ5 => ?_)
      exact fr_some rfl
    · exact fr_none
  · exact fr_none

def MOD_X0_begin (t : Nat) : Nat → Nat → Prop := fun a k => (t + 2 ≤ a ∧ a < t + 125) ∨ (a = t ∧ (k = 1 ∨ k = 2 ∨ k = 3))
theorem fX0_begin (t : Nat) (p1 : Nat) (σ : St_) : Fr (MOD_X0_begin t) σ (fun b => b) (mX0_begin t p1 σ) := by
  rw [mX0_begin]
  refine fr_sI (by unfold MOD_X0_begin; omega) (fun σ1 => ?_)
  refine fr_sI (by unfold MOD_X0_begin; omega) (fun σ2 => ?_)
  refine fr_sI (by unfold MOD_X0_begin; omega) (fun σ3 => ?_)
  refine fr_gd (fun hg => ?_)
  have hg := bin_lt hg
  refine fr_bind (fX8_copy _ _ _) (fun a k h => by unfold MOD_X8_copy at h; unfold MOD_X0_begin; omega) (fun σ5 => ?_)
  exact fr_some rfl

def MOD_X0_add (t : Nat) : Nat → Nat → Prop := fun a k => (t + 2 ≤ a ∧ a < t + 125) ∨ (a = t ∧ (k = 1 ∨ k = 2 ∨ k = 3))
theorem fX0_add (t : Nat) (p1 : Nat) (σ : St_) : Fr (MOD_X0_add t) σ (fun b => b) (mX0_add t p1 σ) := by
  rw [mX0_add]
  refine fr_jn (fun k2 => ∀ (σ1 : St_), Fr (MOD_X0_add t) σ1 (fun b => b) (k2 σ1)) ?_ (fun k2 hk2 => ?_)
  · intro σ1
    refine fr_sI (by unfold MOD_X0_add; omega) (fun σ4 => ?_)
    refine fr_sI (by unfold MOD_X0_add; omega) (fun σ5 => ?_)
    refine fr_bindP (fun r6 => ?_)
    refine fr_bind (fX8_copy _ _ _) (fun a k h => by unfold MOD_X8_copy at h; unfold MOD_X0_add; omega) (fun σ7 => ?_)
    exact fr_some rfl
  · refine fr_ite ?_ ?_
    · refine fr_bv (fun v8 => ?_)
      refine fr_sI (by unfold MOD_X0_add; omega) (fun σ9 => ?_)
      refine fr_sI (by unfold MOD_X0_add; omega) (fun σ10 => ?_)
      exact hk2 _
    · exact hk2 _

def MOD_X0_step (t : Nat) (p2 : Nat) : Nat → Nat → Prop := fun a k => (p2 + 1 ≤ a ∧ a < p2 + 3) ∨ (a = t ∧ (k = 3)) ∨ (a = p2 ∧ (k = 2 ∨ k = 3 ∨ k = 4))
theorem fX0_step (t : Nat) (p1 : Int32) (p2 : Nat) (σ : St_) : Fr (MOD_X0_step t p2) σ (fun b => b.2) (mX0_step t p1 p2 σ) := by
  rw [mX0_step]
  refine fr_ite ?_ ?_
  · exact fr_some rfl
  · refine fr_ite ?_ ?_
    · refine fr_sI (by unfold MOD_X0_step; omega) (fun σ1 => ?_)
      refine fr_bindP (fun r2 => ?_)
      refine fr_bind (fX8_copy _ _ _) (fun a k h => by unfold MOD_X8_copy at h; unfold MOD_X0_step; omega) (fun σ3 => ?_)
      exact fr_some rfl
    · exact fr_some rfl

def MOD_J7_fill_53178 (p1 : Nat) : Nat → Nat → Prop := fun a k => a = p1
theorem fmJ7_fill_53178_L5 (p1 : Nat) (p1n : Nat) (x1 : Int32) (x3 : Int32) : ∀ (n : Nat) (x2 : Int32) (σ : St_), Fr (MOD_J7_fill_53178 p1) σ (fun b => b) (mJ7_fill_53178_L5 p1 p1n x1 x3 n x2 σ) := by
  intro n
  induction n with
  | zero => intros; exact fr_none
  | succ n ih =>
    intro x2 σ
    rw [mJ7_fill_53178_L5]
    refine fr_ite ?_ ?_
    · exact fr_some rfl
    · refine fr_gd (fun hg => ?_)
      have hg := bin_lt hg
      refine fr_sI (by unfold MOD_J7_fill_53178; omega) (fun σ2 => ?_)
      exact ih _ _

theorem fJ7_fill_53178 (p1 : Nat) (p1n : Nat) (p2 : Int32) (σ : St_) : Fr (MOD_J7_fill_53178 p1) σ (fun b => b) (mJ7_fill_53178 p1 p1n p2 σ) := by
  rw [mJ7_fill_53178]
  refine fr_bv (fun v1 => ?_)
  exact fmJ7_fill_53178_L5 _ _ _ _ _ _ _

def MOD_X3_clear (t : Nat) : Nat → Nat → Prop := fun a k => (a = t ∧ (k = 4 ∨ k = 5))
theorem fX3_clear (t : Nat) (σ : St_) : Fr (MOD_X3_clear t) σ (fun b => b) (mX3_clear t σ) := by
  rw [mX3_clear]
  refine fr_sI (by unfold MOD_X3_clear; omega) (fun σ1 => ?_)
  refine fr_sI (by unfold MOD_X3_clear; omega) (fun σ2 => ?_)
  exact fr_some rfl

def MOD_X1_clear (t : Nat) : Nat → Nat → Prop := fun a k => a = t + 5 ∨ a = t + 8 ∨ a = t + 10 ∨ (a = t ∧ (k = 0 ∨ k = 1 ∨ k = 2 ∨ k = 3 ∨ k = 4)) ∨ (a = t + 11 ∧ (k = 4 ∨ k = 5))
theorem fX1_clear (t : Nat) (σ : St_) : Fr (MOD_X1_clear t) σ (fun b => b) (mX1_clear t σ) := by
  rw [mX1_clear]
  refine fr_sI (by unfold MOD_X1_clear; omega) (fun σ1 => ?_)
  refine fr_sI (by unfold MOD_X1_clear; omega) (fun σ2 => ?_)
  refine fr_sI (by unfold MOD_X1_clear; omega) (fun σ3 => ?_)
  refine fr_sI (by unfold MOD_X1_clear; omega) (fun σ4 => ?_)
  refine fr_sI (by unfold MOD_X1_clear; omega) (fun σ5 => ?_)
  refine fr_bind (fJ7_fill_53178 _ _ _ _) (fun a k h => by unfold MOD_J7_fill_53178 at h; unfold MOD_X1_clear; omega) (fun σ6 => ?_)
  refine fr_bind (fJ7_fill_53178 _ _ _ _) (fun a k h => by unfold MOD_J7_fill_53178 at h; unfold MOD_X1_clear; omega) (fun σ7 => ?_)
  refine fr_bind (fJ7_fill_53178 _ _ _ _) (fun a k h => by unfold MOD_J7_fill_53178 at h; unfold MOD_X1_clear; omega) (fun σ8 => ?_)
  refine fr_bind (fX3_clear _ _) (fun a k h => by unfold MOD_X3_clear at h; unfold MOD_X1_clear; omega) (fun σ9 => ?_)
  exact fr_some rfl

def MOD_X1_settle (t : Nat) : Nat → Nat → Prop := fun a k => (t + 8 ≤ a ∧ a < t + 10)
theorem fmX1_settle_L2 (t : Nat) (k39 : St_ → Option St_) (hk39 : ∀ (y0 : St_), Fr (MOD_X1_settle t) y0 (fun b => b) (k39 y0)) : ∀ (n : Nat) (x1 : Int32) (σ : St_), Fr (MOD_X1_settle t) σ (fun b => b) (mX1_settle_L2 t k39 n x1 σ) := by
  intro n
  induction n with
  | zero => intros; exact fr_none
  | succ n ih =>
    intro x1 σ
    rw [mX1_settle_L2]
    refine fr_ite ?_ ?_
    · exact hk39 _
    · refine fr_gd (fun hg => ?_)
      have hg := bin_lt hg
      refine fr_bv (fun v1 => ?_)
      refine fr_jn (fun k3 => ∀ (σ2 : St_), Fr (MOD_X1_settle t) σ2 (fun b => b) (k3 σ2)) ?_ (fun k3 hk3 => ?_)
      · intro σ2
        exact ih _ _
      · refine fr_ite ?_ ?_
        · refine fr_bv (fun v5 => ?_)
          refine fr_gd (fun hg => ?_)
          have hg := bin_lt hg
          refine fr_bv (fun v6 => ?_)
          refine fr_gd (fun hg => ?_)
          have hg := bin_lt hg
          refine fr_sI (by unfold MOD_X1_settle; omega) (fun σ7 => ?_)
          exact hk3 _
        · exact hk3 _

theorem fX1_settle (t : Nat) (σ : St_) : Fr (MOD_X1_settle t) σ (fun b => b) (mX1_settle t σ) := by
  rw [mX1_settle]
  refine fmX1_settle_L2 _ _ ?_ _ _ _
  · intro σ8
    refine fr_ite ?_ ?_
    · refine fr_cp (fun k => by unfold MOD_X1_settle; omega) (fun σ9 => ?_)
      exact fr_some rfl
    · exact fr_none

def MOD_X3_allows (t : Nat) : Nat → Nat → Prop := fun a k => (t + 3 ≤ a ∧ a < t + 5)
theorem fmX3_allows_L78 (t : Nat) (k242 : St_ → Option (Bool × St_)) (hk242 : ∀ (y0 : St_), Fr (MOD_X3_allows t) y0 (fun b => b.2) (k242 y0)) : ∀ (n : Nat) (x8 : Int32) (x9 : Int32) (σ : St_), Fr (MOD_X3_allows t) σ (fun b => b.2) (mX3_allows_L78 t k242 n x8 x9 σ) := by
  intro n
  induction n with
  | zero => intros; exact fr_none
  | succ n ih =>
    intro x8 x9 σ
    rw [mX3_allows_L78]
    refine fr_ite ?_ ?_
    · exact hk242 _
    · refine fr_gd (fun hg => ?_)
      have hg := bin_lt hg
      refine fr_bv (fun v8 => ?_)
      refine fr_jn (fun k11 => ∀ (j9 : Int32) (σ10 : St_), Fr (MOD_X3_allows t) σ10 (fun b => b.2) (k11 j9 σ10)) ?_ (fun k11 hk11 => ?_)
      · intro j9 σ10
        exact ih _ _ _
      · refine fr_jn (fun k13 => Fr (MOD_X3_allows t) σ (fun b => b.2) k13) ?_ (fun k13 hk13 => ?_)
        · refine fr_ite ?_ ?_
          · refine fr_jn (fun k16 => ∀ (j15 : Int32), Fr (MOD_X3_allows t) σ (fun b => b.2) (k16 j15)) ?_ (fun k16 hk16 => ?_)
            · intro j15
              refine fr_gd (fun hg => ?_)
              have hg := bin_lt hg
              refine fr_sI (by unfold MOD_X3_allows; omega) (fun σ18 => ?_)
              exact hk11 _ _
            · refine fr_ite ?_ ?_
              · refine fr_gd (fun hg => ?_)
                have hg := bin_lt hg
                refine fr_bv (fun v19 => ?_)
                exact hk16 _
              · refine fr_gd (fun hg => ?_)
                have hg := bin_lt hg
                refine fr_bv (fun v20 => ?_)
                refine fr_gd (fun hg => ?_)
                have hg := bin_lt hg
                refine fr_bv (fun v21 => ?_)
                exact hk16 _
          · exact fr_some rfl
        · refine fr_ite ?_ ?_
          · exact hk13
          · refine fr_ite ?_ ?_
            · exact hk13
            · refine fr_jn (fun k22 => Fr (MOD_X3_allows t) σ (fun b => b.2) k22) ?_ (fun k22 hk22 => ?_)
              · refine fr_ite ?_ ?_
                · exact hk11 _ _
                · refine fr_bv (fun v24 => ?_)
                  refine fr_gd (fun hg => ?_)
                  have hg := bin_lt hg
                  refine fr_bv (fun v25 => ?_)
                  refine fr_bv (fun v26 => ?_)
                  refine fr_gd (fun hg => ?_)
                  have hg := bin_lt hg
                  refine fr_bv (fun v27 => ?_)
                  refine fr_bindP (fun r28 => ?_)
                  refine fr_bv (fun v29 => ?_)
                  refine fr_gd (fun hg => ?_)
                  have hg := bin_lt hg
                  refine fr_sI (by unfold MOD_X3_allows; omega) (fun σ30 => ?_)
                  exact hk11 _ _
              · refine fr_ite ?_ ?_
                · exact hk22
                · refine fr_ite ?_ ?_
                  · refine fr_bv (fun v31 => ?_)
                    refine fr_gd (fun hg => ?_)
                    have hg := bin_lt hg
                    refine fr_bv (fun v32 => ?_)
                    refine fr_jn (fun k34 => ∀ (j33 : Bool), Fr (MOD_X3_allows t) σ (fun b => b.2) (k34 j33)) ?_ (fun k34 hk34 => ?_)
                    · intro j33
                      refine fr_bv (fun v36 => ?_)
                      refine fr_gd (fun hg => ?_)
                      have hg := bin_lt hg
                      refine fr_sI (by unfold MOD_X3_allows; omega) (fun σ37 => ?_)
                      exact hk11 _ _
                    · refine fr_ite ?_ ?_
                      · exact hk34 _
                      · exact hk34 _
                  · exact hk22

theorem fX3_allows (t : Nat) (p1 : Int32) (p2 : Int32) (p3 : Int32) (p4 : Int32) (p5 : Int32) (p6 : Int32) (p7 : Int32) (σ : St_) : Fr (MOD_X3_allows t) σ (fun b => b.2) (mX3_allows t p1 p2 p3 p4 p5 p6 p7 σ) := by
  rw [mX3_allows]
  refine fr_ite ?_ ?_
  · refine fr_ite ?_ ?_
    · exact fr_some rfl
    · exact fr_some rfl
  · refine fr_gd (fun hg => ?_)
    have hg := bin_lt hg
    refine fr_sI (by unfold MOD_X3_allows; omega) (fun σ1 => ?_)
    refine fr_gd (fun hg => ?_)
    have hg := bin_lt hg
    refine fr_sI (by unfold MOD_X3_allows; omega) (fun σ2 => ?_)
    refine fr_gd (fun hg => ?_)
    have hg := bin_lt hg
    refine fr_sI (by unfold MOD_X3_allows; omega) (fun σ3 => ?_)
    refine fr_gd (fun hg => ?_)
    have hg := bin_lt hg
    refine fr_sI (by unfold MOD_X3_allows; omega) (fun σ4 => ?_)
    refine fr_gd (fun hg => ?_)
    have hg := bin_lt hg
    refine fr_sI (by unfold MOD_X3_allows; omega) (fun σ5 => ?_)
    refine fr_gd (fun hg => ?_)
    have hg := bin_lt hg
    refine fr_sI (by unfold MOD_X3_allows; omega) (fun σ6 => ?_)
    refine fr_gd (fun hg => ?_)
    have hg := bin_lt hg
    refine fr_sI (by unfold MOD_X3_allows; omega) (fun σ7 => ?_)
    refine fmX3_allows_L78 _ _ ?_ _ _ _ _
    · intro σ38
      refine fr_gd (fun hg => ?_)
      have hg := bin_lt hg
      refine fr_bv (fun v39 => ?_)
      refine fr_ite ?_ ?_
      · exact fr_some rfl
      · exact fr_some rfl

def MOD_X1_isLawful (t : Nat) : Nat → Nat → Prop := fun a k => (t + 14 ≤ a ∧ a < t + 16)
theorem fmX1_isLawful_L15 (t : Nat) (σ : St_) (x1 : Int32) (x2 : Int32) (x3 : Int32) (x4 : Int32) (x5 : Int32) (x8 : Int32) (x9 : Int32) (k70 : Int32 → Int32 → Option (Bool × St_)) (hk70 : ∀ (y0 : Int32) (y1 : Int32), Fr (MOD_X1_isLawful t) σ (fun b => b.2) (k70 y0 y1)) : ∀ (n : Nat) (x6 : Int32) (x7 : Int32) (x10 : Int32), Fr (MOD_X1_isLawful t) σ (fun b => b.2) (mX1_isLawful_L15 t σ x1 x2 x3 x4 x5 x8 x9 k70 n x6 x7 x10) := by
  intro n
  induction n with
  | zero => intros; exact fr_none
  | succ n ih =>
    intro x6 x7 x10
    rw [mX1_isLawful_L15]
    refine fr_ite ?_ ?_
    · exact hk70 _ _
    · refine fr_jn (fun k3 => ∀ (j1 : Int32) (j2 : Int32), Fr (MOD_X1_isLawful t) σ (fun b => b.2) (k3 j1 j2)) ?_ (fun k3 hk3 => ?_)
      · intro j1 j2
        exact ih _ _ _
      · refine fr_ite ?_ ?_
        · exact hk3 _ _
        · refine fr_gd (fun hg => ?_)
          have hg := bin_lt hg
          refine fr_bv (fun v5 => ?_)
          refine fr_bv (fun v6 => ?_)
          refine fr_bv (fun v7 => ?_)
          refine fr_gd (fun hg => ?_)
          have hg := bin_lt hg
          refine fr_bv (fun v8 => ?_)
          refine fr_bv (fun v9 => ?_)
          exact hk3 _ _

theorem fmX1_isLawful_L73 (t : Nat) (σ : St_) (x1 : Int32) (x2 : Int32) (x3 : Int32) (x4 : Int32) (x5 : Int32) (x6 : Int32) (x7 : Int32) (k131 : Int32 → Int32 → Option (Bool × St_)) (hk131 : ∀ (y0 : Int32) (y1 : Int32), Fr (MOD_X1_isLawful t) σ (fun b => b.2) (k131 y0 y1)) : ∀ (n : Nat) (x8 : Int32) (x9 : Int32) (x10 : Int32), Fr (MOD_X1_isLawful t) σ (fun b => b.2) (mX1_isLawful_L73 t σ x1 x2 x3 x4 x5 x6 x7 k131 n x8 x9 x10) := by
  intro n
  induction n with
  | zero => intros; exact fr_none
  | succ n ih =>
    intro x8 x9 x10
    rw [mX1_isLawful_L73]
    refine fr_ite ?_ ?_
    · exact hk131 _ _
    · refine fr_jn (fun k14 => ∀ (j12 : Int32) (j13 : Int32), Fr (MOD_X1_isLawful t) σ (fun b => b.2) (k14 j12 j13)) ?_ (fun k14 hk14 => ?_)
      · intro j12 j13
        exact ih _ _ _
      · refine fr_ite ?_ ?_
        · exact hk14 _ _
        · refine fr_gd (fun hg => ?_)
          have hg := bin_lt hg
          refine fr_bv (fun v16 => ?_)
          refine fr_bv (fun v17 => ?_)
          refine fr_bv (fun v18 => ?_)
          refine fr_gd (fun hg => ?_)
          have hg := bin_lt hg
          refine fr_bv (fun v19 => ?_)
          refine fr_bv (fun v20 => ?_)
          exact hk14 _ _

theorem fX1_isLawful (t : Nat) (p1 : Int32) (p2 : Int32) (p3 : Int32) (p4 : Int32) (p5 : Int32) (σ : St_) : Fr (MOD_X1_isLawful t) σ (fun b => b.2) (mX1_isLawful t p1 p2 p3 p4 p5 σ) := by
  rw [mX1_isLawful]
  refine fmX1_isLawful_L15 _ _ _ _ _ _ _ _ _ _ ?_ _ _ _ _
  · intro y10 y11
    refine fmX1_isLawful_L73 _ _ _ _ _ _ _ _ _ _ ?_ _ _ _ _
    · intro y21 y22
      refine fr_bindP (fun r23 => ?_)
      refine fr_bindP (fun r24 => ?_)
      refine fr_bind (fX3_allows _ _ _ _ _ _ _ _ _) (fun a k h => by unfold MOD_X3_allows at h; unfold MOD_X1_isLawful; omega) (fun r25 => ?_)
      exact fr_some rfl

def MOD_X1_isSwap (t : Nat) : Nat → Nat → Prop := fun a k => (t + 14 ≤ a ∧ a < t + 16)
theorem fX1_isSwap (t : Nat) (p1 : Nat) (p2 : Int32) (p3 : Int32) (p4 : Int32) (p5 : Int32) (σ : St_) : Fr (MOD_X1_isSwap t) σ (fun b => b.2) (mX1_isSwap t p1 p2 p3 p4 p5 σ) := by
  rw [mX1_isSwap]
  refine fr_bindP (fun r1 => ?_)
  refine fr_ite ?_ ?_
  · exact fr_some rfl
  · refine fr_bindP (fun r2 => ?_)
    refine fr_ite ?_ ?_
    · refine fr_gd (fun hg => ?_)
      have hg := bin_lt hg
      refine fr_bv (fun v3 => ?_)
      refine fr_bind (fX1_isLawful _ _ _ _ _ _ _) (fun a k h => by unfold MOD_X1_isLawful at h; unfold MOD_X1_isSwap; omega) (fun r4 => ?_)
      refine fr_ite ?_ ?_
      · exact fr_some rfl
      · exact fr_some rfl
    · exact fr_some rfl

def MOD_X1_isLawfulFor (t : Nat) : Nat → Nat → Prop := fun a k => (t + 14 ≤ a ∧ a < t + 16)
theorem fX1_isLawfulFor (t : Nat) (p1 : Int32) (p2 : Int32) (p3 : Int32) (p4 : Int32) (p5 : Int32) (p6 : Int32) (σ : St_) : Fr (MOD_X1_isLawfulFor t) σ (fun b => b.2) (mX1_isLawfulFor t p1 p2 p3 p4 p5 p6 σ) := by
  rw [mX1_isLawfulFor]
  refine fr_bv (fun v1 => ?_)
  refine fr_gd (fun hg => ?_)
  have hg := bin_lt hg
  refine fr_bv (fun v2 => ?_)
  refine fr_gd (fun hg => ?_)
  have hg := bin_lt hg
  refine fr_bv (fun v3 => ?_)
  refine fr_jn (fun k5 => ∀ (j4 : Bool), Fr (MOD_X1_isLawfulFor t) σ (fun b => b.2) (k5 j4)) ?_ (fun k5 hk5 => ?_)
  · intro j4
    refine fr_bv (fun v7 => ?_)
    refine fr_gd (fun hg => ?_)
    have hg := bin_lt hg
    refine fr_bv (fun v8 => ?_)
    refine fr_jn (fun k12 => ∀ (j9 : Int32) (j10 : Int32) (j11 : Int32), Fr (MOD_X1_isLawfulFor t) σ (fun b => b.2) (k12 j9 j10 j11)) ?_ (fun k12 hk12 => ?_)
    · intro j9 j10 j11
      refine fr_bv (fun v14 => ?_)
      refine fr_gd (fun hg => ?_)
      have hg := bin_lt hg
      refine fr_bv (fun v15 => ?_)
      refine fr_bind (fX3_allows _ _ _ _ _ _ _ _ _) (fun a k h => by unfold MOD_X3_allows at h; unfold MOD_X1_isLawfulFor; omega) (fun r16 => ?_)
      exact fr_some rfl
    · refine fr_ite ?_ ?_
      · exact hk12 _ _ _
      · refine fr_gd (fun hg => ?_)
        have hg := bin_lt hg
        refine fr_bv (fun v17 => ?_)
        refine fr_gd (fun hg => ?_)
        have hg := bin_lt hg
        refine fr_bv (fun v18 => ?_)
        refine fr_jn (fun k20 => ∀ (j19 : Bool), Fr (MOD_X1_isLawfulFor t) σ (fun b => b.2) (k20 j19)) ?_ (fun k20 hk20 => ?_)
        · intro j19
          refine fr_bv (fun v22 => ?_)
          refine fr_bv (fun v23 => ?_)
          refine fr_gd (fun hg => ?_)
          have hg := bin_lt hg
          refine fr_bv (fun v24 => ?_)
          refine fr_bv (fun v25 => ?_)
          exact hk12 _ _ _
        · refine fr_ite ?_ ?_
          · exact hk20 _
          · exact hk20 _
  · refine fr_ite ?_ ?_
    · exact hk5 _
    · exact hk5 _

def MOD_X1_say (t : Nat) : Nat → Nat → Prop := fun a k => a = t + 9
theorem fX1_say (t : Nat) (p1 : Int32) (p2 : Int32) (p3 : Int32) (σ : St_) : Fr (MOD_X1_say t) σ (fun b => b) (mX1_say t p1 p2 p3 σ) := by
  rw [mX1_say]
  refine fr_bv (fun v1 => ?_)
  refine fr_gd (fun hg => ?_)
  have hg := bin_lt hg
  refine fr_sI (by unfold MOD_X1_say; omega) (fun σ2 => ?_)
  exact fr_some rfl

def MOD_X1_sayTruth (t : Nat) : Nat → Nat → Prop := fun a k => a = t + 9
theorem fX1_sayTruth (t : Nat) (p1 : Int32) (p2 : Int32) (σ : St_) : Fr (MOD_X1_sayTruth t) σ (fun b => b) (mX1_sayTruth t p1 p2 σ) := by
  rw [mX1_sayTruth]
  refine fr_bindP (fun r1 => ?_)
  refine fr_bind (fX1_say _ _ _ _ _) (fun a k h => by unfold MOD_X1_say at h; unfold MOD_X1_sayTruth; omega) (fun σ2 => ?_)
  exact fr_some rfl

def MOD_X10_next (t : Nat) : Nat → Nat → Prop := fun a k => (a = t ∧ (k = 6))
theorem fX10_next (t : Nat) (σ : St_) : Fr (MOD_X10_next t) σ (fun b => b) (mX10_next t σ) := by
  rw [mX10_next]
  refine fr_ite ?_ ?_
  · exact fr_some rfl
  · refine fr_sI (by unfold MOD_X10_next; omega) (fun σ1 => ?_)
    exact fr_some rfl

def MOD_X3_put (t : Nat) : Nat → Nat → Prop := fun a k => (t + 1 ≤ a ∧ a < t + 3) ∨ (a = t ∧ (k = 4))
theorem fX3_put (t : Nat) (p1 : Int32) (p2 : Int32) (σ : St_) : Fr (MOD_X3_put t) σ (fun b => b) (mX3_put t p1 p2 σ) := by
  rw [mX3_put]
  refine fr_ite ?_ ?_
  · exact fr_some rfl
  · refine fr_bv (fun v1 => ?_)
    refine fr_gd (fun hg => ?_)
    have hg := bin_lt hg
    refine fr_sI (by unfold MOD_X3_put; omega) (fun σ2 => ?_)
    refine fr_bv (fun v3 => ?_)
    refine fr_gd (fun hg => ?_)
    have hg := bin_lt hg
    refine fr_sI (by unfold MOD_X3_put; omega) (fun σ4 => ?_)
    refine fr_sI (by unfold MOD_X3_put; omega) (fun σ5 => ?_)
    exact fr_some rfl

def MOD_X10_fail (t : Nat) : Nat → Nat → Prop := fun a k => (a = t ∧ (k = 7 ∨ k = 8))
theorem fX10_fail (t : Nat) (p1 : Int32) (σ : St_) : Fr (MOD_X10_fail t) σ (fun b => b.2) (mX10_fail t p1 σ) := by
  rw [mX10_fail]
  refine fr_sI (by unfold MOD_X10_fail; omega) (fun σ1 => ?_)
  refine fr_bv (fun v2 => ?_)
  refine fr_gd (fun hg => ?_)
  have hg := bin_lt hg
  refine fr_bv (fun v3 => ?_)
  refine fr_sI (by unfold MOD_X10_fail; omega) (fun σ4 => ?_)
  exact fr_some rfl

def MOD_X10_refuse (t : Nat) : Nat → Nat → Prop := fun a k => (a = t ∧ (k = 7 ∨ k = 8))
theorem fX10_refuse (t : Nat) (σ : St_) : Fr (MOD_X10_refuse t) σ (fun b => b.2) (mX10_refuse t σ) := by
  rw [mX10_refuse]
  refine fr_bv (fun v1 => ?_)
  refine fr_gd (fun hg => ?_)
  have hg := bin_lt hg
  refine fr_bv (fun v2 => ?_)
  refine fr_jn (fun k4 => ∀ (j3 : Int32), Fr (MOD_X10_refuse t) σ (fun b => b.2) (k4 j3)) ?_ (fun k4 hk4 => ?_)
  · intro j3
    refine fr_bind (fX10_fail _ _ _) (fun a k h => by unfold MOD_X10_fail at h; unfold MOD_X10_refuse; omega) (fun r6 => ?_)
    exact fr_some rfl
  · refine fr_ite ?_ ?_
    · exact hk4 _
    · exact hk4 _

def MOD_X10_takeSign (t : Nat) : Nat → Nat → Prop := fun a k => (a = t ∧ (k = 6 ∨ k = 7 ∨ k = 8))
theorem fX10_takeSign (t : Nat) (p1 : Int32) (σ : St_) : Fr (MOD_X10_takeSign t) σ (fun b => b.2) (mX10_takeSign t p1 σ) := by
  rw [mX10_takeSign]
  refine fr_bindP (fun r1 => ?_)
  refine fr_ite ?_ ?_
  · refine fr_bind (fX10_next _ _) (fun a k h => by unfold MOD_X10_next at h; unfold MOD_X10_takeSign; omega) (fun σ2 => ?_)
    exact fr_some rfl
  · refine fr_bind (fX10_refuse _ _) (fun a k h => by unfold MOD_X10_refuse at h; unfold MOD_X10_takeSign; omega) (fun r3 => ?_)
    exact fr_some rfl

def MOD_X2 (t p1 : Nat) : Nat → Nat → Prop := fun a k => (p1 + 1 ≤ a ∧ a < p1 + 3) ∨ (a = t + 1 ∧ (k = 6 ∨ k = 7 ∨ k = 8)) ∨ (a = p1 ∧ (k = 4 ∨ k = 5))
def MOD_X2_readEither (t : Nat) (p1 : Nat) : Nat → Nat → Prop := fun a k => (p1 + 1 ≤ a ∧ a < p1 + 3) ∨ (a = t + 1 ∧ (k = 6 ∨ k = 7 ∨ k = 8)) ∨ (a = p1 ∧ (k = 4 ∨ k = 5))
theorem fmX2_readEither_L13 (rc : Nat → Nat → Nat → Int32 → St_ → Option (Bool × St_)) (t : Nat) (p1 : Nat) (x2 : Int32) (hrc : ∀ w t p1 p2 σ, Fr (MOD_X2 t p1) σ (fun b : Bool × St_ => b.2) (rc w t p1 p2 σ)) : ∀ (n : Nat) (x3 : Int32) (σ : St_), Fr (MOD_X2_readEither t p1) σ (fun b => b.2) (mX2_readEither_L13 rc t p1 x2 n x3 σ) := by
  intro n
  induction n with
  | zero => intros; exact fr_none
  | succ n ih =>
    intro x3 σ
    rw [mX2_readEither_L13]
    refine fr_ite ?_ ?_
    · exact fr_some rfl
    · refine fr_bindP (fun r2 => ?_)
      refine fr_ite ?_ ?_
      · refine fr_bind (fX10_next _ _) (fun a k h => by unfold MOD_X10_next at h; unfold MOD_X2_readEither; omega) (fun σ3 => ?_)
        refine fr_bind (hrc _ _ _ _ _) (fun a k h => by unfold MOD_X2 at h; unfold MOD_X2_readEither; omega) (fun r4 => ?_)
        refine fr_ite ?_ ?_
        · refine fr_bind (fX3_put _ _ _ _) (fun a k h => by unfold MOD_X3_put at h; unfold MOD_X2_readEither; omega) (fun σ5 => ?_)
          exact ih _ _
        · exact fr_some rfl
      · exact fr_some rfl

theorem fX2_readEither_b (rc : Nat → Nat → Nat → Int32 → St_ → Option (Bool × St_)) (t : Nat) (p1 : Nat) (p2 : Int32) (σ : St_) (hrc : ∀ w t p1 p2 σ, Fr (MOD_X2 t p1) σ (fun b : Bool × St_ => b.2) (rc w t p1 p2 σ)) : Fr (MOD_X2_readEither t p1) σ (fun b => b.2) (mX2_readEither_b rc t p1 p2 σ) := by
  rw [mX2_readEither_b]
  refine fr_bind (hrc _ _ _ _ _) (fun a k h => by unfold MOD_X2 at h; unfold MOD_X2_readEither; omega) (fun r1 => ?_)
  refine fr_ite ?_ ?_
  · exact fmX2_readEither_L13 _ _ _ _ hrc _ _ _
  · exact fr_some rfl

def MOD_X2_readBoth (t : Nat) (p1 : Nat) : Nat → Nat → Prop := fun a k => (p1 + 1 ≤ a ∧ a < p1 + 3) ∨ (a = t + 1 ∧ (k = 6 ∨ k = 7 ∨ k = 8)) ∨ (a = p1 ∧ (k = 4 ∨ k = 5))
theorem fmX2_readBoth_L13 (rc : Nat → Nat → Nat → Int32 → St_ → Option (Bool × St_)) (t : Nat) (p1 : Nat) (x2 : Int32) (hrc : ∀ w t p1 p2 σ, Fr (MOD_X2 t p1) σ (fun b : Bool × St_ => b.2) (rc w t p1 p2 σ)) : ∀ (n : Nat) (x3 : Int32) (σ : St_), Fr (MOD_X2_readBoth t p1) σ (fun b => b.2) (mX2_readBoth_L13 rc t p1 x2 n x3 σ) := by
  intro n
  induction n with
  | zero => intros; exact fr_none
  | succ n ih =>
    intro x3 σ
    rw [mX2_readBoth_L13]
    refine fr_ite ?_ ?_
    · exact fr_some rfl
    · refine fr_bindP (fun r2 => ?_)
      refine fr_ite ?_ ?_
      · refine fr_bind (fX10_next _ _) (fun a k h => by unfold MOD_X10_next at h; unfold MOD_X2_readBoth; omega) (fun σ3 => ?_)
        refine fr_bind (hrc _ _ _ _ _) (fun a k h => by unfold MOD_X2 at h; unfold MOD_X2_readBoth; omega) (fun r4 => ?_)
        refine fr_ite ?_ ?_
        · refine fr_bind (fX3_put _ _ _ _) (fun a k h => by unfold MOD_X3_put at h; unfold MOD_X2_readBoth; omega) (fun σ5 => ?_)
          exact ih _ _
        · exact fr_some rfl
      · exact fr_some rfl

theorem fX2_readBoth_b (rc : Nat → Nat → Nat → Int32 → St_ → Option (Bool × St_)) (t : Nat) (p1 : Nat) (p2 : Int32) (σ : St_) (hrc : ∀ w t p1 p2 σ, Fr (MOD_X2 t p1) σ (fun b : Bool × St_ => b.2) (rc w t p1 p2 σ)) : Fr (MOD_X2_readBoth t p1) σ (fun b => b.2) (mX2_readBoth_b rc t p1 p2 σ) := by
  rw [mX2_readBoth_b]
  refine fr_bind (hrc _ _ _ _ _) (fun a k h => by unfold MOD_X2 at h; unfold MOD_X2_readBoth; omega) (fun r1 => ?_)
  refine fr_ite ?_ ?_
  · exact fmX2_readBoth_L13 _ _ _ _ hrc _ _ _
  · exact fr_some rfl

def MOD_X2_readOne (t : Nat) (p1 : Nat) : Nat → Nat → Prop := fun a k => (p1 + 1 ≤ a ∧ a < p1 + 3) ∨ (a = t + 1 ∧ (k = 6 ∨ k = 7 ∨ k = 8)) ∨ (a = p1 ∧ (k = 4 ∨ k = 5))
theorem fX2_readOne_b (rc : Nat → Nat → Nat → Int32 → St_ → Option (Bool × St_)) (t : Nat) (p1 : Nat) (p2 : Int32) (σ : St_) (hrc : ∀ w t p1 p2 σ, Fr (MOD_X2 t p1) σ (fun b : Bool × St_ => b.2) (rc w t p1 p2 σ)) : Fr (MOD_X2_readOne t p1) σ (fun b => b.2) (mX2_readOne_b rc t p1 p2 σ) := by
  rw [mX2_readOne_b]
  refine fr_bindP (fun r1 => ?_)
  refine fr_ite ?_ ?_
  · refine fr_bind (hrc _ _ _ _ _) (fun a k h => by unfold MOD_X2 at h; unfold MOD_X2_readOne; omega) (fun r2 => ?_)
    exact fr_some rfl
  · refine fr_bind (hrc _ _ _ _ _) (fun a k h => by unfold MOD_X2 at h; unfold MOD_X2_readOne; omega) (fun r3 => ?_)
    refine fr_ite ?_ ?_
    · refine fr_bindP (fun r4 => ?_)
      refine fr_jn (fun k5 => Fr (MOD_X2_readOne t p1) r3.2 (fun b => b.2) k5) ?_ (fun k5 hk5 => ?_)
      · refine fr_bindP (fun r7 => ?_)
        refine fr_bind (fX10_next _ _) (fun a k h => by unfold MOD_X10_next at h; unfold MOD_X2_readOne; omega) (fun σ8 => ?_)
        refine fr_bind (hrc _ _ _ _ _) (fun a k h => by unfold MOD_X2 at h; unfold MOD_X2_readOne; omega) (fun r9 => ?_)
        refine fr_ite ?_ ?_
        · refine fr_bind (fX3_put _ _ _ _) (fun a k h => by unfold MOD_X3_put at h; unfold MOD_X2_readOne; omega) (fun σ10 => ?_)
          exact fr_some rfl
        · exact fr_some rfl
      · refine fr_ite ?_ ?_
        · exact hk5
        · refine fr_bindP (fun r11 => ?_)
          refine fr_ite ?_ ?_
          · exact hk5
          · refine fr_bindP (fun r12 => ?_)
            refine fr_ite ?_ ?_
            · exact hk5
            · exact fr_some rfl
    · exact fr_some rfl

def MOD_X2_readNot (t : Nat) (p1 : Nat) : Nat → Nat → Prop := fun a k => (p1 + 1 ≤ a ∧ a < p1 + 3) ∨ (a = t + 1 ∧ (k = 6 ∨ k = 7 ∨ k = 8)) ∨ (a = p1 ∧ (k = 4 ∨ k = 5))
theorem fX2_readNot_b (rc : Nat → Nat → Nat → Int32 → St_ → Option (Bool × St_)) (t : Nat) (p1 : Nat) (p2 : Int32) (σ : St_) (hrc : ∀ w t p1 p2 σ, Fr (MOD_X2 t p1) σ (fun b : Bool × St_ => b.2) (rc w t p1 p2 σ)) : Fr (MOD_X2_readNot t p1) σ (fun b => b.2) (mX2_readNot_b rc t p1 p2 σ) := by
  rw [mX2_readNot_b]
  refine fr_ite ?_ ?_
  · refine fr_bind (fX10_next _ _) (fun a k h => by unfold MOD_X10_next at h; unfold MOD_X2_readNot; omega) (fun σ1 => ?_)
    refine fr_bind (hrc _ _ _ _ _) (fun a k h => by unfold MOD_X2 at h; unfold MOD_X2_readNot; omega) (fun r2 => ?_)
    refine fr_ite ?_ ?_
    · refine fr_bind (fX3_put _ _ _ _) (fun a k h => by unfold MOD_X3_put at h; unfold MOD_X2_readNot; omega) (fun σ3 => ?_)
      exact fr_some rfl
    · exact fr_some rfl
  · refine fr_bind (fX10_refuse _ _) (fun a k h => by unfold MOD_X10_refuse at h; unfold MOD_X2_readNot; omega) (fun r4 => ?_)
    exact fr_some rfl

def MOD_X2_readTotal (t : Nat) (p1 : Nat) : Nat → Nat → Prop := fun a k => (p1 + 1 ≤ a ∧ a < p1 + 3) ∨ (a = t + 1 ∧ (k = 6 ∨ k = 7 ∨ k = 8)) ∨ (a = p1 ∧ (k = 4 ∨ k = 5))
theorem fmX2_readTotal_L13 (rc : Nat → Nat → Nat → Int32 → St_ → Option (Bool × St_)) (t : Nat) (p1 : Nat) (x2 : Int32) (hrc : ∀ w t p1 p2 σ, Fr (MOD_X2 t p1) σ (fun b : Bool × St_ => b.2) (rc w t p1 p2 σ)) : ∀ (n : Nat) (x3 : Int32) (σ : St_), Fr (MOD_X2_readTotal t p1) σ (fun b => b.2) (mX2_readTotal_L13 rc t p1 x2 n x3 σ) := by
  intro n
  induction n with
  | zero => intros; exact fr_none
  | succ n ih =>
    intro x3 σ
    rw [mX2_readTotal_L13]
    refine fr_ite ?_ ?_
    · exact fr_some rfl
    · refine fr_bindP (fun r2 => ?_)
      refine fr_jn (fun k3 => Fr (MOD_X2_readTotal t p1) σ (fun b => b.2) k3) ?_ (fun k3 hk3 => ?_)
      · refine fr_bindP (fun r5 => ?_)
        refine fr_bind (fX10_next _ _) (fun a k h => by unfold MOD_X10_next at h; unfold MOD_X2_readTotal; omega) (fun σ6 => ?_)
        refine fr_bind (hrc _ _ _ _ _) (fun a k h => by unfold MOD_X2 at h; unfold MOD_X2_readTotal; omega) (fun r7 => ?_)
        refine fr_ite ?_ ?_
        · refine fr_bind (fX3_put _ _ _ _) (fun a k h => by unfold MOD_X3_put at h; unfold MOD_X2_readTotal; omega) (fun σ8 => ?_)
          exact ih _ _
        · exact fr_some rfl
      · refine fr_ite ?_ ?_
        · exact hk3
        · refine fr_bindP (fun r9 => ?_)
          refine fr_ite ?_ ?_
          · exact hk3
          · exact fr_some rfl

theorem fX2_readTotal_b (rc : Nat → Nat → Nat → Int32 → St_ → Option (Bool × St_)) (t : Nat) (p1 : Nat) (p2 : Int32) (σ : St_) (hrc : ∀ w t p1 p2 σ, Fr (MOD_X2 t p1) σ (fun b : Bool × St_ => b.2) (rc w t p1 p2 σ)) : Fr (MOD_X2_readTotal t p1) σ (fun b => b.2) (mX2_readTotal_b rc t p1 p2 σ) := by
  rw [mX2_readTotal_b]
  refine fr_bind (hrc _ _ _ _ _) (fun a k h => by unfold MOD_X2 at h; unfold MOD_X2_readTotal; omega) (fun r1 => ?_)
  refine fr_ite ?_ ?_
  · exact fmX2_readTotal_L13 _ _ _ _ hrc _ _ _
  · exact fr_some rfl

def MOD_X2_readTerm (t : Nat) (p1 : Nat) : Nat → Nat → Prop := fun a k => (p1 + 1 ≤ a ∧ a < p1 + 3) ∨ (a = t + 1 ∧ (k = 6 ∨ k = 7 ∨ k = 8)) ∨ (a = p1 ∧ (k = 4 ∨ k = 5))
theorem fmX2_readTerm_L13 (rc : Nat → Nat → Nat → Int32 → St_ → Option (Bool × St_)) (t : Nat) (p1 : Nat) (x2 : Int32) (hrc : ∀ w t p1 p2 σ, Fr (MOD_X2 t p1) σ (fun b : Bool × St_ => b.2) (rc w t p1 p2 σ)) : ∀ (n : Nat) (x3 : Int32) (σ : St_), Fr (MOD_X2_readTerm t p1) σ (fun b => b.2) (mX2_readTerm_L13 rc t p1 x2 n x3 σ) := by
  intro n
  induction n with
  | zero => intros; exact fr_none
  | succ n ih =>
    intro x3 σ
    rw [mX2_readTerm_L13]
    refine fr_ite ?_ ?_
    · exact fr_some rfl
    · refine fr_bindP (fun r2 => ?_)
      refine fr_ite ?_ ?_
      · refine fr_bindP (fun r3 => ?_)
        refine fr_bind (fX10_next _ _) (fun a k h => by unfold MOD_X10_next at h; unfold MOD_X2_readTerm; omega) (fun σ4 => ?_)
        refine fr_bind (hrc _ _ _ _ _) (fun a k h => by unfold MOD_X2 at h; unfold MOD_X2_readTerm; omega) (fun r5 => ?_)
        refine fr_ite ?_ ?_
        · refine fr_bind (fX3_put _ _ _ _) (fun a k h => by unfold MOD_X3_put at h; unfold MOD_X2_readTerm; omega) (fun σ6 => ?_)
          exact ih _ _
        · exact fr_some rfl
      · exact fr_some rfl

theorem fX2_readTerm_b (rc : Nat → Nat → Nat → Int32 → St_ → Option (Bool × St_)) (t : Nat) (p1 : Nat) (p2 : Int32) (σ : St_) (hrc : ∀ w t p1 p2 σ, Fr (MOD_X2 t p1) σ (fun b : Bool × St_ => b.2) (rc w t p1 p2 σ)) : Fr (MOD_X2_readTerm t p1) σ (fun b => b.2) (mX2_readTerm_b rc t p1 p2 σ) := by
  rw [mX2_readTerm_b]
  refine fr_bind (hrc _ _ _ _ _) (fun a k h => by unfold MOD_X2 at h; unfold MOD_X2_readTerm; omega) (fun r1 => ?_)
  refine fr_ite ?_ ?_
  · exact fmX2_readTerm_L13 _ _ _ _ hrc _ _ _
  · exact fr_some rfl

def MOD_X2_readUnit (t : Nat) (p1 : Nat) : Nat → Nat → Prop := fun a k => (p1 + 1 ≤ a ∧ a < p1 + 3) ∨ (a = t + 1 ∧ (k = 6 ∨ k = 7 ∨ k = 8)) ∨ (a = p1 ∧ (k = 4 ∨ k = 5))
theorem fX2_readUnit_b (rc : Nat → Nat → Nat → Int32 → St_ → Option (Bool × St_)) (t : Nat) (p1 : Nat) (p2 : Int32) (σ : St_) (hrc : ∀ w t p1 p2 σ, Fr (MOD_X2 t p1) σ (fun b : Bool × St_ => b.2) (rc w t p1 p2 σ)) : Fr (MOD_X2_readUnit t p1) σ (fun b => b.2) (mX2_readUnit_b rc t p1 p2 σ) := by
  rw [mX2_readUnit_b]
  refine fr_ite ?_ ?_
  · refine fr_bindP (fun r1 => ?_)
    refine fr_ite ?_ ?_
    · refine fr_bind (hrc _ _ _ _ _) (fun a k h => by unfold MOD_X2 at h; unfold MOD_X2_readUnit; omega) (fun r2 => ?_)
      exact fr_some rfl
    · refine fr_bindP (fun r3 => ?_)
      refine fr_jn (fun k5 => ∀ (σ4 : St_), Fr (MOD_X2_readUnit t p1) σ4 (fun b => b.2) (k5 σ4)) ?_ (fun k5 hk5 => ?_)
      · intro σ4
        refine fr_sI (by unfold MOD_X2_readUnit; omega) (fun σ7 => ?_)
        refine fr_bind (fX10_next _ _) (fun a k h => by unfold MOD_X10_next at h; unfold MOD_X2_readUnit; omega) (fun σ8 => ?_)
        exact fr_some rfl
      · refine fr_ite ?_ ?_
        · refine fr_bindP (fun r9 => ?_)
          refine fr_bind (fX3_put _ _ _ _) (fun a k h => by unfold MOD_X3_put at h; unfold MOD_X2_readUnit; omega) (fun σ10 => ?_)
          exact hk5 _
        · refine fr_bindP (fun r11 => ?_)
          refine fr_jn (fun k12 => Fr (MOD_X2_readUnit t p1) σ (fun b => b.2) k12) ?_ (fun k12 hk12 => ?_)
          · refine fr_bind (fX10_refuse _ _) (fun a k h => by unfold MOD_X10_refuse at h; unfold MOD_X2_readUnit; omega) (fun r14 => ?_)
            exact fr_some rfl
          · refine fr_ite ?_ ?_
            · refine fr_bindP (fun r15 => ?_)
              refine fr_ite ?_ ?_
              · exact hk12
              · refine fr_bindP (fun r16 => ?_)
                refine fr_bind (fX3_put _ _ _ _) (fun a k h => by unfold MOD_X3_put at h; unfold MOD_X2_readUnit; omega) (fun σ17 => ?_)
                exact hk5 _
            · exact hk12
  · refine fr_bind (fX10_refuse _ _) (fun a k h => by unfold MOD_X10_refuse at h; unfold MOD_X2_readUnit; omega) (fun r18 => ?_)
    exact fr_some rfl

def MOD_X2_readInner (t : Nat) (p1 : Nat) : Nat → Nat → Prop := fun a k => (p1 + 1 ≤ a ∧ a < p1 + 3) ∨ (a = p1 ∧ (k = 4 ∨ k = 5)) ∨ (a = t + 1 ∧ (k = 6 ∨ k = 7 ∨ k = 8))
theorem fX2_readInner_b (rc : Nat → Nat → Nat → Int32 → St_ → Option (Bool × St_)) (t : Nat) (p1 : Nat) (p2 : Int32) (σ : St_) (hrc : ∀ w t p1 p2 σ, Fr (MOD_X2 t p1) σ (fun b : Bool × St_ => b.2) (rc w t p1 p2 σ)) : Fr (MOD_X2_readInner t p1) σ (fun b => b.2) (mX2_readInner_b rc t p1 p2 σ) := by
  rw [mX2_readInner_b]
  refine fr_ite ?_ ?_
  · refine fr_sI (by unfold MOD_X2_readInner; omega) (fun σ1 => ?_)
    refine fr_bind (fX10_next _ _) (fun a k h => by unfold MOD_X10_next at h; unfold MOD_X2_readInner; omega) (fun σ2 => ?_)
    refine fr_bind (hrc _ _ _ _ _) (fun a k h => by unfold MOD_X2 at h; unfold MOD_X2_readInner; omega) (fun r3 => ?_)
    refine fr_ite ?_ ?_
    · refine fr_bind (fX10_takeSign _ _ _) (fun a k h => by unfold MOD_X10_takeSign at h; unfold MOD_X2_readInner; omega) (fun r4 => ?_)
      refine fr_ite ?_ ?_
      · exact fr_some rfl
      · exact fr_some rfl
    · exact fr_some rfl
  · refine fr_bind (fX10_refuse _ _) (fun a k h => by unfold MOD_X10_refuse at h; unfold MOD_X2_readInner; omega) (fun r5 => ?_)
    exact fr_some rfl

theorem fX2_rec : ∀ (d w t p1 : Nat) (p2 : Int32) (σ : St_), Fr (MOD_X2 t p1) σ (fun b : Bool × St_ => b.2) (mX2_rec d w t p1 p2 σ) := by
  intro d
  induction d with
  | zero => intros; exact fr_none
  | succ d ih =>
    intro w t p1 p2 σ
    rw [mX2_rec]
    refine fr_ite (fun b hb a k hn => fX2_readEither_b (mX2_rec d) t p1 p2 σ ih b hb a k (fun q => hn (by unfold MOD_X2_readEither at q; unfold MOD_X2; omega))) ?_
    refine fr_ite (fun b hb a k hn => fX2_readBoth_b (mX2_rec d) t p1 p2 σ ih b hb a k (fun q => hn (by unfold MOD_X2_readBoth at q; unfold MOD_X2; omega))) ?_
    refine fr_ite (fun b hb a k hn => fX2_readOne_b (mX2_rec d) t p1 p2 σ ih b hb a k (fun q => hn (by unfold MOD_X2_readOne at q; unfold MOD_X2; omega))) ?_
    refine fr_ite (fun b hb a k hn => fX2_readNot_b (mX2_rec d) t p1 p2 σ ih b hb a k (fun q => hn (by unfold MOD_X2_readNot at q; unfold MOD_X2; omega))) ?_
    refine fr_ite (fun b hb a k hn => fX2_readTotal_b (mX2_rec d) t p1 p2 σ ih b hb a k (fun q => hn (by unfold MOD_X2_readTotal at q; unfold MOD_X2; omega))) ?_
    refine fr_ite (fun b hb a k hn => fX2_readTerm_b (mX2_rec d) t p1 p2 σ ih b hb a k (fun q => hn (by unfold MOD_X2_readTerm at q; unfold MOD_X2; omega))) ?_
    refine fr_ite (fun b hb a k hn => fX2_readUnit_b (mX2_rec d) t p1 p2 σ ih b hb a k (fun q => hn (by unfold MOD_X2_readUnit at q; unfold MOD_X2; omega))) ?_
    exact fun b hb a k hn => fX2_readInner_b (mX2_rec d) t p1 p2 σ ih b hb a k (fun q => hn (by unfold MOD_X2_readInner at q; unfold MOD_X2; omega))

def MOD_X4_readNewName (t : Nat) (p1 : Nat) : Nat → Nat → Prop := fun a k => a = p1 ∨ (a = t + 2 ∧ (k = 6 ∨ k = 7 ∨ k = 8))
theorem fX4_readNewName (t : Nat) (p1 : Nat) (p1n : Nat) (p2 : Int32) (σ : St_) : Fr (MOD_X4_readNewName t p1) σ (fun b => b.2) (mX4_readNewName t p1 p1n p2 σ) := by
  rw [mX4_readNewName]
  refine fr_bindP (fun r1 => ?_)
  refine fr_ite ?_ ?_
  · refine fr_bindP (fun r2 => ?_)
    refine fr_ite ?_ ?_
    · refine fr_jn (fun k4 => ∀ (σ3 : St_), Fr (MOD_X4_readNewName t p1) σ3 (fun b => b.2) (k4 σ3)) ?_ (fun k4 hk4 => ?_)
      · intro σ3
        refine fr_bind (fX10_next _ _) (fun a k h => by unfold MOD_X10_next at h; unfold MOD_X4_readNewName; omega) (fun σ6 => ?_)
        exact fr_some rfl
      · refine fr_ite ?_ ?_
        · exact hk4 _
        · refine fr_bv (fun v7 => ?_)
          refine fr_gd (fun hg => ?_)
          have hg := bin_lt hg
          refine fr_bv (fun v8 => ?_)
          refine fr_gd (fun hg => ?_)
          have hg := bin_lt hg
          refine fr_sL (by unfold MOD_X4_readNewName; omega) (fun σ9 => ?_)
          exact hk4 _
    · refine fr_bind (fX10_fail _ _ _) (fun a k h => by unfold MOD_X10_fail at h; unfold MOD_X4_readNewName; omega) (fun r10 => ?_)
      exact fr_some rfl
  · refine fr_bind (fX10_refuse _ _) (fun a k h => by unfold MOD_X10_refuse at h; unfold MOD_X4_readNewName; omega) (fun r11 => ?_)
    exact fr_some rfl

def MOD_X4_readKind (t : Nat) (p1 : Nat) : Nat → Nat → Prop := fun a k => a = t + 7 ∨ (a = t + 2 ∧ (k = 6 ∨ k = 7 ∨ k = 8)) ∨ (a = p1 ∧ (k = 1))
theorem fX4_readKind (t : Nat) (p1 : Nat) (σ : St_) : Fr (MOD_X4_readKind t p1) σ (fun b => b.2) (mX4_readKind t p1 σ) := by
  rw [mX4_readKind]
  refine fr_ite ?_ ?_
  · refine fr_bind (fX10_next _ _) (fun a k h => by unfold MOD_X10_next at h; unfold MOD_X4_readKind; omega) (fun σ1 => ?_)
    refine fr_bind (fX4_readNewName _ _ _ _ _) (fun a k h => by unfold MOD_X4_readNewName at h; unfold MOD_X4_readKind; omega) (fun r2 => ?_)
    refine fr_ite ?_ ?_
    · refine fr_sI (by unfold MOD_X4_readKind; omega) (fun σ3 => ?_)
      exact fr_some rfl
    · exact fr_some rfl
  · refine fr_bind (fX10_refuse _ _) (fun a k h => by unfold MOD_X10_refuse at h; unfold MOD_X4_readKind; omega) (fun r4 => ?_)
    exact fr_some rfl

def MOD_X10_takeWord (t : Nat) : Nat → Nat → Prop := fun a k => (a = t ∧ (k = 6 ∨ k = 7 ∨ k = 8))
theorem fX10_takeWord (t : Nat) (p1 : Int32) (σ : St_) : Fr (MOD_X10_takeWord t) σ (fun b => b.2) (mX10_takeWord t p1 σ) := by
  rw [mX10_takeWord]
  refine fr_bindP (fun r1 => ?_)
  refine fr_ite ?_ ?_
  · refine fr_bind (fX10_next _ _) (fun a k h => by unfold MOD_X10_next at h; unfold MOD_X10_takeWord; omega) (fun σ2 => ?_)
    exact fr_some rfl
  · refine fr_bind (fX10_refuse _ _) (fun a k h => by unfold MOD_X10_refuse at h; unfold MOD_X10_takeWord; omega) (fun r3 => ?_)
    exact fr_some rfl

def MOD_X4_readOldName (t : Nat) : Nat → Nat → Prop := fun a k => (a = t ∧ (k = 9)) ∨ (a = t + 2 ∧ (k = 7 ∨ k = 8))
theorem fX4_readOldName (t : Nat) (p1 : Nat) (p1n : Nat) (p2 : Int32) (σ : St_) : Fr (MOD_X4_readOldName t) σ (fun b => b.2) (mX4_readOldName t p1 p1n p2 σ) := by
  rw [mX4_readOldName]
  refine fr_bindP (fun r1 => ?_)
  refine fr_ite ?_ ?_
  · refine fr_bindP (fun r2 => ?_)
    refine fr_sI (by unfold MOD_X4_readOldName; omega) (fun σ3 => ?_)
    refine fr_ite ?_ ?_
    · refine fr_bind (fX10_fail _ _ _) (fun a k h => by unfold MOD_X10_fail at h; unfold MOD_X4_readOldName; omega) (fun r4 => ?_)
      refine fr_ite ?_ ?_
      · exact fr_some rfl
      · exact fr_some rfl
    · exact fr_some rfl
  · refine fr_bind (fX10_refuse _ _) (fun a k h => by unfold MOD_X10_refuse at h; unfold MOD_X4_readOldName; omega) (fun r5 => ?_)
    exact fr_some rfl

def MOD_X4_readNumber (t : Nat) : Nat → Nat → Prop := fun a k => (a = t ∧ (k = 9)) ∨ (a = t + 2 ∧ (k = 7 ∨ k = 8))
theorem fX4_readNumber (t : Nat) (p1 : Int32) (p2 : Int32) (σ : St_) : Fr (MOD_X4_readNumber t) σ (fun b => b.2) (mX4_readNumber t p1 p2 σ) := by
  rw [mX4_readNumber]
  refine fr_bindP (fun r1 => ?_)
  refine fr_ite ?_ ?_
  · refine fr_bindP (fun r2 => ?_)
    refine fr_sI (by unfold MOD_X4_readNumber; omega) (fun σ3 => ?_)
    refine fr_jn (fun k4 => Fr (MOD_X4_readNumber t) σ3 (fun b => b.2) k4) ?_ (fun k4 hk4 => ?_)
    · refine fr_bind (fX10_fail _ _ _) (fun a k h => by unfold MOD_X10_fail at h; unfold MOD_X4_readNumber; omega) (fun r6 => ?_)
      refine fr_ite ?_ ?_
      · exact fr_some rfl
      · exact fr_some rfl
    · refine fr_ite ?_ ?_
      · exact hk4
      · refine fr_ite ?_ ?_
        · exact fr_some rfl
        · exact hk4
  · refine fr_bind (fX10_refuse _ _) (fun a k h => by unfold MOD_X10_refuse at h; unfold MOD_X4_readNumber; omega) (fun r7 => ?_)
    exact fr_some rfl

def MOD_X4_readNumberOf (t : Nat) : Nat → Nat → Prop := fun a k => (a = t + 2 ∧ (k = 6 ∨ k = 7 ∨ k = 8)) ∨ (a = t ∧ (k = 9))
theorem fX4_readNumberOf (t : Nat) (p1 : Int32) (p2 : Int32) (σ : St_) : Fr (MOD_X4_readNumberOf t) σ (fun b => b.2) (mX4_readNumberOf t p1 p2 σ) := by
  rw [mX4_readNumberOf]
  refine fr_bind (fX10_takeWord _ _ _) (fun a k h => by unfold MOD_X10_takeWord at h; unfold MOD_X4_readNumberOf; omega) (fun r1 => ?_)
  refine fr_ite ?_ ?_
  · refine fr_bind (fX4_readNumber _ _ _ _) (fun a k h => by unfold MOD_X4_readNumber at h; unfold MOD_X4_readNumberOf; omega) (fun r2 => ?_)
    refine fr_ite ?_ ?_
    · refine fr_bind (fX10_next _ _) (fun a k h => by unfold MOD_X10_next at h; unfold MOD_X4_readNumberOf; omega) (fun σ3 => ?_)
      exact fr_some rfl
    · exact fr_some rfl
  · exact fr_some rfl

def MOD_X4_readThing (t : Nat) (p1 : Nat) : Nat → Nat → Prop := fun a k => a = t + 8 ∨ (p1 + 1 ≤ a ∧ a < p1 + 4) ∨ (a = t + 2 ∧ (k = 6 ∨ k = 7 ∨ k = 8)) ∨ (a = t ∧ (k = 9)) ∨ (a = p1 ∧ (k = 2))
theorem fX4_readThing (t : Nat) (p1 : Nat) (σ : St_) : Fr (MOD_X4_readThing t p1) σ (fun b => b.2) (mX4_readThing t p1 σ) := by
  rw [mX4_readThing]
  refine fr_bv (fun v1 => ?_)
  refine fr_ite ?_ ?_
  · refine fr_bind (fX10_next _ _) (fun a k h => by unfold MOD_X10_next at h; unfold MOD_X4_readThing; omega) (fun σ2 => ?_)
    refine fr_bind (fX4_readNewName _ _ _ _ _) (fun a k h => by unfold MOD_X4_readNewName at h; unfold MOD_X4_readThing; omega) (fun r3 => ?_)
    refine fr_ite ?_ ?_
    · refine fr_bind (fX10_takeWord _ _ _) (fun a k h => by unfold MOD_X10_takeWord at h; unfold MOD_X4_readThing; omega) (fun r4 => ?_)
      refine fr_ite ?_ ?_
      · refine fr_bind (fX4_readOldName _ _ _ _ _) (fun a k h => by unfold MOD_X4_readOldName at h; unfold MOD_X4_readThing; omega) (fun r5 => ?_)
        refine fr_ite ?_ ?_
        · refine fr_gd (fun hg => ?_)
          have hg := bin_lt hg
          refine fr_sI (by unfold MOD_X4_readThing; omega) (fun σ6 => ?_)
          refine fr_bind (fX10_next _ _) (fun a k h => by unfold MOD_X10_next at h; unfold MOD_X4_readThing; omega) (fun σ7 => ?_)
          refine fr_bind (fX4_readNumberOf _ _ _ _) (fun a k h => by unfold MOD_X4_readNumberOf at h; unfold MOD_X4_readThing; omega) (fun r8 => ?_)
          refine fr_ite ?_ ?_
          · refine fr_gd (fun hg => ?_)
            have hg := bin_lt hg
            refine fr_sI (by unfold MOD_X4_readThing; omega) (fun σ9 => ?_)
            refine fr_bind (fX4_readNumberOf _ _ _ _) (fun a k h => by unfold MOD_X4_readNumberOf at h; unfold MOD_X4_readThing; omega) (fun r10 => ?_)
            refine fr_ite ?_ ?_
            · refine fr_gd (fun hg => ?_)
              have hg := bin_lt hg
              refine fr_sI (by unfold MOD_X4_readThing; omega) (fun σ11 => ?_)
              refine fr_sI (by unfold MOD_X4_readThing; omega) (fun σ12 => ?_)
              exact fr_some rfl
            · exact fr_some rfl
          · exact fr_some rfl
        · exact fr_some rfl
      · exact fr_some rfl
    · exact fr_some rfl
  · refine fr_bind (fX10_refuse _ _) (fun a k h => by unfold MOD_X10_refuse at h; unfold MOD_X4_readThing; omega) (fun r13 => ?_)
    exact fr_some rfl

def MOD_X4_readHolder (t : Nat) : Nat → Nat → Prop := fun a k => (t + 9 ≤ a ∧ a < t + 11) ∨ (a = t + 2 ∧ (k = 6 ∨ k = 7 ∨ k = 8)) ∨ (a = t ∧ (k = 6))
theorem fX4_readHolder (t : Nat) (p1 : Int32) (σ : St_) : Fr (MOD_X4_readHolder t) σ (fun b => b.2) (mX4_readHolder t p1 σ) := by
  rw [mX4_readHolder]
  refine fr_ite ?_ ?_
  · exact fr_some rfl
  · refine fr_bind (fX4_readNewName _ _ _ _ _) (fun a k h => by unfold MOD_X4_readNewName at h; unfold MOD_X4_readHolder; omega) (fun r1 => ?_)
    refine fr_ite ?_ ?_
    · refine fr_bv (fun v2 => ?_)
      refine fr_gd (fun hg => ?_)
      have hg := bin_lt hg
      refine fr_sI (by unfold MOD_X4_readHolder; omega) (fun σ3 => ?_)
      refine fr_sI (by unfold MOD_X4_readHolder; omega) (fun σ4 => ?_)
      exact fr_some rfl
    · exact fr_some rfl

def MOD_X4_readWatches (t : Nat) (p1 : Nat) : Nat → Nat → Prop := fun a k => a = p1 + 5 ∨ (a = t + 2 ∧ (k = 6 ∨ k = 7 ∨ k = 8)) ∨ (a = t ∧ (k = 9))
theorem fmX4_readWatches_L2 (t : Nat) (p1 : Nat) (x2 : Int32) (k56 : St_ → Option (Bool × St_)) (hk56 : ∀ (y0 : St_), Fr (MOD_X4_readWatches t p1) y0 (fun b => b.2) (k56 y0)) : ∀ (n : Nat) (x3 : Int32) (σ : St_), Fr (MOD_X4_readWatches t p1) σ (fun b => b.2) (mX4_readWatches_L2 t p1 x2 k56 n x3 σ) := by
  intro n
  induction n with
  | zero => intros; exact fr_none
  | succ n ih =>
    intro x3 σ
    rw [mX4_readWatches_L2]
    refine fr_ite ?_ ?_
    · exact fr_some rfl
    · refine fr_bindP (fun r1 => ?_)
      refine fr_ite ?_ ?_
      · refine fr_bind (fX10_next _ _) (fun a k h => by unfold MOD_X10_next at h; unfold MOD_X4_readWatches; omega) (fun σ2 => ?_)
        refine fr_bind (fX4_readNumber _ _ _ _) (fun a k h => by unfold MOD_X4_readNumber at h; unfold MOD_X4_readWatches; omega) (fun r3 => ?_)
        refine fr_ite ?_ ?_
        · refine fr_bindP (fun r4 => ?_)
          refine fr_ite ?_ ?_
          · exact hk56 _
          · refine fr_gd (fun hg => ?_)
            have hg := bin_lt hg
            refine fr_bv (fun v5 => ?_)
            refine fr_gd (fun hg => ?_)
            have hg := bin_lt hg
            refine fr_sI (by unfold MOD_X4_readWatches; omega) (fun σ6 => ?_)
            refine fr_bind (fX10_next _ _) (fun a k h => by unfold MOD_X10_next at h; unfold MOD_X4_readWatches; omega) (fun σ7 => ?_)
            exact ih _ _
        · exact fr_some rfl
      · exact fr_some rfl

theorem fX4_readWatches (t : Nat) (p1 : Nat) (p2 : Int32) (σ : St_) : Fr (MOD_X4_readWatches t p1) σ (fun b => b.2) (mX4_readWatches t p1 p2 σ) := by
  rw [mX4_readWatches]
  refine fmX4_readWatches_L2 _ _ _ _ ?_ _ _ _
  · intro σ8
    refine fr_bind (fX10_fail _ _ _) (fun a k h => by unfold MOD_X10_fail at h; unfold MOD_X4_readWatches; omega) (fun r9 => ?_)
    exact fr_some rfl

def MOD_X4_readStock (t : Nat) (p1 : Nat) : Nat → Nat → Prop := fun a k => a = p1 + 10 ∨ (a = t + 2 ∧ (k = 6 ∨ k = 7 ∨ k = 8)) ∨ (a = t ∧ (k = 8 ∨ k = 9))
theorem fmX4_readStock_L2 (t : Nat) (p1 : Nat) (x2 : Int32) (k59 : St_ → Option (Bool × St_)) (hk59 : ∀ (y0 : St_), Fr (MOD_X4_readStock t p1) y0 (fun b => b.2) (k59 y0)) : ∀ (n : Nat) (x3 : Int32) (σ : St_), Fr (MOD_X4_readStock t p1) σ (fun b => b.2) (mX4_readStock_L2 t p1 x2 k59 n x3 σ) := by
  intro n
  induction n with
  | zero => intros; exact fr_none
  | succ n ih =>
    intro x3 σ
    rw [mX4_readStock_L2]
    refine fr_ite ?_ ?_
    · exact fr_some rfl
    · refine fr_bindP (fun r1 => ?_)
      refine fr_ite ?_ ?_
      · refine fr_bind (fX10_next _ _) (fun a k h => by unfold MOD_X10_next at h; unfold MOD_X4_readStock; omega) (fun σ2 => ?_)
        refine fr_bind (fX4_readOldName _ _ _ _ _) (fun a k h => by unfold MOD_X4_readOldName at h; unfold MOD_X4_readStock; omega) (fun r3 => ?_)
        refine fr_ite ?_ ?_
        · refine fr_ite ?_ ?_
          · refine fr_sI (by unfold MOD_X4_readStock; omega) (fun σ4 => ?_)
            refine fr_gd (fun hg => ?_)
            have hg := bin_lt hg
            refine fr_bv (fun v5 => ?_)
            refine fr_gd (fun hg => ?_)
            have hg := bin_lt hg
            refine fr_sI (by unfold MOD_X4_readStock; omega) (fun σ6 => ?_)
            refine fr_bind (fX10_next _ _) (fun a k h => by unfold MOD_X10_next at h; unfold MOD_X4_readStock; omega) (fun σ7 => ?_)
            exact ih _ _
          · exact hk59 _
        · exact fr_some rfl
      · exact fr_some rfl

theorem fX4_readStock (t : Nat) (p1 : Nat) (p2 : Int32) (σ : St_) : Fr (MOD_X4_readStock t p1) σ (fun b => b.2) (mX4_readStock t p1 p2 σ) := by
  rw [mX4_readStock]
  refine fmX4_readStock_L2 _ _ _ _ ?_ _ _ _
  · intro σ8
    refine fr_bind (fX10_fail _ _ _) (fun a k h => by unfold MOD_X10_fail at h; unfold MOD_X4_readStock; omega) (fun r9 => ?_)
    exact fr_some rfl

def MOD_X4_readHouse (t : Nat) (p1 : Nat) : Nat → Nat → Prop := fun a k => (t + 9 ≤ a ∧ a < t + 11) ∨ (p1 + 4 ≤ a ∧ a < p1 + 6) ∨ a = p1 + 10 ∨ (a = t + 2 ∧ (k = 6 ∨ k = 7 ∨ k = 8)) ∨ (a = t ∧ (k = 6 ∨ k = 8 ∨ k = 9)) ∨ (a = p1 ∧ (k = 3))
theorem fX4_readHouse (t : Nat) (p1 : Nat) (σ : St_) : Fr (MOD_X4_readHouse t p1) σ (fun b => b.2) (mX4_readHouse t p1 σ) := by
  rw [mX4_readHouse]
  refine fr_bv (fun v1 => ?_)
  refine fr_ite ?_ ?_
  · refine fr_bind (fX10_next _ _) (fun a k h => by unfold MOD_X10_next at h; unfold MOD_X4_readHouse; omega) (fun σ2 => ?_)
    refine fr_bind (fX4_readHolder _ _ _) (fun a k h => by unfold MOD_X4_readHolder at h; unfold MOD_X4_readHouse; omega) (fun r3 => ?_)
    refine fr_ite ?_ ?_
    · refine fr_bind (fX4_readNumberOf _ _ _ _) (fun a k h => by unfold MOD_X4_readNumberOf at h; unfold MOD_X4_readHouse; omega) (fun r4 => ?_)
      refine fr_ite ?_ ?_
      · refine fr_gd (fun hg => ?_)
        have hg := bin_lt hg
        refine fr_sI (by unfold MOD_X4_readHouse; omega) (fun σ5 => ?_)
        refine fr_sI (by unfold MOD_X4_readHouse; omega) (fun σ6 => ?_)
        refine fr_bind (fX4_readWatches _ _ _ _) (fun a k h => by unfold MOD_X4_readWatches at h; unfold MOD_X4_readHouse; omega) (fun r7 => ?_)
        refine fr_ite ?_ ?_
        · refine fr_bind (fX4_readStock _ _ _ _) (fun a k h => by unfold MOD_X4_readStock at h; unfold MOD_X4_readHouse; omega) (fun r8 => ?_)
          refine fr_ite ?_ ?_
          · exact fr_some rfl
          · exact fr_some rfl
        · exact fr_some rfl
      · exact fr_some rfl
    · exact fr_some rfl
  · refine fr_bind (fX10_refuse _ _) (fun a k h => by unfold MOD_X10_refuse at h; unfold MOD_X4_readHouse; omega) (fun r9 => ?_)
    exact fr_some rfl

def MOD_X4_readThief (t : Nat) (p1 : Nat) : Nat → Nat → Prop := fun a k => (t + 9 ≤ a ∧ a < t + 11) ∨ (p1 + 6 ≤ a ∧ a < p1 + 8) ∨ a = p1 + 10 ∨ (a = t + 2 ∧ (k = 6 ∨ k = 7 ∨ k = 8)) ∨ (a = t ∧ (k = 6 ∨ k = 8 ∨ k = 9)) ∨ (a = p1 ∧ (k = 4))
theorem fX4_readThief (t : Nat) (p1 : Nat) (σ : St_) : Fr (MOD_X4_readThief t p1) σ (fun b => b.2) (mX4_readThief t p1 σ) := by
  rw [mX4_readThief]
  refine fr_bv (fun v1 => ?_)
  refine fr_ite ?_ ?_
  · refine fr_bind (fX10_next _ _) (fun a k h => by unfold MOD_X10_next at h; unfold MOD_X4_readThief; omega) (fun σ2 => ?_)
    refine fr_bind (fX4_readHolder _ _ _) (fun a k h => by unfold MOD_X4_readHolder at h; unfold MOD_X4_readThief; omega) (fun r3 => ?_)
    refine fr_ite ?_ ?_
    · refine fr_bind (fX4_readNumberOf _ _ _ _) (fun a k h => by unfold MOD_X4_readNumberOf at h; unfold MOD_X4_readThief; omega) (fun r4 => ?_)
      refine fr_ite ?_ ?_
      · refine fr_gd (fun hg => ?_)
        have hg := bin_lt hg
        refine fr_sI (by unfold MOD_X4_readThief; omega) (fun σ5 => ?_)
        refine fr_bind (fX4_readNumberOf _ _ _ _) (fun a k h => by unfold MOD_X4_readNumberOf at h; unfold MOD_X4_readThief; omega) (fun r6 => ?_)
        refine fr_ite ?_ ?_
        · refine fr_gd (fun hg => ?_)
          have hg := bin_lt hg
          refine fr_sI (by unfold MOD_X4_readThief; omega) (fun σ7 => ?_)
          refine fr_sI (by unfold MOD_X4_readThief; omega) (fun σ8 => ?_)
          refine fr_bind (fX4_readStock _ _ _ _) (fun a k h => by unfold MOD_X4_readStock at h; unfold MOD_X4_readThief; omega) (fun r9 => ?_)
          exact fr_some rfl
        · exact fr_some rfl
      · exact fr_some rfl
    · exact fr_some rfl
  · refine fr_bind (fX10_refuse _ _) (fun a k h => by unfold MOD_X10_refuse at h; unfold MOD_X4_readThief; omega) (fun r10 => ?_)
    exact fr_some rfl

def MOD_X4_readDear (t : Nat) (p1 : Nat) : Nat → Nat → Prop := fun a k => a = p1 + 8 ∨ (a = t + 2 ∧ (k = 6 ∨ k = 7 ∨ k = 8)) ∨ (a = t ∧ (k = 7 ∨ k = 9))
theorem fX4_readDear (t : Nat) (p1 : Nat) (σ : St_) : Fr (MOD_X4_readDear t p1) σ (fun b => b.2) (mX4_readDear t p1 σ) := by
  rw [mX4_readDear]
  refine fr_ite ?_ ?_
  · refine fr_bind (fX10_next _ _) (fun a k h => by unfold MOD_X10_next at h; unfold MOD_X4_readDear; omega) (fun σ1 => ?_)
    refine fr_bind (fX4_readOldName _ _ _ _ _) (fun a k h => by unfold MOD_X4_readOldName at h; unfold MOD_X4_readDear; omega) (fun r2 => ?_)
    refine fr_ite ?_ ?_
    · refine fr_bv (fun v3 => ?_)
      refine fr_bind (fX10_next _ _) (fun a k h => by unfold MOD_X10_next at h; unfold MOD_X4_readDear; omega) (fun σ4 => ?_)
      refine fr_bind (fX10_takeWord _ _ _) (fun a k h => by unfold MOD_X10_takeWord at h; unfold MOD_X4_readDear; omega) (fun r5 => ?_)
      refine fr_ite ?_ ?_
      · refine fr_bind (fX4_readOldName _ _ _ _ _) (fun a k h => by unfold MOD_X4_readOldName at h; unfold MOD_X4_readDear; omega) (fun r6 => ?_)
        refine fr_ite ?_ ?_
        · refine fr_bv (fun v7 => ?_)
          refine fr_gd (fun hg => ?_)
          have hg := bin_lt hg
          refine fr_bv (fun v8 => ?_)
          refine fr_bv (fun v9 => ?_)
          refine fr_gd (fun hg => ?_)
          have hg := bin_lt hg
          refine fr_bv (fun v10 => ?_)
          refine fr_ite ?_ ?_
          · refine fr_bind (fX10_next _ _) (fun a k h => by unfold MOD_X10_next at h; unfold MOD_X4_readDear; omega) (fun σ11 => ?_)
            refine fr_bind (fX4_readNumber _ _ _ _) (fun a k h => by unfold MOD_X4_readNumber at h; unfold MOD_X4_readDear; omega) (fun r12 => ?_)
            refine fr_ite ?_ ?_
            · refine fr_bind (fX10_next _ _) (fun a k h => by unfold MOD_X10_next at h; unfold MOD_X4_readDear; omega) (fun σ13 => ?_)
              refine fr_gd (fun hg => ?_)
              have hg := bin_lt hg
              refine fr_sI (by unfold MOD_X4_readDear; omega) (fun σ14 => ?_)
              refine fr_sI (by unfold MOD_X4_readDear; omega) (fun σ15 => ?_)
              exact fr_some rfl
            · exact fr_some rfl
          · refine fr_bind (fX10_fail _ _ _) (fun a k h => by unfold MOD_X10_fail at h; unfold MOD_X4_readDear; omega) (fun r16 => ?_)
            exact fr_some rfl
        · exact fr_some rfl
      · exact fr_some rfl
    · exact fr_some rfl
  · refine fr_bind (fX10_refuse _ _) (fun a k h => by unfold MOD_X10_refuse at h; unfold MOD_X4_readDear; omega) (fun r17 => ?_)
    exact fr_some rfl

def MOD_X4_readLaw (t : Nat) (p1 : Nat) : Nat → Nat → Prop := fun a k => (p1 + 12 ≤ a ∧ a < p1 + 14) ∨ (a = t + 2 ∧ (k = 6 ∨ k = 7 ∨ k = 8)) ∨ (a = p1 + 11 ∧ (k = 4 ∨ k = 5))
theorem fX4_readLaw (t : Nat) (p1 : Nat) (σ : St_) : Fr (MOD_X4_readLaw t p1) σ (fun b => b.2) (mX4_readLaw t p1 σ) := by
  rw [mX4_readLaw]
  refine fr_ite ?_ ?_
  · refine fr_bind (fX10_next _ _) (fun a k h => by unfold MOD_X10_next at h; unfold MOD_X4_readLaw; omega) (fun σ1 => ?_)
    refine fr_bind (fX2_rec _ _ _ _ _ _) (fun a k h => by unfold MOD_X2 at h; unfold MOD_X4_readLaw; omega) (fun r2 => ?_)
    exact fr_some rfl
  · refine fr_bind (fX10_refuse _ _) (fun a k h => by unfold MOD_X10_refuse at h; unfold MOD_X4_readLaw; omega) (fun r3 => ?_)
    exact fr_some rfl

def MOD_X4_readNight (t : Nat) (p2 : Nat) : Nat → Nat → Prop := fun a k => (a = t + 2 ∧ (k = 6 ∨ k = 7 ∨ k = 8)) ∨ (a = t ∧ (k = 9)) ∨ (a = p2 ∧ (k = 0))
theorem fX4_readNight (t : Nat) (p1 : Int32) (p2 : Nat) (σ : St_) : Fr (MOD_X4_readNight t p2) σ (fun b => b.2) (mX4_readNight t p1 p2 σ) := by
  rw [mX4_readNight]
  refine fr_ite ?_ ?_
  · refine fr_bind (fX10_next _ _) (fun a k h => by unfold MOD_X10_next at h; unfold MOD_X4_readNight; omega) (fun σ1 => ?_)
    refine fr_bind (fX4_readNumber _ _ _ _) (fun a k h => by unfold MOD_X4_readNumber at h; unfold MOD_X4_readNight; omega) (fun r2 => ?_)
    refine fr_ite ?_ ?_
    · refine fr_bind (fX10_next _ _) (fun a k h => by unfold MOD_X10_next at h; unfold MOD_X4_readNight; omega) (fun σ3 => ?_)
      refine fr_sI (by unfold MOD_X4_readNight; omega) (fun σ4 => ?_)
      exact fr_some rfl
    · exact fr_some rfl
  · refine fr_bind (fX10_refuse _ _) (fun a k h => by unfold MOD_X10_refuse at h; unfold MOD_X4_readNight; omega) (fun r5 => ?_)
    exact fr_some rfl

def MOD_X4_readLine (t : Nat) (p2 : Nat) : Nat → Nat → Prop := fun a k => (t + 7 ≤ a ∧ a < t + 11) ∨ (p2 + 1 ≤ a ∧ a < p2 + 9) ∨ a = p2 + 10 ∨ (p2 + 12 ≤ a ∧ a < p2 + 14) ∨ (a = t + 2 ∧ (k = 6 ∨ k = 7 ∨ k = 8)) ∨ (a = p2 ∧ (k = 0 ∨ k = 1 ∨ k = 2 ∨ k = 3 ∨ k = 4)) ∨ (a = t ∧ (k = 6 ∨ k = 7 ∨ k = 8 ∨ k = 9)) ∨ (a = p2 + 11 ∧ (k = 4 ∨ k = 5))
theorem fX4_readLine (t : Nat) (p1 : Int32) (p2 : Nat) (σ : St_) : Fr (MOD_X4_readLine t p2) σ (fun b => b.2) (mX4_readLine t p1 p2 σ) := by
  rw [mX4_readLine]
  refine fr_bindP (fun r1 => ?_)
  refine fr_ite ?_ ?_
  · refine fr_bindP (fun r2 => ?_)
    refine fr_ite ?_ ?_
    · refine fr_bind (fX4_readKind _ _ _) (fun a k h => by unfold MOD_X4_readKind at h; unfold MOD_X4_readLine; omega) (fun r4 => ?_)
      exact fr_some rfl
    · refine fr_ite ?_ ?_
      · refine fr_bind (fX4_readThing _ _ _) (fun a k h => by unfold MOD_X4_readThing at h; unfold MOD_X4_readLine; omega) (fun r6 => ?_)
        exact fr_some rfl
      · refine fr_ite ?_ ?_
        · refine fr_bind (fX4_readHouse _ _ _) (fun a k h => by unfold MOD_X4_readHouse at h; unfold MOD_X4_readLine; omega) (fun r8 => ?_)
          exact fr_some rfl
        · refine fr_ite ?_ ?_
          · refine fr_bind (fX4_readThief _ _ _) (fun a k h => by unfold MOD_X4_readThief at h; unfold MOD_X4_readLine; omega) (fun r10 => ?_)
            exact fr_some rfl
          · refine fr_ite ?_ ?_
            · refine fr_bind (fX4_readDear _ _ _) (fun a k h => by unfold MOD_X4_readDear at h; unfold MOD_X4_readLine; omega) (fun r12 => ?_)
              exact fr_some rfl
            · refine fr_ite ?_ ?_
              · refine fr_bind (fX4_readLaw _ _ _) (fun a k h => by unfold MOD_X4_readLaw at h; unfold MOD_X4_readLine; omega) (fun r14 => ?_)
                exact fr_some rfl
              · refine fr_ite ?_ ?_
                · refine fr_bind (fX4_readNight _ _ _ _) (fun a k h => by unfold MOD_X4_readNight at h; unfold MOD_X4_readLine; omega) (fun r16 => ?_)
                  exact fr_some rfl
                · refine fr_bind (fX10_refuse _ _) (fun a k h => by unfold MOD_X10_refuse at h; unfold MOD_X4_readLine; omega) (fun r17 => ?_)
                  exact fr_some rfl
  · refine fr_bind (fX10_refuse _ _) (fun a k h => by unfold MOD_X10_refuse at h; unfold MOD_X4_readLine; omega) (fun r19 => ?_)
    exact fr_some rfl

def MOD_X4_read (t : Nat) (p1 : Nat) : Nat → Nat → Prop := fun a k => (t + 7 ≤ a ∧ a < t + 11) ∨ (p1 + 1 ≤ a ∧ a < p1 + 11) ∨ (p1 + 12 ≤ a ∧ a < p1 + 14) ∨ (a = t + 2 ∧ (k = 6 ∨ k = 7 ∨ k = 8)) ∨ (a = p1 ∧ (k = 0 ∨ k = 1 ∨ k = 2 ∨ k = 3 ∨ k = 4)) ∨ (a = t ∧ (k = 6 ∨ k = 7 ∨ k = 8 ∨ k = 9)) ∨ (a = p1 + 11 ∧ (k = 4 ∨ k = 5))
theorem fmX4_read_L21 (t : Nat) (p1 : Nat) (k68 : St_ → Option (Bool × St_)) (hk68 : ∀ (y0 : St_), Fr (MOD_X4_read t p1) y0 (fun b => b.2) (k68 y0)) : ∀ (n : Nat) (x2 : Int32) (σ : St_), Fr (MOD_X4_read t p1) σ (fun b => b.2) (mX4_read_L21 t p1 k68 n x2 σ) := by
  intro n
  induction n with
  | zero => intros; exact fr_none
  | succ n ih =>
    intro x2 σ
    rw [mX4_read_L21]
    refine fr_ite ?_ ?_
    · exact hk68 _
    · refine fr_bindP (fun r5 => ?_)
      refine fr_ite ?_ ?_
      · exact hk68 _
      · refine fr_bind (fX4_readLine _ _ _ _) (fun a k h => by unfold MOD_X4_readLine at h; unfold MOD_X4_read; omega) (fun r6 => ?_)
        refine fr_ite ?_ ?_
        · refine fr_bind (fX10_takeSign _ _ _) (fun a k h => by unfold MOD_X10_takeSign at h; unfold MOD_X4_read; omega) (fun r7 => ?_)
          refine fr_ite ?_ ?_
          · exact ih _ _
          · exact fr_some rfl
        · exact fr_some rfl

theorem fX4_read (t : Nat) (p1 : Nat) (σ : St_) : Fr (MOD_X4_read t p1) σ (fun b => b.2) (mX4_read t p1 σ) := by
  rw [mX4_read]
  refine fr_bind (fX1_clear _ _) (fun a k h => by unfold MOD_X1_clear at h; unfold MOD_X4_read; omega) (fun σ1 => ?_)
  refine fr_sI (by unfold MOD_X4_read; omega) (fun σ2 => ?_)
  refine fr_sI (by unfold MOD_X4_read; omega) (fun σ3 => ?_)
  refine fr_sI (by unfold MOD_X4_read; omega) (fun σ4 => ?_)
  refine fmX4_read_L21 _ _ _ ?_ _ _ _
  · intro σ8
    refine fr_bind (fX1_settle _ _) (fun a k h => by unfold MOD_X1_settle at h; unfold MOD_X4_read; omega) (fun σ9 => ?_)
    exact fr_some rfl

def MOD_X5_add (t : Nat) : Nat → Nat → Prop := fun a k => (t + 1 ≤ a ∧ a < t + 8) ∨ (a = t ∧ (k = 7))
theorem fX5_add (t : Nat) (p1 : Int32) (p2 : Int32) (p3 : Int32) (p4 : Int32) (p5 : Bool) (p6 : Int32) (σ : St_) : Fr (MOD_X5_add t) σ (fun b => b.2) (mX5_add t p1 p2 p3 p4 p5 p6 σ) := by
  rw [mX5_add]
  refine fr_ite ?_ ?_
  · refine fr_bv (fun v1 => ?_)
    refine fr_gd (fun hg => ?_)
    have hg := bin_lt hg
    refine fr_sI (by unfold MOD_X5_add; omega) (fun σ2 => ?_)
    refine fr_bv (fun v3 => ?_)
    refine fr_gd (fun hg => ?_)
    have hg := bin_lt hg
    refine fr_sI (by unfold MOD_X5_add; omega) (fun σ4 => ?_)
    refine fr_bv (fun v5 => ?_)
    refine fr_gd (fun hg => ?_)
    have hg := bin_lt hg
    refine fr_sI (by unfold MOD_X5_add; omega) (fun σ6 => ?_)
    refine fr_bv (fun v7 => ?_)
    refine fr_gd (fun hg => ?_)
    have hg := bin_lt hg
    refine fr_sI (by unfold MOD_X5_add; omega) (fun σ8 => ?_)
    refine fr_bv (fun v9 => ?_)
    refine fr_gd (fun hg => ?_)
    have hg := bin_lt hg
    refine fr_sI (by unfold MOD_X5_add; omega) (fun σ10 => ?_)
    refine fr_bv (fun v11 => ?_)
    refine fr_gd (fun hg => ?_)
    have hg := bin_lt hg
    refine fr_sI (by unfold MOD_X5_add; omega) (fun σ12 => ?_)
    refine fr_bv (fun v13 => ?_)
    refine fr_gd (fun hg => ?_)
    have hg := bin_lt hg
    refine fr_sI (by unfold MOD_X5_add; omega) (fun σ14 => ?_)
    refine fr_sI (by unfold MOD_X5_add; omega) (fun σ15 => ?_)
    exact fr_some rfl
  · exact fr_some rfl

def MOD_X5_takeBack (t : Nat) : Nat → Nat → Prop := fun a k => a = t + 7
theorem fX5_takeBack (t : Nat) (p1 : Int32) (p2 : Int32) (σ : St_) : Fr (MOD_X5_takeBack t) σ (fun b => b.2) (mX5_takeBack t p1 p2 σ) := by
  rw [mX5_takeBack]
  refine fr_ite ?_ ?_
  · exact fr_some rfl
  · refine fr_ite ?_ ?_
    · exact fr_some rfl
    · refine fr_gd (fun hg => ?_)
      have hg := bin_lt hg
      refine fr_bv (fun v1 => ?_)
      refine fr_ite ?_ ?_
      · refine fr_gd (fun hg => ?_)
        have hg := bin_lt hg
        refine fr_sI (by unfold MOD_X5_takeBack; omega) (fun σ2 => ?_)
        exact fr_some rfl
      · exact fr_some rfl

def MOD_X5_allAreSo (p1 : Nat) : Nat → Nat → Prop := fun a k => (p1 + 14 ≤ a ∧ a < p1 + 16)
theorem fmX5_allAreSo_L3 (t : Nat) (p1 : Nat) (x2 : Int32) (x3 : Int32) : ∀ (n : Nat) (x4 : Int32) (σ : St_), Fr (MOD_X5_allAreSo p1) σ (fun b => b.2) (mX5_allAreSo_L3 t p1 x2 x3 n x4 σ) := by
  intro n
  induction n with
  | zero => intros; exact fr_none
  | succ n ih =>
    intro x4 σ
    rw [mX5_allAreSo_L3]
    refine fr_ite ?_ ?_
    · exact fr_some rfl
    · refine fr_gd (fun hg => ?_)
      have hg := bin_lt hg
      refine fr_bv (fun v1 => ?_)
      refine fr_jn (fun k3 => ∀ (σ2 : St_), Fr (MOD_X5_allAreSo p1) σ2 (fun b => b.2) (k3 σ2)) ?_ (fun k3 hk3 => ?_)
      · intro σ2
        exact ih _ _
      · refine fr_ite ?_ ?_
        · refine fr_bindP (fun r5 => ?_)
          refine fr_ite ?_ ?_
          · refine fr_gd (fun hg => ?_)
            have hg := bin_lt hg
            refine fr_bv (fun v6 => ?_)
            refine fr_gd (fun hg => ?_)
            have hg := bin_lt hg
            refine fr_bv (fun v7 => ?_)
            refine fr_gd (fun hg => ?_)
            have hg := bin_lt hg
            refine fr_bv (fun v8 => ?_)
            refine fr_bind (fX1_isLawfulFor _ _ _ _ _ _ _ _) (fun a k h => by unfold MOD_X1_isLawfulFor at h; unfold MOD_X5_allAreSo; omega) (fun r9 => ?_)
            refine fr_gd (fun hg => ?_)
            have hg := bin_lt hg
            refine fr_ite ?_ ?_
            · refine fr_bv (fun v10 => ?_)
              refine fr_ite ?_ ?_
              · exact hk3 _
              · exact fr_some rfl
            · exact fr_none
          · exact hk3 _
        · exact hk3 _

theorem fX5_allAreSo (t : Nat) (p1 : Nat) (p2 : Int32) (p3 : Int32) (σ : St_) : Fr (MOD_X5_allAreSo p1) σ (fun b => b.2) (mX5_allAreSo t p1 p2 p3 σ) := by
  rw [mX5_allAreSo]
  exact fmX5_allAreSo_L3 _ _ _ _ _ _ _

def MOD_X5_fit (t : Nat) (p1 : Nat) : Nat → Nat → Prop := fun a k => a = p1 + 9 ∨ (p1 + 14 ≤ a ∧ a < p1 + 16) ∨ a = t + 8 ∨ (a = t ∧ (k = 9 ∨ k = 10 ∨ k = 11))
theorem fmX5_fit_L18 (t : Nat) (p1 : Nat) (x2 : Int32) (x3 : Int32) (x4 : Int32) (k94 : St_ → Option St_) (hk94 : ∀ (y0 : St_), Fr (MOD_X5_fit t p1) y0 (fun b => b) (k94 y0)) : ∀ (n : Nat) (x5 : Int32) (σ : St_), Fr (MOD_X5_fit t p1) σ (fun b => b) (mX5_fit_L18 t p1 x2 x3 x4 k94 n x5 σ) := by
  intro n
  induction n with
  | zero => intros; exact fr_none
  | succ n ih =>
    intro x5 σ
    rw [mX5_fit_L18]
    refine fr_ite ?_ ?_
    · exact hk94 _
    · refine fr_bind (fX1_say _ _ _ _ _) (fun a k h => by unfold MOD_X1_say at h; unfold MOD_X5_fit; omega) (fun σ4 => ?_)
      refine fr_bind (fX5_allAreSo _ _ _ _ _) (fun a k h => by unfold MOD_X5_allAreSo at h; unfold MOD_X5_fit; omega) (fun r5 => ?_)
      refine fr_gd (fun hg => ?_)
      have hg := bin_lt hg
      refine fr_sI (by unfold MOD_X5_fit; omega) (fun σ6 => ?_)
      refine fr_gd (fun hg => ?_)
      have hg := bin_lt hg
      refine fr_ite ?_ ?_
      · refine fr_bv (fun v7 => ?_)
        refine fr_jn (fun k9 => ∀ (σ8 : St_), Fr (MOD_X5_fit t p1) σ8 (fun b => b) (k9 σ8)) ?_ (fun k9 hk9 => ?_)
        · intro σ8
          exact ih _ _
        · refine fr_ite ?_ ?_
          · refine fr_sI (by unfold MOD_X5_fit; omega) (fun σ11 => ?_)
            refine fr_sI (by unfold MOD_X5_fit; omega) (fun σ12 => ?_)
            refine fr_ite ?_ ?_
            · refine fr_sI (by unfold MOD_X5_fit; omega) (fun σ13 => ?_)
              exact hk9 _
            · exact hk9 _
          · exact hk9 _
      · exact fr_none

theorem fX5_fit (t : Nat) (p1 : Nat) (p2 : Int32) (p3 : Int32) (p4 : Int32) (σ : St_) : Fr (MOD_X5_fit t p1) σ (fun b => b) (mX5_fit t p1 p2 p3 p4 σ) := by
  rw [mX5_fit]
  refine fr_sI (by unfold MOD_X5_fit; omega) (fun σ1 => ?_)
  refine fr_sI (by unfold MOD_X5_fit; omega) (fun σ2 => ?_)
  refine fr_sI (by unfold MOD_X5_fit; omega) (fun σ3 => ?_)
  refine fmX5_fit_L18 _ _ _ _ _ _ ?_ _ _ _
  · intro σ14
    refine fr_bind (fX1_sayTruth _ _ _ _) (fun a k h => by unfold MOD_X1_sayTruth at h; unfold MOD_X5_fit; omega) (fun σ15 => ?_)
    exact fr_some rfl

def MOD_X5_mostLeft (p1 : Nat) : Nat → Nat → Prop := fun a k => a = p1 + 9 ∨ (p1 + 14 ≤ a ∧ a < p1 + 16)
theorem fmX5_mostLeft_L23 (t : Nat) (p1 : Nat) (x2 : Int32) (x3 : Int32) (x4 : Int32) (x5 : Int32) (k79 : Int32 → St_ → Option (Int32 × St_)) (hk79 : ∀ (y0 : Int32) (y1 : St_), Fr (MOD_X5_mostLeft p1) y1 (fun b => b.2) (k79 y0 y1)) : ∀ (n : Nat) (x6 : Int32) (x7 : Int32) (σ : St_), Fr (MOD_X5_mostLeft p1) σ (fun b => b.2) (mX5_mostLeft_L23 t p1 x2 x3 x4 x5 k79 n x6 x7 σ) := by
  intro n
  induction n with
  | zero => intros; exact fr_none
  | succ n ih =>
    intro x6 x7 σ
    rw [mX5_mostLeft_L23]
    refine fr_ite ?_ ?_
    · exact hk79 _ _
    · refine fr_gd (fun hg => ?_)
      have hg := bin_lt hg
      refine fr_ite ?_ ?_
      · refine fr_bv (fun v3 => ?_)
        refine fr_jn (fun k6 => ∀ (j4 : Int32) (σ5 : St_), Fr (MOD_X5_mostLeft p1) σ5 (fun b => b.2) (k6 j4 σ5)) ?_ (fun k6 hk6 => ?_)
        · intro j4 σ5
          exact ih _ _ _
        · refine fr_ite ?_ ?_
          · refine fr_bind (fX1_say _ _ _ _ _) (fun a k h => by unfold MOD_X1_say at h; unfold MOD_X5_mostLeft; omega) (fun σ8 => ?_)
            refine fr_bind (fX1_isLawfulFor _ _ _ _ _ _ _ _) (fun a k h => by unfold MOD_X1_isLawfulFor at h; unfold MOD_X5_mostLeft; omega) (fun r9 => ?_)
            refine fr_jn (fun k11 => ∀ (j10 : Bool), Fr (MOD_X5_mostLeft p1) r9.2 (fun b => b.2) (k11 j10)) ?_ (fun k11 hk11 => ?_)
            · intro j10
              refine fr_bv (fun v13 => ?_)
              exact hk6 _ _
            · refine fr_ite ?_ ?_
              · exact hk11 _
              · exact hk11 _
          · exact hk6 _ _
      · exact fr_none

theorem fX5_mostLeft (t : Nat) (p1 : Nat) (p2 : Int32) (p3 : Int32) (p4 : Int32) (p5 : Int32) (σ : St_) : Fr (MOD_X5_mostLeft p1) σ (fun b => b.2) (mX5_mostLeft t p1 p2 p3 p4 p5 σ) := by
  rw [mX5_mostLeft]
  refine fr_jn (fun k1 => Fr (MOD_X5_mostLeft p1) σ (fun b => b.2) k1) ?_ (fun k1 hk1 => ?_)
  · refine fmX5_mostLeft_L23 _ _ _ _ _ _ _ ?_ _ _ _ _
    · intro y14 σ15
      refine fr_bind (fX1_sayTruth _ _ _ _) (fun a k h => by unfold MOD_X1_sayTruth at h; unfold MOD_X5_mostLeft; omega) (fun σ16 => ?_)
      refine fr_bv (fun v17 => ?_)
      exact fr_some rfl
  · refine fr_ite ?_ ?_
    · exact hk1
    · refine fr_ite ?_ ?_
      · exact hk1
      · exact fr_some rfl

def MOD_X5_findQuestion (t : Nat) (p1 : Nat) : Nat → Nat → Prop := fun a k => a = p1 + 9 ∨ (p1 + 14 ≤ a ∧ a < p1 + 16) ∨ (a = t ∧ (k = 12 ∨ k = 13 ∨ k = 14))
theorem fmX5_findQuestion_L20 (t : Nat) (p1 : Nat) (x2 : Int32) (x3 : Int32) (x4 : Int32) (k93 : St_ → Option St_) (hk93 : ∀ (y0 : St_), Fr (MOD_X5_findQuestion t p1) y0 (fun b => b) (k93 y0)) : ∀ (n : Nat) (x5 : Int32) (σ : St_), Fr (MOD_X5_findQuestion t p1) σ (fun b => b) (mX5_findQuestion_L20 t p1 x2 x3 x4 k93 n x5 σ) := by
  intro n
  induction n with
  | zero => intros; exact fr_none
  | succ n ih =>
    intro x5 σ
    rw [mX5_findQuestion_L20]
    refine fr_ite ?_ ?_
    · exact hk93 _
    · refine fr_jn (fun k3 => ∀ (σ2 : St_), Fr (MOD_X5_findQuestion t p1) σ2 (fun b => b) (k3 σ2)) ?_ (fun k3 hk3 => ?_)
      · intro σ2
        exact ih _ _
      · refine fr_ite ?_ ?_
        · exact hk3 _
        · refine fr_bind (fX5_mostLeft _ _ _ _ _ _ _) (fun a k h => by unfold MOD_X5_mostLeft at h; unfold MOD_X5_findQuestion; omega) (fun r5 => ?_)
          refine fr_jn (fun k6 => Fr (MOD_X5_findQuestion t p1) r5.2 (fun b => b) k6) ?_ (fun k6 hk6 => ?_)
          · refine fr_sI (by unfold MOD_X5_findQuestion; omega) (fun σ8 => ?_)
            refine fr_sI (by unfold MOD_X5_findQuestion; omega) (fun σ9 => ?_)
            refine fr_sI (by unfold MOD_X5_findQuestion; omega) (fun σ10 => ?_)
            exact hk3 _
          · refine fr_ite ?_ ?_
            · exact hk6
            · refine fr_ite ?_ ?_
              · exact hk3 _
              · exact hk6

theorem fmX5_findQuestion_L8 (t : Nat) (p1 : Nat) (x2 : Int32) (x3 : Int32) : ∀ (n : Nat) (x4 : Int32) (σ : St_), Fr (MOD_X5_findQuestion t p1) σ (fun b => b) (mX5_findQuestion_L8 t p1 x2 x3 n x4 σ) := by
  intro n
  induction n with
  | zero => intros; exact fr_none
  | succ n ih =>
    intro x4 σ
    rw [mX5_findQuestion_L8]
    refine fr_ite ?_ ?_
    · exact fr_some rfl
    · refine fmX5_findQuestion_L20 _ _ _ _ _ _ ?_ _ _ _
      · intro σ11
        exact ih _ _

theorem fX5_findQuestion (t : Nat) (p1 : Nat) (p2 : Int32) (p3 : Int32) (σ : St_) : Fr (MOD_X5_findQuestion t p1) σ (fun b => b) (mX5_findQuestion t p1 p2 p3 σ) := by
  rw [mX5_findQuestion]
  refine fr_sI (by unfold MOD_X5_findQuestion; omega) (fun σ1 => ?_)
  exact fmX5_findQuestion_L8 _ _ _ _ _ _ _

def MOD_X9_addSet (t : Nat) : Nat → Nat → Prop := fun a k => (t + 5 ≤ a ∧ a < t + 9) ∨ (a = t ∧ (k = 9))
theorem fX9_addSet (t : Nat) (p1 : Nat) (p2 : Int32) (p3 : Int32) (p4 : Int32) (σ : St_) : Fr (MOD_X9_addSet t) σ (fun b => b) (mX9_addSet t p1 p2 p3 p4 σ) := by
  rw [mX9_addSet]
  refine fr_ite ?_ ?_
  · refine fr_bv (fun v1 => ?_)
    refine fr_gd (fun hg => ?_)
    have hg := bin_lt hg
    refine fr_sI (by unfold MOD_X9_addSet; omega) (fun σ2 => ?_)
    refine fr_bv (fun v3 => ?_)
    refine fr_gd (fun hg => ?_)
    have hg := bin_lt hg
    refine fr_sI (by unfold MOD_X9_addSet; omega) (fun σ4 => ?_)
    refine fr_gd (fun hg => ?_)
    have hg := bin_lt hg
    refine fr_bv (fun v5 => ?_)
    refine fr_bv (fun v6 => ?_)
    refine fr_gd (fun hg => ?_)
    have hg := bin_lt hg
    refine fr_sI (by unfold MOD_X9_addSet; omega) (fun σ7 => ?_)
    refine fr_bindP (fun r8 => ?_)
    refine fr_bv (fun v9 => ?_)
    refine fr_gd (fun hg => ?_)
    have hg := bin_lt hg
    refine fr_sI (by unfold MOD_X9_addSet; omega) (fun σ10 => ?_)
    refine fr_jn (fun k12 => ∀ (σ11 : St_), Fr (MOD_X9_addSet t) σ11 (fun b => b) (k12 σ11)) ?_ (fun k12 hk12 => ?_)
    · intro σ11
      refine fr_sI (by unfold MOD_X9_addSet; omega) (fun σ14 => ?_)
      exact fr_some rfl
    · refine fr_ite ?_ ?_
      · exact hk12 _
      · refine fr_bv (fun v15 => ?_)
        refine fr_gd (fun hg => ?_)
        have hg := bin_lt hg
        refine fr_bv (fun v16 => ?_)
        refine fr_gd (fun hg => ?_)
        have hg := bin_lt hg
        refine fr_bv (fun v17 => ?_)
        refine fr_gd (fun hg => ?_)
        have hg := bin_lt hg
        refine fr_sI (by unfold MOD_X9_addSet; omega) (fun σ18 => ?_)
        refine fr_bv (fun v19 => ?_)
        refine fr_gd (fun hg => ?_)
        have hg := bin_lt hg
        refine fr_bv (fun v20 => ?_)
        refine fr_bindP (fun r21 => ?_)
        refine fr_gd (fun hg => ?_)
        have hg := bin_lt hg
        refine fr_sI (by unfold MOD_X9_addSet; omega) (fun σ22 => ?_)
        exact hk12 _
  · exact fr_some rfl

def MOD_X9_splitStock (t : Nat) : Nat → Nat → Prop := fun a k => (t + 5 ≤ a ∧ a < t + 9) ∨ (a = t ∧ (k = 9))
theorem fmX9_splitStock_L49 (t : Nat) (p1 : Nat) (p2 : Nat) (x3 : Int32) (x4 : Int32) (x5 : Int32) (k82 : St_ → Option St_) (hk82 : ∀ (y0 : St_), Fr (MOD_X9_splitStock t) y0 (fun b => b) (k82 y0)) : ∀ (n : Nat) (x6 : Int32) (σ : St_), Fr (MOD_X9_splitStock t) σ (fun b => b) (mX9_splitStock_L49 t p1 p2 x3 x4 x5 k82 n x6 σ) := by
  intro n
  induction n with
  | zero => intros; exact fr_none
  | succ n ih =>
    intro x6 σ
    rw [mX9_splitStock_L49]
    refine fr_ite ?_ ?_
    · exact hk82 _
    · refine fr_jn (fun k9 => ∀ (σ8 : St_), Fr (MOD_X9_splitStock t) σ8 (fun b => b) (k9 σ8)) ?_ (fun k9 hk9 => ?_)
      · intro σ8
        exact ih _ _
      · refine fr_ite ?_ ?_
        · exact hk9 _
        · refine fr_bind (fX9_addSet _ _ _ _ _ _) (fun a k h => by unfold MOD_X9_addSet at h; unfold MOD_X9_splitStock; omega) (fun σ11 => ?_)
          exact hk9 _

theorem fmX9_splitStock_L18 (t : Nat) (p1 : Nat) (p2 : Nat) (x3 : Int32) (x4 : Int32) : ∀ (n : Nat) (x5 : Int32) (σ : St_), Fr (MOD_X9_splitStock t) σ (fun b => b) (mX9_splitStock_L18 t p1 p2 x3 x4 n x5 σ) := by
  intro n
  induction n with
  | zero => intros; exact fr_none
  | succ n ih =>
    intro x5 σ
    rw [mX9_splitStock_L18]
    refine fr_ite ?_ ?_
    · exact fr_some rfl
    · refine fr_jn (fun k5 => ∀ (σ4 : St_), Fr (MOD_X9_splitStock t) σ4 (fun b => b) (k5 σ4)) ?_ (fun k5 hk5 => ?_)
      · intro σ4
        exact ih _ _
      · refine fr_ite ?_ ?_
        · exact hk5 _
        · refine fr_bind (fX9_addSet _ _ _ _ _ _) (fun a k h => by unfold MOD_X9_addSet at h; unfold MOD_X9_splitStock; omega) (fun σ7 => ?_)
          refine fmX9_splitStock_L49 _ _ _ _ _ _ _ ?_ _ _ _
          · intro σ12
            exact hk5 _

theorem fX9_splitStock (t : Nat) (p1 : Nat) (p2 : Nat) (p3 : Int32) (σ : St_) : Fr (MOD_X9_splitStock t) σ (fun b => b) (mX9_splitStock t p1 p2 p3 σ) := by
  rw [mX9_splitStock]
  refine fr_bv (fun v1 => ?_)
  refine fr_gd (fun hg => ?_)
  have hg := bin_lt hg
  refine fr_bv (fun v2 => ?_)
  refine fr_sI (by unfold MOD_X9_splitStock; omega) (fun σ3 => ?_)
  exact fmX9_splitStock_L18 _ _ _ _ _ _ _ _

def MOD_X9_addSwap (t : Nat) : Nat → Nat → Prop := fun a k => (t + 1 ≤ a ∧ a < t + 5) ∨ (a = t ∧ (k = 4))
theorem fX9_addSwap (t : Nat) (p1 : Nat) (p2 : Int32) (p3 : Int32) (p4 : Int32) (p5 : Int32) (σ : St_) : Fr (MOD_X9_addSwap t) σ (fun b => b) (mX9_addSwap t p1 p2 p3 p4 p5 σ) := by
  rw [mX9_addSwap]
  refine fr_ite ?_ ?_
  · refine fr_bv (fun v1 => ?_)
    refine fr_gd (fun hg => ?_)
    have hg := bin_lt hg
    refine fr_sI (by unfold MOD_X9_addSwap; omega) (fun σ2 => ?_)
    refine fr_bv (fun v3 => ?_)
    refine fr_gd (fun hg => ?_)
    have hg := bin_lt hg
    refine fr_sI (by unfold MOD_X9_addSwap; omega) (fun σ4 => ?_)
    refine fr_gd (fun hg => ?_)
    have hg := bin_lt hg
    refine fr_bv (fun v5 => ?_)
    refine fr_jn (fun k7 => ∀ (j6 : Int32), Fr (MOD_X9_addSwap t) σ4 (fun b => b) (k7 j6)) ?_ (fun k7 hk7 => ?_)
    · intro j6
      refine fr_bv (fun v9 => ?_)
      refine fr_gd (fun hg => ?_)
      have hg := bin_lt hg
      refine fr_sI (by unfold MOD_X9_addSwap; omega) (fun σ10 => ?_)
      refine fr_bindP (fun r11 => ?_)
      refine fr_gd (fun hg => ?_)
      have hg := bin_lt hg
      refine fr_bv (fun v12 => ?_)
      refine fr_bv (fun v13 => ?_)
      refine fr_gd (fun hg => ?_)
      have hg := bin_lt hg
      refine fr_sI (by unfold MOD_X9_addSwap; omega) (fun σ14 => ?_)
      refine fr_sI (by unfold MOD_X9_addSwap; omega) (fun σ15 => ?_)
      exact fr_some rfl
    · refine fr_ite ?_ ?_
      · refine fr_gd (fun hg => ?_)
        have hg := bin_lt hg
        refine fr_bv (fun v16 => ?_)
        exact hk7 _
      · refine fr_gd (fun hg => ?_)
        have hg := bin_lt hg
        refine fr_bv (fun v17 => ?_)
        refine fr_gd (fun hg => ?_)
        have hg := bin_lt hg
        refine fr_bv (fun v18 => ?_)
        exact hk7 _
  · exact fr_some rfl

def MOD_X9_gatherFor (t : Nat) (p1 : Nat) : Nat → Nat → Prop := fun a k => (p1 + 14 ≤ a ∧ a < p1 + 16) ∨ (t + 1 ≤ a ∧ a < t + 5) ∨ (a = t ∧ (k = 4))
theorem fmX9_gatherFor_L3 (t : Nat) (p1 : Nat) (x2 : Int32) (x3 : Int32) (x4 : Int32) (x5 : Int32) (x6 : Int32) : ∀ (n : Nat) (x7 : Int32) (σ : St_), Fr (MOD_X9_gatherFor t p1) σ (fun b => b) (mX9_gatherFor_L3 t p1 x2 x3 x4 x5 x6 n x7 σ) := by
  intro n
  induction n with
  | zero => intros; exact fr_none
  | succ n ih =>
    intro x7 σ
    rw [mX9_gatherFor_L3]
    refine fr_ite ?_ ?_
    · exact fr_some rfl
    · refine fr_gd (fun hg => ?_)
      have hg := bin_lt hg
      refine fr_bv (fun v1 => ?_)
      refine fr_jn (fun k3 => ∀ (j2 : Int32), Fr (MOD_X9_gatherFor t p1) σ (fun b => b) (k3 j2)) ?_ (fun k3 hk3 => ?_)
      · intro j2
        refine fr_gd (fun hg => ?_)
        have hg := bin_lt hg
        refine fr_bv (fun v5 => ?_)
        refine fr_gd (fun hg => ?_)
        have hg := bin_lt hg
        refine fr_bv (fun v6 => ?_)
        refine fr_jn (fun k8 => ∀ (σ7 : St_), Fr (MOD_X9_gatherFor t p1) σ7 (fun b => b) (k8 σ7)) ?_ (fun k8 hk8 => ?_)
        · intro σ7
          exact ih _ _
        · refine fr_ite ?_ ?_
          · exact hk8 _
          · refine fr_bindP (fun r10 => ?_)
            refine fr_ite ?_ ?_
            · exact hk8 _
            · refine fr_gd (fun hg => ?_)
              have hg := bin_lt hg
              refine fr_bv (fun v11 => ?_)
              refine fr_gd (fun hg => ?_)
              have hg := bin_lt hg
              refine fr_bv (fun v12 => ?_)
              refine fr_gd (fun hg => ?_)
              have hg := bin_lt hg
              refine fr_bv (fun v13 => ?_)
              refine fr_bind (fX1_isLawfulFor _ _ _ _ _ _ _ _) (fun a k h => by unfold MOD_X1_isLawfulFor at h; unfold MOD_X9_gatherFor; omega) (fun r14 => ?_)
              refine fr_ite ?_ ?_
              · refine fr_bind (fX9_addSwap _ _ _ _ _ _ _) (fun a k h => by unfold MOD_X9_addSwap at h; unfold MOD_X9_gatherFor; omega) (fun σ15 => ?_)
                exact hk8 _
              · exact hk8 _
      · refine fr_ite ?_ ?_
        · exact hk3 _
        · exact hk3 _

theorem fX9_gatherFor (t : Nat) (p1 : Nat) (p2 : Int32) (p3 : Int32) (p4 : Int32) (p5 : Int32) (p6 : Int32) (σ : St_) : Fr (MOD_X9_gatherFor t p1) σ (fun b => b) (mX9_gatherFor t p1 p2 p3 p4 p5 p6 σ) := by
  rw [mX9_gatherFor]
  exact fmX9_gatherFor_L3 _ _ _ _ _ _ _ _ _ _

def MOD_X9_gather (t : Nat) (p1 : Nat) : Nat → Nat → Prop := fun a k => (p1 + 14 ≤ a ∧ a < p1 + 16) ∨ (t + 1 ≤ a ∧ a < t + 9) ∨ (a = t ∧ (k = 4 ∨ k = 9))
theorem fmX9_gather_L60 (t : Nat) (p1 : Nat) (p2 : Nat) (x3 : Int32) (x4 : Int32) (x5 : Int32) (k119 : St_ → Option St_) (hk119 : ∀ (y0 : St_), Fr (MOD_X9_gather t p1) y0 (fun b => b) (k119 y0)) : ∀ (n : Nat) (x6 : Int32) (σ : St_), Fr (MOD_X9_gather t p1) σ (fun b => b) (mX9_gather_L60 t p1 p2 x3 x4 x5 k119 n x6 σ) := by
  intro n
  induction n with
  | zero => intros; exact fr_none
  | succ n ih =>
    intro x6 σ
    rw [mX9_gather_L60]
    refine fr_ite ?_ ?_
    · exact hk119 _
    · refine fr_bindP (fun r8 => ?_)
      refine fr_ite ?_ ?_
      · exact hk119 _
      · refine fr_gd (fun hg => ?_)
        have hg := bin_lt hg
        refine fr_bv (fun v9 => ?_)
        refine fr_jn (fun k11 => ∀ (σ10 : St_), Fr (MOD_X9_gather t p1) σ10 (fun b => b) (k11 σ10)) ?_ (fun k11 hk11 => ?_)
        · intro σ10
          exact ih _ _
        · refine fr_ite ?_ ?_
          · exact hk11 _
          · refine fr_bind (fX9_gatherFor _ _ _ _ _ _ _ _) (fun a k h => by unfold MOD_X9_gatherFor at h; unfold MOD_X9_gather; omega) (fun σ13 => ?_)
            exact hk11 _

theorem fmX9_gather_L48 (t : Nat) (p1 : Nat) (p2 : Nat) (x3 : Int32) (x4 : Int32) : ∀ (n : Nat) (x5 : Int32) (σ : St_), Fr (MOD_X9_gather t p1) σ (fun b => b) (mX9_gather_L48 t p1 p2 x3 x4 n x5 σ) := by
  intro n
  induction n with
  | zero => intros; exact fr_none
  | succ n ih =>
    intro x5 σ
    rw [mX9_gather_L48]
    refine fr_ite ?_ ?_
    · exact fr_some rfl
    · refine fmX9_gather_L60 _ _ _ _ _ _ _ ?_ _ _ _
      · intro σ14
        exact ih _ _

theorem fX9_gather (t : Nat) (p1 : Nat) (p2 : Nat) (p3 : Int32) (σ : St_) : Fr (MOD_X9_gather t p1) σ (fun b => b) (mX9_gather t p1 p2 p3 σ) := by
  rw [mX9_gather]
  refine fr_sI (by unfold MOD_X9_gather; omega) (fun σ1 => ?_)
  refine fr_ite ?_ ?_
  · refine fr_bind (fX9_splitStock _ _ _ _ _) (fun a k h => by unfold MOD_X9_splitStock at h; unfold MOD_X9_gather; omega) (fun σ2 => ?_)
    refine fr_gd (fun hg => ?_)
    have hg := bin_lt hg
    refine fr_bv (fun v3 => ?_)
    refine fr_bv (fun v4 => ?_)
    refine fr_gd (fun hg => ?_)
    have hg := bin_lt hg
    refine fr_bv (fun v5 => ?_)
    refine fr_bindP (fun r6 => ?_)
    refine fr_bv (fun v7 => ?_)
    exact fmX9_gather_L48 _ _ _ _ _ _ _ _
  · exact fr_some rfl

def MOD_X8_exchange (t : Nat) : Nat → Nat → Prop := fun a k => a = t + 1
theorem fX8_exchange (t : Nat) (p1 : Int32) (p2 : Int32) (p3 : Int32) (p4 : Int32) (σ : St_) : Fr (MOD_X8_exchange t) σ (fun b => b) (mX8_exchange t p1 p2 p3 p4 σ) := by
  rw [mX8_exchange]
  refine fr_gd (fun hg => ?_)
  have hg := bin_lt hg
  refine fr_bv (fun v1 => ?_)
  refine fr_gd (fun hg => ?_)
  have hg := bin_lt hg
  refine fr_sI (by unfold MOD_X8_exchange; omega) (fun σ2 => ?_)
  refine fr_bv (fun v3 => ?_)
  refine fr_gd (fun hg => ?_)
  have hg := bin_lt hg
  refine fr_bv (fun v4 => ?_)
  refine fr_bv (fun v5 => ?_)
  refine fr_gd (fun hg => ?_)
  have hg := bin_lt hg
  refine fr_sI (by unfold MOD_X8_exchange; omega) (fun σ6 => ?_)
  exact fr_some rfl

def MOD_X8_passHour (t : Nat) : Nat → Nat → Prop := fun a k => (a = t ∧ (k = 2 ∨ k = 3 ∨ k = 4))
theorem fX8_passHour (t : Nat) (p1 : Int32) (σ : St_) : Fr (MOD_X8_passHour t) σ (fun b => b) (mX8_passHour t p1 σ) := by
  rw [mX8_passHour]
  refine fr_sI (by unfold MOD_X8_passHour; omega) (fun σ1 => ?_)
  refine fr_ite ?_ ?_
  · exact fr_some rfl
  · refine fr_sI (by unfold MOD_X8_passHour; omega) (fun σ2 => ?_)
    refine fr_sI (by unfold MOD_X8_passHour; omega) (fun σ3 => ?_)
    refine fr_sI (by unfold MOD_X8_passHour; omega) (fun σ4 => ?_)
    exact fr_some rfl

def MOD_X6_run (t : Nat) (p1 : Nat) : Nat → Nat → Prop := fun a k => (p1 + 14 ≤ a ∧ a < p1 + 16) ∨ (t + 2 ≤ a ∧ a < t + 10) ∨ (t + 11 ≤ a ∧ a < t + 13) ∨ (a = t + 1 ∧ (k = 4 ∨ k = 9)) ∨ (a = t + 10 ∧ (k = 2 ∨ k = 3 ∨ k = 4))
theorem fmX6_run_L26 (t : Nat) (p1 : Nat) (p2 : Nat) (x3 : Int32) (x4 : Int32) (x6 : Int32) (k127 : Int32 → St_ → Option (Int32 × St_)) (hk127 : ∀ (y0 : Int32) (y1 : St_), Fr (MOD_X6_run t p1) y1 (fun b => b.2) (k127 y0 y1)) : ∀ (n : Nat) (x5 : Int32) (x7 : Int32) (σ : St_), Fr (MOD_X6_run t p1) σ (fun b => b.2) (mX6_run_L26 t p1 p2 x3 x4 x6 k127 n x5 x7 σ) := by
  intro n
  induction n with
  | zero => intros; exact fr_none
  | succ n ih =>
    intro x5 x7 σ
    rw [mX6_run_L26]
    refine fr_ite ?_ ?_
    · exact hk127 _ _
    · refine fr_bind (fX9_gather _ _ _ _ _) (fun a k h => by unfold MOD_X9_gather at h; unfold MOD_X6_run; omega) (fun σ2 => ?_)
      refine fr_bindP (fun r3 => ?_)
      refine fr_jn (fun k6 => ∀ (j4 : Int32) (σ5 : St_), Fr (MOD_X6_run t p1) σ5 (fun b => b.2) (k6 j4 σ5)) ?_ (fun k6 hk6 => ?_)
      · intro j4 σ5
        exact ih _ _ _
      · refine fr_ite ?_ ?_
        · exact hk6 _ _
        · refine fr_gd (fun hg => ?_)
          have hg := bin_lt hg
          refine fr_bv (fun v8 => ?_)
          refine fr_ite ?_ ?_
          · exact hk6 _ _
          · refine fr_gd (fun hg => ?_)
            have hg := bin_lt hg
            refine fr_bv (fun v9 => ?_)
            refine fr_gd (fun hg => ?_)
            have hg := bin_lt hg
            refine fr_bv (fun v10 => ?_)
            refine fr_gd (fun hg => ?_)
            have hg := bin_lt hg
            refine fr_bv (fun v11 => ?_)
            refine fr_bind (fX8_exchange _ _ _ _ _ _) (fun a k h => by unfold MOD_X8_exchange at h; unfold MOD_X6_run; omega) (fun σ12 => ?_)
            exact hk6 _ _

theorem fmX6_run_L14 (t : Nat) (p1 : Nat) (p2 : Nat) (x3 : Int32) (x4 : Int32) : ∀ (n : Nat) (x5 : Int32) (x6 : Int32) (σ : St_), Fr (MOD_X6_run t p1) σ (fun b => b.2) (mX6_run_L14 t p1 p2 x3 x4 n x5 x6 σ) := by
  intro n
  induction n with
  | zero => intros; exact fr_none
  | succ n ih =>
    intro x5 x6 σ
    rw [mX6_run_L14]
    refine fr_ite ?_ ?_
    · exact fr_some rfl
    · refine fmX6_run_L26 _ _ _ _ _ _ _ ?_ _ _ _ _
      · intro y13 σ14
        refine fr_bind (fX8_passHour _ _ _) (fun a k h => by unfold MOD_X8_passHour at h; unfold MOD_X6_run; omega) (fun σ15 => ?_)
        refine fr_ite ?_ ?_
        · exact ih _ _ _
        · exact fr_some rfl

theorem fX6_run (t : Nat) (p1 : Nat) (p2 : Nat) (p3 : Int32) (p4 : Int32) (σ : St_) : Fr (MOD_X6_run t p1) σ (fun b => b.2) (mX6_run t p1 p2 p3 p4 σ) := by
  rw [mX6_run]
  refine fr_bind (fX8_copy _ _ _) (fun a k h => by unfold MOD_X8_copy at h; unfold MOD_X6_run; omega) (fun σ1 => ?_)
  exact fmX6_run_L14 _ _ _ _ _ _ _ _ _

def MOD_X6_findLie (t : Nat) (p1 : Nat) : Nat → Nat → Prop := fun a k => a = p1 + 9 ∨ (p1 + 14 ≤ a ∧ a < p1 + 16) ∨ (t + 2 ≤ a ∧ a < t + 10) ∨ (t + 11 ≤ a ∧ a < t + 13) ∨ (a = t + 1 ∧ (k = 4 ∨ k = 9)) ∨ (a = t + 10 ∧ (k = 2 ∨ k = 3 ∨ k = 4)) ∨ (a = t ∧ (k = 2 ∨ k = 3 ∨ k = 4))
theorem fmX6_findLie_L54 (t : Nat) (p1 : Nat) (p2 : Nat) (x3 : Int32) (x4 : Int32) (x5 : Int32) (k130 : St_ → Option St_) (hk130 : ∀ (y0 : St_), Fr (MOD_X6_findLie t p1) y0 (fun b => b) (k130 y0)) : ∀ (n : Nat) (x6 : Int32) (σ : St_), Fr (MOD_X6_findLie t p1) σ (fun b => b) (mX6_findLie_L54 t p1 p2 x3 x4 x5 k130 n x6 σ) := by
  intro n
  induction n with
  | zero => intros; exact fr_none
  | succ n ih =>
    intro x6 σ
    rw [mX6_findLie_L54]
    refine fr_ite ?_ ?_
    · exact hk130 _
    · refine fr_bind (fX1_say _ _ _ _ _) (fun a k h => by unfold MOD_X1_say at h; unfold MOD_X6_findLie; omega) (fun σ7 => ?_)
      refine fr_bind (fX6_run _ _ _ _ _ _) (fun a k h => by unfold MOD_X6_run at h; unfold MOD_X6_findLie; omega) (fun r8 => ?_)
      refine fr_gd (fun hg => ?_)
      have hg := bin_lt hg
      refine fr_bv (fun v9 => ?_)
      refine fr_bindP (fun r10 => ?_)
      refine fr_jn (fun k12 => ∀ (σ11 : St_), Fr (MOD_X6_findLie t p1) σ11 (fun b => b) (k12 σ11)) ?_ (fun k12 hk12 => ?_)
      · intro σ11
        exact ih _ _
      · refine fr_ite ?_ ?_
        · exact hk12 _
        · refine fr_sI (by unfold MOD_X6_findLie; omega) (fun σ14 => ?_)
          refine fr_sI (by unfold MOD_X6_findLie; omega) (fun σ15 => ?_)
          refine fr_sI (by unfold MOD_X6_findLie; omega) (fun σ16 => ?_)
          exact hk12 _

theorem fmX6_findLie_L42 (t : Nat) (p1 : Nat) (p2 : Nat) (x3 : Int32) (x4 : Int32) : ∀ (n : Nat) (x5 : Int32) (σ : St_), Fr (MOD_X6_findLie t p1) σ (fun b => b) (mX6_findLie_L42 t p1 p2 x3 x4 n x5 σ) := by
  intro n
  induction n with
  | zero => intros; exact fr_none
  | succ n ih =>
    intro x5 σ
    rw [mX6_findLie_L42]
    refine fr_ite ?_ ?_
    · exact fr_some rfl
    · refine fmX6_findLie_L54 _ _ _ _ _ _ _ ?_ _ _ _
      · intro σ17
        refine fr_bind (fX1_sayTruth _ _ _ _) (fun a k h => by unfold MOD_X1_sayTruth at h; unfold MOD_X6_findLie; omega) (fun σ18 => ?_)
        exact ih _ _

theorem fX6_findLie (t : Nat) (p1 : Nat) (p2 : Nat) (p3 : Int32) (p4 : Int32) (σ : St_) : Fr (MOD_X6_findLie t p1) σ (fun b => b) (mX6_findLie t p1 p2 p3 p4 σ) := by
  rw [mX6_findLie]
  refine fr_sI (by unfold MOD_X6_findLie; omega) (fun σ1 => ?_)
  refine fr_sI (by unfold MOD_X6_findLie; omega) (fun σ2 => ?_)
  refine fr_bind (fX6_run _ _ _ _ _ _) (fun a k h => by unfold MOD_X6_run at h; unfold MOD_X6_findLie; omega) (fun r3 => ?_)
  refine fr_gd (fun hg => ?_)
  have hg := bin_lt hg
  refine fr_bv (fun v4 => ?_)
  refine fr_bindP (fun r5 => ?_)
  refine fr_sI (by unfold MOD_X6_findLie; omega) (fun σ6 => ?_)
  exact fmX6_findLie_L42 _ _ _ _ _ _ _ _

def MOD_X7_come (t : Nat) : Nat → Nat → Prop := fun a k => (t + 13 ≤ a ∧ a < t + 16) ∨ (a = t ∧ (k = 5))
theorem fmX7_come_L26 (t : Nat) (σ : St_) (x1 : Int64) (x3 : Int32) (k94 : Int32 → Option (Bool × St_)) (k61 : Int32 → Option (Bool × St_)) (hk94 : ∀ (y0 : Int32), Fr (MOD_X7_come t) σ (fun b => b.2) (k94 y0)) (hk61 : ∀ (y0 : Int32), Fr (MOD_X7_come t) σ (fun b => b.2) (k61 y0)) : ∀ (n : Nat) (x4 : Int32) (x5 : Int32), Fr (MOD_X7_come t) σ (fun b => b.2) (mX7_come_L26 t σ x1 x3 k94 k61 n x4 x5) := by
  intro n
  induction n with
  | zero => intros; exact fr_none
  | succ n ih =>
    intro x4 x5
    rw [mX7_come_L26]
    refine fr_ite ?_ ?_
    · exact hk94 _
    · refine fr_gd (fun hg => ?_)
      have hg := bin_lt hg
      refine fr_bv (fun v2 => ?_)
      refine fr_ite ?_ ?_
      · exact hk94 _
      · refine fr_ite ?_ ?_
        · refine fr_gd (fun hg => ?_)
          have hg := bin_lt hg
          refine fr_bv (fun v3 => ?_)
          refine fr_ite ?_ ?_
          · exact fr_some rfl
          · refine fr_bv (fun v4 => ?_)
            exact ih _ _
        · exact hk61 _

theorem fX7_come (t : Nat) (p1 : Int64) (p2 : Int32) (σ : St_) : Fr (MOD_X7_come t) σ (fun b => b.2) (mX7_come t p1 p2 σ) := by
  rw [mX7_come]
  refine fr_bv (fun v1 => ?_)
  refine fmX7_come_L26 _ _ _ _ _ _ ?_ ?_ _ _ _
  · intro y5
    refine fr_ite ?_ ?_
    · refine fr_gd (fun hg => ?_)
      have hg := bin_lt hg
      refine fr_sI (by unfold MOD_X7_come; omega) (fun σ6 => ?_)
      refine fr_bv (fun v7 => ?_)
      refine fr_gd (fun hg => ?_)
      have hg := bin_lt hg
      refine fr_sL (by unfold MOD_X7_come; omega) (fun σ8 => ?_)
      refine fr_bv (fun v9 => ?_)
      refine fr_gd (fun hg => ?_)
      have hg := bin_lt hg
      refine fr_sI (by unfold MOD_X7_come; omega) (fun σ10 => ?_)
      refine fr_sI (by unfold MOD_X7_come; omega) (fun σ11 => ?_)
      exact fr_some rfl
    · exact fr_some rfl
  · intro y12
    refine fr_ite ?_ ?_
    · refine fr_gd (fun hg => ?_)
      have hg := bin_lt hg
      refine fr_sI (by unfold MOD_X7_come; omega) (fun σ13 => ?_)
      refine fr_bv (fun v14 => ?_)
      refine fr_gd (fun hg => ?_)
      have hg := bin_lt hg
      refine fr_sL (by unfold MOD_X7_come; omega) (fun σ15 => ?_)
      refine fr_bv (fun v16 => ?_)
      refine fr_gd (fun hg => ?_)
      have hg := bin_lt hg
      refine fr_sI (by unfold MOD_X7_come; omega) (fun σ17 => ?_)
      refine fr_sI (by unfold MOD_X7_come; omega) (fun σ18 => ?_)
      exact fr_some rfl
    · exact fr_some rfl

def MOD_X7_begin (t : Nat) : Nat → Nat → Prop := fun a k => (t + 11 ≤ a ∧ a < t + 16) ∨ (a = t ∧ (k = 5 ∨ k = 6 ∨ k = 7)) ∨ (a = t + 10 ∧ (k = 2 ∨ k = 3 ∨ k = 4))
theorem fmX7_begin_L43 (t : Nat) (p1 : Nat) (k88 : Int64 → St_ → Option St_) (hk88 : ∀ (y0 : Int64) (y1 : St_), Fr (MOD_X7_begin t) y1 (fun b => b) (k88 y0 y1)) : ∀ (n : Nat) (x3 : Int64) (x5 : Int32) (σ : St_), Fr (MOD_X7_begin t) σ (fun b => b) (mX7_begin_L43 t p1 k88 n x3 x5 σ) := by
  intro n
  induction n with
  | zero => intros; exact fr_none
  | succ n ih =>
    intro x3 x5 σ
    rw [mX7_begin_L43]
    refine fr_ite ?_ ?_
    · exact hk88 _ _
    · refine fr_gd (fun hg => ?_)
      have hg := bin_lt hg
      refine fr_bv (fun v8 => ?_)
      refine fr_sI (by unfold MOD_X7_begin; omega) (fun σ9 => ?_)
      refine fr_gd (fun hg => ?_)
      have hg := bin_lt hg
      refine fr_bv (fun v10 => ?_)
      refine fr_bv (fun v11 => ?_)
      exact ih _ _ _

theorem fX7_begin (t : Nat) (p1 : Nat) (p2 : Int32) (σ : St_) : Fr (MOD_X7_begin t) σ (fun b => b) (mX7_begin t p1 p2 σ) := by
  rw [mX7_begin]
  refine fr_bind (fX8_copy _ _ _) (fun a k h => by unfold MOD_X8_copy at h; unfold MOD_X7_begin; omega) (fun σ1 => ?_)
  refine fr_bind (fJ7_fill_53178 _ _ _ _) (fun a k h => by unfold MOD_J7_fill_53178 at h; unfold MOD_X7_begin; omega) (fun σ2 => ?_)
  refine fr_sI (by unfold MOD_X7_begin; omega) (fun σ3 => ?_)
  refine fr_sI (by unfold MOD_X7_begin; omega) (fun σ4 => ?_)
  refine fr_bv (fun v5 => ?_)
  refine fr_gd (fun hg => ?_)
  have hg := bin_lt hg
  refine fr_bv (fun v6 => ?_)
  refine fr_sI (by unfold MOD_X7_begin; omega) (fun σ7 => ?_)
  refine fmX7_begin_L43 _ _ _ ?_ _ _ _ _
  · intro y12 σ13
    refine fr_bind (fX7_come _ _ _ _) (fun a k h => by unfold MOD_X7_come at h; unfold MOD_X7_begin; omega) (fun r14 => ?_)
    exact fr_some rfl

def MOD_X7_setScene (t : Nat) : Nat → Nat → Prop := fun a k => a = t + 11
theorem fmX7_setScene_L3 (t : Nat) (x1 : Int64) (x3 : Int32) (k37 : St_ → Option St_) (hk37 : ∀ (y0 : St_), Fr (MOD_X7_setScene t) y0 (fun b => b) (k37 y0)) : ∀ (n : Nat) (x4 : Int32) (σ : St_), Fr (MOD_X7_setScene t) σ (fun b => b) (mX7_setScene_L3 t x1 x3 k37 n x4 σ) := by
  intro n
  induction n with
  | zero => intros; exact fr_none
  | succ n ih =>
    intro x4 σ
    rw [mX7_setScene_L3]
    refine fr_ite ?_ ?_
    · exact hk37 _
    · refine fr_gd (fun hg => ?_)
      have hg := bin_lt hg
      refine fr_sI (by unfold MOD_X7_setScene; omega) (fun σ1 => ?_)
      exact ih _ _

theorem fX7_setScene (t : Nat) (p1 : Int64) (p2 : Int32) (σ : St_) : Fr (MOD_X7_setScene t) σ (fun b => b) (mX7_setScene t p1 p2 σ) := by
  rw [mX7_setScene]
  refine fmX7_setScene_L3 _ _ _ _ ?_ _ _ _
  · intro σ2
    refine fr_bindP (fun r3 => ?_)
    refine fr_bv (fun v4 => ?_)
    refine fr_gd (fun hg => ?_)
    have hg := bin_lt hg
    refine fr_sI (by unfold MOD_X7_setScene; omega) (fun σ5 => ?_)
    exact fr_some rfl

def MOD_X7_goOn (t : Nat) (p1 : Nat) : Nat → Nat → Prop := fun a k => (t + 2 ≤ a ∧ a < t + 10) ∨ a = t + 11 ∨ (t + 13 ≤ a ∧ a < t + 16) ∨ (p1 + 14 ≤ a ∧ a < p1 + 16) ∨ (a = t ∧ (k = 5)) ∨ (a = t + 1 ∧ (k = 4 ∨ k = 9))
theorem fmX7_goOn_L44 (t : Nat) (p1 : Nat) (x2 : Int32) (x4 : Int32) (x5 : Int64) (k118 : St_ → Option (Bool × St_)) (hk118 : ∀ (y0 : St_), Fr (MOD_X7_goOn t p1) y0 (fun b => b.2) (k118 y0)) : ∀ (n : Nat) (x7 : Int32) (σ : St_), Fr (MOD_X7_goOn t p1) σ (fun b => b.2) (mX7_goOn_L44 t p1 x2 x4 x5 k118 n x7 σ) := by
  intro n
  induction n with
  | zero => intros; exact fr_none
  | succ n ih =>
    intro x7 σ
    rw [mX7_goOn_L44]
    refine fr_ite ?_ ?_
    · exact hk118 _
    · refine fr_gd (fun hg => ?_)
      have hg := bin_lt hg
      refine fr_bv (fun v4 => ?_)
      refine fr_gd (fun hg => ?_)
      have hg := bin_lt hg
      refine fr_bv (fun v5 => ?_)
      refine fr_bv (fun v6 => ?_)
      refine fr_gd (fun hg => ?_)
      have hg := bin_lt hg
      refine fr_bv (fun v7 => ?_)
      refine fr_bind (fX7_come _ _ _ _) (fun a k h => by unfold MOD_X7_come at h; unfold MOD_X7_goOn; omega) (fun r8 => ?_)
      refine fr_ite ?_ ?_
      · exact ih _ _
      · exact fr_some rfl

theorem fmX7_goOn_L3 (t : Nat) (p1 : Nat) (x2 : Int32) : ∀ (n : Nat) (x4 : Int32) (σ : St_), Fr (MOD_X7_goOn t p1) σ (fun b => b.2) (mX7_goOn_L3 t p1 x2 n x4 σ) := by
  intro n
  induction n with
  | zero => intros; exact fr_none
  | succ n ih =>
    intro x4 σ
    rw [mX7_goOn_L3]
    refine fr_ite ?_ ?_
    · exact fr_some rfl
    · refine fr_gd (fun hg => ?_)
      have hg := bin_lt hg
      refine fr_bv (fun v1 => ?_)
      refine fr_bind (fX7_setScene _ _ _ _) (fun a k h => by unfold MOD_X7_setScene at h; unfold MOD_X7_goOn; omega) (fun σ2 => ?_)
      refine fr_bind (fX9_gather _ _ _ _ _) (fun a k h => by unfold MOD_X9_gather at h; unfold MOD_X7_goOn; omega) (fun σ3 => ?_)
      refine fmX7_goOn_L44 _ _ _ _ _ _ ?_ _ _ _
      · intro σ9
        refine fr_bind (fX7_come _ _ _ _) (fun a k h => by unfold MOD_X7_come at h; unfold MOD_X7_goOn; omega) (fun r10 => ?_)
        refine fr_ite ?_ ?_
        · exact ih _ _
        · exact fr_some rfl

theorem fX7_goOn (t : Nat) (p1 : Nat) (p2 : Int32) (p3 : Int32) (σ : St_) : Fr (MOD_X7_goOn t p1) σ (fun b => b.2) (mX7_goOn t p1 p2 p3 σ) := by
  rw [mX7_goOn]
  exact fmX7_goOn_L3 _ _ _ _ _ _

def MOD_X7_run (t : Nat) (p1 : Nat) : Nat → Nat → Prop := fun a k => (t + 2 ≤ a ∧ a < t + 10) ∨ (t + 11 ≤ a ∧ a < t + 16) ∨ (p1 + 14 ≤ a ∧ a < p1 + 16) ∨ (a = t ∧ (k = 5 ∨ k = 6 ∨ k = 7 ∨ k = 8)) ∨ (a = t + 10 ∧ (k = 2 ∨ k = 3 ∨ k = 4)) ∨ (a = t + 1 ∧ (k = 4 ∨ k = 9))
theorem fmX7_run_L12 (t : Nat) (p1 : Nat) (p2 : Nat) (x3 : Int32) (x4 : Int32) : ∀ (n : Nat) (x5 : Int32) (x6 : Int32) (σ : St_), Fr (MOD_X7_run t p1) σ (fun b => b.2) (mX7_run_L12 t p1 p2 x3 x4 n x5 x6 σ) := by
  intro n
  induction n with
  | zero => intros; exact fr_none
  | succ n ih =>
    intro x5 x6 σ
    rw [mX7_run_L12]
    refine fr_ite ?_ ?_
    · exact fr_some rfl
    · refine fr_bindP (fun r2 => ?_)
      refine fr_sI (by unfold MOD_X7_run; omega) (fun σ3 => ?_)
      refine fr_ite ?_ ?_
      · refine fr_sI (by unfold MOD_X7_run; omega) (fun σ4 => ?_)
        refine fr_jn (fun k6 => ∀ (σ5 : St_), Fr (MOD_X7_run t p1) σ5 (fun b => b.2) (k6 σ5)) ?_ (fun k6 hk6 => ?_)
        · intro σ5
          refine fr_bv (fun v8 => ?_)
          refine fr_bind (fX8_passHour _ _ _) (fun a k h => by unfold MOD_X8_passHour at h; unfold MOD_X7_run; omega) (fun σ9 => ?_)
          exact ih _ _ _
        · refine fr_ite ?_ ?_
          · exact hk6 _
          · refine fr_bind (fX7_goOn _ _ _ _ _) (fun a k h => by unfold MOD_X7_goOn at h; unfold MOD_X7_run; omega) (fun r10 => ?_)
            refine fr_ite ?_ ?_
            · exact hk6 _
            · exact fr_some rfl
      · exact fr_some rfl

theorem fX7_run (t : Nat) (p1 : Nat) (p2 : Nat) (p3 : Int32) (p4 : Int32) (σ : St_) : Fr (MOD_X7_run t p1) σ (fun b => b.2) (mX7_run t p1 p2 p3 p4 σ) := by
  rw [mX7_run]
  refine fr_bind (fX7_begin _ _ _ _) (fun a k h => by unfold MOD_X7_begin at h; unfold MOD_X7_run; omega) (fun σ1 => ?_)
  exact fmX7_run_L12 _ _ _ _ _ _ _ _ _

def MOD_X7_layStep (p4 : Nat) : Nat → Nat → Prop := fun a k => a = p4
theorem fmX7_layStep_L25 (p4 : Nat) (p4n : Nat) (x0 : Int64) (x2 : Int64) (x4 : Int32) : ∀ (n : Nat) (x6 : Int32) (σ : St_), Fr (MOD_X7_layStep p4) σ (fun b => b) (mX7_layStep_L25 p4 p4n x0 x2 x4 n x6 σ) := by
  intro n
  induction n with
  | zero => intros; exact fr_none
  | succ n ih =>
    intro x6 σ
    rw [mX7_layStep_L25]
    refine fr_ite ?_ ?_
    · exact fr_some rfl
    · refine fr_bv (fun v6 => ?_)
      refine fr_bv (fun v7 => ?_)
      refine fr_jn (fun k9 => ∀ (σ8 : St_), Fr (MOD_X7_layStep p4) σ8 (fun b => b) (k9 σ8)) ?_ (fun k9 hk9 => ?_)
      · intro σ8
        exact ih _ _
      · refine fr_ite ?_ ?_
        · exact hk9 _
        · refine fr_gd (fun hg => ?_)
          have hg := bin_lt hg
          refine fr_sI (by unfold MOD_X7_layStep; omega) (fun σ11 => ?_)
          refine fr_bindP (fun r12 => ?_)
          refine fr_bv (fun v13 => ?_)
          refine fr_gd (fun hg => ?_)
          have hg := bin_lt hg
          refine fr_sI (by unfold MOD_X7_layStep; omega) (fun σ14 => ?_)
          refine fr_bv (fun v15 => ?_)
          refine fr_gd (fun hg => ?_)
          have hg := bin_lt hg
          refine fr_sI (by unfold MOD_X7_layStep; omega) (fun σ16 => ?_)
          exact hk9 _

theorem fX7_layStep (p1 : Int64) (p2 : Int64) (p3 : Int32) (p4 : Nat) (p4n : Nat) (σ : St_) : Fr (MOD_X7_layStep p4) σ (fun b => b) (mX7_layStep p1 p2 p3 p4 p4n σ) := by
  rw [mX7_layStep]
  refine fr_gd (fun hg => ?_)
  have hg := bin_lt hg
  refine fr_sI (by unfold MOD_X7_layStep; omega) (fun σ1 => ?_)
  refine fr_bv (fun v2 => ?_)
  refine fr_gd (fun hg => ?_)
  have hg := bin_lt hg
  refine fr_sI (by unfold MOD_X7_layStep; omega) (fun σ3 => ?_)
  refine fr_bv (fun v4 => ?_)
  refine fr_gd (fun hg => ?_)
  have hg := bin_lt hg
  refine fr_sI (by unfold MOD_X7_layStep; omega) (fun σ5 => ?_)
  exact fmX7_layStep_L25 _ _ _ _ _ _ _ _

def MOD_X7_layPath (p2 : Nat) : Nat → Nat → Prop := fun a k => a = p2
theorem fmX7_layPath_L10 (t : Nat) (p2 : Nat) (p2n : Nat) (x1 : Int32) : ∀ (n : Nat) (x3 : Int32) (x4 : Int32) (σ : St_), Fr (MOD_X7_layPath p2) σ (fun b => b.2) (mX7_layPath_L10 t p2 p2n x1 n x3 x4 σ) := by
  intro n
  induction n with
  | zero => intros; exact fr_none
  | succ n ih =>
    intro x3 x4 σ
    rw [mX7_layPath_L10]
    refine fr_ite ?_ ?_
    · exact fr_some rfl
    · refine fr_ite ?_ ?_
      · exact fr_some rfl
      · refine fr_ite ?_ ?_
        · exact fr_some rfl
        · refine fr_ite ?_ ?_
          · refine fr_gd (fun hg => ?_)
            have hg := bin_lt hg
            refine fr_bv (fun v3 => ?_)
            refine fr_ite ?_ ?_
            · refine fr_gd (fun hg => ?_)
              have hg := bin_lt hg
              refine fr_bv (fun v4 => ?_)
              refine fr_gd (fun hg => ?_)
              have hg := bin_lt hg
              refine fr_bv (fun v5 => ?_)
              refine fr_bind (fX7_layStep _ _ _ _ _ _) (fun a k h => by unfold MOD_X7_layStep at h; unfold MOD_X7_layPath; omega) (fun σ6 => ?_)
              exact ih _ _ _
            · exact fr_some rfl
          · exact fr_some rfl

theorem fX7_layPath (t : Nat) (p1 : Int32) (p2 : Nat) (p2n : Nat) (σ : St_) : Fr (MOD_X7_layPath p2) σ (fun b => b.2) (mX7_layPath t p1 p2 p2n σ) := by
  rw [mX7_layPath]
  refine fr_bv (fun v1 => ?_)
  refine fr_bv (fun v2 => ?_)
  exact fmX7_layPath_L10 _ _ _ _ _ _ _ _

def MOD_X8_begin (t : Nat) : Nat → Nat → Prop := fun a k => (t + 1 ≤ a ∧ a < t + 3) ∨ (a = t ∧ (k = 2 ∨ k = 3 ∨ k = 4))
theorem fX8_begin (t : Nat) (p1 : Nat) (σ : St_) : Fr (MOD_X8_begin t) σ (fun b => b) (mX8_begin t p1 σ) := by
  rw [mX8_begin]
  refine fr_ite ?_ ?_
  · refine fr_cp (fun k => by unfold MOD_X8_begin; omega) (fun σ1 => ?_)
    refine fr_bind (fJ7_fill_53178 _ _ _ _) (fun a k h => by unfold MOD_J7_fill_53178 at h; unfold MOD_X8_begin; omega) (fun σ2 => ?_)
    refine fr_sI (by unfold MOD_X8_begin; omega) (fun σ3 => ?_)
    refine fr_sI (by unfold MOD_X8_begin; omega) (fun σ4 => ?_)
    refine fr_sI (by unfold MOD_X8_begin; omega) (fun σ5 => ?_)
    exact fr_some rfl
  · exact fr_none

def MOD_X10_put (t : Nat) : Nat → Nat → Prop := fun a k => a = t + 1 ∨ (a = t ∧ (k = 1))
theorem fmX10_put_L3 (t : Nat) (x1 : Int32) : ∀ (n : Nat) (x2 : Int32) (σ : St_), Fr (MOD_X10_put t) σ (fun b => b) (mX10_put_L3 t x1 n x2 σ) := by
  intro n
  induction n with
  | zero => intros; exact fr_none
  | succ n ih =>
    intro x2 σ
    rw [mX10_put_L3]
    refine fr_ite ?_ ?_
    · exact fr_some rfl
    · refine fr_ite ?_ ?_
      · exact fr_some rfl
      · refine fr_bv (fun v1 => ?_)
        refine fr_gd (fun hg => ?_)
        have hg := bin_lt hg
        refine fr_sI (by unfold MOD_X10_put; omega) (fun σ2 => ?_)
        refine fr_sI (by unfold MOD_X10_put; omega) (fun σ3 => ?_)
        exact ih _ _

theorem fX10_put (t : Nat) (p1 : Int32) (σ : St_) : Fr (MOD_X10_put t) σ (fun b => b) (mX10_put t p1 σ) := by
  rw [mX10_put]
  exact fmX10_put_L3 _ _ _ _ _

def MOD_X10_readWord (t : Nat) : Nat → Nat → Prop := fun a k => (t + 3 ≤ a ∧ a < t + 5)
theorem fmX10_readWord_L4 (t : Nat) (σ : St_) (x1 : Int32) (k50 : Int32 → Int64 → Option (Int32 × St_)) (hk50 : ∀ (y0 : Int32) (y1 : Int64), Fr (MOD_X10_readWord t) σ (fun b => b.2) (k50 y0 y1)) : ∀ (n : Nat) (x2 : Int32) (x3 : Int64), Fr (MOD_X10_readWord t) σ (fun b => b.2) (mX10_readWord_L4 t σ x1 k50 n x2 x3) := by
  intro n
  induction n with
  | zero => intros; exact fr_none
  | succ n ih =>
    intro x2 x3
    rw [mX10_readWord_L4]
    refine fr_ite ?_ ?_
    · exact hk50 _ _
    · refine fr_gd (fun hg => ?_)
      have hg := bin_lt hg
      refine fr_bv (fun v1 => ?_)
      refine fr_bindP (fun r2 => ?_)
      refine fr_ite ?_ ?_
      · refine fr_gd (fun hg => ?_)
        have hg := bin_lt hg
        refine fr_bv (fun v3 => ?_)
        refine fr_bv (fun v4 => ?_)
        exact ih _ _
      · exact hk50 _ _

theorem fX10_readWord (t : Nat) (p1 : Int32) (σ : St_) : Fr (MOD_X10_readWord t) σ (fun b => b.2) (mX10_readWord t p1 σ) := by
  rw [mX10_readWord]
  refine fmX10_readWord_L4 _ _ _ _ ?_ _ _ _
  · intro y5 y6
    refine fr_bindP (fun r7 => ?_)
    refine fr_jn (fun k9 => ∀ (j8 : Int64), Fr (MOD_X10_readWord t) σ (fun b => b.2) (k9 j8)) ?_ (fun k9 hk9 => ?_)
    · intro j8
      refine fr_bv (fun v11 => ?_)
      refine fr_gd (fun hg => ?_)
      have hg := bin_lt hg
      refine fr_sL (by unfold MOD_X10_readWord; omega) (fun σ12 => ?_)
      refine fr_jn (fun k14 => ∀ (j13 : Int32), Fr (MOD_X10_readWord t) σ12 (fun b => b.2) (k14 j13)) ?_ (fun k14 hk14 => ?_)
      · intro j13
        refine fr_bv (fun v16 => ?_)
        refine fr_gd (fun hg => ?_)
        have hg := bin_lt hg
        refine fr_sI (by unfold MOD_X10_readWord; omega) (fun σ17 => ?_)
        exact fr_some rfl
      · refine fr_ite ?_ ?_
        · refine fr_ite ?_ ?_
          · exact hk14 _
          · exact hk14 _
        · exact hk14 _
    · refine fr_ite ?_ ?_
      · exact hk9 _
      · exact hk9 _

def MOD_X10_readDigits (t : Nat) : Nat → Nat → Prop := fun a k => (t + 3 ≤ a ∧ a < t + 5)
theorem fmX10_readDigits_L4 (t : Nat) (σ : St_) (x1 : Int32) (k45 : Int32 → Int32 → Option (Int32 × St_)) (hk45 : ∀ (y0 : Int32) (y1 : Int32), Fr (MOD_X10_readDigits t) σ (fun b => b.2) (k45 y0 y1)) : ∀ (n : Nat) (x2 : Int32) (x3 : Int32), Fr (MOD_X10_readDigits t) σ (fun b => b.2) (mX10_readDigits_L4 t σ x1 k45 n x2 x3) := by
  intro n
  induction n with
  | zero => intros; exact fr_none
  | succ n ih =>
    intro x2 x3
    rw [mX10_readDigits_L4]
    refine fr_ite ?_ ?_
    · exact hk45 _ _
    · refine fr_gd (fun hg => ?_)
      have hg := bin_lt hg
      refine fr_bv (fun v1 => ?_)
      refine fr_bindP (fun r2 => ?_)
      refine fr_ite ?_ ?_
      · refine fr_gd (fun hg => ?_)
        have hg := bin_lt hg
        refine fr_bv (fun v3 => ?_)
        refine fr_bv (fun v4 => ?_)
        exact ih _ _
      · exact hk45 _ _

theorem fX10_readDigits (t : Nat) (p1 : Int32) (σ : St_) : Fr (MOD_X10_readDigits t) σ (fun b => b.2) (mX10_readDigits t p1 σ) := by
  rw [mX10_readDigits]
  refine fmX10_readDigits_L4 _ _ _ _ ?_ _ _ _
  · intro y5 y6
    refine fr_jn (fun k8 => ∀ (j7 : Bool), Fr (MOD_X10_readDigits t) σ (fun b => b.2) (k8 j7)) ?_ (fun k8 hk8 => ?_)
    · intro j7
      refine fr_bv (fun v10 => ?_)
      refine fr_gd (fun hg => ?_)
      have hg := bin_lt hg
      refine fr_sL (by unfold MOD_X10_readDigits; omega) (fun σ11 => ?_)
      refine fr_jn (fun k13 => ∀ (j12 : Int32), Fr (MOD_X10_readDigits t) σ11 (fun b => b.2) (k13 j12)) ?_ (fun k13 hk13 => ?_)
      · intro j12
        refine fr_bv (fun v15 => ?_)
        refine fr_gd (fun hg => ?_)
        have hg := bin_lt hg
        refine fr_sI (by unfold MOD_X10_readDigits; omega) (fun σ16 => ?_)
        exact fr_some rfl
      · refine fr_jn (fun k17 => Fr (MOD_X10_readDigits t) σ11 (fun b => b.2) k17) ?_ (fun k17 hk17 => ?_)
        · exact hk13 _
        · refine fr_ite ?_ ?_
          · exact hk17
          · refine fr_ite ?_ ?_
            · exact hk17
            · exact hk13 _
    · refine fr_jn (fun k19 => Fr (MOD_X10_readDigits t) σ (fun b => b.2) k19) ?_ (fun k19 hk19 => ?_)
      · exact hk8 _
      · refine fr_ite ?_ ?_
        · exact hk19
        · refine fr_gd (fun hg => ?_)
          have hg := bin_lt hg
          refine fr_bv (fun v21 => ?_)
          refine fr_bindP (fun r22 => ?_)
          refine fr_ite ?_ ?_
          · exact hk8 _
          · exact hk19

def MOD_X10_readToken (t : Nat) : Nat → Nat → Prop := fun a k => (t + 2 ≤ a ∧ a < t + 5)
theorem fX10_readToken (t : Nat) (p1 : Int32) (σ : St_) : Fr (MOD_X10_readToken t) σ (fun b => b.2) (mX10_readToken t p1 σ) := by
  rw [mX10_readToken]
  refine fr_bv (fun v1 => ?_)
  refine fr_gd (fun hg => ?_)
  have hg := bin_lt hg
  refine fr_sI (by unfold MOD_X10_readToken; omega) (fun σ2 => ?_)
  refine fr_gd (fun hg => ?_)
  have hg := bin_lt hg
  refine fr_bv (fun v3 => ?_)
  refine fr_bindP (fun r4 => ?_)
  refine fr_ite ?_ ?_
  · refine fr_bind (fX10_readWord _ _ _) (fun a k h => by unfold MOD_X10_readWord at h; unfold MOD_X10_readToken; omega) (fun r5 => ?_)
    exact fr_some rfl
  · refine fr_gd (fun hg => ?_)
    have hg := bin_lt hg
    refine fr_bv (fun v6 => ?_)
    refine fr_bindP (fun r7 => ?_)
    refine fr_ite ?_ ?_
    · refine fr_bind (fX10_readDigits _ _ _) (fun a k h => by unfold MOD_X10_readDigits at h; unfold MOD_X10_readToken; omega) (fun r8 => ?_)
      exact fr_some rfl
    · refine fr_gd (fun hg => ?_)
      have hg := bin_lt hg
      refine fr_bv (fun v9 => ?_)
      refine fr_bv (fun v10 => ?_)
      refine fr_gd (fun hg => ?_)
      have hg := bin_lt hg
      refine fr_sL (by unfold MOD_X10_readToken; omega) (fun σ11 => ?_)
      refine fr_gd (fun hg => ?_)
      have hg := bin_lt hg
      refine fr_bv (fun v12 => ?_)
      refine fr_bindP (fun r13 => ?_)
      refine fr_jn (fun k15 => ∀ (j14 : Int32), Fr (MOD_X10_readToken t) σ11 (fun b => b.2) (k15 j14)) ?_ (fun k15 hk15 => ?_)
      · intro j14
        refine fr_bv (fun v17 => ?_)
        refine fr_gd (fun hg => ?_)
        have hg := bin_lt hg
        refine fr_sI (by unfold MOD_X10_readToken; omega) (fun σ18 => ?_)
        exact fr_some rfl
      · refine fr_ite ?_ ?_
        · exact hk15 _
        · exact hk15 _

def MOD_X10_split (t : Nat) : Nat → Nat → Prop := fun a k => (t + 2 ≤ a ∧ a < t + 5) ∨ (a = t ∧ (k = 5 ∨ k = 6 ∨ k = 7 ∨ k = 8))
theorem fmX10_split_L26 (t : Nat) (k83 : St_ → Option St_) (hk83 : ∀ (y0 : St_), Fr (MOD_X10_split t) y0 (fun b => b) (k83 y0)) : ∀ (n : Nat) (x1 : Int32) (σ : St_), Fr (MOD_X10_split t) σ (fun b => b) (mX10_split_L26 t k83 n x1 σ) := by
  intro n
  induction n with
  | zero => intros; exact fr_none
  | succ n ih =>
    intro x1 σ
    rw [mX10_split_L26]
    refine fr_ite ?_ ?_
    · exact hk83 _
    · refine fr_ite ?_ ?_
      · exact hk83 _
      · refine fr_bind (fX10_readToken _ _ _) (fun a k h => by unfold MOD_X10_readToken at h; unfold MOD_X10_split; omega) (fun r6 => ?_)
        refine fr_bv (fun v7 => ?_)
        refine fr_gd (fun hg => ?_)
        have hg := bin_lt hg
        refine fr_bv (fun v8 => ?_)
        refine fr_ite ?_ ?_
        · exact fr_some rfl
        · refine fr_sI (by unfold MOD_X10_split; omega) (fun σ9 => ?_)
          refine fr_bindP (fun r10 => ?_)
          exact ih _ _

theorem fX10_split (t : Nat) (σ : St_) : Fr (MOD_X10_split t) σ (fun b => b) (mX10_split t σ) := by
  rw [mX10_split]
  refine fr_sI (by unfold MOD_X10_split; omega) (fun σ1 => ?_)
  refine fr_sI (by unfold MOD_X10_split; omega) (fun σ2 => ?_)
  refine fr_sI (by unfold MOD_X10_split; omega) (fun σ3 => ?_)
  refine fr_sI (by unfold MOD_X10_split; omega) (fun σ4 => ?_)
  refine fr_bindP (fun r5 => ?_)
  refine fmX10_split_L26 _ _ ?_ _ _ _
  · intro σ11
    refine fr_bv (fun v12 => ?_)
    refine fr_gd (fun hg => ?_)
    have hg := bin_lt hg
    refine fr_sI (by unfold MOD_X10_split; omega) (fun σ13 => ?_)
    refine fr_bv (fun v14 => ?_)
    refine fr_gd (fun hg => ?_)
    have hg := bin_lt hg
    refine fr_sI (by unfold MOD_X10_split; omega) (fun σ15 => ?_)
    exact fr_some rfl

def MOD_X11_feed (t : Nat) : Nat → Nat → Prop := fun a k => a = t + 4 ∨ (a = t + 3 ∧ (k = 1))
theorem fX11_feed (t : Nat) (tw : Nat) (dr : Nat) (p1 : Int32) (p2 : Int32) (p3 : Int32) (p4 : Int32) (p5 : Int32) (σ : St_) : Fr (MOD_X11_feed t) σ (fun b => b.2) (mX11_feed t tw dr p1 p2 p3 p4 p5 σ) := by
  rw [mX11_feed]
  refine fr_ite ?_ ?_
  · refine fr_bind (fX10_put _ _ _) (fun a k h => by unfold MOD_X10_put at h; unfold MOD_X11_feed; omega) (fun σ1 => ?_)
    refine fr_bind (fX10_put _ _ _) (fun a k h => by unfold MOD_X10_put at h; unfold MOD_X11_feed; omega) (fun σ2 => ?_)
    refine fr_bind (fX10_put _ _ _) (fun a k h => by unfold MOD_X10_put at h; unfold MOD_X11_feed; omega) (fun σ3 => ?_)
    refine fr_bind (fX10_put _ _ _) (fun a k h => by unfold MOD_X10_put at h; unfold MOD_X11_feed; omega) (fun σ4 => ?_)
    refine fr_bind (fX10_put _ _ _) (fun a k h => by unfold MOD_X10_put at h; unfold MOD_X11_feed; omega) (fun σ5 => ?_)
    exact fr_some rfl
  · exact fr_some rfl

def MOD_X11_end (t : Nat) : Nat → Nat → Prop := fun a k => (a = t + 3 ∧ (k = 1))
theorem fX11_end (t : Nat) (tw : Nat) (dr : Nat) (p1 : Int32) (σ : St_) : Fr (MOD_X11_end t) σ (fun b => b.2) (mX11_end t tw dr p1 σ) := by
  rw [mX11_end]
  refine fr_ite ?_ ?_
  · exact fr_some rfl
  · refine fr_ite ?_ ?_
    · refine fr_sI (by unfold MOD_X11_end; omega) (fun σ1 => ?_)
      exact fr_some rfl
    · exact fr_some rfl

def MOD_X11_city (t : Nat) (dr : Nat) : Nat → Nat → Prop := fun a k => (t + 1 ≤ a ∧ a < t + 12) ∨ (t + 44 ≤ a ∧ a < t + 172) ∨ a = t + 174 ∨ (dr ≤ a ∧ a < dr + 16) ∨ (a = t ∧ (k = 7 ∨ k = 9))
theorem fX11_city (t : Nat) (tw : Nat) (dr : Nat) (σ : St_) : Fr (MOD_X11_city t dr) σ (fun b => b.2.1) (mX11_city t tw dr σ) := by
  rw [mX11_city]
  refine fr_bind (fX10_split _ _) (fun a k h => by unfold MOD_X10_split at h; unfold MOD_X11_city; omega) (fun σ1 => ?_)
  refine fr_bind (fX4_read _ _ _) (fun a k h => by unfold MOD_X4_read at h; unfold MOD_X11_city; omega) (fun r2 => ?_)
  refine fr_sI (by unfold MOD_X11_city; omega) (fun σ3 => ?_)
  refine fr_ite ?_ ?_
  · refine fr_bind (fX8_begin _ _ _) (fun a k h => by unfold MOD_X8_begin at h; unfold MOD_X11_city; omega) (fun σ6 => ?_)
    refine fr_bind (fX0_begin _ _ _) (fun a k h => by unfold MOD_X0_begin at h; unfold MOD_X11_city; omega) (fun σ7 => ?_)
    refine fr_sI (by unfold MOD_X11_city; omega) (fun σ8 => ?_)
    refine fr_sI (by unfold MOD_X11_city; omega) (fun σ9 => ?_)
    refine fr_sI (by unfold MOD_X11_city; omega) (fun σ10 => ?_)
    exact fr_some rfl
  · exact fr_some rfl

def MOD_X11_may (tw : Nat) : Nat → Nat → Prop := fun a k => (tw + 14 ≤ a ∧ a < tw + 16)
theorem fX11_may (t : Nat) (tw : Nat) (dr : Nat) (p1 : Int32) (p2 : Int32) (p3 : Int32) (p4 : Int32) (p5 : Int32) (σ : St_) : Fr (MOD_X11_may tw) σ (fun b => b.2) (mX11_may t tw dr p1 p2 p3 p4 p5 σ) := by
  rw [mX11_may]
  refine fr_bindP (fun r1 => ?_)
  refine fr_ite ?_ ?_
  · refine fr_ite ?_ ?_
    · refine fr_bindP (fun r3 => ?_)
      refine fr_ite ?_ ?_
      · exact fr_some rfl
      · exact fr_some rfl
    · refine fr_ite ?_ ?_
      · refine fr_bindP (fun r5 => ?_)
        refine fr_ite ?_ ?_
        · exact fr_some rfl
        · exact fr_some rfl
      · refine fr_ite ?_ ?_
        · refine fr_gd (fun hg => ?_)
          have hg := bin_lt hg
          refine fr_bv (fun v7 => ?_)
          refine fr_bind (fX1_isLawful _ _ _ _ _ _ _) (fun a k h => by unfold MOD_X1_isLawful at h; unfold MOD_X11_may; omega) (fun r8 => ?_)
          refine fr_ite ?_ ?_
          · exact fr_some rfl
          · exact fr_some rfl
        · exact fr_some rfl
  · exact fr_some rfl

def MOD_X11_theft (t : Nat) (tw : Nat) : Nat → Nat → Prop := fun a k => (t + 45 ≤ a ∧ a < t + 47) ∨ (t + 49 ≤ a ∧ a < t + 172) ∨ (tw + 14 ≤ a ∧ a < tw + 16) ∨ (a = t + 44 ∧ (k = 2 ∨ k = 3 ∨ k = 4)) ∨ (a = t + 47 ∧ (k = 1 ∨ k = 2 ∨ k = 3))
theorem fX11_theft (t : Nat) (tw : Nat) (dr : Nat) (p1 : Int32) (p2 : Int32) (p3 : Int32) (p4 : Int32) (σ : St_) : Fr (MOD_X11_theft t tw) σ (fun b => b.2) (mX11_theft t tw dr p1 p2 p3 p4 σ) := by
  rw [mX11_theft]
  refine fr_ite ?_ ?_
  · exact fr_some rfl
  · refine fr_bindP (fun r1 => ?_)
    refine fr_ite ?_ ?_
    · refine fr_bindP (fun r2 => ?_)
      refine fr_ite ?_ ?_
      · refine fr_bindP (fun r3 => ?_)
        refine fr_jn (fun k6 => ∀ (j4 : Int32) (σ5 : St_), Fr (MOD_X11_theft t tw) σ5 (fun b => b.2) (k6 j4 σ5)) ?_ (fun k6 hk6 => ?_)
        · intro j4 σ5
          refine fr_bind (fX8_passHour _ _ _) (fun a k h => by unfold MOD_X8_passHour at h; unfold MOD_X11_theft; omega) (fun σ8 => ?_)
          refine fr_bind (fX0_add _ _ _) (fun a k h => by unfold MOD_X0_add at h; unfold MOD_X11_theft; omega) (fun σ9 => ?_)
          exact fr_some rfl
        · refine fr_ite ?_ ?_
          · refine fr_sI (by unfold MOD_X11_theft; omega) (fun σ10 => ?_)
            exact hk6 _ _
          · refine fr_gd (fun hg => ?_)
            have hg := bin_lt hg
            refine fr_bv (fun v11 => ?_)
            refine fr_bind (fX1_isLawful _ _ _ _ _ _ _) (fun a k h => by unfold MOD_X1_isLawful at h; unfold MOD_X11_theft; omega) (fun r12 => ?_)
            refine fr_jn (fun k14 => ∀ (j13 : Bool), Fr (MOD_X11_theft t tw) r12.2 (fun b => b.2) (k14 j13)) ?_ (fun k14 hk14 => ?_)
            · intro j13
              refine fr_bind (fX8_exchange _ _ _ _ _ _) (fun a k h => by unfold MOD_X8_exchange at h; unfold MOD_X11_theft; omega) (fun σ16 => ?_)
              refine fr_gd (fun hg => ?_)
              have hg := bin_lt hg
              refine fr_bv (fun v17 => ?_)
              refine fr_gd (fun hg => ?_)
              have hg := bin_lt hg
              refine fr_sI (by unfold MOD_X11_theft; omega) (fun σ18 => ?_)
              exact hk6 _ _
            · refine fr_ite ?_ ?_
              · exact hk14 _
              · exact hk14 _
      · exact fr_some rfl
    · exact fr_some rfl

def MOD_X11_waits (t : Nat) : Nat → Nat → Prop := fun a k => (t + 49 ≤ a ∧ a < t + 172) ∨ (a = t + 44 ∧ (k = 2 ∨ k = 3 ∨ k = 4)) ∨ (a = t + 47 ∧ (k = 1 ∨ k = 2 ∨ k = 3))
theorem fX11_waits (t : Nat) (tw : Nat) (dr : Nat) (σ : St_) : Fr (MOD_X11_waits t) σ (fun b => b.2) (mX11_waits t tw dr σ) := by
  rw [mX11_waits]
  refine fr_ite ?_ ?_
  · refine fr_bind (fX8_passHour _ _ _) (fun a k h => by unfold MOD_X8_passHour at h; unfold MOD_X11_waits; omega) (fun σ1 => ?_)
    refine fr_bind (fX0_add _ _ _) (fun a k h => by unfold MOD_X0_add at h; unfold MOD_X11_waits; omega) (fun σ2 => ?_)
    exact fr_some rfl
  · exact fr_some rfl

def MOD_X11_gift (t : Nat) : Nat → Nat → Prop := fun a k => a = t + 45 ∨ (t + 49 ≤ a ∧ a < t + 172) ∨ (a = t + 47 ∧ (k = 1 ∨ k = 2 ∨ k = 3))
theorem fX11_gift (t : Nat) (tw : Nat) (dr : Nat) (p1 : Int32) (p2 : Int32) (p3 : Bool) (σ : St_) : Fr (MOD_X11_gift t) σ (fun b => b.2) (mX11_gift t tw dr p1 p2 p3 σ) := by
  rw [mX11_gift]
  refine fr_bindP (fun r1 => ?_)
  refine fr_bindP (fun r2 => ?_)
  refine fr_ite ?_ ?_
  · refine fr_ite ?_ ?_
    · exact fr_some rfl
    · refine fr_bindP (fun r3 => ?_)
      refine fr_ite ?_ ?_
      · exact fr_some rfl
      · refine fr_jn (fun k5 => ∀ (σ4 : St_), Fr (MOD_X11_gift t) σ4 (fun b => b.2) (k5 σ4)) ?_ (fun k5 hk5 => ?_)
        · intro σ4
          refine fr_gd (fun hg => ?_)
          have hg := bin_lt hg
          refine fr_bv (fun v7 => ?_)
          refine fr_gd (fun hg => ?_)
          have hg := bin_lt hg
          refine fr_sI (by unfold MOD_X11_gift; omega) (fun σ8 => ?_)
          refine fr_bind (fX0_add _ _ _) (fun a k h => by unfold MOD_X0_add at h; unfold MOD_X11_gift; omega) (fun σ9 => ?_)
          exact fr_some rfl
        · refine fr_ite ?_ ?_
          · exact hk5 _
          · refine fr_gd (fun hg => ?_)
            have hg := bin_lt hg
            refine fr_bv (fun v10 => ?_)
            refine fr_gd (fun hg => ?_)
            have hg := bin_lt hg
            refine fr_sI (by unfold MOD_X11_gift; omega) (fun σ11 => ?_)
            exact hk5 _
  · exact fr_some rfl

def MOD_X11_undo (t : Nat) : Nat → Nat → Prop := fun a k => (t + 45 ≤ a ∧ a < t + 47) ∨ (a = t + 47 ∧ (k = 3)) ∨ (a = t + 44 ∧ (k = 2 ∨ k = 3 ∨ k = 4))
theorem fX11_undo (t : Nat) (tw : Nat) (dr : Nat) (σ : St_) : Fr (MOD_X11_undo t) σ (fun b => b.2) (mX11_undo t tw dr σ) := by
  rw [mX11_undo]
  refine fr_bind (fX0_step _ _ _ _) (fun a k h => by unfold MOD_X0_step at h; unfold MOD_X11_undo; omega) (fun r1 => ?_)
  exact fr_some rfl

def MOD_X11_redo (t : Nat) : Nat → Nat → Prop := fun a k => (t + 45 ≤ a ∧ a < t + 47) ∨ (a = t + 47 ∧ (k = 3)) ∨ (a = t + 44 ∧ (k = 2 ∨ k = 3 ∨ k = 4))
theorem fX11_redo (t : Nat) (tw : Nat) (dr : Nat) (σ : St_) : Fr (MOD_X11_redo t) σ (fun b => b.2) (mX11_redo t tw dr σ) := by
  rw [mX11_redo]
  refine fr_bind (fX0_step _ _ _ _) (fun a k h => by unfold MOD_X0_step at h; unfold MOD_X11_redo; omega) (fun r1 => ?_)
  exact fr_some rfl

def MOD_X11_swaps (t : Nat) (tw : Nat) : Nat → Nat → Prop := fun a k => (tw + 14 ≤ a ∧ a < tw + 16) ∨ (t + 184 ≤ a ∧ a < t + 192) ∨ (a = t + 183 ∧ (k = 4 ∨ k = 9))
theorem fX11_swaps (t : Nat) (tw : Nat) (dr : Nat) (p1 : Int32) (σ : St_) : Fr (MOD_X11_swaps t tw) σ (fun b => b.2) (mX11_swaps t tw dr p1 σ) := by
  rw [mX11_swaps]
  refine fr_bindP (fun r1 => ?_)
  refine fr_ite ?_ ?_
  · refine fr_bind (fX9_gather _ _ _ _ _) (fun a k h => by unfold MOD_X9_gather at h; unfold MOD_X11_swaps; omega) (fun σ2 => ?_)
    exact fr_some rfl
  · exact fr_some rfl

def MOD_X11_lay (t : Nat) : Nat → Nat → Prop := fun a k => a = t + 173 ∨ (a = t ∧ (k = 9))
theorem fX11_lay (t : Nat) (tw : Nat) (dr : Nat) (p1 : Int32) (σ : St_) : Fr (MOD_X11_lay t) σ (fun b => b) (mX11_lay t tw dr p1 σ) := by
  rw [mX11_lay]
  refine fr_ite ?_ ?_
  · exact fr_some rfl
  · refine fr_bv (fun v1 => ?_)
    refine fr_gd (fun hg => ?_)
    have hg := bin_lt hg
    refine fr_sI (by unfold MOD_X11_lay; omega) (fun σ2 => ?_)
    refine fr_sI (by unfold MOD_X11_lay; omega) (fun σ3 => ?_)
    exact fr_some rfl

def MOD_X11_best (t : Nat) (tw : Nat) : Nat → Nat → Prop := fun a k => (tw + 14 ≤ a ∧ a < tw + 16) ∨ a = t + 173 ∨ (t + 184 ≤ a ∧ a < t + 192) ∨ (a = t ∧ (k = 9)) ∨ (a = t + 183 ∧ (k = 4 ∨ k = 9))
theorem fX11_best (t : Nat) (tw : Nat) (dr : Nat) (p1 : Int32) (σ : St_) : Fr (MOD_X11_best t tw) σ (fun b => b.2) (mX11_best t tw dr p1 σ) := by
  rw [mX11_best]
  refine fr_sI (by unfold MOD_X11_best; omega) (fun σ1 => ?_)
  refine fr_bindP (fun r2 => ?_)
  refine fr_ite ?_ ?_
  · refine fr_bind (fX9_gather _ _ _ _ _) (fun a k h => by unfold MOD_X9_gather at h; unfold MOD_X11_best; omega) (fun σ3 => ?_)
    refine fr_bindP (fun r4 => ?_)
    refine fr_ite ?_ ?_
    · exact fr_some rfl
    · refine fr_gd (fun hg => ?_)
      have hg := bin_lt hg
      refine fr_bv (fun v5 => ?_)
      refine fr_bind (fX11_lay _ _ _ _ _) (fun a k h => by unfold MOD_X11_lay at h; unfold MOD_X11_best; omega) (fun σ6 => ?_)
      refine fr_gd (fun hg => ?_)
      have hg := bin_lt hg
      refine fr_bv (fun v7 => ?_)
      refine fr_bind (fX11_lay _ _ _ _ _) (fun a k h => by unfold MOD_X11_lay at h; unfold MOD_X11_best; omega) (fun σ8 => ?_)
      refine fr_gd (fun hg => ?_)
      have hg := bin_lt hg
      refine fr_bv (fun v9 => ?_)
      refine fr_bind (fX11_lay _ _ _ _ _) (fun a k h => by unfold MOD_X11_lay at h; unfold MOD_X11_best; omega) (fun σ10 => ?_)
      refine fr_gd (fun hg => ?_)
      have hg := bin_lt hg
      refine fr_bv (fun v11 => ?_)
      exact fr_some rfl
  · exact fr_some rfl

def MOD_X11_tour (t : Nat) (tw : Nat) : Nat → Nat → Prop := fun a k => a = t + 173 ∨ (t + 207 ≤ a ∧ a < t + 215) ∨ (t + 216 ≤ a ∧ a < t + 221) ∨ (tw + 14 ≤ a ∧ a < tw + 16) ∨ (a = t ∧ (k = 9)) ∨ (a = t + 205 ∧ (k = 5 ∨ k = 6 ∨ k = 7 ∨ k = 8)) ∨ (a = t + 215 ∧ (k = 2 ∨ k = 3 ∨ k = 4)) ∨ (a = t + 206 ∧ (k = 4 ∨ k = 9))
theorem fX11_tour (t : Nat) (tw : Nat) (dr : Nat) (p1 : Int32) (p2 : Int32) (σ : St_) : Fr (MOD_X11_tour t tw) σ (fun b => b.2) (mX11_tour t tw dr p1 p2 σ) := by
  rw [mX11_tour]
  refine fr_sI (by unfold MOD_X11_tour; omega) (fun σ1 => ?_)
  refine fr_bindP (fun r2 => ?_)
  refine fr_ite ?_ ?_
  · refine fr_bindP (fun r3 => ?_)
    refine fr_ite ?_ ?_
    · refine fr_bind (fX7_run _ _ _ _ _ _) (fun a k h => by unfold MOD_X7_run at h; unfold MOD_X11_tour; omega) (fun r4 => ?_)
      refine fr_ite ?_ ?_
      · exact fr_some rfl
      · refine fr_bind (fX7_layPath _ _ _ _ _) (fun a k h => by unfold MOD_X7_layPath at h; unfold MOD_X11_tour; omega) (fun r5 => ?_)
        refine fr_sI (by unfold MOD_X11_tour; omega) (fun σ6 => ?_)
        exact fr_some rfl
    · exact fr_some rfl
  · exact fr_some rfl

def MOD_X11_drift (t : Nat) (tw : Nat) : Nat → Nat → Prop := fun a k => (tw + 14 ≤ a ∧ a < tw + 16) ∨ (t + 194 ≤ a ∧ a < t + 202) ∨ (t + 203 ≤ a ∧ a < t + 205) ∨ (a = t + 193 ∧ (k = 4 ∨ k = 9)) ∨ (a = t + 202 ∧ (k = 2 ∨ k = 3 ∨ k = 4))
theorem fX11_drift (t : Nat) (tw : Nat) (dr : Nat) (p1 : Int32) (p2 : Int32) (σ : St_) : Fr (MOD_X11_drift t tw) σ (fun b => b.2) (mX11_drift t tw dr p1 p2 σ) := by
  rw [mX11_drift]
  refine fr_bindP (fun r1 => ?_)
  refine fr_ite ?_ ?_
  · refine fr_ite ?_ ?_
    · exact fr_some rfl
    · refine fr_ite ?_ ?_
      · refine fr_bind (fX6_run _ _ _ _ _ _) (fun a k h => by unfold MOD_X6_run at h; unfold MOD_X11_drift; omega) (fun r2 => ?_)
        refine fr_bindP (fun r3 => ?_)
        refine fr_ite ?_ ?_
        · exact fr_some rfl
        · exact fr_some rfl
      · exact fr_some rfl
  · exact fr_some rfl

def MOD_X11_sums (t : Nat) (tw : Nat) : Nat → Nat → Prop := fun a k => (tw + 14 ≤ a ∧ a < tw + 16) ∨ (t + 194 ≤ a ∧ a < t + 202) ∨ (t + 203 ≤ a ∧ a < t + 205) ∨ (a = t + 193 ∧ (k = 4 ∨ k = 9)) ∨ (a = t + 202 ∧ (k = 2 ∨ k = 3 ∨ k = 4))
theorem fX11_sums (t : Nat) (tw : Nat) (dr : Nat) (p1 : Int32) (p2 : Bool) (p3 : Int32) (σ : St_) : Fr (MOD_X11_sums t tw) σ (fun b => b.2) (mX11_sums t tw dr p1 p2 p3 σ) := by
  rw [mX11_sums]
  refine fr_bindP (fun r1 => ?_)
  refine fr_ite ?_ ?_
  · exact fr_some rfl
  · refine fr_ite ?_ ?_
    · exact fr_some rfl
    · refine fr_ite ?_ ?_
      · refine fr_bind (fX6_run _ _ _ _ _ _) (fun a k h => by unfold MOD_X6_run at h; unfold MOD_X11_sums; omega) (fun r2 => ?_)
        refine fr_gd (fun hg => ?_)
        have hg := bin_lt hg
        refine fr_bv (fun v3 => ?_)
        refine fr_bindP (fun r4 => ?_)
        exact fr_some rfl
      · exact fr_some rfl

def MOD_X11_rests (t : Nat) (tw : Nat) : Nat → Nat → Prop := fun a k => (tw + 14 ≤ a ∧ a < tw + 16) ∨ (t + 194 ≤ a ∧ a < t + 202) ∨ (t + 203 ≤ a ∧ a < t + 205) ∨ (a = t + 193 ∧ (k = 4 ∨ k = 9)) ∨ (a = t + 202 ∧ (k = 2 ∨ k = 3 ∨ k = 4))
theorem fX11_rests (t : Nat) (tw : Nat) (dr : Nat) (σ : St_) : Fr (MOD_X11_rests t tw) σ (fun b => b.2) (mX11_rests t tw dr σ) := by
  rw [mX11_rests]
  refine fr_bind (fX6_run _ _ _ _ _ _) (fun a k h => by unfold MOD_X6_run at h; unfold MOD_X11_rests; omega) (fun r1 => ?_)
  exact fr_some rfl

def MOD_X11_lie (t : Nat) (tw : Nat) : Nat → Nat → Prop := fun a k => a = tw + 9 ∨ (tw + 14 ≤ a ∧ a < tw + 16) ∨ (t + 194 ≤ a ∧ a < t + 202) ∨ (t + 203 ≤ a ∧ a < t + 205) ∨ (a = t + 193 ∧ (k = 4 ∨ k = 9)) ∨ (a = t + 202 ∧ (k = 2 ∨ k = 3 ∨ k = 4)) ∨ (a = t + 192 ∧ (k = 2 ∨ k = 3 ∨ k = 4))
theorem fX11_lie (t : Nat) (tw : Nat) (dr : Nat) (p1 : Int32) (p2 : Int32) (p3 : Int32) (σ : St_) : Fr (MOD_X11_lie t tw) σ (fun b => b.2) (mX11_lie t tw dr p1 p2 p3 σ) := by
  rw [mX11_lie]
  refine fr_bindP (fun r1 => ?_)
  refine fr_ite ?_ ?_
  · refine fr_ite ?_ ?_
    · exact fr_some rfl
    · refine fr_ite ?_ ?_
      · exact fr_some rfl
      · refine fr_ite ?_ ?_
        · exact fr_some rfl
        · refine fr_ite ?_ ?_
          · refine fr_bind (fX6_findLie _ _ _ _ _ _) (fun a k h => by unfold MOD_X6_findLie at h; unfold MOD_X11_lie; omega) (fun σ2 => ?_)
            refine fr_ite ?_ ?_
            · exact fr_some rfl
            · refine fr_ite ?_ ?_
              · exact fr_some rfl
              · exact fr_some rfl
          · exact fr_some rfl
  · exact fr_some rfl

def MOD_X11_canBeBettered (t : Nat) (tw : Nat) : Nat → Nat → Prop := fun a k => (tw + 14 ≤ a ∧ a < tw + 16) ∨ (t + 188 ≤ a ∧ a < t + 192) ∨ (a = t + 183 ∧ (k = 9))
theorem fmX11_canBeBettered_L43 (t : Nat) (tw : Nat) (dr : Nat) (x1 : Int32) (x2 : Int32) (x3 : Int32) (x4 : Int32) (k104 : St_ → Option (Bool × St_)) (hk104 : ∀ (y0 : St_), Fr (MOD_X11_canBeBettered t tw) y0 (fun b => b.2) (k104 y0)) : ∀ (n : Nat) (x5 : Int32) (σ : St_), Fr (MOD_X11_canBeBettered t tw) σ (fun b => b.2) (mX11_canBeBettered_L43 t tw dr x1 x2 x3 x4 k104 n x5 σ) := by
  intro n
  induction n with
  | zero => intros; exact fr_none
  | succ n ih =>
    intro x5 σ
    rw [mX11_canBeBettered_L43]
    refine fr_ite ?_ ?_
    · exact hk104 _
    · refine fr_gd (fun hg => ?_)
      have hg := bin_lt hg
      refine fr_bv (fun v3 => ?_)
      refine fr_gd (fun hg => ?_)
      have hg := bin_lt hg
      refine fr_bv (fun v4 => ?_)
      refine fr_bind (fX1_isLawfulFor _ _ _ _ _ _ _ _) (fun a k h => by unfold MOD_X1_isLawfulFor at h; unfold MOD_X11_canBeBettered; omega) (fun r5 => ?_)
      refine fr_ite ?_ ?_
      · exact fr_some rfl
      · exact ih _ _

theorem fmX11_canBeBettered_L2 (t : Nat) (tw : Nat) (dr : Nat) (x1 : Int32) (x2 : Int32) : ∀ (n : Nat) (x3 : Int32) (σ : St_), Fr (MOD_X11_canBeBettered t tw) σ (fun b => b.2) (mX11_canBeBettered_L2 t tw dr x1 x2 n x3 σ) := by
  intro n
  induction n with
  | zero => intros; exact fr_none
  | succ n ih =>
    intro x3 σ
    rw [mX11_canBeBettered_L2]
    refine fr_ite ?_ ?_
    · exact fr_some rfl
    · refine fr_gd (fun hg => ?_)
      have hg := bin_lt hg
      refine fr_bv (fun v1 => ?_)
      refine fr_bind (fX9_splitStock _ _ _ _ _) (fun a k h => by unfold MOD_X9_splitStock at h; unfold MOD_X11_canBeBettered; omega) (fun σ2 => ?_)
      refine fmX11_canBeBettered_L43 _ _ _ _ _ _ _ _ ?_ _ _ _
      · intro σ6
        exact ih _ _

theorem fX11_canBeBettered (t : Nat) (tw : Nat) (dr : Nat) (p1 : Int32) (p2 : Int32) (σ : St_) : Fr (MOD_X11_canBeBettered t tw) σ (fun b => b.2) (mX11_canBeBettered t tw dr p1 p2 σ) := by
  rw [mX11_canBeBettered]
  exact fmX11_canBeBettered_L2 _ _ _ _ _ _ _ _

def MOD_X11_unbettered (t : Nat) (tw : Nat) : Nat → Nat → Prop := fun a k => (tw + 14 ≤ a ∧ a < tw + 16) ∨ (t + 188 ≤ a ∧ a < t + 192) ∨ (a = t + 183 ∧ (k = 9))
theorem fmX11_unbettered_L14 (t : Nat) (tw : Nat) (dr : Nat) (x1 : Int32) : ∀ (n : Nat) (x2 : Int32) (x3 : Int32) (σ : St_), Fr (MOD_X11_unbettered t tw) σ (fun b => b.2) (mX11_unbettered_L14 t tw dr x1 n x2 x3 σ) := by
  intro n
  induction n with
  | zero => intros; exact fr_none
  | succ n ih =>
    intro x2 x3 σ
    rw [mX11_unbettered_L14]
    refine fr_ite ?_ ?_
    · exact fr_some rfl
    · refine fr_gd (fun hg => ?_)
      have hg := bin_lt hg
      refine fr_bv (fun v2 => ?_)
      refine fr_jn (fun k5 => ∀ (j3 : Int32) (σ4 : St_), Fr (MOD_X11_unbettered t tw) σ4 (fun b => b.2) (k5 j3 σ4)) ?_ (fun k5 hk5 => ?_)
      · intro j3 σ4
        exact ih _ _ _
      · refine fr_ite ?_ ?_
        · exact hk5 _ _
        · refine fr_bind (fX11_canBeBettered _ _ _ _ _ _) (fun a k h => by unfold MOD_X11_canBeBettered at h; unfold MOD_X11_unbettered; omega) (fun r7 => ?_)
          refine fr_ite ?_ ?_
          · exact hk5 _ _
          · refine fr_bv (fun v8 => ?_)
            exact hk5 _ _

theorem fX11_unbettered (t : Nat) (tw : Nat) (dr : Nat) (p1 : Int32) (σ : St_) : Fr (MOD_X11_unbettered t tw) σ (fun b => b.2) (mX11_unbettered t tw dr p1 σ) := by
  rw [mX11_unbettered]
  refine fr_bindP (fun r1 => ?_)
  refine fr_ite ?_ ?_
  · exact fmX11_unbettered_L14 _ _ _ _ _ _ _ _
  · exact fr_some rfl

def MOD_X11_canUndo (t : Nat) (tw : Nat) : Nat → Nat → Prop := fun a k => (t + 222 ≤ a ∧ a < t + 224) ∨ (tw + 14 ≤ a ∧ a < tw + 16) ∨ (a = t + 221 ∧ (k = 2 ∨ k = 3 ∨ k = 4))
theorem fX11_canUndo (t : Nat) (tw : Nat) (dr : Nat) (p1 : Int32) (p2 : Int32) (σ : St_) : Fr (MOD_X11_canUndo t tw) σ (fun b => b.2) (mX11_canUndo t tw dr p1 p2 σ) := by
  rw [mX11_canUndo]
  refine fr_gd (fun hg => ?_)
  have hg := bin_lt hg
  refine fr_bv (fun v1 => ?_)
  refine fr_gd (fun hg => ?_)
  have hg := bin_lt hg
  refine fr_bv (fun v2 => ?_)
  refine fr_bv (fun v3 => ?_)
  refine fr_bind (fX8_copy _ _ _) (fun a k h => by unfold MOD_X8_copy at h; unfold MOD_X11_canUndo; omega) (fun σ4 => ?_)
  refine fr_gd (fun hg => ?_)
  have hg := bin_lt hg
  refine fr_bv (fun v5 => ?_)
  refine fr_bind (fX8_exchange _ _ _ _ _ _) (fun a k h => by unfold MOD_X8_exchange at h; unfold MOD_X11_canUndo; omega) (fun σ6 => ?_)
  refine fr_gd (fun hg => ?_)
  have hg := bin_lt hg
  refine fr_bv (fun v7 => ?_)
  refine fr_bind (fX1_isSwap _ _ _ _ _ _ _) (fun a k h => by unfold MOD_X1_isSwap at h; unfold MOD_X11_canUndo; omega) (fun r8 => ?_)
  exact fr_some rfl

def MOD_X11_layLoophole (t : Nat) : Nat → Nat → Prop := fun a k => a = t + 173 ∨ (a = t ∧ (k = 9))
theorem fX11_layLoophole (t : Nat) (tw : Nat) (dr : Nat) (p1 : Int32) (p2 : Int32) (σ : St_) : Fr (MOD_X11_layLoophole t) σ (fun b => b) (mX11_layLoophole t tw dr p1 p2 σ) := by
  rw [mX11_layLoophole]
  refine fr_ite ?_ ?_
  · refine fr_bind (fX11_lay _ _ _ _ _) (fun a k h => by unfold MOD_X11_lay at h; unfold MOD_X11_layLoophole; omega) (fun σ1 => ?_)
    refine fr_gd (fun hg => ?_)
    have hg := bin_lt hg
    refine fr_bv (fun v2 => ?_)
    refine fr_bind (fX11_lay _ _ _ _ _) (fun a k h => by unfold MOD_X11_lay at h; unfold MOD_X11_layLoophole; omega) (fun σ3 => ?_)
    refine fr_gd (fun hg => ?_)
    have hg := bin_lt hg
    refine fr_bv (fun v4 => ?_)
    refine fr_bind (fX11_lay _ _ _ _ _) (fun a k h => by unfold MOD_X11_lay at h; unfold MOD_X11_layLoophole; omega) (fun σ5 => ?_)
    refine fr_gd (fun hg => ?_)
    have hg := bin_lt hg
    refine fr_bv (fun v6 => ?_)
    refine fr_bindP (fun r7 => ?_)
    refine fr_bind (fX11_lay _ _ _ _ _) (fun a k h => by unfold MOD_X11_lay at h; unfold MOD_X11_layLoophole; omega) (fun σ8 => ?_)
    exact fr_some rfl
  · exact fr_some rfl

def MOD_X11_loopholes (t : Nat) (tw : Nat) : Nat → Nat → Prop := fun a k => a = t + 173 ∨ (t + 184 ≤ a ∧ a < t + 192) ∨ (t + 222 ≤ a ∧ a < t + 224) ∨ (tw + 14 ≤ a ∧ a < tw + 16) ∨ (a = t + 221 ∧ (k = 2 ∨ k = 3 ∨ k = 4)) ∨ (a = t ∧ (k = 9)) ∨ (a = t + 183 ∧ (k = 4 ∨ k = 9))
theorem fmX11_loopholes_L38 (t : Nat) (tw : Nat) (dr : Nat) (x2 : Int32) (k89 : Int32 → St_ → Option (Int32 × St_)) (hk89 : ∀ (y0 : Int32) (y1 : St_), Fr (MOD_X11_loopholes t tw) y1 (fun b => b.2) (k89 y0 y1)) : ∀ (n : Nat) (x1 : Int32) (x3 : Int32) (σ : St_), Fr (MOD_X11_loopholes t tw) σ (fun b => b.2) (mX11_loopholes_L38 t tw dr x2 k89 n x1 x3 σ) := by
  intro n
  induction n with
  | zero => intros; exact fr_none
  | succ n ih =>
    intro x1 x3 σ
    rw [mX11_loopholes_L38]
    refine fr_ite ?_ ?_
    · exact hk89 _ _
    · refine fr_gd (fun hg => ?_)
      have hg := bin_lt hg
      refine fr_bv (fun v3 => ?_)
      refine fr_bindP (fun r4 => ?_)
      refine fr_jn (fun k7 => ∀ (j5 : Int32) (σ6 : St_), Fr (MOD_X11_loopholes t tw) σ6 (fun b => b.2) (k7 j5 σ6)) ?_ (fun k7 hk7 => ?_)
      · intro j5 σ6
        exact ih _ _ _
      · refine fr_ite ?_ ?_
        · refine fr_bind (fX11_canUndo _ _ _ _ _ _) (fun a k h => by unfold MOD_X11_canUndo at h; unfold MOD_X11_loopholes; omega) (fun r9 => ?_)
          refine fr_ite ?_ ?_
          · refine fr_bind (fX11_layLoophole _ _ _ _ _ _) (fun a k h => by unfold MOD_X11_layLoophole at h; unfold MOD_X11_loopholes; omega) (fun σ10 => ?_)
            exact hk7 _ _
          · exact hk7 _ _
        · exact hk7 _ _

theorem fmX11_loopholes_L9 (t : Nat) (tw : Nat) (dr : Nat) : ∀ (n : Nat) (x1 : Int32) (x2 : Int32) (σ : St_), Fr (MOD_X11_loopholes t tw) σ (fun b => b.2) (mX11_loopholes_L9 t tw dr n x1 x2 σ) := by
  intro n
  induction n with
  | zero => intros; exact fr_none
  | succ n ih =>
    intro x1 x2 σ
    rw [mX11_loopholes_L9]
    refine fr_ite ?_ ?_
    · exact fr_some rfl
    · refine fr_bind (fX9_gather _ _ _ _ _) (fun a k h => by unfold MOD_X9_gather at h; unfold MOD_X11_loopholes; omega) (fun σ2 => ?_)
      refine fmX11_loopholes_L38 _ _ _ _ _ ?_ _ _ _ _
      · intro y11 σ12
        exact ih _ _ _

theorem fX11_loopholes (t : Nat) (tw : Nat) (dr : Nat) (σ : St_) : Fr (MOD_X11_loopholes t tw) σ (fun b => b.2) (mX11_loopholes t tw dr σ) := by
  rw [mX11_loopholes]
  refine fr_sI (by unfold MOD_X11_loopholes; omega) (fun σ1 => ?_)
  exact fmX11_loopholes_L9 _ _ _ _ _ _ _

def MOD_X11_layDoer (t : Nat) : Nat → Nat → Prop := fun a k => a = t + 173 ∨ (a = t ∧ (k = 9))
theorem fX11_layDoer (t : Nat) (tw : Nat) (dr : Nat) (p1 : Int32) (p2 : Int32) (p3 : Int32) (σ : St_) : Fr (MOD_X11_layDoer t) σ (fun b => b) (mX11_layDoer t tw dr p1 p2 p3 σ) := by
  rw [mX11_layDoer]
  refine fr_ite ?_ ?_
  · refine fr_bind (fX11_lay _ _ _ _ _) (fun a k h => by unfold MOD_X11_lay at h; unfold MOD_X11_layDoer; omega) (fun σ1 => ?_)
    refine fr_bind (fX11_lay _ _ _ _ _) (fun a k h => by unfold MOD_X11_lay at h; unfold MOD_X11_layDoer; omega) (fun σ2 => ?_)
    refine fr_gd (fun hg => ?_)
    have hg := bin_lt hg
    refine fr_bv (fun v3 => ?_)
    refine fr_bind (fX11_lay _ _ _ _ _) (fun a k h => by unfold MOD_X11_lay at h; unfold MOD_X11_layDoer; omega) (fun σ4 => ?_)
    refine fr_gd (fun hg => ?_)
    have hg := bin_lt hg
    refine fr_bv (fun v5 => ?_)
    refine fr_bind (fX11_lay _ _ _ _ _) (fun a k h => by unfold MOD_X11_lay at h; unfold MOD_X11_layDoer; omega) (fun σ6 => ?_)
    refine fr_gd (fun hg => ?_)
    have hg := bin_lt hg
    refine fr_bv (fun v7 => ?_)
    refine fr_bind (fX11_lay _ _ _ _ _) (fun a k h => by unfold MOD_X11_lay at h; unfold MOD_X11_layDoer; omega) (fun σ8 => ?_)
    exact fr_some rfl
  · exact fr_some rfl

def MOD_X11_who (t : Nat) (tw : Nat) : Nat → Nat → Prop := fun a k => a = t + 173 ∨ (t + 184 ≤ a ∧ a < t + 192) ∨ (t + 222 ≤ a ∧ a < t + 224) ∨ (tw + 14 ≤ a ∧ a < tw + 16) ∨ (a = t ∧ (k = 9)) ∨ (a = t + 221 ∧ (k = 2 ∨ k = 3 ∨ k = 4)) ∨ (a = t + 183 ∧ (k = 4 ∨ k = 9))
theorem fmX11_who_L94 (t : Nat) (tw : Nat) (dr : Nat) (x1 : Int32) (x3 : Int32) (x4 : Int32) (k134 : Int32 → St_ → Option (Int32 × St_)) (hk134 : ∀ (y0 : Int32) (y1 : St_), Fr (MOD_X11_who t tw) y1 (fun b => b.2) (k134 y0 y1)) : ∀ (n : Nat) (x2 : Int32) (x5 : Int32) (σ : St_), Fr (MOD_X11_who t tw) σ (fun b => b.2) (mX11_who_L94 t tw dr x1 x3 x4 k134 n x2 x5 σ) := by
  intro n
  induction n with
  | zero => intros; exact fr_none
  | succ n ih =>
    intro x2 x5 σ
    rw [mX11_who_L94]
    refine fr_ite ?_ ?_
    · exact hk134 _ _
    · refine fr_bindP (fun r8 => ?_)
      refine fr_jn (fun k11 => ∀ (j9 : Int32) (σ10 : St_), Fr (MOD_X11_who t tw) σ10 (fun b => b.2) (k11 j9 σ10)) ?_ (fun k11 hk11 => ?_)
      · intro j9 σ10
        exact ih _ _ _
      · refine fr_ite ?_ ?_
        · refine fr_bind (fX11_layDoer _ _ _ _ _ _ _) (fun a k h => by unfold MOD_X11_layDoer at h; unfold MOD_X11_who; omega) (fun σ13 => ?_)
          exact hk11 _ _
        · exact hk11 _ _

theorem fmX11_who_L33 (t : Nat) (tw : Nat) (dr : Nat) (x1 : Int32) (x3 : Int32) (k140 : Int32 → St_ → Option (Int32 × St_)) (hk140 : ∀ (y0 : Int32) (y1 : St_), Fr (MOD_X11_who t tw) y1 (fun b => b.2) (k140 y0 y1)) : ∀ (n : Nat) (x2 : Int32) (x4 : Int32) (σ : St_), Fr (MOD_X11_who t tw) σ (fun b => b.2) (mX11_who_L33 t tw dr x1 x3 k140 n x2 x4 σ) := by
  intro n
  induction n with
  | zero => intros; exact fr_none
  | succ n ih =>
    intro x2 x4 σ
    rw [mX11_who_L33]
    refine fr_ite ?_ ?_
    · exact hk140 _ _
    · refine fr_gd (fun hg => ?_)
      have hg := bin_lt hg
      refine fr_bind (fX8_copy _ _ _) (fun a k h => by unfold MOD_X8_copy at h; unfold MOD_X11_who; omega) (fun σ4 => ?_)
      refine fr_sI (by unfold MOD_X11_who; omega) (fun σ5 => ?_)
      refine fr_sI (by unfold MOD_X11_who; omega) (fun σ6 => ?_)
      refine fr_bind (fX9_gather _ _ _ _ _) (fun a k h => by unfold MOD_X9_gather at h; unfold MOD_X11_who; omega) (fun σ7 => ?_)
      refine fmX11_who_L94 _ _ _ _ _ _ _ ?_ _ _ _ _
      · intro y14 σ15
        exact ih _ _ _

theorem fmX11_who_L19 (t : Nat) (tw : Nat) (dr : Nat) (x1 : Int32) : ∀ (n : Nat) (x2 : Int32) (x3 : Int32) (σ : St_), Fr (MOD_X11_who t tw) σ (fun b => b.2) (mX11_who_L19 t tw dr x1 n x2 x3 σ) := by
  intro n
  induction n with
  | zero => intros; exact fr_none
  | succ n ih =>
    intro x2 x3 σ
    rw [mX11_who_L19]
    refine fr_ite ?_ ?_
    · exact fr_some rfl
    · refine fmX11_who_L33 _ _ _ _ _ _ ?_ _ _ _ _
      · intro y16 σ17
        exact ih _ _ _

theorem fX11_who (t : Nat) (tw : Nat) (dr : Nat) (p1 : Int32) (σ : St_) : Fr (MOD_X11_who t tw) σ (fun b => b.2) (mX11_who t tw dr p1 σ) := by
  rw [mX11_who]
  refine fr_sI (by unfold MOD_X11_who; omega) (fun σ1 => ?_)
  refine fr_bindP (fun r2 => ?_)
  refine fr_ite ?_ ?_
  · exact fmX11_who_L19 _ _ _ _ _ _ _ _
  · exact fr_some rfl

def MOD_X11_report (t : Nat) : Nat → Nat → Prop := fun a k => (t + 175 ≤ a ∧ a < t + 182) ∨ (a = t + 174 ∧ (k = 7))
theorem fX11_report (t : Nat) (tw : Nat) (dr : Nat) (p1 : Int32) (p2 : Int32) (p3 : Int32) (p4 : Int32) (p5 : Bool) (σ : St_) : Fr (MOD_X11_report t) σ (fun b => b.2) (mX11_report t tw dr p1 p2 p3 p4 p5 σ) := by
  rw [mX11_report]
  refine fr_bindP (fun r1 => ?_)
  refine fr_ite ?_ ?_
  · refine fr_bindP (fun r2 => ?_)
    refine fr_ite ?_ ?_
    · refine fr_bindP (fun r3 => ?_)
      refine fr_ite ?_ ?_
      · refine fr_ite ?_ ?_
        · exact fr_some rfl
        · refine fr_ite ?_ ?_
          · exact fr_some rfl
          · refine fr_ite ?_ ?_
            · refine fr_bind (fX5_add _ _ _ _ _ _ _ _) (fun a k h => by unfold MOD_X5_add at h; unfold MOD_X11_report; omega) (fun r4 => ?_)
              exact fr_some rfl
            · exact fr_some rfl
      · exact fr_some rfl
    · exact fr_some rfl
  · exact fr_some rfl

def MOD_X11_untell (t : Nat) : Nat → Nat → Prop := fun a k => a = t + 181
theorem fX11_untell (t : Nat) (tw : Nat) (dr : Nat) (p1 : Int32) (σ : St_) : Fr (MOD_X11_untell t) σ (fun b => b.2) (mX11_untell t tw dr p1 σ) := by
  rw [mX11_untell]
  refine fr_bind (fX5_takeBack _ _ _ _) (fun a k h => by unfold MOD_X5_takeBack at h; unfold MOD_X11_untell; omega) (fun r1 => ?_)
  exact fr_some rfl

def MOD_X11_later (t : Nat) : Nat → Nat → Prop := fun a k => (a = t ∧ (k = 11))
theorem fX11_later (t : Nat) (tw : Nat) (dr : Nat) (p1 : Int32) (σ : St_) : Fr (MOD_X11_later t) σ (fun b => b.2) (mX11_later t tw dr p1 σ) := by
  rw [mX11_later]
  refine fr_ite ?_ ?_
  · exact fr_some rfl
  · refine fr_ite ?_ ?_
    · exact fr_some rfl
    · refine fr_ite ?_ ?_
      · refine fr_sI (by unfold MOD_X11_later; omega) (fun σ1 => ?_)
        exact fr_some rfl
      · exact fr_some rfl

def MOD_X11_span (t : Nat) (tw : Nat) : Nat → Nat → Prop := fun a k => a = tw + 9 ∨ (tw + 14 ≤ a ∧ a < tw + 16) ∨ a = t + 182 ∨ (a = t + 174 ∧ (k = 9 ∨ k = 10 ∨ k = 11))
theorem fX11_span (t : Nat) (tw : Nat) (dr : Nat) (p1 : Int32) (p2 : Int32) (p3 : Int32) (p4 : Int32) (σ : St_) : Fr (MOD_X11_span t tw) σ (fun b => b.2) (mX11_span t tw dr p1 p2 p3 p4 σ) := by
  rw [mX11_span]
  refine fr_bindP (fun r1 => ?_)
  refine fr_ite ?_ ?_
  · refine fr_bindP (fun r2 => ?_)
    refine fr_ite ?_ ?_
    · refine fr_ite ?_ ?_
      · exact fr_some rfl
      · refine fr_ite ?_ ?_
        · refine fr_bind (fX5_fit _ _ _ _ _ _) (fun a k h => by unfold MOD_X5_fit at h; unfold MOD_X11_span; omega) (fun σ3 => ?_)
          refine fr_ite ?_ ?_
          · exact fr_some rfl
          · refine fr_ite ?_ ?_
            · exact fr_some rfl
            · exact fr_some rfl
        · exact fr_some rfl
    · exact fr_some rfl
  · exact fr_some rfl

def MOD_X11_ask (t : Nat) (tw : Nat) : Nat → Nat → Prop := fun a k => a = tw + 9 ∨ (tw + 14 ≤ a ∧ a < tw + 16) ∨ a = t + 182 ∨ (a = t + 174 ∧ (k = 9 ∨ k = 10 ∨ k = 11 ∨ k = 12 ∨ k = 13 ∨ k = 14))
theorem fX11_ask (t : Nat) (tw : Nat) (dr : Nat) (p1 : Int32) (p2 : Int32) (p3 : Int32) (p4 : Int32) (σ : St_) : Fr (MOD_X11_ask t tw) σ (fun b => b.2) (mX11_ask t tw dr p1 p2 p3 p4 σ) := by
  rw [mX11_ask]
  refine fr_bindP (fun r1 => ?_)
  refine fr_ite ?_ ?_
  · refine fr_bindP (fun r2 => ?_)
    refine fr_ite ?_ ?_
    · refine fr_ite ?_ ?_
      · exact fr_some rfl
      · refine fr_ite ?_ ?_
        · refine fr_bind (fX5_fit _ _ _ _ _ _) (fun a k h => by unfold MOD_X5_fit at h; unfold MOD_X11_ask; omega) (fun σ3 => ?_)
          refine fr_ite ?_ ?_
          · exact fr_some rfl
          · refine fr_ite ?_ ?_
            · refine fr_bind (fX5_findQuestion _ _ _ _ _) (fun a k h => by unfold MOD_X5_findQuestion at h; unfold MOD_X11_ask; omega) (fun σ4 => ?_)
              refine fr_ite ?_ ?_
              · exact fr_some rfl
              · exact fr_some rfl
            · exact fr_some rfl
        · exact fr_some rfl
    · exact fr_some rfl
  · exact fr_some rfl

def MOD_X11_image (t : Nat) : Nat → Nat → Prop := fun a k => (t + 224 ≤ a ∧ a < t + 233) ∨ (a = t ∧ (k = 7))
theorem fX11_image (t : Nat) (tw : Nat) (dr : Nat) (p1 : Int32) (σ : St_) : Fr (MOD_X11_image t) σ (fun b => b.2) (mX11_image t tw dr p1 σ) := by
  rw [mX11_image]
  refine fr_ite ?_ ?_
  · exact fr_some rfl
  · refine fr_ite ?_ ?_
    · refine fr_gd (fun hg => ?_)
      have hg := bin_lt hg
      refine fr_bind (fX8_copy _ _ _) (fun a k h => by unfold MOD_X8_copy at h; unfold MOD_X11_image; omega) (fun σ2 => ?_)
      refine fr_sI (by unfold MOD_X11_image; omega) (fun σ3 => ?_)
      exact fr_some rfl
    · exact fr_some rfl

def MOD_X11_back (t : Nat) : Nat → Nat → Prop := fun a k => (t + 45 ≤ a ∧ a < t + 47) ∨ (t + 49 ≤ a ∧ a < t + 172) ∨ (a = t + 44 ∧ (k = 2 ∨ k = 3 ∨ k = 4)) ∨ (a = t + 47 ∧ (k = 1 ∨ k = 2 ∨ k = 3))
theorem fX11_back (t : Nat) (tw : Nat) (dr : Nat) (p1 : Int32) (σ : St_) : Fr (MOD_X11_back t) σ (fun b => b.2) (mX11_back t tw dr p1 σ) := by
  rw [mX11_back]
  refine fr_bindP (fun r1 => ?_)
  refine fr_ite ?_ ?_
  · refine fr_gd (fun hg => ?_)
    have hg := bin_lt hg
    refine fr_bind (fX8_copy _ _ _) (fun a k h => by unfold MOD_X8_copy at h; unfold MOD_X11_back; omega) (fun σ3 => ?_)
    refine fr_bind (fX0_begin _ _ _) (fun a k h => by unfold MOD_X0_begin at h; unfold MOD_X11_back; omega) (fun σ4 => ?_)
    exact fr_some rfl
  · exact fr_some rfl

def MOD_X12_four (t : Nat) : Nat → Nat → Prop := fun a k => a = t + 1 ∨ (a = t ∧ (k = 1))
theorem fmX12_four_L3 (t : Nat) (x1 : Int32) : ∀ (n : Nat) (x2 : Int32) (σ : St_), Fr (MOD_X12_four t) σ (fun b => b) (mX12_four_L3 t x1 n x2 σ) := by
  intro n
  induction n with
  | zero => intros; exact fr_none
  | succ n ih =>
    intro x2 σ
    rw [mX12_four_L3]
    refine fr_ite ?_ ?_
    · exact fr_some rfl
    · refine fr_bv (fun v1 => ?_)
      refine fr_gd (fun hg => ?_)
      have hg := bin_lt hg
      refine fr_sI (by unfold MOD_X12_four; omega) (fun σ2 => ?_)
      refine fr_sI (by unfold MOD_X12_four; omega) (fun σ3 => ?_)
      exact ih _ _

theorem fX12_four (t : Nat) (p1 : Int32) (σ : St_) : Fr (MOD_X12_four t) σ (fun b => b) (mX12_four t p1 σ) := by
  rw [mX12_four]
  exact fmX12_four_L3 _ _ _ _ _

def MOD_X12_feed (t : Nat) : Nat → Nat → Prop := fun a k => a = t + 1 ∨ (a = t ∧ (k = 1))
theorem fX12_feed (t : Nat) (p1 : Int32) (p2 : Int32) (p3 : Int32) (p4 : Int32) (p5 : Int32) (σ : St_) : Fr (MOD_X12_feed t) σ (fun b => b.2) (mX12_feed t p1 p2 p3 p4 p5 σ) := by
  rw [mX12_feed]
  refine fr_ite ?_ ?_
  · refine fr_bind (fX12_four _ _ _) (fun a k h => by unfold MOD_X12_four at h; unfold MOD_X12_feed; omega) (fun σ1 => ?_)
    refine fr_bind (fX12_four _ _ _) (fun a k h => by unfold MOD_X12_four at h; unfold MOD_X12_feed; omega) (fun σ2 => ?_)
    refine fr_bind (fX12_four _ _ _) (fun a k h => by unfold MOD_X12_four at h; unfold MOD_X12_feed; omega) (fun σ3 => ?_)
    refine fr_bind (fX12_four _ _ _) (fun a k h => by unfold MOD_X12_four at h; unfold MOD_X12_feed; omega) (fun σ4 => ?_)
    refine fr_bind (fX12_four _ _ _) (fun a k h => by unfold MOD_X12_four at h; unfold MOD_X12_feed; omega) (fun σ5 => ?_)
    exact fr_some rfl
  · exact fr_some rfl

def MOD_X12_end (t : Nat) : Nat → Nat → Prop := fun a k => (a = t ∧ (k = 1))
theorem fX12_end (t : Nat) (p1 : Int32) (σ : St_) : Fr (MOD_X12_end t) σ (fun b => b.2) (mX12_end t p1 σ) := by
  rw [mX12_end]
  refine fr_ite ?_ ?_
  · exact fr_some rfl
  · refine fr_ite ?_ ?_
    · refine fr_sI (by unfold MOD_X12_end; omega) (fun σ1 => ?_)
      exact fr_some rfl
    · exact fr_some rfl

def MOD_X12_token (t : Nat) : Nat → Nat → Prop := fun a k => (a = t ∧ (k = 4 ∨ k = 6 ∨ k = 7 ∨ k = 8 ∨ k = 9))
theorem fmX12_token_L0 (t : Nat) (k33 : St_ → Option St_) (hk33 : ∀ (y0 : St_), Fr (MOD_X12_token t) y0 (fun b => b) (k33 y0)) : ∀ (n : Nat) (σ : St_), Fr (MOD_X12_token t) σ (fun b => b) (mX12_token_L0 t k33 n σ) := by
  intro n
  induction n with
  | zero => intros; exact fr_none
  | succ n ih =>
    intro σ
    rw [mX12_token_L0]
    refine fr_bindP (fun r1 => ?_)
    refine fr_jn (fun k2 => Fr (MOD_X12_token t) σ (fun b => b) k2) ?_ (fun k2 hk2 => ?_)
    · refine fr_sI (by unfold MOD_X12_token; omega) (fun σ4 => ?_)
      exact ih _
    · refine fr_ite ?_ ?_
      · exact hk2
      · refine fr_bindP (fun r5 => ?_)
        refine fr_ite ?_ ?_
        · exact hk2
        · exact hk33 _

theorem fmX12_token_L78 (t : Nat) (k119 : Int32 → St_ → Option St_) (hk119 : ∀ (y0 : Int32) (y1 : St_), Fr (MOD_X12_token t) y1 (fun b => b) (k119 y0 y1)) : ∀ (n : Nat) (x2 : Int32) (σ : St_), Fr (MOD_X12_token t) σ (fun b => b) (mX12_token_L78 t k119 n x2 σ) := by
  intro n
  induction n with
  | zero => intros; exact fr_none
  | succ n ih =>
    intro x2 σ
    rw [mX12_token_L78]
    refine fr_bindP (fun r17 => ?_)
    refine fr_bindP (fun r18 => ?_)
    refine fr_ite ?_ ?_
    · refine fr_jn (fun k20 => ∀ (σ19 : St_), Fr (MOD_X12_token t) σ19 (fun b => b) (k20 σ19)) ?_ (fun k20 hk20 => ?_)
      · intro σ19
        exact ih _ _
      · refine fr_ite ?_ ?_
        · exact hk20 _
        · refine fr_bindP (fun r22 => ?_)
          refine fr_sL (by unfold MOD_X12_token; omega) (fun σ23 => ?_)
          exact hk20 _
    · exact hk119 _ _

theorem fmX12_token_L144 (t : Nat) (k186 : Int32 → St_ → Option St_) (hk186 : ∀ (y0 : Int32) (y1 : St_), Fr (MOD_X12_token t) y1 (fun b => b) (k186 y0 y1)) : ∀ (n : Nat) (x2 : Int32) (σ : St_), Fr (MOD_X12_token t) σ (fun b => b) (mX12_token_L144 t k186 n x2 σ) := by
  intro n
  induction n with
  | zero => intros; exact fr_none
  | succ n ih =>
    intro x2 σ
    rw [mX12_token_L144]
    refine fr_bindP (fun r31 => ?_)
    refine fr_bindP (fun r32 => ?_)
    refine fr_ite ?_ ?_
    · refine fr_jn (fun k34 => ∀ (σ33 : St_), Fr (MOD_X12_token t) σ33 (fun b => b) (k34 σ33)) ?_ (fun k34 hk34 => ?_)
      · intro σ33
        exact ih _ _
      · refine fr_ite ?_ ?_
        · exact hk34 _
        · refine fr_bindP (fun r36 => ?_)
          refine fr_sI (by unfold MOD_X12_token; omega) (fun σ37 => ?_)
          exact hk34 _
    · exact hk186 _ _

theorem fX12_token (t : Nat) (σ : St_) : Fr (MOD_X12_token t) σ (fun b => b) (mX12_token t σ) := by
  rw [mX12_token]
  refine fmX12_token_L0 _ _ ?_ _ _
  · intro σ6
    refine fr_sI (by unfold MOD_X12_token; omega) (fun σ7 => ?_)
    refine fr_bindP (fun r8 => ?_)
    refine fr_sL (by unfold MOD_X12_token; omega) (fun σ9 => ?_)
    refine fr_sI (by unfold MOD_X12_token; omega) (fun σ10 => ?_)
    refine fr_jn (fun k13 => ∀ (j11 : Int32) (σ12 : St_), Fr (MOD_X12_token t) σ12 (fun b => b) (k13 j11 σ12)) ?_ (fun k13 hk13 => ?_)
    · intro j11 σ12
      refine fr_ite ?_ ?_
      · exact fr_some rfl
      · refine fr_sI (by unfold MOD_X12_token; omega) (fun σ15 => ?_)
        exact fr_some rfl
    · refine fr_ite ?_ ?_
      · refine fr_bindP (fun r16 => ?_)
        refine fr_ite ?_ ?_
        · refine fmX12_token_L78 _ _ ?_ _ _ _
          · intro y24 σ25
            refine fr_jn (fun k27 => ∀ (j26 : Int32), Fr (MOD_X12_token t) σ25 (fun b => b) (k27 j26)) ?_ (fun k27 hk27 => ?_)
            · intro j26
              refine fr_sI (by unfold MOD_X12_token; omega) (fun σ29 => ?_)
              exact hk13 _ _
            · refine fr_ite ?_ ?_
              · exact hk27 _
              · exact hk27 _
        · refine fr_bindP (fun r30 => ?_)
          refine fr_ite ?_ ?_
          · refine fmX12_token_L144 _ _ ?_ _ _ _
            · intro y38 σ39
              refine fr_jn (fun k41 => ∀ (j40 : Int32), Fr (MOD_X12_token t) σ39 (fun b => b) (k41 j40)) ?_ (fun k41 hk41 => ?_)
              · intro j40
                refine fr_sI (by unfold MOD_X12_token; omega) (fun σ43 => ?_)
                exact hk13 _ _
              · refine fr_jn (fun k44 => Fr (MOD_X12_token t) σ39 (fun b => b) k44) ?_ (fun k44 hk44 => ?_)
                · exact hk41 _
                · refine fr_ite ?_ ?_
                  · exact hk44
                  · refine fr_bindP (fun r46 => ?_)
                    refine fr_bindP (fun r47 => ?_)
                    refine fr_ite ?_ ?_
                    · exact hk44
                    · exact hk41 _
          · refine fr_bindP (fun r48 => ?_)
            refine fr_jn (fun k50 => ∀ (j49 : Int32), Fr (MOD_X12_token t) σ10 (fun b => b) (k50 j49)) ?_ (fun k50 hk50 => ?_)
            · intro j49
              refine fr_sI (by unfold MOD_X12_token; omega) (fun σ52 => ?_)
              exact hk13 _ _
            · refine fr_ite ?_ ?_
              · exact hk50 _
              · exact hk50 _
      · refine fr_sI (by unfold MOD_X12_token; omega) (fun σ53 => ?_)
        exact hk13 _ _

def MOD_X12_wrong (t : Nat) : Nat → Nat → Prop := fun a k => (a = t ∧ (k = 2 ∨ k = 3))
theorem fX12_wrong (t : Nat) (p1 : Int32) (σ : St_) : Fr (MOD_X12_wrong t) σ (fun b => b) (mX12_wrong t p1 σ) := by
  rw [mX12_wrong]
  refine fr_ite ?_ ?_
  · refine fr_jn (fun k2 => ∀ (j1 : Int32), Fr (MOD_X12_wrong t) σ (fun b => b) (k2 j1)) ?_ (fun k2 hk2 => ?_)
    · intro j1
      refine fr_sI (by unfold MOD_X12_wrong; omega) (fun σ4 => ?_)
      refine fr_sI (by unfold MOD_X12_wrong; omega) (fun σ5 => ?_)
      exact fr_some rfl
    · refine fr_ite ?_ ?_
      · exact hk2 _
      · exact hk2 _
  · exact fr_some rfl

def MOD_X12_want (t : Nat) : Nat → Nat → Prop := fun a k => (a = t ∧ (k = 2 ∨ k = 3 ∨ k = 4 ∨ k = 6 ∨ k = 7 ∨ k = 8 ∨ k = 9))
theorem fX12_want (t : Nat) (p1 : Int64) (σ : St_) : Fr (MOD_X12_want t) σ (fun b => b) (mX12_want t p1 σ) := by
  rw [mX12_want]
  refine fr_ite ?_ ?_
  · refine fr_bindP (fun r1 => ?_)
    refine fr_ite ?_ ?_
    · refine fr_bind (fX12_token _ _) (fun a k h => by unfold MOD_X12_token at h; unfold MOD_X12_want; omega) (fun σ2 => ?_)
      exact fr_some rfl
    · refine fr_bind (fX12_wrong _ _ _) (fun a k h => by unfold MOD_X12_wrong at h; unfold MOD_X12_want; omega) (fun σ3 => ?_)
      exact fr_some rfl
  · exact fr_some rfl

def MOD_X12_toldNumber (t : Nat) : Nat → Nat → Prop := fun a k => (a = t ∧ (k = 2 ∨ k = 3 ∨ k = 4 ∨ k = 6 ∨ k = 7 ∨ k = 8 ∨ k = 9))
theorem fX12_toldNumber (t : Nat) (p1 : Int32) (p2 : Int32) (σ : St_) : Fr (MOD_X12_toldNumber t) σ (fun b => b.2) (mX12_toldNumber t p1 p2 σ) := by
  rw [mX12_toldNumber]
  refine fr_ite ?_ ?_
  · refine fr_jn (fun k2 => ∀ (σ1 : St_), Fr (MOD_X12_toldNumber t) σ1 (fun b => b.2) (k2 σ1)) ?_ (fun k2 hk2 => ?_)
    · intro σ1
      refine fr_bv (fun v4 => ?_)
      refine fr_ite ?_ ?_
      · refine fr_bind (fX12_token _ _) (fun a k h => by unfold MOD_X12_token at h; unfold MOD_X12_toldNumber; omega) (fun σ5 => ?_)
        exact fr_some rfl
      · exact fr_some rfl
    · refine fr_ite ?_ ?_
      · refine fr_jn (fun k6 => Fr (MOD_X12_toldNumber t) σ (fun b => b.2) k6) ?_ (fun k6 hk6 => ?_)
        · refine fr_bind (fX12_wrong _ _ _) (fun a k h => by unfold MOD_X12_wrong at h; unfold MOD_X12_toldNumber; omega) (fun σ8 => ?_)
          exact hk2 _
        · refine fr_ite ?_ ?_
          · exact hk6
          · refine fr_ite ?_ ?_
            · exact hk2 _
            · exact hk6
      · refine fr_bind (fX12_wrong _ _ _) (fun a k h => by unfold MOD_X12_wrong at h; unfold MOD_X12_toldNumber; omega) (fun σ9 => ?_)
        exact hk2 _
  · exact fr_some rfl

def MOD_X12_told (t : Nat) : Nat → Nat → Prop := fun a k => (a = t ∧ (k = 2 ∨ k = 3 ∨ k = 4 ∨ k = 6 ∨ k = 7 ∨ k = 8 ∨ k = 9))
theorem fX12_told (t : Nat) (p1 : Int64) (p2 : Int32) (p3 : Int32) (σ : St_) : Fr (MOD_X12_told t) σ (fun b => b.2) (mX12_told t p1 p2 p3 σ) := by
  rw [mX12_told]
  refine fr_bind (fX12_want _ _ _) (fun a k h => by unfold MOD_X12_want at h; unfold MOD_X12_told; omega) (fun σ1 => ?_)
  refine fr_bind (fX12_toldNumber _ _ _ _) (fun a k h => by unfold MOD_X12_toldNumber at h; unfold MOD_X12_told; omega) (fun r2 => ?_)
  exact fr_some rfl

def MOD_X12_newName (t : Nat) : Nat → Nat → Prop := fun a k => a = t + 2 ∨ (a = t ∧ (k = 2 ∨ k = 3 ∨ k = 4 ∨ k = 6 ∨ k = 7 ∨ k = 8 ∨ k = 9))
theorem fX12_newName (t : Nat) (p1 : Int32) (p2 : Int32) (σ : St_) : Fr (MOD_X12_newName t) σ (fun b => b) (mX12_newName t p1 p2 σ) := by
  rw [mX12_newName]
  refine fr_bind (fX12_token _ _) (fun a k h => by unfold MOD_X12_token at h; unfold MOD_X12_newName; omega) (fun σ1 => ?_)
  refine fr_bindP (fun r2 => ?_)
  refine fr_jn (fun k4 => ∀ (σ3 : St_), Fr (MOD_X12_newName t) σ3 (fun b => b) (k4 σ3)) ?_ (fun k4 hk4 => ?_)
  · intro σ3
    refine fr_ite ?_ ?_
    · refine fr_bv (fun v6 => ?_)
      refine fr_gd (fun hg => ?_)
      have hg := bin_lt hg
      refine fr_sL (by unfold MOD_X12_newName; omega) (fun σ7 => ?_)
      refine fr_bind (fX12_token _ _) (fun a k h => by unfold MOD_X12_token at h; unfold MOD_X12_newName; omega) (fun σ8 => ?_)
      exact fr_some rfl
    · exact fr_some rfl
  · refine fr_ite ?_ ?_
    · refine fr_bindP (fun r9 => ?_)
      refine fr_ite ?_ ?_
      · exact hk4 _
      · refine fr_bind (fX12_wrong _ _ _) (fun a k h => by unfold MOD_X12_wrong at h; unfold MOD_X12_newName; omega) (fun σ10 => ?_)
        exact hk4 _
    · refine fr_bind (fX12_wrong _ _ _) (fun a k h => by unfold MOD_X12_wrong at h; unfold MOD_X12_newName; omega) (fun σ11 => ?_)
      exact hk4 _

def MOD_X12_oldName (t : Nat) : Nat → Nat → Prop := fun a k => (a = t ∧ (k = 2 ∨ k = 3))
theorem fX12_oldName (t : Nat) (p1 : Int32) (p2 : Int32) (σ : St_) : Fr (MOD_X12_oldName t) σ (fun b => b.2) (mX12_oldName t p1 p2 σ) := by
  rw [mX12_oldName]
  refine fr_ite ?_ ?_
  · refine fr_bindP (fun r1 => ?_)
    refine fr_jn (fun k3 => ∀ (σ2 : St_), Fr (MOD_X12_oldName t) σ2 (fun b => b.2) (k3 σ2)) ?_ (fun k3 hk3 => ?_)
    · intro σ2
      refine fr_ite ?_ ?_
      · refine fr_bindP (fun r5 => ?_)
        exact fr_some rfl
      · exact fr_some rfl
    · refine fr_ite ?_ ?_
      · refine fr_bindP (fun r6 => ?_)
        refine fr_ite ?_ ?_
        · exact hk3 _
        · refine fr_bind (fX12_wrong _ _ _) (fun a k h => by unfold MOD_X12_wrong at h; unfold MOD_X12_oldName; omega) (fun σ7 => ?_)
          exact hk3 _
      · refine fr_bind (fX12_wrong _ _ _) (fun a k h => by unfold MOD_X12_wrong at h; unfold MOD_X12_oldName; omega) (fun σ8 => ?_)
        exact hk3 _
  · exact fr_some rfl

def MOD_X12_add (t : Nat) : Nat → Nat → Prop := fun a k => (t + 4 ≤ a ∧ a < t + 6) ∨ (a = t ∧ (k = 19))
theorem fX12_add (t : Nat) (p1 : Int32) (p2 : Int32) (σ : St_) : Fr (MOD_X12_add t) σ (fun b => b) (mX12_add t p1 p2 σ) := by
  rw [mX12_add]
  refine fr_bv (fun v1 => ?_)
  refine fr_gd (fun hg => ?_)
  have hg := bin_lt hg
  refine fr_sI (by unfold MOD_X12_add; omega) (fun σ2 => ?_)
  refine fr_bv (fun v3 => ?_)
  refine fr_gd (fun hg => ?_)
  have hg := bin_lt hg
  refine fr_sI (by unfold MOD_X12_add; omega) (fun σ4 => ?_)
  refine fr_sI (by unfold MOD_X12_add; omega) (fun σ5 => ?_)
  exact fr_some rfl

def MOD_X12_close (t : Nat) : Nat → Nat → Prop := fun a k => (t + 4 ≤ a ∧ a < t + 6) ∨ (a = t ∧ (k = 19 ∨ k = 21 ∨ k = 25))
theorem fmX12_close_L0 (t : Nat) (x1 : Int32) : ∀ (n : Nat) (σ : St_), Fr (MOD_X12_close t) σ (fun b => b) (mX12_close_L0 t x1 n σ) := by
  intro n
  induction n with
  | zero => intros; exact fr_none
  | succ n ih =>
    intro σ
    rw [mX12_close_L0]
    refine fr_ite ?_ ?_
    · exact fr_some rfl
    · refine fr_bv (fun v1 => ?_)
      refine fr_gd (fun hg => ?_)
      have hg := bin_lt hg
      refine fr_bv (fun v2 => ?_)
      refine fr_ite ?_ ?_
      · exact fr_some rfl
      · refine fr_bv (fun v3 => ?_)
        refine fr_gd (fun hg => ?_)
        have hg := bin_lt hg
        refine fr_bv (fun v4 => ?_)
        refine fr_bindP (fun r5 => ?_)
        refine fr_ite ?_ ?_
        · exact fr_some rfl
        · refine fr_sI (by unfold MOD_X12_close; omega) (fun σ6 => ?_)
          refine fr_bv (fun v7 => ?_)
          refine fr_gd (fun hg => ?_)
          have hg := bin_lt hg
          refine fr_bv (fun v8 => ?_)
          refine fr_ite ?_ ?_
          · refine fr_bind (fX12_add _ _ _ _) (fun a k h => by unfold MOD_X12_add at h; unfold MOD_X12_close; omega) (fun σ9 => ?_)
            refine fr_sI (by unfold MOD_X12_close; omega) (fun σ10 => ?_)
            exact ih _
          · refine fr_bv (fun v11 => ?_)
            refine fr_gd (fun hg => ?_)
            have hg := bin_lt hg
            refine fr_bv (fun v12 => ?_)
            refine fr_bind (fX12_add _ _ _ _) (fun a k h => by unfold MOD_X12_add at h; unfold MOD_X12_close; omega) (fun σ13 => ?_)
            exact ih _

theorem fX12_close (t : Nat) (p1 : Int32) (σ : St_) : Fr (MOD_X12_close t) σ (fun b => b) (mX12_close t p1 σ) := by
  rw [mX12_close]
  exact fmX12_close_L0 _ _ _ _

def MOD_X12_countUnit (t : Nat) : Nat → Nat → Prop := fun a k => (a = t ∧ (k = 22 ∨ k = 24))
theorem fX12_countUnit (t : Nat) (σ : St_) : Fr (MOD_X12_countUnit t) σ (fun b => b) (mX12_countUnit t σ) := by
  rw [mX12_countUnit]
  refine fr_sI (by unfold MOD_X12_countUnit; omega) (fun σ1 => ?_)
  refine fr_sI (by unfold MOD_X12_countUnit; omega) (fun σ2 => ?_)
  exact fr_some rfl

def MOD_X12_openUp (t : Nat) : Nat → Nat → Prop := fun a k => a = t + 8 ∨ (a = t ∧ (k = 4 ∨ k = 6 ∨ k = 7 ∨ k = 8 ∨ k = 9 ∨ k = 21 ∨ k = 25))
theorem fX12_openUp (t : Nat) (p1 : Int32) (σ : St_) : Fr (MOD_X12_openUp t) σ (fun b => b) (mX12_openUp t p1 σ) := by
  rw [mX12_openUp]
  refine fr_bv (fun v1 => ?_)
  refine fr_gd (fun hg => ?_)
  have hg := bin_lt hg
  refine fr_sI (by unfold MOD_X12_openUp; omega) (fun σ2 => ?_)
  refine fr_sI (by unfold MOD_X12_openUp; omega) (fun σ3 => ?_)
  refine fr_sI (by unfold MOD_X12_openUp; omega) (fun σ4 => ?_)
  refine fr_ite ?_ ?_
  · refine fr_bind (fX12_token _ _) (fun a k h => by unfold MOD_X12_token at h; unfold MOD_X12_openUp; omega) (fun σ5 => ?_)
    exact fr_some rfl
  · exact fr_some rfl

def MOD_X12_unit (t : Nat) : Nat → Nat → Prop := fun a k => (t + 4 ≤ a ∧ a < t + 6) ∨ a = t + 8 ∨ (a = t ∧ (k = 2 ∨ k = 3 ∨ k = 4 ∨ k = 6 ∨ k = 7 ∨ k = 8 ∨ k = 9 ∨ k = 19 ∨ k = 21 ∨ k = 22 ∨ k = 24 ∨ k = 25))
theorem fmX12_unit_L2 (t : Nat) (k101 : St_ → Option St_) (hk101 : ∀ (y0 : St_), Fr (MOD_X12_unit t) y0 (fun b => b) (k101 y0)) : ∀ (n : Nat) (x1 : Bool) (σ : St_), Fr (MOD_X12_unit t) σ (fun b => b) (mX12_unit_L2 t k101 n x1 σ) := by
  intro n
  induction n with
  | zero => intros; exact fr_none
  | succ n ih =>
    intro x1 σ
    rw [mX12_unit_L2]
    refine fr_ite ?_ ?_
    · refine fr_ite ?_ ?_
      · refine fr_bindP (fun r1 => ?_)
        refine fr_jn (fun k2 => Fr (MOD_X12_unit t) σ (fun b => b) k2) ?_ (fun k2 hk2 => ?_)
        · refine fr_ite ?_ ?_
          · refine fr_bindP (fun r4 => ?_)
            refine fr_jn (fun k6 => ∀ (σ5 : St_), Fr (MOD_X12_unit t) σ5 (fun b => b) (k6 σ5)) ?_ (fun k6 hk6 => ?_)
            · intro σ5
              refine fr_bind (fX12_countUnit _ _) (fun a k h => by unfold MOD_X12_countUnit at h; unfold MOD_X12_unit; omega) (fun σ8 => ?_)
              refine fr_bind (fX12_openUp _ _ _) (fun a k h => by unfold MOD_X12_openUp at h; unfold MOD_X12_unit; omega) (fun σ9 => ?_)
              exact ih _ _
            · refine fr_jn (fun k10 => Fr (MOD_X12_unit t) σ (fun b => b) k10) ?_ (fun k10 hk10 => ?_)
              · refine fr_bind (fX12_wrong _ _ _) (fun a k h => by unfold MOD_X12_wrong at h; unfold MOD_X12_unit; omega) (fun σ12 => ?_)
                exact hk6 _
              · refine fr_ite ?_ ?_
                · exact hk10
                · refine fr_ite ?_ ?_
                  · exact hk6 _
                  · exact hk10
          · exact ih _ _
        · refine fr_ite ?_ ?_
          · refine fr_bindP (fun r13 => ?_)
            refine fr_ite ?_ ?_
            · refine fr_jn (fun k15 => ∀ (σ14 : St_), Fr (MOD_X12_unit t) σ14 (fun b => b) (k15 σ14)) ?_ (fun k15 hk15 => ?_)
              · intro σ14
                refine fr_bind (fX12_openUp _ _ _) (fun a k h => by unfold MOD_X12_openUp at h; unfold MOD_X12_unit; omega) (fun σ17 => ?_)
                exact ih _ _
              · refine fr_ite ?_ ?_
                · exact hk15 _
                · refine fr_bind (fX12_wrong _ _ _) (fun a k h => by unfold MOD_X12_wrong at h; unfold MOD_X12_unit; omega) (fun σ18 => ?_)
                  exact hk15 _
            · exact hk2
          · exact hk2
      · exact hk101 _
    · exact hk101 _

theorem fX12_unit (t : Nat) (σ : St_) : Fr (MOD_X12_unit t) σ (fun b => b) (mX12_unit t σ) := by
  rw [mX12_unit]
  refine fmX12_unit_L2 _ _ ?_ _ _ _
  · intro σ19
    refine fr_ite ?_ ?_
    · refine fr_bindP (fun r20 => ?_)
      refine fr_jn (fun k22 => ∀ (σ21 : St_), Fr (MOD_X12_unit t) σ21 (fun b => b) (k22 σ21)) ?_ (fun k22 hk22 => ?_)
      · intro σ21
        refine fr_ite ?_ ?_
        · refine fr_bind (fX12_countUnit _ _) (fun a k h => by unfold MOD_X12_countUnit at h; unfold MOD_X12_unit; omega) (fun σ24 => ?_)
          refine fr_jn (fun k26 => ∀ (j25 : Bool), Fr (MOD_X12_unit t) σ24 (fun b => b) (k26 j25)) ?_ (fun k26 hk26 => ?_)
          · intro j25
            refine fr_jn (fun k29 => ∀ (j28 : Int32), Fr (MOD_X12_unit t) σ24 (fun b => b) (k29 j28)) ?_ (fun k29 hk29 => ?_)
            · intro j28
              refine fr_bind (fX12_add _ _ _ _) (fun a k h => by unfold MOD_X12_add at h; unfold MOD_X12_unit; omega) (fun σ31 => ?_)
              refine fr_bind (fX12_token _ _) (fun a k h => by unfold MOD_X12_token at h; unfold MOD_X12_unit; omega) (fun σ32 => ?_)
              exact fr_some rfl
            · refine fr_ite ?_ ?_
              · exact hk29 _
              · exact hk29 _
          · refine fr_ite ?_ ?_
            · exact hk26 _
            · exact hk26 _
        · exact fr_some rfl
      · refine fr_jn (fun k33 => Fr (MOD_X12_unit t) σ19 (fun b => b) k33) ?_ (fun k33 hk33 => ?_)
        · refine fr_bind (fX12_wrong _ _ _) (fun a k h => by unfold MOD_X12_wrong at h; unfold MOD_X12_unit; omega) (fun σ35 => ?_)
          exact hk22 _
        · refine fr_jn (fun k36 => Fr (MOD_X12_unit t) σ19 (fun b => b) k36) ?_ (fun k36 hk36 => ?_)
          · refine fr_bindP (fun r38 => ?_)
            refine fr_ite ?_ ?_
            · exact hk33
            · exact hk22 _
          · refine fr_ite ?_ ?_
            · exact hk36
            · refine fr_ite ?_ ?_
              · exact hk33
              · exact hk36
    · exact fr_some rfl

def MOD_X12_readLaw (t : Nat) : Nat → Nat → Prop := fun a k => (t + 4 ≤ a ∧ a < t + 6) ∨ a = t + 8 ∨ (a = t ∧ (k = 2 ∨ k = 3 ∨ k = 4 ∨ k = 6 ∨ k = 7 ∨ k = 8 ∨ k = 9 ∨ k = 19 ∨ k = 21 ∨ k = 22 ∨ k = 24 ∨ k = 25))
theorem fmX12_readLaw_L30 (t : Nat) (k157 : St_ → Option St_) (hk157 : ∀ (y0 : St_), Fr (MOD_X12_readLaw t) y0 (fun b => b) (k157 y0)) : ∀ (n : Nat) (x1 : Bool) (σ : St_), Fr (MOD_X12_readLaw t) σ (fun b => b) (mX12_readLaw_L30 t k157 n x1 σ) := by
  intro n
  induction n with
  | zero => intros; exact fr_none
  | succ n ih =>
    intro x1 σ
    rw [mX12_readLaw_L30]
    refine fr_ite ?_ ?_
    · refine fr_ite ?_ ?_
      · refine fr_bindP (fun r7 => ?_)
        refine fr_jn (fun k10 => ∀ (j8 : Bool) (σ9 : St_), Fr (MOD_X12_readLaw t) σ9 (fun b => b) (k10 j8 σ9)) ?_ (fun k10 hk10 => ?_)
        · intro j8 σ9
          exact ih _ _
        · refine fr_jn (fun k12 => Fr (MOD_X12_readLaw t) σ (fun b => b) k12) ?_ (fun k12 hk12 => ?_)
          · refine fr_jn (fun k14 => Fr (MOD_X12_readLaw t) σ (fun b => b) k14) ?_ (fun k14 hk14 => ?_)
            · exact hk10 _ _
            · refine fr_ite ?_ ?_
              · exact hk14
              · refine fr_bindP (fun r16 => ?_)
                refine fr_jn (fun k17 => Fr (MOD_X12_readLaw t) σ (fun b => b) k17) ?_ (fun k17 hk17 => ?_)
                · refine fr_bindP (fun r19 => ?_)
                  refine fr_bind (fX12_close _ _ _) (fun a k h => by unfold MOD_X12_close at h; unfold MOD_X12_readLaw; omega) (fun σ20 => ?_)
                  refine fr_bv (fun v21 => ?_)
                  refine fr_gd (fun hg => ?_)
                  have hg := bin_lt hg
                  refine fr_sI (by unfold MOD_X12_readLaw; omega) (fun σ22 => ?_)
                  refine fr_sI (by unfold MOD_X12_readLaw; omega) (fun σ23 => ?_)
                  refine fr_bind (fX12_token _ _) (fun a k h => by unfold MOD_X12_token at h; unfold MOD_X12_readLaw; omega) (fun σ24 => ?_)
                  refine fr_bind (fX12_unit _ _) (fun a k h => by unfold MOD_X12_unit at h; unfold MOD_X12_readLaw; omega) (fun σ25 => ?_)
                  exact hk10 _ _
                · refine fr_ite ?_ ?_
                  · refine fr_bindP (fun r26 => ?_)
                    refine fr_ite ?_ ?_
                    · exact hk14
                    · exact hk17
                  · exact hk17
          · refine fr_ite ?_ ?_
            · refine fr_bindP (fun r27 => ?_)
              refine fr_ite ?_ ?_
              · refine fr_bind (fX12_close _ _ _) (fun a k h => by unfold MOD_X12_close at h; unfold MOD_X12_readLaw; omega) (fun σ28 => ?_)
                refine fr_sI (by unfold MOD_X12_readLaw; omega) (fun σ29 => ?_)
                refine fr_sI (by unfold MOD_X12_readLaw; omega) (fun σ30 => ?_)
                refine fr_bind (fX12_token _ _) (fun a k h => by unfold MOD_X12_token at h; unfold MOD_X12_readLaw; omega) (fun σ31 => ?_)
                exact hk10 _ _
              · exact hk12
            · exact hk12
      · exact hk157 _
    · exact hk157 _

theorem fX12_readLaw (t : Nat) (σ : St_) : Fr (MOD_X12_readLaw t) σ (fun b => b) (mX12_readLaw t σ) := by
  rw [mX12_readLaw]
  refine fr_bind (fX12_token _ _) (fun a k h => by unfold MOD_X12_token at h; unfold MOD_X12_readLaw; omega) (fun σ1 => ?_)
  refine fr_sI (by unfold MOD_X12_readLaw; omega) (fun σ2 => ?_)
  refine fr_sI (by unfold MOD_X12_readLaw; omega) (fun σ3 => ?_)
  refine fr_sI (by unfold MOD_X12_readLaw; omega) (fun σ4 => ?_)
  refine fr_sI (by unfold MOD_X12_readLaw; omega) (fun σ5 => ?_)
  refine fr_bind (fX12_unit _ _) (fun a k h => by unfold MOD_X12_unit at h; unfold MOD_X12_readLaw; omega) (fun σ6 => ?_)
  refine fmX12_readLaw_L30 _ _ ?_ _ _ _
  · intro σ32
    refine fr_jn (fun k34 => ∀ (σ33 : St_), Fr (MOD_X12_readLaw t) σ33 (fun b => b) (k34 σ33)) ?_ (fun k34 hk34 => ?_)
    · intro σ33
      refine fr_ite ?_ ?_
      · refine fr_bind (fX12_close _ _ _) (fun a k h => by unfold MOD_X12_close at h; unfold MOD_X12_readLaw; omega) (fun σ36 => ?_)
        exact fr_some rfl
      · exact fr_some rfl
    · refine fr_ite ?_ ?_
      · refine fr_bindP (fun r37 => ?_)
        refine fr_ite ?_ ?_
        · refine fr_bind (fX12_wrong _ _ _) (fun a k h => by unfold MOD_X12_wrong at h; unfold MOD_X12_readLaw; omega) (fun σ38 => ?_)
          exact hk34 _
        · exact hk34 _
      · exact hk34 _

def MOD_X12_worked (t : Nat) : Nat → Nat → Prop := fun a k => a = t + 9
theorem fmX12_worked_L4 (t : Nat) : ∀ (n : Nat) (x1 : Int32) (x2 : Int32) (σ : St_), Fr (MOD_X12_worked t) σ (fun b => b.2) (mX12_worked_L4 t n x1 x2 σ) := by
  intro n
  induction n with
  | zero => intros; exact fr_none
  | succ n ih =>
    intro x1 x2 σ
    rw [mX12_worked_L4]
    refine fr_ite ?_ ?_
    · refine fr_gd (fun hg => ?_)
      have hg := bin_lt hg
      refine fr_bv (fun v1 => ?_)
      exact fr_some rfl
    · refine fr_gd (fun hg => ?_)
      have hg := bin_lt hg
      refine fr_bv (fun v2 => ?_)
      refine fr_jn (fun k5 => ∀ (j3 : Int32) (σ4 : St_), Fr (MOD_X12_worked t) σ4 (fun b => b.2) (k5 j3 σ4)) ?_ (fun k5 hk5 => ?_)
      · intro j3 σ4
        exact ih _ _ _
      · refine fr_jn (fun k7 => Fr (MOD_X12_worked t) σ (fun b => b.2) k7) ?_ (fun k7 hk7 => ?_)
        · refine fr_gd (fun hg => ?_)
          have hg := bin_lt hg
          refine fr_bv (fun v9 => ?_)
          refine fr_jn (fun k11 => ∀ (j10 : Int32), Fr (MOD_X12_worked t) σ (fun b => b.2) (k11 j10)) ?_ (fun k11 hk11 => ?_)
          · intro j10
            refine fr_gd (fun hg => ?_)
            have hg := bin_lt hg
            refine fr_sI (by unfold MOD_X12_worked; omega) (fun σ13 => ?_)
            exact hk5 _ _
          · refine fr_ite ?_ ?_
            · refine fr_gd (fun hg => ?_)
              have hg := bin_lt hg
              refine fr_bv (fun v14 => ?_)
              exact hk11 _
            · refine fr_gd (fun hg => ?_)
              have hg := bin_lt hg
              refine fr_bv (fun v15 => ?_)
              refine fr_gd (fun hg => ?_)
              have hg := bin_lt hg
              refine fr_bv (fun v16 => ?_)
              exact hk11 _
        · refine fr_ite ?_ ?_
          · exact hk7
          · refine fr_gd (fun hg => ?_)
            have hg := bin_lt hg
            refine fr_bv (fun v17 => ?_)
            refine fr_ite ?_ ?_
            · exact hk7
            · refine fr_gd (fun hg => ?_)
              have hg := bin_lt hg
              refine fr_bv (fun v18 => ?_)
              refine fr_ite ?_ ?_
              · refine fr_bv (fun v19 => ?_)
                refine fr_gd (fun hg => ?_)
                have hg := bin_lt hg
                refine fr_bv (fun v20 => ?_)
                refine fr_jn (fun k22 => ∀ (j21 : Bool), Fr (MOD_X12_worked t) σ (fun b => b.2) (k22 j21)) ?_ (fun k22 hk22 => ?_)
                · intro j21
                  refine fr_bindP (fun r24 => ?_)
                  refine fr_bv (fun v25 => ?_)
                  refine fr_gd (fun hg => ?_)
                  have hg := bin_lt hg
                  refine fr_sI (by unfold MOD_X12_worked; omega) (fun σ26 => ?_)
                  exact hk5 _ _
                · refine fr_ite ?_ ?_
                  · exact hk22 _
                  · exact hk22 _
              · refine fr_gd (fun hg => ?_)
                have hg := bin_lt hg
                refine fr_bv (fun v27 => ?_)
                refine fr_bv (fun v28 => ?_)
                refine fr_gd (fun hg => ?_)
                have hg := bin_lt hg
                refine fr_bv (fun v29 => ?_)
                refine fr_bv (fun v30 => ?_)
                refine fr_gd (fun hg => ?_)
                have hg := bin_lt hg
                refine fr_bv (fun v31 => ?_)
                refine fr_bindP (fun r32 => ?_)
                refine fr_bv (fun v33 => ?_)
                refine fr_gd (fun hg => ?_)
                have hg := bin_lt hg
                refine fr_sI (by unfold MOD_X12_worked; omega) (fun σ34 => ?_)
                exact hk5 _ _

theorem fX12_worked (t : Nat) (σ : St_) : Fr (MOD_X12_worked t) σ (fun b => b.2) (mX12_worked t σ) := by
  rw [mX12_worked]
  exact fmX12_worked_L4 _ _ _ _ _

def MOD_X12_readKind (t : Nat) : Nat → Nat → Prop := fun a k => a = t + 2 ∨ (a = t ∧ (k = 2 ∨ k = 3 ∨ k = 4 ∨ k = 6 ∨ k = 7 ∨ k = 8 ∨ k = 9 ∨ k = 45))
theorem fX12_readKind (t : Nat) (σ : St_) : Fr (MOD_X12_readKind t) σ (fun b => b) (mX12_readKind t σ) := by
  rw [mX12_readKind]
  refine fr_bind (fX12_newName _ _ _ _) (fun a k h => by unfold MOD_X12_newName at h; unfold MOD_X12_readKind; omega) (fun σ1 => ?_)
  refine fr_ite ?_ ?_
  · refine fr_sI (by unfold MOD_X12_readKind; omega) (fun σ2 => ?_)
    exact fr_some rfl
  · exact fr_some rfl

def MOD_X12_readThing (t : Nat) : Nat → Nat → Prop := fun a k => a = t + 2 ∨ (t + 11 ≤ a ∧ a < t + 15) ∨ a = t + 19 ∨ (a = t ∧ (k = 2 ∨ k = 3 ∨ k = 4 ∨ k = 6 ∨ k = 7 ∨ k = 8 ∨ k = 9 ∨ k = 46))
theorem fmX12_readThing_L89 (t : Nat) (x1 : Int32) (k113 : St_ → Option St_) (hk113 : ∀ (y0 : St_), Fr (MOD_X12_readThing t) y0 (fun b => b) (k113 y0)) : ∀ (n : Nat) (x2 : Int32) (σ : St_), Fr (MOD_X12_readThing t) σ (fun b => b) (mX12_readThing_L89 t x1 k113 n x2 σ) := by
  intro n
  induction n with
  | zero => intros; exact fr_none
  | succ n ih =>
    intro x2 σ
    rw [mX12_readThing_L89]
    refine fr_ite ?_ ?_
    · exact hk113 _
    · refine fr_bv (fun v14 => ?_)
      refine fr_gd (fun hg => ?_)
      have hg := bin_lt hg
      refine fr_sI (by unfold MOD_X12_readThing; omega) (fun σ15 => ?_)
      exact ih _ _

theorem fX12_readThing (t : Nat) (σ : St_) : Fr (MOD_X12_readThing t) σ (fun b => b) (mX12_readThing t σ) := by
  rw [mX12_readThing]
  refine fr_bind (fX12_newName _ _ _ _) (fun a k h => by unfold MOD_X12_newName at h; unfold MOD_X12_readThing; omega) (fun σ1 => ?_)
  refine fr_bind (fX12_want _ _ _) (fun a k h => by unfold MOD_X12_want at h; unfold MOD_X12_readThing; omega) (fun σ2 => ?_)
  refine fr_bv (fun v3 => ?_)
  refine fr_bind (fX12_oldName _ _ _ _) (fun a k h => by unfold MOD_X12_oldName at h; unfold MOD_X12_readThing; omega) (fun r4 => ?_)
  refine fr_gd (fun hg => ?_)
  have hg := bin_lt hg
  refine fr_sI (by unfold MOD_X12_readThing; omega) (fun σ5 => ?_)
  refine fr_jn (fun k7 => ∀ (σ6 : St_), Fr (MOD_X12_readThing t) σ6 (fun b => b) (k7 σ6)) ?_ (fun k7 hk7 => ?_)
  · intro σ6
    refine fr_bind (fX12_told _ _ _ _ _) (fun a k h => by unfold MOD_X12_told at h; unfold MOD_X12_readThing; omega) (fun r9 => ?_)
    refine fr_gd (fun hg => ?_)
    have hg := bin_lt hg
    refine fr_sI (by unfold MOD_X12_readThing; omega) (fun σ10 => ?_)
    refine fr_bind (fX12_told _ _ _ _ _) (fun a k h => by unfold MOD_X12_told at h; unfold MOD_X12_readThing; omega) (fun r11 => ?_)
    refine fr_gd (fun hg => ?_)
    have hg := bin_lt hg
    refine fr_sI (by unfold MOD_X12_readThing; omega) (fun σ12 => ?_)
    refine fr_gd (fun hg => ?_)
    have hg := bin_lt hg
    refine fr_sI (by unfold MOD_X12_readThing; omega) (fun σ13 => ?_)
    refine fmX12_readThing_L89 _ _ _ ?_ _ _ _
    · intro σ16
      refine fr_ite ?_ ?_
      · refine fr_sI (by unfold MOD_X12_readThing; omega) (fun σ17 => ?_)
        exact fr_some rfl
      · exact fr_some rfl
  · refine fr_ite ?_ ?_
    · refine fr_bind (fX12_token _ _) (fun a k h => by unfold MOD_X12_token at h; unfold MOD_X12_readThing; omega) (fun σ18 => ?_)
      exact hk7 _
    · exact hk7 _

def MOD_X12_readHas (t : Nat) : Nat → Nat → Prop := fun a k => a = t + 14 ∨ (a = t ∧ (k = 2 ∨ k = 3 ∨ k = 4 ∨ k = 6 ∨ k = 7 ∨ k = 8 ∨ k = 9))
theorem fmX12_readHas_L0 (t : Nat) (x1 : Int32) : ∀ (n : Nat) (σ : St_), Fr (MOD_X12_readHas t) σ (fun b => b) (mX12_readHas_L0 t x1 n σ) := by
  intro n
  induction n with
  | zero => intros; exact fr_none
  | succ n ih =>
    intro σ
    rw [mX12_readHas_L0]
    refine fr_ite ?_ ?_
    · refine fr_bindP (fun r1 => ?_)
      refine fr_ite ?_ ?_
      · refine fr_bind (fX12_token _ _) (fun a k h => by unfold MOD_X12_token at h; unfold MOD_X12_readHas; omega) (fun σ2 => ?_)
        refine fr_bind (fX12_oldName _ _ _ _) (fun a k h => by unfold MOD_X12_oldName at h; unfold MOD_X12_readHas; omega) (fun r3 => ?_)
        refine fr_jn (fun k5 => ∀ (σ4 : St_), Fr (MOD_X12_readHas t) σ4 (fun b => b) (k5 σ4)) ?_ (fun k5 hk5 => ?_)
        · intro σ4
          refine fr_ite ?_ ?_
          · refine fr_gd (fun hg => ?_)
            have hg := bin_lt hg
            refine fr_sI (by unfold MOD_X12_readHas; omega) (fun σ7 => ?_)
            refine fr_bind (fX12_token _ _) (fun a k h => by unfold MOD_X12_token at h; unfold MOD_X12_readHas; omega) (fun σ8 => ?_)
            exact ih _
          · exact fr_some rfl
        · refine fr_ite ?_ ?_
          · refine fr_gd (fun hg => ?_)
            have hg := bin_lt hg
            refine fr_bv (fun v9 => ?_)
            refine fr_ite ?_ ?_
            · exact hk5 _
            · refine fr_bind (fX12_wrong _ _ _) (fun a k h => by unfold MOD_X12_wrong at h; unfold MOD_X12_readHas; omega) (fun σ10 => ?_)
              exact hk5 _
          · exact hk5 _
      · exact fr_some rfl
    · exact fr_some rfl

theorem fX12_readHas (t : Nat) (p1 : Int32) (σ : St_) : Fr (MOD_X12_readHas t) σ (fun b => b) (mX12_readHas t p1 σ) := by
  rw [mX12_readHas]
  exact fmX12_readHas_L0 _ _ _ _

def MOD_X12_readHouse (t : Nat) : Nat → Nat → Prop := fun a k => (t + 2 ≤ a ∧ a < t + 4) ∨ (t + 14 ≤ a ∧ a < t + 17) ∨ (a = t ∧ (k = 2 ∨ k = 3 ∨ k = 4 ∨ k = 6 ∨ k = 7 ∨ k = 8 ∨ k = 9 ∨ k = 12 ∨ k = 47))
theorem fmX12_readHouse_L38 (t : Nat) (x1 : Int32) (k125 : St_ → Option St_) (hk125 : ∀ (y0 : St_), Fr (MOD_X12_readHouse t) y0 (fun b => b) (k125 y0)) : ∀ (n : Nat) (σ : St_), Fr (MOD_X12_readHouse t) σ (fun b => b) (mX12_readHouse_L38 t x1 k125 n σ) := by
  intro n
  induction n with
  | zero => intros; exact fr_none
  | succ n ih =>
    intro σ
    rw [mX12_readHouse_L38]
    refine fr_ite ?_ ?_
    · refine fr_bindP (fun r6 => ?_)
      refine fr_ite ?_ ?_
      · refine fr_bind (fX12_token _ _) (fun a k h => by unfold MOD_X12_token at h; unfold MOD_X12_readHouse; omega) (fun σ7 => ?_)
        refine fr_jn (fun k9 => ∀ (σ8 : St_), Fr (MOD_X12_readHouse t) σ8 (fun b => b) (k9 σ8)) ?_ (fun k9 hk9 => ?_)
        · intro σ8
          refine fr_gd (fun hg => ?_)
          have hg := bin_lt hg
          refine fr_bv (fun v11 => ?_)
          refine fr_bind (fX12_toldNumber _ _ _ _) (fun a k h => by unfold MOD_X12_toldNumber at h; unfold MOD_X12_readHouse; omega) (fun r12 => ?_)
          refine fr_gd (fun hg => ?_)
          have hg := bin_lt hg
          refine fr_sI (by unfold MOD_X12_readHouse; omega) (fun σ13 => ?_)
          exact ih _
        · refine fr_ite ?_ ?_
          · refine fr_ite ?_ ?_
            · exact hk9 _
            · refine fr_gd (fun hg => ?_)
              have hg := bin_lt hg
              refine fr_bv (fun v14 => ?_)
              refine fr_ite ?_ ?_
              · refine fr_bind (fX12_wrong _ _ _) (fun a k h => by unfold MOD_X12_wrong at h; unfold MOD_X12_readHouse; omega) (fun σ15 => ?_)
                exact hk9 _
              · exact hk9 _
          · exact hk9 _
      · exact hk125 _
    · exact hk125 _

theorem fX12_readHouse (t : Nat) (σ : St_) : Fr (MOD_X12_readHouse t) σ (fun b => b) (mX12_readHouse t σ) := by
  rw [mX12_readHouse]
  refine fr_bind (fX12_newName _ _ _ _) (fun a k h => by unfold MOD_X12_newName at h; unfold MOD_X12_readHouse; omega) (fun σ1 => ?_)
  refine fr_bv (fun v2 => ?_)
  refine fr_bind (fX12_told _ _ _ _ _) (fun a k h => by unfold MOD_X12_told at h; unfold MOD_X12_readHouse; omega) (fun r3 => ?_)
  refine fr_gd (fun hg => ?_)
  have hg := bin_lt hg
  refine fr_sI (by unfold MOD_X12_readHouse; omega) (fun σ4 => ?_)
  refine fr_gd (fun hg => ?_)
  have hg := bin_lt hg
  refine fr_sI (by unfold MOD_X12_readHouse; omega) (fun σ5 => ?_)
  refine fmX12_readHouse_L38 _ _ _ ?_ _ _
  · intro σ16
    refine fr_bind (fX12_readHas _ _ _) (fun a k h => by unfold MOD_X12_readHas at h; unfold MOD_X12_readHouse; omega) (fun σ17 => ?_)
    refine fr_ite ?_ ?_
    · refine fr_bv (fun v18 => ?_)
      refine fr_gd (fun hg => ?_)
      have hg := bin_lt hg
      refine fr_sI (by unfold MOD_X12_readHouse; omega) (fun σ19 => ?_)
      refine fr_sI (by unfold MOD_X12_readHouse; omega) (fun σ20 => ?_)
      refine fr_sI (by unfold MOD_X12_readHouse; omega) (fun σ21 => ?_)
      exact fr_some rfl
    · exact fr_some rfl

def MOD_X12_readThief (t : Nat) : Nat → Nat → Prop := fun a k => (t + 2 ≤ a ∧ a < t + 4) ∨ a = t + 14 ∨ (t + 17 ≤ a ∧ a < t + 19) ∨ (a = t ∧ (k = 2 ∨ k = 3 ∨ k = 4 ∨ k = 6 ∨ k = 7 ∨ k = 8 ∨ k = 9 ∨ k = 12 ∨ k = 48))
theorem fX12_readThief (t : Nat) (σ : St_) : Fr (MOD_X12_readThief t) σ (fun b => b) (mX12_readThief t σ) := by
  rw [mX12_readThief]
  refine fr_bind (fX12_newName _ _ _ _) (fun a k h => by unfold MOD_X12_newName at h; unfold MOD_X12_readThief; omega) (fun σ1 => ?_)
  refine fr_bv (fun v2 => ?_)
  refine fr_bind (fX12_told _ _ _ _ _) (fun a k h => by unfold MOD_X12_told at h; unfold MOD_X12_readThief; omega) (fun r3 => ?_)
  refine fr_gd (fun hg => ?_)
  have hg := bin_lt hg
  refine fr_sI (by unfold MOD_X12_readThief; omega) (fun σ4 => ?_)
  refine fr_bind (fX12_told _ _ _ _ _) (fun a k h => by unfold MOD_X12_told at h; unfold MOD_X12_readThief; omega) (fun r5 => ?_)
  refine fr_gd (fun hg => ?_)
  have hg := bin_lt hg
  refine fr_sI (by unfold MOD_X12_readThief; omega) (fun σ6 => ?_)
  refine fr_bind (fX12_readHas _ _ _) (fun a k h => by unfold MOD_X12_readHas at h; unfold MOD_X12_readThief; omega) (fun σ7 => ?_)
  refine fr_ite ?_ ?_
  · refine fr_bv (fun v8 => ?_)
    refine fr_gd (fun hg => ?_)
    have hg := bin_lt hg
    refine fr_sI (by unfold MOD_X12_readThief; omega) (fun σ9 => ?_)
    refine fr_sI (by unfold MOD_X12_readThief; omega) (fun σ10 => ?_)
    refine fr_sI (by unfold MOD_X12_readThief; omega) (fun σ11 => ?_)
    exact fr_some rfl
  · exact fr_some rfl

def MOD_X12_readDear (t : Nat) : Nat → Nat → Prop := fun a k => a = t + 19 ∨ (a = t ∧ (k = 2 ∨ k = 3 ∨ k = 4 ∨ k = 6 ∨ k = 7 ∨ k = 8 ∨ k = 9 ∨ k = 49))
theorem fX12_readDear (t : Nat) (σ : St_) : Fr (MOD_X12_readDear t) σ (fun b => b) (mX12_readDear t σ) := by
  rw [mX12_readDear]
  refine fr_bind (fX12_token _ _) (fun a k h => by unfold MOD_X12_token at h; unfold MOD_X12_readDear; omega) (fun σ1 => ?_)
  refine fr_bind (fX12_oldName _ _ _ _) (fun a k h => by unfold MOD_X12_oldName at h; unfold MOD_X12_readDear; omega) (fun r2 => ?_)
  refine fr_jn (fun k4 => ∀ (σ3 : St_), Fr (MOD_X12_readDear t) σ3 (fun b => b) (k4 σ3)) ?_ (fun k4 hk4 => ?_)
  · intro σ3
    refine fr_bind (fX12_want _ _ _) (fun a k h => by unfold MOD_X12_want at h; unfold MOD_X12_readDear; omega) (fun σ6 => ?_)
    refine fr_bind (fX12_oldName _ _ _ _) (fun a k h => by unfold MOD_X12_oldName at h; unfold MOD_X12_readDear; omega) (fun r7 => ?_)
    refine fr_ite ?_ ?_
    · refine fr_gd (fun hg => ?_)
      have hg := bin_lt hg
      refine fr_bv (fun v8 => ?_)
      refine fr_bv (fun v9 => ?_)
      refine fr_gd (fun hg => ?_)
      have hg := bin_lt hg
      refine fr_bv (fun v10 => ?_)
      refine fr_jn (fun k12 => ∀ (σ11 : St_), Fr (MOD_X12_readDear t) σ11 (fun b => b) (k12 σ11)) ?_ (fun k12 hk12 => ?_)
      · intro σ11
        refine fr_jn (fun k15 => ∀ (σ14 : St_), Fr (MOD_X12_readDear t) σ14 (fun b => b) (k15 σ14)) ?_ (fun k15 hk15 => ?_)
        · intro σ14
          refine fr_bind (fX12_toldNumber _ _ _ _) (fun a k h => by unfold MOD_X12_toldNumber at h; unfold MOD_X12_readDear; omega) (fun r17 => ?_)
          refine fr_gd (fun hg => ?_)
          have hg := bin_lt hg
          refine fr_sI (by unfold MOD_X12_readDear; omega) (fun σ18 => ?_)
          refine fr_sI (by unfold MOD_X12_readDear; omega) (fun σ19 => ?_)
          exact fr_some rfl
        · refine fr_ite ?_ ?_
          · refine fr_bind (fX12_token _ _) (fun a k h => by unfold MOD_X12_token at h; unfold MOD_X12_readDear; omega) (fun σ20 => ?_)
            exact hk15 _
          · exact hk15 _
      · refine fr_ite ?_ ?_
        · exact hk12 _
        · refine fr_bind (fX12_wrong _ _ _) (fun a k h => by unfold MOD_X12_wrong at h; unfold MOD_X12_readDear; omega) (fun σ21 => ?_)
          exact hk12 _
    · exact fr_some rfl
  · refine fr_ite ?_ ?_
    · refine fr_bind (fX12_token _ _) (fun a k h => by unfold MOD_X12_token at h; unfold MOD_X12_readDear; omega) (fun σ22 => ?_)
      exact hk4 _
    · exact hk4 _

def MOD_X12_readLine (t : Nat) : Nat → Nat → Prop := fun a k => (t + 2 ≤ a ∧ a < t + 6) ∨ a = t + 8 ∨ (t + 11 ≤ a ∧ a < t + 20) ∨ (a = t ∧ (k = 2 ∨ k = 3 ∨ k = 4 ∨ k = 6 ∨ k = 7 ∨ k = 8 ∨ k = 9 ∨ k = 12 ∨ k = 19 ∨ k = 21 ∨ k = 22 ∨ k = 24 ∨ k = 25 ∨ k = 45 ∨ k = 46 ∨ k = 47 ∨ k = 48 ∨ k = 49 ∨ k = 50 ∨ k = 56 ∨ k = 57 ∨ k = 58))
theorem fX12_readLine (t : Nat) (σ : St_) : Fr (MOD_X12_readLine t) σ (fun b => b) (mX12_readLine t σ) := by
  rw [mX12_readLine]
  refine fr_bindP (fun r1 => ?_)
  refine fr_jn (fun k3 => ∀ (σ2 : St_), Fr (MOD_X12_readLine t) σ2 (fun b => b) (k3 σ2)) ?_ (fun k3 hk3 => ?_)
  · intro σ2
    refine fr_sI (by unfold MOD_X12_readLine; omega) (fun σ5 => ?_)
    refine fr_jn (fun k7 => ∀ (σ6 : St_), Fr (MOD_X12_readLine t) σ6 (fun b => b) (k7 σ6)) ?_ (fun k7 hk7 => ?_)
    · intro σ6
      refine fr_ite ?_ ?_
      · refine fr_bind (fX12_token _ _) (fun a k h => by unfold MOD_X12_token at h; unfold MOD_X12_readLine; omega) (fun σ9 => ?_)
        exact fr_some rfl
      · exact fr_some rfl
    · refine fr_ite ?_ ?_
      · refine fr_ite ?_ ?_
        · exact hk7 _
        · refine fr_bind (fX12_wrong _ _ _) (fun a k h => by unfold MOD_X12_wrong at h; unfold MOD_X12_readLine; omega) (fun σ10 => ?_)
          exact hk7 _
      · exact hk7 _
  · refine fr_jn (fun k11 => Fr (MOD_X12_readLine t) σ (fun b => b) k11) ?_ (fun k11 hk11 => ?_)
    · refine fr_bindP (fun r13 => ?_)
      refine fr_jn (fun k14 => Fr (MOD_X12_readLine t) σ (fun b => b) k14) ?_ (fun k14 hk14 => ?_)
      · refine fr_bindP (fun r16 => ?_)
        refine fr_jn (fun k17 => Fr (MOD_X12_readLine t) σ (fun b => b) k17) ?_ (fun k17 hk17 => ?_)
        · refine fr_bindP (fun r19 => ?_)
          refine fr_jn (fun k20 => Fr (MOD_X12_readLine t) σ (fun b => b) k20) ?_ (fun k20 hk20 => ?_)
          · refine fr_bindP (fun r22 => ?_)
            refine fr_jn (fun k23 => Fr (MOD_X12_readLine t) σ (fun b => b) k23) ?_ (fun k23 hk23 => ?_)
            · refine fr_bindP (fun r25 => ?_)
              refine fr_jn (fun k26 => Fr (MOD_X12_readLine t) σ (fun b => b) k26) ?_ (fun k26 hk26 => ?_)
              · refine fr_bindP (fun r28 => ?_)
                refine fr_jn (fun k29 => Fr (MOD_X12_readLine t) σ (fun b => b) k29) ?_ (fun k29 hk29 => ?_)
                · refine fr_bind (fX12_wrong _ _ _) (fun a k h => by unfold MOD_X12_wrong at h; unfold MOD_X12_readLine; omega) (fun σ31 => ?_)
                  exact hk3 _
                · refine fr_ite ?_ ?_
                  · refine fr_ite ?_ ?_
                    · refine fr_sI (by unfold MOD_X12_readLine; omega) (fun σ32 => ?_)
                      refine fr_bind (fX12_readLaw _ _) (fun a k h => by unfold MOD_X12_readLaw at h; unfold MOD_X12_readLine; omega) (fun σ33 => ?_)
                      exact hk3 _
                    · exact hk29
                  · exact hk29
              · refine fr_ite ?_ ?_
                · refine fr_ite ?_ ?_
                  · exact hk26
                  · refine fr_bind (fX12_readDear _ _) (fun a k h => by unfold MOD_X12_readDear at h; unfold MOD_X12_readLine; omega) (fun σ34 => ?_)
                    exact hk3 _
                · exact hk26
            · refine fr_ite ?_ ?_
              · refine fr_ite ?_ ?_
                · exact hk23
                · refine fr_bind (fX12_readThief _ _) (fun a k h => by unfold MOD_X12_readThief at h; unfold MOD_X12_readLine; omega) (fun σ35 => ?_)
                  exact hk3 _
              · exact hk23
          · refine fr_ite ?_ ?_
            · refine fr_ite ?_ ?_
              · exact hk20
              · refine fr_bind (fX12_readHouse _ _) (fun a k h => by unfold MOD_X12_readHouse at h; unfold MOD_X12_readLine; omega) (fun σ36 => ?_)
                exact hk3 _
            · exact hk20
        · refine fr_ite ?_ ?_
          · refine fr_ite ?_ ?_
            · exact hk17
            · refine fr_bind (fX12_readThing _ _) (fun a k h => by unfold MOD_X12_readThing at h; unfold MOD_X12_readLine; omega) (fun σ37 => ?_)
              exact hk3 _
          · exact hk17
      · refine fr_ite ?_ ?_
        · refine fr_ite ?_ ?_
          · exact hk14
          · refine fr_bind (fX12_readKind _ _) (fun a k h => by unfold MOD_X12_readKind at h; unfold MOD_X12_readLine; omega) (fun σ38 => ?_)
            exact hk3 _
        · exact hk14
    · refine fr_ite ?_ ?_
      · refine fr_ite ?_ ?_
        · refine fr_ite ?_ ?_
          · refine fr_sI (by unfold MOD_X12_readLine; omega) (fun σ39 => ?_)
            refine fr_bind (fX12_told _ _ _ _ _) (fun a k h => by unfold MOD_X12_told at h; unfold MOD_X12_readLine; omega) (fun r40 => ?_)
            refine fr_sI (by unfold MOD_X12_readLine; omega) (fun σ41 => ?_)
            exact hk3 _
          · exact hk11
        · exact hk11
      · exact hk11

def MOD_X12_readAll (t : Nat) : Nat → Nat → Prop := fun a k => (t + 2 ≤ a ∧ a < t + 6) ∨ a = t + 8 ∨ (t + 11 ≤ a ∧ a < t + 20) ∨ (a = t ∧ (k = 1 ∨ k = 2 ∨ k = 3 ∨ k = 4 ∨ k = 5 ∨ k = 6 ∨ k = 7 ∨ k = 8 ∨ k = 9 ∨ k = 12 ∨ k = 19 ∨ k = 21 ∨ k = 22 ∨ k = 24 ∨ k = 25 ∨ k = 45 ∨ k = 46 ∨ k = 47 ∨ k = 48 ∨ k = 49 ∨ k = 50 ∨ k = 56 ∨ k = 57 ∨ k = 58))
theorem fmX12_readAll_L88 (t : Nat) : ∀ (n : Nat) (σ : St_), Fr (MOD_X12_readAll t) σ (fun b => b) (mX12_readAll_L88 t n σ) := by
  intro n
  induction n with
  | zero => intros; exact fr_none
  | succ n ih =>
    intro σ
    rw [mX12_readAll_L88]
    refine fr_ite ?_ ?_
    · refine fr_ite ?_ ?_
      · exact fr_some rfl
      · refine fr_bind (fX12_readLine _ _) (fun a k h => by unfold MOD_X12_readLine at h; unfold MOD_X12_readAll; omega) (fun σ18 => ?_)
        exact ih _
    · exact fr_some rfl

theorem fX12_readAll (t : Nat) (σ : St_) : Fr (MOD_X12_readAll t) σ (fun b => b) (mX12_readAll t σ) := by
  rw [mX12_readAll]
  refine fr_sI (by unfold MOD_X12_readAll; omega) (fun σ1 => ?_)
  refine fr_sI (by unfold MOD_X12_readAll; omega) (fun σ2 => ?_)
  refine fr_sI (by unfold MOD_X12_readAll; omega) (fun σ3 => ?_)
  refine fr_sI (by unfold MOD_X12_readAll; omega) (fun σ4 => ?_)
  refine fr_sI (by unfold MOD_X12_readAll; omega) (fun σ5 => ?_)
  refine fr_sI (by unfold MOD_X12_readAll; omega) (fun σ6 => ?_)
  refine fr_sI (by unfold MOD_X12_readAll; omega) (fun σ7 => ?_)
  refine fr_sI (by unfold MOD_X12_readAll; omega) (fun σ8 => ?_)
  refine fr_sI (by unfold MOD_X12_readAll; omega) (fun σ9 => ?_)
  refine fr_sI (by unfold MOD_X12_readAll; omega) (fun σ10 => ?_)
  refine fr_sI (by unfold MOD_X12_readAll; omega) (fun σ11 => ?_)
  refine fr_sI (by unfold MOD_X12_readAll; omega) (fun σ12 => ?_)
  refine fr_sI (by unfold MOD_X12_readAll; omega) (fun σ13 => ?_)
  refine fr_sI (by unfold MOD_X12_readAll; omega) (fun σ14 => ?_)
  refine fr_sI (by unfold MOD_X12_readAll; omega) (fun σ15 => ?_)
  refine fr_sI (by unfold MOD_X12_readAll; omega) (fun σ16 => ?_)
  refine fr_bind (fX12_token _ _) (fun a k h => by unfold MOD_X12_token at h; unfold MOD_X12_readAll; omega) (fun σ17 => ?_)
  exact fmX12_readAll_L88 _ _ _

def MOD_X12_city (t : Nat) : Nat → Nat → Prop := fun a k => (t + 2 ≤ a ∧ a < t + 9) ∨ (t + 11 ≤ a ∧ a < t + 30) ∨ a = t + 45 ∨ (a = t ∧ (k = 1 ∨ k = 2 ∨ k = 3 ∨ k = 4 ∨ k = 5 ∨ k = 6 ∨ k = 7 ∨ k = 8 ∨ k = 9 ∨ k = 12 ∨ k = 19 ∨ k = 20 ∨ k = 21 ∨ k = 22 ∨ k = 23 ∨ k = 24 ∨ k = 25 ∨ k = 45 ∨ k = 46 ∨ k = 47 ∨ k = 48 ∨ k = 49 ∨ k = 50 ∨ k = 51 ∨ k = 52 ∨ k = 53 ∨ k = 54 ∨ k = 55 ∨ k = 56 ∨ k = 57 ∨ k = 58 ∨ k = 59 ∨ k = 68 ∨ k = 69 ∨ k = 71 ∨ k = 86))
theorem fmX12_city_L90 (t : Nat) (k128 : St_ → Option (Int32 × St_)) (hk128 : ∀ (y0 : St_), Fr (MOD_X12_city t) y0 (fun b => b.2) (k128 y0)) : ∀ (n : Nat) (x1 : Int32) (σ : St_), Fr (MOD_X12_city t) σ (fun b => b.2) (mX12_city_L90 t k128 n x1 σ) := by
  intro n
  induction n with
  | zero => intros; exact fr_none
  | succ n ih =>
    intro x1 σ
    rw [mX12_city_L90]
    refine fr_ite ?_ ?_
    · exact hk128 _
    · refine fr_gd (fun hg => ?_)
      have hg := bin_lt hg
      refine fr_bv (fun v13 => ?_)
      refine fr_gd (fun hg => ?_)
      have hg := bin_lt hg
      refine fr_sI (by unfold MOD_X12_city; omega) (fun σ14 => ?_)
      refine fr_gd (fun hg => ?_)
      have hg := bin_lt hg
      refine fr_bv (fun v15 => ?_)
      refine fr_gd (fun hg => ?_)
      have hg := bin_lt hg
      refine fr_sI (by unfold MOD_X12_city; omega) (fun σ16 => ?_)
      exact ih _ _

theorem fmX12_city_L130 (t : Nat) (k190 : St_ → Option (Int32 × St_)) (hk190 : ∀ (y0 : St_), Fr (MOD_X12_city t) y0 (fun b => b.2) (k190 y0)) : ∀ (n : Nat) (x1 : Int32) (σ : St_), Fr (MOD_X12_city t) σ (fun b => b.2) (mX12_city_L130 t k190 n x1 σ) := by
  intro n
  induction n with
  | zero => intros; exact fr_none
  | succ n ih =>
    intro x1 σ
    rw [mX12_city_L130]
    refine fr_ite ?_ ?_
    · exact hk190 _
    · refine fr_gd (fun hg => ?_)
      have hg := bin_lt hg
      refine fr_bv (fun v18 => ?_)
      refine fr_gd (fun hg => ?_)
      have hg := bin_lt hg
      refine fr_sI (by unfold MOD_X12_city; omega) (fun σ19 => ?_)
      refine fr_gd (fun hg => ?_)
      have hg := bin_lt hg
      refine fr_bv (fun v20 => ?_)
      refine fr_gd (fun hg => ?_)
      have hg := bin_lt hg
      refine fr_sI (by unfold MOD_X12_city; omega) (fun σ21 => ?_)
      refine fr_gd (fun hg => ?_)
      have hg := bin_lt hg
      refine fr_bv (fun v22 => ?_)
      refine fr_gd (fun hg => ?_)
      have hg := bin_lt hg
      refine fr_sI (by unfold MOD_X12_city; omega) (fun σ23 => ?_)
      refine fr_gd (fun hg => ?_)
      have hg := bin_lt hg
      refine fr_bv (fun v24 => ?_)
      refine fr_gd (fun hg => ?_)
      have hg := bin_lt hg
      refine fr_sI (by unfold MOD_X12_city; omega) (fun σ25 => ?_)
      exact ih _ _

theorem fmX12_city_L192 (t : Nat) (k227 : St_ → Option (Int32 × St_)) (hk227 : ∀ (y0 : St_), Fr (MOD_X12_city t) y0 (fun b => b.2) (k227 y0)) : ∀ (n : Nat) (x1 : Int32) (σ : St_), Fr (MOD_X12_city t) σ (fun b => b.2) (mX12_city_L192 t k227 n x1 σ) := by
  intro n
  induction n with
  | zero => intros; exact fr_none
  | succ n ih =>
    intro x1 σ
    rw [mX12_city_L192]
    refine fr_ite ?_ ?_
    · exact hk227 _
    · refine fr_gd (fun hg => ?_)
      have hg := bin_lt hg
      refine fr_bv (fun v27 => ?_)
      refine fr_gd (fun hg => ?_)
      have hg := bin_lt hg
      refine fr_sI (by unfold MOD_X12_city; omega) (fun σ28 => ?_)
      refine fr_gd (fun hg => ?_)
      have hg := bin_lt hg
      refine fr_bv (fun v29 => ?_)
      refine fr_gd (fun hg => ?_)
      have hg := bin_lt hg
      refine fr_sI (by unfold MOD_X12_city; omega) (fun σ30 => ?_)
      exact ih _ _

theorem fmX12_city_L229 (t : Nat) (k264 : St_ → Option (Int32 × St_)) (hk264 : ∀ (y0 : St_), Fr (MOD_X12_city t) y0 (fun b => b.2) (k264 y0)) : ∀ (n : Nat) (x1 : Int32) (σ : St_), Fr (MOD_X12_city t) σ (fun b => b.2) (mX12_city_L229 t k264 n x1 σ) := by
  intro n
  induction n with
  | zero => intros; exact fr_none
  | succ n ih =>
    intro x1 σ
    rw [mX12_city_L229]
    refine fr_ite ?_ ?_
    · exact hk264 _
    · refine fr_gd (fun hg => ?_)
      have hg := bin_lt hg
      refine fr_bv (fun v32 => ?_)
      refine fr_gd (fun hg => ?_)
      have hg := bin_lt hg
      refine fr_sI (by unfold MOD_X12_city; omega) (fun σ33 => ?_)
      refine fr_gd (fun hg => ?_)
      have hg := bin_lt hg
      refine fr_bv (fun v34 => ?_)
      refine fr_gd (fun hg => ?_)
      have hg := bin_lt hg
      refine fr_sI (by unfold MOD_X12_city; omega) (fun σ35 => ?_)
      exact ih _ _

theorem fmX12_city_L266 (t : Nat) (k290 : St_ → Option (Int32 × St_)) (hk290 : ∀ (y0 : St_), Fr (MOD_X12_city t) y0 (fun b => b.2) (k290 y0)) : ∀ (n : Nat) (x1 : Int32) (σ : St_), Fr (MOD_X12_city t) σ (fun b => b.2) (mX12_city_L266 t k290 n x1 σ) := by
  intro n
  induction n with
  | zero => intros; exact fr_none
  | succ n ih =>
    intro x1 σ
    rw [mX12_city_L266]
    refine fr_ite ?_ ?_
    · exact hk290 _
    · refine fr_gd (fun hg => ?_)
      have hg := bin_lt hg
      refine fr_bv (fun v37 => ?_)
      refine fr_gd (fun hg => ?_)
      have hg := bin_lt hg
      refine fr_sI (by unfold MOD_X12_city; omega) (fun σ38 => ?_)
      exact ih _ _

theorem fmX12_city_L292 (t : Nat) (k311 : St_ → Option (Int32 × St_)) (hk311 : ∀ (y0 : St_), Fr (MOD_X12_city t) y0 (fun b => b.2) (k311 y0)) : ∀ (n : Nat) (x1 : Int32) (σ : St_), Fr (MOD_X12_city t) σ (fun b => b.2) (mX12_city_L292 t k311 n x1 σ) := by
  intro n
  induction n with
  | zero => intros; exact fr_none
  | succ n ih =>
    intro x1 σ
    rw [mX12_city_L292]
    refine fr_ite ?_ ?_
    · exact hk311 _
    · refine fr_gd (fun hg => ?_)
      have hg := bin_lt hg
      refine fr_sI (by unfold MOD_X12_city; omega) (fun σ40 => ?_)
      exact ih _ _

theorem fmX12_city_L313 (t : Nat) (k349 : St_ → Option (Int32 × St_)) (hk349 : ∀ (y0 : St_), Fr (MOD_X12_city t) y0 (fun b => b.2) (k349 y0)) : ∀ (n : Nat) (x1 : Int32) (σ : St_), Fr (MOD_X12_city t) σ (fun b => b.2) (mX12_city_L313 t k349 n x1 σ) := by
  intro n
  induction n with
  | zero => intros; exact fr_none
  | succ n ih =>
    intro x1 σ
    rw [mX12_city_L313]
    refine fr_ite ?_ ?_
    · exact hk349 _
    · refine fr_jn (fun k43 => ∀ (j42 : Int32), Fr (MOD_X12_city t) σ (fun b => b.2) (k43 j42)) ?_ (fun k43 hk43 => ?_)
      · intro j42
        refine fr_gd (fun hg => ?_)
        have hg := bin_lt hg
        refine fr_sI (by unfold MOD_X12_city; omega) (fun σ45 => ?_)
        exact ih _ _
      · refine fr_ite ?_ ?_
        · exact hk43 _
        · refine fr_gd (fun hg => ?_)
          have hg := bin_lt hg
          refine fr_bv (fun v46 => ?_)
          exact hk43 _

theorem fmX12_city_L371 (t : Nat) : ∀ (n : Nat) (x1 : Int32) (σ : St_), Fr (MOD_X12_city t) σ (fun b => b.2) (mX12_city_L371 t n x1 σ) := by
  intro n
  induction n with
  | zero => intros; exact fr_none
  | succ n ih =>
    intro x1 σ
    rw [mX12_city_L371]
    refine fr_ite ?_ ?_
    · exact fr_some rfl
    · refine fr_gd (fun hg => ?_)
      have hg := bin_lt hg
      refine fr_sI (by unfold MOD_X12_city; omega) (fun σ52 => ?_)
      exact ih _ _

theorem fX12_city (t : Nat) (σ : St_) : Fr (MOD_X12_city t) σ (fun b => b.2) (mX12_city t σ) := by
  rw [mX12_city]
  refine fr_bind (fX12_readAll _ _) (fun a k h => by unfold MOD_X12_readAll at h; unfold MOD_X12_city; omega) (fun σ1 => ?_)
  refine fr_ite ?_ ?_
  · refine fr_sI (by unfold MOD_X12_city; omega) (fun σ2 => ?_)
    refine fr_sI (by unfold MOD_X12_city; omega) (fun σ3 => ?_)
    refine fr_sI (by unfold MOD_X12_city; omega) (fun σ4 => ?_)
    refine fr_sI (by unfold MOD_X12_city; omega) (fun σ5 => ?_)
    refine fr_sI (by unfold MOD_X12_city; omega) (fun σ6 => ?_)
    refine fr_ite ?_ ?_
    · refine fr_sI (by unfold MOD_X12_city; omega) (fun σ7 => ?_)
      refine fr_sI (by unfold MOD_X12_city; omega) (fun σ8 => ?_)
      refine fr_jn (fun k10 => ∀ (j9 : Int32), Fr (MOD_X12_city t) σ8 (fun b => b.2) (k10 j9)) ?_ (fun k10 hk10 => ?_)
      · intro j9
        refine fr_sI (by unfold MOD_X12_city; omega) (fun σ12 => ?_)
        refine fmX12_city_L90 _ _ ?_ _ _ _
        · intro σ17
          refine fmX12_city_L130 _ _ ?_ _ _ _
          · intro σ26
            refine fmX12_city_L192 _ _ ?_ _ _ _
            · intro σ31
              refine fmX12_city_L229 _ _ ?_ _ _ _
              · intro σ36
                refine fmX12_city_L266 _ _ ?_ _ _ _
                · intro σ39
                  refine fmX12_city_L292 _ _ ?_ _ _ _
                  · intro σ41
                    refine fmX12_city_L313 _ _ ?_ _ _ _
                    · intro σ47
                      refine fr_sI (by unfold MOD_X12_city; omega) (fun σ48 => ?_)
                      refine fr_sI (by unfold MOD_X12_city; omega) (fun σ49 => ?_)
                      refine fr_sI (by unfold MOD_X12_city; omega) (fun σ50 => ?_)
                      refine fr_sI (by unfold MOD_X12_city; omega) (fun σ51 => ?_)
                      exact fmX12_city_L371 _ _ _ _
      · refine fr_ite ?_ ?_
        · exact hk10 _
        · exact hk10 _
    · exact fr_none
  · exact fr_some rfl

def MOD_X12_load (t : Nat) : Nat → Nat → Prop := fun a k => a = t + 30 ∨ (a = t ∧ (k = 62 ∨ k = 63))
theorem fmX12_load_L2 (t : Nat) (k26 : St_ → Option St_) (hk26 : ∀ (y0 : St_), Fr (MOD_X12_load t) y0 (fun b => b) (k26 y0)) : ∀ (n : Nat) (x1 : Int32) (σ : St_), Fr (MOD_X12_load t) σ (fun b => b) (mX12_load_L2 t k26 n x1 σ) := by
  intro n
  induction n with
  | zero => intros; exact fr_none
  | succ n ih =>
    intro x1 σ
    rw [mX12_load_L2]
    refine fr_ite ?_ ?_
    · exact hk26 _
    · refine fr_gd (fun hg => ?_)
      have hg := bin_lt hg
      refine fr_bv (fun v1 => ?_)
      refine fr_gd (fun hg => ?_)
      have hg := bin_lt hg
      refine fr_sI (by unfold MOD_X12_load; omega) (fun σ2 => ?_)
      exact ih _ _

theorem fX12_load (t : Nat) (σ : St_) : Fr (MOD_X12_load t) σ (fun b => b) (mX12_load t σ) := by
  rw [mX12_load]
  refine fmX12_load_L2 _ _ ?_ _ _ _
  · intro σ3
    refine fr_gd (fun hg => ?_)
    have hg := bin_lt hg
    refine fr_bv (fun v4 => ?_)
    refine fr_sI (by unfold MOD_X12_load; omega) (fun σ5 => ?_)
    refine fr_gd (fun hg => ?_)
    have hg := bin_lt hg
    refine fr_bv (fun v6 => ?_)
    refine fr_sI (by unfold MOD_X12_load; omega) (fun σ7 => ?_)
    exact fr_some rfl

def MOD_X12_tick (t : Nat) : Nat → Nat → Prop := fun a k => (a = t ∧ (k = 62 ∨ k = 63))
theorem fX12_tick (t : Nat) (σ : St_) : Fr (MOD_X12_tick t) σ (fun b => b) (mX12_tick t σ) := by
  rw [mX12_tick]
  refine fr_sI (by unfold MOD_X12_tick; omega) (fun σ1 => ?_)
  refine fr_ite ?_ ?_
  · refine fr_sI (by unfold MOD_X12_tick; omega) (fun σ2 => ?_)
    refine fr_sI (by unfold MOD_X12_tick; omega) (fun σ3 => ?_)
    exact fr_some rfl
  · exact fr_some rfl

def MOD_X12_isLawful (t : Nat) : Nat → Nat → Prop := fun a k => (t + 9 ≤ a ∧ a < t + 11)
theorem fmX12_isLawful_L3 (t : Nat) (x1 : Int32) (x2 : Int32) (x3 : Int32) (x4 : Int32) (x5 : Int32) (k24 : St_ → Option (Bool × St_)) (hk24 : ∀ (y0 : St_), Fr (MOD_X12_isLawful t) y0 (fun b => b.2) (k24 y0)) : ∀ (n : Nat) (x6 : Int32) (σ : St_), Fr (MOD_X12_isLawful t) σ (fun b => b.2) (mX12_isLawful_L3 t x1 x2 x3 x4 x5 k24 n x6 σ) := by
  intro n
  induction n with
  | zero => intros; exact fr_none
  | succ n ih =>
    intro x6 σ
    rw [mX12_isLawful_L3]
    refine fr_ite ?_ ?_
    · exact hk24 _
    · refine fr_gd (fun hg => ?_)
      have hg := bin_lt hg
      refine fr_sI (by unfold MOD_X12_isLawful; omega) (fun σ1 => ?_)
      exact ih _ _

theorem fmX12_isLawful_L27 (t : Nat) (x1 : Int32) (x2 : Int32) (x3 : Int32) (x4 : Int32) (x5 : Int32) (k102 : St_ → Option (Bool × St_)) (hk102 : ∀ (y0 : St_), Fr (MOD_X12_isLawful t) y0 (fun b => b.2) (k102 y0)) : ∀ (n : Nat) (x6 : Int32) (σ : St_), Fr (MOD_X12_isLawful t) σ (fun b => b.2) (mX12_isLawful_L27 t x1 x2 x3 x4 x5 k102 n x6 σ) := by
  intro n
  induction n with
  | zero => intros; exact fr_none
  | succ n ih =>
    intro x6 σ
    rw [mX12_isLawful_L27]
    refine fr_ite ?_ ?_
    · exact hk102 _
    · refine fr_gd (fun hg => ?_)
      have hg := bin_lt hg
      refine fr_bv (fun v3 => ?_)
      refine fr_jn (fun k5 => ∀ (j4 : Int32), Fr (MOD_X12_isLawful t) σ (fun b => b.2) (k5 j4)) ?_ (fun k5 hk5 => ?_)
      · intro j4
        refine fr_gd (fun hg => ?_)
        have hg := bin_lt hg
        refine fr_sI (by unfold MOD_X12_isLawful; omega) (fun σ7 => ?_)
        refine fr_gd (fun hg => ?_)
        have hg := bin_lt hg
        refine fr_bv (fun v8 => ?_)
        refine fr_jn (fun k10 => ∀ (j9 : Int32), Fr (MOD_X12_isLawful t) σ7 (fun b => b.2) (k10 j9)) ?_ (fun k10 hk10 => ?_)
        · intro j9
          refine fr_gd (fun hg => ?_)
          have hg := bin_lt hg
          refine fr_sI (by unfold MOD_X12_isLawful; omega) (fun σ12 => ?_)
          exact ih _ _
        · refine fr_ite ?_ ?_
          · refine fr_bindP (fun r13 => ?_)
            exact hk10 _
          · exact hk10 _
      · refine fr_ite ?_ ?_
        · refine fr_bindP (fun r14 => ?_)
          exact hk5 _
        · exact hk5 _

theorem fX12_isLawful (t : Nat) (p1 : Int32) (p2 : Int32) (p3 : Int32) (p4 : Int32) (p5 : Int32) (σ : St_) : Fr (MOD_X12_isLawful t) σ (fun b => b.2) (mX12_isLawful t p1 p2 p3 p4 p5 σ) := by
  rw [mX12_isLawful]
  refine fmX12_isLawful_L3 _ _ _ _ _ _ _ ?_ _ _ _
  · intro σ2
    refine fmX12_isLawful_L27 _ _ _ _ _ _ _ ?_ _ _ _
    · intro σ15
      refine fr_ite ?_ ?_
      · refine fr_gd (fun hg => ?_)
        have hg := bin_lt hg
        refine fr_bv (fun v16 => ?_)
        refine fr_gd (fun hg => ?_)
        have hg := bin_lt hg
        refine fr_bv (fun v17 => ?_)
        refine fr_ite ?_ ?_
        · exact fr_some rfl
        · exact fr_some rfl
      · refine fr_bindP (fun r18 => ?_)
        refine fr_gd (fun hg => ?_)
        have hg := bin_lt hg
        refine fr_sI (by unfold MOD_X12_isLawful; omega) (fun σ19 => ?_)
        refine fr_bindP (fun r20 => ?_)
        refine fr_gd (fun hg => ?_)
        have hg := bin_lt hg
        refine fr_sI (by unfold MOD_X12_isLawful; omega) (fun σ21 => ?_)
        refine fr_bindP (fun r22 => ?_)
        refine fr_gd (fun hg => ?_)
        have hg := bin_lt hg
        refine fr_sI (by unfold MOD_X12_isLawful; omega) (fun σ23 => ?_)
        refine fr_gd (fun hg => ?_)
        have hg := bin_lt hg
        refine fr_sI (by unfold MOD_X12_isLawful; omega) (fun σ24 => ?_)
        refine fr_gd (fun hg => ?_)
        have hg := bin_lt hg
        refine fr_sI (by unfold MOD_X12_isLawful; omega) (fun σ25 => ?_)
        refine fr_bind (fX12_worked _ _) (fun a k h => by unfold MOD_X12_worked at h; unfold MOD_X12_isLawful; omega) (fun r26 => ?_)
        refine fr_ite ?_ ?_
        · exact fr_some rfl
        · exact fr_some rfl

def MOD_X12_move (t : Nat) : Nat → Nat → Prop := fun a k => a = t + 30
theorem fmX12_move_L3 (t : Nat) (x1 : Int32) (x2 : Int32) (x3 : Int32) (x4 : Int32) : ∀ (n : Nat) (x5 : Int32) (σ : St_), Fr (MOD_X12_move t) σ (fun b => b) (mX12_move_L3 t x1 x2 x3 x4 n x5 σ) := by
  intro n
  induction n with
  | zero => intros; exact fr_none
  | succ n ih =>
    intro x5 σ
    rw [mX12_move_L3]
    refine fr_ite ?_ ?_
    · exact fr_some rfl
    · refine fr_jn (fun k2 => ∀ (σ1 : St_), Fr (MOD_X12_move t) σ1 (fun b => b) (k2 σ1)) ?_ (fun k2 hk2 => ?_)
      · intro σ1
        refine fr_jn (fun k5 => ∀ (σ4 : St_), Fr (MOD_X12_move t) σ4 (fun b => b) (k5 σ4)) ?_ (fun k5 hk5 => ?_)
        · intro σ4
          exact ih _ _
        · refine fr_ite ?_ ?_
          · refine fr_gd (fun hg => ?_)
            have hg := bin_lt hg
            refine fr_sI (by unfold MOD_X12_move; omega) (fun σ7 => ?_)
            exact hk5 _
          · exact hk5 _
      · refine fr_ite ?_ ?_
        · refine fr_gd (fun hg => ?_)
          have hg := bin_lt hg
          refine fr_sI (by unfold MOD_X12_move; omega) (fun σ8 => ?_)
          exact hk2 _
        · exact hk2 _

theorem fX12_move (t : Nat) (p1 : Int32) (p2 : Int32) (p3 : Int32) (p4 : Int32) (σ : St_) : Fr (MOD_X12_move t) σ (fun b => b) (mX12_move t p1 p2 p3 p4 σ) := by
  rw [mX12_move]
  exact fmX12_move_L3 _ _ _ _ _ _ _ _

def MOD_X12_has (t : Nat) : Nat → Nat → Prop := fun a k => a = t + 30 ∨ (a = t ∧ (k = 62 ∨ k = 63))
theorem fX12_has (t : Nat) (p1 : Int32) (p2 : Bool) (σ : St_) : Fr (MOD_X12_has t) σ (fun b => b.2) (mX12_has t p1 p2 σ) := by
  rw [mX12_has]
  refine fr_bind (fX12_load _ _) (fun a k h => by unfold MOD_X12_load at h; unfold MOD_X12_has; omega) (fun σ1 => ?_)
  refine fr_bindP (fun r2 => ?_)
  refine fr_ite ?_ ?_
  · refine fr_bindP (fun r3 => ?_)
    refine fr_bindP (fun r4 => ?_)
    exact fr_some rfl
  · exact fr_some rfl

def MOD_X12_sum (t : Nat) : Nat → Nat → Prop := fun a k => a = t + 30 ∨ (a = t ∧ (k = 62 ∨ k = 63))
theorem fX12_sum (t : Nat) (p1 : Int32) (p2 : Bool) (σ : St_) : Fr (MOD_X12_sum t) σ (fun b => b.2) (mX12_sum t p1 p2 σ) := by
  rw [mX12_sum]
  refine fr_bind (fX12_load _ _) (fun a k h => by unfold MOD_X12_load at h; unfold MOD_X12_sum; omega) (fun σ1 => ?_)
  refine fr_bindP (fun r2 => ?_)
  refine fr_ite ?_ ?_
  · refine fr_bindP (fun r3 => ?_)
    refine fr_bindP (fun r4 => ?_)
    exact fr_some rfl
  · exact fr_some rfl

def MOD_X12_thief (t : Nat) : Nat → Nat → Prop := fun a k => a = t + 30 ∨ (a = t ∧ (k = 62 ∨ k = 63))
theorem fX12_thief (t : Nat) (p1 : Int32) (p2 : Int32) (σ : St_) : Fr (MOD_X12_thief t) σ (fun b => b.2) (mX12_thief t p1 p2 σ) := by
  rw [mX12_thief]
  refine fr_bindP (fun r1 => ?_)
  refine fr_ite ?_ ?_
  · refine fr_bind (fX12_load _ _) (fun a k h => by unfold MOD_X12_load at h; unfold MOD_X12_thief; omega) (fun σ2 => ?_)
    refine fr_ite ?_ ?_
    · exact fr_some rfl
    · refine fr_ite ?_ ?_
      · refine fr_bv (fun v3 => ?_)
        refine fr_gd (fun hg => ?_)
        have hg := bin_lt hg
        refine fr_bv (fun v4 => ?_)
        exact fr_some rfl
      · refine fr_ite ?_ ?_
        · refine fr_bindP (fun r5 => ?_)
          refine fr_bindP (fun r6 => ?_)
          exact fr_some rfl
        · exact fr_some rfl
  · exact fr_some rfl

def MOD_X12_areSets (t : Nat) : Nat → Nat → Prop := fun a k => a = t + 30 ∨ (a = t ∧ (k = 62 ∨ k = 63))
theorem fX12_areSets (t : Nat) (p1 : Int32) (p2 : Int32) (p3 : Int32) (p4 : Int32) (σ : St_) : Fr (MOD_X12_areSets t) σ (fun b => b.2) (mX12_areSets t p1 p2 p3 p4 σ) := by
  rw [mX12_areSets]
  refine fr_bindP (fun r1 => ?_)
  refine fr_ite ?_ ?_
  · refine fr_bindP (fun r2 => ?_)
    refine fr_ite ?_ ?_
    · refine fr_bind (fX12_load _ _) (fun a k h => by unfold MOD_X12_load at h; unfold MOD_X12_areSets; omega) (fun σ3 => ?_)
      refine fr_ite ?_ ?_
      · exact fr_some rfl
      · refine fr_ite ?_ ?_
        · exact fr_some rfl
        · refine fr_bindP (fun r4 => ?_)
          refine fr_ite ?_ ?_
          · exact fr_some rfl
          · refine fr_bindP (fun r5 => ?_)
            refine fr_ite ?_ ?_
            · exact fr_some rfl
            · refine fr_bindP (fun r6 => ?_)
              refine fr_ite ?_ ?_
              · refine fr_bindP (fun r7 => ?_)
                refine fr_ite ?_ ?_
                · exact fr_some rfl
                · exact fr_some rfl
              · exact fr_some rfl
    · exact fr_some rfl
  · exact fr_some rfl

def MOD_X12_may (t : Nat) : Nat → Nat → Prop := fun a k => (t + 9 ≤ a ∧ a < t + 11) ∨ a = t + 30 ∨ (a = t ∧ (k = 62 ∨ k = 63))
theorem fX12_may (t : Nat) (p1 : Int32) (p2 : Int32) (p3 : Int32) (p4 : Int32) (p5 : Int32) (σ : St_) : Fr (MOD_X12_may t) σ (fun b => b.2) (mX12_may t p1 p2 p3 p4 p5 σ) := by
  rw [mX12_may]
  refine fr_bind (fX12_areSets _ _ _ _ _ _) (fun a k h => by unfold MOD_X12_areSets at h; unfold MOD_X12_may; omega) (fun r1 => ?_)
  refine fr_ite ?_ ?_
  · refine fr_bindP (fun r2 => ?_)
    refine fr_ite ?_ ?_
    · refine fr_jn (fun k5 => ∀ (j3 : Bool) (σ4 : St_), Fr (MOD_X12_may t) σ4 (fun b => b.2) (k5 j3 σ4)) ?_ (fun k5 hk5 => ?_)
      · intro j3 σ4
        refine fr_bindP (fun r7 => ?_)
        exact fr_some rfl
      · refine fr_ite ?_ ?_
        · refine fr_bindP (fun r8 => ?_)
          exact hk5 _ _
        · refine fr_ite ?_ ?_
          · refine fr_bindP (fun r9 => ?_)
            exact hk5 _ _
          · refine fr_gd (fun hg => ?_)
            have hg := bin_lt hg
            refine fr_bv (fun v10 => ?_)
            refine fr_bind (fX12_isLawful _ _ _ _ _ _ _) (fun a k h => by unfold MOD_X12_isLawful at h; unfold MOD_X12_may; omega) (fun r11 => ?_)
            exact hk5 _ _
    · exact fr_some rfl
  · exact fr_some rfl

def MOD_X12_act (t : Nat) : Nat → Nat → Prop := fun a k => a = t + 31 ∨ (a = t ∧ (k = 68 ∨ k = 69))
theorem fmX12_act_L51 (t : Nat) (k83 : St_ → Option St_) (hk83 : ∀ (y0 : St_), Fr (MOD_X12_act t) y0 (fun b => b) (k83 y0)) : ∀ (n : Nat) (x1 : Int32) (σ : St_), Fr (MOD_X12_act t) σ (fun b => b) (mX12_act_L51 t k83 n x1 σ) := by
  intro n
  induction n with
  | zero => intros; exact fr_none
  | succ n ih =>
    intro x1 σ
    rw [mX12_act_L51]
    refine fr_ite ?_ ?_
    · exact hk83 _
    · refine fr_gd (fun hg => ?_)
      have hg := bin_lt hg
      refine fr_bv (fun v4 => ?_)
      refine fr_bv (fun v5 => ?_)
      refine fr_gd (fun hg => ?_)
      have hg := bin_lt hg
      refine fr_sI (by unfold MOD_X12_act; omega) (fun σ6 => ?_)
      exact ih _ _

theorem fmX12_act_L11 (t : Nat) (k39 : St_ → Option St_) (hk39 : ∀ (y0 : St_), Fr (MOD_X12_act t) y0 (fun b => b) (k39 y0)) : ∀ (n : Nat) (x1 : Int32) (σ : St_), Fr (MOD_X12_act t) σ (fun b => b) (mX12_act_L11 t k39 n x1 σ) := by
  intro n
  induction n with
  | zero => intros; exact fr_none
  | succ n ih =>
    intro x1 σ
    rw [mX12_act_L11]
    refine fr_ite ?_ ?_
    · exact hk39 _
    · refine fr_bv (fun v10 => ?_)
      refine fr_gd (fun hg => ?_)
      have hg := bin_lt hg
      refine fr_bv (fun v11 => ?_)
      refine fr_gd (fun hg => ?_)
      have hg := bin_lt hg
      refine fr_sI (by unfold MOD_X12_act; omega) (fun σ12 => ?_)
      exact ih _ _

theorem fX12_act (t : Nat) (σ : St_) : Fr (MOD_X12_act t) σ (fun b => b) (mX12_act t σ) := by
  rw [mX12_act]
  refine fr_jn (fun k2 => ∀ (σ1 : St_), Fr (MOD_X12_act t) σ1 (fun b => b) (k2 σ1)) ?_ (fun k2 hk2 => ?_)
  · intro σ1
    refine fmX12_act_L51 _ _ ?_ _ _ _
    · intro σ7
      refine fr_sI (by unfold MOD_X12_act; omega) (fun σ8 => ?_)
      refine fr_sI (by unfold MOD_X12_act; omega) (fun σ9 => ?_)
      exact fr_some rfl
  · refine fr_ite ?_ ?_
    · refine fmX12_act_L11 _ _ ?_ _ _ _
      · intro σ13
        refine fr_sI (by unfold MOD_X12_act; omega) (fun σ14 => ?_)
        exact hk2 _
    · exact hk2 _

def MOD_X12_exchange (t : Nat) : Nat → Nat → Prop := fun a k => a = t + 29 ∨ a = t + 31
theorem fmX12_exchange_L2 (t : Nat) (x1 : Int32) : ∀ (n : Nat) (x2 : Int32) (σ : St_), Fr (MOD_X12_exchange t) σ (fun b => b) (mX12_exchange_L2 t x1 n x2 σ) := by
  intro n
  induction n with
  | zero => intros; exact fr_none
  | succ n ih =>
    intro x2 σ
    rw [mX12_exchange_L2]
    refine fr_ite ?_ ?_
    · exact fr_some rfl
    · refine fr_bv (fun v1 => ?_)
      refine fr_gd (fun hg => ?_)
      have hg := bin_lt hg
      refine fr_bv (fun v2 => ?_)
      refine fr_gd (fun hg => ?_)
      have hg := bin_lt hg
      refine fr_bv (fun v3 => ?_)
      refine fr_bv (fun v4 => ?_)
      refine fr_gd (fun hg => ?_)
      have hg := bin_lt hg
      refine fr_sI (by unfold MOD_X12_exchange; omega) (fun σ5 => ?_)
      refine fr_gd (fun hg => ?_)
      have hg := bin_lt hg
      refine fr_sI (by unfold MOD_X12_exchange; omega) (fun σ6 => ?_)
      exact ih _ _

theorem fX12_exchange (t : Nat) (p1 : Int32) (σ : St_) : Fr (MOD_X12_exchange t) σ (fun b => b) (mX12_exchange t p1 σ) := by
  rw [mX12_exchange]
  exact fmX12_exchange_L2 _ _ _ _ _

def MOD_X12_keepOn (t : Nat) : Nat → Nat → Prop := fun a k => a = t + 29 ∨ (a = t ∧ (k = 62 ∨ k = 63))
theorem fmX12_keepOn_L24 (t : Nat) (k48 : St_ → Option St_) (hk48 : ∀ (y0 : St_), Fr (MOD_X12_keepOn t) y0 (fun b => b) (k48 y0)) : ∀ (n : Nat) (x1 : Int32) (σ : St_), Fr (MOD_X12_keepOn t) σ (fun b => b) (mX12_keepOn_L24 t k48 n x1 σ) := by
  intro n
  induction n with
  | zero => intros; exact fr_none
  | succ n ih =>
    intro x1 σ
    rw [mX12_keepOn_L24]
    refine fr_ite ?_ ?_
    · exact hk48 _
    · refine fr_gd (fun hg => ?_)
      have hg := bin_lt hg
      refine fr_bv (fun v5 => ?_)
      refine fr_gd (fun hg => ?_)
      have hg := bin_lt hg
      refine fr_sI (by unfold MOD_X12_keepOn; omega) (fun σ6 => ?_)
      exact ih _ _

theorem fX12_keepOn (t : Nat) (σ : St_) : Fr (MOD_X12_keepOn t) σ (fun b => b) (mX12_keepOn t σ) := by
  rw [mX12_keepOn]
  refine fr_bind (fX12_tick _ _) (fun a k h => by unfold MOD_X12_tick at h; unfold MOD_X12_keepOn; omega) (fun σ1 => ?_)
  refine fr_jn (fun k3 => ∀ (σ2 : St_), Fr (MOD_X12_keepOn t) σ2 (fun b => b) (k3 σ2)) ?_ (fun k3 hk3 => ?_)
  · intro σ2
    refine fmX12_keepOn_L24 _ _ ?_ _ _ _
    · intro σ7
      refine fr_gd (fun hg => ?_)
      have hg := bin_lt hg
      refine fr_sI (by unfold MOD_X12_keepOn; omega) (fun σ8 => ?_)
      refine fr_gd (fun hg => ?_)
      have hg := bin_lt hg
      refine fr_sI (by unfold MOD_X12_keepOn; omega) (fun σ9 => ?_)
      exact fr_some rfl
  · refine fr_ite ?_ ?_
    · refine fr_gd (fun hg => ?_)
      have hg := bin_lt hg
      refine fr_bv (fun v10 => ?_)
      refine fr_gd (fun hg => ?_)
      have hg := bin_lt hg
      refine fr_sI (by unfold MOD_X12_keepOn; omega) (fun σ11 => ?_)
      exact hk3 _
    · exact hk3 _

def MOD_X12_theft (t : Nat) : Nat → Nat → Prop := fun a k => (t + 9 ≤ a ∧ a < t + 11) ∨ (t + 29 ≤ a ∧ a < t + 32) ∨ (a = t ∧ (k = 62 ∨ k = 63 ∨ k = 68 ∨ k = 69))
theorem fX12_theft (t : Nat) (p1 : Int32) (p2 : Int32) (p3 : Int32) (p4 : Int32) (σ : St_) : Fr (MOD_X12_theft t) σ (fun b => b.2) (mX12_theft t p1 p2 p3 p4 σ) := by
  rw [mX12_theft]
  refine fr_gd (fun hg => ?_)
  have hg := bin_lt hg
  refine fr_bv (fun v1 => ?_)
  refine fr_ite ?_ ?_
  · exact fr_some rfl
  · refine fr_bind (fX12_areSets _ _ _ _ _ _) (fun a k h => by unfold MOD_X12_areSets at h; unfold MOD_X12_theft; omega) (fun r2 => ?_)
    refine fr_ite ?_ ?_
    · refine fr_bindP (fun r3 => ?_)
      refine fr_ite ?_ ?_
      · refine fr_bind (fX12_act _ _) (fun a k h => by unfold MOD_X12_act at h; unfold MOD_X12_theft; omega) (fun σ4 => ?_)
        refine fr_bindP (fun r5 => ?_)
        refine fr_jn (fun k8 => ∀ (j6 : Int32) (σ7 : St_), Fr (MOD_X12_theft t) σ7 (fun b => b.2) (k8 j6 σ7)) ?_ (fun k8 hk8 => ?_)
        · intro j6 σ7
          refine fr_bind (fX12_keepOn _ _) (fun a k h => by unfold MOD_X12_keepOn at h; unfold MOD_X12_theft; omega) (fun σ10 => ?_)
          exact fr_some rfl
        · refine fr_ite ?_ ?_
          · refine fr_sI (by unfold MOD_X12_theft; omega) (fun σ11 => ?_)
            exact hk8 _ _
          · refine fr_gd (fun hg => ?_)
            have hg := bin_lt hg
            refine fr_bv (fun v12 => ?_)
            refine fr_bind (fX12_isLawful _ _ _ _ _ _ _) (fun a k h => by unfold MOD_X12_isLawful at h; unfold MOD_X12_theft; omega) (fun r13 => ?_)
            refine fr_bindP (fun r14 => ?_)
            refine fr_bv (fun v15 => ?_)
            refine fr_gd (fun hg => ?_)
            have hg := bin_lt hg
            refine fr_bv (fun v16 => ?_)
            refine fr_gd (fun hg => ?_)
            have hg := bin_lt hg
            refine fr_sI (by unfold MOD_X12_theft; omega) (fun σ17 => ?_)
            refine fr_bind (fX12_move _ _ _ _ _ _) (fun a k h => by unfold MOD_X12_move at h; unfold MOD_X12_theft; omega) (fun σ18 => ?_)
            exact hk8 _ _
      · exact fr_some rfl
    · exact fr_some rfl

def MOD_X12_waits (t : Nat) : Nat → Nat → Prop := fun a k => (t + 29 ≤ a ∧ a < t + 32) ∨ (a = t ∧ (k = 62 ∨ k = 63 ∨ k = 68 ∨ k = 69))
theorem fX12_waits (t : Nat) (σ : St_) : Fr (MOD_X12_waits t) σ (fun b => b.2) (mX12_waits t σ) := by
  rw [mX12_waits]
  refine fr_gd (fun hg => ?_)
  have hg := bin_lt hg
  refine fr_bv (fun v1 => ?_)
  refine fr_ite ?_ ?_
  · exact fr_some rfl
  · refine fr_bind (fX12_act _ _) (fun a k h => by unfold MOD_X12_act at h; unfold MOD_X12_waits; omega) (fun σ2 => ?_)
    refine fr_bind (fX12_load _ _) (fun a k h => by unfold MOD_X12_load at h; unfold MOD_X12_waits; omega) (fun σ3 => ?_)
    refine fr_bind (fX12_keepOn _ _) (fun a k h => by unfold MOD_X12_keepOn at h; unfold MOD_X12_waits; omega) (fun σ4 => ?_)
    exact fr_some rfl

def MOD_X12_gift (t : Nat) : Nat → Nat → Prop := fun a k => a = t + 29 ∨ a = t + 31 ∨ (a = t ∧ (k = 68 ∨ k = 69))
theorem fX12_gift (t : Nat) (p1 : Int32) (p2 : Int32) (p3 : Bool) (σ : St_) : Fr (MOD_X12_gift t) σ (fun b => b.2) (mX12_gift t p1 p2 p3 σ) := by
  rw [mX12_gift]
  refine fr_bindP (fun r1 => ?_)
  refine fr_ite ?_ ?_
  · refine fr_bindP (fun r2 => ?_)
    refine fr_ite ?_ ?_
    · refine fr_gd (fun hg => ?_)
      have hg := bin_lt hg
      refine fr_bv (fun v3 => ?_)
      refine fr_bindP (fun r4 => ?_)
      refine fr_ite ?_ ?_
      · exact fr_some rfl
      · refine fr_bind (fX12_act _ _) (fun a k h => by unfold MOD_X12_act at h; unfold MOD_X12_gift; omega) (fun σ5 => ?_)
        refine fr_bindP (fun r6 => ?_)
        refine fr_gd (fun hg => ?_)
        have hg := bin_lt hg
        refine fr_sI (by unfold MOD_X12_gift; omega) (fun σ7 => ?_)
        exact fr_some rfl
    · exact fr_some rfl
  · exact fr_some rfl

def MOD_X12_undo (t : Nat) : Nat → Nat → Prop := fun a k => a = t + 29 ∨ a = t + 31 ∨ (a = t ∧ (k = 68 ∨ k = 69))
theorem fX12_undo (t : Nat) (σ : St_) : Fr (MOD_X12_undo t) σ (fun b => b.2) (mX12_undo t σ) := by
  rw [mX12_undo]
  refine fr_ite ?_ ?_
  · exact fr_some rfl
  · refine fr_sI (by unfold MOD_X12_undo; omega) (fun σ1 => ?_)
    refine fr_sI (by unfold MOD_X12_undo; omega) (fun σ2 => ?_)
    refine fr_bind (fX12_exchange _ _ _) (fun a k h => by unfold MOD_X12_exchange at h; unfold MOD_X12_undo; omega) (fun σ3 => ?_)
    exact fr_some rfl

def MOD_X12_redo (t : Nat) : Nat → Nat → Prop := fun a k => a = t + 29 ∨ a = t + 31 ∨ (a = t ∧ (k = 68 ∨ k = 69))
theorem fX12_redo (t : Nat) (σ : St_) : Fr (MOD_X12_redo t) σ (fun b => b.2) (mX12_redo t σ) := by
  rw [mX12_redo]
  refine fr_ite ?_ ?_
  · exact fr_some rfl
  · refine fr_bind (fX12_exchange _ _ _) (fun a k h => by unfold MOD_X12_exchange at h; unfold MOD_X12_redo; omega) (fun σ1 => ?_)
    refine fr_sI (by unfold MOD_X12_redo; omega) (fun σ2 => ?_)
    refine fr_sI (by unfold MOD_X12_redo; omega) (fun σ3 => ?_)
    exact fr_some rfl

def MOD_X12_isSwap (t : Nat) : Nat → Nat → Prop := fun a k => (t + 9 ≤ a ∧ a < t + 11)
theorem fX12_isSwap (t : Nat) (p1 : Int32) (p2 : Int32) (σ : St_) : Fr (MOD_X12_isSwap t) σ (fun b => b.2) (mX12_isSwap t p1 p2 σ) := by
  rw [mX12_isSwap]
  refine fr_bv (fun v1 => ?_)
  refine fr_bv (fun v2 => ?_)
  refine fr_bv (fun v3 => ?_)
  refine fr_bv (fun v4 => ?_)
  refine fr_ite ?_ ?_
  · exact fr_some rfl
  · refine fr_bindP (fun r5 => ?_)
    refine fr_ite ?_ ?_
    · exact fr_some rfl
    · refine fr_bindP (fun r6 => ?_)
      refine fr_ite ?_ ?_
      · refine fr_gd (fun hg => ?_)
        have hg := bin_lt hg
        refine fr_bv (fun v7 => ?_)
        refine fr_ite ?_ ?_
        · refine fr_bindP (fun r8 => ?_)
          refine fr_ite ?_ ?_
          · refine fr_bindP (fun r9 => ?_)
            refine fr_ite ?_ ?_
            · exact fr_some rfl
            · refine fr_bindP (fun r10 => ?_)
              refine fr_ite ?_ ?_
              · refine fr_gd (fun hg => ?_)
                have hg := bin_lt hg
                refine fr_bv (fun v11 => ?_)
                refine fr_bind (fX12_isLawful _ _ _ _ _ _ _) (fun a k h => by unfold MOD_X12_isLawful at h; unfold MOD_X12_isSwap; omega) (fun r12 => ?_)
                refine fr_ite ?_ ?_
                · exact fr_some rfl
                · exact fr_some rfl
              · exact fr_some rfl
          · exact fr_some rfl
        · exact fr_some rfl
      · exact fr_some rfl

def MOD_X12_doSwap (t : Nat) : Nat → Nat → Prop := fun a k => a = t + 30
theorem fX12_doSwap (t : Nat) (p1 : Int32) (p2 : Int32) (σ : St_) : Fr (MOD_X12_doSwap t) σ (fun b => b) (mX12_doSwap t p1 p2 σ) := by
  rw [mX12_doSwap]
  refine fr_bv (fun v1 => ?_)
  refine fr_bind (fX12_move _ _ _ _ _ _) (fun a k h => by unfold MOD_X12_move at h; unfold MOD_X12_doSwap; omega) (fun σ2 => ?_)
  exact fr_some rfl

def MOD_X12_nextSwap (t : Nat) : Nat → Nat → Prop := fun a k => (t + 9 ≤ a ∧ a < t + 11)
theorem fmX12_nextSwap_L18 (t : Nat) (x1 : Int32) (x3 : Int32) : ∀ (n : Nat) (x4 : Int32) (σ : St_), Fr (MOD_X12_nextSwap t) σ (fun b => b.2) (mX12_nextSwap_L18 t x1 x3 n x4 σ) := by
  intro n
  induction n with
  | zero => intros; exact fr_none
  | succ n ih =>
    intro x4 σ
    rw [mX12_nextSwap_L18]
    refine fr_ite ?_ ?_
    · exact fr_some rfl
    · refine fr_bv (fun v2 => ?_)
      refine fr_bv (fun v3 => ?_)
      refine fr_gd (fun hg => ?_)
      have hg := bin_lt hg
      refine fr_bv (fun v4 => ?_)
      refine fr_jn (fun k7 => ∀ (j5 : Int32) (σ6 : St_), Fr (MOD_X12_nextSwap t) σ6 (fun b => b.2) (k7 j5 σ6)) ?_ (fun k7 hk7 => ?_)
      · intro j5 σ6
        exact ih _ _
      · refine fr_ite ?_ ?_
        · refine fr_ite ?_ ?_
          · refine fr_bind (fX12_isSwap _ _ _ _) (fun a k h => by unfold MOD_X12_isSwap at h; unfold MOD_X12_nextSwap; omega) (fun r9 => ?_)
            refine fr_ite ?_ ?_
            · exact fr_some rfl
            · exact hk7 _ _
          · exact hk7 _ _
        · refine fr_bv (fun v10 => ?_)
          exact hk7 _ _

theorem fX12_nextSwap (t : Nat) (p1 : Int32) (p2 : Int32) (σ : St_) : Fr (MOD_X12_nextSwap t) σ (fun b => b.2) (mX12_nextSwap t p1 p2 σ) := by
  rw [mX12_nextSwap]
  refine fr_bindP (fun r1 => ?_)
  refine fr_ite ?_ ?_
  · exact fr_some rfl
  · exact fmX12_nextSwap_L18 _ _ _ _ _ _

def MOD_X12_bestOf (t : Nat) : Nat → Nat → Prop := fun a k => (t + 9 ≤ a ∧ a < t + 11)
theorem fmX12_bestOf_L9 (t : Nat) (x1 : Int32) : ∀ (n : Nat) (x2 : Int32) (x3 : Int32) (σ : St_), Fr (MOD_X12_bestOf t) σ (fun b => b.2) (mX12_bestOf_L9 t x1 n x2 x3 σ) := by
  intro n
  induction n with
  | zero => intros; exact fr_none
  | succ n ih =>
    intro x2 x3 σ
    rw [mX12_bestOf_L9]
    refine fr_ite ?_ ?_
    · exact fr_some rfl
    · refine fr_jn (fun k3 => ∀ (j2 : Int32), Fr (MOD_X12_bestOf t) σ (fun b => b.2) (k3 j2)) ?_ (fun k3 hk3 => ?_)
      · intro j2
        refine fr_bind (fX12_nextSwap _ _ _ _) (fun a k h => by unfold MOD_X12_nextSwap at h; unfold MOD_X12_bestOf; omega) (fun r5 => ?_)
        exact ih _ _ _
      · refine fr_jn (fun k6 => Fr (MOD_X12_bestOf t) σ (fun b => b.2) k6) ?_ (fun k6 hk6 => ?_)
        · exact hk3 _
        · refine fr_ite ?_ ?_
          · exact hk6
          · refine fr_bindP (fun r8 => ?_)
            refine fr_bindP (fun r9 => ?_)
            refine fr_ite ?_ ?_
            · exact hk3 _
            · exact hk6

theorem fX12_bestOf (t : Nat) (p1 : Int32) (σ : St_) : Fr (MOD_X12_bestOf t) σ (fun b => b.2) (mX12_bestOf t p1 σ) := by
  rw [mX12_bestOf]
  refine fr_bind (fX12_nextSwap _ _ _ _) (fun a k h => by unfold MOD_X12_nextSwap at h; unfold MOD_X12_bestOf; omega) (fun r1 => ?_)
  exact fmX12_bestOf_L9 _ _ _ _ _ _

def MOD_X12_swaps (t : Nat) : Nat → Nat → Prop := fun a k => (t + 9 ≤ a ∧ a < t + 11) ∨ a = t + 30 ∨ (a = t ∧ (k = 62 ∨ k = 63))
theorem fmX12_swaps_L23 (t : Nat) (x1 : Int32) : ∀ (n : Nat) (x2 : Int32) (x3 : Int32) (σ : St_), Fr (MOD_X12_swaps t) σ (fun b => b.2) (mX12_swaps_L23 t x1 n x2 x3 σ) := by
  intro n
  induction n with
  | zero => intros; exact fr_none
  | succ n ih =>
    intro x2 x3 σ
    rw [mX12_swaps_L23]
    refine fr_ite ?_ ?_
    · exact fr_some rfl
    · refine fr_bind (fX12_nextSwap _ _ _ _) (fun a k h => by unfold MOD_X12_nextSwap at h; unfold MOD_X12_swaps; omega) (fun r4 => ?_)
      exact ih _ _ _

theorem fX12_swaps (t : Nat) (p1 : Int32) (σ : St_) : Fr (MOD_X12_swaps t) σ (fun b => b.2) (mX12_swaps t p1 σ) := by
  rw [mX12_swaps]
  refine fr_bindP (fun r1 => ?_)
  refine fr_ite ?_ ?_
  · refine fr_bind (fX12_load _ _) (fun a k h => by unfold MOD_X12_load at h; unfold MOD_X12_swaps; omega) (fun σ2 => ?_)
    refine fr_bind (fX12_nextSwap _ _ _ _) (fun a k h => by unfold MOD_X12_nextSwap at h; unfold MOD_X12_swaps; omega) (fun r3 => ?_)
    exact fmX12_swaps_L23 _ _ _ _ _ _
  · exact fr_some rfl

def MOD_X12_lay (t : Nat) : Nat → Nat → Prop := fun a k => a = t + 32 ∨ (a = t ∧ (k = 71))
theorem fX12_lay (t : Nat) (p1 : Int32) (σ : St_) : Fr (MOD_X12_lay t) σ (fun b => b) (mX12_lay t p1 σ) := by
  rw [mX12_lay]
  refine fr_bv (fun v1 => ?_)
  refine fr_gd (fun hg => ?_)
  have hg := bin_lt hg
  refine fr_sI (by unfold MOD_X12_lay; omega) (fun σ2 => ?_)
  refine fr_sI (by unfold MOD_X12_lay; omega) (fun σ3 => ?_)
  exact fr_some rfl

def MOD_X12_laySwap (t : Nat) : Nat → Nat → Prop := fun a k => a = t + 32 ∨ (a = t ∧ (k = 71))
theorem fX12_laySwap (t : Nat) (p1 : Int32) (σ : St_) : Fr (MOD_X12_laySwap t) σ (fun b => b) (mX12_laySwap t p1 σ) := by
  rw [mX12_laySwap]
  refine fr_jn (fun k2 => ∀ (j1 : Int32), Fr (MOD_X12_laySwap t) σ (fun b => b) (k2 j1)) ?_ (fun k2 hk2 => ?_)
  · intro j1
    refine fr_bind (fX12_lay _ _ _) (fun a k h => by unfold MOD_X12_lay at h; unfold MOD_X12_laySwap; omega) (fun σ4 => ?_)
    refine fr_jn (fun k6 => ∀ (j5 : Int32), Fr (MOD_X12_laySwap t) σ4 (fun b => b) (k6 j5)) ?_ (fun k6 hk6 => ?_)
    · intro j5
      refine fr_bind (fX12_lay _ _ _) (fun a k h => by unfold MOD_X12_lay at h; unfold MOD_X12_laySwap; omega) (fun σ8 => ?_)
      refine fr_jn (fun k10 => ∀ (j9 : Int32), Fr (MOD_X12_laySwap t) σ8 (fun b => b) (k10 j9)) ?_ (fun k10 hk10 => ?_)
      · intro j9
        refine fr_bind (fX12_lay _ _ _) (fun a k h => by unfold MOD_X12_lay at h; unfold MOD_X12_laySwap; omega) (fun σ12 => ?_)
        exact fr_some rfl
      · refine fr_ite ?_ ?_
        · exact hk10 _
        · exact hk10 _
    · refine fr_ite ?_ ?_
      · refine fr_bv (fun v13 => ?_)
        exact hk6 _
      · exact hk6 _
  · refine fr_ite ?_ ?_
    · exact hk2 _
    · exact hk2 _

def MOD_X12_best (t : Nat) : Nat → Nat → Prop := fun a k => (t + 9 ≤ a ∧ a < t + 11) ∨ a = t + 30 ∨ a = t + 32 ∨ (a = t ∧ (k = 62 ∨ k = 63 ∨ k = 71))
theorem fX12_best (t : Nat) (p1 : Int32) (σ : St_) : Fr (MOD_X12_best t) σ (fun b => b.2) (mX12_best t p1 σ) := by
  rw [mX12_best]
  refine fr_sI (by unfold MOD_X12_best; omega) (fun σ1 => ?_)
  refine fr_bindP (fun r2 => ?_)
  refine fr_ite ?_ ?_
  · refine fr_bind (fX12_load _ _) (fun a k h => by unfold MOD_X12_load at h; unfold MOD_X12_best; omega) (fun σ3 => ?_)
    refine fr_bind (fX12_bestOf _ _ _) (fun a k h => by unfold MOD_X12_bestOf at h; unfold MOD_X12_best; omega) (fun r4 => ?_)
    refine fr_ite ?_ ?_
    · refine fr_bind (fX12_laySwap _ _ _) (fun a k h => by unfold MOD_X12_laySwap at h; unfold MOD_X12_best; omega) (fun σ5 => ?_)
      refine fr_bindP (fun r6 => ?_)
      exact fr_some rfl
    · exact fr_some rfl
  · exact fr_some rfl

def MOD_X12_loadCome (t : Nat) : Nat → Nat → Prop := fun a k => a = t + 30
theorem fmX12_loadCome_L2 (t : Nat) (x1 : Int32) : ∀ (n : Nat) (x2 : Int32) (σ : St_), Fr (MOD_X12_loadCome t) σ (fun b => b) (mX12_loadCome_L2 t x1 n x2 σ) := by
  intro n
  induction n with
  | zero => intros; exact fr_none
  | succ n ih =>
    intro x2 σ
    rw [mX12_loadCome_L2]
    refine fr_ite ?_ ?_
    · exact fr_some rfl
    · refine fr_bv (fun v1 => ?_)
      refine fr_gd (fun hg => ?_)
      have hg := bin_lt hg
      refine fr_bv (fun v2 => ?_)
      refine fr_gd (fun hg => ?_)
      have hg := bin_lt hg
      refine fr_sI (by unfold MOD_X12_loadCome; omega) (fun σ3 => ?_)
      exact ih _ _

theorem fX12_loadCome (t : Nat) (p1 : Int32) (σ : St_) : Fr (MOD_X12_loadCome t) σ (fun b => b) (mX12_loadCome t p1 σ) := by
  rw [mX12_loadCome]
  exact fmX12_loadCome_L2 _ _ _ _ _

def MOD_X12_put (t : Nat) : Nat → Nat → Prop := fun a k => (t + 33 ≤ a ∧ a < t + 36) ∨ (a = t ∧ (k = 76))
theorem fmX12_put_L5 (t : Nat) (σ : St_) (x1 : Int32) (x2 : Int32) (k29 : Option (Bool × St_)) (hk29 : Fr (MOD_X12_put t) σ (fun b => b.2) (k29)) : ∀ (n : Nat) (x3 : Int32), Fr (MOD_X12_put t) σ (fun b => b.2) (mX12_put_L5 t σ x1 x2 k29 n x3) := by
  intro n
  induction n with
  | zero => intros; exact fr_none
  | succ n ih =>
    intro x3
    rw [mX12_put_L5]
    refine fr_ite ?_ ?_
    · exact hk29
    · refine fr_bindP (fun r2 => ?_)
      refine fr_ite ?_ ?_
      · exact fr_some rfl
      · exact ih _

theorem fmX12_put_L31 (t : Nat) (x1 : Int32) (x2 : Int32) (k63 : St_ → Option (Bool × St_)) (hk63 : ∀ (y0 : St_), Fr (MOD_X12_put t) y0 (fun b => b.2) (k63 y0)) : ∀ (n : Nat) (x3 : Int32) (σ : St_), Fr (MOD_X12_put t) σ (fun b => b.2) (mX12_put_L31 t x1 x2 k63 n x3 σ) := by
  intro n
  induction n with
  | zero => intros; exact fr_none
  | succ n ih =>
    intro x3 σ
    rw [mX12_put_L31]
    refine fr_ite ?_ ?_
    · exact hk63 _
    · refine fr_gd (fun hg => ?_)
      have hg := bin_lt hg
      refine fr_bv (fun v3 => ?_)
      refine fr_bv (fun v4 => ?_)
      refine fr_gd (fun hg => ?_)
      have hg := bin_lt hg
      refine fr_sI (by unfold MOD_X12_put; omega) (fun σ5 => ?_)
      exact ih _ _

theorem fX12_put (t : Nat) (p1 : Int32) (p2 : Int32) (σ : St_) : Fr (MOD_X12_put t) σ (fun b => b.2) (mX12_put t p1 p2 σ) := by
  rw [mX12_put]
  refine fr_bv (fun v1 => ?_)
  refine fmX12_put_L5 _ _ _ _ _ ?_ _ _
  · refine fmX12_put_L31 _ _ _ _ ?_ _ _ _
    · intro σ6
      refine fr_bv (fun v7 => ?_)
      refine fr_gd (fun hg => ?_)
      have hg := bin_lt hg
      refine fr_sI (by unfold MOD_X12_put; omega) (fun σ8 => ?_)
      refine fr_bv (fun v9 => ?_)
      refine fr_gd (fun hg => ?_)
      have hg := bin_lt hg
      refine fr_sI (by unfold MOD_X12_put; omega) (fun σ10 => ?_)
      refine fr_sI (by unfold MOD_X12_put; omega) (fun σ11 => ?_)
      refine fr_ite ?_ ?_
      · exact fr_some rfl
      · exact fr_some rfl

def MOD_X12_goOn (t : Nat) : Nat → Nat → Prop := fun a k => (t + 9 ≤ a ∧ a < t + 11) ∨ a = t + 30 ∨ (t + 33 ≤ a ∧ a < t + 36) ∨ (a = t ∧ (k = 62 ∨ k = 63 ∨ k = 76 ∨ k = 77))
theorem fmX12_goOn_L41 (t : Nat) (x1 : Int32) (x3 : Int32) (x4 : Int32) (k86 : St_ → Option (Bool × St_)) (hk86 : ∀ (y0 : St_), Fr (MOD_X12_goOn t) y0 (fun b => b.2) (k86 y0)) : ∀ (n : Nat) (x5 : Int32) (σ : St_), Fr (MOD_X12_goOn t) σ (fun b => b.2) (mX12_goOn_L41 t x1 x3 x4 k86 n x5 σ) := by
  intro n
  induction n with
  | zero => intros; exact fr_none
  | succ n ih =>
    intro x5 σ
    rw [mX12_goOn_L41]
    refine fr_ite ?_ ?_
    · exact hk86 _
    · refine fr_bind (fX12_doSwap _ _ _ _) (fun a k h => by unfold MOD_X12_doSwap at h; unfold MOD_X12_goOn; omega) (fun σ6 => ?_)
      refine fr_bind (fX12_put _ _ _ _) (fun a k h => by unfold MOD_X12_put at h; unfold MOD_X12_goOn; omega) (fun r7 => ?_)
      refine fr_ite ?_ ?_
      · refine fr_bind (fX12_loadCome _ _ _) (fun a k h => by unfold MOD_X12_loadCome at h; unfold MOD_X12_goOn; omega) (fun σ8 => ?_)
        refine fr_bind (fX12_nextSwap _ _ _ _) (fun a k h => by unfold MOD_X12_nextSwap at h; unfold MOD_X12_goOn; omega) (fun r9 => ?_)
        exact ih _ _
      · exact fr_some rfl

theorem fmX12_goOn_L21 (t : Nat) (x1 : Int32) (x3 : Int32) (k104 : St_ → Option (Bool × St_)) (hk104 : ∀ (y0 : St_), Fr (MOD_X12_goOn t) y0 (fun b => b.2) (k104 y0)) : ∀ (n : Nat) (x4 : Int32) (σ : St_), Fr (MOD_X12_goOn t) σ (fun b => b.2) (mX12_goOn_L21 t x1 x3 k104 n x4 σ) := by
  intro n
  induction n with
  | zero => intros; exact fr_none
  | succ n ih =>
    intro x4 σ
    rw [mX12_goOn_L21]
    refine fr_ite ?_ ?_
    · exact hk104 _
    · refine fr_bind (fX12_loadCome _ _ _) (fun a k h => by unfold MOD_X12_loadCome at h; unfold MOD_X12_goOn; omega) (fun σ4 => ?_)
      refine fr_bind (fX12_nextSwap _ _ _ _) (fun a k h => by unfold MOD_X12_nextSwap at h; unfold MOD_X12_goOn; omega) (fun r5 => ?_)
      refine fmX12_goOn_L41 _ _ _ _ _ ?_ _ _ _
      · intro σ10
        refine fr_bind (fX12_put _ _ _ _) (fun a k h => by unfold MOD_X12_put at h; unfold MOD_X12_goOn; omega) (fun r11 => ?_)
        refine fr_ite ?_ ?_
        · exact ih _ _
        · exact fr_some rfl

theorem fX12_goOn (t : Nat) (p1 : Int32) (σ : St_) : Fr (MOD_X12_goOn t) σ (fun b => b.2) (mX12_goOn t p1 σ) := by
  rw [mX12_goOn]
  refine fr_bv (fun v1 => ?_)
  refine fr_bv (fun v2 => ?_)
  refine fr_sI (by unfold MOD_X12_goOn; omega) (fun σ3 => ?_)
  refine fmX12_goOn_L21 _ _ _ _ ?_ _ _ _
  · intro σ12
    refine fr_bind (fX12_tick _ _) (fun a k h => by unfold MOD_X12_tick at h; unfold MOD_X12_goOn; omega) (fun σ13 => ?_)
    exact fr_some rfl

def MOD_X12_putWay (t : Nat) : Nat → Nat → Prop := fun a k => a = t + 32 ∨ a = t + 36 ∨ (a = t ∧ (k = 71))
theorem fmX12_putWay_L7 (t : Nat) (x2 : Int32) (k38 : St_ → Option (Int32 × St_)) (hk38 : ∀ (y0 : St_), Fr (MOD_X12_putWay t) y0 (fun b => b.2) (k38 y0)) : ∀ (n : Nat) (x3 : Int32) (x4 : Int32) (σ : St_), Fr (MOD_X12_putWay t) σ (fun b => b.2) (mX12_putWay_L7 t x2 k38 n x3 x4 σ) := by
  intro n
  induction n with
  | zero => intros; exact fr_none
  | succ n ih =>
    intro x3 x4 σ
    rw [mX12_putWay_L7]
    refine fr_ite ?_ ?_
    · exact hk38 _
    · refine fr_gd (fun hg => ?_)
      have hg := bin_lt hg
      refine fr_bv (fun v2 => ?_)
      refine fr_gd (fun hg => ?_)
      have hg := bin_lt hg
      refine fr_sI (by unfold MOD_X12_putWay; omega) (fun σ3 => ?_)
      refine fr_gd (fun hg => ?_)
      have hg := bin_lt hg
      refine fr_bv (fun v4 => ?_)
      exact ih _ _ _

theorem fmX12_putWay_L41 (t : Nat) (x2 : Int32) : ∀ (n : Nat) (x4 : Int32) (σ : St_), Fr (MOD_X12_putWay t) σ (fun b => b.2) (mX12_putWay_L41 t x2 n x4 σ) := by
  intro n
  induction n with
  | zero => intros; exact fr_none
  | succ n ih =>
    intro x4 σ
    rw [mX12_putWay_L41]
    refine fr_ite ?_ ?_
    · exact fr_some rfl
    · refine fr_gd (fun hg => ?_)
      have hg := bin_lt hg
      refine fr_bv (fun v6 => ?_)
      refine fr_bind (fX12_laySwap _ _ _) (fun a k h => by unfold MOD_X12_laySwap at h; unfold MOD_X12_putWay; omega) (fun σ7 => ?_)
      exact ih _ _

theorem fX12_putWay (t : Nat) (p1 : Int32) (p2 : Int32) (σ : St_) : Fr (MOD_X12_putWay t) σ (fun b => b.2) (mX12_putWay t p1 p2 σ) := by
  rw [mX12_putWay]
  refine fr_bv (fun v1 => ?_)
  refine fmX12_putWay_L7 _ _ _ ?_ _ _ _ _
  · intro σ5
    exact fmX12_putWay_L41 _ _ _ _ _

def MOD_X12_tour (t : Nat) : Nat → Nat → Prop := fun a k => (t + 9 ≤ a ∧ a < t + 11) ∨ a = t + 30 ∨ (t + 32 ≤ a ∧ a < t + 37) ∨ (a = t ∧ (k = 62 ∨ k = 63 ∨ k = 71 ∨ k = 76 ∨ k = 77))
theorem fmX12_tour_L64 (t : Nat) (σ : St_) (x1 : Int32) (x2 : Int32) (x3 : Bool) (x4 : Int32) (k107 : Option (Int32 × St_)) (k92 : Int32 → Option (Int32 × St_)) (hk107 : Fr (MOD_X12_tour t) σ (fun b => b.2) (k107)) (hk92 : ∀ (y0 : Int32), Fr (MOD_X12_tour t) σ (fun b => b.2) (k92 y0)) : ∀ (n : Nat) (x5 : Int32), Fr (MOD_X12_tour t) σ (fun b => b.2) (mX12_tour_L64 t σ x1 x2 x3 x4 k107 k92 n x5) := by
  intro n
  induction n with
  | zero => intros; exact fr_none
  | succ n ih =>
    intro x5
    rw [mX12_tour_L64]
    refine fr_ite ?_ ?_
    · exact hk107
    · refine fr_bv (fun v9 => ?_)
      refine fr_gd (fun hg => ?_)
      have hg := bin_lt hg
      refine fr_bv (fun v10 => ?_)
      refine fr_ite ?_ ?_
      · exact hk92 _
      · exact ih _

theorem fmX12_tour_L47 (t : Nat) (x1 : Int32) (x2 : Int32) (k126 : Bool → St_ → Option (Int32 × St_)) (k92 : Int32 → Int32 → St_ → Option (Int32 × St_)) (hk126 : ∀ (y0 : Bool) (y1 : St_), Fr (MOD_X12_tour t) y1 (fun b => b.2) (k126 y0 y1)) (hk92 : ∀ (y0 : Int32) (y1 : Int32) (y2 : St_), Fr (MOD_X12_tour t) y2 (fun b => b.2) (k92 y0 y1 y2)) : ∀ (n : Nat) (x3 : Bool) (x4 : Int32) (σ : St_), Fr (MOD_X12_tour t) σ (fun b => b.2) (mX12_tour_L47 t x1 x2 k126 k92 n x3 x4 σ) := by
  intro n
  induction n with
  | zero => intros; exact fr_none
  | succ n ih =>
    intro x3 x4 σ
    rw [mX12_tour_L47]
    refine fr_ite ?_ ?_
    · exact hk126 _ _
    · refine fr_ite ?_ ?_
      · refine fr_bv (fun v8 => ?_)
        refine fmX12_tour_L64 _ _ _ _ _ _ _ _ ?_ ?_ _ _
        · refine fr_jn (fun k13 => ∀ (j11 : Bool) (σ12 : St_), Fr (MOD_X12_tour t) σ12 (fun b => b.2) (k13 j11 σ12)) ?_ (fun k13 hk13 => ?_)
          · intro j11 σ12
            exact ih _ _ _
          · refine fr_ite ?_ ?_
            · exact hk13 _ _
            · refine fr_bind (fX12_goOn _ _ _) (fun a k h => by unfold MOD_X12_goOn at h; unfold MOD_X12_tour; omega) (fun r15 => ?_)
              exact hk13 _ _
        · intro y16
          exact hk92 _ _ _
      · exact hk126 _ _

theorem fX12_tour (t : Nat) (p1 : Int32) (p2 : Int32) (σ : St_) : Fr (MOD_X12_tour t) σ (fun b => b.2) (mX12_tour t p1 p2 σ) := by
  rw [mX12_tour]
  refine fr_sI (by unfold MOD_X12_tour; omega) (fun σ1 => ?_)
  refine fr_bindP (fun r2 => ?_)
  refine fr_ite ?_ ?_
  · refine fr_bindP (fun r3 => ?_)
    refine fr_ite ?_ ?_
    · refine fr_bind (fX12_load _ _) (fun a k h => by unfold MOD_X12_load at h; unfold MOD_X12_tour; omega) (fun σ4 => ?_)
      refine fr_sI (by unfold MOD_X12_tour; omega) (fun σ5 => ?_)
      refine fr_sI (by unfold MOD_X12_tour; omega) (fun σ6 => ?_)
      refine fr_bind (fX12_put _ _ _ _) (fun a k h => by unfold MOD_X12_put at h; unfold MOD_X12_tour; omega) (fun r7 => ?_)
      refine fmX12_tour_L47 _ _ _ _ _ ?_ ?_ _ _ _ _
      · intro y17 σ18
        refine fr_ite ?_ ?_
        · exact fr_some rfl
        · exact fr_some rfl
      · intro y19 y20 σ21
        refine fr_bind (fX12_putWay _ _ _ _) (fun a k h => by unfold MOD_X12_putWay at h; unfold MOD_X12_tour; omega) (fun r22 => ?_)
        exact fr_some rfl
    · exact fr_some rfl
  · exact fr_some rfl

def MOD_X12_goRound (t : Nat) : Nat → Nat → Prop := fun a k => (t + 9 ≤ a ∧ a < t + 11) ∨ a = t + 30 ∨ (a = t ∧ (k = 62 ∨ k = 63))
theorem fmX12_goRound_L4 (t : Nat) (k48 : Bool → St_ → Option (Bool × St_)) (hk48 : ∀ (y0 : Bool) (y1 : St_), Fr (MOD_X12_goRound t) y1 (fun b => b.2) (k48 y0 y1)) : ∀ (n : Nat) (x1 : Bool) (x2 : Int32) (σ : St_), Fr (MOD_X12_goRound t) σ (fun b => b.2) (mX12_goRound_L4 t k48 n x1 x2 σ) := by
  intro n
  induction n with
  | zero => intros; exact fr_none
  | succ n ih =>
    intro x1 x2 σ
    rw [mX12_goRound_L4]
    refine fr_ite ?_ ?_
    · exact hk48 _ _
    · refine fr_bind (fX12_bestOf _ _ _) (fun a k h => by unfold MOD_X12_bestOf at h; unfold MOD_X12_goRound; omega) (fun r1 => ?_)
      refine fr_jn (fun k4 => ∀ (j2 : Bool) (σ3 : St_), Fr (MOD_X12_goRound t) σ3 (fun b => b.2) (k4 j2 σ3)) ?_ (fun k4 hk4 => ?_)
      · intro j2 σ3
        exact ih _ _ _
      · refine fr_ite ?_ ?_
        · exact hk4 _ _
        · refine fr_bindP (fun r6 => ?_)
          refine fr_ite ?_ ?_
          · refine fr_bind (fX12_doSwap _ _ _ _) (fun a k h => by unfold MOD_X12_doSwap at h; unfold MOD_X12_goRound; omega) (fun σ7 => ?_)
            exact hk4 _ _
          · exact hk4 _ _

theorem fX12_goRound (t : Nat) (σ : St_) : Fr (MOD_X12_goRound t) σ (fun b => b.2) (mX12_goRound t σ) := by
  rw [mX12_goRound]
  refine fmX12_goRound_L4 _ _ ?_ _ _ _ _
  · intro y8 σ9
    refine fr_bind (fX12_tick _ _) (fun a k h => by unfold MOD_X12_tick at h; unfold MOD_X12_goRound; omega) (fun σ10 => ?_)
    exact fr_some rfl

def MOD_X12_goRounds (t : Nat) : Nat → Nat → Prop := fun a k => (t + 9 ≤ a ∧ a < t + 11) ∨ a = t + 30 ∨ (a = t ∧ (k = 62 ∨ k = 63 ∨ k = 78))
theorem fmX12_goRounds_L2 (t : Nat) (x1 : Int32) : ∀ (n : Nat) (x2 : Int32) (σ : St_), Fr (MOD_X12_goRounds t) σ (fun b => b) (mX12_goRounds_L2 t x1 n x2 σ) := by
  intro n
  induction n with
  | zero => intros; exact fr_none
  | succ n ih =>
    intro x2 σ
    rw [mX12_goRounds_L2]
    refine fr_ite ?_ ?_
    · exact fr_some rfl
    · refine fr_bind (fX12_goRound _ _) (fun a k h => by unfold MOD_X12_goRound at h; unfold MOD_X12_goRounds; omega) (fun r1 => ?_)
      refine fr_jn (fun k3 => ∀ (j2 : Int32), Fr (MOD_X12_goRounds t) r1.2 (fun b => b) (k3 j2)) ?_ (fun k3 hk3 => ?_)
      · intro j2
        refine fr_sI (by unfold MOD_X12_goRounds; omega) (fun σ5 => ?_)
        exact ih _ _
      · refine fr_ite ?_ ?_
        · exact hk3 _
        · exact hk3 _

theorem fX12_goRounds (t : Nat) (p1 : Int32) (σ : St_) : Fr (MOD_X12_goRounds t) σ (fun b => b) (mX12_goRounds t p1 σ) := by
  rw [mX12_goRounds]
  exact fmX12_goRounds_L2 _ _ _ _ _

def MOD_X12_drift (t : Nat) : Nat → Nat → Prop := fun a k => (t + 9 ≤ a ∧ a < t + 11) ∨ a = t + 30 ∨ (a = t ∧ (k = 62 ∨ k = 63 ∨ k = 78))
theorem fX12_drift (t : Nat) (p1 : Int32) (p2 : Int32) (σ : St_) : Fr (MOD_X12_drift t) σ (fun b => b.2) (mX12_drift t p1 p2 σ) := by
  rw [mX12_drift]
  refine fr_bindP (fun r1 => ?_)
  refine fr_ite ?_ ?_
  · refine fr_bindP (fun r2 => ?_)
    refine fr_ite ?_ ?_
    · refine fr_bind (fX12_load _ _) (fun a k h => by unfold MOD_X12_load at h; unfold MOD_X12_drift; omega) (fun σ3 => ?_)
      refine fr_bind (fX12_goRounds _ _ _) (fun a k h => by unfold MOD_X12_goRounds at h; unfold MOD_X12_drift; omega) (fun σ4 => ?_)
      refine fr_gd (fun hg => ?_)
      have hg := bin_lt hg
      refine fr_bv (fun v5 => ?_)
      exact fr_some rfl
    · exact fr_some rfl
  · exact fr_some rfl

def MOD_X12_sums (t : Nat) : Nat → Nat → Prop := fun a k => (t + 9 ≤ a ∧ a < t + 11) ∨ a = t + 30 ∨ (a = t ∧ (k = 62 ∨ k = 63 ∨ k = 78))
theorem fX12_sums (t : Nat) (p1 : Int32) (p2 : Bool) (p3 : Int32) (σ : St_) : Fr (MOD_X12_sums t) σ (fun b => b.2) (mX12_sums t p1 p2 p3 σ) := by
  rw [mX12_sums]
  refine fr_bindP (fun r1 => ?_)
  refine fr_ite ?_ ?_
  · refine fr_bindP (fun r2 => ?_)
    refine fr_ite ?_ ?_
    · refine fr_bind (fX12_load _ _) (fun a k h => by unfold MOD_X12_load at h; unfold MOD_X12_sums; omega) (fun σ3 => ?_)
      refine fr_bind (fX12_goRounds _ _ _) (fun a k h => by unfold MOD_X12_goRounds at h; unfold MOD_X12_sums; omega) (fun σ4 => ?_)
      refine fr_bindP (fun r5 => ?_)
      refine fr_bindP (fun r6 => ?_)
      exact fr_some rfl
    · exact fr_some rfl
  · exact fr_some rfl

def MOD_X12_rests (t : Nat) : Nat → Nat → Prop := fun a k => (t + 9 ≤ a ∧ a < t + 11) ∨ a = t + 30 ∨ (a = t ∧ (k = 62 ∨ k = 63 ∨ k = 78))
theorem fmX12_rests_L11 (t : Nat) : ∀ (n : Nat) (x1 : Int32) (σ : St_), Fr (MOD_X12_rests t) σ (fun b => b.2) (mX12_rests_L11 t n x1 σ) := by
  intro n
  induction n with
  | zero => intros; exact fr_none
  | succ n ih =>
    intro x1 σ
    rw [mX12_rests_L11]
    refine fr_ite ?_ ?_
    · exact fr_some rfl
    · refine fr_bind (fX12_goRounds _ _ _) (fun a k h => by unfold MOD_X12_goRounds at h; unfold MOD_X12_rests; omega) (fun σ3 => ?_)
      refine fr_ite ?_ ?_
      · exact ih _ _
      · exact fr_some rfl

theorem fX12_rests (t : Nat) (σ : St_) : Fr (MOD_X12_rests t) σ (fun b => b.2) (mX12_rests t σ) := by
  rw [mX12_rests]
  refine fr_bind (fX12_load _ _) (fun a k h => by unfold MOD_X12_load at h; unfold MOD_X12_rests; omega) (fun σ1 => ?_)
  refine fr_sI (by unfold MOD_X12_rests; omega) (fun σ2 => ?_)
  exact fmX12_rests_L11 _ _ _ _

def MOD_X12_hasThen (t : Nat) : Nat → Nat → Prop := fun a k => (t + 9 ≤ a ∧ a < t + 11) ∨ a = t + 30 ∨ (a = t ∧ (k = 62 ∨ k = 63 ∨ k = 78))
theorem fX12_hasThen (t : Nat) (p1 : Int32) (p2 : Int32) (σ : St_) : Fr (MOD_X12_hasThen t) σ (fun b => b.2) (mX12_hasThen t p1 p2 σ) := by
  rw [mX12_hasThen]
  refine fr_bind (fX12_load _ _) (fun a k h => by unfold MOD_X12_load at h; unfold MOD_X12_hasThen; omega) (fun σ1 => ?_)
  refine fr_bind (fX12_goRounds _ _ _) (fun a k h => by unfold MOD_X12_goRounds at h; unfold MOD_X12_hasThen; omega) (fun σ2 => ?_)
  refine fr_bindP (fun r3 => ?_)
  exact fr_some rfl

def MOD_X12_lie (t : Nat) : Nat → Nat → Prop := fun a k => (t + 9 ≤ a ∧ a < t + 11) ∨ a = t + 30 ∨ (a = t ∧ (k = 62 ∨ k = 63 ∨ k = 64 ∨ k = 65 ∨ k = 66 ∨ k = 78))
theorem fmX12_lie_L63 (t : Nat) (x1 : Int32) (x2 : Int32) (x3 : Int32) (x7 : Int32) (k118 : Int32 → Int32 → Int32 → St_ → Option (Int32 × St_)) (hk118 : ∀ (y0 : Int32) (y1 : Int32) (y2 : Int32) (y3 : St_), Fr (MOD_X12_lie t) y3 (fun b => b.2) (k118 y0 y1 y2 y3)) : ∀ (n : Nat) (x4 : Int32) (x5 : Int32) (x6 : Int32) (x8 : Int32) (σ : St_), Fr (MOD_X12_lie t) σ (fun b => b.2) (mX12_lie_L63 t x1 x2 x3 x7 k118 n x4 x5 x6 x8 σ) := by
  intro n
  induction n with
  | zero => intros; exact fr_none
  | succ n ih =>
    intro x4 x5 x6 x8 σ
    rw [mX12_lie_L63]
    refine fr_ite ?_ ?_
    · exact hk118 _ _ _ _
    · refine fr_sI (by unfold MOD_X12_lie; omega) (fun σ6 => ?_)
      refine fr_sI (by unfold MOD_X12_lie; omega) (fun σ7 => ?_)
      refine fr_bind (fX12_hasThen _ _ _ _) (fun a k h => by unfold MOD_X12_hasThen at h; unfold MOD_X12_lie; omega) (fun r8 => ?_)
      refine fr_jn (fun k12 => ∀ (j9 : Int32) (j10 : Int32) (j11 : Int32), Fr (MOD_X12_lie t) r8.2 (fun b => b.2) (k12 j9 j10 j11)) ?_ (fun k12 hk12 => ?_)
      · intro j9 j10 j11
        exact ih _ _ _ _ _
      · refine fr_ite ?_ ?_
        · exact hk12 _ _ _
        · exact hk12 _ _ _

theorem fmX12_lie_L51 (t : Nat) (x1 : Int32) (x2 : Int32) (x3 : Int32) (k124 : Int32 → Int32 → Int32 → St_ → Option (Int32 × St_)) (hk124 : ∀ (y0 : Int32) (y1 : Int32) (y2 : Int32) (y3 : St_), Fr (MOD_X12_lie t) y3 (fun b => b.2) (k124 y0 y1 y2 y3)) : ∀ (n : Nat) (x4 : Int32) (x5 : Int32) (x6 : Int32) (x7 : Int32) (σ : St_), Fr (MOD_X12_lie t) σ (fun b => b.2) (mX12_lie_L51 t x1 x2 x3 k124 n x4 x5 x6 x7 σ) := by
  intro n
  induction n with
  | zero => intros; exact fr_none
  | succ n ih =>
    intro x4 x5 x6 x7 σ
    rw [mX12_lie_L51]
    refine fr_ite ?_ ?_
    · exact hk124 _ _ _ _
    · refine fmX12_lie_L63 _ _ _ _ _ _ ?_ _ _ _ _ _ _
      · intro y14 y15 y16 σ17
        exact ih _ _ _ _ _

theorem fX12_lie (t : Nat) (p1 : Int32) (p2 : Int32) (p3 : Int32) (σ : St_) : Fr (MOD_X12_lie t) σ (fun b => b.2) (mX12_lie t p1 p2 p3 σ) := by
  rw [mX12_lie]
  refine fr_bindP (fun r1 => ?_)
  refine fr_ite ?_ ?_
  · refine fr_bindP (fun r2 => ?_)
    refine fr_ite ?_ ?_
    · refine fr_bindP (fun r3 => ?_)
      refine fr_ite ?_ ?_
      · refine fr_bind (fX12_hasThen _ _ _ _) (fun a k h => by unfold MOD_X12_hasThen at h; unfold MOD_X12_lie; omega) (fun r4 => ?_)
        refine fr_sI (by unfold MOD_X12_lie; omega) (fun σ5 => ?_)
        refine fmX12_lie_L51 _ _ _ _ _ ?_ _ _ _ _ _ _
        · intro y18 y19 y20 σ21
          refine fr_sI (by unfold MOD_X12_lie; omega) (fun σ22 => ?_)
          refine fr_sI (by unfold MOD_X12_lie; omega) (fun σ23 => ?_)
          refine fr_ite ?_ ?_
          · exact fr_some rfl
          · refine fr_ite ?_ ?_
            · exact fr_some rfl
            · exact fr_some rfl
      · exact fr_some rfl
    · exact fr_some rfl
  · exact fr_some rfl

def MOD_X12_isBettered (t : Nat) : Nat → Nat → Prop := fun a k => (t + 9 ≤ a ∧ a < t + 11)
theorem fmX12_isBettered_L32 (t : Nat) (x1 : Int32) (x2 : Int32) (x4 : Int32) (x5 : Int32) (k99 : Bool → St_ → Option (Bool × St_)) (hk99 : ∀ (y0 : Bool) (y1 : St_), Fr (MOD_X12_isBettered t) y1 (fun b => b.2) (k99 y0 y1)) : ∀ (n : Nat) (x3 : Bool) (x6 : Int32) (σ : St_), Fr (MOD_X12_isBettered t) σ (fun b => b.2) (mX12_isBettered_L32 t x1 x2 x4 x5 k99 n x3 x6 σ) := by
  intro n
  induction n with
  | zero => intros; exact fr_none
  | succ n ih =>
    intro x3 x6 σ
    rw [mX12_isBettered_L32]
    refine fr_ite ?_ ?_
    · exact hk99 _ _
    · refine fr_ite ?_ ?_
      · exact hk99 _ _
      · refine fr_jn (fun k4 => ∀ (j2 : Bool) (σ3 : St_), Fr (MOD_X12_isBettered t) σ3 (fun b => b.2) (k4 j2 σ3)) ?_ (fun k4 hk4 => ?_)
        · intro j2 σ3
          exact ih _ _ _
        · refine fr_jn (fun k7 => ∀ (σ6 : St_), Fr (MOD_X12_isBettered t) σ6 (fun b => b.2) (k7 σ6)) ?_ (fun k7 hk7 => ?_)
          · intro σ6
            exact hk4 _ _
          · refine fr_ite ?_ ?_
            · refine fr_bindP (fun r9 => ?_)
              refine fr_ite ?_ ?_
              · exact hk7 _
              · refine fr_gd (fun hg => ?_)
                have hg := bin_lt hg
                refine fr_bv (fun v10 => ?_)
                refine fr_bind (fX12_isLawful _ _ _ _ _ _ _) (fun a k h => by unfold MOD_X12_isLawful at h; unfold MOD_X12_isBettered; omega) (fun r11 => ?_)
                refine fr_ite ?_ ?_
                · exact hk4 _ _
                · exact hk7 _
            · exact hk7 _

theorem fmX12_isBettered_L5 (t : Nat) (x1 : Int32) (x2 : Int32) : ∀ (n : Nat) (x3 : Bool) (x4 : Int32) (σ : St_), Fr (MOD_X12_isBettered t) σ (fun b => b.2) (mX12_isBettered_L5 t x1 x2 n x3 x4 σ) := by
  intro n
  induction n with
  | zero => intros; exact fr_none
  | succ n ih =>
    intro x3 x4 σ
    rw [mX12_isBettered_L5]
    refine fr_ite ?_ ?_
    · exact fr_some rfl
    · refine fr_ite ?_ ?_
      · exact fr_some rfl
      · refine fr_bindP (fun r1 => ?_)
        refine fmX12_isBettered_L32 _ _ _ _ _ _ ?_ _ _ _ _
        · intro y12 σ13
          exact ih _ _ _

theorem fX12_isBettered (t : Nat) (p1 : Int32) (p2 : Int32) (σ : St_) : Fr (MOD_X12_isBettered t) σ (fun b => b.2) (mX12_isBettered t p1 p2 σ) := by
  rw [mX12_isBettered]
  exact fmX12_isBettered_L5 _ _ _ _ _ _ _

def MOD_X12_unbettered (t : Nat) : Nat → Nat → Prop := fun a k => (t + 9 ≤ a ∧ a < t + 11) ∨ a = t + 30 ∨ (a = t ∧ (k = 62 ∨ k = 63))
theorem fmX12_unbettered_L18 (t : Nat) (x1 : Int32) : ∀ (n : Nat) (x2 : Int32) (x3 : Int32) (σ : St_), Fr (MOD_X12_unbettered t) σ (fun b => b.2) (mX12_unbettered_L18 t x1 n x2 x3 σ) := by
  intro n
  induction n with
  | zero => intros; exact fr_none
  | succ n ih =>
    intro x2 x3 σ
    rw [mX12_unbettered_L18]
    refine fr_ite ?_ ?_
    · exact fr_some rfl
    · refine fr_gd (fun hg => ?_)
      have hg := bin_lt hg
      refine fr_bv (fun v3 => ?_)
      refine fr_jn (fun k6 => ∀ (j4 : Int32) (σ5 : St_), Fr (MOD_X12_unbettered t) σ5 (fun b => b.2) (k6 j4 σ5)) ?_ (fun k6 hk6 => ?_)
      · intro j4 σ5
        refine fr_bv (fun v8 => ?_)
        exact ih _ _ _
      · refine fr_jn (fun k10 => ∀ (σ9 : St_), Fr (MOD_X12_unbettered t) σ9 (fun b => b.2) (k10 σ9)) ?_ (fun k10 hk10 => ?_)
        · intro σ9
          exact hk6 _ _
        · refine fr_ite ?_ ?_
          · refine fr_bind (fX12_isBettered _ _ _ _) (fun a k h => by unfold MOD_X12_isBettered at h; unfold MOD_X12_unbettered; omega) (fun r12 => ?_)
            refine fr_ite ?_ ?_
            · exact hk10 _
            · exact hk6 _ _
          · exact hk10 _

theorem fX12_unbettered (t : Nat) (p1 : Int32) (σ : St_) : Fr (MOD_X12_unbettered t) σ (fun b => b.2) (mX12_unbettered t p1 σ) := by
  rw [mX12_unbettered]
  refine fr_bindP (fun r1 => ?_)
  refine fr_ite ?_ ?_
  · refine fr_bind (fX12_load _ _) (fun a k h => by unfold MOD_X12_load at h; unfold MOD_X12_unbettered; omega) (fun σ2 => ?_)
    exact fmX12_unbettered_L18 _ _ _ _ _ _
  · exact fr_some rfl

def MOD_X12_isLoophole (t : Nat) : Nat → Nat → Prop := fun a k => (t + 9 ≤ a ∧ a < t + 11) ∨ a = t + 30 ∨ (a = t ∧ (k = 62 ∨ k = 63))
theorem fX12_isLoophole (t : Nat) (p1 : Int32) (p2 : Int32) (p3 : Int32) (p4 : Int32) (σ : St_) : Fr (MOD_X12_isLoophole t) σ (fun b => b.2) (mX12_isLoophole t p1 p2 p3 p4 σ) := by
  rw [mX12_isLoophole]
  refine fr_bind (fX12_load _ _) (fun a k h => by unfold MOD_X12_load at h; unfold MOD_X12_isLoophole; omega) (fun σ1 => ?_)
  refine fr_gd (fun hg => ?_)
  have hg := bin_lt hg
  refine fr_bv (fun v2 => ?_)
  refine fr_ite ?_ ?_
  · refine fr_gd (fun hg => ?_)
    have hg := bin_lt hg
    refine fr_bv (fun v3 => ?_)
    refine fr_ite ?_ ?_
    · refine fr_bindP (fun r4 => ?_)
      refine fr_bind (fX12_isSwap _ _ _ _) (fun a k h => by unfold MOD_X12_isSwap at h; unfold MOD_X12_isLoophole; omega) (fun r5 => ?_)
      refine fr_ite ?_ ?_
      · refine fr_bindP (fun r6 => ?_)
        refine fr_bind (fX12_doSwap _ _ _ _) (fun a k h => by unfold MOD_X12_doSwap at h; unfold MOD_X12_isLoophole; omega) (fun σ7 => ?_)
        refine fr_bindP (fun r8 => ?_)
        refine fr_bind (fX12_isSwap _ _ _ _) (fun a k h => by unfold MOD_X12_isSwap at h; unfold MOD_X12_isLoophole; omega) (fun r9 => ?_)
        exact fr_some rfl
      · exact fr_some rfl
    · exact fr_some rfl
  · exact fr_some rfl

def MOD_X12_loopholes (t : Nat) : Nat → Nat → Prop := fun a k => (t + 9 ≤ a ∧ a < t + 11) ∨ a = t + 30 ∨ a = t + 32 ∨ (a = t ∧ (k = 62 ∨ k = 63 ∨ k = 71))
theorem fmX12_loopholes_L9 (t : Nat) : ∀ (n : Nat) (x1 : Int32) (x2 : Int32) (σ : St_), Fr (MOD_X12_loopholes t) σ (fun b => b.2) (mX12_loopholes_L9 t n x1 x2 σ) := by
  intro n
  induction n with
  | zero => intros; exact fr_none
  | succ n ih =>
    intro x1 x2 σ
    rw [mX12_loopholes_L9]
    refine fr_ite ?_ ?_
    · exact fr_some rfl
    · refine fr_ite ?_ ?_
      · exact fr_none
      · refine fr_bv (fun v3 => ?_)
        refine fr_ite ?_ ?_
        · exact fr_none
        · refine fr_bv (fun v5 => ?_)
          refine fr_bv (fun v6 => ?_)
          refine fr_ite ?_ ?_
          · exact fr_none
          · refine fr_bv (fun v8 => ?_)
            refine fr_ite ?_ ?_
            · exact fr_none
            · refine fr_bv (fun v10 => ?_)
              refine fr_bv (fun v11 => ?_)
              refine fr_ite ?_ ?_
              · exact fr_none
              · refine fr_bv (fun v13 => ?_)
                refine fr_bv (fun v14 => ?_)
                refine fr_ite ?_ ?_
                · exact fr_none
                · refine fr_bv (fun v16 => ?_)
                  refine fr_bind (fX12_isLoophole _ _ _ _ _ _) (fun a k h => by unfold MOD_X12_isLoophole at h; unfold MOD_X12_loopholes; omega) (fun r17 => ?_)
                  refine fr_jn (fun k20 => ∀ (j18 : Int32) (σ19 : St_), Fr (MOD_X12_loopholes t) σ19 (fun b => b.2) (k20 j18 σ19)) ?_ (fun k20 hk20 => ?_)
                  · intro j18 σ19
                    exact ih _ _ _
                  · refine fr_ite ?_ ?_
                    · refine fr_jn (fun k23 => ∀ (σ22 : St_), Fr (MOD_X12_loopholes t) σ22 (fun b => b.2) (k23 σ22)) ?_ (fun k23 hk23 => ?_)
                      · intro σ22
                        exact hk20 _ _
                      · refine fr_ite ?_ ?_
                        · refine fr_bind (fX12_lay _ _ _) (fun a k h => by unfold MOD_X12_lay at h; unfold MOD_X12_loopholes; omega) (fun σ25 => ?_)
                          refine fr_bind (fX12_lay _ _ _) (fun a k h => by unfold MOD_X12_lay at h; unfold MOD_X12_loopholes; omega) (fun σ26 => ?_)
                          refine fr_bind (fX12_lay _ _ _) (fun a k h => by unfold MOD_X12_lay at h; unfold MOD_X12_loopholes; omega) (fun σ27 => ?_)
                          refine fr_bind (fX12_lay _ _ _) (fun a k h => by unfold MOD_X12_lay at h; unfold MOD_X12_loopholes; omega) (fun σ28 => ?_)
                          exact hk23 _
                        · exact hk23 _
                    · exact hk20 _ _

theorem fX12_loopholes (t : Nat) (σ : St_) : Fr (MOD_X12_loopholes t) σ (fun b => b.2) (mX12_loopholes t σ) := by
  rw [mX12_loopholes]
  refine fr_sI (by unfold MOD_X12_loopholes; omega) (fun σ1 => ?_)
  exact fmX12_loopholes_L9 _ _ _ _ _

def MOD_X12_loadBox (t : Nat) : Nat → Nat → Prop := fun a k => a = t + 30
theorem fmX12_loadBox_L2 (t : Nat) (x1 : Int32) : ∀ (n : Nat) (x2 : Int32) (σ : St_), Fr (MOD_X12_loadBox t) σ (fun b => b) (mX12_loadBox_L2 t x1 n x2 σ) := by
  intro n
  induction n with
  | zero => intros; exact fr_none
  | succ n ih =>
    intro x2 σ
    rw [mX12_loadBox_L2]
    refine fr_ite ?_ ?_
    · exact fr_some rfl
    · refine fr_bv (fun v1 => ?_)
      refine fr_gd (fun hg => ?_)
      have hg := bin_lt hg
      refine fr_bv (fun v2 => ?_)
      refine fr_gd (fun hg => ?_)
      have hg := bin_lt hg
      refine fr_sI (by unfold MOD_X12_loadBox; omega) (fun σ3 => ?_)
      exact ih _ _

theorem fX12_loadBox (t : Nat) (p1 : Int32) (σ : St_) : Fr (MOD_X12_loadBox t) σ (fun b => b) (mX12_loadBox t p1 σ) := by
  rw [mX12_loadBox]
  exact fmX12_loadBox_L2 _ _ _ _ _

def MOD_X12_putWho (t : Nat) : Nat → Nat → Prop := fun a k => a = t + 32 ∨ (a = t ∧ (k = 71))
theorem fX12_putWho (t : Nat) (p1 : Int32) (p2 : Int32) (σ : St_) : Fr (MOD_X12_putWho t) σ (fun b => b) (mX12_putWho t p1 p2 σ) := by
  rw [mX12_putWho]
  refine fr_bind (fX12_lay _ _ _) (fun a k h => by unfold MOD_X12_lay at h; unfold MOD_X12_putWho; omega) (fun σ1 => ?_)
  refine fr_bind (fX12_lay _ _ _) (fun a k h => by unfold MOD_X12_lay at h; unfold MOD_X12_putWho; omega) (fun σ2 => ?_)
  refine fr_bind (fX12_laySwap _ _ _) (fun a k h => by unfold MOD_X12_laySwap at h; unfold MOD_X12_putWho; omega) (fun σ3 => ?_)
  exact fr_some rfl

def MOD_X12_who (t : Nat) : Nat → Nat → Prop := fun a k => (t + 9 ≤ a ∧ a < t + 11) ∨ a = t + 30 ∨ a = t + 32 ∨ (a = t ∧ (k = 62 ∨ k = 63 ∨ k = 71))
theorem fmX12_who_L77 (t : Nat) (x1 : Int32) (x3 : Int32) (x4 : Int32) (k132 : Int32 → St_ → Option (Int32 × St_)) (hk132 : ∀ (y0 : Int32) (y1 : St_), Fr (MOD_X12_who t) y1 (fun b => b.2) (k132 y0 y1)) : ∀ (n : Nat) (x2 : Int32) (x5 : Int32) (σ : St_), Fr (MOD_X12_who t) σ (fun b => b.2) (mX12_who_L77 t x1 x3 x4 k132 n x2 x5 σ) := by
  intro n
  induction n with
  | zero => intros; exact fr_none
  | succ n ih =>
    intro x2 x5 σ
    rw [mX12_who_L77]
    refine fr_ite ?_ ?_
    · exact hk132 _ _
    · refine fr_bind (fX12_doSwap _ _ _ _) (fun a k h => by unfold MOD_X12_doSwap at h; unfold MOD_X12_who; omega) (fun σ12 => ?_)
      refine fr_bindP (fun r13 => ?_)
      refine fr_jn (fun k16 => ∀ (j14 : Int32) (σ15 : St_), Fr (MOD_X12_who t) σ15 (fun b => b.2) (k16 j14 σ15)) ?_ (fun k16 hk16 => ?_)
      · intro j14 σ15
        refine fr_bind (fX12_loadBox _ _ _) (fun a k h => by unfold MOD_X12_loadBox at h; unfold MOD_X12_who; omega) (fun σ18 => ?_)
        refine fr_bind (fX12_nextSwap _ _ _ _) (fun a k h => by unfold MOD_X12_nextSwap at h; unfold MOD_X12_who; omega) (fun r19 => ?_)
        exact ih _ _ _
      · refine fr_ite ?_ ?_
        · refine fr_jn (fun k21 => ∀ (σ20 : St_), Fr (MOD_X12_who t) σ20 (fun b => b.2) (k21 σ20)) ?_ (fun k21 hk21 => ?_)
          · intro σ20
            exact hk16 _ _
          · refine fr_ite ?_ ?_
            · refine fr_bind (fX12_putWho _ _ _ _) (fun a k h => by unfold MOD_X12_putWho at h; unfold MOD_X12_who; omega) (fun σ23 => ?_)
              exact hk21 _
            · exact hk21 _
        · exact hk16 _ _

theorem fmX12_who_L32 (t : Nat) (x1 : Int32) : ∀ (n : Nat) (x2 : Int32) (x3 : Int32) (σ : St_), Fr (MOD_X12_who t) σ (fun b => b.2) (mX12_who_L32 t x1 n x2 x3 σ) := by
  intro n
  induction n with
  | zero => intros; exact fr_none
  | succ n ih =>
    intro x2 x3 σ
    rw [mX12_who_L32]
    refine fr_ite ?_ ?_
    · exact fr_some rfl
    · refine fr_ite ?_ ?_
      · exact fr_none
      · refine fr_bv (fun v6 => ?_)
        refine fr_bv (fun v7 => ?_)
        refine fr_ite ?_ ?_
        · exact fr_none
        · refine fr_sI (by unfold MOD_X12_who; omega) (fun σ9 => ?_)
          refine fr_bind (fX12_loadBox _ _ _) (fun a k h => by unfold MOD_X12_loadBox at h; unfold MOD_X12_who; omega) (fun σ10 => ?_)
          refine fr_bind (fX12_nextSwap _ _ _ _) (fun a k h => by unfold MOD_X12_nextSwap at h; unfold MOD_X12_who; omega) (fun r11 => ?_)
          refine fmX12_who_L77 _ _ _ _ _ ?_ _ _ _ _
          · intro y24 σ25
            exact ih _ _ _

theorem fX12_who (t : Nat) (p1 : Int32) (σ : St_) : Fr (MOD_X12_who t) σ (fun b => b.2) (mX12_who t p1 σ) := by
  rw [mX12_who]
  refine fr_sI (by unfold MOD_X12_who; omega) (fun σ1 => ?_)
  refine fr_bindP (fun r2 => ?_)
  refine fr_ite ?_ ?_
  · refine fr_gd (fun hg => ?_)
    have hg := bin_lt hg
    refine fr_ite ?_ ?_
    · refine fr_bv (fun v3 => ?_)
      refine fr_ite ?_ ?_
      · refine fr_sI (by unfold MOD_X12_who; omega) (fun σ4 => ?_)
        exact fmX12_who_L32 _ _ _ _ _ _
      · exact fr_some rfl
    · exact fr_none
  · exact fr_some rfl

def MOD_X12_report (t : Nat) : Nat → Nat → Prop := fun a k => (t + 37 ≤ a ∧ a < t + 44) ∨ (a = t ∧ (k = 86))
theorem fX12_report (t : Nat) (p1 : Int32) (p2 : Int32) (p3 : Int32) (p4 : Int32) (p5 : Bool) (σ : St_) : Fr (MOD_X12_report t) σ (fun b => b.2) (mX12_report t p1 p2 p3 p4 p5 σ) := by
  rw [mX12_report]
  refine fr_bindP (fun r1 => ?_)
  refine fr_ite ?_ ?_
  · refine fr_bindP (fun r2 => ?_)
    refine fr_ite ?_ ?_
    · refine fr_bindP (fun r3 => ?_)
      refine fr_ite ?_ ?_
      · refine fr_ite ?_ ?_
        · exact fr_some rfl
        · refine fr_bindP (fun r4 => ?_)
          refine fr_ite ?_ ?_
          · refine fr_ite ?_ ?_
            · exact fr_some rfl
            · refine fr_bv (fun v5 => ?_)
              refine fr_gd (fun hg => ?_)
              have hg := bin_lt hg
              refine fr_sI (by unfold MOD_X12_report; omega) (fun σ6 => ?_)
              refine fr_bv (fun v7 => ?_)
              refine fr_gd (fun hg => ?_)
              have hg := bin_lt hg
              refine fr_sI (by unfold MOD_X12_report; omega) (fun σ8 => ?_)
              refine fr_bv (fun v9 => ?_)
              refine fr_gd (fun hg => ?_)
              have hg := bin_lt hg
              refine fr_sI (by unfold MOD_X12_report; omega) (fun σ10 => ?_)
              refine fr_bv (fun v11 => ?_)
              refine fr_gd (fun hg => ?_)
              have hg := bin_lt hg
              refine fr_sI (by unfold MOD_X12_report; omega) (fun σ12 => ?_)
              refine fr_bv (fun v13 => ?_)
              refine fr_gd (fun hg => ?_)
              have hg := bin_lt hg
              refine fr_sI (by unfold MOD_X12_report; omega) (fun σ14 => ?_)
              refine fr_bv (fun v15 => ?_)
              refine fr_gd (fun hg => ?_)
              have hg := bin_lt hg
              refine fr_sI (by unfold MOD_X12_report; omega) (fun σ16 => ?_)
              refine fr_bv (fun v17 => ?_)
              refine fr_gd (fun hg => ?_)
              have hg := bin_lt hg
              refine fr_sI (by unfold MOD_X12_report; omega) (fun σ18 => ?_)
              refine fr_sI (by unfold MOD_X12_report; omega) (fun σ19 => ?_)
              exact fr_some rfl
          · exact fr_some rfl
      · exact fr_some rfl
    · exact fr_some rfl
  · exact fr_some rfl

def MOD_X12_untell (t : Nat) : Nat → Nat → Prop := fun a k => a = t + 42
theorem fX12_untell (t : Nat) (p1 : Int32) (σ : St_) : Fr (MOD_X12_untell t) σ (fun b => b.2) (mX12_untell t p1 σ) := by
  rw [mX12_untell]
  refine fr_bindP (fun r1 => ?_)
  refine fr_ite ?_ ?_
  · refine fr_gd (fun hg => ?_)
    have hg := bin_lt hg
    refine fr_bv (fun v2 => ?_)
    refine fr_ite ?_ ?_
    · refine fr_gd (fun hg => ?_)
      have hg := bin_lt hg
      refine fr_sI (by unfold MOD_X12_untell; omega) (fun σ3 => ?_)
      exact fr_some rfl
    · exact fr_some rfl
  · exact fr_some rfl

def MOD_X12_later (t : Nat) : Nat → Nat → Prop := fun a k => (a = t ∧ (k = 87))
theorem fX12_later (t : Nat) (p1 : Int32) (σ : St_) : Fr (MOD_X12_later t) σ (fun b => b.2) (mX12_later t p1 σ) := by
  rw [mX12_later]
  refine fr_ite ?_ ?_
  · exact fr_some rfl
  · refine fr_ite ?_ ?_
    · exact fr_some rfl
    · refine fr_ite ?_ ?_
      · refine fr_sI (by unfold MOD_X12_later; omega) (fun σ1 => ?_)
        exact fr_some rfl
      · exact fr_some rfl

def MOD_X12_layOther (t : Nat) : Nat → Nat → Prop := fun a k => (a = t ∧ (k = 64 ∨ k = 65 ∨ k = 66))
theorem fX12_layOther (t : Nat) (p1 : Int32) (p2 : Int32) (p3 : Int32) (σ : St_) : Fr (MOD_X12_layOther t) σ (fun b => b) (mX12_layOther t p1 p2 p3 σ) := by
  rw [mX12_layOther]
  refine fr_sI (by unfold MOD_X12_layOther; omega) (fun σ1 => ?_)
  refine fr_sI (by unfold MOD_X12_layOther; omega) (fun σ2 => ?_)
  refine fr_sI (by unfold MOD_X12_layOther; omega) (fun σ3 => ?_)
  exact fr_some rfl

def MOD_X12_laySpan (t : Nat) : Nat → Nat → Prop := fun a k => (t + 9 ≤ a ∧ a < t + 11) ∨ a = t + 44 ∨ (a = t ∧ (k = 64 ∨ k = 65 ∨ k = 66))
theorem fmX12_laySpan_L32 (t : Nat) (x1 : Int32) (x2 : Int32) (x3 : Int32) (x4 : Int32) (x5 : Int32) (k165 : St_ → Option (Int32 × St_)) (hk165 : ∀ (y0 : St_), Fr (MOD_X12_laySpan t) y0 (fun b => b.2) (k165 y0)) : ∀ (n : Nat) (x6 : Int32) (σ : St_), Fr (MOD_X12_laySpan t) σ (fun b => b.2) (mX12_laySpan_L32 t x1 x2 x3 x4 x5 k165 n x6 σ) := by
  intro n
  induction n with
  | zero => intros; exact fr_none
  | succ n ih =>
    intro x6 σ
    rw [mX12_laySpan_L32]
    refine fr_ite ?_ ?_
    · exact hk165 _
    · refine fr_gd (fun hg => ?_)
      have hg := bin_lt hg
      refine fr_ite ?_ ?_
      · refine fr_bv (fun v3 => ?_)
        refine fr_ite ?_ ?_
        · refine fr_gd (fun hg => ?_)
          have hg := bin_lt hg
          refine fr_bv (fun v4 => ?_)
          refine fr_jn (fun k6 => ∀ (j5 : Bool), Fr (MOD_X12_laySpan t) σ (fun b => b.2) (k6 j5)) ?_ (fun k6 hk6 => ?_)
          · intro j5
            refine fr_jn (fun k10 => ∀ (j8 : Bool) (σ9 : St_), Fr (MOD_X12_laySpan t) σ9 (fun b => b.2) (k10 j8 σ9)) ?_ (fun k10 hk10 => ?_)
            · intro j8 σ9
              refine fr_gd (fun hg => ?_)
              have hg := bin_lt hg
              refine fr_sI (by unfold MOD_X12_laySpan; omega) (fun σ12 => ?_)
              exact ih _ _
            · refine fr_jn (fun k14 => ∀ (σ13 : St_), Fr (MOD_X12_laySpan t) σ13 (fun b => b.2) (k14 σ13)) ?_ (fun k14 hk14 => ?_)
              · intro σ13
                exact hk10 _ _
              · refine fr_ite ?_ ?_
                · refine fr_gd (fun hg => ?_)
                  have hg := bin_lt hg
                  refine fr_bv (fun v16 => ?_)
                  refine fr_gd (fun hg => ?_)
                  have hg := bin_lt hg
                  refine fr_bv (fun v17 => ?_)
                  refine fr_gd (fun hg => ?_)
                  have hg := bin_lt hg
                  refine fr_bv (fun v18 => ?_)
                  refine fr_bind (fX12_isLawful _ _ _ _ _ _ _) (fun a k h => by unfold MOD_X12_isLawful at h; unfold MOD_X12_laySpan; omega) (fun r19 => ?_)
                  refine fr_gd (fun hg => ?_)
                  have hg := bin_lt hg
                  refine fr_ite ?_ ?_
                  · refine fr_bv (fun v20 => ?_)
                    refine fr_ite ?_ ?_
                    · exact hk14 _
                    · exact hk10 _ _
                  · exact fr_none
                · exact hk14 _
          · refine fr_jn (fun k21 => Fr (MOD_X12_laySpan t) σ (fun b => b.2) k21) ?_ (fun k21 hk21 => ?_)
            · exact hk6 _
            · refine fr_ite ?_ ?_
              · refine fr_gd (fun hg => ?_)
                have hg := bin_lt hg
                refine fr_bv (fun v23 => ?_)
                refine fr_ite ?_ ?_
                · exact hk21
                · refine fr_gd (fun hg => ?_)
                  have hg := bin_lt hg
                  refine fr_bv (fun v24 => ?_)
                  refine fr_jn (fun k25 => Fr (MOD_X12_laySpan t) σ (fun b => b.2) k25) ?_ (fun k25 hk25 => ?_)
                  · exact hk6 _
                  · refine fr_ite ?_ ?_
                    · exact hk25
                    · refine fr_gd (fun hg => ?_)
                      have hg := bin_lt hg
                      refine fr_bv (fun v27 => ?_)
                      refine fr_ite ?_ ?_
                      · exact hk21
                      · exact hk25
              · exact hk21
        · exact hk165 _
      · exact fr_none

theorem fmX12_laySpan_L6 (t : Nat) (x1 : Int32) (x2 : Int32) (x3 : Int32) (k186 : Int32 → St_ → Option (Int32 × St_)) (hk186 : ∀ (y0 : Int32) (y1 : St_), Fr (MOD_X12_laySpan t) y1 (fun b => b.2) (k186 y0 y1)) : ∀ (n : Nat) (x4 : Int32) (x5 : Int32) (σ : St_), Fr (MOD_X12_laySpan t) σ (fun b => b.2) (mX12_laySpan_L6 t x1 x2 x3 k186 n x4 x5 σ) := by
  intro n
  induction n with
  | zero => intros; exact fr_none
  | succ n ih =>
    intro x4 x5 σ
    rw [mX12_laySpan_L6]
    refine fr_ite ?_ ?_
    · exact hk186 _ _
    · refine fr_bind (fX12_layOther _ _ _ _ _) (fun a k h => by unfold MOD_X12_layOther at h; unfold MOD_X12_laySpan; omega) (fun σ1 => ?_)
      refine fr_gd (fun hg => ?_)
      have hg := bin_lt hg
      refine fr_sI (by unfold MOD_X12_laySpan; omega) (fun σ2 => ?_)
      refine fmX12_laySpan_L32 _ _ _ _ _ _ _ ?_ _ _ _
      · intro σ28
        refine fr_gd (fun hg => ?_)
        have hg := bin_lt hg
        refine fr_ite ?_ ?_
        · refine fr_bv (fun v29 => ?_)
          refine fr_bindP (fun r30 => ?_)
          refine fr_bv (fun v31 => ?_)
          exact ih _ _ _
        · exact fr_none

theorem fX12_laySpan (t : Nat) (p1 : Int32) (p2 : Int32) (p3 : Int32) (σ : St_) : Fr (MOD_X12_laySpan t) σ (fun b => b.2) (mX12_laySpan t p1 p2 p3 σ) := by
  rw [mX12_laySpan]
  refine fmX12_laySpan_L6 _ _ _ _ _ ?_ _ _ _ _
  · intro y32 σ33
    refine fr_bind (fX12_layOther _ _ _ _ _) (fun a k h => by unfold MOD_X12_layOther at h; unfold MOD_X12_laySpan; omega) (fun σ34 => ?_)
    exact fr_some rfl

def MOD_X12_span (t : Nat) : Nat → Nat → Prop := fun a k => (t + 9 ≤ a ∧ a < t + 11) ∨ a = t + 44 ∨ (a = t ∧ (k = 64 ∨ k = 65 ∨ k = 66))
theorem fmX12_span_L47 (t : Nat) (σ : St_) (x3 : Int32) (x5 : Int32) (k91 : Int32 → Int32 → Option (Int32 × St_)) (hk91 : ∀ (y0 : Int32) (y1 : Int32), Fr (MOD_X12_span t) σ (fun b => b.2) (k91 y0 y1)) : ∀ (n : Nat) (x6 : Int32) (x7 : Int32) (x8 : Int32), Fr (MOD_X12_span t) σ (fun b => b.2) (mX12_span_L47 t σ x3 x5 k91 n x6 x7 x8) := by
  intro n
  induction n with
  | zero => intros; exact fr_none
  | succ n ih =>
    intro x6 x7 x8
    rw [mX12_span_L47]
    refine fr_ite ?_ ?_
    · exact hk91 _ _
    · refine fr_gd (fun hg => ?_)
      have hg := bin_lt hg
      refine fr_ite ?_ ?_
      · refine fr_bv (fun v5 => ?_)
        refine fr_jn (fun k8 => ∀ (j6 : Int32) (j7 : Int32), Fr (MOD_X12_span t) σ (fun b => b.2) (k8 j6 j7)) ?_ (fun k8 hk8 => ?_)
        · intro j6 j7
          exact ih _ _ _
        · refine fr_ite ?_ ?_
          · refine fr_jn (fun k11 => ∀ (j10 : Int32), Fr (MOD_X12_span t) σ (fun b => b.2) (k11 j10)) ?_ (fun k11 hk11 => ?_)
            · intro j10
              exact hk8 _ _
            · refine fr_ite ?_ ?_
              · exact hk11 _
              · exact hk11 _
          · exact hk8 _ _
      · exact fr_none

theorem fX12_span (t : Nat) (p1 : Int32) (p2 : Int32) (p3 : Int32) (p4 : Int32) (σ : St_) : Fr (MOD_X12_span t) σ (fun b => b.2) (mX12_span t p1 p2 p3 p4 σ) := by
  rw [mX12_span]
  refine fr_bindP (fun r1 => ?_)
  refine fr_ite ?_ ?_
  · refine fr_bindP (fun r2 => ?_)
    refine fr_ite ?_ ?_
    · refine fr_bindP (fun r3 => ?_)
      refine fr_ite ?_ ?_
      · refine fr_bind (fX12_laySpan _ _ _ _ _) (fun a k h => by unfold MOD_X12_laySpan at h; unfold MOD_X12_span; omega) (fun r4 => ?_)
        refine fmX12_span_L47 _ _ _ _ _ ?_ _ _ _ _
        · intro y13 y14
          refine fr_ite ?_ ?_
          · exact fr_some rfl
          · refine fr_ite ?_ ?_
            · exact fr_some rfl
            · exact fr_some rfl
      · exact fr_some rfl
    · exact fr_some rfl
  · exact fr_some rfl

def MOD_X12_leftBy (t : Nat) : Nat → Nat → Prop := fun a k => (t + 9 ≤ a ∧ a < t + 11) ∨ (a = t ∧ (k = 64 ∨ k = 65 ∨ k = 66))
theorem fmX12_leftBy_L6 (t : Nat) (x1 : Int32) (x2 : Int32) (x3 : Int32) (x4 : Int32) (x5 : Int32) (k62 : Int32 → St_ → Option (Int32 × St_)) (hk62 : ∀ (y0 : Int32) (y1 : St_), Fr (MOD_X12_leftBy t) y1 (fun b => b.2) (k62 y0 y1)) : ∀ (n : Nat) (x6 : Int32) (x7 : Int32) (σ : St_), Fr (MOD_X12_leftBy t) σ (fun b => b.2) (mX12_leftBy_L6 t x1 x2 x3 x4 x5 k62 n x6 x7 σ) := by
  intro n
  induction n with
  | zero => intros; exact fr_none
  | succ n ih =>
    intro x6 x7 σ
    rw [mX12_leftBy_L6]
    refine fr_ite ?_ ?_
    · exact hk62 _ _
    · refine fr_gd (fun hg => ?_)
      have hg := bin_lt hg
      refine fr_ite ?_ ?_
      · refine fr_bv (fun v1 => ?_)
        refine fr_jn (fun k4 => ∀ (j2 : Int32) (σ3 : St_), Fr (MOD_X12_leftBy t) σ3 (fun b => b.2) (k4 j2 σ3)) ?_ (fun k4 hk4 => ?_)
        · intro j2 σ3
          exact ih _ _ _
        · refine fr_ite ?_ ?_
          · refine fr_bind (fX12_layOther _ _ _ _ _) (fun a k h => by unfold MOD_X12_layOther at h; unfold MOD_X12_leftBy; omega) (fun σ6 => ?_)
            refine fr_bind (fX12_isLawful _ _ _ _ _ _ _) (fun a k h => by unfold MOD_X12_isLawful at h; unfold MOD_X12_leftBy; omega) (fun r7 => ?_)
            refine fr_bindP (fun r8 => ?_)
            refine fr_bv (fun v9 => ?_)
            exact hk4 _ _
          · exact hk4 _ _
      · exact fr_none

theorem fX12_leftBy (t : Nat) (p1 : Int32) (p2 : Int32) (p3 : Int32) (p4 : Int32) (p5 : Int32) (σ : St_) : Fr (MOD_X12_leftBy t) σ (fun b => b.2) (mX12_leftBy t p1 p2 p3 p4 p5 σ) := by
  rw [mX12_leftBy]
  refine fmX12_leftBy_L6 _ _ _ _ _ _ _ ?_ _ _ _ _
  · intro y10 σ11
    refine fr_ite ?_ ?_
    · exact fr_some rfl
    · exact fr_some rfl

def MOD_X12_ask (t : Nat) : Nat → Nat → Prop := fun a k => (t + 9 ≤ a ∧ a < t + 11) ∨ a = t + 44 ∨ (a = t ∧ (k = 64 ∨ k = 65 ∨ k = 66))
theorem fmX12_ask_L76 (t : Nat) (x1 : Int32) (x2 : Int32) (x3 : Int32) (x5 : Int32) (x8 : Int32) (k142 : Int32 → Int32 → St_ → Option (Int32 × St_)) (hk142 : ∀ (y0 : Int32) (y1 : Int32) (y2 : St_), Fr (MOD_X12_ask t) y2 (fun b => b.2) (k142 y0 y1 y2)) : ∀ (n : Nat) (x6 : Int32) (x7 : Int32) (x9 : Int32) (σ : St_), Fr (MOD_X12_ask t) σ (fun b => b.2) (mX12_ask_L76 t x1 x2 x3 x5 x8 k142 n x6 x7 x9 σ) := by
  intro n
  induction n with
  | zero => intros; exact fr_none
  | succ n ih =>
    intro x6 x7 x9 σ
    rw [mX12_ask_L76]
    refine fr_ite ?_ ?_
    · exact hk142 _ _ _
    · refine fr_jn (fun k7 => ∀ (j5 : Int32) (σ6 : St_), Fr (MOD_X12_ask t) σ6 (fun b => b.2) (k7 j5 σ6)) ?_ (fun k7 hk7 => ?_)
      · intro j5 σ6
        refine fr_jn (fun k11 => ∀ (j9 : Int32) (j10 : Int32), Fr (MOD_X12_ask t) σ6 (fun b => b.2) (k11 j9 j10)) ?_ (fun k11 hk11 => ?_)
        · intro j9 j10
          exact ih _ _ _ _
        · refine fr_ite ?_ ?_
          · refine fr_bv (fun v13 => ?_)
            exact hk11 _ _
          · exact hk11 _ _
      · refine fr_ite ?_ ?_
        · exact hk7 _ _
        · refine fr_bind (fX12_leftBy _ _ _ _ _ _ _) (fun a k h => by unfold MOD_X12_leftBy at h; unfold MOD_X12_ask; omega) (fun r14 => ?_)
          exact hk7 _ _

theorem fmX12_ask_L64 (t : Nat) (x1 : Int32) (x2 : Int32) (x3 : Int32) (x5 : Int32) (k148 : Int32 → Int32 → St_ → Option (Int32 × St_)) (hk148 : ∀ (y0 : Int32) (y1 : Int32) (y2 : St_), Fr (MOD_X12_ask t) y2 (fun b => b.2) (k148 y0 y1 y2)) : ∀ (n : Nat) (x6 : Int32) (x7 : Int32) (x8 : Int32) (σ : St_), Fr (MOD_X12_ask t) σ (fun b => b.2) (mX12_ask_L64 t x1 x2 x3 x5 k148 n x6 x7 x8 σ) := by
  intro n
  induction n with
  | zero => intros; exact fr_none
  | succ n ih =>
    intro x6 x7 x8 σ
    rw [mX12_ask_L64]
    refine fr_ite ?_ ?_
    · exact hk148 _ _ _
    · refine fmX12_ask_L76 _ _ _ _ _ _ _ ?_ _ _ _ _ _
      · intro y15 y16 σ17
        exact ih _ _ _ _

theorem fX12_ask (t : Nat) (p1 : Int32) (p2 : Int32) (p3 : Int32) (p4 : Int32) (σ : St_) : Fr (MOD_X12_ask t) σ (fun b => b.2) (mX12_ask t p1 p2 p3 p4 σ) := by
  rw [mX12_ask]
  refine fr_bindP (fun r1 => ?_)
  refine fr_ite ?_ ?_
  · refine fr_bindP (fun r2 => ?_)
    refine fr_ite ?_ ?_
    · refine fr_bindP (fun r3 => ?_)
      refine fr_ite ?_ ?_
      · refine fr_bind (fX12_laySpan _ _ _ _ _) (fun a k h => by unfold MOD_X12_laySpan at h; unfold MOD_X12_ask; omega) (fun r4 => ?_)
        refine fr_ite ?_ ?_
        · exact fr_some rfl
        · refine fr_ite ?_ ?_
          · refine fmX12_ask_L64 _ _ _ _ _ _ ?_ _ _ _ _ _
            · intro y18 y19 σ20
              refine fr_bind (fX12_layOther _ _ _ _ _) (fun a k h => by unfold MOD_X12_layOther at h; unfold MOD_X12_ask; omega) (fun σ21 => ?_)
              refine fr_ite ?_ ?_
              · exact fr_some rfl
              · exact fr_some rfl
          · exact fr_some rfl
      · exact fr_some rfl
    · exact fr_some rfl
  · exact fr_some rfl

def MOD_X12_image (t : Nat) : Nat → Nat → Prop := fun a k => (t + 45 ≤ a ∧ a < t + 47)
theorem fmX12_image_L18 (t : Nat) (x1 : Int32) : ∀ (n : Nat) (x2 : Int32) (σ : St_), Fr (MOD_X12_image t) σ (fun b => b.2) (mX12_image_L18 t x1 n x2 σ) := by
  intro n
  induction n with
  | zero => intros; exact fr_none
  | succ n ih =>
    intro x2 σ
    rw [mX12_image_L18]
    refine fr_ite ?_ ?_
    · refine fr_gd (fun hg => ?_)
      have hg := bin_lt hg
      refine fr_bv (fun v3 => ?_)
      exact fr_some rfl
    · refine fr_gd (fun hg => ?_)
      have hg := bin_lt hg
      refine fr_bv (fun v4 => ?_)
      refine fr_bv (fun v5 => ?_)
      refine fr_gd (fun hg => ?_)
      have hg := bin_lt hg
      refine fr_sI (by unfold MOD_X12_image; omega) (fun σ6 => ?_)
      exact ih _ _

theorem fX12_image (t : Nat) (p1 : Int32) (σ : St_) : Fr (MOD_X12_image t) σ (fun b => b.2) (mX12_image t p1 σ) := by
  rw [mX12_image]
  refine fr_bindP (fun r1 => ?_)
  refine fr_ite ?_ ?_
  · refine fr_gd (fun hg => ?_)
    have hg := bin_lt hg
    refine fr_sI (by unfold MOD_X12_image; omega) (fun σ2 => ?_)
    exact fmX12_image_L18 _ _ _ _ _
  · exact fr_some rfl

def MOD_X12_back (t : Nat) : Nat → Nat → Prop := fun a k => a = t + 29 ∨ (a = t ∧ (k = 68 ∨ k = 69))
theorem fmX12_back_L20 (t : Nat) (x1 : Int32) (k49 : St_ → Option (Int32 × St_)) (hk49 : ∀ (y0 : St_), Fr (MOD_X12_back t) y0 (fun b => b.2) (k49 y0)) : ∀ (n : Nat) (x2 : Int32) (σ : St_), Fr (MOD_X12_back t) σ (fun b => b.2) (mX12_back_L20 t x1 k49 n x2 σ) := by
  intro n
  induction n with
  | zero => intros; exact fr_none
  | succ n ih =>
    intro x2 σ
    rw [mX12_back_L20]
    refine fr_ite ?_ ?_
    · exact hk49 _
    · refine fr_bv (fun v3 => ?_)
      refine fr_gd (fun hg => ?_)
      have hg := bin_lt hg
      refine fr_bv (fun v4 => ?_)
      refine fr_gd (fun hg => ?_)
      have hg := bin_lt hg
      refine fr_sI (by unfold MOD_X12_back; omega) (fun σ5 => ?_)
      exact ih _ _

theorem fX12_back (t : Nat) (p1 : Int32) (σ : St_) : Fr (MOD_X12_back t) σ (fun b => b.2) (mX12_back t p1 σ) := by
  rw [mX12_back]
  refine fr_bindP (fun r1 => ?_)
  refine fr_ite ?_ ?_
  · refine fr_gd (fun hg => ?_)
    have hg := bin_lt hg
    refine fr_ite ?_ ?_
    · refine fr_bv (fun v2 => ?_)
      refine fr_ite ?_ ?_
      · refine fmX12_back_L20 _ _ _ ?_ _ _ _
        · intro σ6
          refine fr_sI (by unfold MOD_X12_back; omega) (fun σ7 => ?_)
          refine fr_sI (by unfold MOD_X12_back; omega) (fun σ8 => ?_)
          refine fr_gd (fun hg => ?_)
          have hg := bin_lt hg
          refine fr_bv (fun v9 => ?_)
          exact fr_some rfl
      · exact fr_some rfl
    · exact fr_none
  · exact fr_some rfl

