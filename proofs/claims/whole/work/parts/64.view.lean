/-! a CITY as both sides have it -/
section VIEW
variable {σ σ' : St_} {c : Nat}
def Vw : Type := Nat × Nat × Nat × Nat × (Nat → Int32) × (Nat → Int32) × (Nat → Int32) × (Nat → Int32) × (Nat → Int32) × (Nat → Int32) × (Nat → Int32) × (Nat → Nat → Int32) × (Nat → Nat → Int32) × Option (List (Nat × Int32))
def Vw.N (v : Vw) : Nat := v.1
def Vw.H (v : Vw) : Nat := v.2.1
def Vw.T (v : Vw) : Nat := v.2.2.1
def Vw.R (v : Vw) : Nat := v.2.2.2.1
def Vw.kd (v : Vw) : Nat → Int32 := v.2.2.2.2.1
def Vw.wt (v : Vw) : Nat → Int32 := v.2.2.2.2.2.1
def Vw.pr (v : Vw) : Nat → Int32 := v.2.2.2.2.2.2.1
def Vw.lk (v : Vw) : Nat → Int32 := v.2.2.2.2.2.2.2.1
def Vw.wa (v : Vw) : Nat → Int32 := v.2.2.2.2.2.2.2.2.1
def Vw.sk (v : Vw) : Nat → Int32 := v.2.2.2.2.2.2.2.2.2.1
def Vw.sl (v : Vw) : Nat → Int32 := v.2.2.2.2.2.2.2.2.2.2.1
def Vw.va (v : Vw) : Nat → Nat → Int32 := v.2.2.2.2.2.2.2.2.2.2.2.1
def Vw.sa (v : Vw) : Nat → Nat → Int32 := v.2.2.2.2.2.2.2.2.2.2.2.2.1
def Vw.lw (v : Vw) : Option (List (Nat × Int32)) := v.2.2.2.2.2.2.2.2.2.2.2.2.2
def Vw.OK (v : Vw) : Prop := (v.N ≤ 10) ∧ (v.H ≤ 5) ∧ (v.T ≤ 4) ∧ (1 ≤ v.R) ∧ (v.R ≤ 9) ∧ (∀ x, x < v.N → ∃ n, n < 6 ∧ v.kd x = nI n) ∧ (∀ x, x < v.N → ∃ n, n ≤ 99 ∧ v.wt x = nI n) ∧ (∀ x, x < v.T → ∃ n, n ≤ 999 ∧ v.sk x = nI n) ∧ (∀ h, h < 9 → ∀ x, x < v.N → ∃ n, n ≤ 99 ∧ v.va h x = nI n) ∧ (∀ l, v.lw = some l → l ≠ [] ∧ l.length ≤ 300 ∧ lwf l 0 = true)
theorem Vw.OK.N {v : Vw} (h : Vw.OK v) : v.N ≤ 10 := h.1
theorem Vw.OK.H {v : Vw} (h : Vw.OK v) : v.H ≤ 5 := h.2.1
theorem Vw.OK.T {v : Vw} (h : Vw.OK v) : v.T ≤ 4 := h.2.2.1
theorem Vw.OK.R0 {v : Vw} (h : Vw.OK v) : 1 ≤ v.R := h.2.2.2.1
theorem Vw.OK.R {v : Vw} (h : Vw.OK v) : v.R ≤ 9 := h.2.2.2.2.1
theorem Vw.OK.kd {v : Vw} (h : Vw.OK v) : ∀ x, x < v.N → ∃ n, n < 6 ∧ v.kd x = nI n := h.2.2.2.2.2.1
theorem Vw.OK.wt {v : Vw} (h : Vw.OK v) : ∀ x, x < v.N → ∃ n, n ≤ 99 ∧ v.wt x = nI n := h.2.2.2.2.2.2.1
theorem Vw.OK.sk {v : Vw} (h : Vw.OK v) : ∀ x, x < v.T → ∃ n, n ≤ 999 ∧ v.sk x = nI n := h.2.2.2.2.2.2.2.1
theorem Vw.OK.va {v : Vw} (h : Vw.OK v) : ∀ h, h < 9 → ∀ x, x < v.N → ∃ n, n ≤ 99 ∧ v.va h x = nI n := h.2.2.2.2.2.2.2.2.1
theorem Vw.OK.lw {v : Vw} (h : Vw.OK v) : ∀ l, v.lw = some l → l ≠ [] ∧ l.length ≤ 300 ∧ lwf l 0 = true := h.2.2.2.2.2.2.2.2.2
def CV (c : Nat) (v : Vw) (σ : St_) : Prop := (σ.1 c 0 = nI v.R) ∧ (σ.1 c 2 = nI v.N) ∧ (σ.1 c 3 = nI v.H) ∧ (σ.1 c 4 = nI v.T) ∧ (∀ x, x < v.N → σ.1 (c + 1) x = v.kd x) ∧ (∀ x, x < v.N → σ.1 (c + 2) x = v.wt x) ∧ (∀ x, x < v.N → σ.1 (c + 3) x = v.pr x) ∧ (∀ x, x < v.H → σ.1 (c + 4) x = v.lk x) ∧ (∀ x, x < v.H → σ.1 (c + 5) x = v.wa x) ∧ (∀ x, x < v.T → σ.1 (c + 6) x = v.sk x) ∧ (∀ x, x < v.T → σ.1 (c + 7) x = v.sl x) ∧ (∀ h, h < 9 → ∀ x, x < v.N → σ.1 (c + 8) (10 * h + x) = v.va h x) ∧ (∀ h, h < v.H → ∀ x, x < v.N → σ.1 (c + 9) (10 * h + x) = v.sa h x) ∧ (v.lw = none → σ.1 (c + 11) 4 = 0) ∧ (∀ l, v.lw = some l → σ.1 (c + 11) 4 = nI l.length ∧ ∀ i q, l[i]? = some q → σ.1 (c + 12) i = lstepC q ∧ (q.1 ≤ 1 → σ.1 (c + 13) i = q.2))
theorem CV.R {c : Nat} {v : Vw} {σ : St_} (h : CV c v σ) : σ.1 c 0 = nI v.R := h.1
theorem CV.N {c : Nat} {v : Vw} {σ : St_} (h : CV c v σ) : σ.1 c 2 = nI v.N := h.2.1
theorem CV.H {c : Nat} {v : Vw} {σ : St_} (h : CV c v σ) : σ.1 c 3 = nI v.H := h.2.2.1
theorem CV.T {c : Nat} {v : Vw} {σ : St_} (h : CV c v σ) : σ.1 c 4 = nI v.T := h.2.2.2.1
theorem CV.kd {c : Nat} {v : Vw} {σ : St_} (h : CV c v σ) : ∀ x, x < v.N → σ.1 (c + 1) x = v.kd x := h.2.2.2.2.1
theorem CV.wt {c : Nat} {v : Vw} {σ : St_} (h : CV c v σ) : ∀ x, x < v.N → σ.1 (c + 2) x = v.wt x := h.2.2.2.2.2.1
theorem CV.pr {c : Nat} {v : Vw} {σ : St_} (h : CV c v σ) : ∀ x, x < v.N → σ.1 (c + 3) x = v.pr x := h.2.2.2.2.2.2.1
theorem CV.lk {c : Nat} {v : Vw} {σ : St_} (h : CV c v σ) : ∀ x, x < v.H → σ.1 (c + 4) x = v.lk x := h.2.2.2.2.2.2.2.1
theorem CV.wa {c : Nat} {v : Vw} {σ : St_} (h : CV c v σ) : ∀ x, x < v.H → σ.1 (c + 5) x = v.wa x := h.2.2.2.2.2.2.2.2.1
theorem CV.sk {c : Nat} {v : Vw} {σ : St_} (h : CV c v σ) : ∀ x, x < v.T → σ.1 (c + 6) x = v.sk x := h.2.2.2.2.2.2.2.2.2.1
theorem CV.sl {c : Nat} {v : Vw} {σ : St_} (h : CV c v σ) : ∀ x, x < v.T → σ.1 (c + 7) x = v.sl x := h.2.2.2.2.2.2.2.2.2.2.1
theorem CV.va {c : Nat} {v : Vw} {σ : St_} (h : CV c v σ) : ∀ h, h < 9 → ∀ x, x < v.N → σ.1 (c + 8) (10 * h + x) = v.va h x := h.2.2.2.2.2.2.2.2.2.2.2.1
theorem CV.sa {c : Nat} {v : Vw} {σ : St_} (h : CV c v σ) : ∀ h, h < v.H → ∀ x, x < v.N → σ.1 (c + 9) (10 * h + x) = v.sa h x := h.2.2.2.2.2.2.2.2.2.2.2.2.1
theorem CV.lw0 {c : Nat} {v : Vw} {σ : St_} (h : CV c v σ) : v.lw = none → σ.1 (c + 11) 4 = 0 := h.2.2.2.2.2.2.2.2.2.2.2.2.2.1
theorem CV.lw1 {c : Nat} {v : Vw} {σ : St_} (h : CV c v σ) : ∀ l, v.lw = some l → σ.1 (c + 11) 4 = nI l.length ∧ ∀ i q, l[i]? = some q → σ.1 (c + 12) i = lstepC q ∧ (q.1 ≤ 1 → σ.1 (c + 13) i = q.2) := h.2.2.2.2.2.2.2.2.2.2.2.2.2.2
def RV (v : Vw) (σ : St_) : Prop := (σ.1 233 55 = nI v.R) ∧ (σ.1 233 52 = nI v.N) ∧ (σ.1 233 53 = nI v.H) ∧ (σ.1 233 54 = nI v.T) ∧ (∀ x, x < v.N → σ.1 253 x = v.kd x) ∧ (∀ x, x < v.N → σ.1 254 x = v.wt x) ∧ (∀ x, x < v.N → σ.1 255 x = v.pr x) ∧ (∀ x, x < v.H → σ.1 257 x = v.lk x) ∧ (∀ x, x < v.H → σ.1 258 x = v.wa x) ∧ (∀ x, x < v.T → σ.1 259 x = v.sk x) ∧ (∀ x, x < v.T → σ.1 260 x = v.sl x) ∧ (∀ h, h < 9 → ∀ x, x < v.N → (if σ.1 261 (9 * x + h) = -1 then σ.1 255 x else σ.1 261 (9 * x + h)) = v.va h x) ∧ (∀ h, h < v.H → ∀ x, x < v.N → (if nI x = σ.1 233 64 ∧ nI h = σ.1 233 65 then σ.1 233 66 else v.va h x) = v.sa h x) ∧ (v.lw = none → σ.1 233 59 = 0) ∧ (∀ l, v.lw = some l → σ.1 233 59 = 1 ∧ σ.1 233 20 = nI l.length ∧ ∀ i q, l[i]? = some q → σ.1 239 i = nI q.1 ∧ (q.1 ≠ 2 → σ.1 240 i = q.2))
theorem RV.R {v : Vw} {σ : St_} (h : RV v σ) : σ.1 233 55 = nI v.R := h.1
theorem RV.N {v : Vw} {σ : St_} (h : RV v σ) : σ.1 233 52 = nI v.N := h.2.1
theorem RV.H {v : Vw} {σ : St_} (h : RV v σ) : σ.1 233 53 = nI v.H := h.2.2.1
theorem RV.T {v : Vw} {σ : St_} (h : RV v σ) : σ.1 233 54 = nI v.T := h.2.2.2.1
theorem RV.kd {v : Vw} {σ : St_} (h : RV v σ) : ∀ x, x < v.N → σ.1 253 x = v.kd x := h.2.2.2.2.1
theorem RV.wt {v : Vw} {σ : St_} (h : RV v σ) : ∀ x, x < v.N → σ.1 254 x = v.wt x := h.2.2.2.2.2.1
theorem RV.pr {v : Vw} {σ : St_} (h : RV v σ) : ∀ x, x < v.N → σ.1 255 x = v.pr x := h.2.2.2.2.2.2.1
theorem RV.lk {v : Vw} {σ : St_} (h : RV v σ) : ∀ x, x < v.H → σ.1 257 x = v.lk x := h.2.2.2.2.2.2.2.1
theorem RV.wa {v : Vw} {σ : St_} (h : RV v σ) : ∀ x, x < v.H → σ.1 258 x = v.wa x := h.2.2.2.2.2.2.2.2.1
theorem RV.sk {v : Vw} {σ : St_} (h : RV v σ) : ∀ x, x < v.T → σ.1 259 x = v.sk x := h.2.2.2.2.2.2.2.2.2.1
theorem RV.sl {v : Vw} {σ : St_} (h : RV v σ) : ∀ x, x < v.T → σ.1 260 x = v.sl x := h.2.2.2.2.2.2.2.2.2.2.1
theorem RV.va {v : Vw} {σ : St_} (h : RV v σ) : ∀ h, h < 9 → ∀ x, x < v.N → (if σ.1 261 (9 * x + h) = -1 then σ.1 255 x else σ.1 261 (9 * x + h)) = v.va h x := h.2.2.2.2.2.2.2.2.2.2.2.1
theorem RV.sa {v : Vw} {σ : St_} (h : RV v σ) : ∀ h, h < v.H → ∀ x, x < v.N → (if nI x = σ.1 233 64 ∧ nI h = σ.1 233 65 then σ.1 233 66 else v.va h x) = v.sa h x := h.2.2.2.2.2.2.2.2.2.2.2.2.1
theorem RV.lw0 {v : Vw} {σ : St_} (h : RV v σ) : v.lw = none → σ.1 233 59 = 0 := h.2.2.2.2.2.2.2.2.2.2.2.2.2.1
theorem RV.lw1 {v : Vw} {σ : St_} (h : RV v σ) : ∀ l, v.lw = some l → σ.1 233 59 = 1 ∧ σ.1 233 20 = nI l.length ∧ ∀ i q, l[i]? = some q → σ.1 239 i = nI q.1 ∧ (q.1 ≠ 2 → σ.1 240 i = q.2) := h.2.2.2.2.2.2.2.2.2.2.2.2.2.2
def FPc (c a k : Nat) : Prop := (a = c ∧ k ≤ 4) ∨ (c + 1 ≤ a ∧ a ≤ c + 9) ∨ (a = c + 11 ∧ k = 4) ∨ a = c + 12 ∨ a = c + 13
theorem CV.fr {v : Vw} (h : CV c v σ) (e : ∀ a k, FPc c a k → σ'.1 a k = σ.1 a k) : CV c v σ' := by
  refine ⟨?_, ?_, ?_, ?_, fun x hx => ?_, fun x hx => ?_, fun x hx => ?_, fun x hx => ?_, fun x hx => ?_, fun x hx => ?_, fun x hx => ?_, fun y hy x hx => ?_, fun y hy x hx => ?_, fun hl => ?_, fun l hl => ⟨?_, fun i q hq => ?_⟩⟩
  · rw [e _ _ (by unfold FPc; omega)]; exact h.R
  · rw [e _ _ (by unfold FPc; omega)]; exact h.N
  · rw [e _ _ (by unfold FPc; omega)]; exact h.H
  · rw [e _ _ (by unfold FPc; omega)]; exact h.T
  · rw [e _ _ (by unfold FPc; omega)]; exact h.kd x hx
  · rw [e _ _ (by unfold FPc; omega)]; exact h.wt x hx
  · rw [e _ _ (by unfold FPc; omega)]; exact h.pr x hx
  · rw [e _ _ (by unfold FPc; omega)]; exact h.lk x hx
  · rw [e _ _ (by unfold FPc; omega)]; exact h.wa x hx
  · rw [e _ _ (by unfold FPc; omega)]; exact h.sk x hx
  · rw [e _ _ (by unfold FPc; omega)]; exact h.sl x hx
  · rw [e _ _ (by unfold FPc; omega)]; exact h.va y hy x hx
  · rw [e _ _ (by unfold FPc; omega)]; exact h.sa y hy x hx
  · rw [e _ _ (by unfold FPc; omega)]; exact h.lw0 hl
  · rw [e _ _ (by unfold FPc; omega)]; exact (h.lw1 l hl).1
  · rw [e (c + 12) _ (by unfold FPc; omega), e (c + 13) _ (by unfold FPc; omega)]; exact (h.lw1 l hl).2 i q hq
def FPr (a k : Nat) : Prop := (a = 233 ∧ ((51 ≤ k ∧ k ≤ 55) ∨ k = 59 ∨ k = 20 ∨ (64 ≤ k ∧ k ≤ 66))) ∨ (253 ≤ a ∧ a ≤ 261) ∨ a = 239 ∨ a = 240
theorem RV.fr {v : Vw} (h : RV v σ) (e : ∀ a k, FPr a k → σ'.1 a k = σ.1 a k) : RV v σ' := by
  refine ⟨?_, ?_, ?_, ?_, fun x hx => ?_, fun x hx => ?_, fun x hx => ?_, fun x hx => ?_, fun x hx => ?_, fun x hx => ?_, fun x hx => ?_, fun y hy x hx => ?_, fun y hy x hx => ?_, fun hl => ?_, fun l hl => ⟨?_, ?_, fun i q hq => ?_⟩⟩
  · rw [e _ _ (by unfold FPr; omega)]; exact h.R
  · rw [e _ _ (by unfold FPr; omega)]; exact h.N
  · rw [e _ _ (by unfold FPr; omega)]; exact h.H
  · rw [e _ _ (by unfold FPr; omega)]; exact h.T
  · rw [e _ _ (by unfold FPr; omega)]; exact h.kd x hx
  · rw [e _ _ (by unfold FPr; omega)]; exact h.wt x hx
  · rw [e _ _ (by unfold FPr; omega)]; exact h.pr x hx
  · rw [e _ _ (by unfold FPr; omega)]; exact h.lk x hx
  · rw [e _ _ (by unfold FPr; omega)]; exact h.wa x hx
  · rw [e _ _ (by unfold FPr; omega)]; exact h.sk x hx
  · rw [e _ _ (by unfold FPr; omega)]; exact h.sl x hx
  · rw [e 261 _ (by unfold FPr; omega), e 255 _ (by unfold FPr; omega)]; exact h.va y hy x hx
  · rw [e 233 64 (by unfold FPr; omega), e 233 65 (by unfold FPr; omega), e 233 66 (by unfold FPr; omega)]; exact h.sa y hy x hx
  · rw [e _ _ (by unfold FPr; omega)]; exact h.lw0 hl
  · rw [e _ _ (by unfold FPr; omega)]; exact (h.lw1 l hl).1
  · rw [e _ _ (by unfold FPr; omega)]; exact (h.lw1 l hl).2.1
  · rw [e 239 _ (by unfold FPr; omega), e 240 _ (by unfold FPr; omega)]; exact (h.lw1 l hl).2.2 i q hq
theorem view_of (ho : Iother σ) (hn : Inums c σ) (ha : Iarr c σ) (hh : Ihou c σ) (ht : Ithi c σ) (hv : Ival c σ) (hs : Isaid c σ) (hl : Ilaw c σ) : ∃ v : Vw, v.OK ∧ CV c v σ ∧ RV v σ ∧ v.N = nN σ ∧ v.H = nH σ ∧ v.T = nT σ ∧ v.R = nR σ ∧ v.sa = v.va := by
  obtain ⟨⟨k1, k2, k3⟩, ⟨n1, n2, n3⟩, ⟨h1, h2, h3⟩, ⟨t1, t2, t3⟩, ⟨r1, r2, r3, r4⟩⟩ := hn
  have main : ∀ o : Option (List (Nat × Int32)), (∀ l, o = some l → l ≠ [] ∧ l.length ≤ 300 ∧ lwf l 0 = true) → (o = none → σ.1 (c + 11) 4 = 0 ∧ σ.1 233 59 = 0) → (∀ l, o = some l → (σ.1 (c + 11) 4 = nI l.length ∧ ∀ i q, l[i]? = some q → σ.1 (c + 12) i = lstepC q ∧ (q.1 ≤ 1 → σ.1 (c + 13) i = q.2)) ∧ (σ.1 233 59 = 1 ∧ σ.1 233 20 = nI l.length ∧ ∀ i q, l[i]? = some q → σ.1 239 i = nI q.1 ∧ (q.1 ≠ 2 → σ.1 240 i = q.2))) → ∃ v : Vw, v.OK ∧ CV c v σ ∧ RV v σ ∧ v.N = nN σ ∧ v.H = nH σ ∧ v.T = nT σ ∧ v.R = nR σ ∧ v.sa = v.va := by
    intro o o1 o2 o3
    have hval : ∀ h, h < 9 → ∀ x, x < nN σ → ∃ n, n ≤ 99 ∧ σ.1 (c + 8) (10 * h + x) = nI n ∧ (if σ.1 261 (9 * x + h) = -1 then σ.1 255 x else σ.1 261 (9 * x + h)) = nI n := by
      intro h hh x hx
      obtain ⟨w, w1, w2, w3⟩ := hv x hx h hh
      exact ⟨w, w1, by rw [Nat.mul_comm 10 h]; exact w2, w3⟩
    refine ⟨⟨nN σ, nH σ, nT σ, nR σ, fun x => σ.1 253 x, fun x => σ.1 254 x, fun x => σ.1 255 x, fun x => σ.1 257 x, fun x => σ.1 258 x, fun x => σ.1 259 x, fun x => σ.1 260 x, fun h x => if σ.1 261 (9 * x + h) = -1 then σ.1 255 x else σ.1 261 (9 * x + h), fun h x => if σ.1 261 (9 * x + h) = -1 then σ.1 255 x else σ.1 261 (9 * x + h), o⟩, ?_, ?_, ?_, rfl, rfl, rfl, rfl, rfl⟩
    · refine ⟨n1, h1, t1, r1, r2, fun x hx => ?_, fun x hx => ?_, fun x hx => ?_, fun h hh x hx => ?_, o1⟩
      · obtain ⟨w, w1, w2, w3⟩ := (ha x hx).1
        exact ⟨w, w1, w3⟩
      · obtain ⟨w, w1, w2, w3⟩ := (ha x hx).2.1
        exact ⟨w, w1, w3⟩
      · obtain ⟨w, w1, w2, w3⟩ := (ht x hx).1
        exact ⟨w, w1, w3⟩
      · obtain ⟨w, w1, w2, w3⟩ := hval h hh x hx
        exact ⟨w, w1, w3⟩
    · refine ⟨r4, n3, h3, t3, fun x hx => ?_, fun x hx => ?_, fun x hx => ?_, fun x hx => ?_, fun x hx => ?_, fun x hx => ?_, fun x hx => ?_, fun h hh x hx => ?_, fun h hh x hx => ?_, fun q => (o2 q).1, fun l hl => (o3 l hl).1⟩
      · obtain ⟨w, w1, w2, w3⟩ := (ha x hx).1
        exact w2.trans w3.symm
      · obtain ⟨w, w1, w2, w3⟩ := (ha x hx).2.1
        exact w2.trans w3.symm
      · obtain ⟨w, w1, w2, w3⟩ := (ha x hx).2.2
        exact w2.trans w3.symm
      · obtain ⟨w, w1, w2, w3⟩ := (hh x hx).1
        exact w2.trans w3.symm
      · obtain ⟨w, w1, w2, w3⟩ := (hh x hx).2
        exact w2.trans w3.symm
      · obtain ⟨w, w1, w2, w3⟩ := (ht x hx).1
        exact w2.trans w3.symm
      · obtain ⟨w, w1, w2, w3⟩ := (ht x hx).2
        exact w2.trans w3.symm
      · obtain ⟨w, w1, w2, w3⟩ := hval h hh x hx
        exact w2.trans w3.symm
      · have hh' : h < nH σ := hh
        have hx' : x < nN σ := hx
        obtain ⟨w, w1, w2, w3⟩ := hval h (by omega) x hx
        rw [hs (10 * h + x) (by omega)]
        exact w2.trans w3.symm
    · refine ⟨r3, n2, h2, t2, fun x hx => rfl, fun x hx => rfl, fun x hx => rfl, fun x hx => rfl, fun x hx => rfl, fun x hx => rfl, fun x hx => rfl, fun h hh x hx => rfl, fun h hh x hx => ?_, fun q => (o2 q).2, fun l hl => (o3 l hl).2⟩
      have hx' : x < nN σ := hx
      have : ¬ nI x = -1 := by
        intro e
        have := congrArg Int32.toInt e
        rw [nI_toInt (by omega)] at this
        have z : (-1 : Int32).toInt = -1 := rfl
        rw [z] at this
        omega
      rw [ho.1]
      simp [this]
      rfl
  obtain ⟨-, hl⟩ := hl
  rcases hl with ⟨l1, l2⟩ | ⟨l1, lw, l2, l3, l4, l5, l6, l7⟩
  · exact main none (by simp) (fun _ => ⟨l2, l1⟩) (by simp)
  · refine main (some lw) ?_ (by simp) ?_
    · intro l hl
      cases hl
      exact ⟨l2, l3, l6⟩
    · intro l hl
      cases hl
      exact ⟨⟨l4, fun i q hq => ⟨(l7 i q hq).1, (l7 i q hq).2.1⟩⟩, l1, l5, fun i q hq => ⟨(l7 i q hq).2.2.1, (l7 i q hq).2.2.2⟩⟩
end VIEW
