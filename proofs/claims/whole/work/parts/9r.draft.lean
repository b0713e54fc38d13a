/-! what holds between the class' draft and the reference's draft, while lines are read -/
section DRAFT
variable {σ σ' ρ ρ' : St_} {d N Hn nh nt : Nat}
/-- names told so far, in a row of the class and from a place on in the reference's row -/
def Dnm (a f an : Nat) (NL : List (List Nat)) (σ ρ : St_) : Prop := NmO NL ∧ NmC a NL σ ∧ NmR f NL ρ ∧ NL.length ≤ an
theorem Dnm.fr {a f an : Nat} {NL : List (List Nat)} (h : Dnm a f an NL σ ρ) (ec : ∀ j, σ'.2 a j = σ.2 a j) (er : ∀ j, f ≤ j → j < f + an → ρ'.2 235 j = ρ.2 235 j) : Dnm a f an NL σ' ρ' := by
  obtain ⟨h1, h2, h3, h4⟩ := h
  refine ⟨h1, fun k l hk => by rw [ec]; exact h2 k l hk, fun k l hk => ?_, h4⟩
  have kl := (List.getElem?_eq_some_iff.mp hk).1
  rw [er _ (by omega) (by omega)]
  exact h3 k l hk
def Dnum (d : Nat) (k x h nh nt : Nat) (σ ρ : St_) : Prop := (σ.1 d 1 = nI k ∧ ρ.1 233 45 = nI k) ∧ (σ.1 d 2 = nI x ∧ ρ.1 233 46 = nI x) ∧ (σ.1 1 6 = nI h ∧ ρ.1 233 12 = nI h) ∧ (σ.1 d 3 = nI nh ∧ ρ.1 233 47 = nI nh) ∧ (σ.1 d 4 = nI nt ∧ ρ.1 233 48 = nI nt) ∧ nh ≤ 5 ∧ nt ≤ 4 ∧ h = nh + nt
def FCnum (d e j : Nat) : Prop := (e = d ∧ 1 ≤ j ∧ j ≤ 4) ∨ (e = 1 ∧ j = 6)
def FRnum (e j : Nat) : Prop := e = 233 ∧ (j = 45 ∨ j = 46 ∨ j = 12 ∨ j = 47 ∨ j = 48)
theorem Dnum.fr {k x h : Nat} (H : Dnum d k x h nh nt σ ρ) (ec : ∀ e j, FCnum d e j → σ'.1 e j = σ.1 e j) (er : ∀ e j, FRnum e j → ρ'.1 e j = ρ.1 e j) : Dnum d k x h nh nt σ' ρ' := by
  unfold Dnum
  rw [ec d 1 (by unfold FCnum; omega), ec d 2 (by unfold FCnum; omega), ec d 3 (by unfold FCnum; omega), ec d 4 (by unfold FCnum; omega), ec 1 6 (by unfold FCnum; omega), er 233 45 (by unfold FRnum; omega), er 233 46 (by unfold FRnum; omega), er 233 12 (by unfold FRnum; omega), er 233 47 (by unfold FRnum; omega), er 233 48 (by unfold FRnum; omega)]
  exact H
def Dpl (Hn : Nat) (σ ρ : St_) : Prop := ∀ k, k < Hn → ∃ p, p < 9 ∧ σ.1 11 k = nI p ∧ ρ.1 236 k = nI p
theorem Dpl.fr (h : Dpl Hn σ ρ) (ec : ∀ j, j < Hn → σ'.1 11 j = σ.1 11 j) (er : ∀ j, j < Hn → ρ'.1 236 j = ρ.1 236 j) : Dpl Hn σ' ρ' := fun k hk => by rw [ec k hk, er k hk]; exact h k hk
def Dhr (d : Nat) (σ ρ : St_) : Prop := ∃ R, 1 ≤ R ∧ R ≤ 9 ∧ σ.1 d 0 = nI R ∧ ρ.1 233 50 = nI R
theorem Dhr.fr (h : Dhr d σ ρ) (ec : σ'.1 d 0 = σ.1 d 0) (er : ρ'.1 233 50 = ρ.1 233 50) : Dhr d σ' ρ' := by
  unfold Dhr
  rw [ec, er]
  exact h
def Darr (d N : Nat) (σ ρ : St_) : Prop := ∀ x, x < N → (∃ v, v < 6 ∧ σ.1 (d + 1) x = nI v ∧ ρ.1 244 x = nI v) ∧ (∃ v, v ≤ 99 ∧ σ.1 (d + 2) x = nI v ∧ ρ.1 245 x = nI v) ∧ (∃ v, v ≤ 99 ∧ σ.1 (d + 3) x = nI v ∧ ρ.1 246 x = nI v)
theorem Darr.fr (h : Darr d N σ ρ) (ec : ∀ e j, d + 1 ≤ e → e ≤ d + 3 → j < N → σ'.1 e j = σ.1 e j) (er : ∀ e j, 244 ≤ e → e ≤ 246 → j < N → ρ'.1 e j = ρ.1 e j) : Darr d N σ' ρ' := by
  intro x hx
  rw [ec (d + 1) x (by omega) (by omega) hx, ec (d + 2) x (by omega) (by omega) hx, ec (d + 3) x (by omega) (by omega) hx, er 244 x (by omega) (by omega) hx, er 245 x (by omega) (by omega) hx, er 246 x (by omega) (by omega) hx]
  exact h x hx
def Dhou (d nh : Nat) (σ ρ : St_) : Prop := (∀ x, x < nh → (∃ v, v ≤ 9 ∧ σ.1 (d + 4) x = nI v ∧ ρ.1 248 x = nI v) ∧ (∃ v, v < 512 ∧ σ.1 (d + 5) x = nI v ∧ ρ.1 249 x = nI v)) ∧ ∀ x, nh ≤ x → x < 5 → σ.1 (d + 5) x = 0
theorem Dhou.fr (h : Dhou d nh σ ρ) (ec : ∀ e j, d + 4 ≤ e → e ≤ d + 5 → σ'.1 e j = σ.1 e j) (er : ∀ e j, 248 ≤ e → e ≤ 249 → ρ'.1 e j = ρ.1 e j) : Dhou d nh σ' ρ' := by
  refine ⟨fun x hx => ?_, fun x h1 h2 => ?_⟩
  · rw [ec (d + 4) x (by omega) (by omega), ec (d + 5) x (by omega) (by omega), er 248 x (by omega) (by omega), er 249 x (by omega) (by omega)]
    exact h.1 x hx
  · rw [ec (d + 5) x (by omega) (by omega)]
    exact h.2 x h1 h2
def Dthi (d nt : Nat) (σ ρ : St_) : Prop := ∀ x, x < nt → (∃ v, v ≤ 999 ∧ σ.1 (d + 6) x = nI v ∧ ρ.1 250 x = nI v) ∧ (∃ v, v ≤ 9 ∧ σ.1 (d + 7) x = nI v ∧ ρ.1 251 x = nI v)
theorem Dthi.fr (h : Dthi d nt σ ρ) (ec : ∀ e j, d + 6 ≤ e → e ≤ d + 7 → j < nt → σ'.1 e j = σ.1 e j) (er : ∀ e j, 250 ≤ e → e ≤ 251 → j < nt → ρ'.1 e j = ρ.1 e j) : Dthi d nt σ' ρ' := by
  intro x hx
  rw [ec (d + 6) x (by omega) (by omega) hx, ec (d + 7) x (by omega) (by omega) hx, er 250 x (by omega) (by omega) hx, er 251 x (by omega) (by omega) hx]
  exact h x hx
def Dval (d N : Nat) (σ ρ : St_) : Prop := (∀ x, x < N → ∀ h, h < 9 → σ.1 (d + 8) (h * 10 + x) = ρ.1 252 (9 * x + h) ∧ (ρ.1 252 (9 * x + h) = -1 ∨ ∃ v, v ≤ 99 ∧ ρ.1 252 (9 * x + h) = nI v)) ∧ ∀ x, N ≤ x → x < 10 → ∀ h, h < 9 → σ.1 (d + 8) (h * 10 + x) = -1
theorem Dval.fr (H : Dval d N σ ρ) (ec : ∀ j, σ'.1 (d + 8) j = σ.1 (d + 8) j) (er : ∀ j, ρ'.1 252 j = ρ.1 252 j) : Dval d N σ' ρ' := by
  refine ⟨fun x hx h hh => ?_, fun x h1 h2 h hh => ?_⟩
  · rw [ec, er]; exact H.1 x hx h hh
  · rw [ec]; exact H.2 x h1 h2 h hh
def Ddr (σ ρ : St_) : Prop := ∃ nd, nd ≤ 20 ∧ σ.1 1 7 = nI nd ∧ ρ.1 233 49 = nI nd
theorem Ddr.fr (h : Ddr σ ρ) (ec : σ'.1 1 7 = σ.1 1 7) (er : ρ'.1 233 49 = ρ.1 233 49) : Ddr σ' ρ' := by
  unfold Ddr
  rw [ec, er]
  exact h
def Dwh (d N nh nt : Nat) (σ ρ : St_) : Prop := (∃ pm, pm < 2 ^ N ∧ σ.1 1 8 = nI pm ∧ ∀ x, x < N → (pm.testBit x = true ↔ ¬ ρ.1 247 x = -1)) ∧ (∀ h, h < 9 → ∃ m, m < 2 ^ N ∧ σ.1 (d + 10) h = nI m ∧ ∀ x, x < N → (m.testBit x = true ↔ ρ.1 247 x = hcode h)) ∧ ∀ x, x < N → ρ.1 247 x = -1 ∨ (∃ h, h < nh ∧ ρ.1 247 x = nI h) ∨ ∃ t, t < nt ∧ ρ.1 247 x = nI (10 + t)
theorem Dwh.fr (H : Dwh d N nh nt σ ρ) (ec1 : σ'.1 1 8 = σ.1 1 8) (ec : ∀ j, σ'.1 (d + 10) j = σ.1 (d + 10) j) (er : ∀ j, j < N → ρ'.1 247 j = ρ.1 247 j) : Dwh d N nh nt σ' ρ' := by
  obtain ⟨⟨pm, p1, p2, p3⟩, h2, h3⟩ := H
  refine ⟨⟨pm, p1, by rw [ec1]; exact p2, fun x hx => by rw [er x hx]; exact p3 x hx⟩, fun h hh => ?_, fun x hx => by rw [er x hx]; exact h3 x hx⟩
  obtain ⟨m, m1, m2, m3⟩ := h2 h hh
  exact ⟨m, m1, by rw [ec]; exact m2, fun x hx => by rw [er x hx]; exact m3 x hx⟩
theorem Dwh.mono {nh' nt' : Nat} (H : Dwh d N nh nt σ ρ) (h1 : nh ≤ nh') (h2 : nt ≤ nt') : Dwh d N nh' nt' σ ρ := ⟨H.1, H.2.1, fun x hx => by
  rcases H.2.2 x hx with w | ⟨h, w1, w2⟩ | ⟨t, w1, w2⟩
  · exact Or.inl w
  · exact Or.inr (Or.inl ⟨h, by omega, w2⟩)
  · exact Or.inr (Or.inr ⟨t, by omega, w2⟩)⟩
def Dlw (d : Nat) (σ ρ : St_) : Prop := (ρ.1 233 58 = 0 ∧ σ.1 (d + 11) 4 = 0 ∧ σ.1 (d + 11) 5 = 0 ∧ ρ.1 233 22 = 0) ∨ (ρ.1 233 58 = 1 ∧ ∃ lw u, LwC d lw σ ∧ LwR lw ρ ∧ lwx lw 0 = some 1 ∧ lw.length ≤ 300 ∧ σ.1 (d + 11) 5 = nI u ∧ ρ.1 233 22 = nI u)
theorem Dlw.fr (H : Dlw d σ ρ) (ec : ∀ e j, d + 11 ≤ e → e ≤ d + 13 → σ'.1 e j = σ.1 e j) (er : ∀ e j, (e = 233 ∧ (j = 19 ∨ j = 22 ∨ j = 58)) ∨ e = 237 ∨ e = 238 → ρ'.1 e j = ρ.1 e j) : Dlw d σ' ρ' := by
  rcases H with ⟨h1, h2, h3, h4⟩ | ⟨h1, lw, u, h2, h3, h4, h5, h6, h7⟩
  · exact Or.inl ⟨by rw [er _ _ (by omega)]; exact h1, by rw [ec _ _ (by omega) (by omega)]; exact h2, by rw [ec _ _ (by omega) (by omega)]; exact h3, by rw [er _ _ (by omega)]; exact h4⟩
  · exact Or.inr ⟨by rw [er _ _ (by omega)]; exact h1, lw, u, h2.fr (fun a j w => ec a j (by omega) (by omega)), h3.fr (fun a j w => er a j (by omega)), h4, h5, by rw [ec _ _ (by omega) (by omega)]; exact h6, by rw [er _ _ (by omega)]; exact h7⟩
/-- all but names and numbers -/
def Dre (d N Hn nh nt : Nat) (σ ρ : St_) : Prop := Dpl Hn σ ρ ∧ Dhr d σ ρ ∧ Darr d N σ ρ ∧ Dhou d nh σ ρ ∧ Dthi d nt σ ρ ∧ Dval d N σ ρ ∧ Ddr σ ρ ∧ Dwh d N nh nt σ ρ ∧ Dlw d σ ρ
def FCre (d e j : Nat) : Prop := e = 11 ∨ (e = d ∧ j = 0) ∨ (d + 1 ≤ e ∧ e ≤ d + 13) ∨ (e = 1 ∧ (j = 7 ∨ j = 8))
def FRre (e j : Nat) : Prop := e = 236 ∨ (e = 233 ∧ (j = 50 ∨ j = 49 ∨ j = 19 ∨ j = 22 ∨ j = 58)) ∨ e = 237 ∨ e = 238 ∨ (244 ≤ e ∧ e ≤ 252)
theorem Dre.fr (H : Dre d N Hn nh nt σ ρ) (ec : ∀ e j, FCre d e j → σ'.1 e j = σ.1 e j) (er : ∀ e j, FRre e j → ρ'.1 e j = ρ.1 e j) : Dre d N Hn nh nt σ' ρ' := by
  obtain ⟨h1, h2, h3, h4, h5, h6, h7, h8, h9⟩ := H
  refine ⟨h1.fr (fun j _ => ec _ _ (by unfold FCre; omega)) (fun j _ => er _ _ (by unfold FRre; omega)), h2.fr (ec _ _ (by unfold FCre; omega)) (er _ _ (by unfold FRre; omega)), h3.fr (fun e j _ _ _ => ec _ _ (by unfold FCre; omega)) (fun e j _ _ _ => er _ _ (by unfold FRre; omega)), h4.fr (fun e j _ _ => ec _ _ (by unfold FCre; omega)) (fun e j _ _ => er _ _ (by unfold FRre; omega)), h5.fr (fun e j _ _ _ => ec _ _ (by unfold FCre; omega)) (fun e j _ _ _ => er _ _ (by unfold FRre; omega)), h6.fr (fun j => ec _ _ (by unfold FCre; omega)) (fun j => er _ _ (by unfold FRre; omega)), h7.fr (ec _ _ (by unfold FCre; omega)) (er _ _ (by unfold FRre; omega)), h8.fr (ec _ _ (by unfold FCre; omega)) (fun j => ec _ _ (by unfold FCre; omega)) (fun j _ => er _ _ (by unfold FRre; omega)), h9.fr (fun e j _ _ => ec _ _ (by unfold FCre; omega)) (fun e j w => er _ _ (by unfold FRre; omega))⟩
/-- the whole draft -/
def Dra (d : Nat) (KL TL HL : List (List Nat)) (nh nt : Nat) (σ ρ : St_) : Prop := (Dnm 8 0 6 KL σ ρ ∧ Dnm 9 6 10 TL σ ρ ∧ Dnm 10 16 9 HL σ ρ) ∧ Dnum d KL.length TL.length HL.length nh nt σ ρ ∧ Dre d TL.length HL.length nh nt σ ρ
/-- what lines leave alone -/
def CDr (d : Nat) (σ σ' : St_) : Prop := ∀ e j, ¬ ((e = 3 ∧ 6 ≤ j ∧ j ≤ 8) ∨ e = 1 ∨ e = 11 ∨ (d ≤ e ∧ e ≤ d + 15)) → σ'.1 e j = σ.1 e j
def RDr (ρ ρ' : St_) : Prop := ∀ e j, ¬ ((e = 233 ∧ ((2 ≤ j ∧ j ≤ 12) ∨ j = 19 ∨ j = 21 ∨ j = 22 ∨ j = 24 ∨ j = 25 ∨ (45 ≤ j ∧ j ≤ 50) ∨ (56 ≤ j ∧ j ≤ 58))) ∨ (236 ≤ e ∧ e ≤ 238) ∨ e = 241 ∨ (244 ≤ e ∧ e ≤ 252)) → ρ'.1 e j = ρ.1 e j
theorem CDr.rfl' : CDr d σ σ := fun _ _ _ => rfl
theorem RDr.rfl' : RDr ρ ρ := fun _ _ _ => rfl
theorem CDr.tr {σ'' : St_} (a : CDr d σ σ') (b : CDr d σ' σ'') : CDr d σ σ'' := fun e j q => by rw [b e j q, a e j q]
theorem RDr.tr {ρ'' : St_} (a : RDr ρ ρ') (b : RDr ρ' ρ'') : RDr ρ ρ'' := fun e j q => by rw [b e j q, a e j q]
theorem CF.cd (h : CF σ σ') : CDr d σ σ' := fun e j q => h.1 e j (by omega)
theorem CFn.cd {a k : Nat} (h : CFn a k σ σ') : CDr d σ σ' := fun e j q => h.1 e j (by omega)
theorem RF.rd (h : RF ρ ρ') : RDr ρ ρ' := fun e j q => h.1 e j (by omega)
theorem RFn.rd {k : Nat} (h : RFn k ρ ρ') : RDr ρ ρ' := fun e j q => h.1 e j (by omega)
theorem CLw.cd (h : CLw d σ σ') : CDr d σ σ' := fun e j q => h.1 e j (by omega)
theorem RLw.rd (h : RLw ρ ρ') : RDr ρ ρ' := fun e j q => h.1 e j (by omega)
/-- a line: both read it, or tell the same FAULT -/
def LnOk (T : Nat → Nat) (n d i : Nat) (σ ρ : St_) (r : Option (Bool × St_)) (q : Option St_) : Prop := ∃ b σ' ρ', r = some (b, σ') ∧ q = some ρ' ∧ CDr d σ σ' ∧ RDr ρ ρ' ∧ (b = true → ∃ i' τ' KL TL HL nh nt, i < i' ∧ Bo T n i' τ' σ' ρ' ∧ Dra d KL TL HL nh nt σ' ρ') ∧ (b = false → Fau σ' ρ')
end DRAFT
