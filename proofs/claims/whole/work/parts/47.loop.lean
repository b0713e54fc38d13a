section
variable {l : Launch} {D : va_G} {cA : Nat → ClassId} {h0 : Nat} {ad : Ad_} {b L : Nat} {xs : Nat → Int32} {sh : Sh_} {P : Px_} {σ : St_} {pc : Nat} {lv : List (Nat × Value)} {st : List Value}
def ρ0 : Rh_ := (fun _ _ => none, (fun _ _ => 0, fun _ _ => 0))
def ρI : Rh_ := cE12 (nwR (cE11 (nwR ρ0 0)) 233)
def PL (sw : Bool) : Px_ := match sw with
  | false => ρI.1
  | true => swP ρI.1 0 12 28
def twO (sw : Bool) : Nat := match sw with
  | false => 12
  | true => 28
def drO (sw : Bool) : Nat := match sw with
  | false => 28
  | true => 12
theorem lyS_0 : ∀ k, k < 41 → ρI.1 (47 + 1) k = some (47 + 2 + 3 * k) ∧ LY8 SHL ρI.1 (47 + 2 + 3 * k) := by
  unfold LY8
  decide +kernel
theorem lyS_11 : ∀ k, k < 3 → ρI.1 (0 + 172) k = some (0 + 224 + 3 * k) ∧ LY8 SHL ρI.1 (0 + 224 + 3 * k) := by
  unfold LY8
  decide +kernel
theorem LYI : LY11 SHL ρI.1 0 12 28 := ⟨by decide +kernel, by decide +kernel, ⟨by decide +kernel, by decide +kernel, ⟨by decide +kernel, by decide +kernel, ⟨by decide +kernel, by decide +kernel, by decide +kernel, by decide +kernel, by decide +kernel, by decide +kernel, by decide +kernel, by decide +kernel, by decide +kernel⟩⟩, by decide +kernel, ⟨by decide +kernel, by decide +kernel, by decide +kernel, by decide +kernel, by decide +kernel, by decide +kernel, by decide +kernel, by decide +kernel, by decide +kernel⟩, by decide +kernel, by decide +kernel, by decide +kernel, by decide +kernel, by decide +kernel, by decide +kernel, by decide +kernel, by decide +kernel⟩, by decide +kernel, ⟨by decide +kernel, by decide +kernel, by decide +kernel, by decide +kernel, by decide +kernel, by decide +kernel, by decide +kernel, by decide +kernel, by decide +kernel⟩, by decide +kernel, ⟨by decide +kernel, by decide +kernel, by decide +kernel, by decide +kernel, by decide +kernel⟩, by decide +kernel, ⟨by decide +kernel, by decide +kernel, by decide +kernel, lyS_0⟩, by decide +kernel, by decide +kernel, lyS_11, by decide +kernel, by decide +kernel, by decide +kernel, ⟨by decide +kernel, by decide +kernel, by decide +kernel, by decide +kernel, by decide +kernel, by decide +kernel, by decide +kernel, by decide +kernel, by decide +kernel, by decide +kernel, by decide +kernel, by decide +kernel, by decide +kernel, by decide +kernel, by decide +kernel, by decide +kernel, by decide +kernel⟩, by decide +kernel, ⟨by decide +kernel, by decide +kernel, by decide +kernel, by decide +kernel, by decide +kernel, by decide +kernel, by decide +kernel, by decide +kernel, by decide +kernel, by decide +kernel, by decide +kernel, by decide +kernel, by decide +kernel, by decide +kernel, by decide +kernel, by decide +kernel, by decide +kernel⟩, by decide +kernel, ⟨by decide +kernel, by decide +kernel, ⟨by decide +kernel, by decide +kernel, by decide +kernel, by decide +kernel, by decide +kernel, by decide +kernel, by decide +kernel, by decide +kernel, by decide +kernel, by decide +kernel, by decide +kernel, by decide +kernel, by decide +kernel, by decide +kernel, by decide +kernel, by decide +kernel, by decide +kernel⟩, by decide +kernel, ⟨by decide +kernel, by decide +kernel, by decide +kernel, by decide +kernel, by decide +kernel⟩⟩, by decide +kernel, ⟨by decide +kernel, by decide +kernel, ⟨by decide +kernel, by decide +kernel, by decide +kernel, by decide +kernel, by decide +kernel, by decide +kernel, by decide +kernel, by decide +kernel, by decide +kernel, by decide +kernel, by decide +kernel, by decide +kernel, by decide +kernel, by decide +kernel, by decide +kernel, by decide +kernel, by decide +kernel⟩, by decide +kernel, ⟨by decide +kernel, by decide +kernel, by decide +kernel, by decide +kernel, by decide +kernel⟩, by decide +kernel, by decide +kernel, by decide +kernel, by decide +kernel, by decide +kernel, by decide +kernel⟩, by decide +kernel, ⟨by decide +kernel, by decide +kernel, by decide +kernel, by decide +kernel, by decide +kernel⟩, by decide +kernel, ⟨by decide +kernel, by decide +kernel, by decide +kernel, by decide +kernel, by decide +kernel, by decide +kernel, by decide +kernel, by decide +kernel, by decide +kernel, by decide +kernel, by decide +kernel, by decide +kernel, by decide +kernel, by decide +kernel, by decide +kernel, by decide +kernel, by decide +kernel, by decide +kernel, by decide +kernel, by decide +kernel, by decide +kernel, by decide +kernel, ⟨by decide +kernel, by decide +kernel, by decide +kernel, by decide +kernel, by decide +kernel, by decide +kernel, by decide +kernel, by decide +kernel, by decide +kernel⟩⟩, by decide +kernel, ⟨by decide +kernel, by decide +kernel, by decide +kernel, by decide +kernel, by decide +kernel, by decide +kernel, by decide +kernel, by decide +kernel, by decide +kernel, by decide +kernel, by decide +kernel, by decide +kernel, by decide +kernel, by decide +kernel, by decide +kernel, by decide +kernel, by decide +kernel, by decide +kernel, by decide +kernel, by decide +kernel, by decide +kernel, by decide +kernel, ⟨by decide +kernel, by decide +kernel, by decide +kernel, by decide +kernel, by decide +kernel, by decide +kernel, by decide +kernel, by decide +kernel, by decide +kernel⟩⟩⟩
theorem LYM : LY12 SHL ρI.1 233 := ⟨by decide +kernel, by decide +kernel, by decide +kernel, by decide +kernel, by decide +kernel, by decide +kernel, by decide +kernel, by decide +kernel, by decide +kernel, by decide +kernel, by decide +kernel, by decide +kernel, by decide +kernel, by decide +kernel, by decide +kernel, by decide +kernel, by decide +kernel, by decide +kernel, by decide +kernel, by decide +kernel, by decide +kernel, by decide +kernel, by decide +kernel, by decide +kernel, by decide +kernel, by decide +kernel, by decide +kernel, by decide +kernel, by decide +kernel, by decide +kernel, by decide +kernel, by decide +kernel, by decide +kernel, by decide +kernel, by decide +kernel, by decide +kernel, by decide +kernel, by decide +kernel, by decide +kernel, by decide +kernel, by decide +kernel, by decide +kernel, by decide +kernel, by decide +kernel, by decide +kernel, by decide +kernel, by decide +kernel, by decide +kernel, by decide +kernel, by decide +kernel, by decide +kernel, by decide +kernel, by decide +kernel, by decide +kernel, by decide +kernel, by decide +kernel, by decide +kernel, by decide +kernel, by decide +kernel, by decide +kernel, by decide +kernel, by decide +kernel, by decide +kernel, by decide +kernel, by decide +kernel, by decide +kernel, by decide +kernel, by decide +kernel, by decide +kernel, by decide +kernel, by decide +kernel, by decide +kernel, by decide +kernel, by decide +kernel, by decide +kernel, by decide +kernel, by decide +kernel, by decide +kernel, by decide +kernel, by decide +kernel, by decide +kernel, by decide +kernel, by decide +kernel, by decide +kernel, by decide +kernel, by decide +kernel, by decide +kernel, by decide +kernel, by decide +kernel, by decide +kernel, by decide +kernel, by decide +kernel, by decide +kernel⟩
theorem LY12.mv {P' : Px_} {t : Nat} (h : LY12 sh P t) (e : P' t = P t) : LY12 sh P' t := by
  unfold LY12 at h ⊢
  rw [e]
  exact h
theorem ly11 (sw : Bool) : LY11 SHL (PL sw) 0 (twO sw) (drO sw) := by
  cases sw with
  | false => exact LYI
  | true => exact LYI.sw
theorem ly12 (sw : Bool) : LY12 SHL (PL sw) 233 := by
  cases sw with
  | false => exact LYM
  | true => exact LYM.mv (by simp [PL, swP, up2])
theorem PL_sw (sw s1 : Bool) : cityP (PL sw) 0 (twO sw) (drO sw) s1 = PL (xor sw s1) := by
  cases s1 with
  | false => cases sw <;> rfl
  | true =>
    cases sw with
    | false => rfl
    | true =>
      show swP (swP ρI.1 0 12 28) 0 28 12 = ρI.1
      have h2 := LYI.p_town
      have h3 := LYI.p_draft
      funext a k
      by_cases ha : a = 0
      · subst ha
        by_cases k2 : k = 2
        · subst k2; simp [swP, up2, h2]
        · by_cases k3 : k = 3
          · subst k3; simp [swP, up2, h3]
          · simp [swP, up2, k2, k3]
      · simp [swP, up2, ha]
/-- feed: both answer alike, and what holds between them stays -/
def Ok_0 (INV : Bool → St_ → Prop) : Prop := ∀ (sw : Bool) (σ : St_) (a1 : Int32) (a2 : Int32) (a3 : Int32) (a4 : Int32) (a5 : Int32), INV sw σ → ∃ (r : Int32) (σ1 : St_) (σ2 : St_), mX11_feed 0 (twO sw) (drO sw) a1 a2 a3 a4 a5 σ = some (r, σ1) ∧ mX12_feed 233 a1 a2 a3 a4 a5 σ1 = some (r, σ2) ∧ INV sw σ2
/-- end: both answer alike, and what holds between them stays -/
def Ok_1 (INV : Bool → St_ → Prop) : Prop := ∀ (sw : Bool) (σ : St_) (a1 : Int32), INV sw σ → ∃ (r : Int32) (σ1 : St_) (σ2 : St_), mX11_end 0 (twO sw) (drO sw) a1 σ = some (r, σ1) ∧ mX12_end 233 a1 σ1 = some (r, σ2) ∧ INV sw σ2
/-- city: both answer alike, and what holds between them stays -/
def Ok_2 (INV : Bool → St_ → Prop) : Prop := ∀ (sw : Bool) (σ : St_), INV sw σ → ∃ (r : Int32) (σ1 : St_) (σ2 : St_) (s1 : Bool), mX11_city 0 (twO sw) (drO sw) σ = some (r, σ1, s1) ∧ mX12_city 233 σ1 = some (r, σ2) ∧ INV (xor sw s1) σ2
/-- fault: both answer alike, and what holds between them stays -/
def Ok_3 (INV : Bool → St_ → Prop) : Prop := ∀ (sw : Bool) (σ : St_) (a1 : Int32), INV sw σ → ∃ (r : Int32), mX11_fault 0 (twO sw) (drO sw) a1 σ = some r ∧ mX12_fault 233 a1 σ = some r
/-- thing: both answer alike, and what holds between them stays -/
def Ok_4 (INV : Bool → St_ → Prop) : Prop := ∀ (sw : Bool) (σ : St_) (a1 : Int32) (a2 : Int32), INV sw σ → ∃ (r : Int32), mX11_thing 0 (twO sw) (drO sw) a1 a2 σ = some r ∧ mX12_thing 233 a1 a2 σ = some r
/-- worth: both answer alike, and what holds between them stays -/
def Ok_5 (INV : Bool → St_ → Prop) : Prop := ∀ (sw : Bool) (σ : St_) (a1 : Int32) (a2 : Int32) (a3 : Bool), INV sw σ → ∃ (r : Int32), mX11_worth 0 (twO sw) (drO sw) a1 a2 a3 σ = some r ∧ mX12_worth 233 a1 a2 a3 σ = some r
/-- has: both answer alike, and what holds between them stays -/
def Ok_6 (INV : Bool → St_ → Prop) : Prop := ∀ (sw : Bool) (σ : St_) (a1 : Int32) (a2 : Bool), INV sw σ → ∃ (r : Int32) (σ2 : St_), mX11_has 0 (twO sw) (drO sw) a1 a2 σ = some r ∧ mX12_has 233 a1 a2 σ = some (r, σ2) ∧ INV sw σ2
/-- sum: both answer alike, and what holds between them stays -/
def Ok_7 (INV : Bool → St_ → Prop) : Prop := ∀ (sw : Bool) (σ : St_) (a1 : Int32) (a2 : Bool), INV sw σ → ∃ (r : Int32) (σ2 : St_), mX11_sum 0 (twO sw) (drO sw) a1 a2 σ = some r ∧ mX12_sum 233 a1 a2 σ = some (r, σ2) ∧ INV sw σ2
/-- thief: both answer alike, and what holds between them stays -/
def Ok_8 (INV : Bool → St_ → Prop) : Prop := ∀ (sw : Bool) (σ : St_) (a1 : Int32) (a2 : Int32), INV sw σ → ∃ (r : Int32) (σ2 : St_), mX11_thief 0 (twO sw) (drO sw) a1 a2 σ = some r ∧ mX12_thief 233 a1 a2 σ = some (r, σ2) ∧ INV sw σ2
/-- minutes: both answer alike, and what holds between them stays -/
def Ok_9 (INV : Bool → St_ → Prop) : Prop := ∀ (sw : Bool) (σ : St_) (a1 : Int32) (a2 : Int32) (a3 : Int32), INV sw σ → ∃ (r : Int32), mX11_minutes 0 (twO sw) (drO sw) a1 a2 a3 σ = some r ∧ mX12_minutes 233 a1 a2 a3 σ = some r
/-- may: both answer alike, and what holds between them stays -/
def Ok_10 (INV : Bool → St_ → Prop) : Prop := ∀ (sw : Bool) (σ : St_) (a1 : Int32) (a2 : Int32) (a3 : Int32) (a4 : Int32) (a5 : Int32), INV sw σ → ∃ (r : Int32) (σ1 : St_) (σ2 : St_), mX11_may 0 (twO sw) (drO sw) a1 a2 a3 a4 a5 σ = some (r, σ1) ∧ mX12_may 233 a1 a2 a3 a4 a5 σ1 = some (r, σ2) ∧ INV sw σ2
/-- theft: both answer alike, and what holds between them stays -/
def Ok_11 (INV : Bool → St_ → Prop) : Prop := ∀ (sw : Bool) (σ : St_) (a1 : Int32) (a2 : Int32) (a3 : Int32) (a4 : Int32), INV sw σ → ∃ (r : Int32) (σ1 : St_) (σ2 : St_), mX11_theft 0 (twO sw) (drO sw) a1 a2 a3 a4 σ = some (r, σ1) ∧ mX12_theft 233 a1 a2 a3 a4 σ1 = some (r, σ2) ∧ INV sw σ2
/-- waits: both answer alike, and what holds between them stays -/
def Ok_12 (INV : Bool → St_ → Prop) : Prop := ∀ (sw : Bool) (σ : St_), INV sw σ → ∃ (r : Int32) (σ1 : St_) (σ2 : St_), mX11_waits 0 (twO sw) (drO sw) σ = some (r, σ1) ∧ mX12_waits 233 σ1 = some (r, σ2) ∧ INV sw σ2
/-- gift: both answer alike, and what holds between them stays -/
def Ok_13 (INV : Bool → St_ → Prop) : Prop := ∀ (sw : Bool) (σ : St_) (a1 : Int32) (a2 : Int32) (a3 : Bool), INV sw σ → ∃ (r : Bool) (σ1 : St_) (σ2 : St_), mX11_gift 0 (twO sw) (drO sw) a1 a2 a3 σ = some (r, σ1) ∧ mX12_gift 233 a1 a2 a3 σ1 = some (r, σ2) ∧ INV sw σ2
/-- undo: both answer alike, and what holds between them stays -/
def Ok_14 (INV : Bool → St_ → Prop) : Prop := ∀ (sw : Bool) (σ : St_), INV sw σ → ∃ (r : Bool) (σ1 : St_) (σ2 : St_), mX11_undo 0 (twO sw) (drO sw) σ = some (r, σ1) ∧ mX12_undo 233 σ1 = some (r, σ2) ∧ INV sw σ2
/-- redo: both answer alike, and what holds between them stays -/
def Ok_15 (INV : Bool → St_ → Prop) : Prop := ∀ (sw : Bool) (σ : St_), INV sw σ → ∃ (r : Bool) (σ1 : St_) (σ2 : St_), mX11_redo 0 (twO sw) (drO sw) σ = some (r, σ1) ∧ mX12_redo 233 σ1 = some (r, σ2) ∧ INV sw σ2
/-- swaps: both answer alike, and what holds between them stays -/
def Ok_16 (INV : Bool → St_ → Prop) : Prop := ∀ (sw : Bool) (σ : St_) (a1 : Int32), INV sw σ → ∃ (r : Int32) (σ1 : St_) (σ2 : St_), mX11_swaps 0 (twO sw) (drO sw) a1 σ = some (r, σ1) ∧ mX12_swaps 233 a1 σ1 = some (r, σ2) ∧ INV sw σ2
/-- best: both answer alike, and what holds between them stays -/
def Ok_17 (INV : Bool → St_ → Prop) : Prop := ∀ (sw : Bool) (σ : St_) (a1 : Int32), INV sw σ → ∃ (r : Int32) (σ1 : St_) (σ2 : St_), mX11_best 0 (twO sw) (drO sw) a1 σ = some (r, σ1) ∧ mX12_best 233 a1 σ1 = some (r, σ2) ∧ INV sw σ2
/-- tour: both answer alike, and what holds between them stays -/
def Ok_18 (INV : Bool → St_ → Prop) : Prop := ∀ (sw : Bool) (σ : St_) (a1 : Int32) (a2 : Int32), INV sw σ → ∃ (r : Int32) (σ1 : St_) (σ2 : St_), mX11_tour 0 (twO sw) (drO sw) a1 a2 σ = some (r, σ1) ∧ mX12_tour 233 a1 a2 σ1 = some (r, σ2) ∧ INV sw σ2
/-- drift: both answer alike, and what holds between them stays -/
def Ok_19 (INV : Bool → St_ → Prop) : Prop := ∀ (sw : Bool) (σ : St_) (a1 : Int32) (a2 : Int32), INV sw σ → ∃ (r : Int32) (σ1 : St_) (σ2 : St_), mX11_drift 0 (twO sw) (drO sw) a1 a2 σ = some (r, σ1) ∧ mX12_drift 233 a1 a2 σ1 = some (r, σ2) ∧ INV sw σ2
/-- sums: both answer alike, and what holds between them stays -/
def Ok_20 (INV : Bool → St_ → Prop) : Prop := ∀ (sw : Bool) (σ : St_) (a1 : Int32) (a2 : Bool) (a3 : Int32), INV sw σ → ∃ (r : Int32) (σ1 : St_) (σ2 : St_), mX11_sums 0 (twO sw) (drO sw) a1 a2 a3 σ = some (r, σ1) ∧ mX12_sums 233 a1 a2 a3 σ1 = some (r, σ2) ∧ INV sw σ2
/-- rests: both answer alike, and what holds between them stays -/
def Ok_21 (INV : Bool → St_ → Prop) : Prop := ∀ (sw : Bool) (σ : St_), INV sw σ → ∃ (r : Int32) (σ1 : St_) (σ2 : St_), mX11_rests 0 (twO sw) (drO sw) σ = some (r, σ1) ∧ mX12_rests 233 σ1 = some (r, σ2) ∧ INV sw σ2
/-- lie: both answer alike, and what holds between them stays -/
def Ok_22 (INV : Bool → St_ → Prop) : Prop := ∀ (sw : Bool) (σ : St_) (a1 : Int32) (a2 : Int32) (a3 : Int32), INV sw σ → ∃ (r : Int32) (σ1 : St_) (σ2 : St_), mX11_lie 0 (twO sw) (drO sw) a1 a2 a3 σ = some (r, σ1) ∧ mX12_lie 233 a1 a2 a3 σ1 = some (r, σ2) ∧ INV sw σ2
/-- unbettered: both answer alike, and what holds between them stays -/
def Ok_23 (INV : Bool → St_ → Prop) : Prop := ∀ (sw : Bool) (σ : St_) (a1 : Int32), INV sw σ → ∃ (r : Int32) (σ1 : St_) (σ2 : St_), mX11_unbettered 0 (twO sw) (drO sw) a1 σ = some (r, σ1) ∧ mX12_unbettered 233 a1 σ1 = some (r, σ2) ∧ INV sw σ2
/-- loopholes: both answer alike, and what holds between them stays -/
def Ok_24 (INV : Bool → St_ → Prop) : Prop := ∀ (sw : Bool) (σ : St_), INV sw σ → ∃ (r : Int32) (σ1 : St_) (σ2 : St_), mX11_loopholes 0 (twO sw) (drO sw) σ = some (r, σ1) ∧ mX12_loopholes 233 σ1 = some (r, σ2) ∧ INV sw σ2
/-- who: both answer alike, and what holds between them stays -/
def Ok_25 (INV : Bool → St_ → Prop) : Prop := ∀ (sw : Bool) (σ : St_) (a1 : Int32), INV sw σ → ∃ (r : Int32) (σ1 : St_) (σ2 : St_), mX11_who 0 (twO sw) (drO sw) a1 σ = some (r, σ1) ∧ mX12_who 233 a1 σ1 = some (r, σ2) ∧ INV sw σ2
/-- lies: both answer alike, and what holds between them stays -/
def Ok_26 (INV : Bool → St_ → Prop) : Prop := ∀ (sw : Bool) (σ : St_) (a1 : Int32), INV sw σ → ∃ (r : Int32), mX11_lies 0 (twO sw) (drO sw) a1 σ = some r ∧ mX12_lies 233 a1 σ = some r
/-- report: both answer alike, and what holds between them stays -/
def Ok_27 (INV : Bool → St_ → Prop) : Prop := ∀ (sw : Bool) (σ : St_) (a1 : Int32) (a2 : Int32) (a3 : Int32) (a4 : Int32) (a5 : Bool), INV sw σ → ∃ (r : Int32) (σ1 : St_) (σ2 : St_), mX11_report 0 (twO sw) (drO sw) a1 a2 a3 a4 a5 σ = some (r, σ1) ∧ mX12_report 233 a1 a2 a3 a4 a5 σ1 = some (r, σ2) ∧ INV sw σ2
/-- untell: both answer alike, and what holds between them stays -/
def Ok_28 (INV : Bool → St_ → Prop) : Prop := ∀ (sw : Bool) (σ : St_) (a1 : Int32), INV sw σ → ∃ (r : Bool) (σ1 : St_) (σ2 : St_), mX11_untell 0 (twO sw) (drO sw) a1 σ = some (r, σ1) ∧ mX12_untell 233 a1 σ1 = some (r, σ2) ∧ INV sw σ2
/-- later: both answer alike, and what holds between them stays -/
def Ok_29 (INV : Bool → St_ → Prop) : Prop := ∀ (sw : Bool) (σ : St_) (a1 : Int32), INV sw σ → ∃ (r : Int32) (σ1 : St_) (σ2 : St_), mX11_later 0 (twO sw) (drO sw) a1 σ = some (r, σ1) ∧ mX12_later 233 a1 σ1 = some (r, σ2) ∧ INV sw σ2
/-- span: both answer alike, and what holds between them stays -/
def Ok_30 (INV : Bool → St_ → Prop) : Prop := ∀ (sw : Bool) (σ : St_) (a1 : Int32) (a2 : Int32) (a3 : Int32) (a4 : Int32), INV sw σ → ∃ (r : Int32) (σ1 : St_) (σ2 : St_), mX11_span 0 (twO sw) (drO sw) a1 a2 a3 a4 σ = some (r, σ1) ∧ mX12_span 233 a1 a2 a3 a4 σ1 = some (r, σ2) ∧ INV sw σ2
/-- ask: both answer alike, and what holds between them stays -/
def Ok_31 (INV : Bool → St_ → Prop) : Prop := ∀ (sw : Bool) (σ : St_) (a1 : Int32) (a2 : Int32) (a3 : Int32) (a4 : Int32), INV sw σ → ∃ (r : Int32) (σ1 : St_) (σ2 : St_), mX11_ask 0 (twO sw) (drO sw) a1 a2 a3 a4 σ = some (r, σ1) ∧ mX12_ask 233 a1 a2 a3 a4 σ1 = some (r, σ2) ∧ INV sw σ2
/-- image: both answer alike, and what holds between them stays -/
def Ok_32 (INV : Bool → St_ → Prop) : Prop := ∀ (sw : Bool) (σ : St_) (a1 : Int32), INV sw σ → ∃ (r : Int32) (σ1 : St_) (σ2 : St_), mX11_image 0 (twO sw) (drO sw) a1 σ = some (r, σ1) ∧ mX12_image 233 a1 σ1 = some (r, σ2) ∧ INV sw σ2
/-- back: both answer alike, and what holds between them stays -/
def Ok_33 (INV : Bool → St_ → Prop) : Prop := ∀ (sw : Bool) (σ : St_) (a1 : Int32), INV sw σ → ∃ (r : Int32) (σ1 : St_) (σ2 : St_), mX11_back 0 (twO sw) (drO sw) a1 σ = some (r, σ1) ∧ mX12_back 233 a1 σ1 = some (r, σ2) ∧ INV sw σ2
/-- about: both answer alike, and what holds between them stays -/
def Ok_34 (INV : Bool → St_ → Prop) : Prop := ∀ (sw : Bool) (σ : St_) (a1 : Int32), INV sw σ → ∃ (r : Int32), mX11_about 0 (twO sw) (drO sw) a1 σ = some r ∧ mX12_about 233 a1 σ = some r
def StepOK (INV : Bool → St_ → Prop) : Prop := Ok_0 INV ∧ Ok_1 INV ∧ Ok_2 INV ∧ Ok_3 INV ∧ Ok_4 INV ∧ Ok_5 INV ∧ Ok_6 INV ∧ Ok_7 INV ∧ Ok_8 INV ∧ Ok_9 INV ∧ Ok_10 INV ∧ Ok_11 INV ∧ Ok_12 INV ∧ Ok_13 INV ∧ Ok_14 INV ∧ Ok_15 INV ∧ Ok_16 INV ∧ Ok_17 INV ∧ Ok_18 INV ∧ Ok_19 INV ∧ Ok_20 INV ∧ Ok_21 INV ∧ Ok_22 INV ∧ Ok_23 INV ∧ Ok_24 INV ∧ Ok_25 INV ∧ Ok_26 INV ∧ Ok_27 INV ∧ Ok_28 INV ∧ Ok_29 INV ∧ Ok_30 INV ∧ Ok_31 INV ∧ Ok_32 INV ∧ Ok_33 INV ∧ Ok_34 INV
theorem law_cmp {L i : Nat} (hL : L ≤ 3072) (hi : i ≤ 4000) : (Int32.ofNat L - 6 < Int32.ofNat i) ↔ L < i + 6 := by
  have e1 : (Int32.ofNat L).toInt = L := Int32.toInt_ofNat_of_lt (by omega)
  have e2 : (Int32.ofNat i).toInt = i := Int32.toInt_ofNat_of_lt (by omega)
  have e3 : (Int32.ofNat L - 6).toInt = (L : Int) - 6 := by
    rw [Int32.toInt_sub, e1]
    have : (6 : Int32).toInt = 6 := by decide
    rw [this]
    rw [Int.bmod_eq_of_le (by omega) (by omega)]
  rw [Int32.lt_iff_toInt_lt, e2, e3]
  omega
set_option maxHeartbeats 4000000 in
theorem law_loop {INV : Bool → St_ → Prop} (hst : StepOK INV) (hL : L ≤ 3072) : ∀ (n i : Nat) (sw : Bool) (σ : St_), i ≤ L + 6 → L + 12 ≤ i + n → INV sw σ → Lj l D cA h0 ad b L xs SHL (PL sw) σ 18 [(0, .ref b), (1, .ref (h0 + 0)), (2, .ref (h0 + 233)), (3, .int (Int32.ofNat i))] [] := by
  intro n
  induction n with
  | zero => intro i sw σ h1 h2; omega
  | succ n ih =>
    intro i sw σ h1 h2 hI
    refine lj_iload_n (q := 19) dL_law_18 rfl (i := 3) rfl (pl := 3) rfl ?_
    refine lj_aload_n (q := 20) dL_law_19 rfl (i := 0) rfl (pl := 0) rfl ?_
    refine lj_slen (q := 21) dL_law_20 rfl ?_
    refine lj_bipush (q := 23) (v := 6) dL_law_21 rfl (by decide) ?_
    refine lj_isub (q := 24) dL_law_23 rfl ?_
    by_cases hg : L < i + 6
    · refine lj_icmp_gtY (tgt := 1405) ((law_cmp hL (by omega)).mpr hg) dL_law_24 (by decide) ?_
      refine lj_iconst (q := 1406) (v := 1) dL_law_1405 rfl (by decide) ?_
      exact lj_ret dL_law_1406
    · have hi5 : i + 5 < L := by omega
      refine lj_icmp_gtN (tgt := 1405) (q := 27) (fun h => hg ((law_cmp hL (by omega)).mp h)) dL_law_24 (by decide) rfl ?_
      refine lj_aload_n (q := 28) dL_law_27 rfl (i := 0) rfl (pl := 0) rfl ?_
      refine lj_iload_n (q := 29) dL_law_28 rfl (i := 3) rfl (pl := 3) rfl ?_
      refine lj_sld (q := 30) (k := i) rfl (by omega) hL dL_law_29 rfl ?_
      refine lj_bipush (q := 32) (v := 63) dL_law_30 rfl (by decide) ?_
      refine lj_iand (q := 33) dL_law_32 rfl ?_
      have hnext : ∀ (sw : Bool) (σ : St_), INV sw σ → Lj l D cA h0 ad b L xs SHL (PL sw) σ 1399 [(0, .ref b), (1, .ref (h0 + 0)), (2, .ref (h0 + 233)), (3, .int (Int32.ofNat i))] [] := by
        intro sw σ hI
        refine lj_iinc (q := 1402) (v := Int32.ofNat (i + 6)) dL_law_1399 rfl (pl := 3) rfl (by rw [← ofN_add]; rfl) (by decide) rfl ?_
        refine lj_goto (q := 18) dL_law_1402 (by decide) ?_
        refine lj_lv [1, 2, 3, 0] rfl ?_
        exact ih (i + 6) sw σ (by omega) (by omega) hI
      generalize hx : xs i &&& 63 = x
      by_cases hc : x = 0
      · refine lj_tin (tgt := 188) (k := 0) (off := 155) dL_law_33 hc (by decide) (by decide) (by decide) (by decide) ?_
        obtain ⟨r, σ1, σ2, e1, e2, hI2⟩ := hst.1 sw σ (xs (i + 1)) (xs (i + 2)) (xs (i + 3)) (xs (i + 4)) (xs (i + 5)) hI
        exact lc_0 hL hi5 (ly11 sw) (ly12 sw) e1 e2 (hnext sw σ2 hI2)
      have ne0 := lv_neT (a := 0) hc (by decide)
      clear hc
      by_cases hc : x = 1
      · refine lj_tin (tgt := 251) (k := 1) (off := 218) dL_law_33 hc (by decide) (by decide) (by decide) (by decide) ?_
        obtain ⟨r, σ1, σ2, e1, e2, hI2⟩ := hst.2.1 sw σ (xs (i + 1)) hI
        exact lc_1 hL hi5 (ly11 sw) (ly12 sw) e1 e2 (hnext sw σ2 hI2)
      have ne1 := lv_neT (a := 1) hc (by decide)
      clear hc
      by_cases hc : x = 2
      · refine lj_tin (tgt := 274) (k := 2) (off := 241) dL_law_33 hc (by decide) (by decide) (by decide) (by decide) ?_
        obtain ⟨r, σ1, σ2, s1, e1, e2, hI2⟩ := hst.2.2.1 sw σ hI
        refine lc_2 hL hi5 (ly11 sw) (ly12 sw) (by rw [PL_sw]; exact ly12 _) e1 e2 ?_
        rw [PL_sw]
        exact hnext (xor sw s1) σ2 hI2
      have ne2 := lv_neT (a := 2) hc (by decide)
      clear hc
      by_cases hc : x = 3
      · refine lj_tin (tgt := 287) (k := 3) (off := 254) dL_law_33 hc (by decide) (by decide) (by decide) (by decide) ?_
        obtain ⟨r, e1, e2⟩ := hst.2.2.2.1 sw σ (xs (i + 1)) hI
        exact lc_3 hL hi5 (ly11 sw) (ly12 sw) e1 e2 (hnext sw σ hI)
      have ne3 := lv_neT (a := 3) hc (by decide)
      clear hc
      by_cases hc : x = 4
      · refine lj_tin (tgt := 310) (k := 4) (off := 277) dL_law_33 hc (by decide) (by decide) (by decide) (by decide) ?_
        obtain ⟨r, e1, e2⟩ := hst.2.2.2.2.1 sw σ (xs (i + 1)) (xs (i + 2)) hI
        exact lc_4 hL hi5 (ly11 sw) (ly12 sw) e1 e2 (hnext sw σ hI)
      have ne4 := lv_neT (a := 4) hc (by decide)
      clear hc
      by_cases hc : x = 5
      · refine lj_tin (tgt := 343) (k := 5) (off := 310) dL_law_33 hc (by decide) (by decide) (by decide) (by decide) ?_
        by_cases hv : xs (i + 3) = 0
        · obtain ⟨r, e1, e2⟩ := hst.2.2.2.2.2.1 sw σ (xs (i + 1)) (xs (i + 2)) false hI
          exact lc_5f hL hi5 hv (ly11 sw) (ly12 sw) e1 e2 (hnext sw σ hI)
        · obtain ⟨r, e1, e2⟩ := hst.2.2.2.2.2.1 sw σ (xs (i + 1)) (xs (i + 2)) true hI
          exact lc_5t hL hi5 hv (ly11 sw) (ly12 sw) e1 e2 (hnext sw σ hI)
      have ne5 := lv_neT (a := 5) hc (by decide)
      clear hc
      by_cases hc : x = 6
      · refine lj_tin (tgt := 402) (k := 6) (off := 369) dL_law_33 hc (by decide) (by decide) (by decide) (by decide) ?_
        by_cases hv : xs (i + 2) = 0
        · obtain ⟨r, σ2, e1, e2, hI2⟩ := hst.2.2.2.2.2.2.1 sw σ (xs (i + 1)) false hI
          exact lc_6f hL hi5 hv (ly11 sw) (ly12 sw) e1 e2 (hnext sw σ2 hI2)
        · obtain ⟨r, σ2, e1, e2, hI2⟩ := hst.2.2.2.2.2.2.1 sw σ (xs (i + 1)) true hI
          exact lc_6t hL hi5 hv (ly11 sw) (ly12 sw) e1 e2 (hnext sw σ2 hI2)
      have ne6 := lv_neT (a := 6) hc (by decide)
      clear hc
      by_cases hc : x = 7
      · refine lj_tin (tgt := 451) (k := 7) (off := 418) dL_law_33 hc (by decide) (by decide) (by decide) (by decide) ?_
        by_cases hv : xs (i + 2) = 0
        · obtain ⟨r, σ2, e1, e2, hI2⟩ := hst.2.2.2.2.2.2.2.1 sw σ (xs (i + 1)) false hI
          exact lc_7f hL hi5 hv (ly11 sw) (ly12 sw) e1 e2 (hnext sw σ2 hI2)
        · obtain ⟨r, σ2, e1, e2, hI2⟩ := hst.2.2.2.2.2.2.2.1 sw σ (xs (i + 1)) true hI
          exact lc_7t hL hi5 hv (ly11 sw) (ly12 sw) e1 e2 (hnext sw σ2 hI2)
      have ne7 := lv_neT (a := 7) hc (by decide)
      clear hc
      by_cases hc : x = 8
      · refine lj_tin (tgt := 500) (k := 8) (off := 467) dL_law_33 hc (by decide) (by decide) (by decide) (by decide) ?_
        obtain ⟨r, σ2, e1, e2, hI2⟩ := hst.2.2.2.2.2.2.2.2.1 sw σ (xs (i + 1)) (xs (i + 2)) hI
        exact lc_8 hL hi5 (ly11 sw) (ly12 sw) e1 e2 (hnext sw σ2 hI2)
      have ne8 := lv_neT (a := 8) hc (by decide)
      clear hc
      by_cases hc : x = 9
      · refine lj_tin (tgt := 533) (k := 9) (off := 500) dL_law_33 hc (by decide) (by decide) (by decide) (by decide) ?_
        obtain ⟨r, e1, e2⟩ := hst.2.2.2.2.2.2.2.2.2.1 sw σ (xs (i + 1)) (xs (i + 2)) (xs (i + 3)) hI
        exact lc_9 hL hi5 (ly11 sw) (ly12 sw) e1 e2 (hnext sw σ hI)
      have ne9 := lv_neT (a := 9) hc (by decide)
      clear hc
      by_cases hc : x = 10
      · refine lj_tin (tgt := 576) (k := 10) (off := 543) dL_law_33 hc (by decide) (by decide) (by decide) (by decide) ?_
        obtain ⟨r, σ1, σ2, e1, e2, hI2⟩ := hst.2.2.2.2.2.2.2.2.2.2.1 sw σ (xs (i + 1)) (xs (i + 2)) (xs (i + 3)) (xs (i + 4)) (xs (i + 5)) hI
        exact lc_10 hL hi5 (ly11 sw) (ly12 sw) e1 e2 (hnext sw σ2 hI2)
      have ne10 := lv_neT (a := 10) hc (by decide)
      clear hc
      by_cases hc : x = 11
      · refine lj_tin (tgt := 639) (k := 11) (off := 606) dL_law_33 hc (by decide) (by decide) (by decide) (by decide) ?_
        obtain ⟨r, σ1, σ2, e1, e2, hI2⟩ := hst.2.2.2.2.2.2.2.2.2.2.2.1 sw σ (xs (i + 1)) (xs (i + 2)) (xs (i + 3)) (xs (i + 4)) hI
        exact lc_11 hL hi5 (ly11 sw) (ly12 sw) e1 e2 (hnext sw σ2 hI2)
      have ne11 := lv_neT (a := 11) hc (by decide)
      clear hc
      by_cases hc : x = 12
      · refine lj_tin (tgt := 692) (k := 12) (off := 659) dL_law_33 hc (by decide) (by decide) (by decide) (by decide) ?_
        obtain ⟨r, σ1, σ2, e1, e2, hI2⟩ := hst.2.2.2.2.2.2.2.2.2.2.2.2.1 sw σ hI
        exact lc_12 hL hi5 (ly11 sw) (ly12 sw) e1 e2 (hnext sw σ2 hI2)
      have ne12 := lv_neT (a := 12) hc (by decide)
      clear hc
      by_cases hc : x = 13
      · refine lj_tin (tgt := 705) (k := 13) (off := 672) dL_law_33 hc (by decide) (by decide) (by decide) (by decide) ?_
        by_cases hv : xs (i + 3) = 0
        · obtain ⟨r, σ1, σ2, e1, e2, hI2⟩ := hst.2.2.2.2.2.2.2.2.2.2.2.2.2.1 sw σ (xs (i + 1)) (xs (i + 2)) false hI
          exact lc_13f hL hi5 hv (ly11 sw) (ly12 sw) e1 e2 (hnext sw σ2 hI2)
        · obtain ⟨r, σ1, σ2, e1, e2, hI2⟩ := hst.2.2.2.2.2.2.2.2.2.2.2.2.2.1 sw σ (xs (i + 1)) (xs (i + 2)) true hI
          exact lc_13t hL hi5 hv (ly11 sw) (ly12 sw) e1 e2 (hnext sw σ2 hI2)
      have ne13 := lv_neT (a := 13) hc (by decide)
      clear hc
      by_cases hc : x = 14
      · refine lj_tin (tgt := 764) (k := 14) (off := 731) dL_law_33 hc (by decide) (by decide) (by decide) (by decide) ?_
        obtain ⟨r, σ1, σ2, e1, e2, hI2⟩ := hst.2.2.2.2.2.2.2.2.2.2.2.2.2.2.1 sw σ hI
        exact lc_14 hL hi5 (ly11 sw) (ly12 sw) e1 e2 (hnext sw σ2 hI2)
      have ne14 := lv_neT (a := 14) hc (by decide)
      clear hc
      by_cases hc : x = 15
      · refine lj_tin (tgt := 777) (k := 15) (off := 744) dL_law_33 hc (by decide) (by decide) (by decide) (by decide) ?_
        obtain ⟨r, σ1, σ2, e1, e2, hI2⟩ := hst.2.2.2.2.2.2.2.2.2.2.2.2.2.2.2.1 sw σ hI
        exact lc_15 hL hi5 (ly11 sw) (ly12 sw) e1 e2 (hnext sw σ2 hI2)
      have ne15 := lv_neT (a := 15) hc (by decide)
      clear hc
      by_cases hc : x = 16
      · refine lj_tin (tgt := 790) (k := 16) (off := 757) dL_law_33 hc (by decide) (by decide) (by decide) (by decide) ?_
        obtain ⟨r, σ1, σ2, e1, e2, hI2⟩ := hst.2.2.2.2.2.2.2.2.2.2.2.2.2.2.2.2.1 sw σ (xs (i + 1)) hI
        exact lc_16 hL hi5 (ly11 sw) (ly12 sw) e1 e2 (hnext sw σ2 hI2)
      have ne16 := lv_neT (a := 16) hc (by decide)
      clear hc
      by_cases hc : x = 17
      · refine lj_tin (tgt := 813) (k := 17) (off := 780) dL_law_33 hc (by decide) (by decide) (by decide) (by decide) ?_
        obtain ⟨r, σ1, σ2, e1, e2, hI2⟩ := hst.2.2.2.2.2.2.2.2.2.2.2.2.2.2.2.2.2.1 sw σ (xs (i + 1)) hI
        exact lc_17 hL hi5 (ly11 sw) (ly12 sw) e1 e2 (hnext sw σ2 hI2)
      have ne17 := lv_neT (a := 17) hc (by decide)
      clear hc
      by_cases hc : x = 18
      · refine lj_tin (tgt := 836) (k := 18) (off := 803) dL_law_33 hc (by decide) (by decide) (by decide) (by decide) ?_
        obtain ⟨r, σ1, σ2, e1, e2, hI2⟩ := hst.2.2.2.2.2.2.2.2.2.2.2.2.2.2.2.2.2.2.1 sw σ (xs (i + 1)) (xs (i + 2)) hI
        exact lc_18 hL hi5 (ly11 sw) (ly12 sw) e1 e2 (hnext sw σ2 hI2)
      have ne18 := lv_neT (a := 18) hc (by decide)
      clear hc
      by_cases hc : x = 19
      · refine lj_tin (tgt := 869) (k := 19) (off := 836) dL_law_33 hc (by decide) (by decide) (by decide) (by decide) ?_
        obtain ⟨r, σ1, σ2, e1, e2, hI2⟩ := hst.2.2.2.2.2.2.2.2.2.2.2.2.2.2.2.2.2.2.2.1 sw σ (xs (i + 1)) (xs (i + 2)) hI
        exact lc_19 hL hi5 (ly11 sw) (ly12 sw) e1 e2 (hnext sw σ2 hI2)
      have ne19 := lv_neT (a := 19) hc (by decide)
      clear hc
      by_cases hc : x = 20
      · refine lj_tin (tgt := 902) (k := 20) (off := 869) dL_law_33 hc (by decide) (by decide) (by decide) (by decide) ?_
        by_cases hv : xs (i + 2) = 0
        · obtain ⟨r, σ1, σ2, e1, e2, hI2⟩ := hst.2.2.2.2.2.2.2.2.2.2.2.2.2.2.2.2.2.2.2.2.1 sw σ (xs (i + 1)) false (xs (i + 3)) hI
          exact lc_20f hL hi5 hv (ly11 sw) (ly12 sw) e1 e2 (hnext sw σ2 hI2)
        · obtain ⟨r, σ1, σ2, e1, e2, hI2⟩ := hst.2.2.2.2.2.2.2.2.2.2.2.2.2.2.2.2.2.2.2.2.1 sw σ (xs (i + 1)) true (xs (i + 3)) hI
          exact lc_20t hL hi5 hv (ly11 sw) (ly12 sw) e1 e2 (hnext sw σ2 hI2)
      have ne20 := lv_neT (a := 20) hc (by decide)
      clear hc
      by_cases hc : x = 21
      · refine lj_tin (tgt := 961) (k := 21) (off := 928) dL_law_33 hc (by decide) (by decide) (by decide) (by decide) ?_
        obtain ⟨r, σ1, σ2, e1, e2, hI2⟩ := hst.2.2.2.2.2.2.2.2.2.2.2.2.2.2.2.2.2.2.2.2.2.1 sw σ hI
        exact lc_21 hL hi5 (ly11 sw) (ly12 sw) e1 e2 (hnext sw σ2 hI2)
      have ne21 := lv_neT (a := 21) hc (by decide)
      clear hc
      by_cases hc : x = 22
      · refine lj_tin (tgt := 974) (k := 22) (off := 941) dL_law_33 hc (by decide) (by decide) (by decide) (by decide) ?_
        obtain ⟨r, σ1, σ2, e1, e2, hI2⟩ := hst.2.2.2.2.2.2.2.2.2.2.2.2.2.2.2.2.2.2.2.2.2.2.1 sw σ (xs (i + 1)) (xs (i + 2)) (xs (i + 3)) hI
        exact lc_22 hL hi5 (ly11 sw) (ly12 sw) e1 e2 (hnext sw σ2 hI2)
      have ne22 := lv_neT (a := 22) hc (by decide)
      clear hc
      by_cases hc : x = 23
      · refine lj_tin (tgt := 1017) (k := 23) (off := 984) dL_law_33 hc (by decide) (by decide) (by decide) (by decide) ?_
        obtain ⟨r, σ1, σ2, e1, e2, hI2⟩ := hst.2.2.2.2.2.2.2.2.2.2.2.2.2.2.2.2.2.2.2.2.2.2.2.1 sw σ (xs (i + 1)) hI
        exact lc_23 hL hi5 (ly11 sw) (ly12 sw) e1 e2 (hnext sw σ2 hI2)
      have ne23 := lv_neT (a := 23) hc (by decide)
      clear hc
      by_cases hc : x = 24
      · refine lj_tin (tgt := 1040) (k := 24) (off := 1007) dL_law_33 hc (by decide) (by decide) (by decide) (by decide) ?_
        obtain ⟨r, σ1, σ2, e1, e2, hI2⟩ := hst.2.2.2.2.2.2.2.2.2.2.2.2.2.2.2.2.2.2.2.2.2.2.2.2.1 sw σ hI
        exact lc_24 hL hi5 (ly11 sw) (ly12 sw) e1 e2 (hnext sw σ2 hI2)
      have ne24 := lv_neT (a := 24) hc (by decide)
      clear hc
      by_cases hc : x = 25
      · refine lj_tin (tgt := 1053) (k := 25) (off := 1020) dL_law_33 hc (by decide) (by decide) (by decide) (by decide) ?_
        obtain ⟨r, σ1, σ2, e1, e2, hI2⟩ := hst.2.2.2.2.2.2.2.2.2.2.2.2.2.2.2.2.2.2.2.2.2.2.2.2.2.1 sw σ (xs (i + 1)) hI
        exact lc_25 hL hi5 (ly11 sw) (ly12 sw) e1 e2 (hnext sw σ2 hI2)
      have ne25 := lv_neT (a := 25) hc (by decide)
      clear hc
      by_cases hc : x = 26
      · refine lj_tin (tgt := 1076) (k := 26) (off := 1043) dL_law_33 hc (by decide) (by decide) (by decide) (by decide) ?_
        obtain ⟨r, e1, e2⟩ := hst.2.2.2.2.2.2.2.2.2.2.2.2.2.2.2.2.2.2.2.2.2.2.2.2.2.2.1 sw σ (xs (i + 1)) hI
        exact lc_26 hL hi5 (ly11 sw) (ly12 sw) e1 e2 (hnext sw σ hI)
      have ne26 := lv_neT (a := 26) hc (by decide)
      clear hc
      by_cases hc : x = 27
      · refine lj_tin (tgt := 1099) (k := 27) (off := 1066) dL_law_33 hc (by decide) (by decide) (by decide) (by decide) ?_
        by_cases hv : xs (i + 5) = 0
        · obtain ⟨r, σ1, σ2, e1, e2, hI2⟩ := hst.2.2.2.2.2.2.2.2.2.2.2.2.2.2.2.2.2.2.2.2.2.2.2.2.2.2.2.1 sw σ (xs (i + 1)) (xs (i + 2)) (xs (i + 3)) (xs (i + 4)) false hI
          exact lc_27f hL hi5 hv (ly11 sw) (ly12 sw) e1 e2 (hnext sw σ2 hI2)
        · obtain ⟨r, σ1, σ2, e1, e2, hI2⟩ := hst.2.2.2.2.2.2.2.2.2.2.2.2.2.2.2.2.2.2.2.2.2.2.2.2.2.2.2.1 sw σ (xs (i + 1)) (xs (i + 2)) (xs (i + 3)) (xs (i + 4)) true hI
          exact lc_27t hL hi5 hv (ly11 sw) (ly12 sw) e1 e2 (hnext sw σ2 hI2)
      have ne27 := lv_neT (a := 27) hc (by decide)
      clear hc
      by_cases hc : x = 28
      · refine lj_tin (tgt := 1178) (k := 28) (off := 1145) dL_law_33 hc (by decide) (by decide) (by decide) (by decide) ?_
        obtain ⟨r, σ1, σ2, e1, e2, hI2⟩ := hst.2.2.2.2.2.2.2.2.2.2.2.2.2.2.2.2.2.2.2.2.2.2.2.2.2.2.2.2.1 sw σ (xs (i + 1)) hI
        exact lc_28 hL hi5 (ly11 sw) (ly12 sw) e1 e2 (hnext sw σ2 hI2)
      have ne28 := lv_neT (a := 28) hc (by decide)
      clear hc
      by_cases hc : x = 29
      · refine lj_tin (tgt := 1201) (k := 29) (off := 1168) dL_law_33 hc (by decide) (by decide) (by decide) (by decide) ?_
        obtain ⟨r, σ1, σ2, e1, e2, hI2⟩ := hst.2.2.2.2.2.2.2.2.2.2.2.2.2.2.2.2.2.2.2.2.2.2.2.2.2.2.2.2.2.1 sw σ (xs (i + 1)) hI
        exact lc_29 hL hi5 (ly11 sw) (ly12 sw) e1 e2 (hnext sw σ2 hI2)
      have ne29 := lv_neT (a := 29) hc (by decide)
      clear hc
      by_cases hc : x = 30
      · refine lj_tin (tgt := 1224) (k := 30) (off := 1191) dL_law_33 hc (by decide) (by decide) (by decide) (by decide) ?_
        obtain ⟨r, σ1, σ2, e1, e2, hI2⟩ := hst.2.2.2.2.2.2.2.2.2.2.2.2.2.2.2.2.2.2.2.2.2.2.2.2.2.2.2.2.2.2.1 sw σ (xs (i + 1)) (xs (i + 2)) (xs (i + 3)) (xs (i + 4)) hI
        exact lc_30 hL hi5 (ly11 sw) (ly12 sw) e1 e2 (hnext sw σ2 hI2)
      have ne30 := lv_neT (a := 30) hc (by decide)
      clear hc
      by_cases hc : x = 31
      · refine lj_tin (tgt := 1277) (k := 31) (off := 1244) dL_law_33 hc (by decide) (by decide) (by decide) (by decide) ?_
        obtain ⟨r, σ1, σ2, e1, e2, hI2⟩ := hst.2.2.2.2.2.2.2.2.2.2.2.2.2.2.2.2.2.2.2.2.2.2.2.2.2.2.2.2.2.2.2.1 sw σ (xs (i + 1)) (xs (i + 2)) (xs (i + 3)) (xs (i + 4)) hI
        exact lc_31 hL hi5 (ly11 sw) (ly12 sw) e1 e2 (hnext sw σ2 hI2)
      have ne31 := lv_neT (a := 31) hc (by decide)
      clear hc
      by_cases hc : x = 32
      · refine lj_tin (tgt := 1330) (k := 32) (off := 1297) dL_law_33 hc (by decide) (by decide) (by decide) (by decide) ?_
        obtain ⟨r, σ1, σ2, e1, e2, hI2⟩ := hst.2.2.2.2.2.2.2.2.2.2.2.2.2.2.2.2.2.2.2.2.2.2.2.2.2.2.2.2.2.2.2.2.1 sw σ (xs (i + 1)) hI
        exact lc_32 hL hi5 (ly11 sw) (ly12 sw) e1 e2 (hnext sw σ2 hI2)
      have ne32 := lv_neT (a := 32) hc (by decide)
      clear hc
      by_cases hc : x = 33
      · refine lj_tin (tgt := 1353) (k := 33) (off := 1320) dL_law_33 hc (by decide) (by decide) (by decide) (by decide) ?_
        obtain ⟨r, σ1, σ2, e1, e2, hI2⟩ := hst.2.2.2.2.2.2.2.2.2.2.2.2.2.2.2.2.2.2.2.2.2.2.2.2.2.2.2.2.2.2.2.2.2.1 sw σ (xs (i + 1)) hI
        exact lc_33 hL hi5 (ly11 sw) (ly12 sw) e1 e2 (hnext sw σ2 hI2)
      have ne33 := lv_neT (a := 33) hc (by decide)
      clear hc
      by_cases hc : x = 34
      · refine lj_tin (tgt := 1376) (k := 34) (off := 1343) dL_law_33 hc (by decide) (by decide) (by decide) (by decide) ?_
        obtain ⟨r, e1, e2⟩ := hst.2.2.2.2.2.2.2.2.2.2.2.2.2.2.2.2.2.2.2.2.2.2.2.2.2.2.2.2.2.2.2.2.2.2 sw σ (xs (i + 1)) hI
        exact lc_34 hL hi5 (ly11 sw) (ly12 sw) e1 e2 (hnext sw σ hI)
      have ne34 := lv_neT (a := 34) hc (by decide)
      clear hc
      refine lj_tout (tgt := 1399) dL_law_33 (by omega) (by decide) ?_
      exact hnext sw σ hI

end
