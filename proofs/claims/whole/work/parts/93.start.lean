/-! what holds between both at the start -/
section START
theorem i0_nums : ρI.2.1 233 51 = 0 ∧ ρI.2.1 233 52 = 0 ∧ ρI.2.1 233 53 = 0 ∧ ρI.2.1 233 54 = 0 ∧ ρI.2.1 12 1 = 0 ∧ ρI.2.1 12 2 = 0 ∧ ρI.2.1 12 3 = 0 ∧ ρI.2.1 12 4 = 0 := by decide +kernel
theorem i0_R : 1 ≤ nR ρI.2 ∧ nR ρI.2 ≤ 9 ∧ ρI.2.1 233 55 = nI (nR ρI.2) ∧ ρI.2.1 12 0 = nI (nR ρI.2) := by decide +kernel
theorem i0_tape : ρI.2.1 3 1 = 0 ∧ ρI.2.1 233 1 = 0 ∧ ρI.2.1 3 7 = ρI.2.1 233 2 ∧ ρI.2.1 3 8 = ρI.2.1 233 3 ∧ ρI.2.1 0 11 = 0 ∧ ρI.2.1 233 87 = 0 ∧ ρI.2.1 0 9 = 0 ∧ ρI.2.1 233 71 = 0 ∧ ρI.2.1 233 64 = -1 ∧ ρI.2.1 233 65 = -1 := by decide +kernel
theorem i0_law : ρI.2.1 23 5 = ρI.2.1 233 23 ∧ ρI.2.1 233 59 = 0 ∧ ρI.2.1 23 4 = 0 ∧ ρI.2.1 0 7 = 0 ∧ ρI.2.1 174 7 = 0 ∧ ρI.2.1 233 86 = 0 ∧ ρI.2.1 47 1 = 0 ∧ ρI.2.1 47 2 = 0 ∧ ρI.2.1 47 3 = 0 ∧ ρI.2.1 233 68 = 0 ∧ ρI.2.1 233 69 = 0 := by decide +kernel
theorem i0_said : ∀ j : Fin 50, ρI.2.1 21 j.1 = ρI.2.1 20 j.1 := by decide +kernel
theorem i0_box : ∀ j : Fin 3, ρI.2.1 278 j.1 = 0 := by decide +kernel
theorem i0_now : (∀ h : Fin 9, ρI.2.1 45 h.1 = 0) ∧ (∀ x : Fin 10, ρI.2.1 262 x.1 = -1) ∧ ρI.2.1 44 2 = 0 ∧ ρI.2.1 44 3 = 0 ∧ ρI.2.1 44 4 = 0 ∧ ρI.2.1 262 10 = 0 ∧ ρI.2.1 262 11 = 0 ∧ ρI.2.1 262 12 = 0 ∧ ∀ t : Fin 4, ρI.2.1 46 t.1 = ρI.2.1 262 (13 + t.1) := by decide +kernel
theorem i0_acts : (∀ h : Fin 9, ρI.2.1 50 h.1 = 0) ∧ ρI.2.1 49 2 = 0 ∧ ρI.2.1 49 3 = 0 ∧ ρI.2.1 49 4 = 0 ∧ ∀ t : Fin 4, ρI.2.1 51 t.1 = ρI.2.1 262 (13 + t.1) := by decide +kernel
theorem i0_N : nN ρI.2 = 0 ∧ nH ρI.2 = 0 ∧ nT ρI.2 = 0 ∧ nK ρI.2 = 0 := by
  obtain ⟨h1, h2, h3, h4, -⟩ := i0_nums
  unfold nN nH nT nK
  rw [h1, h2, h3, h4]
  decide
theorem i0_IS {s A : Nat} (h1 : ∀ h : Fin 9, ρI.2.1 (s + 1) h.1 = 0) (h2 : ∀ x : Fin 10, ρI.2.1 A x.1 = -1) (h3 : ρI.2.1 s 2 = 0) (h4 : ρI.2.1 s 3 = 0) (h5 : ρI.2.1 s 4 = 0) (h6 : ρI.2.1 A 10 = 0) (h7 : ρI.2.1 A 11 = 0) (h8 : ρI.2.1 A 12 = 0) (h9 : ∀ t : Fin 4, ρI.2.1 (s + 2) t.1 = ρI.2.1 A (13 + t.1)) : ISn ρI.2 s A 0 := by
  obtain ⟨n1, n2, n3, -⟩ := i0_N
  have r1 := i0_R.1
  show IS (nN ρI.2) (nH ρI.2) (nT ρI.2) (nR ρI.2) s A 0 ρI.2
  rw [n1, n2, n3]
  refine ⟨fun h hh => ⟨0, by omega, h1 ⟨h, hh⟩, fun x hx => by omega⟩, fun x hx => by omega, fun x _ hx => by rw [Nat.zero_add]; exact h2 ⟨x, hx⟩, ⟨0, by omega, h3, h6⟩, ⟨0, by omega, h4, h7⟩, ⟨0, by omega, h5, h8⟩, fun t ht => ?_⟩
  rw [Nat.zero_add]
  exact h9 ⟨t, ht⟩
theorem inv0 : INV false ρI.2 := by
  obtain ⟨n1, n2, n3, n4⟩ := i0_N
  obtain ⟨a1, a2, a3, a4, a5, a6, a7, a8⟩ := i0_nums
  obtain ⟨r1, r2, r3, r4⟩ := i0_R
  obtain ⟨t1, t2, t3, t4, t5, t6, t7, t8, t9, t10⟩ := i0_tape
  obtain ⟨l1, l2, l3, l4, l5, l6, l7, l8, l9, l10, l11⟩ := i0_law
  obtain ⟨o1, o2, o3, o4, o5, o6, o7, o8, o9⟩ := i0_now
  obtain ⟨c1, c2, c3, c4, c5⟩ := i0_acts
  refine ⟨⟨0, by omega, t1, t2, fun i hi => by omega⟩, ⟨t3, t4⟩, ⟨by rw [t5, t6], by rw [t5]; decide, by rw [t5]; decide⟩, ⟨0, by omega, t7, t8, fun i hi => by omega⟩, ⟨t9, t10⟩, ?_, fun x hx => by omega, fun x hx => by omega, fun x hx => by omega, fun x hx => by omega, fun j hj => i0_said ⟨j, hj⟩, ⟨l1, Or.inl ⟨l2, l3⟩⟩, ⟨by omega, i0_IS o1 o2 o3 o4 o5 o6 o7 o8 o9⟩, ⟨by omega, 0, 0, 0, by omega, by omega, by omega, l7, l8, l9, l10, l11, fun j hj => by omega, fun j _ hj => by omega, i0_IS c1 o2 c2 c3 c4 o6 o7 o8 c5⟩, ⟨by omega, 0, by omega, l4, fun b hb => ⟨?_, fun h => by simp at h⟩⟩, ⟨0, by omega, l5, l6, fun i hi => by omega⟩⟩
  · refine ⟨⟨by omega, ?_, ?_⟩, ⟨by omega, ?_, ?_⟩, ⟨by omega, ?_, ?_⟩, ⟨by omega, ?_, ?_⟩, r1, r2, r3, r4⟩
    · rw [n4]; exact a1
    · rw [n4]; exact a5
    · rw [n1]; exact a2
    · rw [n1]; exact a6
    · rw [n2]; exact a3
    · rw [n2]; exact a7
    · rw [n3]; exact a4
    · rw [n3]; exact a8
  · rw [i0_box ⟨b, hb⟩, Nat.zero_testBit]
    rfl
end START
