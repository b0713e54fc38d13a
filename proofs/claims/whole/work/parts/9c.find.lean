/-! names that are told already, both sides -/
section FIND
variable {σ σ' ρ ρ' : St_} {n i : Nat} {T : Nat → Nat} {τ : Tkn}
/-- names: in a row of the class, in the reference's row from a place on -/
def NmC (a : Nat) (NL : List (List Nat)) (σ : St_) : Prop := ∀ k l, NL[k]? = some l → σ.2 a k = lN (l.foldl g27 0)
def NmR (f : Nat) (NL : List (List Nat)) (ρ : St_) : Prop := ∀ k l, NL[k]? = some l → ρ.2 235 (f + k) = lN (l.foldl g256 0)
def NmO (NL : List (List Nat)) : Prop := (∀ l ∈ NL, lets l) ∧ NL.Nodup
/-- where a name is -/
def fiN (l : List Nat) : List (List Nat) → Nat → Option Nat
  | [], _ => none
  | m :: NL, k => if m = l then some k else fiN l NL (k + 1)
theorem fiN_none {l : List Nat} : ∀ (NL : List (List Nat)) k, fiN l NL k = none ↔ ¬ l ∈ NL
  | [], k => by simp [fiN]
  | m :: NL, k => by
    unfold fiN
    by_cases q : m = l
    · rw [if_pos q]; simp [q]
    · rw [if_neg q, fiN_none NL (k + 1)]
      have q' : ¬ l = m := fun e => q e.symm
      simp [q']
theorem fiN_lt {l : List Nat} : ∀ (NL : List (List Nat)) k j, fiN l NL k = some j → k ≤ j ∧ j < k + NL.length
  | [], k, j, h => by cases h
  | m :: NL, k, j, h => by
    unfold fiN at h
    rw [List.length_cons]
    by_cases q : m = l
    · rw [if_pos q] at h; cases h; omega
    · rw [if_neg q] at h
      have := fiN_lt NL (k + 1) j h
      omega
/-- the class is at a NAME -/
theorem c_name (h : AtC T n i τ σ) (q1 : τ.1 = 1) (hn : wnum τ.2.2.1 = none) : σ.2 7 i = lN (τ.2.2.1.foldl g27 0) := by
  rw [h.tok.2.2 (by omega) (by omega)]
  unfold cva
  rw [if_neg (by omega), if_pos q1, hn]
theorem c_place_L2 (h : AtC T n i τ σ) (q1 : τ.1 = 1) (hn : wnum τ.2.2.1 = none) {a an : Nat} {NL : List (List Nat)} (hN : NmC a NL σ) (hO : NmO NL) (hl : NL.length ≤ an) (han : an < 100) : ∀ r m k, k + r = NL.length → r < m → mX4_placeOf_L2 1 a an σ (nI NL.length) m (nI k) = some (encO (fiN τ.2.2.1 (NL.drop k) k))
  | 0, m, k, hk, hm => by
    obtain ⟨m, rfl, -⟩ := fu_suc hm
    unfold mX4_placeOf_L2
    rw [if_pos (nI_le (by omega) (by omega)), List.drop_eq_nil_of_le (by omega)]
    rfl
  | r + 1, m, k, hk, hm => by
    have hi := h.2.1
    obtain ⟨m, rfl, hm⟩ := fu_suc hm
    have ih := c_place_L2 h q1 hn hN hO hl han r m (k + 1) (by omega) (by omega)
    have kl : k < NL.length := by omega
    have hk' : NL[k]? = some NL[k] := List.getElem?_eq_getElem kl
    have hm' : NL[k] ∈ NL := List.getElem_mem kl
    rw [List.drop_eq_getElem_cons kl]
    unfold mX4_placeOf_L2 fiN
    simp only [bnd_eq]
    rw [if_neg (nI_ge (by omega) (by omega)), if_neg (show ¬ Int32.ofNat an ≤ nI k from nI_ge (by omega) (by omega)), binn (show k < an by omega) (by omega), if_pos rfl, pn_cl (show k < 2 ^ 31 by omega), show 1 + 2 = 3 from rfl, h.2.2.2.2, binn hi (by omega), if_pos rfl, pn_cl (show i < 2 ^ 31 by omega), show 3 + 4 = 7 from rfl, c_name h q1 hn, hN k _ hk', nI_1, ih]
    by_cases q : NL[k] = τ.2.2.1
    · rw [if_pos ((lcmp_0 _ _).mpr (by rw [q])), if_pos q]
      rfl
    · rw [if_neg (fun e => q ((w27_iff (hO.1 _ hm') (h.2.2.1.2.1 q1)).mp ((lcmp_0 _ _).mp e))), if_neg q]
theorem c_place (h : AtC T n i τ σ) (q1 : τ.1 = 1) (hn : wnum τ.2.2.1 = none) {a an : Nat} {NL : List (List Nat)} (hN : NmC a NL σ) (hO : NmO NL) (hl : NL.length ≤ an) (han : an < 100) : mX4_placeOf 1 a an (nI NL.length) σ = some (encO (fiN τ.2.2.1 NL 0)) := by
  have := c_place_L2 h q1 hn hN hO hl han NL.length FU 0 (by omega) (by unfold FU; omega)
  rw [show nI 0 = (0 : Int32) from rfl, List.drop_zero] at this
  unfold mX4_placeOf
  exact this
theorem r_find_L5 (h : AtR T n τ ρ) (q1 : τ.1 = 1) {f : Nat} {NL : List (List Nat)} (hN : NmR f NL ρ) (hO : NmO NL) (hl : f + NL.length ≤ 32) : ∀ r m k (x : Int32), k + r = NL.length → r < m → mX12_find_L5 233 ρ (nI f) (nI NL.length) m x (nI k) = some (if fiN τ.2.2.1 (NL.drop k) k = none then x else encO (fiN τ.2.2.1 (NL.drop k) k))
  | 0, m, k, x, hk, hm => by
    obtain ⟨m, rfl, -⟩ := fu_suc hm
    unfold mX12_find_L5
    rw [if_pos (nI_le (by omega) (by omega)), List.drop_eq_nil_of_le (by omega), if_pos (show fiN τ.2.2.1 [] k = none from rfl)]
  | r + 1, m, k, x, hk, hm => by
    obtain ⟨m, rfl, hm⟩ := fu_suc hm
    have ih := fun x => r_find_L5 h q1 hN hO hl r m (k + 1) x (by omega) (by omega)
    have kl : k < NL.length := by omega
    have hk' : NL[k]? = some NL[k] := List.getElem?_eq_getElem kl
    have hm' : NL[k] ∈ NL := List.getElem_mem kl
    have hw : ρ.2 233 9 = lN (τ.2.2.1.foldl g256 0) := h.2.2.2.2.1 q1
    have ed := List.drop_eq_getElem_cons kl
    have nd : (NL.drop k).Nodup := hO.2.sublist (List.drop_sublist k NL)
    rw [ed] at nd ⊢
    unfold mX12_find_L5
    simp only [bnd_eq]
    rw [if_neg (nI_ge (by omega) (by omega)), nI_add, binn (show f + k < 32 by omega) (by omega), if_pos rfl, pn_cl (by omega), show 233 + 2 = 235 from rfl, hw, hN k _ hk', nI_1, ih, ih]
    by_cases q : NL[k] = τ.2.2.1
    · have e1 : fiN τ.2.2.1 (NL[k] :: NL.drop (k + 1)) k = some k := by
        conv => lhs; unfold fiN
        rw [if_pos q]
      have e2 : fiN τ.2.2.1 (NL.drop (k + 1)) (k + 1) = none := (fiN_none _ _).mpr (by rw [← q]; exact (List.nodup_cons.mp nd).1)
      rw [if_pos ((lcmp_0 _ _).mpr (by rw [q])), e1, e2, if_pos rfl, if_neg (by simp)]
      rfl
    · have e1 : fiN τ.2.2.1 (NL[k] :: NL.drop (k + 1)) k = fiN τ.2.2.1 (NL.drop (k + 1)) (k + 1) := by
        conv => lhs; unfold fiN
        rw [if_neg q]
      rw [if_neg (fun e => q ((w256_iff (hO.1 _ hm') (h.1.2.1 q1)).mp ((lcmp_0 _ _).mp e))), e1]
theorem r_find (h : AtR T n τ ρ) (q1 : τ.1 = 1) {f : Nat} {NL : List (List Nat)} (hN : NmR f NL ρ) (hO : NmO NL) (hl : f + NL.length ≤ 32) : mX12_find 233 (nI f) (nI NL.length) ρ = some (encO (fiN τ.2.2.1 NL 0)) := by
  have := r_find_L5 h q1 hN hO hl NL.length FU 0 (-1) (by omega) (by unfold FU; omega)
  rw [show nI 0 = (0 : Int32) from rfl, List.drop_zero] at this
  unfold mX12_find
  rw [this]
  cases fiN τ.2.2.1 NL 0 with
  | none => rfl
  | some j => rfl
end FIND
