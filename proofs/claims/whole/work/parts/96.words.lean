/-! words and signs of the class -/
section WORDS
variable {σ σ' ρ : St_} {n : Nat} {T : Nat → Nat}
def σz : St_ := (fun _ _ => 0, fun _ _ => 0)
/-- a sign of the class' row of words -/
def wch (i : Nat) : Nat := ((SBYT.getD 1 []).getD i 0).toNatClampNeg
theorem c_wch0 : ∀ i : Fin 200, mJ0_charAt_5068e 1 (nI i.1) σz = some (nI (wch i.1)) := by decide +kernel
theorem c_wch {i : Nat} (h : i < 200) : mJ0_charAt_5068e 1 (nI i) σ = some (nI (wch i)) := c_wch0 ⟨i, h⟩
theorem wch_lt {i : Nat} (h : i < 200) : wch i < 256 := by
  have : ∀ i : Fin 200, wch i.1 < 256 := by decide +kernel
  exact this ⟨i, h⟩
theorem c_wlen : mJ0_length_8abf5 1 σ = some 200 := by
  have : mJ0_length_8abf5 1 σz = some 200 := by decide +kernel
  exact this
theorem tk_get {p : Nat → Bool} {d : Nat} : ∀ k s i, i < (tk p T n k s).length → (tk p T n k s).getD i d = T (s + i)
  | 0, s, i, h => by simp [tk] at h
  | k + 1, s, i, h => by
    by_cases q : s < n ∧ p (T s) = true
    · rw [tk_pos q.1 q.2] at h ⊢
      cases i with
      | zero => rfl
      | succ i =>
        rw [List.length_cons] at h
        have := tk_get (p := p) (d := d) k (s + 1) i (by omega)
        rw [List.getD_cons_succ, this]
        congr 1; omega
    · rw [tk_neg q] at h
      simp at h
/-- whether a word fills a cell, from a place on -/
def cellF (l : List Nat) (w : Nat) : Nat → Nat → Bool
  | 0, _ => true
  | r + 1, i => if wch (8 * w + i) = l.getD i 32 then cellF l w r (i + 1) else false
theorem c_fills {p : Nat} {l : List Nat} (hT : TapC T n σ) (hl : p + l.length ≤ n) (hg : ∀ i, i < l.length → l.getD i 32 = T (p + i)) {w : Nat} (hw : w < 25) : ∀ r m i, i + r = 8 → r < m → mX10_fillsCell_L3 3 σ (nI (8 * w)) (nI p) (nI (p + l.length)) m (nI i) = some (cellF l w r i)
  | 0, m, i, hi, hm => by
    obtain ⟨m, rfl, -⟩ := fu_suc hm
    unfold mX10_fillsCell_L3
    rw [if_pos (show (8 : Int32) ≤ nI i from nI_le (a := 8) (by omega) (by omega))]
    rfl
  | r + 1, m, i, hi, hm => by
    have h0 := hT.1
    obtain ⟨m, rfl, hm⟩ := fu_suc hm
    have ih := c_fills hT hl hg hw r m (i + 1) (by omega) (by omega)
    have hwl := wch_lt (show 8 * w + i < 200 by omega)
    have e : (if nI (p + l.length) ≤ nI p + nI i then (32 : Int32) else nI (T (p + i))) = nI (l.getD i 32) ∧ l.getD i 32 < 256 := by
      rw [nI_add]
      by_cases q : p + l.length ≤ p + i
      · have : l.getD i 32 = 32 := by
          rw [List.getD_eq_getElem?_getD, List.getElem?_eq_none (by omega)]; rfl
        rw [if_pos (nI_le q (by omega)), this]
        exact ⟨rfl, by omega⟩
      · rw [if_neg (nI_ge (by omega) (by omega)), hg i (by omega)]
        exact ⟨rfl, hT.2.1 _ (by omega)⟩
    unfold mX10_fillsCell_L3 cellF
    simp only [bnd_eq]
    rw [if_neg (show ¬ (8 : Int32) ≤ nI i from nI_ge (b := 8) (by omega) (by omega)), nI_add (8 * w), c_wch (by omega), obs_eq, obs_eq, nI_1, ih]
    have fin : ∀ x : Int32, x = nI (l.getD i 32) → (if nI (wch (8 * w + i)) = x then some (cellF l w r (i + 1)) else some false) = some (if wch (8 * w + i) = l.getD i 32 then cellF l w r (i + 1) else false) := fun x hx => by
      rw [hx]
      by_cases q : wch (8 * w + i) = l.getD i 32
      · rw [if_pos (by rw [q]), if_pos q]
      · rw [if_neg (fun w' => q ((nI_eq (by omega) (by have := e.2; omega)).mp w')), if_neg q]
    by_cases q : p + l.length ≤ p + i
    · have e1 := e.1
      rw [nI_add, if_pos (nI_le q (by omega))] at e1
      rw [nI_add, if_pos (nI_le q (by omega))]
      exact fin _ e1
    · have e1 := e.1
      rw [nI_add, if_neg (nI_ge (by omega) (by omega))] at e1
      rw [nI_add, if_neg (nI_ge (by omega) (by omega)), binn (show p + i < 1700 by omega) (by omega), if_pos rfl, pn_cl (by omega), show 3 + 1 = 4 from rfl, hT.2.2.2 _ (by omega)]
      exact fin _ e1
/-- which word it is -/
def wnF (l : List Nat) : Nat → Nat → Option Nat
  | 0, _ => none
  | r + 1, w => if cellF l w 8 0 = true then some w else wnF l r (w + 1)
def wnum (l : List Nat) : Option Nat := wnF l 25 0
theorem c_wnum_L2 {p : Nat} {l : List Nat} (hT : TapC T n σ) (hl : p + l.length ≤ n) (hg : ∀ i, i < l.length → l.getD i 32 = T (p + i)) : ∀ r m w, w + r = 25 → r < m → mX10_wordNumber_L2 3 σ (nI p) (nI (p + l.length)) m (nI w) = some (encO (wnF l r w))
  | 0, m, w, hw, hm => by
    obtain ⟨m, rfl, -⟩ := fu_suc hm
    unfold mX10_wordNumber_L2
    rw [c_wlen, obs_eq, nI_1, show (8 : Int32) = nI 8 from rfl, nI_mul, if_pos (show (200 : Int32) < nI ((w + 1) * 8) from nI_lt (a := 200) (by omega) (by omega))]
    rfl
  | r + 1, m, w, hw, hm => by
    obtain ⟨m, rfl, hm⟩ := fu_suc hm
    have ih := c_wnum_L2 hT hl hg r m (w + 1) (by omega) (by omega)
    have hf := c_fills hT hl hg (w := w) (by omega) 8 FU 0 (by omega) (by unfold FU; omega)
    rw [show nI 0 = (0 : Int32) from rfl] at hf
    have hf' : mX10_fillsCell 3 (nI (8 * w)) (nI p) (nI (p + l.length)) σ = some (cellF l w 8 0) := by
      unfold mX10_fillsCell
      exact hf
    unfold mX10_wordNumber_L2 wnF
    rw [c_wlen, obs_eq, nI_1, show (8 : Int32) = nI 8 from rfl, nI_mul, nI_mul, if_neg (show ¬ (200 : Int32) < nI ((w + 1) * 8) from nI_nlt (a := 200) (by omega) (by omega)), Nat.mul_comm w 8, hf', obs_eq, ih]
    cases cellF l w 8 0
    · rw [if_neg (by simp), if_neg (by simp)]
    · rw [if_pos rfl, if_pos rfl]; rfl
theorem c_wnum {p : Nat} {l : List Nat} (hT : TapC T n σ) (hl : p + l.length ≤ n) (hg : ∀ i, i < l.length → l.getD i 32 = T (p + i)) : mX10_wordNumber 3 (nI p) (nI (p + l.length)) σ = some (encO (wnum l)) := by
  have := c_wnum_L2 hT hl hg 25 FU 0 (by omega) (by unfold FU; omega)
  rw [show nI 0 = (0 : Int32) from rfl] at this
  unfold mX10_wordNumber
  exact this
/-- the place of a sign in the class' row of signs -/
def idxF (x : Int32) : Nat → Nat → Option Nat
  | 0, _ => none
  | r + 1, i => if (SBYT.getD 0 []).getD i 0 = x then some i else idxF x r (i + 1)
theorem c_idx_L7 {x : Int32} : ∀ r m i, i + r = 11 → r < m → mJ1_indexOfChar_4cfef_L7 0 σ 11 x m (nI i) = some (encO (idxF x r i))
  | 0, m, i, hi, hm => by
    obtain ⟨m, rfl, -⟩ := fu_suc hm
    unfold mJ1_indexOfChar_4cfef_L7
    rw [if_pos (show (11 : Int32) ≤ nI i from nI_le (a := 11) (by omega) (by omega))]
    rfl
  | r + 1, m, i, hi, hm => by
    obtain ⟨m, rfl, hm⟩ := fu_suc hm
    have ih := c_idx_L7 (x := x) r m (i + 1) (by omega) (by omega)
    unfold mJ1_indexOfChar_4cfef_L7 idxF
    simp only [bnd_eq]
    rw [if_neg (show ¬ (11 : Int32) ≤ nI i from nI_ge (b := 11) (by omega) (by omega)), show SLEN.getD 0 0 = 11 from rfl, binn (show i < 11 by omega) (by omega), if_pos rfl, pn_cl (by omega), nI_1, ih]
    by_cases q : (SBYT.getD 0 []).getD i 0 = x
    · rw [if_pos q, if_pos q]; rfl
    · rw [if_neg q, if_neg q]
theorem idx_isS : ∀ c : Fin 256, (idxF ((((nI c.1).toUInt32 % 65536).toInt32).toInt8.toInt32) 11 0).isSome = isS c.1 ∧ ¬ ((nI c.1).toUInt32 % 65536).toInt32 < 0 ∧ ¬ (255 : Int32) < ((nI c.1).toUInt32 % 65536).toInt32 := by decide +kernel
theorem c_indexOf {c : Nat} (hc : c < 256) : ∃ r : Int32, mJ0_indexOf_0f7a4 0 (((nI c).toUInt32 % 65536).toInt32) σ = some r ∧ ((0 : Int32) ≤ r ↔ isS c = true) := by
  obtain ⟨h1, h2, h3⟩ := idx_isS ⟨c, hc⟩
  have L := c_idx_L7 (σ := σ) (x := (((nI c).toUInt32 % 65536).toInt32).toInt8.toInt32) 11 FU 0 (by omega) (by unfold FU; omega)
  rw [show nI 0 = (0 : Int32) from rfl] at L
  have hi : ∀ r i, i + r ≤ 11 → ∀ j, idxF ((((nI c).toUInt32 % 65536).toInt32).toInt8.toInt32) r i = some j → j < 11 := by
    intro r
    induction r with
    | zero => intro i _ j h; cases h
    | succ r ih =>
      intro i hr j h
      unfold idxF at h
      by_cases q : (SBYT.getD 0 []).getD i 0 = (((nI c).toUInt32 % 65536).toInt32).toInt8.toInt32
      · rw [if_pos q] at h; cases h; omega
      · rw [if_neg q] at h; exact ih (i + 1) (by omega) j h
  refine ⟨encO (idxF ((((nI c).toUInt32 % 65536).toInt32).toInt8.toInt32) 11 0), ?_, ?_⟩
  · have hlen : mJ0_length_8abf5 0 σ = some 11 := by
      have : mJ0_length_8abf5 0 σz = some 11 := by decide +kernel
      exact this
    have hlat : mJ0_isLatin1_aae02 0 σ = some true := rfl
    unfold mJ0_indexOf_0f7a4 mJ0_indexOf_7cf53 mJ1_indexOf_4cfef mJ1_canEncode_9a6ad mJ1_indexOfChar_4cfef
    simp only [bnd_eq]
    rw [hlat, obs_eq, if_pos rfl, hlen, obs_eq, if_neg h2, if_neg h3, obs_eq, if_pos rfl, if_neg (show ¬ (0 : Int32) < 0 by decide), show Int32.ofNat (SLEN.getD 0 0) = (11 : Int32) from rfl, if_neg (show ¬ (11 : Int32) < 11 by decide), if_pos (show (0 : Int32) < 11 by decide), L, obs_eq, obs_eq, obs_eq]
  · rw [← h1]
    have h11 := hi 11 0 (by omega)
    generalize idxF ((((nI c).toUInt32 % 65536).toInt32).toInt8.toInt32) 11 0 = o at h11
    cases o with
    | none => exact ⟨fun w => absurd w (by decide), fun w => by cases w⟩
    | some j => exact ⟨fun _ => rfl, fun _ => nI_pos' (by have := h11 j rfl; omega)⟩
end WORDS
