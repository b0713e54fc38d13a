/-! bytes come on the TAPE -/
section FEED
variable {σ σ' : St_} {c dr s t th : Nat}
def byt (x : Int32) (k : Nat) : Int32 := (x >>> (nI k &&& 31)) &&& 255
theorem tb_255 {i : Nat} (hi : i < 32) : tb 255 i = decide (i < 8) := by
  have : ∀ i : Fin 32, tb 255 i.1 = decide (i.1 < 8) := by decide +kernel
  exact this ⟨i, hi⟩
theorem tb_shr (x : Int32) {k i : Nat} (h : k + i < 32) : tb (x >>> (nI k &&& 31)) i = tb x (k + i) := by
  unfold tb
  have hs : (BitVec.ofNat 32 k).smod 32#32 = BitVec.ofNat 32 k := by
    have : ∀ x : Fin 32, (BitVec.ofNat 32 x.1).smod 32#32 = BitVec.ofNat 32 x.1 := by decide +kernel
    exact this ⟨k, by omega⟩
  have e : (x >>> (nI k &&& 31)).toBitVec = x.toBitVec.sshiftRight k := by
    rw [Int32.toBitVec_shiftRight, nI_bv (by omega)]
    show x.toBitVec.sshiftRight' ((BitVec.ofNat 32 k).smod 32#32) = _
    rw [hs]
    show x.toBitVec.sshiftRight (BitVec.ofNat 32 k).toNat = _
    congr 1
    simp; omega
  rw [e, BitVec.getLsbD_sshiftRight, if_pos h]
  have : ¬ 32 ≤ i := by omega
  simp [this]
theorem tb_ushr (x : Int32) {k i : Nat} (h : k + i < 32) : tb ((x.toUInt32 >>> ((nI k).toUInt32 &&& Int32.toUInt32 31)).toInt32) i = tb x (k + i) := by
  unfold tb
  have hs : ((nI k).toUInt32 &&& Int32.toUInt32 31 : UInt32).toBitVec % 32#32 = BitVec.ofNat 32 k := by
    have : ∀ x : Fin 32, ((nI x.1).toUInt32 &&& Int32.toUInt32 31 : UInt32).toBitVec % 32#32 = BitVec.ofNat 32 x.1 := by decide +kernel
    exact this ⟨k, by omega⟩
  have e : ((x.toUInt32 >>> ((nI k).toUInt32 &&& Int32.toUInt32 31)).toInt32).toBitVec = x.toBitVec >>> k := by
    rw [UInt32.toBitVec_toInt32, UInt32.toBitVec_shiftRight]
    show x.toBitVec >>> (((nI k).toUInt32 &&& Int32.toUInt32 31 : UInt32).toBitVec % 32#32) = _
    rw [hs, BitVec.ushiftRight_eq']
    congr 1
    simp; omega
  rw [e, BitVec.getLsbD_ushiftRight]
theorem byt_c (x : Int32) {k : Nat} (h : k ≤ 24) : ((x.toUInt32 >>> ((nI k).toUInt32 &&& Int32.toUInt32 31)).toInt32) &&& (255 : Int32) = byt x k := by
  unfold byt
  apply tb_ext
  intro i hi
  rw [tb_and, tb_and, tb_255 hi]
  by_cases q : i < 8
  · rw [tb_ushr x (by omega), tb_shr x (by omega)]
  · simp [q]
theorem byt_in (x : Int32) (k : Nat) : 0 ≤ byt x k ∧ byt x k ≤ 255 := by
  obtain ⟨m, m1, m2⟩ := set_of (v := byt x k) (n := 8) (by omega) (fun i h1 h2 => by
    unfold byt
    rw [tb_and, tb_255 h2]
    have : ¬ i < 8 := by omega
    simp [this])
  rw [m2]
  exact ⟨nI_pos' (by omega), nI_le (b := 255) (by omega) (by omega)⟩
def xsF : Nat → Int32
  | 0 => -8
  | r + 1 => nI (8 * r)
theorem xs_next {r : Nat} (h : r < 4) : xsF (r + 1) + (-8) = xsF r := by
  have : ∀ r : Fin 4, xsF (r.1 + 1) + (-8) = xsF r.1 := by decide
  exact this ⟨r, h⟩
theorem c_put_L (x : Int32) : ∀ r m n (σ : St_), r ≤ 4 → r < m → σ.1 3 1 = nI n → n + r ≤ 1700 → ∃ σ', mX10_put_L3 3 x m (xsF r) σ = some σ' ∧ σ'.1 3 1 = nI (n + r) ∧ (∀ i, i < r → σ'.1 4 (n + i) = byt x (8 * (r - 1 - i))) ∧ ∀ a b, ¬ (a = 3 ∧ b = 1) → ¬ (a = 4 ∧ n ≤ b ∧ b < n + r) → σ'.1 a b = σ.1 a b
  | 0, m, n, σ, hr, hm, h1, hn => by
    obtain ⟨m, rfl, -⟩ := fu_suc hm
    refine ⟨σ, ?_, h1, fun i hi => by omega, fun a b _ _ => rfl⟩
    unfold mX10_put_L3
    rw [if_pos (by decide)]
  | r + 1, m, n, σ, hr, hm, h1, hn => by
    obtain ⟨m, rfl, hm⟩ := fu_suc hm
    have A : (sI (sI σ 4 n (byt x (8 * r))) 3 1 (nI (n + 1))).1 3 1 = nI (n + 1) := by rw [sI_get, if_pos ⟨rfl, rfl⟩]
    obtain ⟨σ', e1, e2, e3, e4⟩ := c_put_L x r m (n + 1) (sI (sI σ 4 n (byt x (8 * r))) 3 1 (nI (n + 1))) (by omega) (by omega) A (by omega)
    refine ⟨σ', ?_, by rw [e2]; congr 1; omega, fun i hi => ?_, fun a b q1 q2 => ?_⟩
    · unfold mX10_put_L3
      simp only [bnd_eq]
      have g : (sI σ 4 n (byt x (8 * r))).1 3 1 = nI n := by rw [sI_get, if_neg (by omega)]; exact h1
      rw [if_neg (show ¬ xsF (r + 1) < 0 from nI_pos (show 8 * r < 2 ^ 31 by omega)), h1, if_neg (show ¬ (1700 : Int32) ≤ nI n from nI_ge (b := 1700) (by omega) (by omega)), binn (show n < 1700 by omega) (by omega), if_pos rfl, pn_cl (by omega), show xsF (r + 1) = nI (8 * r) from rfl, byt_c x (by omega), show 3 + 1 = 4 from rfl, g, nI_1, show nI (8 * r) + (-8) = xsF r from xs_next (by omega)]
      exact e1
    · by_cases q : i = 0
      · subst q
        rw [e4 _ _ (by omega) (by omega), sI_get, if_neg (by omega), sI_get, if_pos (by omega)]
        rfl
      · have := e3 (i - 1) (by omega)
        rw [show n + 1 + (i - 1) = n + i by omega] at this
        rw [this]
        congr 2
        omega
    · rw [e4 a b q1 (by omega), sI_get, if_neg (by omega), sI_get, if_neg (by omega)]
theorem r_four_L (x : Int32) : ∀ r m n (σ : St_), r ≤ 4 → r < m → σ.1 233 1 = nI n → n + r ≤ 1700 → ∃ σ', mX12_four_L3 233 x m (xsF r) σ = some σ' ∧ σ'.1 233 1 = nI (n + r) ∧ (∀ i, i < r → σ'.1 234 (n + i) = byt x (8 * (r - 1 - i))) ∧ ∀ a b, ¬ (a = 233 ∧ b = 1) → ¬ (a = 234 ∧ n ≤ b ∧ b < n + r) → σ'.1 a b = σ.1 a b
  | 0, m, n, σ, hr, hm, h1, hn => by
    obtain ⟨m, rfl, -⟩ := fu_suc hm
    refine ⟨σ, ?_, h1, fun i hi => by omega, fun a b _ _ => rfl⟩
    unfold mX12_four_L3
    rw [if_pos (by decide)]
  | r + 1, m, n, σ, hr, hm, h1, hn => by
    obtain ⟨m, rfl, hm⟩ := fu_suc hm
    have A : (sI (sI σ 234 n (byt x (8 * r))) 233 1 (nI (n + 1))).1 233 1 = nI (n + 1) := by rw [sI_get, if_pos ⟨rfl, rfl⟩]
    obtain ⟨σ', e1, e2, e3, e4⟩ := r_four_L x r m (n + 1) (sI (sI σ 234 n (byt x (8 * r))) 233 1 (nI (n + 1))) (by omega) (by omega) A (by omega)
    refine ⟨σ', ?_, by rw [e2]; congr 1; omega, fun i hi => ?_, fun a b q1 q2 => ?_⟩
    · unfold mX12_four_L3
      simp only [bnd_eq]
      have g : (sI σ 234 n (byt x (8 * r))).1 233 1 = nI n := by rw [sI_get, if_neg (by omega)]; exact h1
      rw [if_neg (show ¬ xsF (r + 1) < 0 from nI_pos (show 8 * r < 2 ^ 31 by omega)), h1, binn (show n < 1700 by omega) (by omega), if_pos rfl, pn_cl (by omega), show xsF (r + 1) = nI (8 * r) from rfl, show ((x >>> (nI (8 * r) &&& 31)) &&& (255 : Int32)) = byt x (8 * r) from rfl, show 233 + 1 = 234 from rfl, g, nI_1, show nI (8 * r) + (-8) = xsF r from xs_next (by omega)]
      exact e1
    · by_cases q : i = 0
      · subst q
        rw [e4 _ _ (by omega) (by omega), sI_get, if_neg (by omega), sI_get, if_pos (by omega)]
        rfl
      · have := e3 (i - 1) (by omega)
        rw [show n + 1 + (i - 1) = n + i by omega] at this
        rw [this]
        congr 2
        omega
    · rw [e4 a b q1 (by omega), sI_get, if_neg (by omega), sI_get, if_neg (by omega)]
theorem c_put {n : Nat} (h : σ.1 3 1 = nI n) (hn : n + 4 ≤ 1700) (x : Int32) : ∃ σ', mX10_put 3 x σ = some σ' ∧ σ'.1 3 1 = nI (n + 4) ∧ (∀ i, i < 4 → σ'.1 4 (n + i) = byt x (8 * (3 - i))) ∧ ∀ a b, ¬ (a = 3 ∧ b = 1) → ¬ (a = 4 ∧ n ≤ b ∧ b < n + 4) → σ'.1 a b = σ.1 a b := by
  unfold mX10_put
  exact c_put_L x 4 FU n σ (by omega) (by unfold FU; omega) h hn
theorem r_four {n : Nat} (h : σ.1 233 1 = nI n) (hn : n + 4 ≤ 1700) (x : Int32) : ∃ σ', mX12_four 233 x σ = some σ' ∧ σ'.1 233 1 = nI (n + 4) ∧ (∀ i, i < 4 → σ'.1 234 (n + i) = byt x (8 * (3 - i))) ∧ ∀ a b, ¬ (a = 233 ∧ b = 1) → ¬ (a = 234 ∧ n ≤ b ∧ b < n + 4) → σ'.1 a b = σ.1 a b := by
  unfold mX12_four
  exact r_four_L x 4 FU n σ (by omega) (by unfold FU; omega) h hn
theorem core_0 {tw : Nat} (a1 a2 a3 a4 a5 : Int32) (hI : Itape σ) : ∃ (r : Int32) (σ1 σ2 : St_), mX11_feed 0 tw dr a1 a2 a3 a4 a5 σ = some (r, σ1) ∧ mX12_feed 233 a1 a2 a3 a4 a5 σ1 = some (r, σ2) ∧ Itape σ2 := by
  obtain ⟨n, hn, h1, h2, h3⟩ := id hI
  have e20 : nI n + (20 : Int32) = nI (n + 20) := nI_add n 20
  by_cases q : n + 20 ≤ 1700
  · obtain ⟨A, A1, A2, A3, A4⟩ := c_put (x := a1) h1 (by omega)
    obtain ⟨B, B1, B2, B3, B4⟩ := c_put (x := a2) A2 (by omega)
    obtain ⟨C, C1, C2, C3, C4⟩ := c_put (x := a3) B2 (by omega)
    obtain ⟨D, D1, D2, D3, D4⟩ := c_put (x := a4) C2 (by omega)
    obtain ⟨E, E1, E2, E3, E4⟩ := c_put (x := a5) D2 (by omega)
    have h2' : E.1 233 1 = nI n := by rw [E4 _ _ (by omega) (by omega), D4 _ _ (by omega) (by omega), C4 _ _ (by omega) (by omega), B4 _ _ (by omega) (by omega), A4 _ _ (by omega) (by omega)]; exact h2
    obtain ⟨F, F1, F2, F3, F4⟩ := r_four (x := a1) h2' (by omega)
    obtain ⟨G, G1, G2, G3, G4⟩ := r_four (x := a2) F2 (by omega)
    obtain ⟨H, H1, H2, H3, H4⟩ := r_four (x := a3) G2 (by omega)
    obtain ⟨I, I1, I2, I3, I4⟩ := r_four (x := a4) H2 (by omega)
    obtain ⟨J, J1, J2, J3, J4⟩ := r_four (x := a5) I2 (by omega)
    refine ⟨nI (n + 20), E, J, ?_, ?_, ?_⟩
    · unfold mX11_feed
      rw [show 0 + 3 = 3 from rfl, h1, e20, if_pos (show nI (n + 20) ≤ (1700 : Int32) from nI_le (b := 1700) q (by omega)), A1, obs_eq, B1, obs_eq, C1, obs_eq, D1, obs_eq, E1, obs_eq, E2]
    · unfold mX12_feed
      rw [h2', e20, if_pos (show nI (n + 20) ≤ (1700 : Int32) from nI_le (b := 1700) q (by omega)), F1, obs_eq, G1, obs_eq, H1, obs_eq, I1, obs_eq, J1, obs_eq, J2]
    · have Jc : ∀ a b, a < 233 → J.1 a b = E.1 a b := fun a b q => by rw [J4 _ _ (by omega) (by omega), I4 _ _ (by omega) (by omega), H4 _ _ (by omega) (by omega), G4 _ _ (by omega) (by omega), F4 _ _ (by omega) (by omega)]
      have fin : ∀ i (x : Int32) k, J.1 4 i = byt x k → J.1 234 i = byt x k → J.1 4 i = J.1 234 i ∧ 0 ≤ J.1 4 i ∧ J.1 4 i ≤ 255 := fun i x k e1 e2 => by
        rw [e1, e2]
        exact ⟨rfl, byt_in x k⟩
      refine ⟨n + 20, q, by rw [Jc _ _ (by omega)]; exact E2, J2, fun i hi => ?_⟩
      by_cases r0 : i < n
      · have e4 : J.1 4 i = σ.1 4 i := by rw [Jc _ _ (by omega), E4 _ _ (by omega) (by omega), D4 _ _ (by omega) (by omega), C4 _ _ (by omega) (by omega), B4 _ _ (by omega) (by omega), A4 _ _ (by omega) (by omega)]
        have e5 : J.1 234 i = σ.1 234 i := by rw [J4 _ _ (by omega) (by omega), I4 _ _ (by omega) (by omega), H4 _ _ (by omega) (by omega), G4 _ _ (by omega) (by omega), F4 _ _ (by omega) (by omega), E4 _ _ (by omega) (by omega), D4 _ _ (by omega) (by omega), C4 _ _ (by omega) (by omega), B4 _ _ (by omega) (by omega), A4 _ _ (by omega) (by omega)]
        rw [e4, e5]
        exact h3 i r0
      by_cases r1 : i < n + 4
      · obtain ⟨j, rfl⟩ : ∃ j, i = n + j := ⟨i - n, by omega⟩
        apply fin _ a1 (8 * (3 - j))
        · rw [Jc _ _ (by omega), E4 _ _ (by omega) (by omega), D4 _ _ (by omega) (by omega), C4 _ _ (by omega) (by omega), B4 _ _ (by omega) (by omega)]; exact A3 j (by omega)
        · rw [J4 _ _ (by omega) (by omega), I4 _ _ (by omega) (by omega), H4 _ _ (by omega) (by omega), G4 _ _ (by omega) (by omega)]; exact F3 j (by omega)
      by_cases r2 : i < n + 4 + 4
      · obtain ⟨j, rfl⟩ : ∃ j, i = n + 4 + j := ⟨i - n - 4, by omega⟩
        apply fin _ a2 (8 * (3 - j))
        · rw [Jc _ _ (by omega), E4 _ _ (by omega) (by omega), D4 _ _ (by omega) (by omega), C4 _ _ (by omega) (by omega)]; exact B3 j (by omega)
        · rw [J4 _ _ (by omega) (by omega), I4 _ _ (by omega) (by omega), H4 _ _ (by omega) (by omega)]; exact G3 j (by omega)
      by_cases r3 : i < n + 4 + 4 + 4
      · obtain ⟨j, rfl⟩ : ∃ j, i = n + 4 + 4 + j := ⟨i - n - 8, by omega⟩
        apply fin _ a3 (8 * (3 - j))
        · rw [Jc _ _ (by omega), E4 _ _ (by omega) (by omega), D4 _ _ (by omega) (by omega)]; exact C3 j (by omega)
        · rw [J4 _ _ (by omega) (by omega), I4 _ _ (by omega) (by omega)]; exact H3 j (by omega)
      by_cases r4 : i < n + 4 + 4 + 4 + 4
      · obtain ⟨j, rfl⟩ : ∃ j, i = n + 4 + 4 + 4 + j := ⟨i - n - 12, by omega⟩
        apply fin _ a4 (8 * (3 - j))
        · rw [Jc _ _ (by omega), E4 _ _ (by omega) (by omega)]; exact D3 j (by omega)
        · rw [J4 _ _ (by omega) (by omega)]; exact I3 j (by omega)
      · obtain ⟨j, rfl⟩ : ∃ j, i = n + 4 + 4 + 4 + 4 + j := ⟨i - n - 16, by omega⟩
        apply fin _ a5 (8 * (3 - j))
        · rw [Jc _ _ (by omega)]; exact E3 j (by omega)
        · exact J3 j (by omega)
  · refine ⟨-1, σ, σ, ?_, ?_, hI⟩
    · unfold mX11_feed
      rw [show 0 + 3 = 3 from rfl, h1, e20, if_neg (show ¬ nI (n + 20) ≤ (1700 : Int32) from nI_ge (a := 1700) (by omega) (by omega))]
    · unfold mX12_feed
      rw [h2, e20, if_neg (show ¬ nI (n + 20) ≤ (1700 : Int32) from nI_ge (a := 1700) (by omega) (by omega))]
end FEED
