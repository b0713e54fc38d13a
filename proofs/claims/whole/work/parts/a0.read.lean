/-! all lines, both sides -/
section READ
variable {σ σ' ρ ρ' : St_} {n i d nh nt x : Nat} {T : Nat → Nat} {τ : Tkn} {KL TL HL : List (List Nat)}
theorem fillw_loop (a an : Nat) (v : Int32) (han : an < 10000) : ∀ r m i (σ : St_), i + r = an → r < m → ∃ σ', mJ7_fill_53178_L5 a an v (nI an) m (nI i) σ = some σ' ∧ (∀ e j, σ'.1 e j = if e = a ∧ i ≤ j ∧ j < an then v else σ.1 e j) ∧ σ'.2 = σ.2
  | 0, m, i, σ, hi, hm => by
    obtain ⟨m, rfl, -⟩ := fu_suc hm
    refine ⟨σ, ?_, fun e j => by rw [if_neg (by omega)], rfl⟩
    unfold mJ7_fill_53178_L5
    rw [if_pos (nI_le (by omega) (by omega))]
  | r + 1, m, i, σ, hi, hm => by
    obtain ⟨m, rfl, hm⟩ := fu_suc hm
    obtain ⟨σ', e1, e2, e3⟩ := fillw_loop a an v han r m (i + 1) (sI σ a i v) (by omega) (by omega)
    refine ⟨σ', ?_, fun e j => ?_, by rw [e3]; rfl⟩
    · unfold mJ7_fill_53178_L5
      simp only [bnd_eq]
      rw [if_neg (nI_ge (by omega) (by omega)), binn (show i < an by omega) (by omega), if_pos rfl, pn_cl (by omega), nI_1]
      exact e1
    · rw [e2, sI_get]
      by_cases q : e = a ∧ i + 1 ≤ j ∧ j < an
      · rw [if_pos q, if_pos (by omega)]
      · rw [if_neg q]
        by_cases q2 : e = a ∧ j = i
        · rw [if_pos q2, if_pos (by omega)]
        · rw [if_neg q2, if_neg (by omega)]
theorem fill_ok (a an : Nat) (v : Int32) (han : an < 10000) (σ : St_) : ∃ σ', mJ7_fill_53178 a an v σ = some σ' ∧ (∀ e j, σ'.1 e j = if e = a ∧ j < an then v else σ.1 e j) ∧ σ'.2 = σ.2 := by
  obtain ⟨B, b1, b2, b3⟩ := fillw_loop a an v han an FU 0 σ (by omega) (by unfold FU; omega)
  rw [show nI 0 = (0 : Int32) from rfl] at b1
  refine ⟨B, ?_, fun e j => ?_, b3⟩
  · unfold mJ7_fill_53178
    rw [bnd_eq, show Int32.ofNat an = nI an from rfl, b1]
  · rw [b2]
    by_cases q : e = a ∧ j < an
    · rw [if_pos q, if_pos (by omega)]
    · rw [if_neg q, if_neg (by omega)]
theorem clear_ok (d : Nat) (σ : St_) : ∃ A, mX1_clear d σ = some A ∧ A.1 d 0 = nI 6 ∧ (∀ j, 1 ≤ j → j ≤ 4 → A.1 d j = nI 0) ∧ (∀ j, j < 5 → A.1 (d + 5) j = 0) ∧ (∀ j, j < 90 → A.1 (d + 8) j = -1) ∧ (∀ j, j < 9 → A.1 (d + 10) j = 0) ∧ A.1 (d + 11) 4 = 0 ∧ A.1 (d + 11) 5 = 0 ∧ (∀ e j, ¬ (d ≤ e ∧ e ≤ d + 11) → A.1 e j = σ.1 e j) ∧ A.2 = σ.2 := by
  generalize hB : sI (sI (sI (sI (sI σ d 0 6) d 1 0) d 2 0) d 3 0) d 4 0 = B
  have B0 : ∀ e j, ¬ e = d → B.1 e j = σ.1 e j := fun e j w => by rw [← hB, sI_get, if_neg (by omega), sI_get, if_neg (by omega), sI_get, if_neg (by omega), sI_get, if_neg (by omega), sI_get, if_neg (by omega)]
  have Bd0 : B.1 d 0 = nI 6 := by rw [← hB, sI_get, if_neg (by omega), sI_get, if_neg (by omega), sI_get, if_neg (by omega), sI_get, if_neg (by omega), sI_get, if_pos ⟨rfl, rfl⟩]; rfl
  have Bd : ∀ j, 1 ≤ j → j ≤ 4 → B.1 d j = nI 0 := fun j h1 h2 => by
    rw [← hB, sI_get]
    by_cases q4 : j = 4
    · rw [if_pos ⟨rfl, q4⟩]; rfl
    · rw [if_neg (by omega), sI_get]
      by_cases q3 : j = 3
      · rw [if_pos ⟨rfl, q3⟩]; rfl
      · rw [if_neg (by omega), sI_get]
        by_cases q2 : j = 2
        · rw [if_pos ⟨rfl, q2⟩]; rfl
        · rw [if_neg (by omega), sI_get, if_pos ⟨rfl, by omega⟩]; rfl
  have B2 : B.2 = σ.2 := by rw [← hB]; rfl
  obtain ⟨C, c1, c2, c3⟩ := fill_ok (d + 5) 5 0 (by omega) B
  obtain ⟨D, d1, d2, d3⟩ := fill_ok (d + 8) 90 (-1) (by omega) C
  obtain ⟨E, e1, e2, e3⟩ := fill_ok (d + 10) 9 0 (by omega) D
  generalize hF : sI (sI E (d + 11) 4 0) (d + 11) 5 0 = F
  have F0 : ∀ e j, ¬ (e = d + 11 ∧ (j = 4 ∨ j = 5)) → F.1 e j = E.1 e j := fun e j w => by rw [← hF, sI_get, if_neg (by omega), sI_get, if_neg (by omega)]
  refine ⟨F, ?_, ?_, fun j h1 h2 => ?_, fun j h => ?_, fun j h => ?_, fun j h => ?_, ?_, ?_, fun e j w => ?_, ?_⟩
  · unfold mX1_clear mX3_clear
    simp only [bnd_eq]
    rw [hB, c1, obs_eq, d1, obs_eq, e1, obs_eq, hF, obs_eq]
  · rw [F0 _ _ (by omega), e2, if_neg (by omega), d2, if_neg (by omega), c2, if_neg (by omega)]; exact Bd0
  · rw [F0 _ _ (by omega), e2, if_neg (by omega), d2, if_neg (by omega), c2, if_neg (by omega)]; exact Bd j h1 h2
  · rw [F0 _ _ (by omega), e2, if_neg (by omega), d2, if_neg (by omega), c2, if_pos ⟨rfl, h⟩]
  · rw [F0 _ _ (by omega), e2, if_neg (by omega), d2, if_pos ⟨rfl, h⟩]
  · rw [F0 _ _ (by omega), e2, if_pos ⟨rfl, h⟩]
  · rw [← hF, sI_get, if_neg (by omega), sI_get, if_pos ⟨rfl, rfl⟩]
  · rw [← hF, sI_get, if_pos ⟨rfl, rfl⟩]
  · rw [F0 _ _ (by omega), e2, if_neg (by omega), d2, if_neg (by omega), c2, if_neg (by omega), B0 _ _ (by omega)]
  · rw [← hF, sI_2, sI_2, e3, d3, c3, B2]
theorem Dra.fr (H : Dra d KL TL HL nh nt σ ρ) (ec : ∀ e j, FCnum d e j ∨ FCre d e j → σ'.1 e j = σ.1 e j) (ec2 : σ'.2 = σ.2) (er : ∀ e j, FRnum e j ∨ FRre e j → ρ'.1 e j = ρ.1 e j) (er2 : ∀ j, ρ'.2 235 j = ρ.2 235 j) : Dra d KL TL HL nh nt σ' ρ' := by
  obtain ⟨⟨h1, h2, h3⟩, h4, h5⟩ := H
  exact ⟨⟨h1.fr (fun j => by rw [ec2]) (fun j _ _ => er2 j), h2.fr (fun j => by rw [ec2]) (fun j _ _ => er2 j), h3.fr (fun j => by rw [ec2]) (fun j _ _ => er2 j)⟩, h4.fr (fun e j w => ec e j (Or.inl w)) (fun e j w => er e j (Or.inl w)), h5.fr (fun e j w => ec e j (Or.inr w)) (fun e j w => er e j (Or.inr w))⟩
theorem lk_f (h : ¬ ρ.1 233 2 ≤ 0) : LK_ ρ = some (sI ρ 233 57 (b2i true)) := by
  have f : ¬ (sI ρ 233 57 (b2i true)).1 233 2 ≤ 0 := by rw [sI_get, if_neg (by omega)]; exact h
  unfold LK_
  simp only [bnd_eq]
  rw [if_neg (fltw f), if_neg (fltw f)]
/-- the end of a line -/
theorem semi_both (h : Bo T n i τ σ ρ) : ∃ b σ' ρ', mX10_takeSign 3 59 σ = some (b, σ') ∧ LK_ ρ = some ρ' ∧ CF σ σ' ∧ ((∀ e j, ¬ (e = 233 ∧ ((2 ≤ j ∧ j ≤ 8) ∨ j = 57)) → ρ'.1 e j = ρ.1 e j) ∧ ∀ j, ρ'.2 235 j = ρ.2 235 j) ∧ ρ'.1 233 57 = b2i true ∧ (b = true → ∃ τ', Bo T n (i + 1) τ' σ' ρ') ∧ (b = false → Fau σ' ρ') := by
  have t256 := h.2.1.1.1
  generalize hB : sI ρ 233 57 (b2i true) = B
  have B0 : ∀ e j, ¬ (e = 233 ∧ j = 57) → B.1 e j = ρ.1 e j := fun e j w => by rw [← hB, sI_get, if_neg w]
  have B57 : B.1 233 57 = b2i true := by rw [← hB, sI_get, if_pos ⟨rfl, rfl⟩]
  have B2 : B.2 = ρ.2 := by rw [← hB]; rfl
  have hB' : Bo T n i τ σ B := h.fr (fun _ _ _ => rfl) (fun _ => rfl) (fun a k w => B0 a k (by omega)) (by rw [B2])
  have s59 : mX10_isSign 3 (59 : Int32) σ = some (decide (τ.1 = 59)) := c_isSign (c := 59) h.1 (by omega) (by omega)
  unfold mX10_takeSign LK_
  simp only [bnd_eq]
  rw [s59, obs_eq, hB, if_pos hB'.2.2, hB'.2.1.2.2.1]
  by_cases q : τ.1 = 59
  · obtain ⟨τ', R, a1, a2, a3, a4, a5⟩ := next_bo hB' (stop_s (by omega))
    rw [decide_eq_true q, if_pos rfl, a1, obs_eq, if_pos (show nI τ.1 = (59 : Int32) by rw [q]; rfl), if_pos hB'.2.2, a2, obs_eq]
    exact ⟨true, _, R, rfl, rfl, a4, ⟨fun e j w => by rw [a5.1 e j (by omega), B0 e j (by omega)], fun j => by rw [a5.2 _ _ (by omega), B2]⟩, by rw [a5.1 _ _ (by omega)]; exact B57, fun _ => ⟨τ', a3⟩, fun w => by cases w⟩
  · obtain ⟨f1, f2, f3⟩ := fau_of (σ := σ) (ρ := B) (x := if τ.1 = 3 then 1 else 2) rfl (two_pos (τ := τ)) (p := τ.2.1)
    rw [decide_eq_false q, if_neg (by simp), c_refuse h.1, obs_eq, if_neg (show ¬ nI τ.1 = (59 : Int32) from fun w => q ((nI_eq (b := 59) (by omega) (by omega)).mp w)), r_wrong hB'.2.1 hB'.2.2, obs_eq, if_neg (fltw f1.2.2)]
    exact ⟨false, _, _, rfl, rfl, f2, ⟨fun e j w => by rw [f3.1 e j (by omega), B0 e j (by omega)], fun j => by rw [f3.2 _ _ (by omega), B2]⟩, by rw [f3.1 _ _ (by omega)]; exact B57, fun w => (by cases w), fun _ => f1⟩
theorem lines_loop (hd : 12 ≤ d) {k68 : St_ → Option (Bool × St_)} : ∀ (r f x i : Nat) (τ : Tkn) (σ ρ : St_) (m : Nat) (KL TL HL : List (List Nat)) (nh nt : Nat), 1701 - i ≤ r → r < f → r < m → 2 * x ≤ i → Bo T n i τ σ ρ → Dra d KL TL HL nh nt σ ρ → ρ.1 233 57 = b2i (decide (0 < x)) → (x = 0 → ρ.1 233 56 = 0) → ∃ A R, mX12_readAll_L88 233 m ρ = some R ∧ CDr d σ A ∧ RDr ρ R ∧ ((mX4_read_L21 1 d k68 f (nI x) σ = k68 A ∧ ∃ i' τ' KL TL HL nh nt, Bo T n i' τ' A R ∧ Dra d KL TL HL nh nt A R) ∨ (mX4_read_L21 1 d k68 f (nI x) σ = some (false, A) ∧ Fau A R))
  | 0, f, x, i, τ, σ, ρ, m, KL, TL, HL, nh, nt, hr, hf, hm, hx, h, D, h57, h56 => by
    have := h.1.2.1
    omega
  | r + 1, f, x, i, τ, σ, ρ, m, KL, TL, HL, nh, nt, hr, hf, hm, hx, h, D, h57, h56 => by
    have hi := h.1.2.1
    have t256 := h.2.1.1.1
    obtain ⟨f, rfl, hf⟩ := fu_suc hf
    obtain ⟨m, rfl, hm⟩ := fu_suc hm
    have s0 : mX10_isSort 3 (0 : Int32) σ = some (decide (cso τ = 0)) := c_isSort (s := 0) h.1 (by omega)
    by_cases q0 : τ.1 = 0
    · refine ⟨σ, ρ, ?_, CDr.rfl', RDr.rfl', Or.inl ⟨?_, i, τ, KL, TL, HL, nh, nt, h, D⟩⟩
      · unfold mX12_readAll_L88
        rw [if_pos h.2.2, h.2.1.2.2.1, if_pos (show nI τ.1 = (0 : Int32) by rw [q0]; rfl)]
      · unfold mX4_read_L21
        rw [if_neg (show ¬ (1700 : Int32) ≤ nI x from nI_ge (b := 1700) (by omega) (by omega)), show 1 + 2 = 3 from rfl, s0, obs_eq, decide_eq_true (cso_end.mpr q0), if_pos rfl]
    · obtain ⟨q, hq, b, A, R, a1, a2, a3, a4, a5, a6⟩ := line_one hd h D (by omega) h57 h56
      have eqC : mX4_read_L21 1 d k68 (f + 1) (nI x) σ = if b = true then (mX10_takeSign 3 59 A).bind fun r7 => (if r7.1 = true then mX4_read_L21 1 d k68 f (nI (x + 1)) r7.2 else some (false, r7.2)) else some (false, A) := by
        conv => lhs; unfold mX4_read_L21
        rw [if_neg (show ¬ (1700 : Int32) ≤ nI x from nI_ge (b := 1700) (by omega) (by omega)), show 1 + 2 = 3 from rfl, s0, obs_eq, decide_eq_false (fun w => q0 (cso_end.mp w)), if_neg (by simp), a1, obs_eq, nI_1]
      have eqR : mX12_readAll_L88 233 (m + 1) ρ = (LK_ R).bind fun σ18 => mX12_readAll_L88 233 m σ18 := by
        conv => lhs; unfold mX12_readAll_L88
        rw [if_pos h.2.2, h.2.1.2.2.1, if_neg (show ¬ nI τ.1 = (0 : Int32) from fun w => q0 ((nI_eq (b := 0) (by omega) (by omega)).mp w)), hq, a2, obs_eq]
      have allf : ∀ s : St_, ¬ s.1 233 2 ≤ 0 → mX12_readAll_L88 233 m s = some s := fun s hs => by
        obtain ⟨m0, rfl⟩ : ∃ m0, m = m0 + 1 := ⟨m - 1, by omega⟩
        unfold mX12_readAll_L88
        rw [if_neg (fltw hs)]
      rw [eqC, eqR]
      cases b
      · have fa := a6 rfl
        rw [if_neg (by simp), lk_f fa.2.2, obs_eq, allf _ (by rw [sI_get, if_neg (by omega)]; exact fa.2.2)]
        exact ⟨A, _, rfl, a3, fun e j w => by rw [sI_get, if_neg (by omega), a4 e j w], Or.inr ⟨rfl, fa.fr (fun _ _ => rfl) (fun k w => by rw [sI_get, if_neg (by omega)])⟩⟩
      · obtain ⟨i', τ', KL', TL', HL', nh', nt', b1, b2, b3⟩ := a5 rfl
        obtain ⟨b, E, Q, c1, c2, c3, c4, c5, c6, c7⟩ := semi_both b2
        rw [if_pos rfl, c1, obs_eq, c2, obs_eq]
        cases b
        · have fa := c7 rfl
          rw [if_neg (by simp), allf _ fa.2.2]
          exact ⟨E, Q, rfl, a3.tr c3.cd, a4.tr (fun e j w => c4.1 e j (by omega)), Or.inr ⟨rfl, fa⟩⟩
        · obtain ⟨τ2, c8⟩ := c6 rfl
          rw [if_pos rfl]
          have D2 : Dra d KL' TL' HL' nh' nt' E Q := b3.fr (fun e j w => c3.1 e j (by unfold FCnum FCre at w; omega)) c3.2 (fun e j w => c4.1 e j (by unfold FRnum FRre at w; omega)) c4.2
          obtain ⟨G, Z, g1, g2, g3, g4⟩ := lines_loop (k68 := k68) hd r f (x + 1) (i' + 1) τ2 E Q m KL' TL' HL' nh' nt' (by omega) (by omega) (by omega) (by omega) c8 D2 (by rw [c5, decide_eq_true (by omega)]) (fun w => by omega)
          exact ⟨G, Z, g1, (a3.tr c3.cd).tr g2, (a4.tr (fun e j w => c4.1 e j (by omega))).tr g3, g4⟩
end READ
