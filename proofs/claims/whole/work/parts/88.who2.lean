section WHO2
variable {σ σ' : St_} {c dr s t th : Nat} {v : Vw} {z zn : Sv}
theorem core_25 (a1 : Int32) (hV : Vof c σ) (hcc : c = 12 ∨ c = 28) (hnow : Inow σ) (hbox : Ibox σ) : ∃ (r : Int32) (σ1 σ2 : St_), mX11_who 0 c dr a1 σ = some (r, σ1) ∧ mX12_who 233 a1 σ1 = some (r, σ2) ∧ Ilaid σ2 := by
  obtain ⟨v, ok, hc, hr, h1, h2, h3, h4, -⟩ := hV
  obtain ⟨zn, hzn, zc, zr, -⟩ := now_of ok h1 h2 h3 h4 hnow
  obtain ⟨hN, m, m1, m2, m3⟩ := id hbox
  have oN := ok.N
  have oR := ok.R
  have oT := ok.T
  have L0 : LC [] (sI σ 0 9 0) := lc_nil rfl
  have m2' : (sI σ 0 9 0).1 0 7 = nI m := by rw [sI_get, if_neg (by omega)]; exact m2
  have cf := c_isFilled (tw := c) (dr := dr) m1 m2' a1
  have no : mX11_who 0 c dr a1 σ = some (-1, sI σ 0 9 0) → mX12_who 233 a1 (sI σ 0 9 0) = some (-1, sI (sI σ 0 9 0) 233 71 0) → ∃ (r : Int32) (σ1 σ2 : St_), mX11_who 0 c dr a1 σ = some (r, σ1) ∧ mX12_who 233 a1 σ1 = some (r, σ2) ∧ Ilaid σ2 := fun e1 e2 => ⟨-1, _, _, e1, e2, laid_of (l := []) (L0.fr (fun a k q => by rw [sI_get, if_neg (by omega)])) (lr_nil rfl) (by simp)⟩
  cases hb : bin a1 3
  · rw [hb, Bool.false_and] at cf
    apply no
    · unfold mX11_who
      simp only [bnd_eq]
      rw [cf, obs_eq]
      rfl
    · unfold mX12_who
      simp only [bnd_eq]
      rw [r_isBox, hb, obs_eq]
      rfl
  · obtain ⟨b, hb3, rfl, -⟩ := bin_iff.mp hb
    rw [hb, Bool.true_and, pn_cl (by omega)] at cf
    obtain ⟨x1, x2⟩ := m3 b hb3
    have R278 : ∀ ρ : St_, (∀ a k, ¬ (a = 0 ∨ (a = 233 ∧ k = 71)) → 233 ≤ a → ρ.1 a k = σ.1 a k) → ρ.1 278 b = b2i (m.testBit b) := fun ρ h => by rw [h 278 b (by omega) (by omega)]; exact x1
    cases hm : m.testBit b
    · rw [hm] at cf
      apply no
      · unfold mX11_who
        simp only [bnd_eq]
        rw [cf, obs_eq]
        rfl
      · have e := R278 (sI (sI σ 0 9 0) 233 71 0) (fun a k n1 n2 => by rw [sI_get, if_neg (by omega), sI_get, if_neg (by omega)])
        rw [hm] at e
        unfold mX12_who
        simp only [bnd_eq]
        rw [r_isBox, hb, obs_eq, if_pos rfl, if_pos rfl, pn_cl (by omega), show 233 + 45 = 278 from rfl, e]
        rfl
    · rw [hm] at cf
      have hI := x2 hm
      have hI' : IS v.N v.H v.T v.R (224 + 3 * b) 279 (20 * b) σ := by rw [h1, h2, h3, h4]; exact hI
      obtain ⟨zb, hzb, bc, br, -⟩ := of_IS ok hI'
      obtain ⟨σ1, w1, w2⟩ := c_who_L19 (dr := dr) ok hcc hzb hzn hb3 v.T FU 0 [] (sI σ 0 9 0) (hc.fr (fun a k q => by rw [sI_get, if_neg (by unfold FPc at q; omega)])) (bc.fr (fun a k q => by rw [sI_get, if_neg (by omega)])) (zc.fr (fun a k q => by rw [sI_get, if_neg (by omega)])) L0 (by omega) (by unfold FU; omega)
      rw [Nat.mul_zero, List.nil_append] at w1 w2
      generalize hQ : catL (whG v zb zn) 0 (v.R * v.T) = Q at w1 w2
      have cls : mX11_who 0 c dr (nI b) σ = some (nI Q.length, σ1) := by
        unfold mX11_who
        simp only [bnd_eq]
        rw [cf, obs_eq, if_pos rfl]
        exact w1
      have F : ∀ a k, 233 ≤ a → σ1.1 a k = σ.1 a k := fun a k hn => (fX11_who _ _ _ _ _ _ cls a k (by unfold MOD_X11_who; omega)).1
      have G : ∀ a k, 233 ≤ a → ¬ (a = 233 ∧ (k = 71 ∨ k = 63)) → (sI (sI σ1 233 71 0) 233 63 0).1 a k = σ.1 a k := fun a k n1 n2 => by rw [sI_get, if_neg (by omega), sI_get, if_neg (by omega), F a k n1]
      have lr0 : LR [] (sI (sI σ1 233 71 0) 233 63 0) := (lr_nil (σ := σ1) rfl).fr (fun a k q => by rw [sI_get, if_neg (by omega)])
      obtain ⟨σ2, e1, e2⟩ := r_who_L32 ok hb3 hzb hzn (v.R * v.T) FU 0 [] (sI (sI σ1 233 71 0) 233 63 0) (hr.fr (fun a k q => G a k (by unfold FPr at q; omega) (by unfold FPr at q; omega))) (br.fr oN (fun k _ _ => G _ _ (by omega) (by omega))) (zr.fr oN (fun k _ _ => G _ _ (by omega) (by omega))) lr0 (by rw [sI_get, if_pos ⟨rfl, rfl⟩]) (by omega) (by have : v.R * v.T ≤ 9 * 4 := Nat.mul_le_mul oR oT; unfold FU; omega) (by simp)
      rw [List.nil_append, hQ] at e1 e2
      have rf : mX12_who 233 (nI b) σ1 = some (nI Q.length, σ2) := by
        have e := R278 (sI σ1 233 71 0) (fun a k n1 n2 => by rw [sI_get, if_neg (by omega)]; exact F a k n2)
        rw [hm] at e
        unfold mX12_who
        simp only [bnd_eq]
        rw [r_isBox, hb, obs_eq, if_pos rfl, if_pos rfl, pn_cl (by omega), show 233 + 45 = 278 from rfl, e, if_pos (show isB (b2i true) = true by decide), if_pos (show (b2i true == 1) = true by decide)]
        exact e1
      refine ⟨_, _, _, cls, rf, laid_of (l := whoN Q.head?) (w2.fr (fun a k q => ?_)) e2 ?_⟩
      · exact (fX12_who _ _ _ _ rf a k (by unfold MOD_X12_who; omega)).1
      · cases Q.head? with
        | none => simp [whoN]
        | some q => simp [whoN, swN]
end WHO2
