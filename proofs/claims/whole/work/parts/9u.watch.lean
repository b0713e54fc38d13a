/-! watches; what a holder has -/
section WATCH
variable {σ σ' ρ ρ' : St_} {n i d nh nt p : Nat} {T : Nat → Nat} {τ : Tkn} {KL TL HL : List (List Nat)}
theorem stock_both (hd : 12 ≤ d) (hp : p < 9) (hal : (∃ h, h < nh ∧ hcode p = nI h) ∨ ∃ t, t < nt ∧ hcode p = nI (10 + t)) (h : Bo T n i τ σ ρ) (hi : 0 < i) (hN : Dnm 9 6 10 TL σ ρ) (hc : σ.1 d 2 = nI TL.length) (hr : ρ.1 233 46 = nI TL.length) (hW : Dwh d TL.length nh nt σ ρ) : ∃ b σ' ρ', mX4_readStock 1 d (nI p) σ = some (b, σ') ∧ mX12_readHas 233 (hcode p) ρ = some ρ' ∧ CS_ d σ σ' ∧ RS_ ρ ρ' ∧ (b = true → ∃ i' τ', i ≤ i' ∧ Bo T n i' τ' σ' ρ' ∧ Dwh d TL.length nh nt σ' ρ') ∧ (b = false → Fau σ' ρ') := by
  have := stock_loop (k59 := (fun (σ8 : St_) => ((mX10_fail (1 + 2) (3 : Int32) σ8).bind fun r9 => (some (r9.1, r9.2))))) hd hp hal (fun s => rfl) 1701 FU 0 i τ σ ρ FU (by omega) (by unfold FU; omega) (by unfold FU; omega) hi h hN hc hr hW
  unfold mX4_readStock mX12_readHas
  exact this
/-- a number that is in bounds is read -/
theorem c_numgood (h : AtC T n i τ σ) (q : τ.1 = 2) {lo hi : Nat} (h1 : lo ≤ τ.2.2.2.1) (h2 : τ.2.2.2.1 ≤ hi) (hhi : hi ≤ 1000) : mX4_readNumber 1 (nI lo) (nI hi) σ = some (true, sI σ 1 9 (nI τ.2.2.2.1)) := by
  have s4 : mX10_isSort 3 (4 : Int32) σ = some (decide (cso τ = 4)) := c_isSort (s := 4) h (by omega)
  have g9 : (sI σ 1 9 (nI τ.2.2.2.1)).1 1 9 = nI τ.2.2.2.1 := by rw [sI_get, if_pos ⟨rfl, rfl⟩]
  unfold mX4_readNumber
  simp only [bnd_eq]
  rw [show 1 + 2 = 3 from rfl, s4, obs_eq, decide_eq_true (cso_num.mpr q), if_pos rfl, c_numN h q, obs_eq, g9, if_neg (nI_nlt h1 (by omega)), if_pos (nI_le h2 (by omega))]
def CW_ (d h : Nat) (σ σ' : St_) : Prop := (∀ e j, ¬ ((e = 3 ∧ 6 ≤ j ∧ j ≤ 8) ∨ (e = 1 ∧ j = 9) ∨ (e = d + 5 ∧ j = h)) → σ'.1 e j = σ.1 e j) ∧ σ'.2 = σ.2
def RW_ (h : Nat) (ρ ρ' : St_) : Prop := (∀ e j, ¬ ((e = 233 ∧ 2 ≤ j ∧ j ≤ 8) ∨ (e = 249 ∧ j = h)) → ρ'.1 e j = ρ.1 e j) ∧ ∀ e j, ¬ (e = 233 ∧ j = 9) → ρ'.2 e j = ρ.2 e j
theorem CW_.tr {h : Nat} {σ'' : St_} (a : CW_ d h σ σ') (b : CW_ d h σ' σ'') : CW_ d h σ σ'' := ⟨fun e j q => by rw [b.1 e j q, a.1 e j q], by rw [b.2, a.2]⟩
theorem RW_.tr {h : Nat} {ρ'' : St_} (a : RW_ h ρ ρ') (b : RW_ h ρ' ρ'') : RW_ h ρ ρ'' := ⟨fun e j q => by rw [b.1 e j q, a.1 e j q], fun e j q => by rw [b.2 e j q, a.2 e j q]⟩
theorem CF.cw {h : Nat} (H : CF σ σ') : CW_ d h σ σ' := ⟨fun e j q => H.1 e j (by omega), H.2⟩
theorem RF.rw_ {h : Nat} (H : RF ρ ρ') : RW_ h ρ ρ' := ⟨fun e j q => H.1 e j (by omega), H.2⟩
theorem wt_fault {k : St_ → Option St_} (h : ¬ ρ.1 233 2 ≤ 0) (x : Int32) (m : Nat) : mX12_readHouse_L38 233 x k (m + 1) ρ = k ρ := by
  unfold mX12_readHouse_L38
  rw [if_neg (fltw h)]
theorem or_512 {a v : Nat} (h1 : a < 512) (h2 : v < 9) : a ||| 2 ^ v < 512 := Nat.or_lt_two_pow (n := 9) h1 (Nat.pow_lt_pow_right (by omega) h2)
theorem watch_loop (hd : 12 ≤ d) {h R' : Nat} (hh : h < 5) (hR : R' ≤ 8) {k56 : St_ → Option (Bool × St_)} (hk : ∀ s, k56 s = (mX10_fail 3 3 s).bind fun r => some (r.1, r.2)) {k125 : St_ → Option St_} : ∀ (r f x3 i : Nat) (τ : Tkn) (σ ρ : St_) (m w : Nat), 1701 - i ≤ r → r < f → r < m → x3 < i → Bo T n i τ σ ρ → σ.1 d 0 = nI (R' + 1) → ρ.1 233 50 = nI (R' + 1) → w < 512 → σ.1 (d + 5) h = nI w → ρ.1 249 h = nI w → ∃ b σ' ρ', mX4_readWatches_L2 1 d (nI h) k56 f (nI x3) σ = some (b, σ') ∧ mX12_readHouse_L38 233 (nI h) k125 m ρ = k125 ρ' ∧ CW_ d h σ σ' ∧ RW_ h ρ ρ' ∧ (b = true → ∃ i' τ' w', i ≤ i' ∧ Bo T n i' τ' σ' ρ' ∧ w' < 512 ∧ σ'.1 (d + 5) h = nI w' ∧ ρ'.1 249 h = nI w') ∧ (b = false → Fau σ' ρ')
  | 0, f, x3, i, τ, σ, ρ, m, w, hr, hf, hm, hx, hB, hc, hrn, hw, hcw, hrw => by
    have := hB.1.2.1
    omega
  | r + 1, f, x3, i, τ, σ, ρ, m, w, hr, hf, hm, hx, hB, hc, hrn, hw, hcw, hrw => by
    have hi := hB.1.2.1
    obtain ⟨f, rfl, hf⟩ := fu_suc hf
    obtain ⟨m, rfl, hm⟩ := fu_suc hm
    obtain ⟨v0, v1, v2, v3, v4, v5, v6, v7, v8, v9, v10, v11, -⟩ := rw6_vals
    have sw : mX10_isWord 3 (11 : Int32) σ = some (decide (τ.1 = 1 ∧ wnum τ.2.2.1 = some 11)) := c_isWord (w := 11) hB.1 (by omega)
    have rw' : mX12_isWord 233 (512736125800 : Int64) ρ = some (decide (τ.1 = 1 ∧ wnum τ.2.2.1 = some 11)) := by rw [← v11]; exact r_isWord (w := 11) hB.2.1 (by omega)
    conv in mX4_readWatches_L2 _ _ _ _ _ _ _ => unfold mX4_readWatches_L2
    conv in mX12_readHouse_L38 _ _ _ _ _ => unfold mX12_readHouse_L38
    simp only [bnd_eq]
    rw [if_neg (show ¬ (1700 : Int32) ≤ nI x3 from nI_ge (b := 1700) (by omega) (by omega)), show 1 + 2 = 3 from rfl, sw, obs_eq, if_pos hB.2.2, rw', obs_eq]
    by_cases q : τ.1 = 1 ∧ wnum τ.2.2.1 = some 11
    · obtain ⟨τ1, R1, a1, a2, a3, a4, a5⟩ := next_bo hB (stop_1 q.1)
      generalize hA : sI σ 3 6 (nI (i + 1)) = A at *
      have hcA : A.1 d 0 = nI (R' + 1) := by rw [a4.1 _ _ (by omega)]; exact hc
      have hrR : R1.1 233 50 = nI (R' + 1) := by rw [a5.1 _ _ (by omega)]; exact hrn
      have hi1 := a3.1.2.1
      have t256 := a3.2.1.1.1
      have R249 : R1.1 249 h = nI w := by rw [a5.1 _ _ (by omega)]; exact hrw
      obtain ⟨b, C, b1, b2, b3⟩ := told_num a3 (lo := 0) (hi := R') (by omega) (by omega)
      rw [show nI 0 = (0 : Int32) from rfl] at b1 b3
      have C5 : C.1 (d + 5) h = nI w := by rw [b2.1 _ _ (by omega), a4.1 _ _ (by omega)]; exact hcw
      rw [decide_eq_true q, if_pos rfl, if_pos rfl, a1, obs_eq, hcA, nI_s1 (by omega), b1, obs_eq, a2, obs_eq, a3.2.1.2.2.1, hrR]
      rcases b3 with ⟨rfl, v, τ2, R2, w1, w2, w3, w4, w5, w6, w7, w8, w9, w10⟩ | ⟨rfl, x, R2, w5, w6, w7⟩
      · have h8 : R1.1 233 8 = nI v := by rw [a3.2.1.2.2.2.2.2.1 w3, w4]
        have tbp : ((nI w >>> (nI v &&& 31)) &&& (1 : Int32)) = if w.testBit v = true then 1 else 0 := by
          rw [tb_get _ (by omega), tb_nI, decide_eq_true (show v < 32 by omega), Bool.true_and]
        have seen : mX1_isSeen d (nI h) (nI v) C = some (w.testBit v) := by
          unfold mX1_isSeen
          rw [binn hh (by omega), if_pos rfl, pn_cl (by omega), C5, bnd_eq, tbp]
          cases w.testBit v <;> rfl
        rw [if_pos rfl, w5, seen, obs_eq, if_pos (show nI τ1.1 = (2 : Int32) by rw [w3]; rfl), h8, if_neg (show ¬ nI (R' + 1) ≤ nI v from nI_ge (by omega) (by omega)), binn hh (by omega), if_pos rfl, pn_cl (show h < 2 ^ 31 by omega), show 233 + 16 = 249 from rfl, R249, tbp]
        cases ht : w.testBit v
        · generalize hE : sI C (d + 5) h (nI (w ||| 2 ^ v)) = E
          have E0 : ∀ e j, ¬ (e = d + 5 ∧ j = h) → E.1 e j = C.1 e j := fun e j y => by rw [← hE, sI_get, if_neg y]
          have E2 : E.2 = C.2 := by rw [← hE]; rfl
          have boE : Bo T n (i + 1) τ1 E R1 := ⟨w6.fr (fun a k y => E0 a k (by omega)) (fun k => by rw [E2]), a3.2.1, a3.2.2⟩
          obtain ⟨-, -, c1, -⟩ := next_bo boE (stop_2 w3)
          generalize hG : sI E 3 6 (nI (i + 1 + 1)) = G at c1
          generalize hQ : sI R2 249 h (nI (w ||| 2 ^ v)) = Q
          have Q0 : ∀ e j, ¬ (e = 249 ∧ j = h) → Q.1 e j = R2.1 e j := fun e j y => by rw [← hQ, sI_get, if_neg y]
          have Q2 : Q.2 = R2.2 := by rw [← hQ]; rfl
          have G0 : ∀ e j, ¬ (e = d + 5 ∧ j = h) → G.1 e j = (sI C 3 6 (nI (i + 1 + 1))).1 e j := fun e j y => by
            rw [← hG, sI_get, sI_get, E0 e j y]
          have G2 : G.2 = C.2 := by rw [← hG, sI_2, E2]
          have boG : Bo T n (i + 1 + 1) τ2 G Q := w10.fr (fun a k y => G0 a k (by omega)) (fun k => by rw [G2]; rfl) (fun a k y => Q0 a k (by omega)) (by rw [Q2])
          have G5 : G.1 (d + 5) h = nI (w ||| 2 ^ v) := by rw [← hG, sI_get, if_neg (by omega), ← hE, sI_get, if_pos ⟨rfl, rfl⟩]
          have Q5 : Q.1 249 h = nI (w ||| 2 ^ v) := by rw [← hQ, sI_get, if_pos ⟨rfl, rfl⟩]
          obtain ⟨b, σ', ρ', e1, e2, e3, e4, e5, e6⟩ := watch_loop (k125 := k125) hd hh hR hk r f (x3 + 1) (i + 1 + 1) τ2 G Q m (w ||| 2 ^ v) (by omega) (by omega) (by omega) (by omega) boG (by rw [G0 _ _ (by omega), sI_get, if_neg (by omega), b2.1 _ _ (by omega)]; exact hcA) (by rw [Q0 _ _ (by omega), w9.1 _ _ (by omega)]; exact hrR) (or_512 hw (by omega)) G5 Q5
          rw [if_neg (by simp), C5, shl_nI (by omega), nI_or, hE, if_pos rfl, if_pos rfl, c1, obs_eq, nI_1, e1, if_neg (by simp), if_pos rfl, nI_s1 (by omega), w8, obs_eq, if_pos rfl, shl_nI (by omega), nI_or, hQ, e2]
          have sA : CW_ d h σ G := ((a4.tr b2).cw).tr ⟨fun e j y => by rw [G0 e j (by omega), sI_get, if_neg (by omega)], G2⟩
          have sR : RW_ h ρ Q := ((a5.tr w9).rw_).tr ⟨fun e j y => Q0 e j (by omega), fun e j _ => by rw [Q2]⟩
          refine ⟨b, σ', ρ', rfl, rfl, sA.tr e3, sR.tr e4, fun y => ?_, e6⟩
          obtain ⟨i', τ', w', g1, g2⟩ := e5 y
          exact ⟨i', τ', w', by omega, g2⟩
        · obtain ⟨f1, f2, f3⟩ := fau_of (σ := C) (ρ := R1) (x := 3) (y := 3) rfl (by decide) (p := τ1.2.1)
          generalize hW : sI (sI R1 233 2 3) 233 3 (nI τ1.2.1) = W at f1 f3
          have W249 : W.1 249 h = nI w := by rw [f3.1 _ _ (by omega)]; exact R249
          obtain ⟨m0, rfl⟩ : ∃ m0, m = m0 + 1 := ⟨m - 1, by omega⟩
          rw [if_pos rfl, hk, c_fail w6, obs_eq, if_pos rfl, if_pos rfl, r_wrong a3.2.1 a3.2.2, obs_eq, if_neg (show ¬ τ1.1 = 3 by omega), hW, if_pos rfl, told_f f1.2.2, obs_eq, if_pos rfl, W249, wt_fault (by rw [sI_get, if_neg (by omega)]; exact f1.2.2)]
          exact ⟨false, _, _, rfl, rfl, ((a4.tr b2).tr f2).cw, (a5.rw_).tr ⟨fun e j y => by rw [sI_get, if_neg (by omega), f3.1 e j (by omega)], fun e j y => f3.2 e j y⟩, fun y => (by cases y), fun _ => f1.fr (fun _ _ => rfl) (fun k y => by rw [sI_get, if_neg (by omega)])⟩
      · have nogood : ¬ (τ1.1 = 2 ∧ τ1.2.2.2.1 ≤ R') := fun y => by
          have := c_numgood a3.1 y.1 (lo := 0) (hi := R') (by omega) y.2 (by omega)
          rw [show nI 0 = (0 : Int32) from rfl, b1] at this
          injection this with this
          injection this with this
          cases this
        have v10000 := a3.1.2.2.1.2.2.1
        obtain ⟨m0, rfl⟩ : ∃ m0, m = m0 + 1 := ⟨m - 1, by omega⟩
        have pick : ∀ X Y : Option St_, (if nI τ1.1 = (2 : Int32) then (if nI (R' + 1) ≤ R1.1 233 8 then X else Y) else X) = X := by
          intro X Y
          by_cases y : τ1.1 = 2
          · rw [a3.2.1.2.2.2.2.2.1 y, if_pos (nI_le (by have := fun z => nogood ⟨y, z⟩; omega) (by have := v10000 y; omega)), ite_self]
          · rw [if_neg (show ¬ nI τ1.1 = (2 : Int32) from fun z => y ((nI_eq (b := 2) (by omega) (by omega)).mp z))]
        rw [if_neg (by simp), pick, binn hh (by omega), if_pos rfl, nI_s1 (by omega), w5, obs_eq, if_pos rfl, wt_fault (by rw [sI_get, if_neg (by omega)]; exact w7.2.2)]
        exact ⟨false, _, _, rfl, rfl, (a4.tr b2).cw, ((a5.tr w6).rw_).tr ⟨fun e j y => by rw [pn_cl (by omega), sI_get, if_neg (by omega)], fun e j y => rfl⟩, fun y => (by cases y), fun _ => w7.fr (fun _ _ => rfl) (fun k y => by rw [sI_get, if_neg (by omega)])⟩
    · rw [decide_eq_false q, if_neg (by simp), if_neg (by simp)]
      exact ⟨true, σ, ρ, rfl, rfl, CF.rfl'.cw, RF.rfl'.rw_, fun _ => ⟨i, τ, w, Nat.le_refl _, hB, hw, hcw, hrw⟩, fun y => by cases y⟩
theorem watch_both (hd : 12 ≤ d) {h R' w : Nat} (hh : h < 5) (hR : R' ≤ 8) {k125 : St_ → Option St_} (hB : Bo T n i τ σ ρ) (hi : 0 < i) (hc : σ.1 d 0 = nI (R' + 1)) (hr : ρ.1 233 50 = nI (R' + 1)) (hw : w < 512) (hcw : σ.1 (d + 5) h = nI w) (hrw : ρ.1 249 h = nI w) : ∃ b σ' ρ', mX4_readWatches 1 d (nI h) σ = some (b, σ') ∧ mX12_readHouse_L38 233 (nI h) k125 FU ρ = k125 ρ' ∧ CW_ d h σ σ' ∧ RW_ h ρ ρ' ∧ (b = true → ∃ i' τ' w', i ≤ i' ∧ Bo T n i' τ' σ' ρ' ∧ w' < 512 ∧ σ'.1 (d + 5) h = nI w' ∧ ρ'.1 249 h = nI w') ∧ (b = false → Fau σ' ρ') := by
  have := watch_loop (k56 := (fun (σ8 : St_) => ((mX10_fail (1 + 2) (3 : Int32) σ8).bind fun r9 => (some (r9.1, r9.2))))) (k125 := k125) hd hh hR (fun s => rfl) 1701 FU 0 i τ σ ρ FU w (by omega) (by unfold FU; omega) (by unfold FU; omega) hi hB hc hr hw hcw hrw
  unfold mX4_readWatches
  exact this
end WATCH
