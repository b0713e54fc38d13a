/-! a tour, both sides -/
section TOUR
variable {σ σ' : St_} {c dr s t th x : Nat} {v : Vw} {z : Sv} {w w' w0 : Nat → Nat}
theorem tour_run (ok : v.OK) (hcc : c = 12 ∨ c = 28) (hz : Sv.OK v z) (ht : t < v.T) (hx : x < v.N) {k126 : Bool → St_ → Option (Int32 × St_)} {k92 : Int32 → Int32 → St_ → Option (Int32 × St_)} (hk1 : ∀ ρ, k126 true ρ = some (-1, ρ)) (hk2 : ∀ ρ, k126 false ρ = some (-2, ρ)) : ∀ r m1 m2 h hr (jl : Int32) first (L : List Nd) (σ ρ : St_), h + r = 10 → r + 1 < m1 → r + 1 < m2 → hr < v.R → CV c v σ → ScO v t z.wh hr jl σ → TC v L first σ → RV v ρ → ρ.1 233 62 = nI hr → ρ.1 233 63 = jl → ρ.1 233 71 = 0 → TR v L first ρ → LIn v t z.wh h first L → ∃ σ' ρ', (∃ e : Int32, (e = -1 ∨ e = -2) ∧ mX7_run_L12 205 c 44 (nI t) (nI x) m1 (nI first) (nI h) σ = some (e, σ') ∧ mX12_tour_L47 233 (nI t) (nI x) k126 k92 m2 true (nI h) ρ = some (e, ρ') ∧ ρ'.1 233 71 = 0) ∨ (∃ (n g : Nat) (q : Nd) (L' : List Nd) (ly : Nat), n ≤ 9 ∧ L'[g]? = some q ∧ q.2.2.2 = n ∧ WIn v t L' ∧ L'.length ≤ 2000 ∧ TC v L' ly σ' ∧ σ'.1 205 8 = nI g ∧ mX7_run_L12 205 c 44 (nI t) (nI x) m1 (nI first) (nI h) σ = some (nI n, σ') ∧ TR v L' ly ρ' ∧ ρ'.1 233 71 = 0 ∧ mX12_tour_L47 233 (nI t) (nI x) k126 k92 m2 true (nI h) ρ = k92 (nI n) (nI g) ρ')
  | 0, m1, m2, h, hr, jl, first, L, σ, ρ, hh, hm1, hm2, hhr, hc, hS, hT, hrv, h62, h63, h71, hR, hL => by
    obtain ⟨m1, rfl, -⟩ := fu_suc hm1
    obtain ⟨m2, rfl, -⟩ := fu_suc hm2
    have e9 : (9 : Int32) < nI h := nI_lt (a := 9) (by omega) (by omega)
    refine ⟨σ, ρ, Or.inl ⟨-1, Or.inl rfl, ?_, ?_, h71⟩⟩
    · unfold mX7_run_L12
      rw [if_pos e9]
    · unfold mX12_tour_L47
      rw [if_pos e9, hk1]
  | r + 1, m1, m2, h, hr, jl, first, L, σ, ρ, hh, hm1, hm2, hhr, hc, hS, hT, hrv, h62, h63, h71, hR, hL => by
    obtain ⟨m1, rfl, hm1⟩ := fu_suc hm1
    obtain ⟨m2, rfl, hm2⟩ := fu_suc hm2
    have oN := ok.N
    have oR := ok.R
    have hf := hT.2.2.1
    have hl := hL.1
    have hfw := c_firstWith ok hx hT hL.2.1 hS.2.2.2 hf
    have n9 : ¬ (9 : Int32) < nI h := nI_nlt (a := 9) (by omega) (by omega)
    have h9 : ∀ (i : Nat) (q : Nd), L[i]? = some q → q.1 x ≤ 9 := fun i q hq => nd_le ok hz ht hL.2.1 i q hq x hx
    -- the reference, up to its look at the states
    have rf0 : mX12_tour_L47 233 (nI t) (nI x) k126 k92 (m2 + 1) true (nI h) ρ = (fwF t x L (L.length - first) first).elim (if (9 : Int32) ≤ nI h then mX12_tour_L47 233 (nI t) (nI x) k126 k92 m2 true (nI (h + 1)) ρ else ((mX12_goOn 233 (nI t) ρ).bind fun r15 => mX12_tour_L47 233 (nI t) (nI x) k126 k92 m2 r15.1 (nI (h + 1)) r15.2)) (fun g => k92 (nI h) (nI g) ρ) := by
      conv => lhs; unfold mX12_tour_L47
      simp only [bnd_eq]
      rw [if_neg n9, if_pos trivial, hR.2.1, nI_1]
      exact r_fw_L64 ok hx ht hR hl h9 (L.length - first) FU first (by omega) (by unfold FU; omega)
    generalize hA : sI σ 205 8 (encO (fwF t x L (L.length - first) first)) = A
    have A8 : A.1 205 8 = encO (fwF t x L (L.length - first) first) := by rw [← hA, sI_get, if_pos ⟨rfl, rfl⟩]
    have FA : ∀ a k, ¬ (a = 205 ∧ k = 8) → A.1 a k = σ.1 a k := fun a k q => by rw [← hA, sI_get, if_neg q]
    have FA2 : A.2 = σ.2 := by rw [← hA]; rfl
    have TA : TC v L first A := tc_fr hT (fun a k q => FA a k (by omega)) (fun k => by rw [FA2])
    have cl0 : mX7_run_L12 205 c 44 (nI t) (nI x) (m1 + 1) (nI first) (nI h) σ = if A.1 205 8 = (-1 : Int32) then (if (9 : Int32) ≤ nI h then ((mX8_passHour 215 ((sI A 205 6 (A.1 205 5)).1 c 0) (sI A 205 6 (A.1 205 5))).bind fun σ9 => mX7_run_L12 205 c 44 (nI t) (nI x) m1 ((sI A 205 6 (A.1 205 5)).1 205 6) (nI (h + 1)) σ9) else ((mX7_goOn 205 c (nI t) (nI first) (sI A 205 6 (A.1 205 5))).bind fun r10 => if r10.1 = true then ((mX8_passHour 215 (r10.2.1 c 0) r10.2).bind fun σ9 => mX7_run_L12 205 c 44 (nI t) (nI x) m1 (r10.2.1 205 6) (nI (h + 1)) σ9) else some (-2, r10.2))) else some (nI h, A) := by
      conv => lhs; unfold mX7_run_L12
      simp only [bnd_eq]
      rw [if_neg n9, hfw, obs_eq, hA, nI_1]
    cases hw : fwF t x L (L.length - first) first with
    | some g =>
      obtain ⟨fg, q, hq⟩ := fwF_spec _ _ _ hw
      rw [hw] at rf0 A8
      have A8' : A.1 205 8 = nI g := A8
      have gl : g < L.length := (List.getElem?_eq_some_iff.mp hq).1
      refine ⟨A, ρ, Or.inr ⟨h, g, q, L, first, by omega, hq, hL.2.2.2 g q fg hq, hL.2.2.1, hl, TA, A8', ?_, hR, h71, rf0⟩⟩
      rw [cl0, A8', if_neg (nI_nm1 (by omega))]
    | none =>
      rw [hw] at rf0 A8
      have A8' : A.1 205 8 = -1 := A8
      rw [if_pos A8'] at cl0
      generalize hB : sI A 205 6 (A.1 205 5) = B at cl0
      have A5 : A.1 205 5 = nI L.length := TA.1
      have B6 : B.1 205 6 = nI L.length := by rw [← hB, sI_get, if_pos ⟨rfl, rfl⟩, A5]
      have FB : ∀ a k, ¬ (a = 205 ∧ (k = 6 ∨ k = 8)) → B.1 a k = σ.1 a k := fun a k q => by rw [← hB, sI_get, if_neg (by omega), FA a k (by omega)]
      have FB2 : B.2 = σ.2 := by rw [← hB, ← FA2]; rfl
      have hcB : CV c v B := hc.fr (fun a k q => FB a k (by unfold FPc at q; omega))
      have hSB : ScO v t z.wh hr jl B := hS.fr (fun a k q => FB a k (by omega))
      have TB : TC v L L.length B := by
        obtain ⟨t1, t2, t3, t4, t5, t6⟩ := hT
        refine ⟨by rw [FB _ _ (by omega)]; exact t1, B6, Nat.le_refl _, t4, fun i q hq => by rw [FB2, FB _ _ (by omega)]; exact t5 i q hq, ?_⟩
        have e : B.1 220 = σ.1 220 := by funext k; exact FB 220 k (by omega)
        rw [e]
        exact t6.layer
      by_cases q9 : h = 9
      · have e9 : (9 : Int32) ≤ nI h := nI_le (a := 9) (by omega) (by omega)
        have e10 : (9 : Int32) < nI (h + 1) := nI_lt (a := 9) (by omega) (by omega)
        obtain ⟨C, p1, -, -, -⟩ := c_pass2 (w := z.wh) ok hhr hSB.1 hSB.2.1
        obtain ⟨m1, rfl, -⟩ := fu_suc (show r < m1 by omega)
        obtain ⟨m2, rfl, -⟩ := fu_suc (show r < m2 by omega)
        refine ⟨C, ρ, Or.inl ⟨-1, Or.inl rfl, ?_, ?_, h71⟩⟩
        · rw [cl0, if_pos e9, hcB.R, p1, obs_eq]
          unfold mX7_run_L12
          rw [if_pos e10]
        · refine rf0.trans ?_
          show (if (9 : Int32) ≤ nI h then mX12_tour_L47 233 (nI t) (nI x) k126 k92 (m2 + 1) true (nI (h + 1)) ρ else _) = _
          rw [if_pos e9]
          unfold mX12_tour_L47
          rw [if_pos e10, hk1]
      · have e9 : ¬ (9 : Int32) ≤ nI h := nI_ge (b := 9) (by omega) (by omega)
        rw [if_neg e9] at cl0
        have rf1 : mX12_tour_L47 233 (nI t) (nI x) k126 k92 (m2 + 1) true (nI h) ρ = ((mX12_goOn 233 (nI t) ρ).bind fun r15 => mX12_tour_L47 233 (nI t) (nI x) k126 k92 m2 r15.1 (nI (h + 1)) r15.2) := by
          refine rf0.trans ?_
          show (if (9 : Int32) ≤ nI h then _ else _) = _
          rw [if_neg e9]
        have LB : LIn v t z.wh (h + 1) L.length L := ⟨hl, hL.2.1, hL.2.2.1, fun i q hi hq => by
          have := (List.getElem?_eq_some_iff.mp hq).1
          omega⟩
        have hD : ∀ (i : Nat) (q : Nd), first ≤ i → i < L.length → L[i]? = some q → q.2.2.2 + 1 = h + 1 := fun i q hi _ hq => by rw [hL.2.2.2 i q hi hq]
        obtain ⟨C, c1, c2, c3, c4⟩ := c_goK ok hcc hz ht (d := h + 1) (ly := L.length) (jl := jl) hhr (L.length - first) FU first L B hcB hSB TB LB hD (by omega) (by unfold FU; omega)
        generalize hE : sI ρ 233 77 (nI L.length) = E
        have FE : ∀ a k, ¬ (a = 233 ∧ k = 77) → E.1 a k = ρ.1 a k := fun a k q => by rw [← hE, sI_get, if_neg q]
        have hrE : RV v E := hrv.fr (fun a k q => FE a k (by unfold FPr at q; omega))
        have TE : TR v L L.length E := by
          obtain ⟨t1, t2, t3, t4⟩ := hR
          refine ⟨by rw [FE _ _ (by omega)]; exact t1, by rw [← hE, sI_get, if_pos ⟨rfl, rfl⟩], Nat.le_refl _, fun i q hq => ?_⟩
          obtain ⟨u1, u2, u3, u4⟩ := t4 i q hq
          exact ⟨fun x hx => by rw [FE _ _ (by omega)]; exact u1 x hx, fun x a b => by rw [FE _ _ (by omega)]; exact u2 x a b, by rw [FE _ _ (by omega)]; exact u3, by rw [FE _ _ (by omega)]; exact u4⟩
        obtain ⟨G, g1, g2⟩ := r_goK ok hz ht (d := h + 1) (ly := L.length) (jl := jl) hhr (k104 := fun (σ12 : St_) => ((mX12_tick 233 σ12).bind fun σ13 => (some (true, σ13)))) (L.length - first) FU first L E hrE (by rw [FE _ _ (by omega)]; exact h62) (by rw [FE _ _ (by omega)]; exact h63) TE LB hD (by omega) (by unfold FU; omega)
        have rg : mX12_goOn 233 (nI t) ρ = mX12_goOn_L21 233 (nI t) (nI L.length) (fun (σ12 : St_) => ((mX12_tick 233 σ12).bind fun σ13 => (some (true, σ13)))) FU (nI first) E := by
          unfold mX12_goOn
          simp only [bnd_eq]
          rw [hR.1, hR.2.1, hE]
        have cg : mX7_goOn 205 c (nI t) (nI first) B = mX7_goOn_L3 205 c (nI t) FU (nI first) B := by
          unfold mX7_goOn
          rfl
        rw [cg] at cl0
        cases hG : (goK v t hr jl (h + 1) L.length (L.length - first) first L).1
        · -- more than 2000
          obtain ⟨m2, rfl, -⟩ := fu_suc (show r < m2 by omega)
          have rgo : mX12_goOn 233 (nI t) ρ = some (false, G) := rg.trans (g2 hG)
          have G71 : G.1 233 71 = 0 := by
            have := (fX12_goOn _ _ _ _ rgo 233 71 (by unfold MOD_X12_goOn; omega)).1
            rw [← h71]; exact this
          refine ⟨C, G, Or.inl ⟨-2, Or.inr rfl, ?_, ?_, G71⟩⟩
          · rw [cl0, c2 hG, obs_eq]
            rfl
          · rw [rf1, rgo, obs_eq]
            unfold mX12_tour_L47
            rw [if_neg (show ¬ (9 : Int32) < nI (h + 1) from nI_nlt (a := 9) (by omega) (by omega)), if_neg (by simp)]
            exact hk2 G
        · obtain ⟨c5, c6, c7, c8⟩ := c1 hG
          obtain ⟨g3, g4, g5, g6, g7⟩ := g1 hG
          obtain ⟨D, p1, p2, p3, p4⟩ := c_pass2 (w := z.wh) ok hhr c8.1 c8.2.1
          obtain ⟨M, t1, t2, t3, t4⟩ := r_tick2 (w := z.wh) g5 ok hhr g6 g7
          have rgo : mX12_goOn 233 (nI t) ρ = some (true, M) := by
            rw [rg, g3, t1]
            rfl
          have M71 : M.1 233 71 = 0 := by
            have := (fX12_goOn _ _ _ _ rgo 233 71 (by unfold MOD_X12_goOn; omega)).1
            rw [← h71]; exact this
          have F2 : ∀ k, D.2 218 k = C.2 218 k := fun k => (fX8_passHour _ _ _ _ p1 218 k (by unfold MOD_X8_passHour; omega)).2
          have htk : ((svK z.wh hr jl).tick v).hr < v.R := by
            unfold Sv.tick
            by_cases q : (svK z.wh hr jl).hr + 1 < v.R
            · rw [if_pos q]; exact q
            · rw [if_neg q]; show 0 < v.R; omega
          have TD : TC v (goK v t hr jl (h + 1) L.length (L.length - first) first L).2 L.length D := tc_fr c6 (fun a k q => p4 a k (by omega)) F2
          have cD : CV c v D := c7.fr (fun a k q => p4 a k (by unfold FPc at q; omega))
          have sD : ScO v t z.wh ((svK z.wh hr jl).tick v).hr ((svK z.wh hr jl).tick v).jl D := ⟨p2, p3, fun y y1 y2 y3 => by rw [p4 _ _ (by omega)]; exact c8.2.2.1 y y1 y2 y3, by rw [p4 _ _ (by omega)]; exact c8.2.2.2⟩
          have rM : RV v M := g5.fr (fun a k q => t4 a k (by unfold FPr at q; omega))
          have TM : TR v (goK v t hr jl (h + 1) L.length (L.length - first) first L).2 L.length M := g4.fr oN (fun a k q => t4 a k (by omega))
          obtain ⟨S, P, ih⟩ := tour_run ok hcc hz ht hx hk1 hk2 r m1 m2 (h + 1) _ _ L.length _ D M (by omega) (by omega) (by omega) htk cD sD TD rM t2 t3 M71 TM c3
          have cl1 : mX7_run_L12 205 c 44 (nI t) (nI x) (m1 + 1) (nI first) (nI h) σ = mX7_run_L12 205 c 44 (nI t) (nI x) m1 (nI L.length) (nI (h + 1)) D := by
            rw [cl0, c5, obs_eq]
            show (if true = true then ((mX8_passHour 215 (C.1 c 0) C).bind fun σ9 => mX7_run_L12 205 c 44 (nI t) (nI x) m1 (C.1 205 6) (nI (h + 1)) σ9) else _) = _
            rw [if_pos rfl, c7.R, c6.2.1, p1, obs_eq]
          have rf2 : mX12_tour_L47 233 (nI t) (nI x) k126 k92 (m2 + 1) true (nI h) ρ = mX12_tour_L47 233 (nI t) (nI x) k126 k92 m2 true (nI (h + 1)) M := by
            rw [rf1, rgo, obs_eq]
          rw [cl1, rf2]
          exact ⟨S, P, ih⟩
theorem r_way_L7 {L : List Nd} {ly : Nat} (hl : L.length ≤ 2000) (hW : WIn v t L) (oN : v.N ≤ 10) {x2 : Int32} {k38 : St_ → Option (Int32 × St_)} : ∀ n m g (q : Nd) (σ : St_), TR v L ly σ → L[g]? = some q → q.2.2.2 = n → n ≤ 9 → n < m → ∃ σ', mX12_putWay_L7 233 x2 k38 m (nI g) (nI n - 1) σ = k38 σ' ∧ (∀ i b, (pth L n g)[i]? = some b → σ'.1 269 i = encO b) ∧ ∀ a k, ¬ (a = 269 ∧ k < n) → σ'.1 a k = σ.1 a k
  | 0, m, g, q, σ, hT, hq, hn, hle, hm => by
    obtain ⟨m, rfl, -⟩ := fu_suc hm
    refine ⟨σ, ?_, fun i b hb => by simp [pth] at hb, fun a k _ => rfl⟩
    unfold mX12_putWay_L7
    rw [if_pos (by decide)]
  | n + 1, m, g, q, σ, hT, hq, hn, hle, hm => by
    obtain ⟨m, rfl, hm⟩ := fu_suc hm
    have gl : g < L.length := (List.getElem?_eq_some_iff.mp hq).1
    rcases hW g q hq with ⟨e1, -⟩ | ⟨p, pq, e1, e2, e3, e4, e5⟩
    · omega
    · obtain ⟨-, -, fg, bg⟩ := hT.2.2.2 g q hq
      rw [e1] at fg
      have fg' : σ.1 267 g = nI p := fg
      obtain ⟨B, b1, b2, b3⟩ := r_way_L7 hl hW oN (x2 := x2) (k38 := k38) n m p pq (sI σ 269 n (encO q.2.2.1)) (hT.fr oN (fun a k q => by rw [sI_get, if_neg (by omega)])) e3 (by omega) (by omega) (by omega)
      refine ⟨B, ?_, fun i b hb => ?_, fun a k hn' => by rw [b3 a k (by omega), sI_get, if_neg (by omega)]⟩
      · have s1 : nI (n + 1) - 1 = nI n := nI_s1 (by omega)
        have s2 : nI n + (-1) = nI n - 1 := (Int32.sub_eq_add_neg (nI n) 1).symm
        unfold mX12_putWay_L7
        simp only [bnd_eq]
        rw [s1, if_neg (nI_pos (by omega)), binn (show g < 2002 by omega) (by omega), if_pos rfl, binn (show n < 10 by omega) (by omega), if_pos rfl, if_pos rfl, pn_cl (show g < 2 ^ 31 by omega), pn_cl (show n < 2 ^ 31 by omega), show 233 + 35 = 268 from rfl, show 233 + 36 = 269 from rfl, show 233 + 34 = 267 from rfl, bg, sI_get, if_neg (by omega), fg', s2]
        exact b1
      · have ep : pth L (n + 1) g = pth L n p ++ [q.2.2.1] := by
          conv => lhs; unfold pth
          rw [hq]
          simp only [e1, Option.getD_some]
        rw [ep] at hb
        rcases get_snoc hb with ⟨g1, g2⟩ | ⟨g1, g2⟩
        · exact b2 i b g2
        · rw [pth_len hW n p pq e3 (by omega)] at g1
          subst g1
          rw [g2, b3 269 i (by omega), sI_get, if_pos ⟨rfl, rfl⟩]
theorem swN_len (b : Option Nat) : (swN b).length = 3 := by cases b <;> rfl
theorem flat_len : ∀ P : List (Option Nat), (P.flatMap swN).length = 3 * P.length
  | [] => rfl
  | b :: P => by
    rw [List.flatMap_cons, List.length_append, swN_len, flat_len P, List.length_cons]
    omega
theorem flat_get : ∀ (P : List (Option Nat)) k y, (P.flatMap swN)[k]? = some y → ∃ i b j, P[i]? = some b ∧ (swN b)[j]? = some y ∧ k = 3 * i + j
  | [], k, y, h => by simp at h
  | b :: P, k, y, h => by
    rw [List.flatMap_cons] at h
    by_cases q : k < 3
    · rw [List.getElem?_append_left (by rw [swN_len]; exact q)] at h
      exact ⟨0, b, k, rfl, h, by omega⟩
    · rw [List.getElem?_append_right (by rw [swN_len]; omega), swN_len] at h
      obtain ⟨i, b', j, e1, e2, e3⟩ := flat_get P (k - 3) y h
      exact ⟨i + 1, b', j, by rw [List.getElem?_cons_succ]; exact e1, e2, by omega⟩
theorem r_way_L41 {n : Nat} (hn : n ≤ 9) : ∀ (B A : List (Option Nat)) m (σ : St_), A.length + B.length = n → B.length < m → (∀ i b, (A ++ B)[i]? = some b → σ.1 269 i = encO b) → (∀ s, some s ∈ B → s < 60000) → LR (A.flatMap swN) σ → ∃ σ', mX12_putWay_L41 233 (nI n) m (nI A.length) σ = some (nI n, σ') ∧ LR ((A ++ B).flatMap swN) σ'
  | [], A, m, σ, hl, hm, hA, hB, hL => by
    obtain ⟨m, rfl, -⟩ := fu_suc hm
    have hl' : A.length = n := by simpa using hl
    refine ⟨σ, ?_, by rw [List.append_nil]; exact hL⟩
    unfold mX12_putWay_L41
    rw [if_pos (nI_le (by omega) (by omega))]
  | b :: B, A, m, σ, hl, hm, hA, hB, hL => by
    obtain ⟨m, rfl, hm⟩ := fu_suc hm
    rw [List.length_cons] at hl hm
    have hb : σ.1 269 A.length = encO b := hA A.length b (by simp)
    obtain ⟨C, c1, c2, c3⟩ := r_laySwap hL (by rw [flat_len]; omega) (b := b) (fun s e => hB s (by rw [← e]; exact List.mem_cons_self))
    have ea : A ++ b :: B = (A ++ [b]) ++ B := by simp
    obtain ⟨D, d1, d2⟩ := r_way_L41 hn B (A ++ [b]) m C (by simp; omega) (by omega) (fun i b' h => by rw [c3 _ _ (by omega)]; exact hA i b' (by rw [ea]; exact h)) (fun s h => hB s (List.mem_cons_of_mem _ h)) (by rw [List.flatMap_append]; simpa using c2)
    refine ⟨D, ?_, by rw [ea]; exact d2⟩
    have e1 : (A ++ [b]).length = A.length + 1 := by simp
    rw [e1] at d1
    unfold mX12_putWay_L41
    simp only [bnd_eq]
    rw [if_neg (nI_ge (by omega) (by omega)), binn (show A.length < 10 by omega) (by omega), if_pos rfl, pn_cl (by omega), show 233 + 36 = 269 from rfl, hb, c1, obs_eq, nI_1]
    exact d1
theorem pth_lt (ok : v.OK) {L : List Nd} (hW : WIn v t L) : ∀ n g (q : Nd), L[g]? = some q → q.2.2.2 = n → ∀ s, some s ∈ pth L n g → s < 60000
  | 0, g, q, hq, hn, s, hs => by simp [pth] at hs
  | n + 1, g, q, hq, hn, s, hs => by
    have oH := ok.H
    rcases hW g q hq with ⟨e1, -⟩ | ⟨p, pq, e1, e2, e3, e4, e5⟩
    · omega
    · have ep : pth L (n + 1) g = pth L n p ++ [q.2.2.1] := by
        conv => lhs; unfold pth
        rw [hq]
        simp only [e1, Option.getD_some]
      rw [ep, List.mem_append] at hs
      rcases hs with hs | hs
      · exact pth_lt ok hW n p pq e3 (by omega) s hs
      · have hs' : some s = q.2.2.1 := by simpa using hs
        rcases e5 with ⟨f1, -⟩ | ⟨s', hr, jl, f1, f2, -⟩
        · rw [f1] at hs'; cases hs'
        · rw [f1] at hs'
          cases hs'
          omega
theorem r_putWay (ok : v.OK) {L : List Nd} {ly : Nat} (hT : TR v L ly σ) (hl : L.length ≤ 2000) (hW : WIn v t L) {n g : Nat} {q : Nd} (hq : L[g]? = some q) (hd : q.2.2.2 = n) (hn : n ≤ 9) (h71 : σ.1 233 71 = 0) : ∃ σ', mX12_putWay 233 (nI g) (nI n) σ = some (nI n, σ') ∧ LR ((pth L n g).flatMap swN) σ' := by
  obtain ⟨A, a1, a2, a3⟩ := r_way_L7 hl hW ok.N (x2 := nI n) (k38 := (fun (σ5 : St_) => (mX12_putWay_L41 233 (nI n) FU (0 : Int32) σ5))) n FU g q σ hT hq hd hn (by unfold FU; omega)
  have pl := pth_len hW n g q hq hd
  have LA : LR [] A := ⟨by rw [a3 _ _ (by omega), h71]; rfl, fun i x hx => by simp at hx⟩
  obtain ⟨B, b1, b2⟩ := r_way_L41 hn (pth L n g) [] FU A (by rw [pl]; simp) (by rw [pl]; unfold FU; omega) a2 (pth_lt ok hW n g q hq hd) LA
  refine ⟨B, ?_, b2⟩
  have b1' : mX12_putWay_L41 233 (nI n) FU 0 A = some (nI n, B) := b1
  unfold mX12_putWay
  simp only [bnd_eq]
  rw [a1, b1']
end TOUR
