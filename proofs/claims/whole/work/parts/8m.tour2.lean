/-! a tour, whole -/
section TOUR2
variable {σ σ' : St_} {c dr s t th x : Nat} {v : Vw} {z : Sv} {w w' w0 : Nat → Nat}
theorem c_layPath (ok : v.OK) {L : List Nd} {ly n g : Nat} {q : Nd} (hT : TC v L ly σ) (hl : L.length ≤ 2000) (hW : WIn v t L) (hq : L[g]? = some q) (hd : q.2.2.2 = n) (hn : n ≤ 9) (h8 : σ.1 205 8 = nI g) : ∃ σ', mX7_layPath 205 (nI n) 173 30 σ = some (nI (3 * n), σ') ∧ ∀ i b, (pth L n g)[i]? = some b → At3 i b σ' := by
  obtain ⟨A, a1, a2, -⟩ := c_path_L10 ok hl hW hn n FU g q σ hT hq hd (Nat.le_refl _) (by unfold FU; omega)
  refine ⟨A, ?_, a2⟩
  unfold mX7_layPath
  simp only [bnd_eq]
  rw [h8, a1]
theorem tour_both (ok : v.OK) (hcc : c = 12 ∨ c = 28) (hz : Sv.OK v z) (ht : t < v.T) (hx : x < v.N) (hc : CV c v σ) (zc : CS v 44 z σ) {ρ : St_} (hr : RV v ρ) (zr : RN v 262 0 z ρ) : ∃ S P, (∃ e : Int32, (e = -1 ∨ e = -2) ∧ mX7_run 205 c 44 (nI t) (nI x) σ = some (e, S) ∧ mX12_tour 233 (nI t) (nI x) ρ = some (e, P) ∧ LR [] P) ∨ (∃ (n g : Nat) (q : Nd) (L : List Nd) (ly : Nat), n ≤ 9 ∧ L[g]? = some q ∧ q.2.2.2 = n ∧ WIn v t L ∧ L.length ≤ 2000 ∧ TC v L ly S ∧ S.1 205 8 = nI g ∧ mX7_run 205 c 44 (nI t) (nI x) σ = some (nI n, S) ∧ mX12_tour 233 (nI t) (nI x) ρ = some (nI n, P) ∧ LR ((pth L n g).flatMap swN) P) := by
  have oN := ok.N
  have oT := ok.T
  obtain ⟨S0, s1, s2, s3⟩ := tc_begin ok hz ht zc
  have hc0 : CV c v S0 := hc.fr (fun a k q => (fX7_begin _ _ _ _ _ s1 a k (by unfold MOD_X7_begin; unfold FPc at q; omega)).1)
  have hr0 : RV v (sI ρ 233 71 0) := hr.fr (fun a k q => by rw [sI_get, if_neg (by unfold FPr at q; omega)])
  have zr0 : RN v 262 0 z (sI ρ 233 71 0) := zr.fr oN (fun k _ _ => by rw [sI_get, if_neg (by omega)])
  obtain ⟨R1, l1, l2⟩ := r_load oN zr0
  have Fl : ∀ a k, ¬ (a = 263 ∨ (a = 233 ∧ (k = 62 ∨ k = 63))) → R1.1 a k = (sI ρ 233 71 0).1 a k := fun a k q => (fX12_load _ _ _ l1 a k (by unfold MOD_X12_load; omega)).1
  have hr1 : RV v R1 := hr0.fr (fun a k q => Fl a k (by unfold FPr at q; omega))
  generalize hR2 : sI (sI R1 233 76 0) 233 77 0 = R2
  have F2 : ∀ a k, ¬ (a = 233 ∧ (k = 76 ∨ k = 77)) → R2.1 a k = R1.1 a k := fun a k q => by rw [← hR2, sI_get, if_neg (by omega), sI_get, if_neg (by omega)]
  have hr2 : RV v R2 := hr1.fr (fun a k q => F2 a k (by unfold FPr at q; omega))
  have hw2 : RW v z R2 := l2.fr (fun a k q => F2 a k (by omega))
  have T2 : TR v [] 0 R2 := ⟨by rw [← hR2, sI_get, if_neg (by omega), sI_get, if_pos ⟨rfl, rfl⟩]; rfl, by rw [← hR2, sI_get, if_pos ⟨rfl, rfl⟩]; rfl, Nat.le_refl _, fun i q hq => by simp at hq⟩
  obtain ⟨R3, p1, p2⟩ := (r_put hr2 ok T2 (by simp) (fun i q hq => by simp at hq) hz hw2 none none 0).2 rfl
  have p1' : mX12_put 233 (-1) (-1) R2 = some (true, R3) := p1
  have p2' : TR v [(z.wh, none, none, 0)] 0 R3 := p2
  have F3 : ∀ a k, ¬ ((266 ≤ a ∧ a < 269) ∨ (a = 233 ∧ k = 76)) → R3.1 a k = R2.1 a k := fun a k q => (fX12_put _ _ _ _ _ p1' a k (by unfold MOD_X12_put; omega)).1
  have hr3 : RV v R3 := hr2.fr (fun a k q => F3 a k (by unfold FPr at q; omega))
  have h62 : R3.1 233 62 = nI z.hr := by rw [F3 _ _ (by omega)]; exact hw2.hr
  have h63 : R3.1 233 63 = z.jl := by rw [F3 _ _ (by omega)]; exact hw2.jl
  have h71 : R3.1 233 71 = 0 := by rw [F3 _ _ (by omega), F2 _ _ (by omega), Fl _ _ (by omega), sI_get, if_pos ⟨rfl, rfl⟩]
  have LI : LIn v t z.wh 0 0 [(z.wh, none, none, 0)] := by
    have one : ∀ (i : Nat) (q : Nd), [((z.wh, none, none, 0) : Nd)][i]? = some q → q = (z.wh, none, none, 0) := fun i q hq => by
      match i with
      | 0 => simpa using hq.symm
      | i + 1 => simp at hq
    refine ⟨by simp, fun i q hq => ?_, fun i q hq => ?_, fun i q _ hq => ?_⟩
    · rw [one i q hq]; exact NIn_0 ok hz
    · rw [one i q hq]; exact Or.inl ⟨rfl, rfl⟩
    · rw [one i q hq]
  generalize hk126 : (fun (y17 : Bool) (σ18 : St_) => (if y17 = true then (some ((-1 : Int32), σ18)) else (some ((-2 : Int32), σ18)))) = k126
  generalize hk92 : (fun (y19 : Int32) (y20 : Int32) (σ21 : St_) => ((mX12_putWay 233 y20 y19 σ21).bind fun r22 => (some (r22.1, r22.2)))) = k92
  obtain ⟨S, P, hSP⟩ := tour_run (k126 := k126) (k92 := k92) ok hcc hz ht hx (fun ρ => by rw [← hk126]; rfl) (fun ρ => by rw [← hk126]; rfl) 10 FU FU 0 z.hr z.jl 0 [(z.wh, none, none, 0)] S0 R3 (by omega) (by unfold FU; omega) (by unfold FU; omega) hz.hr hc0 s3 s2 hr3 h62 h63 h71 p2' LI
  rw [show nI 0 = (0 : Int32) from rfl] at hSP
  have cr : mX7_run 205 c 44 (nI t) (nI x) σ = mX7_run_L12 205 c 44 (nI t) (nI x) FU 0 0 S0 := by
    unfold mX7_run
    rw [s1, obs_eq]
  have rr : mX12_tour 233 (nI t) (nI x) ρ = mX12_tour_L47 233 (nI t) (nI x) k126 k92 FU true 0 R3 := by
    unfold mX12_tour
    simp only [bnd_eq]
    rw [r_isThief hr0 ok, binn ht (by omega), obs_eq, if_pos rfl, r_isThing hr0 ok, binn hx (by omega), obs_eq, if_pos rfl, l1, obs_eq, hR2, p1', obs_eq, hk126, hk92]
  rcases hSP with ⟨e, e1, e2, e3, e4⟩ | ⟨n, g, q, L, ly, e1, e2, e3, e4, e5, e6, e7, e8, e9, e10, e11⟩
  · exact ⟨S, P, Or.inl ⟨e, e1, cr.trans e2, rr.trans e3, ⟨by rw [e4]; rfl, fun i x hx => by simp at hx⟩⟩⟩
  · obtain ⟨W, w1, w2⟩ := r_putWay ok e9 e5 e4 e2 e3 e1 e10
    refine ⟨S, W, Or.inr ⟨n, g, q, L, ly, e1, e2, e3, e4, e5, e6, e7, cr.trans e8, ?_, w2⟩⟩
    rw [rr, e11, ← hk92]
    show ((mX12_putWay 233 (nI g) (nI n) P).bind fun r22 => (some (r22.1, r22.2))) = _
    rw [w1, obs_eq]
theorem neg_no {n : Nat} (hn : n ≤ 9) {e : Int32} (he : e = -1 ∨ e = -2) : ¬ nI n = e := by
  have h1 : ∀ n : Fin 10, ¬ nI n.1 = (-1 : Int32) := by decide
  have h2 : ∀ n : Fin 10, ¬ nI n.1 = (-2 : Int32) := by decide
  rcases he with rfl | rfl
  · exact h1 ⟨n, by omega⟩
  · exact h2 ⟨n, by omega⟩
theorem core_18 (a1 a2 : Int32) (hV : Vof c σ) (hcc : c = 12 ∨ c = 28) (hnow : Inow σ) : ∃ (r : Int32) (σ1 σ2 : St_), mX11_tour 0 c dr a1 a2 σ = some (r, σ1) ∧ mX12_tour 233 a1 a2 σ1 = some (r, σ2) ∧ Ilaid σ2 := by
  obtain ⟨v, ok, hc, hr, h1, h2, h3, h4, -⟩ := hV
  obtain ⟨z, hz, zc, zr, -⟩ := now_of ok h1 h2 h3 h4 hnow
  have oN := ok.N
  have oT := ok.T
  have hc0 : CV c v (sI σ 0 9 0) := hc.fr (fun a k q => by rw [sI_get, if_neg (by unfold FPc at q; omega)])
  have zc0 : CS v 44 z (sI σ 0 9 0) := zc.fr (fun a k q => by rw [sI_get, if_neg (by omega)])
  have L0 : LC [] (sI σ 0 9 0) := lc_nil rfl
  have hr0 : RV v (sI (sI σ 0 9 0) 233 71 0) := hr.fr (fun a k q => by rw [sI_get, if_neg (by unfold FPr at q; omega), sI_get, if_neg (by unfold FPr at q; omega)])
  have no : mX11_tour 0 c dr a1 a2 σ = some (-1, sI σ 0 9 0) → mX12_tour 233 a1 a2 (sI σ 0 9 0) = some (-1, sI (sI σ 0 9 0) 233 71 0) → ∃ (r : Int32) (σ1 σ2 : St_), mX11_tour 0 c dr a1 a2 σ = some (r, σ1) ∧ mX12_tour 233 a1 a2 σ1 = some (r, σ2) ∧ Ilaid σ2 := fun e1 e2 => ⟨-1, _, _, e1, e2, laid_of (l := []) (L0.fr (fun a k q => by rw [sI_get, if_neg (by omega)])) (lr_nil rfl) (by simp)⟩
  cases hb : bin a1 v.T
  · apply no
    · unfold mX11_tour
      simp only [bnd_eq]
      rw [c_isThief hc0 ok, hb, obs_eq]
      rfl
    · unfold mX12_tour
      simp only [bnd_eq]
      rw [r_isThief hr0 ok, hb, obs_eq]
      rfl
  · cases hb2 : bin a2 v.N
    · apply no
      · unfold mX11_tour
        simp only [bnd_eq]
        rw [c_isThief hc0 ok, hb, obs_eq, if_pos rfl, c_isThing hc0 ok, hb2, obs_eq]
        rfl
      · unfold mX12_tour
        simp only [bnd_eq]
        rw [r_isThief hr0 ok, hb, obs_eq, if_pos rfl, r_isThing hr0 ok, hb2, obs_eq]
        rfl
    · obtain ⟨t, ht, rfl, -⟩ := bin_iff.mp hb
      obtain ⟨x, hx, rfl, -⟩ := bin_iff.mp hb2
      have cl : mX11_tour 0 c dr (nI t) (nI x) σ = ((mX7_run 205 c 44 (nI t) (nI x) (sI σ 0 9 0)).bind fun r4 => (if r4.1 ≤ 0 then (some (r4.1, r4.2)) else ((mX7_layPath 205 r4.1 173 30 r4.2).bind fun r5 => some (r4.1, sI r5.2 0 9 r5.1)))) := by
        unfold mX11_tour
        simp only [bnd_eq]
        rw [c_isThief hc0 ok, hb, obs_eq, if_pos rfl, c_isThing hc0 ok, hb2, obs_eq, if_pos rfl]
      have J : ∀ ρ : St_, (∀ a k, 233 ≤ a → ρ.1 a k = σ.1 a k) → _ := fun ρ h => tour_both ok hcc hz ht hx hc0 zc0 (ρ := ρ) (hr.fr (fun a k q => h a k (by unfold FPr at q; omega))) (zr.fr oN (fun k _ _ => h _ _ (by omega)))
      obtain ⟨S, P0, hS⟩ := J σ (fun a k _ => rfl)
      have FS : ∀ e : Int32, mX7_run 205 c 44 (nI t) (nI x) (sI σ 0 9 0) = some (e, S) → ∀ a k, 233 ≤ a ∨ (a = 0 ∧ k = 9) → S.1 a k = (sI σ 0 9 0).1 a k := fun e he a k q => (fX7_run _ _ _ _ _ _ _ he a k (by unfold MOD_X7_run; omega)).1
      have FT : ∀ (r : Int32) (A B : St_), mX12_tour 233 (nI t) (nI x) A = some (r, B) → ∀ a k, a < 233 → B.1 a k = A.1 a k := fun r A B h a k q => (fX12_tour _ _ _ _ _ h a k (by unfold MOD_X12_tour; omega)).1
      rcases hS with ⟨e, e1, e2, -⟩ | ⟨n, g, q, L, ly, e1, e2, e3, e4, e5, e6, e7, e8, -⟩
      · -- not found
        have F := FS e e2
        have cls : mX11_tour 0 c dr (nI t) (nI x) σ = some (e, S) := by
          rw [cl, e2, obs_eq]
          have : e ≤ 0 := by rcases e1 with rfl | rfl <;> decide
          exact if_pos this
        have LS : LC [] S := ⟨by rw [F _ _ (by omega)]; exact L0.1, fun i y hy => by simp at hy⟩
        obtain ⟨S', P, hP⟩ := J S (fun a k hk => by rw [F a k (by omega), sI_get, if_neg (by omega)])
        rcases hP with ⟨e', f1, f2, f3, f4⟩ | ⟨n, g, q, L, ly, f1, f2, f3, f4, f5, f6, f7, f8, -⟩
        · rw [e2] at f2
          cases f2
          exact ⟨e, S, P, cls, f3, laid_of (l := []) (LS.fr (fun a k q => FT _ _ _ f3 a k (by omega))) f4 (by simp)⟩
        · rw [e2] at f8
          have := congrArg (fun o => o.map Prod.fst) f8
          simp only [Option.map_some, Option.some.injEq] at this
          exact absurd this.symm (neg_no f1 e1)
      · have F := FS _ e8
        by_cases n0 : n = 0
        · subst n0
          have cls : mX11_tour 0 c dr (nI t) (nI x) σ = some (nI 0, S) := by
            rw [cl, e8, obs_eq]
            exact if_pos (show nI 0 ≤ 0 by decide)
          have LS : LC [] S := ⟨by rw [F _ _ (by omega)]; exact L0.1, fun i y hy => by simp at hy⟩
          obtain ⟨S', P, hP⟩ := J S (fun a k hk => by rw [F a k (by omega), sI_get, if_neg (by omega)])
          rcases hP with ⟨e', f1, f2, f3, f4⟩ | ⟨n, g, q, L, ly, f1, f2, f3, f4, f5, f6, f7, f8, f9, f10⟩
          · rw [e8] at f2
            have := congrArg (fun o => o.map Prod.fst) f2
            simp only [Option.map_some, Option.some.injEq] at this
            exact absurd this (neg_no (n := 0) (by omega) f1)
          · rw [e8] at f8
            have e := congrArg (fun o => o.map Prod.fst) f8
            simp only [Option.map_some, Option.some.injEq] at e
            have e' : 0 = n := (nI_eq (a := 0) (b := n) (by omega) (by omega)).mp e
            subst e'
            exact ⟨nI 0, S, P, cls, f9, laid_of (l := []) (LS.fr (fun a k q => FT _ _ _ f9 a k (by omega))) f10 (by simp)⟩
        · obtain ⟨W, w1, -⟩ := c_layPath ok e6 e5 e4 e2 e3 e1 e7
          have FW : ∀ a k, ¬ a = 173 → W.1 a k = S.1 a k := fun a k q => (fX7_layPath _ _ _ _ _ _ w1 a k (by unfold MOD_X7_layPath; omega)).1
          have cls : mX11_tour 0 c dr (nI t) (nI x) σ = some (nI n, sI W 0 9 (nI (3 * n))) := by
            rw [cl, e8, obs_eq]
            show (if nI n ≤ 0 then _ else ((mX7_layPath 205 (nI n) 173 30 S).bind fun r5 => some (nI n, sI r5.2 0 9 r5.1))) = _
            rw [if_neg (show ¬ nI n ≤ (0 : Int32) from nI_ge (b := n) (a := 0) (by omega) (by omega)), w1, obs_eq]
          obtain ⟨S', P, hP⟩ := J (sI W 0 9 (nI (3 * n))) (fun a k hk => by rw [sI_get, if_neg (by omega), FW a k (by omega), F a k (by omega), sI_get, if_neg (by omega)])
          rcases hP with ⟨e', f1, f2, f3, f4⟩ | ⟨n', g', q', L', ly', f1, f2, f3, f4, f5, f6, f7, f8, f9, f10⟩
          · rw [e8] at f2
            have := congrArg (fun o => o.map Prod.fst) f2
            simp only [Option.map_some, Option.some.injEq] at this
            exact absurd this (neg_no e1 f1)
          · rw [e8] at f8
            have e := congrArg (fun o => o.map Prod.fst) f8
            simp only [Option.map_some, Option.some.injEq] at e
            have e' : n = n' := (nI_eq (by omega) (by omega)).mp e
            subst e'
            have es := congrArg (fun o => o.map Prod.snd) f8
            simp only [Option.map_some, Option.some.injEq] at es
            subst es
            obtain ⟨W', w3, w4⟩ := c_layPath ok f6 f5 f4 f2 f3 f1 f7
            rw [w1] at w3
            have ew := congrArg (fun o => o.map Prod.snd) w3
            simp only [Option.map_some, Option.some.injEq] at ew
            subst ew
            have pl := pth_len f4 n g' q' f2 f3
            have LW : LC ((pth L' n g').flatMap swN) (sI W 0 9 (nI (3 * n))) := by
              refine ⟨by rw [sI_get, if_pos ⟨rfl, rfl⟩, flat_len, pl], fun k y hy => ?_⟩
              obtain ⟨i, b, j, y1, y2, y3⟩ := flat_get _ k y hy
              rw [sI_get, if_neg (by omega), y3]
              exact w4 i b y1 j y y2
            exact ⟨_, _, P, cls, f9, laid_of (LW.fr (fun a k q => FT _ _ _ f9 a k (by omega))) f10 (by rw [flat_len, pl]; omega)⟩
end TOUR2
