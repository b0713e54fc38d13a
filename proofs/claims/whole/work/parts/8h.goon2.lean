/-! an HOUR on: the reference -/
section GOON2
variable {σ σ' : St_} {c dr s t th : Nat} {v : Vw} {z : Sv} {w w' w0 : Nat → Nat}
theorem r_loadCome_L {k : Nat} (hk : k ≤ 2001) : ∀ r n i (σ : St_), i + r = 10 → r < n → ∃ σ' : St_, mX12_loadCome_L2 233 (nI k) n (nI i) σ = some σ' ∧ ∀ a j, σ'.1 a j = if a = 263 ∧ i ≤ j ∧ j < 10 then σ.1 266 (10 * k + j) else σ.1 a j
  | 0, n, i, σ, hi, hn => by
    obtain ⟨m, rfl, -⟩ := fu_suc hn
    refine ⟨σ, ?_, fun a j => by rw [if_neg (by omega)]⟩
    unfold mX12_loadCome_L2
    rw [show (10 : Int32) = nI 10 from rfl, if_pos (nI_le (by omega) (by omega))]
  | r + 1, n, i, σ, hi, hn => by
    obtain ⟨m, rfl, hm⟩ := fu_suc hn
    obtain ⟨σ', e1, e3⟩ := r_loadCome_L hk r m (i + 1) (sI σ 263 i (σ.1 266 (10 * k + i))) (by omega) (by omega)
    refine ⟨σ', ?_, fun a j => ?_⟩
    · unfold mX12_loadCome_L2
      simp only [bnd_eq]
      rw [if_neg (show ¬ (10 : Int32) ≤ nI i from nI_ge (b := 10) (by omega) (by omega)), ten_mul, nI_add, binn (show 10 * k + i < 20020 by omega) (by omega), binn (show i < 10 by omega) (by omega), if_pos rfl, if_pos rfl, pn_cl (by omega), pn_cl (by omega), show 233 + 33 = 266 from rfl, show 233 + 30 = 263 from rfl, nI_1]
      exact e1
    · rw [e3, sI_get, sI_get, if_neg (show ¬ (266 = 263 ∧ 10 * k + j = i) by omega)]
      by_cases q : a = 263 ∧ i ≤ j ∧ j < 10
      · rw [if_pos q]
        by_cases q2 : j = i
        · rw [if_neg (by omega), if_pos ⟨q.1, q2⟩, q2]
        · rw [if_pos (by omega)]
      · rw [if_neg q, if_neg (by omega), if_neg (by omega)]
theorem r_loadCome (ok : v.OK) {L : List Nd} {ly k hr : Nat} {jl : Int32} {kq : Nd} (hT : TR v L ly σ) (hl : L.length ≤ 2001) (hk : L[k]? = some kq) (h62 : σ.1 233 62 = nI hr) (h63 : σ.1 233 63 = jl) : ∃ σ', mX12_loadCome 233 (nI k) σ = some σ' ∧ RW v (svK kq.1 hr jl) σ' ∧ ∀ a j, ¬ a = 263 → σ'.1 a j = σ.1 a j := by
  have oN := ok.N
  have kl : k < L.length := (List.getElem?_eq_some_iff.mp hk).1
  obtain ⟨c1, c2, -, -⟩ := hT.2.2.2 k kq hk
  obtain ⟨σ', e1, e2⟩ := r_loadCome_L (k := k) (by omega) 10 FU 0 σ (by omega) (by unfold FU; omega)
  refine ⟨σ', by unfold mX12_loadCome; exact e1, ⟨fun x hx => ?_, fun x q1 q2 => ?_, ?_, ?_⟩, fun a j hn => by rw [e2, if_neg (by omega)]⟩
  · rw [e2, if_pos (by omega)]; exact c1 x hx
  · rw [e2, if_pos (by omega)]; exact c2 x q1 q2
  · rw [e2, if_neg (by omega)]; exact h62
  · rw [e2, if_neg (by omega)]; exact h63
theorem TR.fr {L : List Nd} {ly : Nat} (h : TR v L ly σ) (hN : v.N ≤ 10) (e : ∀ a k, (a = 233 ∧ (k = 76 ∨ k = 77)) ∨ a = 266 ∨ a = 267 ∨ a = 268 → σ'.1 a k = σ.1 a k) : TR v L ly σ' := by
  obtain ⟨h1, h2, h3, h4⟩ := h
  refine ⟨by rw [e _ _ (by omega)]; exact h1, by rw [e _ _ (by omega)]; exact h2, h3, fun i q hq => ?_⟩
  obtain ⟨c1, c2, c3, c4⟩ := h4 i q hq
  exact ⟨fun x hx => by rw [e _ _ (by omega)]; exact c1 x hx, fun x x1 x2 => by rw [e _ _ (by omega)]; exact c2 x x1 x2, by rw [e _ _ (by omega)]; exact c3, by rw [e _ _ (by omega)]; exact c4⟩
theorem nd_le (ok : v.OK) (hz : Sv.OK v z) (ht : t < v.T) {L : List Nd} (hN : NdO v t z.wh L) : ∀ (i : Nat) (q : Nd), L[i]? = some q → ∀ x, x < v.N → q.1 x ≤ 9 := fun i q hq x hx => by
  have oR := ok.R0
  have := (nd_OK ok hz ht (hN i q hq) (hr := 0) (by omega) 0).le ok hx
  exact this
theorem r_goS (ok : v.OK) (hz : Sv.OK v z) (ht : t < v.T) {k d ly hr : Nat} {jl x3 : Int32} (hhr : hr < v.R) {kq : Nd} (hkd : kq.2.2.2 + 1 = d) (hkn : NIn v t z.wh kq.1) {k86 : St_ → Option (Bool × St_)} : ∀ (l : List Nat) m f (L : List Nd) (σ : St_), RV v σ → RW v (svK kq.1 hr jl) σ → TR v L ly σ → LIn v t z.wh d ly L → L[k]? = some kq → swF v (svK kq.1 hr jl) t f = l → l.length < m → ∃ σ', ((goS v t (svK kq.1 hr jl) k d ly l L).1 = true → mX12_goOn_L41 233 (nI t) x3 (nI k) k86 m (encO l.head?) σ = k86 σ' ∧ TR v (goS v t (svK kq.1 hr jl) k d ly l L).2 ly σ' ∧ RV v σ' ∧ RW v (svK kq.1 hr jl) σ') ∧ ((goS v t (svK kq.1 hr jl) k d ly l L).1 = false → mX12_goOn_L41 233 (nI t) x3 (nI k) k86 m (encO l.head?) σ = some (false, σ'))
  | [], m, f, L, σ, hr', hw, hT, hL, hk, hl, hm => by
    obtain ⟨m, rfl, -⟩ := fu_suc hm
    refine ⟨σ, fun _ => ⟨?_, hT, hr', hw⟩, fun e => (by cases e)⟩
    unfold mX12_goOn_L41
    rw [if_pos (by decide)]
  | s :: l, m, f, L, σ, hr', hw, hT, hL, hk, hl, hm => by
    have oH := ok.H
    have oN := ok.N
    obtain ⟨m, rfl, hm⟩ := fu_suc hm
    obtain ⟨t1, t2, t3, t4⟩ := swF_tail hl
    rw [List.length_cons] at hm
    have hkz : Sv.OK v (svK kq.1 hr jl) := nd_OK ok hz ht hkn hhr jl
    have hq : NIn v t z.wh (swM (svK kq.1 hr jl) t s).wh := NIn_mv ok hkn t3 t4
    have pin := putA_in hL hk hkd (q := ((swM (svK kq.1 hr jl) t s).wh, some k, some s, d)) hq rfl rfl (Or.inr ⟨s, hr, jl, rfl, t3, t4, rfl⟩)
    obtain ⟨A, a1, a2, a3⟩ := r_doSwap hr' ok hw ht t3
    have hrA : RV v A := rv_mv hr' a3
    have hTA : TR v L ly A := hT.fr oN (fun a k q => a3 a k (by omega))
    have pt := r_put hrA ok hTA hL.1 (nd_le ok hz ht hL.2.1) (swM_OK ok hkz ht t3) a2 (some k) (some s) d
    have e0 : encO (some k) = nI k := rfl
    have e1 : encO (some s) = nI s := rfl
    rw [e0, e1] at pt
    obtain ⟨p1, p2⟩ := pt
    have hd1 : mX12_goOn_L41 233 (nI t) x3 (nI k) k86 (m + 1) (encO (s :: l).head?) σ = (mX12_put 233 (nI k) (nI s) A).bind fun r7 => if r7.1 = true then (mX12_loadCome 233 (nI k) r7.2).bind fun σ8 => (mX12_nextSwap 233 (nI t) (nI (s + 1)) σ8).bind fun r9 => mX12_goOn_L41 233 (nI t) x3 (nI k) k86 m r9.1 r9.2 else some (false, r7.2) := by
      conv => lhs; unfold mX12_goOn_L41
      rw [show encO (s :: l).head? = nI s from rfl, if_neg (nI_pos (by omega)), a1, obs_eq]
      simp only [nI_1]
    rw [hd1]
    -- behind it
    have go : ∀ (L' : List Nd) (B : St_), LIn v t z.wh d ly L' → L'[k]? = some kq → TR v L' ly B → RV v B → B.1 233 62 = nI hr → B.1 233 63 = jl → ∃ σ', ((goS v t (svK kq.1 hr jl) k d ly l L').1 = true → ((mX12_loadCome 233 (nI k) B).bind fun σ8 => (mX12_nextSwap 233 (nI t) (nI (s + 1)) σ8).bind fun r9 => mX12_goOn_L41 233 (nI t) x3 (nI k) k86 m r9.1 r9.2) = k86 σ' ∧ TR v (goS v t (svK kq.1 hr jl) k d ly l L').2 ly σ' ∧ RV v σ' ∧ RW v (svK kq.1 hr jl) σ') ∧ ((goS v t (svK kq.1 hr jl) k d ly l L').1 = false → ((mX12_loadCome 233 (nI k) B).bind fun σ8 => (mX12_nextSwap 233 (nI t) (nI (s + 1)) σ8).bind fun r9 => mX12_goOn_L41 233 (nI t) x3 (nI k) k86 m r9.1 r9.2) = some (false, σ')) := by
      intro L' B hL' hk' hTB hrB h62 h63
      obtain ⟨C, c1, c2, c3⟩ := r_loadCome ok hTB (by have := hL'.1; omega) hk' h62 h63
      have hrC : RV v C := rv_mv hrB c3
      obtain ⟨D, d1, d2, d3, d4⟩ := r_nextSwap hrC ok hkz c2 ht (f := s + 1) (by omega)
      rw [t1] at d1
      rw [c1, obs_eq, d1, obs_eq]
      exact r_goS ok hz ht hhr hkd hkn l m (s + 1) L' D d2 d3 (hTB.fr oN (fun a j q => by rw [d4 a j (by omega), c3 a j (by omega)])) hL' hk' t1 (by omega)
    have A62 : A.1 233 62 = nI hr := by rw [a3 _ _ (by omega)]; exact hw.hr
    have A63 : A.1 233 63 = jl := by rw [a3 _ _ (by omega)]; exact hw.jl
    unfold goS
    cases hf : fnd v L ly (swM (svK kq.1 hr jl) t s).wh
    · obtain ⟨B, b1, b2⟩ := p2 hf
      have FB : ∀ a j, ¬ (a = 266 ∨ a = 267 ∨ a = 268 ∨ (a = 233 ∧ j = 76)) → B.1 a j = A.1 a j := fun a j hn => (fX12_put _ _ _ _ _ b1 a j (by unfold MOD_X12_put; omega)).1
      by_cases hlen : L.length < 2000
      · have ep : putA v ly L ((swM (svK kq.1 hr jl) t s).wh, some k, some s, d) = (true, L ++ [((swM (svK kq.1 hr jl) t s).wh, some k, some s, d)]) := by
          unfold putA
          rw [if_neg (by show ¬ fnd v L ly (swM (svK kq.1 hr jl) t s).wh = true; rw [hf]; simp), if_pos hlen]
        rw [ep] at pin ⊢
        rw [b1, obs_eq, decide_eq_true hlen, if_pos rfl]
        simp only [if_true]
        exact go _ B pin.1 (pin.2 k kq hk) b2 (hrA.fr (fun a j q => FB a j (by unfold FPr at q; omega))) (by rw [FB _ _ (by omega)]; exact A62) (by rw [FB _ _ (by omega)]; exact A63)
      · have ep : putA v ly L ((swM (svK kq.1 hr jl) t s).wh, some k, some s, d) = (false, L) := by
          unfold putA
          rw [if_neg (by show ¬ fnd v L ly (swM (svK kq.1 hr jl) t s).wh = true; rw [hf]; simp), if_neg hlen]
        rw [ep, b1, obs_eq, decide_eq_false hlen, if_neg (show ¬ false = true by simp)]
        refine ⟨B, fun e => ?_, fun _ => rfl⟩
        simp at e
    · have ep : putA v ly L ((swM (svK kq.1 hr jl) t s).wh, some k, some s, d) = (true, L) := by
        unfold putA
        rw [if_pos (show fnd v L ly (swM (svK kq.1 hr jl) t s).wh = true from hf)]
      rw [ep, p1 hf, obs_eq, if_pos rfl]
      simp only [if_true]
      exact go L A hL hk hTA hrA A62 A63
theorem r_goK (ok : v.OK) (hz : Sv.OK v z) (ht : t < v.T) {d ly hr : Nat} {jl : Int32} (hhr : hr < v.R) {k104 : St_ → Option (Bool × St_)} : ∀ n m k (L : List Nd) (σ : St_), RV v σ → σ.1 233 62 = nI hr → σ.1 233 63 = jl → TR v L ly σ → LIn v t z.wh d ly L → (∀ (i : Nat) (q : Nd), k ≤ i → i < ly → L[i]? = some q → q.2.2.2 + 1 = d) → k + n = ly → n < m → ∃ σ', ((goK v t hr jl d ly n k L).1 = true → mX12_goOn_L21 233 (nI t) (nI ly) k104 m (nI k) σ = k104 σ' ∧ TR v (goK v t hr jl d ly n k L).2 ly σ' ∧ RV v σ' ∧ σ'.1 233 62 = nI hr ∧ σ'.1 233 63 = jl) ∧ ((goK v t hr jl d ly n k L).1 = false → mX12_goOn_L21 233 (nI t) (nI ly) k104 m (nI k) σ = some (false, σ'))
  | 0, m, k, L, σ, hr', h62, h63, hT, hL, hD, hk, hm => by
    obtain ⟨m, rfl, -⟩ := fu_suc hm
    have := hT.2.2.1
    have := hL.1
    refine ⟨σ, fun _ => ⟨?_, hT, hr', h62, h63⟩, fun e => (by cases e)⟩
    unfold mX12_goOn_L21
    rw [if_pos (nI_le (by omega) (by omega))]
  | n + 1, m, k, L, σ, hr', h62, h63, hT, hL, hD, hk, hm => by
    obtain ⟨m, rfl, hm⟩ := fu_suc hm
    have oN := ok.N
    have hly := hT.2.2.1
    have h2000 := hL.1
    have kl : k < L.length := by omega
    have hkq : L[k]? = some L[k] := List.getElem?_eq_getElem kl
    generalize L[k] = kq at hkq
    have hkn : NIn v t z.wh kq.1 := hL.2.1 k kq hkq
    have hkd : kq.2.2.2 + 1 = d := hD k kq (by omega) (by omega) hkq
    have hkz : Sv.OK v (svK kq.1 hr jl) := nd_OK ok hz ht hkn hhr jl
    obtain ⟨A, a1, a2, a3⟩ := r_loadCome ok hT (by omega) hkq h62 h63
    have hrA : RV v A := rv_mv hr' a3
    obtain ⟨B, b1, b2, b3, b4⟩ := r_nextSwap hrA ok hkz a2 ht (f := 0) (by omega)
    have hTB : TR v L ly B := hT.fr oN (fun a j q => by rw [b4 a j (by omega), a3 a j (by omega)])
    obtain ⟨C, c1, c2⟩ := r_goS ok hz ht (x3 := nI ly) hhr hkd hkn (k86 := fun σ10 => (mX12_put 233 (nI k) (-1 : Int32) σ10).bind fun r11 => if r11.1 = true then mX12_goOn_L21 233 (nI t) (nI ly) k104 m (nI (k + 1)) r11.2 else some (false, r11.2)) (swl v (svK kq.1 hr jl) t) FU 0 L B b2 b3 hTB hL hkq rfl (by unfold FU; have := swl_len (v := v) (z := svK kq.1 hr jl) (t := t) ok; omega)
    have gin := goS_in (hr := hr) (jl := jl) ok hkd hkn (swl v (svK kq.1 hr jl) t) L hL hkq (fun s hs => (swF_mem.mp hs).2)
    have hd1 : mX12_goOn_L21 233 (nI t) (nI ly) k104 (m + 1) (nI k) σ = mX12_goOn_L41 233 (nI t) (nI ly) (nI k) (fun σ10 => (mX12_put 233 (nI k) (-1 : Int32) σ10).bind fun r11 => if r11.1 = true then mX12_goOn_L21 233 (nI t) (nI ly) k104 m (nI (k + 1)) r11.2 else some (false, r11.2)) FU (encO (swl v (svK kq.1 hr jl) t).head?) B := by
      conv => lhs; unfold mX12_goOn_L21
      rw [if_neg (nI_ge (by omega) (by omega)), a1, obs_eq, show (0 : Int32) = nI 0 from rfl, b1, obs_eq]
      simp only [nI_1]
      rfl
    rw [hd1]
    have eg : goK v t hr jl d ly (n + 1) k L = if (goS v t (svK kq.1 hr jl) k d ly (swl v (svK kq.1 hr jl) t) L).1 = true then (if (putA v ly (goS v t (svK kq.1 hr jl) k d ly (swl v (svK kq.1 hr jl) t) L).2 (kq.1, some k, none, d)).1 = true then goK v t hr jl d ly n (k + 1) (putA v ly (goS v t (svK kq.1 hr jl) k d ly (swl v (svK kq.1 hr jl) t) L).2 (kq.1, some k, none, d)).2 else (false, L)) else (false, L) := by
      conv => lhs; unfold goK
      rw [hkq]
    rw [eg]
    generalize hG : goS v t (svK kq.1 hr jl) k d ly (swl v (svK kq.1 hr jl) t) L = G at c1 c2 gin
    cases g1 : G.1
    · rw [if_neg (show ¬ false = true by simp), c2 g1]
      exact ⟨C, fun e => (by cases e), fun _ => rfl⟩
    · rw [if_pos rfl]
      obtain ⟨d1, d2, d3, d4⟩ := c1 g1
      rw [d1]
      have pt := r_put d3 ok d2 gin.1.1 (nd_le ok hz ht gin.1.2.1) hkz d4 (some k) none d
      have pin := putA_in gin.1 (gin.2 k kq hkq) hkd (q := (kq.1, some k, none, d)) hkn rfl rfl (Or.inl ⟨rfl, rfl⟩)
      have e0 : encO (some k) = nI k := rfl
      have e1 : encO none = (-1 : Int32) := rfl
      rw [e0, e1] at pt
      obtain ⟨p1, p2⟩ := pt
      have go := fun (L' : List Nd) (σ' : St_) h1 h2 h3 h4 h4' (h5 : pre L L') => r_goK (d := d) (ly := ly) (jl := jl) ok hz ht hhr (k104 := k104) n m (k + 1) L' σ' h1 h2 h3 h4 h4' (fun i q i1 i2 i3 => by
        have il : i < L.length := by omega
        have e : L[i]? = some L[i] := List.getElem?_eq_getElem il
        have e2 := h5 i _ e
        rw [i3] at e2
        cases e2
        exact hD i _ (by omega) i2 e) (by omega) (by omega)
      cases hf : fnd v G.2 ly kq.1
      · obtain ⟨E, f1, f2⟩ := p2 hf
        have FE : ∀ a j, ¬ (a = 266 ∨ a = 267 ∨ a = 268 ∨ (a = 233 ∧ j = 76)) → E.1 a j = C.1 a j := fun a j hn => (fX12_put _ _ _ _ _ f1 a j (by unfold MOD_X12_put; omega)).1
        by_cases hlen : G.2.length < 2000
        · have ep : putA v ly G.2 (kq.1, some k, none, d) = (true, G.2 ++ [(kq.1, some k, none, d)]) := by
            unfold putA
            rw [if_neg (by show ¬ fnd v G.2 ly kq.1 = true; rw [hf]; simp), if_pos hlen]
          rw [ep] at pin ⊢
          rw [f1, obs_eq, decide_eq_true hlen, if_pos rfl, if_pos rfl]
          exact go (G.2 ++ [(kq.1, some k, none, d)]) E (d3.fr (fun a j q => FE a j (by unfold FPr at q; omega))) (by rw [FE _ _ (by omega)]; exact d4.hr) (by rw [FE _ _ (by omega)]; exact d4.jl) f2 pin.1 (fun i p hp => pin.2 i p (gin.2 i p hp))
        · have ep : putA v ly G.2 (kq.1, some k, none, d) = (false, G.2) := by
            unfold putA
            rw [if_neg (by show ¬ fnd v G.2 ly kq.1 = true; rw [hf]; simp), if_neg hlen]
          rw [ep, f1, obs_eq, decide_eq_false hlen, if_neg (show ¬ false = true by simp), if_neg (show ¬ false = true by simp)]
          exact ⟨E, fun e => (by cases e), fun _ => rfl⟩
      · have ep : putA v ly G.2 (kq.1, some k, none, d) = (true, G.2) := by
          unfold putA
          rw [if_pos (show fnd v G.2 ly kq.1 = true from hf)]
        rw [ep, p1 hf, obs_eq, if_pos rfl, if_pos rfl]
        exact go G.2 C d3 d4.hr d4.jl d2 gin.1 gin.2
end GOON2
