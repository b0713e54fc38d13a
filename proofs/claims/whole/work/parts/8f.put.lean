/-! the reference: states come to in one row; what an HOUR comes to -/
section PUT
variable {σ σ' : St_} {c dr s t th : Nat} {v : Vw} {z : Sv} {w w' w0 : Nat → Nat}
theorem r_isCome_L {L : List Nd} {ly : Nat} (hr : RV v σ) (ok : v.OK) (hT : TR v L ly σ) (hl : L.length ≤ 2001) {k : Nat} {q : Nd} (hk : L[k]? = some q) (hq : ∀ x, x < v.N → q.1 x ≤ 9) (hz : Sv.OK v z) (hw : RW v z σ) : ∀ r n i (b : Bool), i + r = v.N → r < n → mX12_isCome_L4 233 σ (nI k) n b (nI i) = some (b && !anyF (fun x => !(q.1 x == z.wh x)) i r)
  | 0, n, i, b, hi, hn => by
    have := ok.N
    obtain ⟨m, rfl, -⟩ := fu_suc hn
    unfold mX12_isCome_L4
    rw [hr.N, if_pos (nI_le (by omega) (by omega))]
    simp [anyF]
  | r + 1, n, i, b, hi, hn => by
    have oN := ok.N
    obtain ⟨m, rfl, hm⟩ := fu_suc hn
    have kl : k < L.length := (List.getElem?_eq_some_iff.mp hk).1
    have ih := fun b => r_isCome_L hr ok hT hl hk hq hz hw r m (i + 1) b (by omega) (by omega)
    have e0 := (hT.2.2.2 k q hk).1 i (by omega)
    unfold mX12_isCome_L4
    simp only [bnd_eq]
    rw [hr.N, if_neg (nI_ge (by omega) (by omega)), nI_1, ih, ih, ten_mul, nI_add, binn (show 10 * k + i < 20020 by omega) (by omega), binn (show i < 10 by omega) (by omega), if_pos rfl, if_pos rfl, pn_cl (by omega), pn_cl (by omega), show 233 + 33 = 266 from rfl, show 233 + 30 = 263 from rfl, e0, hw.wh i (by omega)]
    have we := wcode_eq (hq i (by omega)) (hz.le ok (show i < v.N by omega))
    conv => rhs; unfold anyF
    cases b
    · simp
    · rw [if_pos rfl]
      by_cases q1 : q.1 i = z.wh i
      · rw [if_pos (we.mpr q1)]
        simp [q1]
      · rw [if_neg (fun e => q1 (we.mp e))]
        simp [q1]
theorem r_isCome {L : List Nd} {ly : Nat} (hr : RV v σ) (ok : v.OK) (hT : TR v L ly σ) (hl : L.length ≤ 2001) {k : Nat} {q : Nd} (hk : L[k]? = some q) (hq : ∀ x, x < v.N → q.1 x ≤ 9) (hz : Sv.OK v z) (hw : RW v z σ) : mX12_isCome 233 (nI k) σ = some (eqW v (svK q.1 0 0) (svK z.wh 0 0)) := by
  have := ok.N
  unfold mX12_isCome
  have := r_isCome_L hr ok hT hl hk hq hz hw v.N FU 0 true (by omega) (by unfold FU; omega)
  rw [Bool.true_and, show nI 0 = (0 : Int32) from rfl] at this
  exact this
theorem r_put_L5 {L : List Nd} {ly : Nat} (hr : RV v σ) (ok : v.OK) (hT : TR v L ly σ) (hl : L.length ≤ 2001) (hN : ∀ (i : Nat) (q : Nd), L[i]? = some q → ∀ x, x < v.N → q.1 x ≤ 9) (hz : Sv.OK v z) (hw : RW v z σ) {x1 x2 : Int32} {k29 : Option (Bool × St_)} : ∀ r m k, k + r = L.length → r < m → mX12_put_L5 233 σ x1 x2 k29 m (nI k) = if (L.drop k).any (fun p => eqW v (svK p.1 0 0) (svK z.wh 0 0)) = true then some (true, σ) else k29
  | 0, m, k, hk, hm => by
    obtain ⟨m, rfl, -⟩ := fu_suc hm
    unfold mX12_put_L5
    rw [hT.1, if_pos (nI_le (by omega) (by omega)), List.drop_eq_nil_of_le (by omega)]
    rfl
  | r + 1, m, k, hk, hm => by
    obtain ⟨m, rfl, hm⟩ := fu_suc hm
    have kl : k < L.length := by omega
    have e : L[k]? = some L[k] := List.getElem?_eq_getElem kl
    have ih := r_put_L5 hr ok hT hl hN hz hw (x1 := x1) (x2 := x2) (k29 := k29) r m (k + 1) (by omega) (by omega)
    rw [List.drop_eq_getElem_cons kl, List.any_cons]
    unfold mX12_put_L5
    rw [hT.1, if_neg (nI_ge (by omega) (by omega)), r_isCome hr ok hT hl e (hN k _ e) hz hw, obs_eq]
    cases q1 : eqW v (svK L[k].1 0 0) (svK z.wh 0 0)
    · rw [if_neg (show ¬ false = true by simp), Bool.false_or, nI_1]
      exact ih
    · rw [if_pos rfl, Bool.true_or, if_pos rfl]
theorem r_put_L31 {n : Nat} (hn : n ≤ 2001) {x1 x2 : Int32} {k63 : St_ → Option (Bool × St_)} : ∀ r m i (σ : St_), σ.1 233 76 = nI n → i + r = 10 → r < m → ∃ σ', mX12_put_L31 233 x1 x2 k63 m (nI i) σ = k63 σ' ∧ ∀ a b, σ'.1 a b = if a = 266 ∧ 10 * n + i ≤ b ∧ b < 10 * n + 10 then σ.1 263 (b - 10 * n) else σ.1 a b
  | 0, m, i, σ, h76, hi, hm => by
    obtain ⟨m, rfl, -⟩ := fu_suc hm
    refine ⟨σ, ?_, fun a b => by rw [if_neg (by omega)]⟩
    unfold mX12_put_L31
    rw [show (10 : Int32) = nI 10 from rfl, if_pos (nI_le (by omega) (by omega))]
  | r + 1, m, i, σ, h76, hi, hm => by
    obtain ⟨m, rfl, hm⟩ := fu_suc hm
    obtain ⟨σ', e1, e2⟩ := r_put_L31 hn (x1 := x1) (x2 := x2) (k63 := k63) r m (i + 1) (sI σ 266 (10 * n + i) (σ.1 263 i)) (by rw [sI_get, if_neg (by omega)]; exact h76) (by omega) (by omega)
    refine ⟨σ', ?_, fun a b => ?_⟩
    · unfold mX12_put_L31
      simp only [bnd_eq]
      rw [if_neg (show ¬ (10 : Int32) ≤ nI i from nI_ge (b := 10) (by omega) (by omega)), h76, ten_mul, nI_add, binn (show i < 10 by omega) (by omega), binn (show 10 * n + i < 20020 by omega) (by omega), if_pos rfl, if_pos rfl, pn_cl (by omega), pn_cl (by omega), show 233 + 30 = 263 from rfl, show 233 + 33 = 266 from rfl, nI_1]
      exact e1
    · rw [e2, sI_get, sI_get, if_neg (show ¬ (263 = 266 ∧ b - 10 * n = 10 * n + i) by omega)]
      by_cases q : a = 266 ∧ 10 * n + i ≤ b ∧ b < 10 * n + 10
      · rw [if_pos q]
        by_cases q2 : b = 10 * n + i
        · rw [if_neg (by omega), if_pos ⟨q.1, q2⟩, q2, Nat.add_sub_cancel_left]
        · rw [if_pos (by omega)]
      · rw [if_neg q, if_neg (by omega), if_neg (by omega)]
theorem r_put {L : List Nd} {ly : Nat} (hr : RV v σ) (ok : v.OK) (hT : TR v L ly σ) (hl : L.length ≤ 2000) (hN : ∀ (i : Nat) (q : Nd), L[i]? = some q → ∀ x, x < v.N → q.1 x ≤ 9) (hz : Sv.OK v z) (hw : RW v z σ) (par by' : Option Nat) (d : Nat) : (fnd v L ly z.wh = true → mX12_put 233 (encO par) (encO by') σ = some (true, σ)) ∧ (fnd v L ly z.wh = false → ∃ σ', mX12_put 233 (encO par) (encO by') σ = some (decide (L.length < 2000), σ') ∧ TR v (L ++ [(z.wh, par, by', d)]) ly σ') := by
  obtain ⟨h76, h77, hly, hcell⟩ := id hT
  have oN := ok.N
  have l5 := fun k29 => r_put_L5 hr ok hT (by omega) hN hz hw (x1 := encO par) (x2 := encO by') (k29 := k29) (L.length - ly) FU ly (by omega) (by unfold FU; omega)
  refine ⟨fun hf => ?_, fun hf => ?_⟩
  · unfold mX12_put
    simp only [bnd_eq]
    rw [h77, l5, show (L.drop ly).any (fun p => eqW v (svK p.1 0 0) (svK z.wh 0 0)) = true from hf, if_pos rfl]
  · obtain ⟨A, a1, a2⟩ := r_put_L31 (n := L.length) (by omega) (x1 := encO par) (x2 := encO by') (k63 := fun σ6 => (if bin (σ6.1 233 76) 2002 = true then (if bin ((sI σ6 267 (σ6.1 233 76).toNatClampNeg (encO par)).1 233 76) 2002 = true then (if (2000 : Int32) < ((sI (sI (sI σ6 267 (σ6.1 233 76).toNatClampNeg (encO par)) 268 ((sI σ6 267 (σ6.1 233 76).toNatClampNeg (encO par)).1 233 76).toNatClampNeg (encO by')) 233 76 ((sI (sI σ6 267 (σ6.1 233 76).toNatClampNeg (encO par)) 268 ((sI σ6 267 (σ6.1 233 76).toNatClampNeg (encO par)).1 233 76).toNatClampNeg (encO by')).1 233 76 + 1)).1 233 76) then some (false, sI (sI (sI σ6 267 (σ6.1 233 76).toNatClampNeg (encO par)) 268 ((sI σ6 267 (σ6.1 233 76).toNatClampNeg (encO par)).1 233 76).toNatClampNeg (encO by')) 233 76 ((sI (sI σ6 267 (σ6.1 233 76).toNatClampNeg (encO par)) 268 ((sI σ6 267 (σ6.1 233 76).toNatClampNeg (encO par)).1 233 76).toNatClampNeg (encO by')).1 233 76 + 1)) else some (true, sI (sI (sI σ6 267 (σ6.1 233 76).toNatClampNeg (encO par)) 268 ((sI σ6 267 (σ6.1 233 76).toNatClampNeg (encO par)).1 233 76).toNatClampNeg (encO by')) 233 76 ((sI (sI σ6 267 (σ6.1 233 76).toNatClampNeg (encO par)) 268 ((sI σ6 267 (σ6.1 233 76).toNatClampNeg (encO par)).1 233 76).toNatClampNeg (encO by')).1 233 76 + 1))) else none) else none)) 10 FU 0 σ h76 (by omega) (by unfold FU; omega)
    have A76 : A.1 233 76 = nI L.length := by rw [a2, if_neg (by omega)]; exact h76
    have bn : bin (nI L.length) 2002 = true := binn (by omega) (by omega)
    have cn : (nI L.length).toNatClampNeg = L.length := pn_cl (by omega)
    generalize hB : sI (sI (sI A 267 L.length (encO par)) 268 L.length (encO by')) 233 76 (nI (L.length + 1)) = B
    have g1 : ∀ x, (sI A 267 L.length x).1 233 76 = nI L.length := fun x => by rw [sI_get, if_neg (by omega)]; exact A76
    have g2 : ∀ x y, (sI (sI A 267 L.length x) 268 L.length y).1 233 76 = nI L.length := fun x y => by rw [sI_get, if_neg (by omega)]; exact g1 x
    have g3 : ∀ x y u, (sI (sI (sI A 267 L.length x) 268 L.length y) 233 76 u).1 233 76 = u := fun x y u => by rw [sI_get, if_pos ⟨rfl, rfl⟩]
    have B76 : B.1 233 76 = nI (L.length + 1) := by rw [← hB]; exact g3 _ _ _
    have A267 : ∀ i, A.1 267 i = σ.1 267 i := fun i => by rw [a2, if_neg (by omega)]
    have A268 : ∀ i, A.1 268 i = σ.1 268 i := fun i => by rw [a2, if_neg (by omega)]
    refine ⟨B, ?_, ?_⟩
    · unfold mX12_put
      simp only [bnd_eq]
      rw [h77, l5, show (L.drop ly).any (fun p => eqW v (svK p.1 0 0) (svK z.wh 0 0)) = false from hf, if_neg (show ¬ false = true by simp)]
      rw [show nI 0 = (0 : Int32) from rfl] at a1
      refine Eq.trans a1 ?_
      try dsimp only
      simp only [A76, bn, cn, g1, g2, g3, if_true, nI_1, hB]
      rw [B76]
      by_cases q : L.length < 2000
      · rw [if_neg (show ¬ (2000 : Int32) < nI (L.length + 1) from nI_nlt (a := 2000) (by omega) (by omega)), decide_eq_true q]
      · rw [if_pos (show (2000 : Int32) < nI (L.length + 1) from nI_lt (a := 2000) (by omega) (by omega)), decide_eq_false q]
    · have B0 : ∀ a k, ¬ (a = 267 ∨ a = 268 ∨ (a = 233 ∧ k = 76)) → B.1 a k = A.1 a k := fun a k hn => by rw [← hB, sI_get, if_neg (by omega), sI_get, if_neg (by omega), sI_get, if_neg (by omega)]
      refine ⟨?_, ?_, ?_, fun i q hq => ?_⟩
      · rw [← hB, g3, List.length_append]; rfl
      · rw [B0 _ _ (by omega), a2, if_neg (by omega)]; exact h77
      · rw [List.length_append]; simp; omega
      · have f267 : ∀ i, B.1 267 i = if i = L.length then encO par else σ.1 267 i := fun i => by
          rw [← hB, sI_get, if_neg (by omega), sI_get, if_neg (by omega), sI_get, A267]
          simp
        have f268 : ∀ i, B.1 268 i = if i = L.length then encO by' else σ.1 268 i := fun i => by
          rw [← hB, sI_get, if_neg (by omega), sI_get, sI_get, if_neg (show ¬ (268 = 267 ∧ i = L.length) by omega), A268]
          simp
        rcases get_snoc hq with ⟨k1, k2⟩ | ⟨k1, k2⟩
        · obtain ⟨c1, c2, c3, c4⟩ := hcell i q k2
          refine ⟨fun x hx => ?_, fun x x1 x2 => ?_, ?_, ?_⟩
          · rw [B0 _ _ (by omega), a2, if_neg (by omega)]; exact c1 x hx
          · rw [B0 _ _ (by omega), a2, if_neg (by omega)]; exact c2 x x1 x2
          · rw [f267, if_neg (by omega)]; exact c3
          · rw [f268, if_neg (by omega)]; exact c4
        · subst k1
          subst k2
          refine ⟨fun x hx => ?_, fun x x1 x2 => ?_, ?_, ?_⟩
          · rw [B0 _ _ (by omega), a2, if_pos (by omega), Nat.add_sub_cancel_left]; exact hw.wh x hx
          · rw [B0 _ _ (by omega), a2, if_pos (by omega), Nat.add_sub_cancel_left]; exact hw.no x x1 x2
          · rw [f267, if_pos rfl]
          · rw [f268, if_pos rfl]
/-! an HOUR on -/
def putA (v : Vw) (ly : Nat) (L : List Nd) (q : Nd) : Bool × List Nd := if fnd v L ly q.1 = true then (true, L) else if L.length < 2000 then (true, L ++ [q]) else (false, L)
def goS (v : Vw) (t : Nat) (z : Sv) (k d ly : Nat) : List Nat → List Nd → Bool × List Nd
  | [], L => (true, L)
  | s :: l, L => if (putA v ly L ((swM z t s).wh, some k, some s, d)).1 = true then goS v t z k d ly l (putA v ly L ((swM z t s).wh, some k, some s, d)).2 else (false, L)
def goK (v : Vw) (t hr : Nat) (jl : Int32) (d ly : Nat) : Nat → Nat → List Nd → Bool × List Nd
  | 0, _, L => (true, L)
  | n + 1, k, L => match L[k]? with
    | none => (true, L)
    | some q => if (goS v t (svK q.1 hr jl) k d ly (swl v (svK q.1 hr jl) t) L).1 = true then (if (putA v ly (goS v t (svK q.1 hr jl) k d ly (swl v (svK q.1 hr jl) t) L).2 (q.1, some k, none, d)).1 = true then goK v t hr jl d ly n (k + 1) (putA v ly (goS v t (svK q.1 hr jl) k d ly (swl v (svK q.1 hr jl) t) L).2 (q.1, some k, none, d)).2 else (false, L)) else (false, L)
/-- how states hang together -/
def WIn (v : Vw) (t : Nat) (L : List Nd) : Prop := ∀ (i : Nat) (q : Nd), L[i]? = some q → (q.2.2.2 = 0 ∧ q.2.1 = none) ∨ ∃ p pq, q.2.1 = some p ∧ p < i ∧ L[p]? = some pq ∧ q.2.2.2 = pq.2.2.2 + 1 ∧ ((q.2.2.1 = none ∧ q.1 = pq.1) ∨ ∃ s hr jl, q.2.2.1 = some s ∧ s < 10240 * v.H ∧ isSw v (svK pq.1 hr jl) t s = true ∧ q.1 = (swM (svK pq.1 hr jl) t s).wh)
/-- all that holds of a row of states: layer ly, behind d HOURS from there on -/
def LIn (v : Vw) (t : Nat) (w0 : Nat → Nat) (d ly : Nat) (L : List Nd) : Prop := L.length ≤ 2000 ∧ NdO v t w0 L ∧ WIn v t L ∧ ∀ (i : Nat) (q : Nd), ly ≤ i → L[i]? = some q → q.2.2.2 = d
def pre (L L' : List Nd) : Prop := ∀ (i : Nat) (q : Nd), L[i]? = some q → L'[i]? = some q
theorem putA_in {L : List Nd} {ly d : Nat} (h : LIn v t w0 d ly L) {k : Nat} {kq : Nd} (hk : L[k]? = some kq) (hkd : kq.2.2.2 + 1 = d) {q : Nd} (hq : NIn v t w0 q.1) (hp : q.2.1 = some k) (hd : q.2.2.2 = d) (hb : (q.2.2.1 = none ∧ q.1 = kq.1) ∨ ∃ s hr jl, q.2.2.1 = some s ∧ s < 10240 * v.H ∧ isSw v (svK kq.1 hr jl) t s = true ∧ q.1 = (swM (svK kq.1 hr jl) t s).wh) : LIn v t w0 d ly (putA v ly L q).2 ∧ pre L (putA v ly L q).2 := by
  unfold putA
  by_cases q1 : fnd v L ly q.1 = true
  · rw [if_pos q1]; exact ⟨h, fun i p hp => hp⟩
  · rw [if_neg q1]
    by_cases q2 : L.length < 2000
    · rw [if_pos q2]
      obtain ⟨h1, h2, h3, h4⟩ := h
      have kl : k < L.length := (List.getElem?_eq_some_iff.mp hk).1
      have pr : pre L (L ++ [q]) := fun i p hp => by
        have il : i < L.length := (List.getElem?_eq_some_iff.mp hp).1
        rw [List.getElem?_append_left il]
        exact hp
      refine ⟨⟨by rw [List.length_append]; simp; omega, fun i p hi => ?_, fun i p hi => ?_, fun i p hl hi => ?_⟩, pr⟩
      · rcases get_snoc hi with ⟨a1, a2⟩ | ⟨a1, a2⟩
        · exact h2 i p a2
        · rw [a2]; exact hq
      · rcases get_snoc hi with ⟨a1, a2⟩ | ⟨a1, a2⟩
        · rcases h3 i p a2 with e | ⟨j, jq, j1, j2, j3, j4, j5⟩
          · exact Or.inl e
          · exact Or.inr ⟨j, jq, j1, j2, pr j jq j3, j4, j5⟩
        · subst a2
          exact Or.inr ⟨k, kq, hp, by omega, pr k kq hk, by omega, hb⟩
      · rcases get_snoc hi with ⟨a1, a2⟩ | ⟨a1, a2⟩
        · exact h4 i p hl a2
        · rw [a2]; exact hd
    · rw [if_neg q2]; exact ⟨h, fun i p hp => hp⟩
end PUT
