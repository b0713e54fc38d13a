/-! an HOUR on, both sides -/
section GOON
variable {σ σ' : St_} {c dr s t th : Nat} {v : Vw} {z : Sv} {w w' w0 : Nat → Nat}
theorem goS_in (ok : v.OK) {k d ly hr : Nat} {jl : Int32} {kq : Nd} (hkd : kq.2.2.2 + 1 = d) (hkn : NIn v t w0 kq.1) : ∀ (l : List Nat) (L : List Nd), LIn v t w0 d ly L → L[k]? = some kq → (∀ s, s ∈ l → s < 10240 * v.H ∧ isSw v (svK kq.1 hr jl) t s = true) → LIn v t w0 d ly (goS v t (svK kq.1 hr jl) k d ly l L).2 ∧ pre L (goS v t (svK kq.1 hr jl) k d ly l L).2
  | [], L, h, hk, hs => ⟨h, fun i p hp => hp⟩
  | s :: l, L, h, hk, hs => by
    obtain ⟨s1, s2⟩ := hs s List.mem_cons_self
    have hp := putA_in h hk hkd (q := ((swM (svK kq.1 hr jl) t s).wh, some k, some s, d)) (NIn_mv ok hkn s1 s2) rfl rfl (Or.inr ⟨s, hr, jl, rfl, s1, s2, rfl⟩)
    unfold goS
    by_cases q : (putA v ly L ((swM (svK kq.1 hr jl) t s).wh, some k, some s, d)).1 = true
    · rw [if_pos q]
      have ih := goS_in ok hkd hkn l _ hp.1 (hp.2 k kq hk) (fun s hs' => hs s (List.mem_cons_of_mem _ hs'))
      exact ⟨ih.1, fun i p hp' => ih.2 i p (hp.2 i p hp')⟩
    · rw [if_neg q]
      exact ⟨h, fun i p hp => hp⟩
theorem one_shl {x : Nat} (h : x < 10) : (1 : Int64) <<< ((nI x).toInt64 &&& 63) = lN (2 ^ x) := by
  have : ∀ x : Fin 10, (1 : Int64) <<< ((nI x.1).toInt64 &&& 63) = lN (2 ^ x.1) := by decide +kernel
  exact this ⟨x, h⟩
theorem c_goS (ok : v.OK) {k d ly hr : Nat} {jl : Int32} {kq : Nd} (hkd : kq.2.2.2 + 1 = d) (hkn : NIn v t w0 kq.1) (hk2 : k < 2000) {k118 : St_ → Option (Bool × St_)} : ∀ r m i (L : List Nd) (σ : St_), TC v L ly σ → LIn v t w0 d ly L → L[k]? = some kq → SLc v t 206 (swl v (svK kq.1 hr jl) t) σ → i + r = (swl v (svK kq.1 hr jl) t).length → r < m → ∃ σ', ((goS v t (svK kq.1 hr jl) k d ly ((swl v (svK kq.1 hr jl) t).drop i) L).1 = true → mX7_goOn_L44 205 c (nI t) (nI k) (keyL v kq.1) k118 m (nI i) σ = k118 σ' ∧ TC v (goS v t (svK kq.1 hr jl) k d ly ((swl v (svK kq.1 hr jl) t).drop i) L).2 ly σ') ∧ ((goS v t (svK kq.1 hr jl) k d ly ((swl v (svK kq.1 hr jl) t).drop i) L).1 = false → mX7_goOn_L44 205 c (nI t) (nI k) (keyL v kq.1) k118 m (nI i) σ = some (false, σ')) ∧ ∀ a j, ¬ (a = 218 ∨ a = 219 ∨ a = 220 ∨ (a = 205 ∧ j = 5)) → σ'.1 a j = σ.1 a j
  | 0, m, i, L, σ, hT, hL, hk, hA, hi, hm => by
    have hl := swl_len (v := v) (z := svK kq.1 hr jl) (t := t) ok
    obtain ⟨m, rfl, -⟩ := fu_suc hm
    rw [List.drop_eq_nil_of_le (by omega)]
    refine ⟨σ, fun _ => ⟨?_, hT⟩, fun e => (by cases e), fun a j _ => rfl⟩
    unfold mX7_goOn_L44
    rw [show 205 + 1 = 206 from rfl, hA.1, if_pos (nI_le (by omega) (by omega))]
  | r + 1, m, i, L, σ, hT, hL, hk, hA, hi, hm => by
    have hl := swl_len (v := v) (z := svK kq.1 hr jl) (t := t) ok
    have oH := ok.H
    obtain ⟨m, rfl, hm⟩ := fu_suc hm
    have hil : i < (swl v (svK kq.1 hr jl) t).length := by omega
    have hp : (swl v (svK kq.1 hr jl) t)[i] ∈ swl v (svK kq.1 hr jl) t := List.getElem_mem hil
    have hgi : (swl v (svK kq.1 hr jl) t)[i]? = some (swl v (svK kq.1 hr jl) t)[i] := List.getElem?_eq_getElem hil
    have hd := List.drop_eq_getElem_cons hil
    generalize (swl v (svK kq.1 hr jl) t)[i] = s at hp hgi hd
    obtain ⟨-, s1, s2⟩ := swF_mem.mp hp
    obtain ⟨k1, k2, k3, -⟩ := hA.2 i s hgi
    rw [hd]
    have hq : NIn v t w0 (swM (svK kq.1 hr jl) t s).wh := NIn_mv ok hkn s1 s2
    have pin := putA_in hL hk hkd (q := ((swM (svK kq.1 hr jl) t s).wh, some k, some s, d)) hq rfl rfl (Or.inr ⟨s, hr, jl, rfl, s1, s2, rfl⟩)
    have km : keyL v kq.1 ^^^ ((lN (2 ^ (s / 1024 % 10)) ||| (nI (s % 1024)).toInt64) <<< ((nI (10 * (s / 10240))).toInt64 &&& 63)) = keyL v (swM (svK kq.1 hr jl) t s).wh := key_move (z := svK kq.1 hr jl) ok s1 s2
    have cm := c_come (q := ((swM (svK kq.1 hr jl) t s).wh, some k, some s, d)) ok hT hL.2.1 hq
    have hd1 : mX7_goOn_L44 205 c (nI t) (nI k) (keyL v kq.1) k118 (m + 1) (nI i) σ = (mX7_come 205 (keyL v (swM (svK kq.1 hr jl) t s).wh) (nI k) σ).bind fun r8 => if r8.1 = true then mX7_goOn_L44 205 c (nI t) (nI k) (keyL v kq.1) k118 m (nI (i + 1)) r8.2 else some (false, r8.2) := by
      conv => lhs; unfold mX7_goOn_L44
      simp only [bnd_eq]
      rw [show 205 + 1 = 206 from rfl, hA.1, if_neg (nI_ge (by omega) (by omega)), binn (show i < 100 by omega) (by omega), if_pos rfl, if_pos rfl, if_pos rfl, pn_cl (by omega), k1, k2, k3, one_shl (by omega), ten_mul, km]
      simp only [nI_1]
    rw [hd1]
    have eq0 : encO (((swM (svK kq.1 hr jl) t s).wh, some k, some s, d) : Nd).2.1 = nI k := rfl
    rw [eq0] at cm
    obtain ⟨cm1, cm2, cm3⟩ := cm
    unfold goS
    cases hf : fnd v L ly (swM (svK kq.1 hr jl) t s).wh
    · by_cases hlen : L.length < 2000
      · have ep : putA v ly L ((swM (svK kq.1 hr jl) t s).wh, some k, some s, d) = (true, L ++ [((swM (svK kq.1 hr jl) t s).wh, some k, some s, d)]) := by
          unfold putA
          rw [if_neg (by show ¬ fnd v L ly (swM (svK kq.1 hr jl) t s).wh = true; rw [hf]; simp), if_pos hlen]
        obtain ⟨σ1, a1, a2⟩ := cm2 hf hlen
        have F1 : ∀ a j, ¬ (a = 218 ∨ a = 219 ∨ a = 220 ∨ (a = 205 ∧ j = 5)) → σ1.1 a j = σ.1 a j := fun a j hn => (fX7_come _ _ _ _ _ a1 a j (by unfold MOD_X7_come; omega)).1
        rw [ep] at pin ⊢
        simp only [if_true]
        rw [a1, obs_eq, if_pos rfl]
        obtain ⟨σ', e1, e2, e3⟩ := c_goS ok hkd hkn hk2 (k118 := k118) r m (i + 1) _ σ1 a2 pin.1 (pin.2 k kq hk) (hA.fr (fun a j q => F1 a j (by omega))) (by omega) (by omega)
        exact ⟨σ', e1, e2, fun a j hn => by rw [e3 a j hn, F1 a j hn]⟩
      · have ep : putA v ly L ((swM (svK kq.1 hr jl) t s).wh, some k, some s, d) = (false, L) := by
          unfold putA
          rw [if_neg (by show ¬ fnd v L ly (swM (svK kq.1 hr jl) t s).wh = true; rw [hf]; simp), if_neg hlen]
        rw [ep, cm3 hf hlen, obs_eq, if_neg (show ¬ false = true by simp)]
        refine ⟨σ, fun e => ?_, fun _ => rfl, fun a j _ => rfl⟩
        simp at e
    · have ep : putA v ly L ((swM (svK kq.1 hr jl) t s).wh, some k, some s, d) = (true, L) := by
        unfold putA
        rw [if_pos (show fnd v L ly (swM (svK kq.1 hr jl) t s).wh = true from hf)]
      rw [ep, cm1 hf, obs_eq, if_pos rfl]
      simp only [if_true]
      exact c_goS ok hkd hkn hk2 r m (i + 1) L σ hT hL hk hA (by omega) (by omega)
/-- the rest of the one side's scene -/
def ScO (v : Vw) (t : Nat) (w0 : Nat → Nat) (hr : Nat) (jl : Int32) (σ : St_) : Prop := σ.1 215 3 = nI hr ∧ σ.1 215 4 = jl ∧ (∀ y, 5 ≤ y → y < 9 → ¬ y = 5 + t → σ.1 216 y = setI v.N (fun x => w0 x == y)) ∧ σ.1 205 7 = setI v.N (fun x => decide (w0 x < 5) || w0 x == 5 + t)
theorem ScO.fr {hr : Nat} {jl : Int32} (h : ScO v t w0 hr jl σ) (e : ∀ a k, a = 215 ∨ (a = 216 ∧ 5 ≤ k ∧ ¬ k = 5 + t) ∨ (a = 205 ∧ k = 7) → σ'.1 a k = σ.1 a k) : ScO v t w0 hr jl σ' := by
  obtain ⟨h1, h2, h3, h4⟩ := h
  exact ⟨by rw [e _ _ (by omega)]; exact h1, by rw [e _ _ (by omega)]; exact h2, fun y a b n => by rw [e _ _ (by omega)]; exact h3 y a b n, by rw [e _ _ (by omega)]; exact h4⟩
theorem c_scene_L3 (ok : v.OK) {x3 : Int32} {k37 : St_ → Option St_} : ∀ r m i (σ : St_), i + r = 5 → r < m → ∃ σ', mX7_setScene_L3 205 (keyL v w) x3 k37 m (nI i) σ = k37 σ' ∧ ∀ a b, σ'.1 a b = if a = 216 ∧ i ≤ b ∧ b < 5 then setI v.N (fun x => w x == b) else σ.1 a b
  | 0, m, i, σ, hi, hm => by
    obtain ⟨m, rfl, -⟩ := fu_suc hm
    refine ⟨σ, ?_, fun a b => by rw [if_neg (by omega)]⟩
    unfold mX7_setScene_L3
    rw [if_pos (show (5 : Int32) ≤ nI i from nI_le (a := 5) (by omega) (by omega))]
  | r + 1, m, i, σ, hi, hm => by
    obtain ⟨m, rfl, hm⟩ := fu_suc hm
    obtain ⟨σ', e1, e2⟩ := c_scene_L3 ok (x3 := x3) (k37 := k37) r m (i + 1) (sI σ 216 i (setI v.N (fun x => w x == i))) (by omega) (by omega)
    refine ⟨σ', ?_, fun a b => ?_⟩
    · unfold mX7_setScene_L3
      simp only [bnd_eq]
      rw [if_neg (show ¬ (5 : Int32) ≤ nI i from nI_ge (b := 5) (by omega) (by omega)), binn (show i < 9 by omega) (by omega), if_pos rfl, pn_cl (by omega), ten_mul, ext_key ok (by omega), show 205 + 10 + 1 = 216 from rfl, nI_1]
      exact e1
    · rw [e2, sI_get]
      by_cases q : a = 216 ∧ i ≤ b ∧ b < 5
      · rw [if_pos q]
        by_cases q2 : b = i
        · rw [if_neg (by omega), if_pos ⟨q.1, q2⟩, q2]
        · rw [if_pos (by omega)]
      · rw [if_neg q, if_neg (by omega), if_neg (by omega)]
theorem c_setScene (ok : v.OK) (ht : t < v.T) {hr : Nat} {jl : Int32} (hS : ScO v t w0 hr jl σ) (hN : NIn v t w0 w) : ∃ σ', mX7_setScene 205 (keyL v w) (nI t) σ = some σ' ∧ CS v 215 (svK w hr jl) σ' ∧ ScO v t w0 hr jl σ' ∧ ∀ a k, ¬ a = 216 → σ'.1 a k = σ.1 a k := by
  have oT := ok.T
  have oN := ok.N
  have oH := ok.H
  obtain ⟨h1, h2, h3, h4⟩ := id hS
  obtain ⟨A, a1, a2⟩ := c_scene_L3 (w := w) ok (x3 := nI t) (k37 := (fun (σ2 : St_) => ((mX7_inHouses (keyL v w) σ2).bind fun r3 => (if bin ((5 : Int32) + nI t) 9 = true then (some (sI σ2 216 ((5 : Int32) + nI t).toNatClampNeg ((σ2.1 205 7) &&& (r3 ^^^ (-1 : Int32))))) else none)))) 5 FU 0 σ (by omega) (by unfold FU; omega)
  have A7 : A.1 205 7 = setI v.N (fun x => decide (w0 x < 5) || w0 x == 5 + t) := by rw [a2, if_neg (by omega)]; exact h4
  have e : setI v.N (fun x => decide (w0 x < 5) || w0 x == 5 + t) &&& (setI v.N (fun x => decide (w x < 5)) ^^^ (-1)) = setI v.N (fun x => w x == 5 + t) := by
    apply setI_ext (by omega)
    intro x hx
    rw [tb_and, tb_xor, tb_m1 hx, tb_setI (by omega), tb_setI (by omega)]
    by_cases q : x < v.N
    · obtain ⟨n1, n2⟩ := hN x q
      by_cases q1 : w0 x < 5 ∨ w0 x = 5 + t
      · have := n1 q1
        have q1' : (decide (w0 x < 5) || w0 x == 5 + t) = true := by simpa using q1
        rw [q1']
        by_cases q2 : w x < 5
        · have : ¬ w x = 5 + t := by omega
          simp [q, q2, this]
        · have : w x = 5 + t := by omega
          simp [q, this]
      · have n3 := n2 q1
        have q1' : (decide (w0 x < 5) || w0 x == 5 + t) = false := by simpa using q1
        rw [q1', n3]
        have : ¬ w0 x = 5 + t := fun e => q1 (Or.inr e)
        simp [q, this]
    · simp [q]
  refine ⟨sI A 216 (5 + t) (setI v.N (fun x => w x == 5 + t)), ?_, ⟨fun y hy => ?_, ?_, ?_⟩, ?_, fun a k hn => ?_⟩
  · unfold mX7_setScene
    simp only [bnd_eq]
    rw [show nI 0 = (0 : Int32) from rfl] at a1
    refine Eq.trans a1 ?_
    try dsimp only
    rw [c_inHouses ok, obs_eq, show (5 : Int32) + nI t = nI (5 + t) from nI_add 5 t, binn (show 5 + t < 9 by omega) (by omega), if_pos rfl, pn_cl (by omega), A7, e]
  · rw [sI_get]
    by_cases q : y = 5 + t
    · rw [if_pos ⟨rfl, q⟩, q]; rfl
    · rw [if_neg (by omega), a2]
      by_cases q2 : y < 5
      · rw [if_pos (by omega)]; rfl
      · rw [if_neg (by omega)]
        have e3 : σ.1 (215 + 1) y = setI v.N (fun x => w0 x == y) := h3 y (by omega) hy q
        rw [e3]
        refine setI_congr (fun x hx => ?_) (by omega)
        obtain ⟨n1, n2⟩ := hN x hx
        show (w0 x == y) = (w x == y)
        by_cases q1 : w0 x < 5 ∨ w0 x = 5 + t
        · have := n1 q1
          rw [beq_false_of_ne (show w0 x ≠ y by omega), beq_false_of_ne (show w x ≠ y by omega)]
        · rw [n2 q1]
  · rw [sI_get, if_neg (by omega), a2, if_neg (by omega)]; exact h1
  · rw [sI_get, if_neg (by omega), a2, if_neg (by omega)]; exact h2
  · refine hS.fr (fun a k q => ?_)
    rw [sI_get, if_neg (by omega), a2, if_neg (by omega)]
  · rw [sI_get, if_neg (by omega), a2, if_neg (by omega)]
theorem nd_OK (ok : v.OK) (hz : Sv.OK v z) (ht : t < v.T) (hN : NIn v t z.wh w) {hr : Nat} (hh : hr < v.R) (jl : Int32) : Sv.OK v (svK w hr jl) := by
  refine ⟨fun x hx => ?_, hh⟩
  obtain ⟨n1, n2⟩ := hN x hx
  show w x < v.H ∨ (5 ≤ w x ∧ w x < 5 + v.T) ∨ w x = 9
  have := hz.wh x hx
  by_cases q : z.wh x < 5 ∨ z.wh x = 5 + t
  · have := n1 q
    omega
  · rw [n2 q]; exact this
theorem tc_fr {L : List Nd} {ly : Nat} (h : TC v L ly σ) (e : ∀ a k, (a = 205 ∧ (k = 5 ∨ k = 6)) ∨ a = 219 ∨ a = 220 → σ'.1 a k = σ.1 a k) (e2 : ∀ k, σ'.2 218 k = σ.2 218 k) : TC v L ly σ' := by
  obtain ⟨h1, h2, h3, h4, h5, h6⟩ := h
  refine ⟨by rw [e _ _ (by omega)]; exact h1, by rw [e _ _ (by omega)]; exact h2, h3, h4, fun i q hq => ?_, ?_⟩
  · rw [e2, e _ _ (by omega)]; exact h5 i q hq
  · have : σ'.1 220 = σ.1 220 := by funext k; exact e 220 k (by omega)
    rw [this]; exact h6
theorem c_goK (ok : v.OK) (hcc : c = 12 ∨ c = 28) (hz : Sv.OK v z) (ht : t < v.T) {d ly hr : Nat} {jl : Int32} (hhr : hr < v.R) : ∀ n m k (L : List Nd) (σ : St_), CV c v σ → ScO v t z.wh hr jl σ → TC v L ly σ → LIn v t z.wh d ly L → (∀ (i : Nat) (q : Nd), k ≤ i → i < ly → L[i]? = some q → q.2.2.2 + 1 = d) → k + n = ly → n < m → ∃ σ', ((goK v t hr jl d ly n k L).1 = true → mX7_goOn_L3 205 c (nI t) m (nI k) σ = some (true, σ') ∧ TC v (goK v t hr jl d ly n k L).2 ly σ' ∧ CV c v σ' ∧ ScO v t z.wh hr jl σ') ∧ ((goK v t hr jl d ly n k L).1 = false → mX7_goOn_L3 205 c (nI t) m (nI k) σ = some (false, σ')) ∧ LIn v t z.wh d ly (goK v t hr jl d ly n k L).2 ∧ pre L (goK v t hr jl d ly n k L).2
  | 0, m, k, L, σ, hc, hS, hT, hL, hD, hk, hm => by
    obtain ⟨m, rfl, -⟩ := fu_suc hm
    refine ⟨σ, fun _ => ⟨?_, hT, hc, hS⟩, fun e => (by cases e), hL, fun i p hp => hp⟩
    have := hT.2.2.1
    have := hT.2.2.2.1
    unfold mX7_goOn_L3
    rw [hT.2.1, if_pos (nI_le (by omega) (by omega))]
  | n + 1, m, k, L, σ, hc, hS, hT, hL, hD, hk, hm => by
    obtain ⟨m, rfl, hm⟩ := fu_suc hm
    have hly := hT.2.2.1
    have h2000 := hT.2.2.2.1
    have kl : k < L.length := by omega
    have hkq : L[k]? = some L[k] := List.getElem?_eq_getElem kl
    generalize L[k] = kq at hkq
    have hkn : NIn v t z.wh kq.1 := hL.2.1 k kq hkq
    have hkd : kq.2.2.2 + 1 = d := hD k kq (by omega) (by omega) hkq
    have hkz : Sv.OK v (svK kq.1 hr jl) := nd_OK ok hz ht hkn hhr jl
    obtain ⟨A, a1, a2, a3, a4⟩ := c_setScene ok ht hS hkn
    have FA := fX7_setScene _ _ _ _ _ a1
    have hcA : CV c v A := hc.fr (fun a k q => a4 a k (by unfold FPc at q; omega))
    obtain ⟨B, b1, b2⟩ := c_gather (t := 206) (s := 215) hcA ok (by omega) (by omega) (by omega) hkz a2 ht
    have FB := fX9_gather _ _ _ _ _ _ b1
    have FBi : ∀ a k, ¬ (a = c + 14 ∨ a = c + 15 ∨ (206 ≤ a ∧ a < 215)) → B.1 a k = A.1 a k := fun a k hn => (FB a k (by unfold MOD_X9_gather; omega)).1
    have hTB : TC v L ly B := tc_fr hT (fun a k q => by rw [FBi a k (by omega), a4 a k (by omega)]) (fun k => by rw [(FB 218 k (by unfold MOD_X9_gather; omega)).2, (FA 218 k (by unfold MOD_X7_setScene; omega)).2])
    have hcB : CV c v B := hcA.fr (fun a k q => FBi a k (by unfold FPc at q; omega))
    have hSB : ScO v t z.wh hr jl B := a3.fr (fun a k q => FBi a k (by omega))
    obtain ⟨C, c1, c2, c3⟩ := c_goS (c := c) ok hkd hkn (show k < 2000 by omega) (k118 := fun σ9 => (mX7_come 205 (keyL v kq.1) (nI k) σ9).bind fun r10 => if r10.1 = true then mX7_goOn_L3 205 c (nI t) m (nI (k + 1)) r10.2 else some (false, r10.2)) (swl v (svK kq.1 hr jl) t).length FU 0 L B hTB hL hkq b2 (by omega) (by unfold FU; have := swl_len (v := v) (z := svK kq.1 hr jl) (t := t) ok; omega)
    rw [List.drop_zero, show nI 0 = (0 : Int32) from rfl] at c1 c2
    have gin := goS_in (hr := hr) (jl := jl) ok hkd hkn (swl v (svK kq.1 hr jl) t) L hL hkq (fun s hs => (swF_mem.mp hs).2)
    have hd1 : mX7_goOn_L3 205 c (nI t) (m + 1) (nI k) σ = mX7_goOn_L44 205 c (nI t) (nI k) (keyL v kq.1) (fun σ9 => (mX7_come 205 (keyL v kq.1) (nI k) σ9).bind fun r10 => if r10.1 = true then mX7_goOn_L3 205 c (nI t) m (nI (k + 1)) r10.2 else some (false, r10.2)) FU 0 B := by
      conv => lhs; unfold mX7_goOn_L3
      simp only [bnd_eq]
      rw [hT.2.1, if_neg (nI_ge (by omega) (by omega)), binn (show k < 2000 by omega) (by omega), if_pos rfl, pn_cl (by omega), show 205 + 13 = 218 from rfl, (hT.2.2.2.2.1 k kq hkq).1, a1, obs_eq, show 205 + 1 = 206 from rfl, show 205 + 10 = 215 from rfl, b1, obs_eq]
      simp only [nI_1]
    rw [hd1]
    have eg : goK v t hr jl d ly (n + 1) k L = if (goS v t (svK kq.1 hr jl) k d ly (swl v (svK kq.1 hr jl) t) L).1 = true then (if (putA v ly (goS v t (svK kq.1 hr jl) k d ly (swl v (svK kq.1 hr jl) t) L).2 (kq.1, some k, none, d)).1 = true then goK v t hr jl d ly n (k + 1) (putA v ly (goS v t (svK kq.1 hr jl) k d ly (swl v (svK kq.1 hr jl) t) L).2 (kq.1, some k, none, d)).2 else (false, L)) else (false, L) := by
      conv => lhs; unfold goK
      rw [hkq]
    rw [eg]
    generalize hG : goS v t (svK kq.1 hr jl) k d ly (swl v (svK kq.1 hr jl) t) L = G at c1 c2 gin
    cases g1 : G.1
    · rw [if_neg (show ¬ false = true by simp), c2 g1]
      exact ⟨C, fun e => (by cases e), fun _ => rfl, hL, fun i p hp => hp⟩
    · rw [if_pos rfl]
      obtain ⟨d1, d2⟩ := c1 g1
      rw [d1]
      have hcC : CV c v C := hcB.fr (fun a k q => c3 a k (by unfold FPc at q; omega))
      have hSC : ScO v t z.wh hr jl C := hSB.fr (fun a k q => c3 a k (by omega))
      have cm := c_come (q := (kq.1, some k, none, d)) ok d2 gin.1.2.1 hkn
      have pin := putA_in gin.1 (gin.2 k kq hkq) hkd (q := (kq.1, some k, none, d)) hkn rfl rfl (Or.inl ⟨rfl, rfl⟩)
      have eq0 : encO ((kq.1, some k, none, d) : Nd).2.1 = nI k := rfl
      rw [eq0] at cm
      obtain ⟨cm1, cm2, cm3⟩ := cm
      have go := fun (L' : List Nd) (σ' : St_) h1 h2 h3 h4 (h5 : pre L L') => c_goK (d := d) (ly := ly) (jl := jl) ok hcc hz ht hhr n m (k + 1) L' σ' h1 h2 h3 h4 (fun i q i1 i2 i3 => by
        have il : i < L.length := by omega
        have e : L[i]? = some L[i] := List.getElem?_eq_getElem il
        have e2 := h5 i _ e
        rw [i3] at e2
        cases e2
        exact hD i _ (by omega) i2 e) (by omega) (by omega)
      cases hf : fnd v G.2 ly kq.1
      · by_cases hlen : G.2.length < 2000
        · have ep : putA v ly G.2 (kq.1, some k, none, d) = (true, G.2 ++ [(kq.1, some k, none, d)]) := by
            unfold putA
            rw [if_neg (by show ¬ fnd v G.2 ly kq.1 = true; rw [hf]; simp), if_pos hlen]
          obtain ⟨E, f1, f2⟩ := cm2 hf hlen
          have FE : ∀ a j, ¬ (a = 218 ∨ a = 219 ∨ a = 220 ∨ (a = 205 ∧ j = 5)) → E.1 a j = C.1 a j := fun a j hn => (fX7_come _ _ _ _ _ f1 a j (by unfold MOD_X7_come; omega)).1
          rw [ep] at pin ⊢
          rw [f1, obs_eq, if_pos rfl, if_pos rfl]
          have pl : pre L (G.2 ++ [(kq.1, some k, none, d)]) := fun i p hp => pin.2 i p (gin.2 i p hp)
          obtain ⟨σ', e1, e2, e3, e4⟩ := go (G.2 ++ [(kq.1, some k, none, d)]) E (hcC.fr (fun a k q => FE a k (by unfold FPc at q; omega))) (hSC.fr (fun a k q => FE a k (by omega))) f2 pin.1 pl
          exact ⟨σ', e1, e2, e3, fun i p hp => e4 i p (pl i p hp)⟩
        · have ep : putA v ly G.2 (kq.1, some k, none, d) = (false, G.2) := by
            unfold putA
            rw [if_neg (by show ¬ fnd v G.2 ly kq.1 = true; rw [hf]; simp), if_neg hlen]
          rw [ep, cm3 hf hlen, obs_eq, if_neg (show ¬ false = true by simp), if_neg (show ¬ false = true by simp)]
          exact ⟨C, fun e => (by cases e), fun _ => rfl, hL, fun i p hp => hp⟩
      · have ep : putA v ly G.2 (kq.1, some k, none, d) = (true, G.2) := by
          unfold putA
          rw [if_pos (show fnd v G.2 ly kq.1 = true from hf)]
        rw [ep, cm1 hf, obs_eq, if_pos rfl, if_pos rfl]
        obtain ⟨σ', e1, e2, e3, e4⟩ := go G.2 C hcC hSC d2 gin.1 gin.2
        exact ⟨σ', e1, e2, e3, fun i p hp => e4 i p (gin.2 i p hp)⟩
end GOON
