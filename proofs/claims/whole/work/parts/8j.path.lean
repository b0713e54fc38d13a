/-! the way of a tour -/
section PATH
variable {σ σ' : St_} {c dr s t th : Nat} {v : Vw} {z : Sv} {w w' w0 : Nat → Nat}
/-- what is done in each HOUR on the way to a state -/
def pth (L : List Nd) : Nat → Nat → List (Option Nat)
  | 0, _ => []
  | n + 1, g => match L[g]? with
    | some q => pth L n (q.2.1.getD 0) ++ [q.2.2.1]
    | none => []
theorem set_diff (ok : v.OK) {s : Nat} (hs : s < 10240 * v.H) (hsw : isSw v z t s = true) : (setI v.N (fun x => z.wh x == s / 10240) &&& (setI v.N (fun x => (swM z t s).wh x == s / 10240) ^^^ (-1)) = nI (2 ^ (s / 1024 % 10))) ∧ (setI v.N (fun x => (swM z t s).wh x == s / 10240) &&& (setI v.N (fun x => z.wh x == s / 10240) ^^^ (-1)) = nI (s % 1024)) ∧ ∀ y, y < 5 → ¬ y = s / 10240 → setI v.N (fun x => z.wh x == y) = setI v.N (fun x => (swM z t s).wh x == y) := by
  have oN := ok.N
  have oH := ok.H
  obtain ⟨a1, a2, a3, a4⟩ := isSw_spec ok hsw
  have mw : ∀ x, (swM z t s).wh x = if tb (nI (s % 1024)) x = true then s / 10240 else if decide (x = s / 1024 % 10) = true then 5 + t else z.wh x := fun x => by
    unfold swM
    rw [move_wh, tb_bit (by omega)]
  have nX : tb (nI (s % 1024)) (s / 1024 % 10) = false := by
    by_cases q : tb (nI (s % 1024)) (s / 1024 % 10) = true
    · have := (a3 _ q).2
      omega
    · simpa using q
  generalize hH : s / 10240 = H at *
  generalize hX : s / 1024 % 10 = X at *
  refine ⟨?_, ?_, fun y hy hne => ?_⟩
  · apply tb_ext
    intro x hx
    rw [tb_and, tb_xor, tb_m1 hx, tb_setI (by omega), tb_setI (by omega), mw x, tb_bit (by omega)]
    by_cases q1 : tb (nI (s % 1024)) x = true
    · obtain ⟨b1, b2⟩ := a3 x q1
      have ne : ¬ x = X := fun e => by rw [e, nX] at q1; cases q1
      have ne2 : ¬ 5 + t = H := by omega
      simp [q1, ne, b1, b2, ne2]
    · by_cases q2 : x = X
      · have b1 : x < v.N := by rw [q2]; exact a1
        have b2 : z.wh x = H := by rw [q2]; exact a2
        have ne : ¬ 5 + t = H := by omega
        simp [q1, q2, a1, a2, ne, nX]
      · simp [q1, q2]
  · apply tb_ext
    intro x hx
    rw [tb_and, tb_xor, tb_m1 hx, tb_setI (by omega), tb_setI (by omega), mw x]
    by_cases q1 : tb (nI (s % 1024)) x = true
    · obtain ⟨b1, b2⟩ := a3 x q1
      have ne : ¬ 5 + t = H := by omega
      simp [q1, b1, b2, ne]
    · by_cases q2 : x = X
      · have ne : ¬ 5 + t = H := by omega
        simp [q2, ne, nX]
      · simp [q1, q2]
  · refine setI_congr (fun x hx => ?_) (by omega)
    show (z.wh x == y) = ((swM z t s).wh x == y)
    rw [mw x]
    by_cases q1 : tb (nI (s % 1024)) x = true
    · obtain ⟨b1, b2⟩ := a3 x q1
      rw [if_pos q1, b2, beq_false_of_ne (show 5 + t ≠ y by omega), beq_false_of_ne (show H ≠ y from fun e => hne e.symm)]
    · rw [if_neg q1]
      by_cases q2 : x = X
      · have b2 : z.wh x = H := by rw [q2]; exact a2
        rw [if_pos (by simpa using q2), b2, beq_false_of_ne (show 5 + t ≠ y by omega), beq_false_of_ne (show H ≠ y from fun e => hne e.symm)]
      · rw [if_neg (by simpa using q2)]
theorem p2_ne {H X m : Nat} (hX : X < 10) {A B : Int32} (h : A &&& (B ^^^ (-1)) = nI (2 ^ X)) : ¬ A = B := by
  intro e
  rw [e] at h
  have := congrArg (fun k => tb k X) h
  simp only [tb_and, tb_xor, tb_m1 (show X < 32 by omega), tb_bit (show X < 31 by omega)] at this
  cases q : tb B X <;> simp [q] at this
/-- the numbers of a step at three places -/
def At3 (i : Nat) (b : Option Nat) (σ : St_) : Prop := ∀ j x, (swN b)[j]? = some x → σ.1 173 (3 * i + j) = x
theorem at3_of {i : Nat} {b : Option Nat} {x y u : Int32} (e : swN b = [x, y, u]) (h0 : σ.1 173 (3 * i) = x) (h1 : σ.1 173 (3 * i + 1) = y) (h2 : σ.1 173 (3 * i + 2) = u) : At3 i b σ := by
  intro j k hj
  rw [e] at hj
  match j with
  | 0 => simp at hj; rw [← hj]; exact h0
  | 1 => simp at hj; rw [← hj]; exact h1
  | 2 => simp at hj; rw [← hj]; exact h2
  | j + 3 => simp at hj
theorem c_step_L25 (ok : v.OK) {i : Nat} (hi : i < 10) : ∀ r m y (σ : St_), y + r = 5 → r < m → ((∀ y', y ≤ y' → y' < 5 → setI v.N (fun x => w x == y') = setI v.N (fun x => w' x == y')) → mX7_layStep_L25 173 30 (keyL v w) (keyL v w') (nI (3 * i)) m (nI y) σ = some σ) ∧ (∀ H X M, y ≤ H → H < 5 → X < 10 → setI v.N (fun x => w x == H) &&& (setI v.N (fun x => w' x == H) ^^^ (-1)) = nI (2 ^ X) → setI v.N (fun x => w' x == H) &&& (setI v.N (fun x => w x == H) ^^^ (-1)) = M → (∀ y', y ≤ y' → y' < 5 → ¬ y' = H → setI v.N (fun x => w x == y') = setI v.N (fun x => w' x == y')) → mX7_layStep_L25 173 30 (keyL v w) (keyL v w') (nI (3 * i)) m (nI y) σ = some (sI (sI (sI σ 173 (3 * i) (nI H)) 173 (3 * i + 1) (nI X)) 173 (3 * i + 2) M))
  | 0, m, y, σ, hy, hm => by
    obtain ⟨m, rfl, -⟩ := fu_suc hm
    refine ⟨fun _ => ?_, fun H X M h1 h2 => by omega⟩
    unfold mX7_layStep_L25
    rw [if_pos (show (5 : Int32) ≤ nI y from nI_le (a := 5) (by omega) (by omega))]
  | r + 1, m, y, σ, hy, hm => by
    obtain ⟨m, rfl, hm⟩ := fu_suc hm
    have ih := fun σ => c_step_L25 ok hi r m (y + 1) σ (by omega) (by omega)
    have hd : mX7_layStep_L25 173 30 (keyL v w) (keyL v w') (nI (3 * i)) (m + 1) (nI y) σ = if setI v.N (fun x => w x == y) = setI v.N (fun x => w' x == y) then mX7_layStep_L25 173 30 (keyL v w) (keyL v w') (nI (3 * i)) m (nI (y + 1)) σ else ((mJ6_numberOfTrailingZeros_0f7a4 (setI v.N (fun x => w x == y) &&& (setI v.N (fun x => w' x == y) ^^^ (-1 : Int32))) (sI σ 173 (3 * i) (nI y))).bind fun r12 => mX7_layStep_L25 173 30 (keyL v w) (keyL v w') (nI (3 * i)) m (nI (y + 1)) (sI (sI (sI σ 173 (3 * i) (nI y)) 173 (3 * i + 1) r12) 173 (3 * i + 2) (setI v.N (fun x => w' x == y) &&& (setI v.N (fun x => w x == y) ^^^ (-1 : Int32))))) := by
      conv => lhs; unfold mX7_layStep_L25
      simp only [bnd_eq]
      rw [if_neg (show ¬ (5 : Int32) ≤ nI y from nI_ge (b := 5) (by omega) (by omega)), ten_mul, ext_key ok (by omega), ext_key ok (by omega), show nI (3 * i) + (1 : Int32) = nI (3 * i + 1) from nI_1 _, show nI (3 * i) + (2 : Int32) = nI (3 * i + 2) from nI_add _ 2, binn (show 3 * i < 30 by omega) (by omega), binn (show 3 * i + 1 < 30 by omega) (by omega), binn (show 3 * i + 2 < 30 by omega) (by omega), pn_cl (show 3 * i < 2 ^ 31 by omega), pn_cl (show 3 * i + 1 < 2 ^ 31 by omega), pn_cl (show 3 * i + 2 < 2 ^ 31 by omega)]
      simp only [if_true, nI_1]
    rw [hd]
    refine ⟨fun h => ?_, fun H X M h1 h2 h3 h4 h5 h6 => ?_⟩
    · rw [if_pos (h y (by omega) (by omega))]
      exact (ih σ).1 (fun y' a b => h y' (by omega) b)
    · by_cases q : y = H
      · subst q
        rw [if_neg (p2_ne (H := y) (m := 0) h3 h4), h4, j_ntz h3, obs_eq, h5]
        exact (ih _).1 (fun y' a b => h6 y' (by omega) b (by omega))
      · rw [if_pos (h6 y (by omega) (by omega) q)]
        exact (ih σ).2 H X M (by omega) h2 h3 h4 h5 (fun y' a b n => h6 y' (by omega) b n)
theorem c_layStep (ok : v.OK) {i : Nat} (hi : i < 10) {b : Option Nat} (hb : (b = none ∧ w' = w) ∨ ∃ s hr jl, b = some s ∧ s < 10240 * v.H ∧ isSw v (svK w hr jl) t s = true ∧ w' = (swM (svK w hr jl) t s).wh) : ∃ σ', mX7_layStep (keyL v w) (keyL v w') (nI (3 * i)) 173 30 σ = some σ' ∧ At3 i b σ' ∧ ∀ a k, ¬ (a = 173 ∧ 3 * i ≤ k ∧ k < 3 * i + 3) → σ'.1 a k = σ.1 a k := by
  have oH := ok.H
  generalize hA : sI (sI (sI σ 173 (3 * i) (-1)) 173 (3 * i + 1) (-1)) 173 (3 * i + 2) 0 = A
  have A0 : ∀ a k, ¬ (a = 173 ∧ 3 * i ≤ k ∧ k < 3 * i + 3) → A.1 a k = σ.1 a k := fun a k hn => by rw [← hA, sI_get, if_neg (by omega), sI_get, if_neg (by omega), sI_get, if_neg (by omega)]
  have hd : mX7_layStep (keyL v w) (keyL v w') (nI (3 * i)) 173 30 σ = mX7_layStep_L25 173 30 (keyL v w) (keyL v w') (nI (3 * i)) FU 0 A := by
    unfold mX7_layStep
    simp only [bnd_eq]
    rw [show nI (3 * i) + (1 : Int32) = nI (3 * i + 1) from nI_1 _, show nI (3 * i) + (2 : Int32) = nI (3 * i + 2) from nI_add _ 2, binn (show 3 * i < 30 by omega) (by omega), binn (show 3 * i + 1 < 30 by omega) (by omega), binn (show 3 * i + 2 < 30 by omega) (by omega), pn_cl (show 3 * i < 2 ^ 31 by omega), pn_cl (show 3 * i + 1 < 2 ^ 31 by omega), pn_cl (show 3 * i + 2 < 2 ^ 31 by omega), if_pos rfl, if_pos rfl, if_pos rfl, hA]
  rw [hd]
  have L := c_step_L25 (w := w) (w' := w') ok hi 5 FU 0 A (by omega) (by unfold FU; omega)
  rw [show nI 0 = (0 : Int32) from rfl] at L
  rcases hb with ⟨b1, b2⟩ | ⟨s, hr, jl, b1, b2, b3, b4⟩
  · rw [L.1 (fun y' _ _ => by rw [b2])]
    refine ⟨A, rfl, at3_of (x := -1) (y := -1) (u := 0) (by rw [b1]; rfl) ?_ ?_ ?_, A0⟩
    · rw [← hA, sI_get, if_neg (by omega), sI_get, if_neg (by omega), sI_get, if_pos ⟨rfl, rfl⟩]
    · rw [← hA, sI_get, if_neg (by omega), sI_get, if_pos ⟨rfl, rfl⟩]
    · rw [← hA, sI_get, if_pos ⟨rfl, rfl⟩]
  · obtain ⟨d1, d2, d3⟩ := set_diff ok b2 b3
    subst b4
    rw [L.2 (s / 10240) (s / 1024 % 10) (nI (s % 1024)) (by omega) (by omega) (by omega) d1 d2 (fun y' _ h5 hne => d3 y' h5 hne)]
    refine ⟨_, rfl, at3_of (x := nI (s / 10240)) (y := nI (s / 1024 % 10)) (u := nI (s % 1024)) (by rw [b1]; rfl) ?_ ?_ ?_, fun a k hn => ?_⟩
    · rw [sI_get, if_neg (by omega), sI_get, if_neg (by omega), sI_get, if_pos ⟨rfl, rfl⟩]
    · rw [sI_get, if_neg (by omega), sI_get, if_pos ⟨rfl, rfl⟩]
    · rw [sI_get, if_pos ⟨rfl, rfl⟩]
    · rw [sI_get, if_neg (by omega), sI_get, if_neg (by omega), sI_get, if_neg (by omega)]; exact A0 a k hn
theorem get_app2 {α : Type} {l : List α} {x y : α} {i : Nat} (h : (l ++ [x])[i]? = some y) : (i < l.length ∧ l[i]? = some y) ∨ (i = l.length ∧ y = x) := get_snoc h
/-- a way of n HOURS lies there -/
theorem pth_len {L : List Nd} (hW : WIn v t L) : ∀ n g q, L[g]? = some q → q.2.2.2 = n → (pth L n g).length = n
  | 0, g, q, hq, hn => rfl
  | n + 1, g, q, hq, hn => by
    unfold pth
    rw [hq]
    rcases hW g q hq with ⟨e1, -⟩ | ⟨p, pq, e1, e2, e3, e4, -⟩
    · omega
    · have := pth_len hW n p pq e3 (by omega)
      simp only [List.length_append, List.length_cons, List.length_nil]
      rw [e1]
      simp only [Option.getD_some]
      omega
theorem c_path_L10 (ok : v.OK) {L : List Nd} {ly : Nat} (hL : L.length ≤ 2000) (hW : WIn v t L) {N : Nat} (hN : N ≤ 9) : ∀ n m g (q : Nd) (σ : St_), TC v L ly σ → L[g]? = some q → q.2.2.2 = n → n ≤ N → n < m → ∃ σ', mX7_layPath_L10 205 173 30 (nI N) m (nI g) (nI n - 1) σ = some (nI (3 * N), σ') ∧ (∀ i b, (pth L n g)[i]? = some b → At3 i b σ') ∧ (∀ a k, ¬ (a = 173 ∧ k < 3 * n) → σ'.1 a k = σ.1 a k)
  | 0, m, g, q, σ, hT, hq, hn, hle, hm => by
    obtain ⟨m, rfl, -⟩ := fu_suc hm
    refine ⟨σ, ?_, fun i b hb => by simp [pth] at hb, fun a k _ => rfl⟩
    unfold mX7_layPath_L10
    rw [if_pos (by decide), show (3 : Int32) = nI 3 from rfl, nI_mul]
  | n + 1, m, g, q, σ, hT, hq, hn, hle, hm => by
    obtain ⟨m, rfl, hm⟩ := fu_suc hm
    have gl : g < L.length := (List.getElem?_eq_some_iff.mp hq).1
    rcases hW g q hq with ⟨e1, -⟩ | ⟨p, pq, e1, e2, e3, e4, e5⟩
    · omega
    · obtain ⟨kg, fg⟩ := hT.2.2.2.2.1 g q hq
      obtain ⟨kp, -⟩ := hT.2.2.2.2.1 p pq e3
      rw [e1] at fg
      have fg' : σ.1 219 g = nI p := fg
      obtain ⟨A, a1, a2, a3⟩ := c_layStep (σ := σ) (w := pq.1) (w' := q.1) (b := q.2.2.1) ok (i := n) (by omega) e5
      have hTA : TC v L ly A := tc_fr hT (fun a k q => a3 a k (by omega)) (fun k => by
        have := (fX7_layStep _ _ _ _ _ _ _ a1 218 k (by unfold MOD_X7_layStep; omega)).2
        exact this)
      obtain ⟨B, b1, b2, b3⟩ := c_path_L10 ok hL hW hN n m p pq A hTA e3 (by omega) (by omega) (by omega)
      refine ⟨B, ?_, fun i b hb => ?_, fun a k hn' => by rw [b3 a k (by omega), a3 a k (by omega)]⟩
      · have s1 : nI (n + 1) - 1 = nI n := nI_s1 (by omega)
        have s2 : nI n + (-1) = nI n - 1 := (Int32.sub_eq_add_neg (nI n) 1).symm
        unfold mX7_layPath_L10
        simp only [bnd_eq]
        rw [s1, if_neg (nI_pos (by omega)), if_neg (nI_pos (by omega)), hT.1, if_neg (nI_ge gl (by omega)), show (3 : Int32) * nI n = nI (3 * n) from nI_mul 3 n, show nI (3 * n) + (2 : Int32) = nI (3 * n + 2) from nI_add _ 2, if_pos (show nI (3 * n + 2) < Int32.ofNat 30 from nI_lt (b := 30) (by omega) (by omega)), binn (show g < 2000 by omega) (by omega), if_pos rfl, pn_cl (by omega), show 205 + 14 = 219 from rfl, fg', if_pos (nI_pos' (by omega)), binn (show p < 2000 by omega) (by omega), if_pos rfl, if_pos rfl, pn_cl (by omega), show 205 + 13 = 218 from rfl, kp, kg, a1, obs_eq, s2]
        exact b1
      · have ep : pth L (n + 1) g = pth L n p ++ [q.2.2.1] := by
          conv => lhs; unfold pth
          rw [hq]
          simp only [e1, Option.getD_some]
        rw [ep] at hb
        rcases get_snoc hb with ⟨g1, g2⟩ | ⟨g1, g2⟩
        · exact b2 i b g2
        · rw [pth_len hW n p pq e3 (by omega)] at g1
          subst g1
          rw [g2]
          intro j x hj
          have j3 : j < 3 := by
            have l3 : (swN q.2.2.1).length = 3 := by cases q.2.2.1 <;> rfl
            have := (List.getElem?_eq_some_iff.mp hj).1
            omega
          rw [b3 173 (3 * i + j) (by omega)]
          exact a2 j x hj
end PATH
