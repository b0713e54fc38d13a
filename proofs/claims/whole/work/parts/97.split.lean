/-! the TOKENS of the class, split ahead -/
section SPLIT
variable {σ σ' ρ : St_} {n : Nat} {T : Nat → Nat}
def cso (τ : Tkn) : Nat := if τ.1 = 0 then 0 else if τ.1 = 3 then 1 else if τ.1 = 2 then 4 else if τ.1 = 1 then (match wnum τ.2.2.1 with | none => 2 | some _ => 3) else 5
def cva (τ : Tkn) : Int64 := if τ.1 = 2 then lN τ.2.2.2.1 else if τ.1 = 1 then (match wnum τ.2.2.1 with | none => lN (τ.2.2.1.foldl g27 0) | some w => lN w) else lN τ.1
def TokC (τ : Tkn) (i : Nat) (σ : St_) : Prop := σ.1 5 i = nI τ.2.1 ∧ σ.1 6 i = nI (cso τ) ∧ (¬ τ.1 = 0 → ¬ τ.1 = 3 → σ.2 7 i = cva τ)
theorem TokC.fr {τ : Tkn} {i : Nat} (h : TokC τ i σ) (e : ∀ a, a = 5 ∨ a = 6 → σ'.1 a i = σ.1 a i) (e2 : σ'.2 7 i = σ.2 7 i) : TokC τ i σ' := ⟨by rw [e _ (by omega)]; exact h.1, by rw [e _ (by omega)]; exact h.2.1, fun a b => by rw [e2]; exact h.2.2 a b⟩
theorem lex_pl (p : Nat) : (lex T n p).2.1 = p := by
  unfold lex
  by_cases q : p < n
  · rw [if_pos q]
    by_cases q1 : isL (T p) = true
    · rw [if_pos q1]
    · rw [if_neg q1]
      by_cases q2 : isDg (T p) = true
      · rw [if_pos q2]
      · rw [if_neg q2]
  · rw [if_neg q]
theorem lexe_lt (hb : ∀ i, i < n → T i < 256) {p : Nat} (q : p < n) : p < (lex T n p).2.2.2.2 ∧ (lex T n p).2.2.2.2 ≤ n ∧ (lex T n p).1 < 256 ∧ ¬ (lex T n p).1 = 0 := by
  have hc := hb p q
  unfold lex
  rw [if_pos q]
  have ln : ∀ f : Nat → Bool, f (T p) = true → p < p + (tk f T n (n - p) p).length ∧ p + (tk f T n (n - p) p).length ≤ n := fun f hf => by
    refine ⟨?_, (tkw_len (n - p) p (by omega)).1⟩
    obtain ⟨k, hk⟩ : ∃ k, n - p = k + 1 := ⟨n - p - 1, by omega⟩
    rw [hk, tk_pos q hf, List.length_cons]
    omega
  by_cases q1 : isL (T p) = true
  · rw [if_pos q1]
    obtain ⟨a, b⟩ := ln isL q1
    refine ⟨a, b, ?_, ?_⟩
    · show (if _ then 1 else 3) < 256
      split <;> omega
    · show ¬ (if _ then 1 else 3) = 0
      split <;> omega
  · rw [if_neg q1]
    by_cases q2 : isDg (T p) = true
    · rw [if_pos q2]
      obtain ⟨a, b⟩ := ln isDg q2
      refine ⟨a, b, ?_, ?_⟩
      · show (if _ then 2 else 3) < 256
        split <;> omega
      · show ¬ (if _ then 2 else 3) = 0
        split <;> omega
    · rw [if_neg q2]
      refine ⟨by show p < p + 1; omega, by show p + 1 ≤ n; omega, ?_, ?_⟩
      · show (if isS (T p) = true then T p else 3) < 256
        split <;> omega
      · show ¬ (if isS (T p) = true then T p else 3) = 0
        by_cases qs : isS (T p) = true
        · rw [if_pos qs]
          unfold isS at qs
          simp only [Bool.or_eq_true, decide_eq_true_eq] at qs
          omega
        · rw [if_neg qs]; omega
/-- what the reading of a TOKEN by the class leaves alone -/
def CkF (c : Nat) (σ σ' : St_) : Prop := (∀ e j, ¬ ((e = 5 ∨ e = 6) ∧ j = c) → σ'.1 e j = σ.1 e j) ∧ ∀ e j, ¬ (e = 7 ∧ j = c) → σ'.2 e j = σ.2 e j
theorem ck_end {τ : Tkn} {c : Nat} {x : Int32} {y : Int64} {p : Nat} (hp : τ.2.1 = p) (hx : x = nI (cso τ)) (hy : ¬ τ.1 = 0 → ¬ τ.1 = 3 → y = cva τ) : TokC τ c (sI (sL (sI σ 5 c (nI p)) 7 c y) 6 c x) ∧ CkF c σ (sI (sL (sI σ 5 c (nI p)) 7 c y) 6 c x) := by
  refine ⟨⟨?_, ?_, fun a b => ?_⟩, fun e j hn => ?_, fun e j hn => ?_⟩
  · rw [sI_get, if_neg (by omega), sL_1, sI_get, if_pos ⟨rfl, rfl⟩, hp]
  · rw [sI_get, if_pos ⟨rfl, rfl⟩, hx]
  · rw [sI_2, sL_get, if_pos ⟨rfl, rfl⟩, hy a b]
  · rw [sI_get, if_neg (by omega), sL_1, sI_get, if_neg (by omega)]
  · rw [sI_2, sL_get, if_neg hn, sI_2]
theorem c_readToken (hT : TapC T n σ) {p c : Nat} (hp : p < n) (hc : σ.1 3 5 = nI c) (hc2 : c ≤ 1700) : ∃ σ', mX10_readToken 3 (nI p) σ = some (nI (lex T n p).2.2.2.2, σ') ∧ TokC (lex T n p) c σ' ∧ CkF c σ σ' := by
  have h0 := hT.1
  have hcp := hT.2.1 p hp
  generalize hA : sI σ 5 c (nI p) = A
  have A0 : ∀ a k, ¬ (a = 5 ∧ k = c) → A.1 a k = σ.1 a k := fun a k q => by rw [← hA, sI_get, if_neg q]
  have TA : TapC T n A := hT.fr (fun a k q => A0 a k (by omega))
  have cA : A.1 3 5 = nI c := by rw [A0 _ _ (by omega)]; exact hc
  have tA : A.1 4 p = nI (T p) := TA.2.2.2 p hp
  have bc : bin (nI c) 1701 = true := binn (by omega) (by omega)
  have cc : (nI c).toNatClampNeg = c := pn_cl (by omega)
  have bp : bin (nI p) 1700 = true := binn (by omega) (by omega)
  have cp : (nI p).toNatClampNeg = p := pn_cl (by omega)
  unfold mX10_readToken
  simp only [bnd_eq]
  rw [hc, bc, if_pos (show true = true from rfl), cc, show 3 + 2 = 5 from rfl, hA, bp, if_pos (show true = true from rfl), cp, show 3 + 1 = 4 from rfl, tA, c_isL hcp, obs_eq]
  unfold lex
  rw [if_pos hp]
  cases qL : isL (T p)
  · rw [if_neg (show ¬ false = true by simp), if_neg (show ¬ false = true by simp), if_pos (show true = true from rfl), c_isDg hcp, obs_eq]
    cases qD : isDg (T p)
    · rw [if_neg (show ¬ false = true by simp), if_neg (show ¬ false = true by simp), if_pos (show true = true from rfl), cA, bc, if_pos (show true = true from rfl), cc, show 3 + 4 = 7 from rfl, show 3 + 3 = 6 from rfl, sL_1, tA, if_pos (show true = true from rfl)]
      obtain ⟨r, r1, r2⟩ := c_indexOf (σ := sL A 7 c (nI (T p)).toInt64) hcp
      rw [r1, obs_eq, cA, bc, if_pos (show true = true from rfl), if_pos (show true = true from rfl), cc, nI_1]
      cases qS : isS (T p)
      · rw [if_neg (fun w => by have := r2.mp w; rw [qS] at this; cases this), if_neg (show ¬ false = true by simp)]
        have := ck_end (σ := σ) (τ := (3, p, [], 0, p + 1)) (c := c) (x := 1) (y := (nI (T p)).toInt64) (p := p) rfl rfl (fun _ h => absurd rfl h)
        rw [hA] at this
        exact ⟨_, rfl, this.1, this.2⟩
      · rw [if_pos (r2.mpr qS), if_pos (show true = true from rfl)]
        have s3 : 3 < T p := by
          unfold isS at qS
          simp only [Bool.or_eq_true, decide_eq_true_eq] at qS
          omega
        have e5 : cso (T p, p, [], 0, p + 1) = 5 := by
          unfold cso
          rw [if_neg (by show ¬ T p = 0; omega), if_neg (by show ¬ T p = 3; omega), if_neg (by show ¬ T p = 2; omega), if_neg (by show ¬ T p = 1; omega)]
        have e6 : cva (T p, p, [], 0, p + 1) = (nI (T p)).toInt64 := by
          unfold cva
          rw [if_neg (by show ¬ T p = 2; omega), if_neg (by show ¬ T p = 1; omega), nI_l (by omega)]
        have := ck_end (σ := σ) (τ := (T p, p, [], 0, p + 1)) (c := c) (x := 5) (y := (nI (T p)).toInt64) (p := p) rfl (by rw [e5]; rfl) (fun _ _ => e6.symm)
        rw [hA] at this
        exact ⟨_, rfl, this.1, this.2⟩
    · rw [if_pos (show true = true from rfl), if_pos (show true = true from rfl)]
      have hl2 := (tkw_len (p := isDg) (T := T) (n := n) (n - p) p (by omega)).1
      unfold mX10_readDigits
      have z : (0 : Int32) = nI 0 := rfl
      rw [show mX10_readDigits_L4 3 A (nI p) _ FU (nI p) 0 = _ from c_dig_L4 TA (n - p) FU p 0 (by omega) (by unfold FU; omega)]
      generalize hD : tk isDg T n (n - p) p = D at *
      simp only [bnd_eq]
      rw [TA.2.2.1, cA, bc, cc, nI_sub (show p ≤ p + D.length by omega), show p + D.length - p = D.length by omega, show 3 + 4 = 7 from rfl, show 3 + 3 = 6 from rfl, show 3 + 1 = 4 from rfl]
      have fin : ∀ (s : Nat) (x : Int32), x = nI (cso (s, p, [], D.foldl g10 0, p + D.length)) → (s = 2 → D.length ≤ 4) → (s = 2 ∨ s = 3) → ∃ σ', some (nI (p + D.length), sI (sL A 7 c (nI (D.foldl g10 0)).toInt64) 6 c x) = some (nI (p + D.length), σ') ∧ TokC (s, p, [], D.foldl g10 0, p + D.length) c σ' ∧ CkF c σ σ' := fun s x hx h4 h23 => by
        have := ck_end (σ := σ) (τ := (s, p, [], D.foldl g10 0, p + D.length)) (c := c) (x := x) (y := (nI (D.foldl g10 0)).toInt64) (p := p) rfl hx (fun _ h3 => by
          have s2 : s = 2 := h23.resolve_right h3
          unfold cva
          rw [if_pos s2]
          have : D.foldl g10 0 < 2 ^ 31 := by
            have all : ∀ d ∈ D, isDg d = true := fun d hd => tk_all (n - p) p d (by rw [hD]; exact hd)
            have bd : ∀ (l : List Nat) (a : Nat), (∀ d ∈ l, isDg d = true) → l.foldl g10 a < (a + 1) * 10 ^ l.length := by
              intro l
              induction l with
              | nil => intro a _; simp
              | cons d l ih =>
                intro a h
                rw [List.foldl_cons, List.length_cons]
                have h1 := ih (g10 a d) (fun d' hd' => h d' (List.mem_cons_of_mem _ hd'))
                have h2 := h d List.mem_cons_self
                unfold isDg at h2
                simp only [Bool.and_eq_true, decide_eq_true_eq] at h2
                have h3 : g10 a d + 1 ≤ (a + 1) * 10 := by unfold g10; omega
                calc l.foldl g10 (g10 a d) < (g10 a d + 1) * 10 ^ l.length := h1
                  _ ≤ ((a + 1) * 10) * 10 ^ l.length := Nat.mul_le_mul_right _ h3
                  _ = (a + 1) * 10 ^ (l.length + 1) := by rw [Nat.pow_succ, Nat.mul_assoc, Nat.mul_comm 10]
            have b1 := bd D 0 all
            have b2 : 10 ^ D.length ≤ 10 ^ 4 := Nat.pow_le_pow_right (by omega) (h4 s2)
            omega
          rw [nI_l this])
        rw [hA] at this
        exact ⟨_, rfl, this.1, this.2⟩
      rw [if_pos (show true = true from rfl), sL_1, cA, bc, if_pos (show true = true from rfl), cc]
      by_cases q4 : D.length ≤ 4
      · have n4 : ¬ (4 : Int32) < nI D.length := nI_nlt (a := 4) q4 (by omega)
        by_cases qb : p + D.length < n
        · rw [if_neg (show ¬ nI n ≤ nI (p + D.length) from nI_ge qb (by omega)), binn (show p + D.length < 1700 by omega) (by omega), if_pos (show true = true from rfl), pn_cl (by omega), TA.2.2.2 _ qb, c_isL (hT.2.1 _ qb), obs_eq]
          cases qc : isL (T (p + D.length))
          · rw [if_neg (show ¬ false = true by simp), if_neg n4, if_neg (show ¬ false = true by simp), if_pos (show true = true from rfl), obs_eq, if_pos ⟨q4, fun w => by cases w.2⟩]
            exact fin 2 4 rfl (fun _ => q4) (Or.inl rfl)
          · rw [if_pos (show true = true from rfl), if_neg n4, if_pos trivial, if_pos (show true = true from rfl), obs_eq, if_neg (show ¬ (D.length ≤ 4 ∧ ¬ (p + D.length < n ∧ true = true)) from fun w => w.2 ⟨qb, rfl⟩)]
            exact fin 3 1 rfl (fun w => by omega) (Or.inr rfl)
        · rw [if_pos (show nI n ≤ nI (p + D.length) from nI_le (by omega) (by omega)), if_neg n4, if_neg (show ¬ false = true by simp), if_pos (show true = true from rfl), obs_eq, if_pos ⟨q4, fun w => qb w.1⟩]
          exact fin 2 4 rfl (fun _ => q4) (Or.inl rfl)
      · have n4 : (4 : Int32) < nI D.length := nI_lt (a := 4) (by omega) (by omega)
        rw [if_neg (show ¬ (D.length ≤ 4 ∧ ¬ (p + D.length < n ∧ isL (T (p + D.length)) = true)) from fun w => q4 w.1)]
        by_cases qb : p + D.length < n
        · rw [if_neg (show ¬ nI n ≤ nI (p + D.length) from nI_ge qb (by omega)), binn (show p + D.length < 1700 by omega) (by omega), if_pos (show true = true from rfl), pn_cl (by omega), TA.2.2.2 _ qb, c_isL (hT.2.1 _ qb), obs_eq]
          cases isL (T (p + D.length))
          · rw [if_neg (show ¬ false = true by simp), if_pos n4, obs_eq]
            exact fin 3 1 rfl (fun w => by omega) (Or.inr rfl)
          · rw [if_pos (show true = true from rfl), if_pos n4]
            exact fin 3 1 rfl (fun w => by omega) (Or.inr rfl)
        · rw [if_pos (show nI n ≤ nI (p + D.length) from nI_le (by omega) (by omega)), if_pos n4, obs_eq]
          exact fin 3 1 rfl (fun w => by omega) (Or.inr rfl)
  · rw [if_pos (show true = true from rfl), if_pos (show true = true from rfl)]
    have hl2 := (tkw_len (p := isL) (T := T) (n := n) (n - p) p (by omega)).1
    have hg : ∀ i, i < (tk isL T n (n - p) p).length → (tk isL T n (n - p) p).getD i 32 = T (p + i) := fun i hi => tk_get (n - p) p i hi
    have hwn := c_wnum TA hl2 hg
    unfold mX10_readWord
    rw [show mX10_readWord_L4 3 A (nI p) _ FU (nI p) 0 = _ from c_word_L4 TA (n - p) FU p 0 (by omega) (by unfold FU; omega)]
    generalize hD : tk isL T n (n - p) p = D at *
    simp only [bnd_eq]
    rw [hwn, obs_eq, cA, bc, if_pos (show true = true from rfl), cc, nI_sub (show p ≤ p + D.length by omega), show p + D.length - p = D.length by omega, show 3 + 4 = 7 from rfl, show 3 + 3 = 6 from rfl]
    have fin : ∀ (s : Nat) (x : Int32) (y : Int64), x = nI (cso (s, p, D, 0, p + D.length)) → (¬ s = 3 → y = cva (s, p, D, 0, p + D.length)) → ∃ σ', some (nI (p + D.length), sI (sL A 7 c y) 6 c x) = some (nI (p + D.length), σ') ∧ TokC (s, p, D, 0, p + D.length) c σ' ∧ CkF c σ σ' := fun s x y hx hy => by
      have := ck_end (σ := σ) (τ := (s, p, D, 0, p + D.length)) (c := c) (x := x) (y := y) (p := p) rfl hx (fun _ h3 => hy h3)
      rw [hA] at this
      exact ⟨_, rfl, this.1, this.2⟩
    rw [sL_1, sL_1, cA, bc, if_pos (show true = true from rfl), cc]
    cases hw : wnum D with
    | none =>
      rw [show encO none = (-1 : Int32) from rfl, if_pos (show (-1 : Int32) = -1 from rfl)]
      by_cases q8 : D.length ≤ 8
      · rw [if_pos (show nI D.length ≤ (8 : Int32) from nI_le (b := 8) q8 (by omega)), if_pos q8]
        exact fin 1 2 _ (by show _ = nI (match wnum D with | none => 2 | some _ => 3); rw [hw]; rfl) (fun _ => by show _ = (match wnum D with | none => lN (D.foldl g27 0) | some w => lN w); rw [hw])
      · rw [if_neg (show ¬ nI D.length ≤ (8 : Int32) from nI_ge (a := 8) (by omega) (by omega)), if_neg q8]
        exact fin 3 1 _ rfl (fun h => absurd rfl h)
    | some w =>
      have hw25 : w < 25 := by
        have : ∀ r i j, i + r ≤ 25 → wnF D r i = some j → j < 25 := by
          intro r
          induction r with
          | zero => intro i j _ h; cases h
          | succ r ih =>
            intro i j hr h
            unfold wnF at h
            by_cases q : cellF D i 8 0 = true
            · rw [if_pos q] at h; cases h; omega
            · rw [if_neg q] at h; exact ih (i + 1) j (by omega) h
        exact this 25 0 w (by omega) hw
      rw [show encO (some w) = nI w from rfl, if_neg (nI_nm1 (by omega))]
      by_cases q8 : D.length ≤ 8
      · rw [if_pos (show nI D.length ≤ (8 : Int32) from nI_le (b := 8) q8 (by omega)), if_pos q8, if_pos (show true = true from rfl), if_neg (show ¬ nI w = (-1 : Int32) from nI_nm1 (by omega))]
        exact fin 1 3 _ (by show _ = nI (match wnum D with | none => 2 | some _ => 3); rw [hw]; rfl) (fun _ => by show _ = (match wnum D with | none => lN (D.foldl g27 0) | some w => lN w); rw [hw, nI_l (by omega)])
      · rw [if_neg (show ¬ nI D.length ≤ (8 : Int32) from nI_ge (a := 8) (by omega) (by omega)), if_neg q8]
        exact fin 3 1 _ rfl (fun h => absurd rfl h)
end SPLIT
