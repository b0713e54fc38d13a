/-! the law's reading, both sides: words for it -/
section LAWDEFS
variable {σ σ' ρ ρ' : St_} {n i d u k : Nat} {T : Nat → Nat} {τ : Tkn} {K : St_ → Option St_}
/-- from so many values on the stack, how many there are behind these steps -/
def lwx : List (Nat × Int32) → Nat → Option Nat
  | [], d => some d
  | q :: l, d => if q.1 = 0 then (if d < 30 then lwx l (d + 1) else none) else if q.1 = 1 then (if d < 30 ∧ 0 ≤ q.2 ∧ q.2 < 7 then lwx l (d + 1) else none) else if q.1 = 2 then (if 1 ≤ d then lwx l d else none) else if q.1 = 3 ∧ lsign q.2 = true ∧ 2 ≤ d then lwx l (d - 1) else none
theorem lwx_app : ∀ (l1 l2 : List (Nat × Int32)) (d : Nat), lwx (l1 ++ l2) d = (lwx l1 d).bind (lwx l2)
  | [], l2, d => rfl
  | q :: l1, l2, d => by
    rw [List.cons_append]
    unfold lwx
    rw [lwx_app l1 l2, lwx_app l1 l2, lwx_app l1 l2]
    by_cases q0 : q.1 = 0
    · rw [if_pos q0, if_pos q0]
      by_cases a : d < 30
      · rw [if_pos a, if_pos a]
      · rw [if_neg a, if_neg a]; rfl
    · rw [if_neg q0, if_neg q0]
      by_cases q1 : q.1 = 1
      · rw [if_pos q1, if_pos q1]
        by_cases a : d < 30 ∧ 0 ≤ q.2 ∧ q.2 < 7
        · rw [if_pos a, if_pos a]
        · rw [if_neg a, if_neg a]; rfl
      · rw [if_neg q1, if_neg q1]
        by_cases q2 : q.1 = 2
        · rw [if_pos q2, if_pos q2]
          by_cases a : 1 ≤ d
          · rw [if_pos a, if_pos a]
          · rw [if_neg a, if_neg a]; rfl
        · rw [if_neg q2, if_neg q2]
          by_cases a : q.1 = 3 ∧ lsign q.2 = true ∧ 2 ≤ d
          · rw [if_pos a, if_pos a]
          · rw [if_neg a, if_neg a]; rfl
theorem lwx_f : ∀ (l : List (Nat × Int32)) (d : Nat), lwx l d = some 1 → lwf l d = true
  | [], d, h => by
    have e : d = 1 := by unfold lwx at h; injection h
    rw [e]; rfl
  | q :: l, d, h => by
    unfold lwx at h
    unfold lwf
    by_cases q0 : q.1 = 0
    · rw [if_pos q0] at h ⊢
      by_cases a : d < 30
      · rw [if_pos a] at h; rw [lwx_f l _ h, decide_eq_true a]; rfl
      · rw [if_neg a] at h; cases h
    · rw [if_neg q0] at h ⊢
      by_cases q1 : q.1 = 1
      · rw [if_pos q1] at h ⊢
        by_cases a : d < 30 ∧ 0 ≤ q.2 ∧ q.2 < 7
        · rw [if_pos a] at h; rw [lwx_f l _ h, decide_eq_true a.1, decide_eq_true a.2.1, decide_eq_true a.2.2]; rfl
        · rw [if_neg a] at h; cases h
      · rw [if_neg q1] at h ⊢
        by_cases q2 : q.1 = 2
        · rw [if_pos q2] at h ⊢
          by_cases a : 1 ≤ d
          · rw [if_pos a] at h; rw [lwx_f l _ h, decide_eq_true a]; rfl
          · rw [if_neg a] at h; cases h
        · rw [if_neg q2] at h ⊢
          by_cases a : q.1 = 3 ∧ lsign q.2 = true ∧ 2 ≤ d
          · rw [if_pos a] at h; rw [lwx_f l _ h, decide_eq_true a.1, a.2.1, decide_eq_true a.2.2]; rfl
          · rw [if_neg a] at h; cases h
theorem lwx_bin {lc : List (Nat × Int32)} {s : Nat} (h : lwx lc 0 = some (k + 2)) (hs : lsign (nI s) = true) (h21 : ¬ s = 21) : lwx (lc ++ [sto s]) 0 = some (k + 1) := by
  have e : sto s = (3, nI s) := by unfold sto; rw [if_neg h21]
  rw [lwx_app, h, obs_eq, e]
  unfold lwx
  rw [if_neg (by simp), if_neg (by simp), if_neg (by simp), if_pos ⟨rfl, hs, by omega⟩]
  rfl
theorem lwx_not {lc : List (Nat × Int32)} (h : lwx lc 0 = some (k + 1)) : lwx (lc ++ [sto 21]) 0 = some (k + 1) := by
  rw [lwx_app, h, obs_eq, show sto 21 = (2, 0) from rfl]
  unfold lwx
  rw [if_neg (by simp), if_neg (by simp), if_pos rfl, if_pos (by omega)]
  rfl
theorem lwx_num {lc : List (Nat × Int32)} {x : Int32} (h : lwx lc 0 = some k) (hk : k < 30) : lwx (lc ++ [(0, x)]) 0 = some (k + 1) := by
  rw [lwx_app, h, obs_eq]
  unfold lwx
  rw [if_pos rfl, if_pos hk]
  rfl
theorem lwx_ask {lc : List (Nat × Int32)} {w : Nat} (h : lwx lc 0 = some k) (hk : k < 30) (hw : w < 7) : lwx (lc ++ [(1, nI w)]) 0 = some (k + 1) := by
  rw [lwx_app, h, obs_eq]
  unfold lwx
  rw [if_neg (by simp), if_pos rfl, if_pos ⟨hk, nI_pos' (by omega), nI_lt (b := 7) hw (by omega)⟩]
  rfl
/-- how many open signs are no bracket -/
def nb : List Nat → Nat
  | [] => 0
  | o :: S => (if o = 20 then 0 else 1) + nb S
theorem nb_app {P S : List Nat} (h : ∀ o ∈ P, o ≠ 20) : nb (P ++ S) = P.length + nb S := by
  induction P with
  | nil => simp
  | cons o P ih =>
    rw [List.cons_append]
    conv => lhs; unfold nb
    rw [if_neg (h o List.mem_cons_self), ih (fun p hp => h p (List.mem_cons_of_mem _ hp)), List.length_cons]
    omega
theorem len_nb : ∀ S : List Nat, S.length ≤ nb S + nst S
  | [] => by simp [nb, nst]
  | o :: S => by
    have := len_nb S
    unfold nb nst
    rw [List.length_cons]
    by_cases q : o = 20
    · rw [if_pos q, if_pos (Or.inl q)]; omega
    · rw [if_neg q]; omega
theorem nst_app : ∀ P S : List Nat, nst (P ++ S) = nst P + nst S
  | [], S => by simp [nst]
  | o :: P, S => by
    rw [List.cons_append]
    have e1 : nst (o :: (P ++ S)) = (if o = 20 ∨ o = 21 then 1 else 0) + nst (P ++ S) := rfl
    have e2 : nst (o :: P) = (if o = 20 ∨ o = 21 then 1 else 0) + nst P := rfl
    rw [e1, e2, nst_app P S]
    omega
/-- a sign that stands between -/
def sgT (τ : Tkn) : Nat := if τ.1 = 1 ∧ wnum τ.2.2.1 = some 16 then 38 else if τ.1 = 1 ∧ wnum τ.2.2.1 = some 15 then 124 else if τ.1 = 60 then τ.1 else if τ.1 = 62 then τ.1 else if τ.1 = 61 then τ.1 else if τ.1 = 43 then τ.1 else if τ.1 = 45 then τ.1 else if τ.1 = 42 then τ.1 else if τ.1 = 47 then τ.1 else if τ.1 = 37 then τ.1 else 0
theorem sgT_cases (τ : Tkn) : (τ.1 = 1 ∧ wnum τ.2.2.1 = some 16 ∧ sgT τ = 38) ∨ (τ.1 = 1 ∧ wnum τ.2.2.1 = some 15 ∧ sgT τ = 124) ∨ ((τ.1 = 60 ∨ τ.1 = 61 ∨ τ.1 = 62) ∧ sgT τ = τ.1) ∨ ((τ.1 = 43 ∨ τ.1 = 45) ∧ sgT τ = τ.1) ∨ ((τ.1 = 42 ∨ τ.1 = 47 ∨ τ.1 = 37) ∧ sgT τ = τ.1) ∨ (sgT τ = 0 ∧ ¬ (τ.1 = 1 ∧ wnum τ.2.2.1 = some 16) ∧ ¬ (τ.1 = 1 ∧ wnum τ.2.2.1 = some 15) ∧ ¬ τ.1 = 60 ∧ ¬ τ.1 = 61 ∧ ¬ τ.1 = 62 ∧ ¬ τ.1 = 43 ∧ ¬ τ.1 = 45 ∧ ¬ τ.1 = 42 ∧ ¬ τ.1 = 47 ∧ ¬ τ.1 = 37) := by
  unfold sgT
  by_cases a1 : τ.1 = 1 ∧ wnum τ.2.2.1 = some 16
  · rw [if_pos a1]; exact Or.inl ⟨a1.1, a1.2, rfl⟩
  · rw [if_neg a1]
    by_cases a2 : τ.1 = 1 ∧ wnum τ.2.2.1 = some 15
    · rw [if_pos a2]; exact Or.inr (Or.inl ⟨a2.1, a2.2, rfl⟩)
    · rw [if_neg a2]
      by_cases b1 : τ.1 = 60
      · rw [if_pos b1]; omega
      · rw [if_neg b1]
        by_cases b2 : τ.1 = 62
        · rw [if_pos b2]; omega
        · rw [if_neg b2]
          by_cases b3 : τ.1 = 61
          · rw [if_pos b3]; omega
          · rw [if_neg b3]
            by_cases b4 : τ.1 = 43
            · rw [if_pos b4]; omega
            · rw [if_neg b4]
              by_cases b5 : τ.1 = 45
              · rw [if_pos b5]; omega
              · rw [if_neg b5]
                by_cases b6 : τ.1 = 42
                · rw [if_pos b6]; omega
                · rw [if_neg b6]
                  by_cases b7 : τ.1 = 47
                  · rw [if_pos b7]; omega
                  · rw [if_neg b7]
                    by_cases b8 : τ.1 = 37
                    · rw [if_pos b8]; omega
                    · rw [if_neg b8]
                      exact Or.inr (Or.inr (Or.inr (Or.inr (Or.inr ⟨rfl, a1, a2, b1, b3, b2, b4, b5, b6, b7, b8⟩))))
theorem sgT_lt (h : τ.1 < 256) : sgT τ < 256 := by
  rcases sgT_cases τ with ⟨-, -, e⟩ | ⟨-, -, e⟩ | ⟨-, e⟩ | ⟨-, e⟩ | ⟨-, e⟩ | ⟨e, -⟩ <;> omega
theorem r_sign (h : AtR T n τ ρ) : mX12_sign 233 ρ = some (nI (sgT τ)) := by
  have h1 := h.1.1
  obtain ⟨v0, v1, v2, v3, v4, v5, v6, v7, v8, v9, v10, v11, v12, v13, v14, v15, v16, v17, v18, v19, v20, v21, v22, v23, v24⟩ := rw6_vals
  unfold mX12_sign sgT
  rw [← v16, ← v15, r_isWord h (by omega), r_isWord h (by omega), obs_eq, obs_eq, h.2.2.1]
  have st : ∀ (c x : Nat) (o : Option Int32), c < 256 → o = some (nI x) → (if nI τ.1 = nI c then some (nI τ.1) else o) = some (nI (if τ.1 = c then τ.1 else x)) := fun c x o hc ho => by
    by_cases q : τ.1 = c
    · rw [if_pos (by rw [q]), if_pos q]
    · rw [if_neg (fun w => q ((nI_eq (by omega) (by omega)).mp w)), if_neg q, ho]
  by_cases a1 : τ.1 = 1 ∧ wnum τ.2.2.1 = some 16
  · rw [decide_eq_true a1, if_pos rfl, if_pos a1]; rfl
  · rw [decide_eq_false a1, if_neg (by simp), if_neg a1]
    by_cases a2 : τ.1 = 1 ∧ wnum τ.2.2.1 = some 15
    · rw [decide_eq_true a2, if_pos rfl, if_pos a2]; rfl
    · rw [decide_eq_false a2, if_neg (by simp), if_neg a2]
      exact st 60 _ _ (by omega) (st 62 _ _ (by omega) (st 61 _ _ (by omega) (st 43 _ _ (by omega) (st 45 _ _ (by omega) (st 42 _ _ (by omega) (st 47 _ _ (by omega) (st 37 0 _ (by omega) rfl)))))))
/-- a not may stand -/
def mnS : List Nat → Bool
  | [] => true
  | o :: _ => decide (o = 20) || decide (tgt o < 4)
theorem r_mayNot' {S : List Nat} (hO : OpR S ρ) (hb : ∀ o ∈ S, o < 256) (h160 : S.length ≤ 160) : mX12_mayNot 233 ρ = some (mnS S) := by
  rw [r_mayNot hO hb h160]
  cases S <;> rfl
/-- the newest open sign is a bracket, or binds less tightly; how many are open -/
def Tpw (L : Nat) (S : List Nat) : Prop := S.length + 1 ≤ 7 * nst S + L ∧ ∀ o S', S = o :: S' → o = 20 ∨ tgt o < L
theorem Tpw.mono {L L' : Nat} {S : List Nat} (h : Tpw L S) (hl : L ≤ L') : Tpw L' S := ⟨by have := h.1; omega, fun o S' e => (h.2 o S' e).imp id (fun w => by omega)⟩
theorem Tpw.sign {L s : Nat} {S : List Nat} (h : Tpw L S) (hl : L ≤ tgt s) : Tpw (tgt s + 1) (s :: S) := by
  refine ⟨?_, fun o S' e => ?_⟩
  · have := h.1
    unfold nst
    rw [List.length_cons]
    omega
  · injection e with e1 e2
    rw [← e1]
    omega
theorem Tpw.br {S : List Nat} (h : Tpw 7 S) : Tpw 1 (20 :: S) := by
  refine ⟨?_, fun o S' e => ?_⟩
  · have := h.1
    unfold nst
    rw [List.length_cons, if_pos (Or.inl rfl)]
    omega
  · injection e with e1 e2
    exact Or.inl e1.symm
theorem Tpw.nots {S : List Nat} (h : Tpw 4 S) : Tpw 4 (21 :: S) := by
  refine ⟨?_, fun o S' e => ?_⟩
  · have := h.1
    unfold nst
    rw [List.length_cons, if_pos (Or.inr rfl)]
    omega
  · injection e with e1 e2
    rw [← e1]
    right
    decide
theorem Tpw.mn {S : List Nat} (h : Tpw 4 S) : mnS S = true := by
  cases S with
  | nil => rfl
  | cons o S =>
    rcases h.2 o S rfl with w | w
    · show (decide (o = 20) || decide (tgt o < 4)) = true
      rw [decide_eq_true w]; rfl
    · show (decide (o = 20) || decide (tgt o < 4)) = true
      rw [decide_eq_true w, Bool.or_true]
theorem Tpw.rel {S : List Nat} (h : Tpw 4 S) : relS S = false := by
  cases S with
  | nil => rfl
  | cons o S =>
    unfold relS
    rcases h.2 o S rfl with w | w
    · rw [if_pos w]
    · by_cases q : o = 20
      · rw [if_pos q]
      · rw [if_neg q, if_pos (by omega), decide_eq_false (by omega)]
theorem relS_app : ∀ (P S : List Nat), relS P = true → relS (P ++ S) = true
  | [], S, h => by cases h
  | o :: P, S, h => by
    rw [List.cons_append]
    unfold relS at h ⊢
    by_cases q : o = 20
    · rw [if_pos q] at h; cases h
    · rw [if_neg q] at h ⊢
      by_cases q4 : tgt o ≤ 4
      · rw [if_pos q4] at h ⊢; exact h
      · rw [if_neg q4] at h ⊢; exact relS_app P S h
theorem relS_tight : ∀ (P S : List Nat), (∀ o ∈ P, o ≠ 20 ∧ 5 ≤ tgt o) → relS (P ++ S) = relS S
  | [], S, h => rfl
  | o :: P, S, h => by
    have ho := h o List.mem_cons_self
    rw [List.cons_append]
    conv => lhs; unfold relS
    rw [if_neg ho.1, if_neg (by omega)]
    exact relS_tight P S (fun p hp => h p (List.mem_cons_of_mem _ hp))
theorem cls_app {least : Nat} : ∀ (P S : List Nat), (∀ o ∈ P, o ≠ 20 ∧ least ≤ tgt o) → (∀ o S', S = o :: S' → o = 20 ∨ tgt o < least) → cls least (P ++ S) = (S, P.map sto)
  | [], S, h, hS => by
    cases S with
    | nil => rfl
    | cons o S =>
      rw [List.nil_append]
      unfold cls
      rw [if_pos (hS o S rfl)]
      rfl
  | o :: P, S, h, hS => by
    have ho := h o List.mem_cons_self
    rw [List.cons_append]
    conv => lhs; unfold cls
    rw [if_neg (by omega), cls_app P S (fun p hp => h p (List.mem_cons_of_mem _ hp)) hS]
    rfl
theorem LwC.fr {lw : List (Nat × Int32)} (h : LwC d lw σ) (e : ∀ a j, (a = d + 11 ∧ j = 4) ∨ a = d + 12 ∨ a = d + 13 → σ'.1 a j = σ.1 a j) : LwC d lw σ' := ⟨by rw [e _ _ (by omega)]; exact h.1, fun i q hq => ⟨by rw [e _ _ (by omega)]; exact (h.2 i q hq).1, fun w => by rw [e _ _ (by omega)]; exact (h.2 i q hq).2 w⟩⟩
/-- what the law's reading leaves alone -/
def CLw (d : Nat) (σ σ' : St_) : Prop := (∀ e j, ¬ ((e = 3 ∧ 6 ≤ j ∧ j ≤ 8) ∨ (e = d + 11 ∧ 4 ≤ j ∧ j ≤ 5) ∨ e = d + 12 ∨ e = d + 13) → σ'.1 e j = σ.1 e j) ∧ σ'.2 = σ.2
def RLw (ρ ρ' : St_) : Prop := (∀ e j, ¬ ((e = 233 ∧ ((2 ≤ j ∧ j ≤ 8) ∨ j = 19 ∨ j = 21 ∨ j = 22 ∨ j = 24 ∨ j = 25)) ∨ e = 237 ∨ e = 238 ∨ e = 241) → ρ'.1 e j = ρ.1 e j) ∧ ∀ e j, ¬ (e = 233 ∧ j = 9) → ρ'.2 e j = ρ.2 e j
theorem CLw.rfl' : CLw d σ σ := ⟨fun _ _ _ => rfl, rfl⟩
theorem RLw.rfl' : RLw ρ ρ := ⟨fun _ _ _ => rfl, fun _ _ _ => rfl⟩
theorem CLw.tr {σ'' : St_} (a : CLw d σ σ') (b : CLw d σ' σ'') : CLw d σ σ'' := ⟨fun e j q => by rw [b.1 e j q, a.1 e j q], by rw [b.2, a.2]⟩
theorem RLw.tr {ρ'' : St_} (a : RLw ρ ρ') (b : RLw ρ' ρ'') : RLw ρ ρ'' := ⟨fun e j q => by rw [b.1 e j q, a.1 e j q], fun e j q => by rw [b.2 e j q, a.2 e j q]⟩
theorem RF.rl (h : RF ρ ρ') : RLw ρ ρ' := ⟨fun e j q => h.1 e j (by omega), h.2⟩
/-- both in the midst of a law: the steps of the class, of the reference, its open signs, units, values -/
def LGw (T : Nat → Nat) (n i : Nat) (τ : Tkn) (d : Nat) (lc lr : List (Nat × Int32)) (S : List Nat) (u k : Nat) (σ ρ : St_) : Prop := Bo T n i τ σ ρ ∧ LwC d lc σ ∧ LwR lr ρ ∧ OpR S ρ ∧ ρ.1 233 25 = nI (nst S) ∧ (∀ o ∈ S, o < 256) ∧ (σ.1 (d + 11) 5 = nI u ∧ ρ.1 233 22 = nI u ∧ ρ.1 233 24 = nI u ∧ u ≤ 30) ∧ (nst S ≤ 7 ∧ S.length ≤ 56) ∧ lwx lc 0 = some k ∧ k ≤ u
def RH (K : St_ → Option St_) (m : Nat) (ρ : St_) : Option St_ := mX12_readLaw_L30 233 K m true ρ
def KU : St_ → Option St_ := (fun (σ19 : St_) => (if (σ19.1 233 2) ≤ 0 then
 ((mX12_asked 233 σ19).bind fun r20 =>
 (bnd (fun (σ21 : St_) => (if (σ21.1 233 2) ≤ 0 then
 ((mX12_countUnit 233 σ21).bind fun σ24 =>
 (bnd (fun (j25 : Bool) => (bnd (fun (j28 : Int32) => ((mX12_add 233 (b2i j25) j28 σ24).bind fun σ31 =>
 ((mX12_token 233 σ31).bind fun σ32 =>
 (some σ32)))) fun k29 =>
 (if 0 ≤ r20 then
 (k29 r20)
 else (k29 (σ24.1 233 8))))) fun k26 =>
 (if 0 ≤ r20 then
 (k26 true)
 else (k26 false))))
 else (some σ21))) fun k22 =>
 (bnd ((mX12_wrong 233 (2 : Int32) σ19).bind fun σ35 =>
 (k22 σ35)) fun k33 =>
 (bnd ((mX12_isFull 233 σ19).bind fun r38 =>
 (if r38 = true then
 (k33)
 else (k22 σ19))) fun k36 =>
 (if (σ19.1 233 6) = (2 : Int32) then
 (k36)
 else (if r20 < 0 then
 (k33)
 else (k36)))))))
 else (some σ19)))
theorem unitw_eq : mX12_unit 233 ρ = mX12_unit_L2 233 KU FU true ρ := by
  unfold mX12_unit KU
  rfl
def RU (K : St_ → Option St_) (a m : Nat) (ρ : St_) : Option St_ := (mX12_unit_L2 233 KU a true ρ).bind fun ρ1 => RH K m ρ1
end LAWDEFS
