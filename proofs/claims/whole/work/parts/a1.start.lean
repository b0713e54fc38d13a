/-! the reading from its start; what is settled behind it; the class' first state -/
section STARTR
variable {σ σ' ρ ρ' : St_} {n i d nh nt x : Nat} {T : Nat → Nat} {τ : Tkn} {KL TL HL : List (List Nat)}
def CXr (d : Nat) (σ σ' : St_) : Prop := ∀ e j, ¬ ((e = 3 ∧ 5 ≤ j ∧ j ≤ 8) ∨ e = 1 ∨ e = 5 ∨ e = 6 ∨ e = 11 ∨ (d ≤ e ∧ e ≤ d + 15)) → σ'.1 e j = σ.1 e j
def RXr (ρ ρ' : St_) : Prop := ∀ e j, ¬ ((e = 233 ∧ ((1 ≤ j ∧ j ≤ 12) ∨ j = 19 ∨ j = 21 ∨ j = 22 ∨ j = 24 ∨ j = 25 ∨ (45 ≤ j ∧ j ≤ 50) ∨ (56 ≤ j ∧ j ≤ 58))) ∨ (236 ≤ e ∧ e ≤ 238) ∨ e = 241 ∨ (244 ≤ e ∧ e ≤ 252)) → ρ'.1 e j = ρ.1 e j
/-- the reference before its first TOKEN -/
theorem r_begin (h1 : ρ.1 233 1 = nI n) : ∃ B, mX12_readAll 233 ρ = (mX12_token 233 B).bind (fun s => mX12_readAll_L88 233 FU s) ∧ B.1 233 5 = nI n ∧ B.1 233 1 = 0 ∧ B.1 233 4 = nI 0 ∧ B.1 233 2 = 0 ∧ B.1 233 3 = -1 ∧ B.1 233 45 = nI 0 ∧ B.1 233 46 = nI 0 ∧ B.1 233 47 = nI 0 ∧ B.1 233 48 = nI 0 ∧ B.1 233 12 = nI 0 ∧ B.1 233 49 = nI 0 ∧ B.1 233 50 = nI 6 ∧ B.1 233 56 = 0 ∧ B.1 233 57 = 0 ∧ B.1 233 58 = 0 ∧ B.1 233 22 = 0 ∧ ∀ e j, ¬ (e = 233 ∧ ((1 ≤ j ∧ j ≤ 5) ∨ (45 ≤ j ∧ j ≤ 50) ∨ j = 12 ∨ (56 ≤ j ∧ j ≤ 58) ∨ j = 22)) → B.1 e j = ρ.1 e j := by
  generalize hB : sI (sI (sI (sI (sI (sI (sI (sI (sI (sI (sI (sI (sI (sI (sI (sI ρ 233 5 (nI n)) 233 1 0) 233 4 0) 233 2 0) 233 3 (-1)) 233 45 0) 233 46 0) 233 47 0) 233 48 0) 233 12 0) 233 49 0) 233 50 6) 233 56 (b2i false)) 233 57 (b2i false)) 233 58 (b2i false)) 233 22 0 = B
  refine ⟨B, ?_, ?_, ?_, ?_, ?_, ?_, ?_, ?_, ?_, ?_, ?_, ?_, ?_, ?_, ?_, ?_, ?_, fun e j w => ?_⟩
  · unfold mX12_readAll
    simp only [bnd_eq]
    rw [h1, hB]
  · rw [← hB]; simp [sI_get]
  · rw [← hB]; simp [sI_get]
  · rw [← hB]; simp [sI_get]; rfl
  · rw [← hB]; simp [sI_get]
  · rw [← hB]; simp [sI_get]
  · rw [← hB]; simp [sI_get]; rfl
  · rw [← hB]; simp [sI_get]; rfl
  · rw [← hB]; simp [sI_get]; rfl
  · rw [← hB]; simp [sI_get]; rfl
  · rw [← hB]; simp [sI_get]; rfl
  · rw [← hB]; simp [sI_get]; rfl
  · rw [← hB]; simp [sI_get]; rfl
  · rw [← hB]; simp [sI_get]; rfl
  · rw [← hB]; simp [sI_get]; rfl
  · rw [← hB]; simp [sI_get]; rfl
  · rw [← hB]; simp [sI_get]
  · rw [← hB, sI_get, if_neg (by omega), sI_get, if_neg (by omega), sI_get, if_neg (by omega), sI_get, if_neg (by omega), sI_get, if_neg (by omega), sI_get, if_neg (by omega), sI_get, if_neg (by omega), sI_get, if_neg (by omega), sI_get, if_neg (by omega), sI_get, if_neg (by omega), sI_get, if_neg (by omega), sI_get, if_neg (by omega), sI_get, if_neg (by omega), sI_get, if_neg (by omega), sI_get, if_neg (by omega), sI_get, if_neg (by omega)]
theorem row_0 (hb : ∀ i, i < n → T i < 256) : (row T n)[0]? = some (lex T n (skp T n 0)) := by
  unfold row
  by_cases q : stops (lex T n (skp T n 0)) = true
  · rw [toks_pos q]; rfl
  · rw [toks_neg q]; rfl
theorem read_alw (hd : 12 ≤ d) (hT : TapC T n σ) (h1 : ρ.1 233 1 = nI n) (h234 : ∀ i, i < n → ρ.1 234 i = nI (T i)) : ∃ A R, mX12_readAll 233 ρ = some R ∧ R.1 233 1 = 0 ∧ CXr d σ A ∧ RXr ρ R ∧ ((((mX10_split 3 σ).bind fun s => mX4_read 1 d s) = ((mX1_settle d A).bind fun s => some (true, s)) ∧ ∃ i' τ' KL TL HL nh nt, Bo T n i' τ' A R ∧ Dra d KL TL HL nh nt A R) ∨ (((mX10_split 3 σ).bind fun s => mX4_read 1 d s) = some (false, A) ∧ Fau A R)) := by
  obtain ⟨B, b0, b5, b1, b4, b2, b3, b45, b46, b47, b48, b12, b49, b50, b56, b57, b58, b22, bF⟩ := r_begin h1
  have hn := hT.1
  have TB : TapR T n B := ⟨hT.1, hT.2.1, b5, fun i hi => by rw [bF _ _ (by omega)]; exact h234 i hi⟩
  obtain ⟨C, c1, c2, c3⟩ := r_token TB b4 (by omega)
  rw [show 0 + (tk isBl T n (n - 0) 0).length = skp T n 0 from rfl] at c2
  obtain ⟨S1, s1, s2, s3, s4, s5, s6, s7, s8, s9⟩ := c_split hT
  obtain ⟨A, a1, a2, a3, a4, a5, a6, a7, a8, a9, a10⟩ := clear_ok d S1
  generalize hE : sI (sI (sI A 1 6 0) 1 7 0) 1 8 0 = E
  have E0 : ∀ e j, ¬ (e = 1 ∧ 6 ≤ j ∧ j ≤ 8) → E.1 e j = A.1 e j := fun e j w => by rw [← hE, sI_get, if_neg (by omega), sI_get, if_neg (by omega), sI_get, if_neg (by omega)]
  have E6 : E.1 1 6 = nI 0 := by rw [← hE]; simp [sI_get]; rfl
  have E7 : E.1 1 7 = nI 0 := by rw [← hE]; simp [sI_get]; rfl
  have E8 : E.1 1 8 = nI 0 := by rw [← hE]; simp [sI_get]; rfl
  have E2 : E.2 = S1.2 := by rw [← hE, sI_2, sI_2, sI_2, a10]
  have EC : ∀ e j, ¬ ((e = 1 ∧ 6 ≤ j ∧ j ≤ 8) ∨ (d ≤ e ∧ e ≤ d + 11)) → E.1 e j = S1.1 e j := fun e j w => by rw [E0 e j (by omega), a9 e j (by omega)]
  have r0 := row_0 (T := T) (n := n) hT.2.1
  have tkO := toks_all hT.2.1 (n + 1) (skp T n 0) 0 _ r0
  have bo : Bo T n 0 (lex T n (skp T n 0)) E C := by
    refine ⟨⟨r0, by omega, tkO, ⟨⟨by rw [EC _ _ (by omega)]; exact s2.1, fun j υ hj => (s2.2 j υ hj).fr (fun a q => EC a j (by omega)) (by rw [E2])⟩, by rw [EC _ _ (by omega)]; exact s6, by rw [EC _ _ (by omega)]; exact s7⟩, by rw [EC _ _ (by omega)]; exact s5⟩, ⟨tkO, ⟨TB.fr (fun a k q => c3.1 a k (by omega)), by rw [c3.1 _ _ (by omega)]; exact b3⟩, c2⟩, by rw [c3.1 _ _ (by omega)]; exact b2⟩
  have dr : Dra d [] [] [] 0 0 E C := by
    have nm : ∀ a f an, Dnm a f an [] E C := fun a f an => ⟨⟨fun l hl => absurd hl List.not_mem_nil, List.nodup_nil⟩, fun k l hk => by simp at hk, fun k l hk => by simp at hk, Nat.zero_le _⟩
    refine ⟨⟨nm _ _ _, nm _ _ _, nm _ _ _⟩, ⟨⟨?_, ?_⟩, ⟨?_, ?_⟩, ⟨?_, ?_⟩, ⟨?_, ?_⟩, ⟨?_, ?_⟩, by omega, by omega, rfl⟩, fun k hk => absurd hk (by simp), ⟨6, by omega, by omega, ?_, ?_⟩, fun x hx => absurd hx (by simp), ⟨fun x hx => by omega, fun x _ hx => ?_⟩, fun x hx => by omega, ⟨fun x hx => absurd hx (by simp), fun x _ hx h hh => ?_⟩, ⟨0, by omega, ?_, ?_⟩, ⟨⟨0, by simp, ?_, fun x hx => absurd hx (by simp)⟩, fun h hh => ⟨0, by simp, ?_, fun x hx => absurd hx (by simp)⟩, fun x hx => absurd hx (by simp)⟩, Or.inl ⟨?_, ?_, ?_, ?_⟩⟩
    · rw [E0 _ _ (by omega)]; exact a3 1 (by omega) (by omega)
    · rw [c3.1 _ _ (by omega)]; exact b45
    · rw [E0 _ _ (by omega)]; exact a3 2 (by omega) (by omega)
    · rw [c3.1 _ _ (by omega)]; exact b46
    · exact E6
    · rw [c3.1 _ _ (by omega)]; exact b12
    · rw [E0 _ _ (by omega)]; exact a3 3 (by omega) (by omega)
    · rw [c3.1 _ _ (by omega)]; exact b47
    · rw [E0 _ _ (by omega)]; exact a3 4 (by omega) (by omega)
    · rw [c3.1 _ _ (by omega)]; exact b48
    · rw [E0 _ _ (by omega)]; exact a2
    · rw [c3.1 _ _ (by omega)]; exact b50
    · rw [E0 _ _ (by omega)]; exact a4 x hx
    · rw [E0 _ _ (by omega)]; exact a5 _ (by omega)
    · exact E7
    · rw [c3.1 _ _ (by omega)]; exact b49
    · exact E8
    · rw [E0 _ _ (by omega)]; exact a6 h hh
    · rw [c3.1 _ _ (by omega)]; exact b58
    · rw [E0 _ _ (by omega)]; exact a7
    · rw [E0 _ _ (by omega)]; exact a8
    · rw [c3.1 _ _ (by omega)]; exact b22
  obtain ⟨G, R, g1, g2, g3, g4⟩ := lines_loop (k68 := (fun (σ8 : St_) => ((mX1_settle d σ8).bind fun σ9 => (some (true, σ9))))) hd 1701 FU 0 0 _ E C FU [] [] [] 0 0 (by omega) (by unfold FU; omega) (by unfold FU; omega) (by omega) bo dr (by rw [c3.1 _ _ (by omega), b57]; rfl) (fun _ => by rw [c3.1 _ _ (by omega)]; exact b56)
  have eqC : ((mX10_split 3 σ).bind fun s => mX4_read 1 d s) = mX4_read_L21 1 d (fun (σ8 : St_) => ((mX1_settle d σ8).bind fun σ9 => (some (true, σ9)))) FU (nI 0) E := by
    rw [s1, obs_eq]
    unfold mX4_read
    simp only [bnd_eq]
    rw [a1, obs_eq, hE]
    rfl
  rw [eqC]
  refine ⟨G, R, by rw [b0, c1, obs_eq]; exact g1, by rw [g3 _ _ (by omega), c3.1 _ _ (by omega)]; exact b1, fun e j w => by rw [g2 e j (by omega), EC e j (by omega), s8 e j (by omega)], fun e j w => by rw [g3 e j (by omega), c3.1 e j (by omega), bF e j (by omega)], g4⟩
/-! what is not told dear is worth the same to all -/
theorem settle_loop {k39 : St_ → Option St_} : ∀ r m i (σ : St_), i + r = 90 → r < m → ∃ Z, mX1_settle_L2 d k39 m (nI i) σ = k39 Z ∧ ∀ e j, Z.1 e j = if e = d + 8 ∧ i ≤ j ∧ j < 90 ∧ σ.1 (d + 8) j = -1 then σ.1 (d + 3) (j % 10) else σ.1 e j
  | 0, m, i, σ, hi, hm => by
    obtain ⟨m, rfl, -⟩ := fu_suc hm
    refine ⟨σ, ?_, fun e j => by rw [if_neg (by omega)]⟩
    unfold mX1_settle_L2
    rw [if_pos (show (90 : Int32) ≤ nI i from nI_le (a := 90) (by omega) (by omega))]
  | r + 1, m, i, σ, hi, hm => by
    obtain ⟨m, rfl, hm⟩ := fu_suc hm
    have e10 : nI i - nI i / (10 : Int32) * (10 : Int32) = nI (i % 10) := nI_rem (b := 10) (by omega) (by omega)
    have m10 : i % 10 < 10 := Nat.mod_lt _ (by omega)
    by_cases q : σ.1 (d + 8) i = -1
    · generalize hA : sI σ (d + 8) i (σ.1 (d + 3) (i % 10)) = A
      have A0 : ∀ e j, ¬ (e = d + 8 ∧ j = i) → A.1 e j = σ.1 e j := fun e j w => by rw [← hA, sI_get, if_neg w]
      have Ai : A.1 (d + 8) i = σ.1 (d + 3) (i % 10) := by rw [← hA, sI_get, if_pos ⟨rfl, rfl⟩]
      obtain ⟨Z, z1, z2⟩ := settle_loop (k39 := k39) r m (i + 1) A (by omega) (by omega)
      refine ⟨Z, ?_, fun e j => ?_⟩
      · conv => lhs; unfold mX1_settle_L2
        simp only [bnd_eq]
        rw [if_neg (show ¬ (90 : Int32) ≤ nI i from nI_ge (b := 90) (by omega) (by omega)), binn (show i < 90 by omega) (by omega), if_pos rfl, pn_cl (show i < 2 ^ 31 by omega), if_pos q, e10, binn m10 (by omega), if_pos rfl, if_pos rfl, pn_cl (show i % 10 < 2 ^ 31 by omega), nI_1, hA, z1]
      · by_cases w : e = d + 8 ∧ j = i
        · obtain ⟨rfl, rfl⟩ := w
          rw [z2, if_neg (by omega), Ai, if_pos ⟨rfl, by omega, by omega, q⟩]
        · by_cases w3 : e = d + 8 ∧ i + 1 ≤ j ∧ j < 90 ∧ σ.1 (d + 8) j = -1
          · rw [z2, if_pos ⟨w3.1, w3.2.1, w3.2.2.1, by rw [A0 _ _ (by omega)]; exact w3.2.2.2⟩, A0 _ _ (by omega), if_pos ⟨w3.1, by omega, w3.2.2⟩]
          · rw [z2, if_neg (fun z => w3 ⟨z.1, z.2.1, z.2.2.1, by rw [← A0 (d + 8) j (by omega)]; exact z.2.2.2⟩), A0 e j w, if_neg (fun z => w3 ⟨z.1, by omega, z.2.2⟩)]
    · obtain ⟨Z, z1, z2⟩ := settle_loop (k39 := k39) r m (i + 1) σ (by omega) (by omega)
      refine ⟨Z, ?_, fun e j => ?_⟩
      · conv => lhs; unfold mX1_settle_L2
        simp only [bnd_eq]
        rw [if_neg (show ¬ (90 : Int32) ≤ nI i from nI_ge (b := 90) (by omega) (by omega)), binn (show i < 90 by omega) (by omega), if_pos rfl, pn_cl (show i < 2 ^ 31 by omega), if_neg q, nI_1, z1]
      · rw [z2]
        by_cases w3 : e = d + 8 ∧ i + 1 ≤ j ∧ j < 90 ∧ σ.1 (d + 8) j = -1
        · rw [if_pos w3, if_pos ⟨w3.1, by omega, w3.2.2⟩]
        · rw [if_neg w3, if_neg (fun z => w3 ⟨z.1, by
            by_cases ji : j = i
            · rw [ji] at z; exact absurd z.2.2.2 q
            · omega, z.2.2⟩)]
theorem settle_ok (d : Nat) (σ : St_) : ∃ Z, mX1_settle d σ = some Z ∧ (∀ j, j < 90 → Z.1 (d + 8) j = if σ.1 (d + 8) j = -1 then σ.1 (d + 3) (j % 10) else σ.1 (d + 8) j) ∧ (∀ j, j < 50 → Z.1 (d + 9) j = Z.1 (d + 8) j) ∧ ∀ e j, ¬ (e = d + 8 ∨ e = d + 9) → Z.1 e j = σ.1 e j := by
  have c1 : cpok (0 : Int32) (0 : Int32) (50 : Int32) 90 50 = true := by decide
  obtain ⟨Z, z1, z2⟩ := settle_loop (d := d) (k39 := (fun (σ8 : St_) => (if cpok (0 : Int32) (0 : Int32) (50 : Int32) 90 50 = true then bnd (cpI σ8 (d + 8) (d + 9) (0 : Int32) (0 : Int32) (50 : Int32)) fun σ9 => (some σ9) else none))) 90 FU 0 σ (by omega) (by unfold FU; omega)
  rw [show nI 0 = (0 : Int32) from rfl] at z1
  have g : ∀ e j, (cpI Z (d + 8) (d + 9) (0 : Int32) (0 : Int32) (50 : Int32)).1 e j = if e = d + 9 ∧ j < 50 then Z.1 (d + 8) j else Z.1 e j := fun e j => cpI_get Z (d + 8) (d + 9) 50 (by omega) e j
  have zz : ∀ j, j < 90 → Z.1 (d + 8) j = if σ.1 (d + 8) j = -1 then σ.1 (d + 3) (j % 10) else σ.1 (d + 8) j := fun j hj => by
    rw [z2]
    by_cases q : σ.1 (d + 8) j = -1
    · rw [if_pos ⟨rfl, by omega, hj, q⟩, if_pos q]
    · rw [if_neg (fun w => q w.2.2.2), if_neg q]
  refine ⟨cpI Z (d + 8) (d + 9) (0 : Int32) (0 : Int32) (50 : Int32), ?_, fun j hj => ?_, fun j hj => ?_, fun e j w => ?_⟩
  · unfold mX1_settle
    rw [z1, c1, if_pos rfl, bnd_eq]
  · rw [g, if_neg (by omega)]; exact zz j hj
  · rw [g, g, if_pos ⟨rfl, hj⟩, if_neg (by omega)]
  · rw [g, if_neg (by omega), z2, if_neg (by omega)]
/-- the class' first state -/
theorem begin_ok (d : Nat) (hd : 12 ≤ d) (hd2 : d + 15 < 44) (σ : St_) : ∃ Z, mX8_begin 44 d σ = some Z ∧ (∀ j, j < 9 → Z.1 45 j = σ.1 (d + 10) j) ∧ (∀ j, j < 4 → Z.1 46 j = 0) ∧ Z.1 44 2 = 0 ∧ Z.1 44 3 = 0 ∧ Z.1 44 4 = 0 ∧ ∀ e j, ¬ (44 ≤ e ∧ e ≤ 46) → Z.1 e j = σ.1 e j := by
  have c1 : cpok (0 : Int32) (0 : Int32) (9 : Int32) 9 9 = true := by decide
  have g : ∀ e j, (cpI σ (d + 10) (44 + 1) (0 : Int32) (0 : Int32) (9 : Int32)).1 e j = if e = 45 ∧ j < 9 then σ.1 (d + 10) j else σ.1 e j := fun e j => cpI_get σ (d + 10) 45 9 (by omega) e j
  obtain ⟨C, k1, k2, -⟩ := fill_ok (44 + 2) 4 0 (by omega) (cpI σ (d + 10) (44 + 1) (0 : Int32) (0 : Int32) (9 : Int32))
  generalize hE : sI (sI (sI C 44 2 0) 44 3 0) 44 4 0 = E
  have E0 : ∀ e j, ¬ e = 44 → E.1 e j = C.1 e j := fun e j w => by rw [← hE, sI_get, if_neg (by omega), sI_get, if_neg (by omega), sI_get, if_neg (by omega)]
  refine ⟨E, ?_, fun j hj => ?_, fun j hj => ?_, ?_, ?_, ?_, fun e j w => ?_⟩
  · unfold mX8_begin
    simp only [bnd_eq]
    rw [c1, if_pos rfl, k1, obs_eq, hE]
  · rw [E0 _ _ (by omega), k2, if_neg (by omega), g, if_pos ⟨rfl, hj⟩]
  · rw [E0 _ _ (by omega), k2, if_pos ⟨rfl, hj⟩]
  · rw [← hE]; simp [sI_get]
  · rw [← hE]; simp [sI_get]
  · rw [← hE]; simp [sI_get]
  · rw [E0 _ _ (by omega), k2, if_neg (by omega), g, if_neg (by omega)]
end STARTR
