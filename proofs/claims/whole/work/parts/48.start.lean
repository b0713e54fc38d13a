section
variable {l : Launch} {D : va_G} {cA : Nat → ClassId} {h0 : Nat} {ad : Ad_} {b L : Nat} {xs : Nat → Int32} {sh : Sh_} {P : Px_} {σ : St_} {pc : Nat} {lv : List (Nat × Value)} {st : List Value}
variable {n cells slots : Nat} {ρ : Rh_}
def Lk (l : Launch) (D : va_G) (cA : Nat → ClassId) (h0 : Nat) (ad : Ad_) (b L : Nat) (xs : Nat → Int32) (n cells slots : Nat) (ρ : Rh_) (pc : Nat) (lv : List (Nat × Value)) (st : List Value) : Prop :=
  ∀ p e s m below meth c H locs ls, Lc D cA h0 ad b L xs p s m meth c → va_P D CL (xw h0 cA (SHL.take n) ρ.1 ρ.2) H → H.size = h0 + n → va_S (fun q => h0 ≤ q) s.heap H locs → lv_has ls 4 lv →
    W p l e room_1 s m #[Value.ref b] below meth c H locs cells slots (lw_Z below #[Value.ref b] s) (F0 m pc ls st)
theorem lk_new {q ix ci N : Nat} {C : String} {T : u_T} {ty0 : Nat → FieldType} (hc : CL[ci]? = some (C, T, N)) (hin : ∀ w ∈ u_ws C T N, w ∈ TB) (hT : Tok T N ty0) (hdv : ∀ j, j < N → defaultValue (ty0 j) = dv ((FKL.getD ci []).getD j 0)) (hN : (FKL.getD ci []).length = N) (hsn : SHL[n]? = some (0, ci)) (w1 : Cond.classLink RL ix C ∈ TB) (w2 : Cond.instantiable C N ∈ TB) (w3 : Cond.initialized C ∈ TB) (hcl : cells + 1 ≤ 600000) (hsl : slots + N ≤ 7302249) (hd : decode cL_law pc = .ok (.new ix, 3)) (hq : pc + 3 = q) (kk : Lk l D cA h0 ad b L xs (n + 1) (cells + 1) (slots + N) (nwR ρ n) q lv (.ref (h0 + n) :: st)) : Lk l D cA h0 ad b L xs n cells slots ρ pc lv st := by
  subst hq
  intro p e s m below meth c H locs ls C hP hsz hS hl
  have hKn := C.2.1.1 ci _ hc
  refine W.newcK (g := F0 m pc ls st) C.1.1 C.1.2.1 C.own (C.hts _ w1) (C.hts _ w2) (C.hts _ w3) rfl hd hcl hsl hKn.2.1 hsz (fun H1 kC hkC e1 z1 o1 => ?_)
  refine kk p e s m below meth c H1 locs ls C (xw_grow hsn hP o1 ⟨_, hc, (u_born ty0 C.hts hin hKn hkC e1 hT.1).to (fun j hj => ?_)⟩) (by rw [z1]; omega) ⟨Nat.le_trans hS.1 (by omega), fun x h1 h2 => (o1 x (by rw [← hsz]; exact Nat.lt_of_lt_of_le h1 hS.1)).trans (hS.2.1 x h1 h2), hS.2.2⟩ hl
  rw [xo_new (by rw [hN]; exact hj)]
  exact hdv j hj
theorem lk_dup {q : Nat} {v : Value} (hd : decode cL_law pc = .ok (.dup, 1)) (hq : pc + 1 = q) (hv : v.category = 1) (k : Lk l D cA h0 ad b L xs n cells slots ρ q lv (v :: v :: st)) : Lk l D cA h0 ad b L xs n cells slots ρ pc lv (v :: st) := by
  subst hq
  exact fun p e s m below meth c H locs ls C hP hz hS hl => lv_dup C.1.1 C.1.2.1 hd hv (k p e s m below meth c H locs ls C hP hz hS hl)
theorem lk_astore_n {q i x : Nat} {k : Fin 4} {lv' : List (Nat × Value)} (hd : decode cL_law pc = .ok (.astore_n k, 1)) (hq : pc + 1 = q) (hi : (k : Nat) = i) (hn : i < 4) (hs : (i, Value.ref x) :: lv.filter (fun q => !(q.1 == i) && !(q.1 + 1 == i && q.2.category == 2)) = lv') (kk : Lk l D cA h0 ad b L xs n cells slots ρ q lv' st) : Lk l D cA h0 ad b L xs n cells slots ρ pc lv (Value.ref x :: st) := by
  subst hq
  exact fun p e s m below meth c H locs ls C hP hz hS hl => lv_astore_n C.1.1 C.1.2.1 hd hi hl hn hs (fun ls hl => kk p e s m below meth c H locs ls C hP hz hS hl)
theorem lk_istore_n {q i : Nat} {x : Int32} {k : Fin 4} {lv' : List (Nat × Value)} (hd : decode cL_law pc = .ok (.istore_n k, 1)) (hq : pc + 1 = q) (hi : (k : Nat) = i) (hn : i < 4) (hs : (i, Value.int x) :: lv.filter (fun q => !(q.1 == i) && !(q.1 + 1 == i && q.2.category == 2)) = lv') (kk : Lk l D cA h0 ad b L xs n cells slots ρ q lv' st) : Lk l D cA h0 ad b L xs n cells slots ρ pc lv (Value.int x :: st) := by
  subst hq
  exact fun p e s m below meth c H locs ls C hP hz hS hl => lv_istore_n C.1.1 C.1.2.1 hd hi hl hn hs (fun ls hl => kk p e s m below meth c H locs ls C hP hz hS hl)
theorem lk_iconst {q : Nat} {n0 : Int} {v : Int32} (hd : decode cL_law pc = .ok (.iconst n0, 1)) (hq : pc + 1 = q) (hv : Int32.ofInt n0 = v) (k : Lk l D cA h0 ad b L xs n cells slots ρ q lv (.int v :: st)) : Lk l D cA h0 ad b L xs n cells slots ρ pc lv st := by
  subst hq
  exact fun p e s m below meth c H locs ls C hP hz hS hl => lv_iconst C.1.1 C.1.2.1 hd hv (k p e s m below meth c H locs ls C hP hz hS hl)
theorem lk_call {n' h' mc' ms' nL' ix v q : Nat} {y : MethodName} {cc' : ByteArray} {ρ' : Rh_} (hI : Ic RL ix y cc' nL') (hnl : n' ≤ 280) (hR : Rj l D cA h0 ad y cc' nL' none true h' mc' ms' (fun _ : Unit => (none, SHL.take n', ρ'.1, ρ'.2)) [.ref (h0 + v)] (SHL.take n) ρ.1 ρ.2 (some ())) (hn0 : n ≤ 280) (hh : h' ≤ 100) (hf : cells + mc' ≤ 600000 ∧ slots + ms' ≤ 7302249) (hW : (st.map fun v => v.category).sum ≤ 8) (hd : decode cL_law pc = .ok (.invokespecial ix, 3)) (hq : pc + 3 = q) (kk : Lk l D cA h0 ad b L xs n' (cells + mc') (slots + ms') ρ' q lv st) : Lk l D cA h0 ad b L xs n cells slots ρ pc lv (.ref (h0 + v) :: st) := by
  subst hq
  intro p e s m below meth c H locs ls C hP hz hS hl
  obtain ⟨i1, i2, i4, i5, i8, i6, i7⟩ := hI
  have hl280 : SHL.length = 280 := by decide +kernel
  have hPx : ∀ U : State, U.heap = H → s.WarmedH U.vm → va_Pc [.ref (h0 + v)] (Px D cA h0 ad true (SHL.take n) ρ.1 ρ.2) ([.ref (h0 + v)] : List Value).toArray U := fun U hU hW =>
    ⟨rfl, by rw [hU]; exact hP, fun _ => by rw [hU, hz, List.length_take]; omega, by rw [hU, hz]; omega, va_K.moved hW.alike C.2.1, C.2.2.2.go hW (fun a ha hn => by rw [hU]; exact hS.2.1 a ha hn)⟩
  have hr : va_Run p l e room_1 s m #[Value.ref b] below meth c H locs cells slots mc' ms' (F0 m pc ls (.ref (h0 + v) :: st)) st (Qx D cA h0 true (none, SHL.take n', ρ'.1, ρ'.2) #[]) (fun q => h0 ≤ q) := by
    have hroom : (rmx h' mc' ms').frames + 1 ≤ room_1.frames ∧ 8 + (nL' + 11) + (rmx h' mc' ms').locals ≤ room_1.locals := ⟨by show h' + 1 ≤ 2048; omega, by show 8 + (nL' + 11) + 40 * h' ≤ 84000; omega⟩
    rcases i1 with i1 | ⟨host, i1⟩
    · exact va_runI (As := []) (rest := st) (Ts := TB) ⟨C.1.1, C.1.2.1, C.1.2.2.2.1, C.own, C.hts⟩ (hR () rfl) ⟨callB_of 0 C.hts (tb_in i5) rfl rfl rfl (C.hts _ i4) (C.hts _ i1) i6 hroom, i8, C.hts _ i2⟩ ⟨Px.blind, hPx⟩ rfl rfl hl.1 rfl (lv_room hW) hd hf
    · exact va_runIN (As := []) (rest := st) (Ts := TB) ⟨C.1.1, C.1.2.1, C.1.2.2.2.1, C.own, C.hts⟩ (hR () rfl) ⟨va_cnB 0 C.hts (tb_in i5) rfl rfl rfl (C.2.2.2.2.2.2.2.2.1 _ i1) (C.hts _ i4) i6 hroom, i8, C.hts _ i2⟩ ⟨Px.blind, hPx⟩ rfl rfl hl.1 rfl (lv_room hW) hd hf
  intro T hT X
  obtain ⟨w, st₀, t, T', Lo, g0, X', hL, e1, e2, ⟨hv, hp1, hz1, hF1, hF2⟩, go⟩ := hr T hT X
  cases hv
  rw [g0] at hF1 hF2
  obtain ⟨t2, a1, b1⟩ := kk p e s m below meth c T'.heap (locs ++ Lo) ls C (by rw [e1]; exact hp1) (by rw [e1, hz1 rfl, List.length_take]; omega) ⟨Nat.le_trans hS.1 (by rw [e1]; exact hF1), fun q h1 h2 => by rw [e1, hF2 q (Nat.lt_of_lt_of_le h1 hS.1) h2]; exact hS.2.1 q h1 h2, fun q hq => by
    rcases List.mem_append.mp hq with h | h
    · exact hS.2.2 q h
    · exact hL q h⟩ hl T' rfl X'
  exact ⟨t2, go t2 a1, b1⟩
theorem lk_lj (hn : n = 280) (hc : cells = 280) (hs : slots = 48760) (k : Lj l D cA h0 ad b L xs SHL ρ.1 ρ.2 pc lv st) : Lk l D cA h0 ad b L xs n cells slots ρ pc lv st := by
  subst hn
  subst hc
  subst hs
  have e0 : SHL.take 280 = SHL := by decide +kernel
  intro p e s m below meth c H locs ls C hP hz hS hl
  rw [e0] at hP
  exact k p e s m below meth c H locs ls C hP hS hl
theorem wnL_7 : Cond.classLink RL 7 RX11 ∈ TB := tbm 156 (by decide +kernel) (by decide +kernel)
theorem wnL2_11 : Cond.instantiable RX11 16 ∈ TB := tbm 157 (by decide +kernel) (by decide +kernel)
theorem wnL3_11 : Cond.initialized RX11 ∈ TB := tbm 134 (by decide +kernel) (by decide +kernel)
theorem wnL_10 : Cond.classLink RL 10 RX12 ∈ TB := tbm 1409 (by decide +kernel) (by decide +kernel)
theorem wnL2_12 : Cond.instantiable RX12 91 ∈ TB := tbm 1410 (by decide +kernel) (by decide +kernel)
theorem wnL3_12 : Cond.initialized RX12 ∈ TB := tbm 146 (by decide +kernel) (by decide +kernel)
theorem wK_0 : Cond.instantiable RX0 4 ∈ TB := tbm 409 (by decide +kernel) (by decide +kernel)
theorem wK_1 : Cond.instantiable RX1 16 ∈ TB := tbm 255 (by decide +kernel) (by decide +kernel)
theorem wK_2 : Cond.instantiable RX2 1 ∈ TB := tbm 171 (by decide +kernel) (by decide +kernel)
theorem wK_3 : Cond.instantiable RX3 6 ∈ TB := tbm 261 (by decide +kernel) (by decide +kernel)
theorem wK_4 : Cond.instantiable RX4 10 ∈ TB := tbm 165 (by decide +kernel) (by decide +kernel)
theorem wK_5 : Cond.instantiable RX5 15 ∈ TB := tbm 433 (by decide +kernel) (by decide +kernel)
theorem wK_6 : Cond.instantiable RX6 5 ∈ TB := tbm 546 (by decide +kernel) (by decide +kernel)
theorem wK_7 : Cond.instantiable RX7 9 ∈ TB := tbm 576 (by decide +kernel) (by decide +kernel)
theorem wK_8 : Cond.instantiable RX8 5 ∈ TB := tbm 374 (by decide +kernel) (by decide +kernel)
theorem wK_9 : Cond.instantiable RX9 10 ∈ TB := tbm 493 (by decide +kernel) (by decide +kernel)
theorem wK_10 : Cond.instantiable RX10 9 ∈ TB := tbm 177 (by decide +kernel) (by decide +kernel)
theorem wK_11 : Cond.instantiable RX11 16 ∈ TB := tbm 157 (by decide +kernel) (by decide +kernel)
theorem wK_12 : Cond.instantiable RX12 91 ∈ TB := tbm 1410 (by decide +kernel) (by decide +kernel)
theorem wkL_11 : Ic RL 9 yX11_init cX11_init 2 := ⟨Or.inl (tbm 158 (by decide +kernel) (by decide +kernel)), tbm 159 (by decide +kernel) (by decide +kernel), tbm 134 (by decide +kernel) (by decide +kernel), tbm 160 (by decide +kernel) (by decide +kernel), rfl, by decide +kernel, by decide⟩
theorem wkL_12 : Ic RL 12 yX12_init cX12_init 2 := ⟨Or.inl (tbm 1411 (by decide +kernel) (by decide +kernel)), tbm 1412 (by decide +kernel) (by decide +kernel), tbm 146 (by decide +kernel) (by decide +kernel), tbm 1413 (by decide +kernel) (by decide +kernel), rfl, by decide +kernel, by decide⟩
theorem nest_in : ∀ q ∈ NW, Cond.methodLinkNest q.1 q.2.1 q.2.2.1 q.2.2.2 ∈ lw_tbl := by decide +kernel
/-- the start's texts and statics -/
def tmS (i : Nat) : Term := if i = 0 then .string "BetterThieves$Tokens" 61 else .string "BetterThieves$Tokens" 76
def flN : List Cond := flatC (Jvm.Cond.and given_1 narrow_1)
theorem fl_a : ∀ j, j < 11 → flN[217 + j]? = some (Cond.eq (.elem (.field (.string "BetterThieves$Tokens" 61) "java/lang/String" "value" "[B") (.int (Int32.ofNat j))) (.int ((SBYT.getD 0 []).getD j 0))) := by decide +kernel
theorem fl_b0 : ∀ j, j < 25 → flN[13 + j]? = some (Cond.eq (.elem (.field (.string "BetterThieves$Tokens" 76) "java/lang/String" "value" "[B") (.int (Int32.ofNat (0 + j)))) (.int ((SBYT.getD 1 []).getD (0 + j) 0))) := by decide +kernel
theorem fl_b1 : ∀ j, j < 25 → flN[38 + j]? = some (Cond.eq (.elem (.field (.string "BetterThieves$Tokens" 76) "java/lang/String" "value" "[B") (.int (Int32.ofNat (25 + j)))) (.int ((SBYT.getD 1 []).getD (25 + j) 0))) := by decide +kernel
theorem fl_b2 : ∀ j, j < 25 → flN[63 + j]? = some (Cond.eq (.elem (.field (.string "BetterThieves$Tokens" 76) "java/lang/String" "value" "[B") (.int (Int32.ofNat (50 + j)))) (.int ((SBYT.getD 1 []).getD (50 + j) 0))) := by decide +kernel
theorem fl_b3 : ∀ j, j < 25 → flN[88 + j]? = some (Cond.eq (.elem (.field (.string "BetterThieves$Tokens" 76) "java/lang/String" "value" "[B") (.int (Int32.ofNat (75 + j)))) (.int ((SBYT.getD 1 []).getD (75 + j) 0))) := by decide +kernel
theorem fl_b4 : ∀ j, j < 25 → flN[113 + j]? = some (Cond.eq (.elem (.field (.string "BetterThieves$Tokens" 76) "java/lang/String" "value" "[B") (.int (Int32.ofNat (100 + j)))) (.int ((SBYT.getD 1 []).getD (100 + j) 0))) := by decide +kernel
theorem fl_b5 : ∀ j, j < 25 → flN[138 + j]? = some (Cond.eq (.elem (.field (.string "BetterThieves$Tokens" 76) "java/lang/String" "value" "[B") (.int (Int32.ofNat (125 + j)))) (.int ((SBYT.getD 1 []).getD (125 + j) 0))) := by decide +kernel
theorem fl_b6 : ∀ j, j < 25 → flN[163 + j]? = some (Cond.eq (.elem (.field (.string "BetterThieves$Tokens" 76) "java/lang/String" "value" "[B") (.int (Int32.ofNat (150 + j)))) (.int ((SBYT.getD 1 []).getD (150 + j) 0))) := by decide +kernel
theorem fl_b7 : ∀ j, j < 25 → flN[188 + j]? = some (Cond.eq (.elem (.field (.string "BetterThieves$Tokens" 76) "java/lang/String" "value" "[B") (.int (Int32.ofNat (175 + j)))) (.int ((SBYT.getD 1 []).getD (175 + j) 0))) := by decide +kernel
theorem fl_b {j : Nat} (hj : j < 200) : Cond.eq (.elem (.field (.string "BetterThieves$Tokens" 76) "java/lang/String" "value" "[B") (.int (Int32.ofNat j))) (.int ((SBYT.getD 1 []).getD j 0)) ∈ flN := by
  by_cases h0 : j < 25
  · have := fl_b0 (j - 0) (by omega)
    rw [show 0 + (j - 0) = j by omega] at this
    exact List.mem_of_getElem? this
  by_cases h1 : j < 50
  · have := fl_b1 (j - 25) (by omega)
    rw [show 25 + (j - 25) = j by omega] at this
    exact List.mem_of_getElem? this
  by_cases h2 : j < 75
  · have := fl_b2 (j - 50) (by omega)
    rw [show 50 + (j - 50) = j by omega] at this
    exact List.mem_of_getElem? this
  by_cases h3 : j < 100
  · have := fl_b3 (j - 75) (by omega)
    rw [show 75 + (j - 75) = j by omega] at this
    exact List.mem_of_getElem? this
  by_cases h4 : j < 125
  · have := fl_b4 (j - 100) (by omega)
    rw [show 100 + (j - 100) = j by omega] at this
    exact List.mem_of_getElem? this
  by_cases h5 : j < 150
  · have := fl_b5 (j - 125) (by omega)
    rw [show 125 + (j - 125) = j by omega] at this
    exact List.mem_of_getElem? this
  by_cases h6 : j < 175
  · have := fl_b6 (j - 150) (by omega)
    rw [show 150 + (j - 150) = j by omega] at this
    exact List.mem_of_getElem? this
  by_cases h7 : j < 200
  · have := fl_b7 (j - 175) (by omega)
    rw [show 175 + (j - 175) = j by omega] at this
    exact List.mem_of_getElem? this
  omega
theorem Ev_start {s : State} {b : Nat} (hts : ∀ w ∈ lw_tbl, w.before #[Value.ref b] s = true) (hgv : (Jvm.Cond.and given_1 narrow_1).before #[Value.ref b] s = true) : ∃ ad : Ad_, Ev s.heap.size ad s := by
  have hs := flat_of_before _ hgv
  have hA : ∀ a : Nat, a < s.heap.size → ¬ (fun q => s.heap.size ≤ q) a := fun a h => Nat.not_le.mpr h
  obtain ⟨adK, adV, hS, hE⟩ := vk_Sof (args := #[Value.ref b]) (s := s) (N := 2) (tm := tmS) (len := SLEN) (byt := SBYT) (A := fun q => s.heap.size ≤ q)
    (by decide +kernel)
    (fun i hi => hs _ ((by decide +kernel : ∀ i, i < 2 → Cond.exactly (tmS i) "java/lang/String" ∈ _) i hi))
    (fun i hi => hs _ ((by decide +kernel : ∀ i, i < 2 → Cond.eq (.field (tmS i) "java/lang/String" "coder" "B") (.int 0) ∈ _) i hi))
    (fun i hi => hs _ ((by decide +kernel : ∀ i, i < 2 → Cond.arrayOf (.field (tmS i) "java/lang/String" "value" "[B") .byte ∈ _) i hi))
    (fun i hi => hs _ ((by decide +kernel : ∀ i, i < 2 → Cond.eq (.length (.field (tmS i) "java/lang/String" "value" "[B")) (.int (Int32.ofNat (SLEN.getD i 0))) ∈ _) i hi))
    (fun i hi j hj => by
      match i, hi, hj with
      | 0, _, hj => exact hs _ (List.mem_of_getElem? (fl_a j hj))
      | 1, _, hj => exact hs _ (fl_b hj))
    (fun i j hi hj hne => by
      have hn : (Cond.not (Cond.eq (.string "BetterThieves$Tokens" 76) (.string "BetterThieves$Tokens" 61))).before #[Value.ref b] s = true := hs _ (List.mem_of_getElem? (l := flN) (i := 228) (by decide +kernel))
      match i, j, hi, hj, hne with
      | 0, 0, _, _, hne => exact absurd rfl hne
      | 1, 1, _, _, hne => exact absurd rfl hne
      | 0, 1, _, _, _ => exact Or.inr hn
      | 1, 0, _, _, _ => exact Or.inl hn) hA
  refine ⟨(adK, adV), vk_R.of (hts _ (List.mem_of_getElem? (i := 763) (by decide +kernel))) (hE 0 (by decide)), vk_R.of (hts _ (List.mem_of_getElem? (i := 703) (by decide +kernel))) (hE 1 (by decide)), hS, ?_, ?_, fun q hq => va_Nw.of rfl (hts _ (nest_in q hq)), va_AO.of (hts _ (List.mem_of_getElem? (i := 415) (by decide +kernel)))⟩
  · exact va_Zof (hts _ (List.mem_of_getElem? (i := 713) (by decide +kernel))) (hts _ (List.mem_of_getElem? (i := 147) (by decide +kernel))) (va_eqi (hs _ (by decide +kernel))) hA
  · exact va_Zqof (hts _ (List.mem_of_getElem? (i := 733) (by decide +kernel))) (hts _ (List.mem_of_getElem? (i := 149) (by decide +kernel))) (hs _ (by decide +kernel)) hA
theorem K_start {s : State} {args : Array Value} (hts : ∀ w ∈ TB, w.before args s = true) (hov : (Cond.arrayOver (.object "BetterThieves$State")).before args s = true) : ∃ (D : va_G) (cA : Nat → ClassId), va_K D CL (TYS cA) s := by
  obtain ⟨c0, i0, hK0⟩ := u_known (C := RX0) (T := TX0) (N := 4) (n := 4) hts iX0 (hts _ wK_0)
  obtain ⟨c1, i1, hK1⟩ := u_known (C := RX1) (T := TX1) (N := 16) (n := 16) hts iX1 (hts _ wK_1)
  obtain ⟨c2, i2, hK2⟩ := u_known (C := RX2) (T := TX2) (N := 1) (n := 1) hts iX2 (hts _ wK_2)
  obtain ⟨c3, i3, hK3⟩ := u_known (C := RX3) (T := TX3) (N := 6) (n := 6) hts iX3 (hts _ wK_3)
  obtain ⟨c4, i4, hK4⟩ := u_known (C := RX4) (T := TX4) (N := 10) (n := 10) hts iX4 (hts _ wK_4)
  obtain ⟨c5, i5, hK5⟩ := u_known (C := RX5) (T := TX5) (N := 15) (n := 15) hts iX5 (hts _ wK_5)
  obtain ⟨c6, i6, hK6⟩ := u_known (C := RX6) (T := TX6) (N := 5) (n := 5) hts iX6 (hts _ wK_6)
  obtain ⟨c7, i7, hK7⟩ := u_known (C := RX7) (T := TX7) (N := 9) (n := 9) hts iX7 (hts _ wK_7)
  obtain ⟨c8, i8, hK8⟩ := u_known (C := RX8) (T := TX8) (N := 5) (n := 5) hts iX8 (hts _ wK_8)
  obtain ⟨c9, i9, hK9⟩ := u_known (C := RX9) (T := TX9) (N := 10) (n := 10) hts iX9 (hts _ wK_9)
  obtain ⟨c10, i10, hK10⟩ := u_known (C := RX10) (T := TX10) (N := 9) (n := 9) hts iX10 (hts _ wK_10)
  obtain ⟨c11, i11, hK11⟩ := u_known (C := RX11) (T := TX11) (N := 16) (n := 16) hts iX11 (hts _ wK_11)
  obtain ⟨c12, i12, hK12⟩ := u_known (C := RX12) (T := TX12) (N := 91) (n := 91) hts iX12 (hts _ wK_12)
  obtain ⟨a1, k1, m1, f1, g1, t1⟩ := Cond.arrayClass_spec (hts (.arrayClass .int) wa_int)
  obtain ⟨a2, k2, m2, f2, g2, t2⟩ := Cond.arrayClass_spec (hts (.arrayClass .long) wa_long)
  obtain ⟨a3, k3, m3, f3, g3, t3⟩ := Cond.arrayClass_spec (hts (.arrayClass .boolean) wa_boolean)
  obtain ⟨m4, a4, k4, f4, -, g4, t4, u4⟩ := Cond.arrayOver_spec hov
  refine ⟨(fun k => [c0, c1, c2, c3, c4, c5, c6, c7, c8, c9, c10, c11, c12].getD k c0, fun k => [i0, i1, i2, i3, i4, i5, i6, i7, i8, i9, i10, i11, i12].getD k i0), fun k => [a1, a1, a2, a3, a4].getD k a1, ?_, ?_⟩
  · intro k q hq
    match k, hq with
    | 0, hq => cases hq; exact hK0
    | 1, hq => cases hq; exact hK1
    | 2, hq => cases hq; exact hK2
    | 3, hq => cases hq; exact hK3
    | 4, hq => cases hq; exact hK4
    | 5, hq => cases hq; exact hK5
    | 6, hq => cases hq; exact hK6
    | 7, hq => cases hq; exact hK7
    | 8, hq => cases hq; exact hK8
    | 9, hq => cases hq; exact hK9
    | 10, hq => cases hq; exact hK10
    | 11, hq => cases hq; exact hK11
    | 12, hq => cases hq; exact hK12
    | k + 13, hq => simp [CL] at hq
  · intro k q hq
    match k, hq with
    | 0, hq => cases hq; exact ⟨fun n z => ⟨fun k h => (by cases h), k1, g1, m1, t1⟩, f1⟩
    | 1, hq => cases hq; exact ⟨fun n z => ⟨fun k h => (by cases h), k2, g2, m2, t2⟩, f2⟩
    | 2, hq => cases hq; exact ⟨fun n z => ⟨fun k h => (by cases h), k3, g3, m3, t3⟩, f3⟩
    | 3, hq => cases hq; exact ⟨fun n z => ⟨fun k h => (by cases h), k4, g4, m4, t4⟩, k4, m4, g4, t4, f4, u4⟩
    | k + 4, hq => simp [TYS] at hq
set_option maxHeartbeats 4000000 in
theorem whole_of {INV : Bool → St_ → Prop} (hst : StepOK INV) (hini : INV false ρI.2) {p : Program} {e : Env} {s : State} {m : MethodId} {below : List Frame} {meth : Method} {c : Code} (l : Launch) {b L : Nat} {xs : Nat → Int32} (hL : L ≤ 3072) (C0 : lw_At p s m meth c b L xs) : W p l e room_1 s m #[Value.ref b] below meth c s.heap [] 0 0 (lw_Z below #[Value.ref b] s) (entryFrame m ([Value.ref b] : List Value).toArray 4) := by
  have hts := C0.2.2.2.2.2.1
  have htb : ∀ w ∈ TB, w.before #[Value.ref b] s = true := fun w hw => hts w (List.mem_filter.mp hw).1
  obtain ⟨D, cA, hK⟩ := K_start htb (hts _ (List.mem_of_getElem? (i := 415) (by decide +kernel)))
  obtain ⟨ad, hE⟩ := Ev_start hts C0.2.2.2.2.2.2.2.2.2
  have hl := lv_entry ([.ref b]) (n := 4) (Nat.le_of_ble_eq_true rfl)
  rw [lg_entry_eq]
  have key : Lk l D cA s.heap.size ad b L xs 0 0 0 ρ0 0 [(0, .ref b)] [] := by
    refine lk_new (q := 3) (ci := 11) rfl iX11 tok_11 dok_11 rfl shl_0 wnL_7 wnL2_11 wnL3_11 (Nat.le_of_ble_eq_true rfl) (Nat.le_of_ble_eq_true rfl) dL_law_0 rfl ?_
    refine lk_dup (q := 4) dL_law_3 rfl rfl ?_
    refine lk_call (q := 7) (n' := 233) (v := 0) wkL_11 (by decide) (k11 (nwR ρ0 0)) (by decide) (by decide) ⟨Nat.le_of_ble_eq_true rfl, Nat.le_of_ble_eq_true rfl⟩ (Nat.le_of_ble_eq_true rfl) dL_law_4 rfl ?_
    refine lk_astore_n (q := 8) dL_law_7 rfl (i := 1) rfl (by decide) rfl ?_
    refine lk_new (q := 11) (ci := 12) rfl iX12 tok_12 dok_12 rfl shl_233 wnL_10 wnL2_12 wnL3_12 (Nat.le_of_ble_eq_true rfl) (Nat.le_of_ble_eq_true rfl) dL_law_8 rfl ?_
    refine lk_dup (q := 12) dL_law_11 rfl rfl ?_
    refine lk_call (q := 15) (n' := 280) (v := 233) wkL_12 (by decide) (k12 _) (by decide) (by decide) ⟨Nat.le_of_ble_eq_true rfl, Nat.le_of_ble_eq_true rfl⟩ (Nat.le_of_ble_eq_true rfl) dL_law_12 rfl ?_
    refine lk_astore_n (q := 16) dL_law_15 rfl (i := 2) rfl (by decide) rfl ?_
    refine lk_iconst (q := 17) (v := 0) dL_law_16 rfl (by decide) ?_
    refine lk_istore_n (q := 18) dL_law_17 rfl (i := 3) rfl (by decide) rfl ?_
    refine lk_lj rfl rfl rfl ?_
    refine lj_lv [3, 2, 1, 0] rfl ?_
    exact law_loop hst hL (L + 12) 0 false ρI.2 (by omega) (by omega) hini
  exact key p e s m below meth c s.heap [] _ ⟨C0, hK, rfl, hE⟩ (fun k q h => by simp [xw] at h) (by omega) va_S.rf hl
end
