def SHL : Sh_ := [(0, 11), (0, 4), (0, 2), (0, 10), (1, 1700), (1, 1701), (1, 1701), (2, 1701), (2, 6), (2, 10), (2, 9), (1, 9), (0, 1), (1, 10), (1, 10), (1, 10), (1, 5), (1, 5), (1, 4), (1, 4), (1, 90), (1, 50), (1, 9), (0, 3), (1, 300), (1, 300), (1, 30), (1, 7), (0, 1), (1, 10), (1, 10), (1, 10), (1, 5), (1, 5), (1, 4), (1, 4), (1, 90), (1, 50), (1, 9), (0, 3), (1, 300), (1, 300), (1, 30), (1, 7), (0, 8), (1, 9), (1, 4), (0, 0), (4, 41), (0, 8), (1, 9), (1, 4), (0, 8), (1, 9), (1, 4), (0, 8), (1, 9), (1, 4), (0, 8), (1, 9), (1, 4), (0, 8), (1, 9), (1, 4), (0, 8), (1, 9), (1, 4), (0, 8), (1, 9), (1, 4), (0, 8), (1, 9), (1, 4), (0, 8), (1, 9), (1, 4), (0, 8), (1, 9), (1, 4), (0, 8), (1, 9), (1, 4), (0, 8), (1, 9), (1, 4), (0, 8), (1, 9), (1, 4), (0, 8), (1, 9), (1, 4), (0, 8), (1, 9), (1, 4), (0, 8), (1, 9), (1, 4), (0, 8), (1, 9), (1, 4), (0, 8), (1, 9), (1, 4), (0, 8), (1, 9), (1, 4), (0, 8), (1, 9), (1, 4), (0, 8), (1, 9), (1, 4), (0, 8), (1, 9), (1, 4), (0, 8), (1, 9), (1, 4), (0, 8), (1, 9), (1, 4), (0, 8), (1, 9), (1, 4), (0, 8), (1, 9), (1, 4), (0, 8), (1, 9), (1, 4), (0, 8), (1, 9), (1, 4), (0, 8), (1, 9), (1, 4), (0, 8), (1, 9), (1, 4), (0, 8), (1, 9), (1, 4), (0, 8), (1, 9), (1, 4), (0, 8), (1, 9), (1, 4), (0, 8), (1, 9), (1, 4), (0, 8), (1, 9), (1, 4), (0, 8), (1, 9), (1, 4), (0, 8), (1, 9), (1, 4), (0, 8), (1, 9), (1, 4), (0, 8), (1, 9), (1, 4), (0, 8), (1, 9), (1, 4), (0, 8), (1, 9), (1, 4), (4, 3), (1, 30), (0, 5), (1, 30), (1, 30), (1, 30), (1, 30), (3, 30), (1, 30), (1, 30), (3, 100), (0, 9), (1, 100), (1, 100), (1, 100), (1, 100), (1, 55), (1, 55), (1, 55), (1, 55), (0, 6), (0, 9), (1, 100), (1, 100), (1, 100), (1, 100), (1, 55), (1, 55), (1, 55), (1, 55), (0, 8), (1, 9), (1, 4), (0, 7), (0, 9), (1, 100), (1, 100), (1, 100), (1, 100), (1, 55), (1, 55), (1, 55), (1, 55), (0, 8), (1, 9), (1, 4), (2, 2000), (1, 2000), (1, 4096), (0, 8), (1, 9), (1, 4), (0, 8), (1, 9), (1, 4), (0, 8), (1, 9), (1, 4), (0, 8), (1, 9), (1, 4), (0, 12), (1, 1700), (2, 32), (1, 9), (1, 320), (1, 320), (1, 320), (1, 320), (1, 160), (1, 64), (1, 7), (1, 10), (1, 10), (1, 10), (1, 10), (1, 5), (1, 5), (1, 4), (1, 4), (1, 90), (1, 10), (1, 10), (1, 10), (1, 10), (1, 5), (1, 5), (1, 4), (1, 4), (1, 90), (1, 20), (1, 10), (1, 800), (1, 32), (1, 20020), (1, 2002), (1, 2002), (1, 10), (1, 30), (1, 30), (1, 30), (1, 30), (1, 30), (1, 30), (3, 30), (3, 100), (3, 3), (1, 60)]
def clP (P : Px_) (n : Nat) : Px_ := fun a => if a = n then (fun _ => none) else P a
def clS (σ : St_) (n : Nat) : St_ := (fun a => if a = n then (fun _ => 0) else σ.1 a, fun a => if a = n then (fun _ => 0) else σ.2 a)
abbrev Rh_ : Type := Px_ × St_
def nwR (ρ : Rh_) (n : Nat) : Rh_ := (clP ρ.1 n, clS ρ.2 n)
def pR (ρ : Rh_) (t k j : Nat) : Rh_ := (up2 ρ.1 t k (some j), ρ.2)
def pI (ρ : Rh_) (t k : Nat) (x : Int32) : Rh_ := (ρ.1, sI ρ.2 t k x)
def dv (kd : Nat) : Value := match kd with
  | 0 => .int 0
  | 1 => .long 0
  | _ => .null
theorem tk_at {n i : Nat} {s : Nat × Nat} (h : SHL[i]? = some s) (hi : i < n) : (SHL.take n)[i]? = some s := by
  rw [List.getElem?_take, if_pos hi]; exact h
theorem tk_len {n : Nat} {s : Nat × Nat} (h : SHL[n]? = some s) : (SHL.take n).length = n := by
  have := (List.getElem?_eq_some_iff.mp h).1
  rw [List.length_take]; omega
theorem tk_len1 {n : Nat} {s : Nat × Nat} (h : SHL[n]? = some s) : (SHL.take (n + 1)).length = n + 1 := by
  have := (List.getElem?_eq_some_iff.mp h).1
  rw [List.length_take]; omega
theorem xf_new {h0 : Nat} {P : Px_} {σ : St_} {n kd k : Nat} : xf h0 (clP P n) (clS σ n) n kd k = dv kd := by
  unfold xf dv
  match kd with
  | 0 => simp [clS]
  | 1 => simp [clS]
  | k + 2 => simp [clP, va_rf]
theorem xo_new {h0 : Nat} {P : Px_} {σ : St_} {n ci j : Nat} (hj : j < (FKL.getD ci []).length) : vp_V (xo h0 (clP P n) (clS σ n) n ci) j = dv ((FKL.getD ci []).getD j 0) := by
  have h0 : ∀ (L : List Nat), j < L.length → L[j]? = some (L.getD j 0) := fun L h => by
    rw [List.getD_eq_getElem?_getD, List.getElem?_eq_getElem h]; rfl
  have h1 := h0 _ hj
  unfold vp_V
  rw [List.getD_eq_getElem?_getD, xo_at h1, xf_new]; rfl
theorem xw_grow {D : va_G} {cA : Nat → ClassId} {h0 n : Nat} {s : Nat × Nat} {P : Px_} {σ : St_} {H H1 : Heap} (hs : SHL[n]? = some s) (hP : va_P D CL (xw h0 cA (SHL.take n) P σ) H) (o1 : ∀ q, q < h0 + n → H1[q]? = H[q]?) (hnew : va_at D CL (h0 + n, xe h0 cA (clP P n) (clS σ n) n s) H1) : va_P D CL (xw h0 cA (SHL.take (n + 1)) (clP P n) (clS σ n)) H1 := by
  intro k q hk
  obtain ⟨s', h1, rfl⟩ := xw_inv hk
  rw [List.getElem?_take] at h1
  by_cases hkn : k < n + 1
  · rw [if_pos hkn] at h1
    by_cases he : k = n
    · subst he
      rw [hs] at h1
      cases h1
      exact hnew
    · have hlt : k < n := by omega
      have h2 := hP k _ (xw_at (tk_at h1 hlt))
      rw [xe_ne (P := P) (σ := σ) (by simp [clS, he]) (by simp [clS, he]) (by simp [clP, he])]
      exact h2.kept (o1 _ (by show h0 + k < h0 + n; omega))
  · rw [if_neg hkn] at h1; cases h1
theorem xw_pR {h0 : Nat} {cA : Nat → ClassId} {sh : Sh_} {P : Px_} {σ : St_} {i ci k j : Nat} (h : sh[i]? = some (0, ci)) (hk : (FKL.getD ci [])[k]? = some 2) : (xw h0 cA sh P σ).set i (h0 + i, .inr (ci, (xo h0 P σ i ci).set k (.ref (h0 + j)))) = xw h0 cA sh (up2 P i k (some j)) σ := by
  refine xw_set (E := .inr (ci, (xo h0 P σ i ci).set k (.ref (h0 + j)))) h ?_ (fun a ha t => xe_ne rfl rfl (up2_ne ha))
  show Sum.inr (ci, xo h0 (up2 P i k (some j)) σ i ci) = _
  rw [xo_set hk (v := .ref (h0 + j)) (P' := up2 P i k (some j)) (σ' := σ) (by simp [xf, up2, va_rf]) (fun a ha kd => by simp [xf, up2, ha])]
theorem xw_aR {h0 : Nat} {cA : Nat → ClassId} {sh : Sh_} {P : Px_} {σ : St_} {i n k j : Nat} (h : sh[i]? = some (4, n)) : (xw h0 cA sh P σ).set i (h0 + i, .inl (cA 4, n, .inr (.inr (.inr (.inr (va_up (fun k => (P i k).map (fun q => h0 + q)) k (some (h0 + j)))))))) = xw h0 cA sh (up2 P i k (some j)) σ := by
  refine xw_set h ?_ (fun a ha t => xe_ne rfl rfl (up2_ne ha))
  show Sum.inl (cA 4, n, Sum.inr (Sum.inr (Sum.inr (Sum.inr (fun b => ((up2 P i k (some j)) i b).map (fun q => h0 + q)))))) = _
  have : (fun b => ((up2 P i k (some j)) i b).map (fun q => h0 + q)) = va_up (fun k => (P i k).map (fun q => h0 + q)) k (some (h0 + j)) := by
    funext b
    by_cases hb : b = k
    · simp [up2, va_up, hb]
    · simp [up2, va_up, hb]
  rw [this]
section CT
variable {β : Type} {l : Launch} {D : va_G} {cA : Nat → ClassId} {h0 : Nat} {ad : Ad_} {own : String} {cc : ByteArray} {nL : Nat} {ret : Option FieldType} {ini : Bool} {h mc ms : Nat} {f : β → Out_} {cells slots : Nat} {sh : Sh_} {P : Px_} {σ : St_} {pc : Nat} {lv : List (Nat × Value)} {st : List Value} {o : Option β}
variable {n : Nat} {ρ : Rh_}
theorem tj_P {P' : Px_} (e : P = P') (k : Tj l D cA h0 ad own cc nL ret ini h mc ms f cells slots sh P' σ pc lv st o) : Tj l D cA h0 ad own cc nL ret ini h mc ms f cells slots sh P σ pc lv st o := e ▸ k
theorem tj_putR {q t ci k N ix j : Nat} {C C0 : String} {T : u_T} {ty0 : Nat → FieldType} (hs : sh[t]? = some (0, ci)) (hF : Fok ci k 2 C T N) (hT : Tok T N ty0) (hG : Fpk T k false (.object C0)) (hw : Cond.fieldLink own ix (T k).1 (T k).2.1 (T k).2.2.1 ∈ TB) (hd : decode cc pc = .ok (.putfield ix, 3)) (hq : pc + 3 = q) (kk : Tj l D cA h0 ad own cc nL ret false h mc ms f cells slots sh (up2 P t k (some j)) σ q lv st o) : Tj l D cA h0 ad own cc nL ret false h mc ms f cells slots sh P σ pc lv (.ref (h0 + j) :: .ref (h0 + t) :: st) o := by
  subst hq
  refine fun b hb p e s m args below meth c H locs ls C hP hz hS hl => va_put (v := .ref (h0 + j)) C.1 C.2.1 C.hts hF.2.1 ty0 hT.1 hT.2 C.own C.K hP xw_D hS t (xw_at hs) hF.1 k hF.2.2.1 (C.hts _ hw) (fun _ h9 => h9) hG.1 hG.2 rfl rfl (by rw [xo_len]; exact (List.getElem?_eq_some_iff.mp hF.2.2.2).1) hd (fun H1 locs1 hP1 hD1 hS1 => ?_)
  have hP1 : va_P D CL ((xw h0 cA sh P σ).set t (h0 + t, .inr (ci, (xo h0 P σ t ci).set k (.ref (h0 + j))))) H1 := hP1
  rw [xw_pR hs hF.2.2.2] at hP1
  exact kk b hb p e s m args below meth c H1 locs1 ls C hP1 (fun h => by cases h) hS1 hl
theorem c_obj {q t ix : Nat} (hw : Cond.methodLink own ix objectInit ∈ TB) (hw2 : Cond.instanceMethod objectInit ∈ TB) (hw3 : Cond.code objectInit ⟨#[0xb1]⟩ 1 none ∈ TB) (hd : decode cc pc = .ok (.invokespecial ix, 3)) (hq : pc + 3 = q) (hh : 1 ≤ h) (hl2 : (st.map fun v => v.category).sum + 12 ≤ 40 * h) (kk : Tj l D cA h0 ad own cc nL ret true h mc ms f cells slots (SHL.take n) (ρ).1 (ρ).2 q lv st o) : Tj l D cA h0 ad own cc nL ret true h mc ms f cells slots (SHL.take n) (ρ).1 (ρ).2 pc lv (.ref (h0 + t) :: st) o := by
  subst hq
  exact fun b hb p e s m args below meth c H locs ls C hP hz hS hl => W.objInit C.1 C.2.1 C.own (C.hts _ hw) (C.hts _ hw2) (C.hts _ hw3) rfl (hl.1.trans C.2.2.2.1.symm) rfl hd hh (by show 2 * 0 + (st.map fun v => v.category).sum + 12 ≤ 40 * h; omega) (kk b hb p e s m args below meth c H locs ls C hP hz hS hl)
theorem c_new {q ix ci N : Nat} {C : String} {T : u_T} {ty0 : Nat → FieldType} (hc : CL[ci]? = some (C, T, N)) (hin : ∀ w ∈ u_ws C T N, w ∈ TB) (hT : Tok T N ty0) (hdv : ∀ j, j < N → defaultValue (ty0 j) = dv ((FKL.getD ci []).getD j 0)) (hN : (FKL.getD ci []).length = N) (hsn : SHL[n]? = some (0, ci)) (w1 : Cond.classLink own ix C ∈ TB) (w2 : Cond.instantiable C N ∈ TB) (w3 : Cond.initialized C ∈ TB) (hcl : cells + 1 ≤ mc) (hsl : slots + N ≤ ms) (hd : decode cc pc = .ok (.new ix, 3)) (hq : pc + 3 = q) (kk : Tj l D cA h0 ad own cc nL ret true h mc ms f (cells + 1) (slots + N) (SHL.take (n + 1)) (nwR ρ n).1 (nwR ρ n).2 q lv (.ref (h0 + n) :: st) o) : Tj l D cA h0 ad own cc nL ret true h mc ms f cells slots (SHL.take n) (ρ).1 (ρ).2 pc lv st o := by
  subst hq
  intro b hb p e s m args below meth c H locs ls C hP hz hS hl
  have hsz : H.size = h0 + n := by rw [hz rfl, tk_len hsn]
  have hKn := C.K.1 ci _ hc
  refine W.newcK (g := F0 m pc ls st) C.1 C.2.1 C.own (C.hts _ w1) (C.hts _ w2) (C.hts _ w3) rfl hd hcl hsl hKn.2.1 hsz (fun H1 kC hkC e1 z1 o1 => ?_)
  refine kk b hb p e s m args below meth c H1 locs ls C (xw_grow hsn hP o1 ⟨_, hc, (u_born ty0 C.hts hin hKn hkC e1 hT.1).to (fun j hj => ?_)⟩) (fun _ => by rw [z1, tk_len1 hsn]; omega) ⟨Nat.le_trans hS.1 (by omega), fun x h1 h2 => (o1 x (by rw [← hsz]; exact Nat.lt_of_lt_of_le h1 hS.1)).trans (hS.2.1 x h1 h2), hS.2.2⟩ hl
  rw [xo_new (by rw [hN]; exact hj)]
  exact hdv j hj
theorem c_newaI {q N : Nat} {x : Int32} (hx : x = Int32.ofNat N) (hN : N < 100000) (hsn : SHL[n]? = some (1, N)) (w1 : Cond.arrayClass .int ∈ TB) (hcl : cells + 1 ≤ mc) (hsl : slots + N ≤ ms) (hd : decode cc pc = .ok (.newarray .int, 2)) (hq : pc + 2 = q) (kk : Tj l D cA h0 ad own cc nL ret true h mc ms f (cells + 1) (slots + N) (SHL.take (n + 1)) (nwR ρ n).1 (nwR ρ n).2 q lv (.ref (h0 + n) :: st) o) : Tj l D cA h0 ad own cc nL ret true h mc ms f cells slots (SHL.take n) (ρ).1 (ρ).2 pc lv (.int x :: st) o := by
  subst hq
  subst hx
  intro b hb p e s m args below meth c H locs ls C hP hz hS hl
  have hsz : H.size = h0 + n := by rw [hz rfl, tk_len hsn]
  have hcN : (Int32.ofNat N).toNatClampNeg = N := Int32.toNatClampNeg_ofNat_of_lt (by omega)
  have hn0 : ¬ Int32.ofNat N < 0 := by
    rw [Int32.lt_iff_toInt_lt, Int32.toInt_ofNat_of_lt (by omega)]
    simp
  refine va_newaK (atype := .int) C.1 C.2.1 (C.hts _ w1) rfl hd rfl hn0 hcN (by show N * _ ≤ _; simp only [componentBytes, newarray.typeOf]; omega) hcl hsl hsz (fun H1 cB e1 z1 o1 hAr hNm => ?_)
  have hcB : cB = cA 1 := Option.some.inj (hNm.symm.trans (C.K.2 0 _ rfl).2)
  subst hcB
  refine kk b hb p e s m args below meth c H1 locs ls C (xw_grow hsn hP o1 ?_) (fun _ => by rw [z1, tk_len1 hsn]; omega) ⟨Nat.le_trans hS.1 (by omega), fun x h1 h2 => (o1 x (by rw [← hsz]; exact Nat.lt_of_lt_of_le h1 hS.1)).trans (hS.2.1 x h1 h2), hS.2.2⟩ hl
  show H1[h0 + n]? = some (vp_cell (cA 1) (N, .inl ((clS ρ.2 n).1 n)))
  rw [e1]
  have : (clS ρ.2 n).1 n = fun _ => 0 := by simp [clS]
  rw [this]
  rfl
theorem c_newaL {q N : Nat} {x : Int32} (hx : x = Int32.ofNat N) (hN : N < 100000) (hsn : SHL[n]? = some (2, N)) (w1 : Cond.arrayClass .long ∈ TB) (hcl : cells + 1 ≤ mc) (hsl : slots + N ≤ ms) (hd : decode cc pc = .ok (.newarray .long, 2)) (hq : pc + 2 = q) (kk : Tj l D cA h0 ad own cc nL ret true h mc ms f (cells + 1) (slots + N) (SHL.take (n + 1)) (nwR ρ n).1 (nwR ρ n).2 q lv (.ref (h0 + n) :: st) o) : Tj l D cA h0 ad own cc nL ret true h mc ms f cells slots (SHL.take n) (ρ).1 (ρ).2 pc lv (.int x :: st) o := by
  subst hq
  subst hx
  intro b hb p e s m args below meth c H locs ls C hP hz hS hl
  have hsz : H.size = h0 + n := by rw [hz rfl, tk_len hsn]
  have hcN : (Int32.ofNat N).toNatClampNeg = N := Int32.toNatClampNeg_ofNat_of_lt (by omega)
  have hn0 : ¬ Int32.ofNat N < 0 := by
    rw [Int32.lt_iff_toInt_lt, Int32.toInt_ofNat_of_lt (by omega)]
    simp
  refine va_newaK (atype := .long) C.1 C.2.1 (C.hts _ w1) rfl hd rfl hn0 hcN (by show N * _ ≤ _; simp only [componentBytes, newarray.typeOf]; omega) hcl hsl hsz (fun H1 cB e1 z1 o1 hAr hNm => ?_)
  have hcB : cB = cA 2 := Option.some.inj (hNm.symm.trans (C.K.2 1 _ rfl).2)
  subst hcB
  refine kk b hb p e s m args below meth c H1 locs ls C (xw_grow hsn hP o1 ?_) (fun _ => by rw [z1, tk_len1 hsn]; omega) ⟨Nat.le_trans hS.1 (by omega), fun x h1 h2 => (o1 x (by rw [← hsz]; exact Nat.lt_of_lt_of_le h1 hS.1)).trans (hS.2.1 x h1 h2), hS.2.2⟩ hl
  show H1[h0 + n]? = some (vp_cell (cA 2) (N, .inr (.inl ((clS ρ.2 n).2 n))))
  rw [e1]
  have : (clS ρ.2 n).2 n = fun _ => 0 := by simp [clS]
  rw [this]
  rfl
theorem c_newaZ {q N : Nat} {x : Int32} (hx : x = Int32.ofNat N) (hN : N < 100000) (hsn : SHL[n]? = some (3, N)) (w1 : Cond.arrayClass .boolean ∈ TB) (hcl : cells + 1 ≤ mc) (hsl : slots + N ≤ ms) (hd : decode cc pc = .ok (.newarray .boolean, 2)) (hq : pc + 2 = q) (kk : Tj l D cA h0 ad own cc nL ret true h mc ms f (cells + 1) (slots + N) (SHL.take (n + 1)) (nwR ρ n).1 (nwR ρ n).2 q lv (.ref (h0 + n) :: st) o) : Tj l D cA h0 ad own cc nL ret true h mc ms f cells slots (SHL.take n) (ρ).1 (ρ).2 pc lv (.int x :: st) o := by
  subst hq
  subst hx
  intro b hb p e s m args below meth c H locs ls C hP hz hS hl
  have hsz : H.size = h0 + n := by rw [hz rfl, tk_len hsn]
  have hcN : (Int32.ofNat N).toNatClampNeg = N := Int32.toNatClampNeg_ofNat_of_lt (by omega)
  have hn0 : ¬ Int32.ofNat N < 0 := by
    rw [Int32.lt_iff_toInt_lt, Int32.toInt_ofNat_of_lt (by omega)]
    simp
  refine va_newaK (atype := .boolean) C.1 C.2.1 (C.hts _ w1) rfl hd rfl hn0 hcN (by show N * _ ≤ _; simp only [componentBytes, newarray.typeOf]; omega) hcl hsl hsz (fun H1 cB e1 z1 o1 hAr hNm => ?_)
  have hcB : cB = cA 3 := Option.some.inj (hNm.symm.trans (C.K.2 2 _ rfl).2)
  subst hcB
  refine kk b hb p e s m args below meth c H1 locs ls C (xw_grow hsn hP o1 ?_) (fun _ => by rw [z1, tk_len1 hsn]; omega) ⟨Nat.le_trans hS.1 (by omega), fun x h1 h2 => (o1 x (by rw [← hsz]; exact Nat.lt_of_lt_of_le h1 hS.1)).trans (hS.2.1 x h1 h2), hS.2.2⟩ hl
  show H1[h0 + n]? = some (vp_cell (cA 3) (N, .inl ((clS ρ.2 n).1 n)))
  rw [e1]
  have : (clS ρ.2 n).1 n = fun _ => 0 := by simp [clS]
  rw [this]
  rfl
theorem c_anew {q N ix : Nat} {x : Int32} (hx : x = Int32.ofNat N) (hN : N < 100000) (hsn : SHL[n]? = some (4, N)) (w1 : Cond.classLink own ix "BetterThieves$State" ∈ TB) (hcl : cells + 1 ≤ mc) (hsl : slots + N ≤ ms) (hd : decode cc pc = .ok (.anewarray ix, 3)) (hq : pc + 3 = q) (kk : Tj l D cA h0 ad own cc nL ret true h mc ms f (cells + 1) (slots + N) (SHL.take (n + 1)) (nwR ρ n).1 (nwR ρ n).2 q lv (.ref (h0 + n) :: st) o) : Tj l D cA h0 ad own cc nL ret true h mc ms f cells slots (SHL.take n) (ρ).1 (ρ).2 pc lv (.int x :: st) o := by
  subst hq
  subst hx
  intro b hb p e s m args below meth c H locs ls C hP hz hS hl
  have hsz : H.size = h0 + n := by rw [hz rfl, tk_len hsn]
  have hcN : (Int32.ofNat N).toNatClampNeg = N := Int32.toNatClampNeg_ofNat_of_lt (by omega)
  have hn0 : ¬ Int32.ofNat N < 0 := by
    rw [Int32.lt_iff_toInt_lt, Int32.toInt_ofNat_of_lt (by omega)]
    simp
  refine W.anew C.1 C.2.1 C.own (C.hts _ w1) (va_AO.use C.E.2.2.2.2.2.2) rfl hd rfl hn0 (by rw [hcN]; omega) hcl (by rw [hcN]; exact hsl) (fun cB kA comp f1 f2 f3 f4 => ?_)
  obtain ⟨kA2, comp2, g1, g2, g3, g4⟩ := (C.K.2 3 _ rfl).2
  have hcB : cB = cA 4 := Option.some.inj (f1.symm.trans g4)
  subst hcB
  rw [hcN]
  generalize hH1 : H.push ({ cls := cA 4, slots := Array.replicate N .null, vm := .none } : Cell) = H1
  have z1 : H1.size = H.size + 1 := by rw [← hH1, Array.size_push]
  have e1 : H1[h0 + n]? = some (arrV (cA 4) N (fun _ => .null)) := by rw [← hH1, ← hsz, Array.getElem?_push_size, ← arrV_new]
  have o1 : ∀ q : Nat, q < h0 + n → H1[q]? = H[q]? := fun q hq => by rw [← hH1, Array.getElem?_push, if_neg (by omega)]
  have K := kk b hb p e s m args below meth c H1 locs ls C (xw_grow hsn hP o1 (by
    show H1[h0 + n]? = some (vp_cell (cA 4) (N, .inr (.inr (.inr (.inr (fun k => ((clP ρ.1 n) n k).map (fun q => h0 + q)))))))
    rw [e1]
    have : (fun k => ((clP ρ.1 n) n k).map (fun q => h0 + q)) = fun _ => none := by funext k; simp [clP]
    rw [this]
    rfl)) (fun _ => by rw [z1, tk_len1 hsn]; omega) ⟨Nat.le_trans hS.1 (by omega), fun x h1 h2 => (o1 x (by rw [← hsz]; exact Nat.lt_of_lt_of_le h1 hS.1)).trans (hS.2.1 x h1 h2), hS.2.2⟩ hl
  rw [hsz]
  exact K
theorem c_putF {q t ci k N ix j : Nat} {C : String} {T : u_T} {ty0 : Nat → FieldType} {ty : FieldType} (hs : (SHL.take n)[t]? = some (0, ci)) (hF : Fok ci k 2 C T N) (hT : Tok T N ty0) (hG : Fpk T k true ty) (hw : Cond.fieldLink own ix (T k).1 (T k).2.1 (T k).2.2.1 ∈ TB) (hd : decode cc pc = .ok (.putfield ix, 3)) (hq : pc + 3 = q) (hdecl : (T k).1 = own) (hn : narrow ty (.ref (h0 + j)) = .ref (h0 + j)) (hfit : fits ty (.ref (h0 + j)) = true) (kk : Tj l D cA h0 ad own cc nL ret true h mc ms f cells slots (SHL.take n) (pR ρ t k j).1 (pR ρ t k j).2 q lv st o) : Tj l D cA h0 ad own cc nL ret true h mc ms f cells slots (SHL.take n) (ρ).1 (ρ).2 pc lv (.ref (h0 + j) :: .ref (h0 + t) :: st) o := by
  subst hq
  intro b hb p e s m args below meth c H locs ls C hP hz hS hl
  have hap := va_apart (own := own) C.hts hF.2.1 ty0 hT.1 hT.2 C.K hF.1
  obtain ⟨r, h1, cell, q1, q2, q3, q4⟩ := hP t _ (xw_at hs)
  have hr : r = (_, T, N) := Option.some.inj (h1.symm.trans hF.1)
  subst hr
  obtain ⟨hS2, hfc, kC, hkC, hkind⟩ := C.K.1 ci _ hF.1
  obtain ⟨cf, kf, fi, fd, hi, hsl⟩ := hS2 k hF.2.2.1
  have hlay := C.hts _ (hF.2.1 _ (u_in_lay hF.2.2.1))
  unfold u_lay at hlay
  have hst := (u_facts hfc hkC (u_lays C.hts hF.2.1 hF.2.2.1) hi).1
  rw [if_pos hG.1] at hlay
  have hcf : m.cls = cf := by
    obtain ⟨_, _, c', _, _, _, -, -, hf', -, -, -, hown2, -⟩ := Cond.laysFinal_spec hlay
    have e1 : c' = cf := by have := hi.symm.trans hf'; simp at this; exact this.1.symm
    rw [hdecl] at hown2
    rw [← e1]; exact Option.some.inj (C.own.symm.trans hown2)
  have h6 := u_fits hfc hkC hkind (Or.inr hlay) hi hG.2 hn (v := .ref (h0 + j)) hfit
  refine W.putFinK C.1 C.2.1 C.own (C.hts _ hw) hi hst hcf (C.2.2.2.2.2.2.2.1 rfl) (by rw [q2]; exact h6) q1 q3 (by rw [hsl]; exact k2_hasslot (q4 k hF.2.2.1)) rfl rfl hd fun H' e1 e2 e3 => ?_
  rw [hsl] at e1 ⊢
  have hlen : k < (xo h0 (ρ).1 (ρ).2 t ci).length := by rw [xo_len]; exact (List.getElem?_eq_some_iff.mp hF.2.2.2).1
  have hP1 := hP.set xw_D (xw_at hs) (e := .inr (ci, (xo h0 (ρ).1 (ρ).2 t ci).set k (.ref (h0 + j)))) ⟨_, hF.1, t_OB.to (V := updV (vp_V (xo h0 (ρ).1 (ρ).2 t ci)) k (.ref (h0 + j))) ⟨_, e1, q2, q3, t_set q4 hap hF.2.2.1 _⟩ (fun j _ => vp_updV_set hlen _ j)⟩ e3
  rw [xw_pR hs hF.2.2.2] at hP1
  exact kk b hb p e s m args below meth c H' _ ls C hP1 (fun h => by rw [e2]; exact hz h) (hS.put e2 e3 (Nat.le_add_right h0 t)) hl
theorem c_putR {q t ci k N ix j : Nat} {C : String} {T : u_T} {ty0 : Nat → FieldType} {ty : FieldType} (hs : (SHL.take n)[t]? = some (0, ci)) (hF : Fok ci k 2 C T N) (hT : Tok T N ty0) (hG : Fpk T k false ty) (hw : Cond.fieldLink own ix (T k).1 (T k).2.1 (T k).2.2.1 ∈ TB) (hd : decode cc pc = .ok (.putfield ix, 3)) (hq : pc + 3 = q) (hn : narrow ty (.ref (h0 + j)) = .ref (h0 + j)) (hfit : fits ty (.ref (h0 + j)) = true) (kk : Tj l D cA h0 ad own cc nL ret true h mc ms f cells slots (SHL.take n) (pR ρ t k j).1 (pR ρ t k j).2 q lv st o) : Tj l D cA h0 ad own cc nL ret true h mc ms f cells slots (SHL.take n) (ρ).1 (ρ).2 pc lv (.ref (h0 + j) :: .ref (h0 + t) :: st) o := by
  subst hq
  intro b hb p e s m args below meth c H locs ls C hP hz hS hl
  have hap := va_apart (own := own) C.hts hF.2.1 ty0 hT.1 hT.2 C.K hF.1
  obtain ⟨r, h1, cell, q1, q2, q3, q4⟩ := hP t _ (xw_at hs)
  have hr : r = (_, T, N) := Option.some.inj (h1.symm.trans hF.1)
  subst hr
  obtain ⟨hS2, hfc, kC, hkC, hkind⟩ := C.K.1 ci _ hF.1
  obtain ⟨cf, kf, fi, fd, hi, hsl⟩ := hS2 k hF.2.2.1
  have hlay := C.hts _ (hF.2.1 _ (u_in_lay hF.2.2.1))
  unfold u_lay at hlay
  have hst := (u_facts hfc hkC (u_lays C.hts hF.2.1 hF.2.2.1) hi).1
  rw [if_neg (by rw [hG.1]; decide)] at hlay
  have h6 := u_store hfc hkC hkind hlay hi hG.2 hn (v := .ref (h0 + j)) hfit
  refine W.putK C.1 C.2.1 (f := fd) ⟨C.own, C.hts _ hw, ⟨_, _, _, hi⟩, hst⟩ (by rw [q2]; exact h6) q1 q3 (by rw [hsl]; exact k2_hasslot (q4 k hF.2.2.1)) rfl rfl hd fun H' e1 e2 e3 => ?_
  rw [hsl] at e1 ⊢
  have hlen : k < (xo h0 (ρ).1 (ρ).2 t ci).length := by rw [xo_len]; exact (List.getElem?_eq_some_iff.mp hF.2.2.2).1
  have hP1 := hP.set xw_D (xw_at hs) (e := .inr (ci, (xo h0 (ρ).1 (ρ).2 t ci).set k (.ref (h0 + j)))) ⟨_, hF.1, t_OB.to (V := updV (vp_V (xo h0 (ρ).1 (ρ).2 t ci)) k (.ref (h0 + j))) ⟨_, e1, q2, q3, t_set q4 hap hF.2.2.1 _⟩ (fun j _ => vp_updV_set hlen _ j)⟩ e3
  rw [xw_pR hs hF.2.2.2] at hP1
  exact kk b hb p e s m args below meth c H' _ ls C hP1 (fun h => by rw [e2]; exact hz h) (hS.put e2 e3 (Nat.le_add_right h0 t)) hl
theorem c_putI {q t ci k N ix : Nat} {C : String} {T : u_T} {ty0 : Nat → FieldType} {ty : FieldType} (hs : (SHL.take n)[t]? = some (0, ci)) (hF : Fok ci k 0 C T N) (hT : Tok T N ty0) (hG : Fpk T k false ty) (hw : Cond.fieldLink own ix (T k).1 (T k).2.1 (T k).2.2.1 ∈ TB) (hd : decode cc pc = .ok (.putfield ix, 3)) (hq : pc + 3 = q) {x : Int32} (hn : narrow ty (.int x) = .int x) (hfit : fits ty (.int x) = true) (kk : Tj l D cA h0 ad own cc nL ret true h mc ms f cells slots (SHL.take n) (pI ρ t k x).1 (pI ρ t k x).2 q lv st o) : Tj l D cA h0 ad own cc nL ret true h mc ms f cells slots (SHL.take n) (ρ).1 (ρ).2 pc lv (.int x :: .ref (h0 + t) :: st) o := by
  subst hq
  intro b hb p e s m args below meth c H locs ls C hP hz hS hl
  have hap := va_apart (own := own) C.hts hF.2.1 ty0 hT.1 hT.2 C.K hF.1
  obtain ⟨r, h1, cell, q1, q2, q3, q4⟩ := hP t _ (xw_at hs)
  have hr : r = (_, T, N) := Option.some.inj (h1.symm.trans hF.1)
  subst hr
  obtain ⟨hS2, hfc, kC, hkC, hkind⟩ := C.K.1 ci _ hF.1
  obtain ⟨cf, kf, fi, fd, hi, hsl⟩ := hS2 k hF.2.2.1
  have hlay := C.hts _ (hF.2.1 _ (u_in_lay hF.2.2.1))
  unfold u_lay at hlay
  have hst := (u_facts hfc hkC (u_lays C.hts hF.2.1 hF.2.2.1) hi).1
  rw [if_neg (by rw [hG.1]; decide)] at hlay
  have h6 := u_store hfc hkC hkind hlay hi hG.2 hn (v := .int x) hfit
  refine W.putK C.1 C.2.1 (f := fd) ⟨C.own, C.hts _ hw, ⟨_, _, _, hi⟩, hst⟩ (by rw [q2]; exact h6) q1 q3 (by rw [hsl]; exact k2_hasslot (q4 k hF.2.2.1)) rfl rfl hd fun H' e1 e2 e3 => ?_
  rw [hsl] at e1 ⊢
  have hlen : k < (xo h0 (ρ).1 (ρ).2 t ci).length := by rw [xo_len]; exact (List.getElem?_eq_some_iff.mp hF.2.2.2).1
  have hP1 := hP.set xw_D (xw_at hs) (e := .inr (ci, (xo h0 (ρ).1 (ρ).2 t ci).set k (.int x))) ⟨_, hF.1, t_OB.to (V := updV (vp_V (xo h0 (ρ).1 (ρ).2 t ci)) k (.int x)) ⟨_, e1, q2, q3, t_set q4 hap hF.2.2.1 _⟩ (fun j _ => vp_updV_set hlen _ j)⟩ e3
  rw [xw_sI hs hF.2.2.2] at hP1
  exact kk b hb p e s m args below meth c H' _ ls C hP1 (fun h => by rw [e2]; exact hz h) (hS.put e2 e3 (Nat.le_add_right h0 t)) hl
theorem c_aast {q t N v k : Nat} {i : Int32} (hs : (SHL.take n)[t]? = some (4, N)) (hv : (SHL.take n)[v]? = some (0, 8)) (hi : i = Int32.ofNat k) (hk : k < N) (hN : N < 100000) (hd : decode cc pc = .ok (.aastore, 1)) (hq : pc + 1 = q) (kk : Tj l D cA h0 ad own cc nL ret true h mc ms f cells slots (SHL.take n) (pR ρ t k v).1 (pR ρ t k v).2 q lv st o) : Tj l D cA h0 ad own cc nL ret true h mc ms f cells slots (SHL.take n) (ρ).1 (ρ).2 pc lv (.ref (h0 + v) :: .int i :: .ref (h0 + t) :: st) o := by
  subst hq
  subst hi
  intro b hb p e s m args below meth c H locs ls C hP hz hS hl
  have hcN : (Int32.ofNat k).toNatClampNeg = k := Int32.toNatClampNeg_ofNat_of_lt (by omega)
  have h0n : ¬ Int32.ofNat k < 0 := by
    rw [Int32.lt_iff_toInt_lt, Int32.toInt_ofNat_of_lt (by omega)]
    simp
  obtain ⟨r', hr', cellV, g1, g2, g3, -⟩ := hP v _ (xw_at hv)
  have hcls := (C.K.1 8 _ (rfl : CL[8]? = some (RX8, TX8, 5))).2
  obtain ⟨kA, comp, k1, k2, k3, -⟩ := (C.K.2 3 _ rfl).2
  have hcomp : comp = D.1 8 := Option.some.inj (k3.symm.trans hcls.1)
  subst hcomp
  have hcls2 := hcls
  obtain ⟨kC, hkC, -⟩ := hcls2.2
  have hcell : H[h0 + t]? = some (vp_cell (cA 4) (N, .inr (.inr (.inr (.inr (fun k => (ρ.1 t k).map (fun q => h0 + q))))))) := hP t _ (xw_at hs)
  refine W.aast C.1 C.2.1 hcell (fun q h => by cases h) (fun h => by cases h) k1 k2 rfl hkC ⟨h0n, by rw [hcN]; show _ < (arrV _ _ _).slots.size; rw [arrV_size]; exact hk⟩ g1 (fun q h => by rw [g3] at h; cases h) (by rw [g2]; exact hkC) (by rw [g2]; exact va_assign hcls) rfl rfl hd fun H1 e1 z oq => ?_
  rw [hcN] at e1 ⊢
  have hP1 := hP.set xw_D (xw_at hs) (e := .inl (cA 4, N, .inr (.inr (.inr (.inr (va_up (fun k => (ρ.1 t k).map (fun q => h0 + q)) k (some (h0 + v)))))))) (by
    show H1[h0 + t]? = some (vp_cell _ _)
    rw [e1]
    rw [vp_cell_q, vp_cell_q, arrV_store]
    congr 2
    funext q
    by_cases hq : q = k
    · subst hq
      simp [updV, va_up, va_rf]
    · simp [updV, va_up, hq]) oq
  rw [xw_aR hs] at hP1
  exact kk b hb p e s m args below meth c H1 _ ls C hP1 (fun h => by rw [z]; exact hz h) (hS.put z oq (Nat.le_add_right h0 t)) hl
theorem c_iast {q t N k : Nat} {i x : Int32} (hs : (SHL.take n)[t]? = some (1, N)) (hi : i = Int32.ofNat k) (hk : k < N) (hN : N < 100000) (hd : decode cc pc = .ok (.iastore, 1)) (hq : pc + 1 = q) (kk : Tj l D cA h0 ad own cc nL ret true h mc ms f cells slots (SHL.take n) (pI ρ t k x).1 (pI ρ t k x).2 q lv st o) : Tj l D cA h0 ad own cc nL ret true h mc ms f cells slots (SHL.take n) (ρ).1 (ρ).2 pc lv (.int x :: .int i :: .ref (h0 + t) :: st) o := by
  subst hq
  subst hi
  intro b hb p e s m args below meth c H locs ls C hP hz hS hl
  have hcN : (Int32.ofNat k).toNatClampNeg = k := Int32.toNatClampNeg_ofNat_of_lt (by omega)
  have h0n : ¬ Int32.ofNat k < 0 := by
    rw [Int32.lt_iff_toInt_lt, Int32.toInt_ofNat_of_lt (by omega)]
    simp
  have hcell : H[h0 + t]? = some (vp_cell (cA 1) (N, .inl (ρ.2.1 t))) := hP t _ (xw_at hs)
  refine W.iast C.1 C.2.1 hcell ((C.K.2 0 _ rfl).1 N (fun j => .int (ρ.2.1 t j))) (fun q => by cases q) (by rw [hcN]; show ¬ (_ ∨ (arrV _ _ _).slots.size ≤ _); rw [arrV_size]; intro h; rcases h with h | h; exact h0n h; omega) rfl rfl hd fun H1 e1 z oq => ?_
  rw [hcN] at e1 ⊢
  have hP1 := hP.set xw_D (xw_at hs) (e := .inl (cA 1, N, .inl (upd (ρ.2.1 t) k x))) (by
    show H1[h0 + t]? = some (vp_cell _ _)
    rw [e1]
    rw [vp_cell_i, vp_cell_i, arrV_store]
    congr 2
    funext q
    by_cases hq : q = k
    · subst hq
      simp [updV, upd]
    · simp [updV, upd, hq]) oq
  rw [xw_aI hs] at hP1
  exact kk b hb p e s m args below meth c H1 _ ls C hP1 (fun h => by rw [z]; exact hz h) (hS.put z oq (Nat.le_add_right h0 t)) hl
theorem c_gtN {q : Nat} {x y : Int32} {off : Int} {tgt : Nat} (hc : ¬ y < x) (hd : decode cc pc = .ok (.if_icmp .gt off, 3)) (ht : (pc : Int) + off = (tgt : Int)) (hq : pc + 3 = q) (kk : Tj l D cA h0 ad own cc nL ret true h mc ms f cells slots (SHL.take n) (ρ).1 (ρ).2 q lv st o) : Tj l D cA h0 ad own cc nL ret true h mc ms f cells slots (SHL.take n) (ρ).1 (ρ).2 pc lv (.int y :: .int x :: st) o := by
  subst hq
  exact fun b hb p e s m args below meth c H locs ls C hP hz hS hl => lv_icmp_gt C.1 C.2.1 hd ht (fun h => absurd h hc) (fun _ => kk b hb p e s m args below meth c H locs ls C hP hz hS hl)
theorem c_gtY {tgt : Nat} {x y : Int32} {off : Int} (hc : y < x) (hd : decode cc pc = .ok (.if_icmp .gt off, 3)) (ht : (pc : Int) + off = (tgt : Int)) (kk : Tj l D cA h0 ad own cc nL ret true h mc ms f cells slots (SHL.take n) (ρ).1 (ρ).2 tgt lv st o) : Tj l D cA h0 ad own cc nL ret true h mc ms f cells slots (SHL.take n) (ρ).1 (ρ).2 pc lv (.int y :: .int x :: st) o := by
  exact fun b hb p e s m args below meth c H locs ls C hP hz hS hl => lv_icmp_gt C.1 C.2.1 hd ht (fun _ => kk b hb p e s m args below meth c H locs ls C hP hz hS hl) (fun h => absurd hc h)
theorem c_geY {tgt : Nat} {x y : Int32} {off : Int} (hc : y ≤ x) (hd : decode cc pc = .ok (.if_icmp .ge off, 3)) (ht : (pc : Int) + off = (tgt : Int)) (kk : Tj l D cA h0 ad own cc nL ret true h mc ms f cells slots (SHL.take n) (ρ).1 (ρ).2 tgt lv st o) : Tj l D cA h0 ad own cc nL ret true h mc ms f cells slots (SHL.take n) (ρ).1 (ρ).2 pc lv (.int y :: .int x :: st) o := by
  exact fun b hb p e s m args below meth c H locs ls C hP hz hS hl => lv_icmp_ge C.1 C.2.1 hd ht (fun _ => kk b hb p e s m args below meth c H locs ls C hP hz hS hl) (fun h => absurd hc h)
theorem c_geN {q : Nat} {x y : Int32} {off : Int} {tgt : Nat} (hc : ¬ y ≤ x) (hd : decode cc pc = .ok (.if_icmp .ge off, 3)) (ht : (pc : Int) + off = (tgt : Int)) (hq : pc + 3 = q) (kk : Tj l D cA h0 ad own cc nL ret true h mc ms f cells slots (SHL.take n) (ρ).1 (ρ).2 q lv st o) : Tj l D cA h0 ad own cc nL ret true h mc ms f cells slots (SHL.take n) (ρ).1 (ρ).2 pc lv (.int y :: .int x :: st) o := by
  subst hq
  exact fun b hb p e s m args below meth c H locs ls C hP hz hS hl => lv_icmp_ge C.1 C.2.1 hd ht (fun h => absurd h hc) (fun _ => kk b hb p e s m args below meth c H locs ls C hP hz hS hl)
def Ic (own : String) (ix : Nat) (y : MethodName) (cc' : ByteArray) (nL' : Nat) : Prop := (Cond.methodLink own ix y ∈ TB ∨ (∃ host, (own, ix, y, host) ∈ NW)) ∧ Cond.instanceMethod y ∈ TB ∧ Cond.initialized y.cls ∈ TB ∧ Cond.code y cc' nL' none ∈ TB ∧ y.name = "<init>" ∧ (y.cls ≠ "java/lang/invoke/MethodHandle" ∧ y.cls ≠ "java/lang/invoke/VarHandle" ∧ (parseMethodDescriptor y.desc).map (fun d => d.parameters.length) = some 0) ∧ nL' ≤ 21
theorem c_call {n' h' mc' ms' nL' ix v q : Nat} {y : MethodName} {cc' : ByteArray} {ρ' : Rh_} (hI : Ic own ix y cc' nL') (hR : Rj l D cA h0 ad y cc' nL' none true h' mc' ms' (fun _ : Unit => (none, SHL.take n', ρ'.1, ρ'.2)) [.ref (h0 + v)] (SHL.take n) ρ.1 ρ.2 (some ())) (hh : h' + 1 ≤ h) (hf : cells + mc' ≤ mc ∧ slots + ms' ≤ ms) (hW : (st.map fun v => v.category).sum ≤ 8) (hd : decode cc pc = .ok (.invokespecial ix, 3)) (hq : pc + 3 = q) (kk : Tj l D cA h0 ad own cc nL ret true h mc ms f (cells + mc') (slots + ms') (SHL.take n') (ρ').1 (ρ').2 q lv st o) : Tj l D cA h0 ad own cc nL ret true h mc ms f cells slots (SHL.take n) (ρ).1 (ρ).2 pc lv (.ref (h0 + v) :: st) o := by
  subst hq
  intro b hb p e s m args below meth c H locs ls C hP hz hS hl
  obtain ⟨i1, i2, i4, i5, i8, i6, i7⟩ := hI
  have hr : va_Run p l e (rmx h mc ms) s m args below meth c H locs cells slots mc' ms' (F0 m pc ls (.ref (h0 + v) :: st)) st (Qx D cA h0 true (none, SHL.take n', ρ'.1, ρ'.2) #[]) (fun q => h0 ≤ q) := by
    rcases i1 with i1 | ⟨host, i1⟩
    · exact va_runI (As := []) (rest := st) (Ts := TB) ⟨C.1, C.2.1, C.2.2.2.1, C.own, C.hts⟩ (hR () rfl) ⟨callB_of 0 C.hts (tb_in i5) rfl rfl rfl (C.hts _ i4) (C.hts _ i1) i6 (rmx_fit hh i7), i8, C.hts _ i2⟩ ⟨Px.blind, Px.at C hP hz hS⟩ rfl rfl hl.1 rfl (lv_room hW) hd hf
    · exact va_runIN (As := []) (rest := st) (Ts := TB) ⟨C.1, C.2.1, C.2.2.2.1, C.own, C.hts⟩ (hR () rfl) ⟨va_cnB 0 C.hts (tb_in i5) rfl rfl rfl (C.E.2.2.2.2.2.1 _ i1) (C.hts _ i4) i6 (rmx_fit hh i7), i8, C.hts _ i2⟩ ⟨Px.blind, Px.at C hP hz hS⟩ rfl rfl hl.1 rfl (lv_room hW) hd hf
  intro T hT X
  obtain ⟨v, st₀, t, T', L, g0, X', hL, e1, e2, ⟨hv, hp1, hz1, hF1, hF2⟩, go⟩ := hr T hT X
  cases hv
  rw [g0] at hF1 hF2
  obtain ⟨t2, a1, b1⟩ := kk b hb p e s m args below meth c T'.heap (locs ++ L) ls C (by rw [e1]; exact hp1) (fun q => by rw [e1]; exact hz1 q) ⟨Nat.le_trans hS.1 (by rw [e1]; exact hF1), fun q h1 h2 => by rw [e1, hF2 q (Nat.lt_of_lt_of_le h1 hS.1) h2]; exact hS.2.1 q h1 h2, fun q hq => by
    rcases List.mem_append.mp hq with h | h
    · exact hS.2.2 q h
    · exact hL q h⟩ hl T' rfl X'
  exact ⟨t2, go t2 a1, b1⟩
end CT
