/-- a field: its class by number, its place, its kind -/
def Fok (ci k kd : Nat) (C : String) (T : u_T) (N : Nat) : Prop := CL[ci]? = some (C, T, N) ∧ (∀ w ∈ u_ws C T N, w ∈ TB) ∧ k < N ∧ (FKL.getD ci [])[k]? = some kd
def Tok (T : u_T) (N : Nat) (ty0 : Nat → FieldType) : Prop := (∀ k, k < N → parseFieldDescriptor (T k).2.2.1 = some (ty0 k)) ∧ (∀ a, a < N → ∀ b, b < N → a ≠ b → (T a).2.1 ≠ (T b).2.1)
def Fpk (T : u_T) (k : Nat) (fin : Bool) (ty : FieldType) : Prop := (T k).2.2.2 = fin ∧ parseFieldDescriptor (T k).2.2.1 = some ty
theorem Cx.hts {D : va_G} {cA : Nat → ClassId} {h0 : Nat} {ad : Ad_} {own : String} {cc : ByteArray} {nL : Nat} {ret : Option FieldType} {ini : Bool} {p : Program} {s : State} {m : MethodId} {args : Array Value} {meth : Method} {c : Code} (C : Cx D cA h0 ad own cc nL ret ini p s m args meth c) : ∀ w ∈ TB, w.before args s = true := C.2.2.2.2.2.1
theorem Cx.own {D : va_G} {cA : Nat → ClassId} {h0 : Nat} {ad : Ad_} {own : String} {cc : ByteArray} {nL : Nat} {ret : Option FieldType} {ini : Bool} {p : Program} {s : State} {m : MethodId} {args : Array Value} {meth : Method} {c : Code} (C : Cx D cA h0 ad own cc nL ret ini p s m args meth c) : s.vm.findClass own = some m.cls := C.2.2.2.2.1
theorem Cx.K {D : va_G} {cA : Nat → ClassId} {h0 : Nat} {ad : Ad_} {own : String} {cc : ByteArray} {nL : Nat} {ret : Option FieldType} {ini : Bool} {p : Program} {s : State} {m : MethodId} {args : Array Value} {meth : Method} {c : Code} (C : Cx D cA h0 ad own cc nL ret ini p s m args meth c) : va_K D CL (TYS cA) s := C.2.2.2.2.2.2.2.2.1
theorem Cx.locks {D : va_G} {cA : Nat → ClassId} {h0 : Nat} {ad : Ad_} {own : String} {cc : ByteArray} {nL : Nat} {ret : Option FieldType} {ini : Bool} {p : Program} {s : State} {m : MethodId} {args : Array Value} {meth : Method} {c : Code} (C : Cx D cA h0 ad own cc nL ret ini p s m args meth c) : meth.locks = false := C.2.2.2.2.2.2.1
theorem xf_sI {h0 : Nat} {P : Px_} {σ : St_} {i k : Nat} {x : Int32} : ∀ j, j ≠ k → ∀ kd, xf h0 P (sI σ i k x) i kd j = xf h0 P σ i kd j := by
  intro j hj kd
  simp [xf, sI, up2, hj]
theorem xf_sL {h0 : Nat} {P : Px_} {σ : St_} {i k : Nat} {x : Int64} : ∀ j, j ≠ k → ∀ kd, xf h0 P (sL σ i k x) i kd j = xf h0 P σ i kd j := by
  intro j hj kd
  simp [xf, sL, up2, hj]
theorem xw_sI {h0 : Nat} {cA : Nat → ClassId} {sh : Sh_} {P : Px_} {σ : St_} {i ci k : Nat} {x : Int32} (h : sh[i]? = some (0, ci)) (hk : (FKL.getD ci [])[k]? = some 0) : (xw h0 cA sh P σ).set i (h0 + i, .inr (ci, (xo h0 P σ i ci).set k (.int x))) = xw h0 cA sh P (sI σ i k x) := by
  refine xw_set (E := .inr (ci, (xo h0 P σ i ci).set k (.int x))) h ?_ (fun j hj t => xe_ne (up2_ne hj) rfl rfl)
  show Sum.inr (ci, xo h0 P (sI σ i k x) i ci) = _
  rw [xo_set hk (v := .int x) (P' := P) (σ' := sI σ i k x) (by simp [xf, sI, up2]) xf_sI]
theorem xw_sL {h0 : Nat} {cA : Nat → ClassId} {sh : Sh_} {P : Px_} {σ : St_} {i ci k : Nat} {x : Int64} (h : sh[i]? = some (0, ci)) (hk : (FKL.getD ci [])[k]? = some 1) : (xw h0 cA sh P σ).set i (h0 + i, .inr (ci, (xo h0 P σ i ci).set k (.long x))) = xw h0 cA sh P (sL σ i k x) := by
  refine xw_set (E := .inr (ci, (xo h0 P σ i ci).set k (.long x))) h ?_ (fun j hj t => xe_ne rfl (up2_ne hj) rfl)
  show Sum.inr (ci, xo h0 P (sL σ i k x) i ci) = _
  rw [xo_set hk (v := .long x) (P' := P) (σ' := sL σ i k x) (by simp [xf, sL, up2]) xf_sL]
theorem xw_aI {h0 : Nat} {cA : Nat → ClassId} {sh : Sh_} {P : Px_} {σ : St_} {i n k : Nat} {x : Int32} (h : sh[i]? = some (1, n)) : (xw h0 cA sh P σ).set i (h0 + i, .inl (cA 1, n, .inl (upd (σ.1 i) k x))) = xw h0 cA sh P (sI σ i k x) := by
  refine xw_set h ?_ (fun j hj t => xe_ne (up2_ne hj) rfl rfl)
  show Sum.inl (cA 1, n, Sum.inl ((sI σ i k x).1 i)) = _
  have : (sI σ i k x).1 i = upd (σ.1 i) k x := by funext b; simp [sI, up2, upd]
  rw [this]
theorem xw_aZ {h0 : Nat} {cA : Nat → ClassId} {sh : Sh_} {P : Px_} {σ : St_} {i n k : Nat} {x : Int32} (h : sh[i]? = some (3, n)) : (xw h0 cA sh P σ).set i (h0 + i, .inl (cA 3, n, .inl (upd (σ.1 i) k x))) = xw h0 cA sh P (sI σ i k x) := by
  refine xw_set h ?_ (fun j hj t => xe_ne (up2_ne hj) rfl rfl)
  show Sum.inl (cA 3, n, Sum.inl ((sI σ i k x).1 i)) = _
  have : (sI σ i k x).1 i = upd (σ.1 i) k x := by funext b; simp [sI, up2, upd]
  rw [this]
theorem xw_aL {h0 : Nat} {cA : Nat → ClassId} {sh : Sh_} {P : Px_} {σ : St_} {i n k : Nat} {x : Int64} (h : sh[i]? = some (2, n)) : (xw h0 cA sh P σ).set i (h0 + i, .inl (cA 2, n, .inr (.inl (vp_updL (σ.2 i) k x)))) = xw h0 cA sh P (sL σ i k x) := by
  refine xw_set h ?_ (fun j hj t => xe_ne rfl (up2_ne hj) rfl)
  show Sum.inl (cA 2, n, Sum.inr (Sum.inl ((sL σ i k x).2 i))) = _
  have : (sL σ i k x).2 i = vp_updL (σ.2 i) k x := by funext b; simp [sL, up2, vp_updL]
  rw [this]
theorem nar_b2i (b : Bool) : narrow .boolean (.int (b2i b)) = .int (b2i b) := by cases b <;> decide
theorem vnar_b2i (b : Bool) : vp_nar .boolean (b2i b) = b2i b := by cases b <;> decide
section TH
variable {β : Type} {l : Launch} {D : va_G} {cA : Nat → ClassId} {h0 : Nat} {ad : Ad_} {own : String} {cc : ByteArray} {nL : Nat} {ret : Option FieldType} {ini : Bool} {h mc ms : Nat} {f : β → Out_} {cells slots : Nat} {sh : Sh_} {P : Px_} {σ : St_} {pc : Nat} {lv : List (Nat × Value)} {st : List Value} {o : Option β}
theorem tj_getI {q t ci k N ix : Nat} {C : String} {T : u_T} (hs : sh[t]? = some (0, ci)) (hF : Fok ci k 0 C T N) (hw : Cond.fieldLink own ix (T k).1 (T k).2.1 (T k).2.2.1 ∈ TB) (hd : decode cc pc = .ok (.getfield ix, 3)) (hq : pc + 3 = q) (kk : Tj l D cA h0 ad own cc nL ret ini h mc ms f cells slots sh P σ q lv (.int (σ.1 t k) :: st) o) : Tj l D cA h0 ad own cc nL ret ini h mc ms f cells slots sh P σ pc lv (.ref (h0 + t) :: st) o := by
  subst hq
  exact fun b hb p e s m args below meth c H locs ls C hP hz hS hl => va_get (v := .int (σ.1 t k)) C.1 C.2.1 C.hts hF.2.1 C.own C.K hP t (xw_at hs) hF.1 k hF.2.2.1 (C.hts _ hw) (fun _ h9 => h9) (xo_at hF.2.2.2) hd (kk b hb p e s m args below meth c H locs ls C hP hz hS hl)
theorem tj_getL {q t ci k N ix : Nat} {C : String} {T : u_T} (hs : sh[t]? = some (0, ci)) (hF : Fok ci k 1 C T N) (hw : Cond.fieldLink own ix (T k).1 (T k).2.1 (T k).2.2.1 ∈ TB) (hd : decode cc pc = .ok (.getfield ix, 3)) (hq : pc + 3 = q) (kk : Tj l D cA h0 ad own cc nL ret ini h mc ms f cells slots sh P σ q lv (.long (σ.2 t k) :: st) o) : Tj l D cA h0 ad own cc nL ret ini h mc ms f cells slots sh P σ pc lv (.ref (h0 + t) :: st) o := by
  subst hq
  exact fun b hb p e s m args below meth c H locs ls C hP hz hS hl => va_get (v := .long (σ.2 t k)) C.1 C.2.1 C.hts hF.2.1 C.own C.K hP t (xw_at hs) hF.1 k hF.2.2.1 (C.hts _ hw) (fun _ h9 => h9) (xo_at hF.2.2.2) hd (kk b hb p e s m args below meth c H locs ls C hP hz hS hl)
theorem tj_getR {q t ci k N ix : Nat} {C : String} {T : u_T} (hs : sh[t]? = some (0, ci)) {j : Nat} (hj : P t k = some j) (hF : Fok ci k 2 C T N) (hw : Cond.fieldLink own ix (T k).1 (T k).2.1 (T k).2.2.1 ∈ TB) (hd : decode cc pc = .ok (.getfield ix, 3)) (hq : pc + 3 = q) (kk : Tj l D cA h0 ad own cc nL ret ini h mc ms f cells slots sh P σ q lv (.ref (h0 + j) :: st) o) : Tj l D cA h0 ad own cc nL ret ini h mc ms f cells slots sh P σ pc lv (.ref (h0 + t) :: st) o := by
  subst hq
  exact fun b hb p e s m args below meth c H locs ls C hP hz hS hl => va_get (v := .ref (h0 + j)) C.1 C.2.1 C.hts hF.2.1 C.own C.K hP t (xw_at hs) hF.1 k hF.2.2.1 (C.hts _ hw) (fun _ h9 => h9) ((xo_at hF.2.2.2).trans (by simp [xf, hj, va_rf])) hd (kk b hb p e s m args below meth c H locs ls C hP hz hS hl)
theorem tj_putI {q t ci k N ix : Nat} {C : String} {T : u_T} (hs : sh[t]? = some (0, ci)) {ty0 : Nat → FieldType} (hF : Fok ci k 0 C T N) (hT : Tok T N ty0) (hG : Fpk T k false .int) (hw : Cond.fieldLink own ix (T k).1 (T k).2.1 (T k).2.2.1 ∈ TB) (hd : decode cc pc = .ok (.putfield ix, 3)) (hq : pc + 3 = q) {x : Int32} {K : St_ → Option β} (kk : ∀ σ1, Tj l D cA h0 ad own cc nL ret false h mc ms f cells slots sh P σ1 q lv st (K σ1)) : Tj l D cA h0 ad own cc nL ret false h mc ms f cells slots sh P σ pc lv (.int x :: .ref (h0 + t) :: st) (bnd (sI σ t k x) K) := by
  subst hq
  refine fun b hb p e s m args below meth c H locs ls C hP hz hS hl => va_put (v := .int x) C.1 C.2.1 C.hts hF.2.1 ty0 hT.1 hT.2 C.own C.K hP xw_D hS t (xw_at hs) hF.1 k hF.2.2.1 (C.hts _ hw) (fun _ h9 => h9) hG.1 hG.2 rfl rfl (by rw [xo_len]; exact (List.getElem?_eq_some_iff.mp hF.2.2.2).1) hd (fun H1 locs1 hP1 hD1 hS1 => ?_)
  have hP1 : va_P D CL ((xw h0 cA sh P σ).set t (h0 + t, .inr (ci, (xo h0 P σ t ci).set k (.int x)))) H1 := hP1
  rw [xw_sI hs hF.2.2.2] at hP1
  exact kk _ b hb p e s m args below meth c H1 locs1 ls C hP1 (fun h => by cases h) hS1 hl
theorem tj_putZ {q t ci k N ix : Nat} {C : String} {T : u_T} (hs : sh[t]? = some (0, ci)) {ty0 : Nat → FieldType} (hF : Fok ci k 0 C T N) (hT : Tok T N ty0) (hG : Fpk T k false .boolean) (hw : Cond.fieldLink own ix (T k).1 (T k).2.1 (T k).2.2.1 ∈ TB) (hd : decode cc pc = .ok (.putfield ix, 3)) (hq : pc + 3 = q) {x : Bool} {K : St_ → Option β} (kk : ∀ σ1, Tj l D cA h0 ad own cc nL ret false h mc ms f cells slots sh P σ1 q lv st (K σ1)) : Tj l D cA h0 ad own cc nL ret false h mc ms f cells slots sh P σ pc lv (.int (b2i x) :: .ref (h0 + t) :: st) (bnd (sI σ t k (b2i x)) K) := by
  subst hq
  refine fun b hb p e s m args below meth c H locs ls C hP hz hS hl => va_put (v := .int (b2i x)) C.1 C.2.1 C.hts hF.2.1 ty0 hT.1 hT.2 C.own C.K hP xw_D hS t (xw_at hs) hF.1 k hF.2.2.1 (C.hts _ hw) (fun _ h9 => h9) hG.1 hG.2 (nar_b2i x) (by cases x <;> decide) (by rw [xo_len]; exact (List.getElem?_eq_some_iff.mp hF.2.2.2).1) hd (fun H1 locs1 hP1 hD1 hS1 => ?_)
  have hP1 : va_P D CL ((xw h0 cA sh P σ).set t (h0 + t, .inr (ci, (xo h0 P σ t ci).set k (.int (b2i x))))) H1 := hP1
  rw [xw_sI hs hF.2.2.2] at hP1
  exact kk _ b hb p e s m args below meth c H1 locs1 ls C hP1 (fun h => by cases h) hS1 hl
theorem tj_putL {q t ci k N ix : Nat} {C : String} {T : u_T} (hs : sh[t]? = some (0, ci)) {ty0 : Nat → FieldType} (hF : Fok ci k 1 C T N) (hT : Tok T N ty0) (hG : Fpk T k false .long) (hw : Cond.fieldLink own ix (T k).1 (T k).2.1 (T k).2.2.1 ∈ TB) (hd : decode cc pc = .ok (.putfield ix, 3)) (hq : pc + 3 = q) {x : Int64} {K : St_ → Option β} (kk : ∀ σ1, Tj l D cA h0 ad own cc nL ret false h mc ms f cells slots sh P σ1 q lv st (K σ1)) : Tj l D cA h0 ad own cc nL ret false h mc ms f cells slots sh P σ pc lv (.long x :: .ref (h0 + t) :: st) (bnd (sL σ t k x) K) := by
  subst hq
  refine fun b hb p e s m args below meth c H locs ls C hP hz hS hl => va_put (v := .long x) C.1 C.2.1 C.hts hF.2.1 ty0 hT.1 hT.2 C.own C.K hP xw_D hS t (xw_at hs) hF.1 k hF.2.2.1 (C.hts _ hw) (fun _ h9 => h9) hG.1 hG.2 rfl rfl (by rw [xo_len]; exact (List.getElem?_eq_some_iff.mp hF.2.2.2).1) hd (fun H1 locs1 hP1 hD1 hS1 => ?_)
  have hP1 : va_P D CL ((xw h0 cA sh P σ).set t (h0 + t, .inr (ci, (xo h0 P σ t ci).set k (.long x)))) H1 := hP1
  rw [xw_sL hs hF.2.2.2] at hP1
  exact kk _ b hb p e s m args below meth c H1 locs1 ls C hP1 (fun h => by cases h) hS1 hl
def isB (x : Int32) : Bool := x == 0 || x == 1
theorem isB_b2i {x : Int32} (h : isB x = true) : ∃ b, x = b2i b := by
  unfold isB at h
  simp only [Bool.or_eq_true, beq_iff_eq] at h
  rcases h with h | h
  · exact ⟨false, h⟩
  · exact ⟨true, h⟩
/-- an int that is 0 or 1 put into a boolean field -/
theorem tj_putZx {q t ci k N ix : Nat} {C : String} {T : u_T} (hs : sh[t]? = some (0, ci)) {ty0 : Nat → FieldType} (hF : Fok ci k 0 C T N) (hT : Tok T N ty0) (hG : Fpk T k false .boolean) (hw : Cond.fieldLink own ix (T k).1 (T k).2.1 (T k).2.2.1 ∈ TB) (hd : decode cc pc = .ok (.putfield ix, 3)) (hq : pc + 3 = q) {x : Int32} {K : St_ → Option β} (kk : ∀ σ1, Tj l D cA h0 ad own cc nL ret false h mc ms f cells slots sh P σ1 q lv st (K σ1)) : Tj l D cA h0 ad own cc nL ret false h mc ms f cells slots sh P σ pc lv (.int x :: .ref (h0 + t) :: st) (if isB x = true then bnd (sI σ t k x) K else none) := by
  refine tj_gd (fun hg => ?_)
  obtain ⟨b, rfl⟩ := isB_b2i hg
  exact tj_putZ hs hF hT hG hw hd hq kk
theorem tj_iaload {q t n : Nat} {i : Int32} (hs : sh[t]? = some (1, n)) (hd : decode cc pc = .ok (.iaload, 1)) (hq : pc + 1 = q) (kk : Tj l D cA h0 ad own cc nL ret ini h mc ms f cells slots sh P σ q lv (.int (σ.1 t i.toNatClampNeg) :: st) o) : Tj l D cA h0 ad own cc nL ret ini h mc ms f cells slots sh P σ pc lv (.int i :: .ref (h0 + t) :: st) (if bin i n = true then o else none) := by
  subst hq
  refine tj_gd (fun hg => ?_)
  exact fun b hb p e s m args below meth c H locs ls C hP hz hS hl => va_iald C.1 C.2.1 C.K hP t 0 (xw_at hs) rfl (bin_in hg) hd (kk b hb p e s m args below meth c H locs ls C hP hz hS hl)
theorem tj_laload {q t n : Nat} {i : Int32} (hs : sh[t]? = some (2, n)) (hd : decode cc pc = .ok (.laload, 1)) (hq : pc + 1 = q) (kk : Tj l D cA h0 ad own cc nL ret ini h mc ms f cells slots sh P σ q lv (.long (σ.2 t i.toNatClampNeg) :: st) o) : Tj l D cA h0 ad own cc nL ret ini h mc ms f cells slots sh P σ pc lv (.int i :: .ref (h0 + t) :: st) (if bin i n = true then o else none) := by
  subst hq
  refine tj_gd (fun hg => ?_)
  exact fun b hb p e s m args below meth c H locs ls C hP hz hS hl => va_lald C.1 C.2.1 C.K hP t 1 (xw_at hs) rfl (bin_in hg) hd (kk b hb p e s m args below meth c H locs ls C hP hz hS hl)
theorem tj_zaload {q t n : Nat} {i : Int32} (hs : sh[t]? = some (3, n)) (hd : decode cc pc = .ok (.baload, 1)) (hq : pc + 1 = q) (kk : Tj l D cA h0 ad own cc nL ret ini h mc ms f cells slots sh P σ q lv (.int (σ.1 t i.toNatClampNeg) :: st) o) : Tj l D cA h0 ad own cc nL ret ini h mc ms f cells slots sh P σ pc lv (.int i :: .ref (h0 + t) :: st) (if bin i n = true then o else none) := by
  subst hq
  refine tj_gd (fun hg => ?_)
  exact fun b hb p e s m args below meth c H locs ls C hP hz hS hl => va_zald C.1 C.2.1 C.K hP t 2 (xw_at hs) rfl (bin_in hg) hd (kk b hb p e s m args below meth c H locs ls C hP hz hS hl)
theorem tj_aaload {q t n : Nat} {i : Int32} {j : Nat} (hs : sh[t]? = some (4, n)) (hj : bin i n = true → P t i.toNatClampNeg = some j) (hd : decode cc pc = .ok (.aaload, 1)) (hq : pc + 1 = q) (kk : bin i n = true → Tj l D cA h0 ad own cc nL ret ini h mc ms f cells slots sh P σ q lv (.ref (h0 + j) :: st) o) : Tj l D cA h0 ad own cc nL ret ini h mc ms f cells slots sh P σ pc lv (.int i :: .ref (h0 + t) :: st) (if bin i n = true then o else none) := by
  subst hq
  refine tj_gd (fun hg => ?_)
  intro b hb p e s m args below meth c H locs ls C hP hz hS hl
  refine va_aldq C.1 C.2.1 C.K hP t 3 (C := "BetterThieves$State") (xw_at hs) rfl (bin_in hg) hd ?_
  have e1 : va_rf ((P t i.toNatClampNeg).map (fun q => h0 + q)) = .ref (h0 + j) := by rw [hj hg]; rfl
  show W _ _ _ _ _ _ _ _ _ _ _ _ _ _ _ (F0 m (pc + 1) ls (va_rf ((P t i.toNatClampNeg).map (fun q => h0 + q)) :: st))
  rw [e1]
  exact kk hg b hb p e s m args below meth c H locs ls C hP hz hS hl
theorem tj_iastore {q t n : Nat} {i : Int32} {x : Int32} {K : St_ → Option β} (hs : sh[t]? = some (1, n)) (hd : decode cc pc = .ok (.iastore, 1)) (hq : pc + 1 = q) (kk : ∀ σ1, Tj l D cA h0 ad own cc nL ret false h mc ms f cells slots sh P σ1 q lv st (K σ1)) : Tj l D cA h0 ad own cc nL ret false h mc ms f cells slots sh P σ pc lv (.int x :: .int i :: .ref (h0 + t) :: st) (if bin i n = true then bnd (sI σ t i.toNatClampNeg x) K else none) := by
  subst hq
  refine tj_gd (fun hg => ?_)
  refine fun b hb p e s m args below meth c H locs ls C hP hz hS hl => va_iast C.1 C.2.1 C.K hP xw_D hS t 0 (xw_at hs) rfl (bin_in hg) hd (fun H1 locs1 hP1 hD1 hS1 => ?_)
  rw [xw_aI hs] at hP1
  exact kk _ b hb p e s m args below meth c H1 locs1 ls C hP1 (fun h => by cases h) hS1 hl
theorem tj_zastore {q t n : Nat} {i : Int32} {x : Bool} {K : St_ → Option β} (hs : sh[t]? = some (3, n)) (hd : decode cc pc = .ok (.bastore, 1)) (hq : pc + 1 = q) (kk : ∀ σ1, Tj l D cA h0 ad own cc nL ret false h mc ms f cells slots sh P σ1 q lv st (K σ1)) : Tj l D cA h0 ad own cc nL ret false h mc ms f cells slots sh P σ pc lv (.int (b2i x) :: .int i :: .ref (h0 + t) :: st) (if bin i n = true then bnd (sI σ t i.toNatClampNeg (b2i x)) K else none) := by
  subst hq
  refine tj_gd (fun hg => ?_)
  refine fun b hb p e s m args below meth c H locs ls C hP hz hS hl => va_zast C.1 C.2.1 C.K hP xw_D hS t 2 (xw_at hs) rfl (bin_in hg) hd (fun H1 locs1 hP1 hD1 hS1 => ?_)
  rw [vnar_b2i] at hP1
  rw [xw_aZ hs] at hP1
  exact kk _ b hb p e s m args below meth c H1 locs1 ls C hP1 (fun h => by cases h) hS1 hl
theorem tj_lastore {q t n : Nat} {i : Int32} {x : Int64} {K : St_ → Option β} (hs : sh[t]? = some (2, n)) (hd : decode cc pc = .ok (.lastore, 1)) (hq : pc + 1 = q) (kk : ∀ σ1, Tj l D cA h0 ad own cc nL ret false h mc ms f cells slots sh P σ1 q lv st (K σ1)) : Tj l D cA h0 ad own cc nL ret false h mc ms f cells slots sh P σ pc lv (.long x :: .int i :: .ref (h0 + t) :: st) (if bin i n = true then bnd (sL σ t i.toNatClampNeg x) K else none) := by
  subst hq
  refine tj_gd (fun hg => ?_)
  refine fun b hb p e s m args below meth c H locs ls C hP hz hS hl => va_last C.1 C.2.1 C.K hP xw_D hS t 1 (xw_at hs) rfl (bin_in hg) hd (fun H1 locs1 hP1 hD1 hS1 => ?_)
  rw [xw_aL hs] at hP1
  exact kk _ b hb p e s m args below meth c H1 locs1 ls C hP1 (fun h => by cases h) hS1 hl
theorem tj_zaloadB {q t n : Nat} {i : Int32} {K : Bool → Option β} (hs : sh[t]? = some (3, n)) (hd : decode cc pc = .ok (.baload, 1)) (hq : pc + 1 = q) (kk : ∀ v, Tj l D cA h0 ad own cc nL ret ini h mc ms f cells slots sh P σ q lv (.int (b2i v) :: st) (K v)) : Tj l D cA h0 ad own cc nL ret ini h mc ms f cells slots sh P σ pc lv (.int i :: .ref (h0 + t) :: st) (if bin i n = true then if isB (σ.1 t i.toNatClampNeg) = true then bnd (σ.1 t i.toNatClampNeg == 1) K else none else none) := by
  refine tj_zaload hs hd hq ?_
  refine tj_gd (fun hg => ?_)
  obtain ⟨b, hb⟩ := isB_b2i hg
  rw [hb]
  have e1 : (b2i b == 1) = b := by cases b <;> decide
  rw [e1]
  exact kk b
theorem tj_zastorex {q t n : Nat} {i : Int32} {x : Int32} {K : St_ → Option β} (hs : sh[t]? = some (3, n)) (hd : decode cc pc = .ok (.bastore, 1)) (hq : pc + 1 = q) (kk : ∀ σ1, Tj l D cA h0 ad own cc nL ret false h mc ms f cells slots sh P σ1 q lv st (K σ1)) : Tj l D cA h0 ad own cc nL ret false h mc ms f cells slots sh P σ pc lv (.int x :: .int i :: .ref (h0 + t) :: st) (if isB x = true then if bin i n = true then bnd (sI σ t i.toNatClampNeg x) K else none else none) := by
  refine tj_gd (fun hg => ?_)
  obtain ⟨b, rfl⟩ := isB_b2i hg
  exact tj_zastore hs hd hq kk
theorem tj_alen1 {q t n : Nat} {v : Int32} (hs : sh[t]? = some (1, n)) (hv : Int32.ofNat n = v) (hd : decode cc pc = .ok (.arraylength, 1)) (hq : pc + 1 = q) (kk : Tj l D cA h0 ad own cc nL ret ini h mc ms f cells slots sh P σ q lv (.int v :: st) o) : Tj l D cA h0 ad own cc nL ret ini h mc ms f cells slots sh P σ pc lv (.ref (h0 + t) :: st) o := by
  subst hq
  exact fun b hb p e s m args below meth c H locs ls C hP hz hS hl => va_alen C.1 C.2.1 C.K hP t 0 (xw_at hs) rfl hv hd (kk b hb p e s m args below meth c H locs ls C hP hz hS hl)
theorem tj_alen2 {q t n : Nat} {v : Int32} (hs : sh[t]? = some (2, n)) (hv : Int32.ofNat n = v) (hd : decode cc pc = .ok (.arraylength, 1)) (hq : pc + 1 = q) (kk : Tj l D cA h0 ad own cc nL ret ini h mc ms f cells slots sh P σ q lv (.int v :: st) o) : Tj l D cA h0 ad own cc nL ret ini h mc ms f cells slots sh P σ pc lv (.ref (h0 + t) :: st) o := by
  subst hq
  exact fun b hb p e s m args below meth c H locs ls C hP hz hS hl => va_alen C.1 C.2.1 C.K hP t 1 (xw_at hs) rfl hv hd (kk b hb p e s m args below meth c H locs ls C hP hz hS hl)
theorem tj_alen3 {q t n : Nat} {v : Int32} (hs : sh[t]? = some (3, n)) (hv : Int32.ofNat n = v) (hd : decode cc pc = .ok (.arraylength, 1)) (hq : pc + 1 = q) (kk : Tj l D cA h0 ad own cc nL ret ini h mc ms f cells slots sh P σ q lv (.int v :: st) o) : Tj l D cA h0 ad own cc nL ret ini h mc ms f cells slots sh P σ pc lv (.ref (h0 + t) :: st) o := by
  subst hq
  exact fun b hb p e s m args below meth c H locs ls C hP hz hS hl => va_alen C.1 C.2.1 C.K hP t 2 (xw_at hs) rfl hv hd (kk b hb p e s m args below meth c H locs ls C hP hz hS hl)
theorem tj_end {v : Option Value} {b : β} {H : Heap} {s : State} {args : Array Value} {locs : List Loc} {t : State} (hf : f b = (v, sh, P, σ)) (hP : va_P D CL (xw h0 cA sh P σ) H) (hz : ini = true → H.size = h0 + sh.length) (hS : va_S (fun q => h0 ≤ q) s.heap H locs) (ht : t.heap = H) : Qx D cA h0 ini (f b) args s (.returned v) t := by
  rw [hf]
  exact ⟨rfl, by rw [ht]; exact hP, fun h => by rw [ht]; exact hz h, hS.F ht⟩
theorem tj_iret {v : Int32} (hr : ret = some .int) {b : β} (hf : f b = (some (.int v), sh, P, σ)) (hc : cells ≤ mc) (hsl : slots ≤ ms) (hd : decode cc pc = .ok (.ireturn, 1)) : Tj l D cA h0 ad own cc nL ret ini h mc ms f cells slots sh P σ pc lv [.int v] (some b) := by
  intro b' hb p e s m args below meth c H locs ls C hP hz hS hl
  cases hb
  refine W.widen (k := mc) (n := ms) hc hsl ?_
  exact W.iret C.1 C.2.1 (C.2.2.1.trans hr) (fun t ht hW => tj_end hf hP hz hS ht) hS.2.2 hd (hlocks := C.locks)
theorem tj_lret {v : Int64} (hr : ret = some .long) {b : β} (hf : f b = (some (.long v), sh, P, σ)) (hc : cells ≤ mc) (hsl : slots ≤ ms) (hd : decode cc pc = .ok (.lreturn, 1)) : Tj l D cA h0 ad own cc nL ret ini h mc ms f cells slots sh P σ pc lv [.long v] (some b) := by
  intro b' hb p e s m args below meth c H locs ls C hP hz hS hl
  cases hb
  refine W.widen (k := mc) (n := ms) hc hsl ?_
  exact W.lret C.1 C.2.1 (C.2.2.1.trans hr) (fun t ht hW => tj_end hf hP hz hS ht) hS.2.2 hd (hlocks := C.locks)
theorem tj_zret {v : Int32} {ty : FieldType} (hr : ret = some ty) (hn : narrow ty (.int v) = .int v) {b : β} (hf : f b = (some (.int v), sh, P, σ)) (hc : cells ≤ mc) (hsl : slots ≤ ms) (hd : decode cc pc = .ok (.ireturn, 1)) : Tj l D cA h0 ad own cc nL ret ini h mc ms f cells slots sh P σ pc lv [.int v] (some b) := by
  intro b' hb p e s m args below meth c H locs ls C hP hz hS hl
  cases hb
  refine W.widen (k := mc) (n := ms) hc hsl ?_
  exact W.zret C.1 C.2.1 (C.2.2.1.trans hr) hn (fun t ht hW => tj_end hf hP hz hS ht) hS.2.2 hd (hlocks := C.locks)
theorem tj_vret (hr : ret = none) {b : β} (hf : f b = (none, sh, P, σ)) (hc : cells ≤ mc) (hsl : slots ≤ ms) (hd : decode cc pc = .ok (.return_, 1)) : Tj l D cA h0 ad own cc nL ret ini h mc ms f cells slots sh P σ pc lv [] (some b) := by
  intro b' hb p e s m args below meth c H locs ls C hP hz hS hl
  cases hb
  refine W.widen (k := mc) (n := ms) hc hsl ?_
  exact W.vret C.1 C.2.1 (C.2.2.1.trans hr) (fun t ht hW => tj_end hf hP hz hS ht) hS.2.2 hd (hlocks := C.locks)
theorem tj_aret {v : Nat} {C0 : String} (hr : ret = some (.object C0)) {b : β} (hf : f b = (some (.ref v), sh, P, σ)) (hc : cells ≤ mc) (hsl : slots ≤ ms) (hd : decode cc pc = .ok (.areturn, 1)) : Tj l D cA h0 ad own cc nL ret ini h mc ms f cells slots sh P σ pc lv [.ref v] (some b) := by
  intro b' hb p e s m args below meth c H locs ls C hP hz hS hl
  cases hb
  refine W.widen (k := mc) (n := ms) hc hsl ?_
  exact W.aret C.1 C.2.1 (C.2.2.1.trans hr) (Or.inl ⟨_, rfl⟩) (Or.inr ⟨_, rfl⟩) (fun t ht hW => tj_end hf hP hz hS ht) hS.2.2 hd (hlocks := C.locks)
theorem tj_zretE {x : Int32} {z : Bool} (hx : x = b2i z) (hr : ret = some .boolean) {b : β} (hf : f b = (some (.int (b2i z)), sh, P, σ)) (hc : cells ≤ mc) (hsl : slots ≤ ms) (hd : decode cc pc = .ok (.ireturn, 1)) : Tj l D cA h0 ad own cc nL ret ini h mc ms f cells slots sh P σ pc lv [.int x] (some b) := by
  subst hx
  exact tj_zret hr (nar_b2i z) hf hc hsl hd
/-- an invocation at pc: it comes back as o' says -/
def Kj {γ : Type} (l : Launch) (D : va_G) (cA : Nat → ClassId) (h0 : Nat) (ad : Ad_) (own : String) (cc : ByteArray) (nL : Nat) (ret : Option FieldType) (ini : Bool) (h mc ms : Nat) (cells slots mc' ms' : Nat) (sh : Sh_) (P : Px_) (σ : St_) (pc : Nat) (st0 rest : List Value) (g : γ → Out_) (o' : Option γ) : Prop :=
  ∀ b, o' = some b → ∀ p e s m args below meth c H locs ls, Cx D cA h0 ad own cc nL ret ini p s m args meth c → va_P D CL (xw h0 cA sh P σ) H → (ini = true → H.size = h0 + sh.length) → va_S (fun q => h0 ≤ q) s.heap H locs → ls.size = nL →
    va_Run p l e (rmx h mc ms) s m args below meth c H locs cells slots mc' ms' (F0 m pc ls st0) rest (Qx D cA h0 ini (g b) #[]) (fun q => h0 ≤ q)
theorem Px.at {p : Program} {s : State} {m : MethodId} {args : Array Value} {meth : Method} {c : Code} {H : Heap} {locs : List Loc} (C : Cx D cA h0 ad own cc nL ret ini p s m args meth c) (hP : va_P D CL (xw h0 cA sh P σ) H) (hz : ini = true → H.size = h0 + sh.length) (hS : va_S (fun q => h0 ≤ q) s.heap H locs) {av : List Value} : ∀ U : State, U.heap = H → s.WarmedH U.vm → va_Pc av (Px D cA h0 ad ini sh P σ) av.toArray U := fun U hU hW =>
  ⟨rfl, by rw [hU]; exact hP, fun q => by rw [hU]; exact hz q, by rw [hU]; exact Nat.le_trans C.2.2.2.2.2.2.2.2.2.1 hS.1, va_K.moved hW.alike C.K, C.2.2.2.2.2.2.2.2.2.2.go hW (fun a ha hn => by rw [hU]; exact hS.2.1 a ha hn)⟩
theorem rmx_fit {h h' nL' mc ms mc' ms' : Nat} (hh : h' + 1 ≤ h) (hn : nL' ≤ 21) : (rmx h' mc' ms').frames + 1 ≤ (rmx h mc ms).frames ∧ 8 + (nL' + 11) + (rmx h' mc' ms').locals ≤ (rmx h mc ms).locals := by
  refine ⟨hh, ?_⟩
  show 8 + (nL' + 11) + 40 * h' ≤ 40 * h
  omega
/-- the words of a virtual call -/
def Iv (own : String) (ix : Nat) (y : MethodName) (cc' : ByteArray) (nL' : Nat) (ret' : Option FieldType) (n : Nat) : Prop := Cond.methodLink own ix y ∈ TB ∧ Cond.instanceMethod y ∈ TB ∧ Cond.selects y.cls y y ∈ TB ∧ Cond.initialized y.cls ∈ TB ∧ Cond.code y cc' nL' ret' ∈ TB ∧ (y.cls ≠ "java/lang/invoke/MethodHandle" ∧ y.cls ≠ "java/lang/invoke/VarHandle" ∧ (parseMethodDescriptor y.desc).map (fun d => d.parameters.length) = some n) ∧ nL' ≤ 21
def Is (own : String) (ix : Nat) (y : MethodName) (cc' : ByteArray) (nL' : Nat) (ret' : Option FieldType) (n : Nat) : Prop := Cond.methodLink own ix y ∈ TB ∧ Cond.static y ∈ TB ∧ Cond.initialized y.cls ∈ TB ∧ Cond.code y cc' nL' ret' ∈ TB ∧ (y.cls ≠ "java/lang/invoke/MethodHandle" ∧ y.cls ≠ "java/lang/invoke/VarHandle" ∧ (parseMethodDescriptor y.desc).map (fun d => d.parameters.length) = some n) ∧ nL' ≤ 21
/-- the words of a virtual call of a nest mate's private method -/
def In (own : String) (ix : Nat) (y : MethodName) (host : String) (cc' : ByteArray) (nL' : Nat) (ret' : Option FieldType) (n : Nat) : Prop := (own, ix, y, host) ∈ NW ∧ Cond.instanceMethod y ∈ TB ∧ Cond.selects y.cls y y ∈ TB ∧ Cond.initialized y.cls ∈ TB ∧ Cond.code y cc' nL' ret' ∈ TB ∧ (y.cls ≠ "java/lang/invoke/MethodHandle" ∧ y.cls ≠ "java/lang/invoke/VarHandle" ∧ (parseMethodDescriptor y.desc).map (fun d => d.parameters.length) = some n) ∧ nL' ≤ 21
variable {γ : Type} {g : γ → Out_} {o' : Option γ} {mc' ms' h' nL' n ix t ci : Nat} {y : MethodName} {cc' : ByteArray} {ret' : Option FieldType} {T : u_T} {N : Nat} {As rest : List Value}
theorem kj_V (hI : Iv own ix y cc' nL' ret' n) (hs : sh[t]? = some (0, ci)) (hc : CL[ci]? = some (y.cls, T, N)) (hR : Rj l D cA h0 ad y cc' nL' ret' ini h' mc' ms' g (.ref (h0 + t) :: As) sh P σ o') (hn : As.length = n) (hh : h' + 1 ≤ h) (hf : cells + mc' ≤ mc ∧ slots + ms' ≤ ms) (hW : (rest.map fun v => v.category).sum ≤ 8) (hd : decode cc pc = .ok (.invokevirtual ix, 3)) : Kj l D cA h0 ad own cc nL ret ini h mc ms cells slots mc' ms' sh P σ pc (As.reverse ++ .ref (h0 + t) :: rest) rest g o' := by
  intro b hb p e s m args below meth c H locs ls C hP hz hS hl
  obtain ⟨i1, i2, i3, i4, i5, i6, i7⟩ := hI
  exact va_runV (As := As) (rest := rest) (Ts := TB) ⟨C.1, C.2.1, C.2.2.2.1, C.own, C.hts⟩ (hR b hb) ⟨callB_of n C.hts (tb_in i5) rfl rfl rfl (C.hts _ i4) (C.hts _ i1) i6 (rmx_fit hh i7), C.hts _ i2, C.hts _ i3⟩ ⟨Px.blind, va_recv C.K hP hc (xw_at hs), Px.at C hP hz hS⟩ rfl hn hl rfl (lv_room hW) hd hf
theorem kj_S (hI : Is own ix y cc' nL' ret' n) (hR : Rj l D cA h0 ad y cc' nL' ret' ini h' mc' ms' g As sh P σ o') (hn : As.length = n) (hh : h' + 1 ≤ h) (hf : cells + mc' ≤ mc ∧ slots + ms' ≤ ms) (hW : (rest.map fun v => v.category).sum ≤ 8) (hd : decode cc pc = .ok (.invokestatic ix, 3)) : Kj l D cA h0 ad own cc nL ret ini h mc ms cells slots mc' ms' sh P σ pc (As.reverse ++ rest) rest g o' := by
  intro b hb p e s m args below meth c H locs ls C hP hz hS hl
  obtain ⟨i1, i2, i4, i5, i6, i7⟩ := hI
  exact va_runS (As := As) (rest := rest) (Ts := TB) ⟨C.1, C.2.1, C.2.2.2.1, C.own, C.hts⟩ (hR b hb) ⟨callB_of n C.hts (tb_in i5) rfl rfl rfl (C.hts _ i4) (C.hts _ i1) i6 (rmx_fit hh i7), C.hts _ i2⟩ ⟨Px.blind, Px.at C hP hz hS⟩ rfl hn hl rfl (lv_room hW) hd hf
theorem kj_N {host : String} (hI : In own ix y host cc' nL' ret' n) (hs : sh[t]? = some (0, ci)) (hc : CL[ci]? = some (y.cls, T, N)) (hR : Rj l D cA h0 ad y cc' nL' ret' ini h' mc' ms' g (.ref (h0 + t) :: As) sh P σ o') (hn : As.length = n) (hh : h' + 1 ≤ h) (hf : cells + mc' ≤ mc ∧ slots + ms' ≤ ms) (hW : (rest.map fun v => v.category).sum ≤ 8) (hd : decode cc pc = .ok (.invokevirtual ix, 3)) : Kj l D cA h0 ad own cc nL ret ini h mc ms cells slots mc' ms' sh P σ pc (As.reverse ++ .ref (h0 + t) :: rest) rest g o' := by
  intro b hb p e s m args below meth c H locs ls C hP hz hS hl
  obtain ⟨i1, i2, i3, i4, i5, i6, i7⟩ := hI
  have hE := C.2.2.2.2.2.2.2.2.2.2.2.2.2.2.2.1 _ i1
  exact va_runVN (As := As) (rest := rest) (Ts := TB) ⟨C.1, C.2.1, C.2.2.2.1, C.own, C.hts⟩ (hR b hb) ⟨va_cnB n C.hts (tb_in i5) rfl rfl rfl hE (C.hts _ i4) i6 (rmx_fit hh i7), C.hts _ i2, C.hts _ i3⟩ ⟨Px.blind, va_recv C.K hP hc (xw_at hs), Px.at C hP hz hS⟩ rfl hn hl rfl (lv_room hW) hd hf
theorem tj_callI {q : Nat} {st0 : List Value} {o' : Option (Int32 × St_)} {K : Int32 × St_ → Option β} (hK : Kj l D cA h0 ad own cc nL ret ini h mc ms cells slots 0 0 sh P σ pc st0 rest (fun b => (some (.int b.1), sh, P, b.2)) o') (hq : pc + 3 = q) (kk : ∀ r, Tj l D cA h0 ad own cc nL ret ini h mc ms f cells slots sh P r.2 q lv (.int r.1 :: rest) (K r)) : Tj l D cA h0 ad own cc nL ret ini h mc ms f cells slots sh P σ pc lv st0 (o'.bind K) := by
  subst hq
  intro b hb p e s m args below meth c H locs ls C hP hz hS hl
  cases ho : o' with
  | none => rw [ho] at hb; cases hb
  | some r =>
    rw [ho] at hb
    have hr := hK r ho p e s m args below meth c H locs ls C hP hz hS hl.1
    intro T hT X
    obtain ⟨v, st₀, t, T', L, g0, X', hL, e1, e2, ⟨hv, hp1, hz1, hF1, hF2⟩, go⟩ := hr T hT X
    cases hv
    rw [g0] at hF1 hF2
    obtain ⟨t2, a1, b1⟩ := kk r b hb p e s m args below meth c T'.heap (locs ++ L) ls C (by rw [e1]; exact hp1) (fun q => by rw [e1]; exact hz1 q) ⟨Nat.le_trans hS.1 (by rw [e1]; exact hF1), fun q h1 h2 => by rw [e1, hF2 q (Nat.lt_of_lt_of_le h1 hS.1) h2]; exact hS.2.1 q h1 h2, fun q hq => by
      rcases List.mem_append.mp hq with h | h
      · exact hS.2.2 q h
      · exact hL q h⟩ hl T' rfl X'
    exact ⟨t2, go t2 a1, b1⟩
theorem tj_callIp {q : Nat} {st0 : List Value} {o' : Option (Int32)} {K : Int32 → Option β} (hK : Kj l D cA h0 ad own cc nL ret ini h mc ms cells slots 0 0 sh P σ pc st0 rest (fun b => (some (.int b), sh, P, σ)) o') (hq : pc + 3 = q) (kk : ∀ r, Tj l D cA h0 ad own cc nL ret ini h mc ms f cells slots sh P σ q lv (.int r :: rest) (K r)) : Tj l D cA h0 ad own cc nL ret ini h mc ms f cells slots sh P σ pc lv st0 (o'.bind K) := by
  subst hq
  intro b hb p e s m args below meth c H locs ls C hP hz hS hl
  cases ho : o' with
  | none => rw [ho] at hb; cases hb
  | some r =>
    rw [ho] at hb
    have hr := hK r ho p e s m args below meth c H locs ls C hP hz hS hl.1
    intro T hT X
    obtain ⟨v, st₀, t, T', L, g0, X', hL, e1, e2, ⟨hv, hp1, hz1, hF1, hF2⟩, go⟩ := hr T hT X
    cases hv
    rw [g0] at hF1 hF2
    obtain ⟨t2, a1, b1⟩ := kk r b hb p e s m args below meth c T'.heap (locs ++ L) ls C (by rw [e1]; exact hp1) (fun q => by rw [e1]; exact hz1 q) ⟨Nat.le_trans hS.1 (by rw [e1]; exact hF1), fun q h1 h2 => by rw [e1, hF2 q (Nat.lt_of_lt_of_le h1 hS.1) h2]; exact hS.2.1 q h1 h2, fun q hq => by
      rcases List.mem_append.mp hq with h | h
      · exact hS.2.2 q h
      · exact hL q h⟩ hl T' rfl X'
    exact ⟨t2, go t2 a1, b1⟩
theorem tj_callZ {q : Nat} {st0 : List Value} {o' : Option (Bool × St_)} {K : Bool × St_ → Option β} (hK : Kj l D cA h0 ad own cc nL ret ini h mc ms cells slots 0 0 sh P σ pc st0 rest (fun b => (some (.int (b2i b.1)), sh, P, b.2)) o') (hq : pc + 3 = q) (kk : ∀ r, Tj l D cA h0 ad own cc nL ret ini h mc ms f cells slots sh P r.2 q lv (.int (b2i r.1) :: rest) (K r)) : Tj l D cA h0 ad own cc nL ret ini h mc ms f cells slots sh P σ pc lv st0 (o'.bind K) := by
  subst hq
  intro b hb p e s m args below meth c H locs ls C hP hz hS hl
  cases ho : o' with
  | none => rw [ho] at hb; cases hb
  | some r =>
    rw [ho] at hb
    have hr := hK r ho p e s m args below meth c H locs ls C hP hz hS hl.1
    intro T hT X
    obtain ⟨v, st₀, t, T', L, g0, X', hL, e1, e2, ⟨hv, hp1, hz1, hF1, hF2⟩, go⟩ := hr T hT X
    cases hv
    rw [g0] at hF1 hF2
    obtain ⟨t2, a1, b1⟩ := kk r b hb p e s m args below meth c T'.heap (locs ++ L) ls C (by rw [e1]; exact hp1) (fun q => by rw [e1]; exact hz1 q) ⟨Nat.le_trans hS.1 (by rw [e1]; exact hF1), fun q h1 h2 => by rw [e1, hF2 q (Nat.lt_of_lt_of_le h1 hS.1) h2]; exact hS.2.1 q h1 h2, fun q hq => by
      rcases List.mem_append.mp hq with h | h
      · exact hS.2.2 q h
      · exact hL q h⟩ hl T' rfl X'
    exact ⟨t2, go t2 a1, b1⟩
theorem tj_callZp {q : Nat} {st0 : List Value} {o' : Option (Bool)} {K : Bool → Option β} (hK : Kj l D cA h0 ad own cc nL ret ini h mc ms cells slots 0 0 sh P σ pc st0 rest (fun b => (some (.int (b2i b)), sh, P, σ)) o') (hq : pc + 3 = q) (kk : ∀ r, Tj l D cA h0 ad own cc nL ret ini h mc ms f cells slots sh P σ q lv (.int (b2i r) :: rest) (K r)) : Tj l D cA h0 ad own cc nL ret ini h mc ms f cells slots sh P σ pc lv st0 (o'.bind K) := by
  subst hq
  intro b hb p e s m args below meth c H locs ls C hP hz hS hl
  cases ho : o' with
  | none => rw [ho] at hb; cases hb
  | some r =>
    rw [ho] at hb
    have hr := hK r ho p e s m args below meth c H locs ls C hP hz hS hl.1
    intro T hT X
    obtain ⟨v, st₀, t, T', L, g0, X', hL, e1, e2, ⟨hv, hp1, hz1, hF1, hF2⟩, go⟩ := hr T hT X
    cases hv
    rw [g0] at hF1 hF2
    obtain ⟨t2, a1, b1⟩ := kk r b hb p e s m args below meth c T'.heap (locs ++ L) ls C (by rw [e1]; exact hp1) (fun q => by rw [e1]; exact hz1 q) ⟨Nat.le_trans hS.1 (by rw [e1]; exact hF1), fun q h1 h2 => by rw [e1, hF2 q (Nat.lt_of_lt_of_le h1 hS.1) h2]; exact hS.2.1 q h1 h2, fun q hq => by
      rcases List.mem_append.mp hq with h | h
      · exact hS.2.2 q h
      · exact hL q h⟩ hl T' rfl X'
    exact ⟨t2, go t2 a1, b1⟩
theorem tj_callV {q : Nat} {st0 : List Value} {o' : Option (St_)} {K : St_ → Option β} (hK : Kj l D cA h0 ad own cc nL ret ini h mc ms cells slots 0 0 sh P σ pc st0 rest (fun b => (none, sh, P, b)) o') (hq : pc + 3 = q) (kk : ∀ r, Tj l D cA h0 ad own cc nL ret ini h mc ms f cells slots sh P r q lv rest (K r)) : Tj l D cA h0 ad own cc nL ret ini h mc ms f cells slots sh P σ pc lv st0 (o'.bind K) := by
  subst hq
  intro b hb p e s m args below meth c H locs ls C hP hz hS hl
  cases ho : o' with
  | none => rw [ho] at hb; cases hb
  | some r =>
    rw [ho] at hb
    have hr := hK r ho p e s m args below meth c H locs ls C hP hz hS hl.1
    intro T hT X
    obtain ⟨v, st₀, t, T', L, g0, X', hL, e1, e2, ⟨hv, hp1, hz1, hF1, hF2⟩, go⟩ := hr T hT X
    cases hv
    rw [g0] at hF1 hF2
    obtain ⟨t2, a1, b1⟩ := kk r b hb p e s m args below meth c T'.heap (locs ++ L) ls C (by rw [e1]; exact hp1) (fun q => by rw [e1]; exact hz1 q) ⟨Nat.le_trans hS.1 (by rw [e1]; exact hF1), fun q h1 h2 => by rw [e1, hF2 q (Nat.lt_of_lt_of_le h1 hS.1) h2]; exact hS.2.1 q h1 h2, fun q hq => by
      rcases List.mem_append.mp hq with h | h
      · exact hS.2.2 q h
      · exact hL q h⟩ hl T' rfl X'
    exact ⟨t2, go t2 a1, b1⟩
theorem tj_callAp {q : Nat} {st0 : List Value} {o' : Option (Nat)} {K : Nat → Option β} (hK : Kj l D cA h0 ad own cc nL ret ini h mc ms cells slots 0 0 sh P σ pc st0 rest (fun b => (some (.ref (h0 + b)), sh, P, σ)) o') (hq : pc + 3 = q) (kk : ∀ r, Tj l D cA h0 ad own cc nL ret ini h mc ms f cells slots sh P σ q lv (.ref (h0 + r) :: rest) (K r)) : Tj l D cA h0 ad own cc nL ret ini h mc ms f cells slots sh P σ pc lv st0 (o'.bind K) := by
  subst hq
  intro b hb p e s m args below meth c H locs ls C hP hz hS hl
  cases ho : o' with
  | none => rw [ho] at hb; cases hb
  | some r =>
    rw [ho] at hb
    have hr := hK r ho p e s m args below meth c H locs ls C hP hz hS hl.1
    intro T hT X
    obtain ⟨v, st₀, t, T', L, g0, X', hL, e1, e2, ⟨hv, hp1, hz1, hF1, hF2⟩, go⟩ := hr T hT X
    cases hv
    rw [g0] at hF1 hF2
    obtain ⟨t2, a1, b1⟩ := kk r b hb p e s m args below meth c T'.heap (locs ++ L) ls C (by rw [e1]; exact hp1) (fun q => by rw [e1]; exact hz1 q) ⟨Nat.le_trans hS.1 (by rw [e1]; exact hF1), fun q h1 h2 => by rw [e1, hF2 q (Nat.lt_of_lt_of_le h1 hS.1) h2]; exact hS.2.1 q h1 h2, fun q hq => by
      rcases List.mem_append.mp hq with h | h
      · exact hS.2.2 q h
      · exact hL q h⟩ hl T' rfl X'
    exact ⟨t2, go t2 a1, b1⟩
def Ijc (own : String) (ix : Nat) : Prop := Cond.methodLink own ix arraycopyName ∈ TB ∧ Cond.native arraycopyName ∈ TB ∧ Cond.static arraycopyName ∈ TB ∧ Cond.initialized "java/lang/System" ∈ TB
def cpok (sp dp n : Int32) (n0 n1 : Nat) : Bool := !(decide (sp < 0)) && !(decide (dp < 0)) && !(decide (n < 0)) && decide (sp.toNatClampNeg + n.toNatClampNeg ≤ n0) && decide (dp.toNatClampNeg + n.toNatClampNeg ≤ n1)
def cpI (σ : St_) (a b : Nat) (sp dp n : Int32) : St_ := (fun i => if i = b then va_cpy (σ.1 a) (σ.1 b) sp.toNatClampNeg dp.toNatClampNeg n.toNatClampNeg else σ.1 i, σ.2)
theorem xw_cp {a b n1 : Nat} {sp dp n : Int32} (hs : sh[b]? = some (1, n1)) : (xw h0 cA sh P σ).set b (h0 + b, .inl (cA 1, n1, .inl (va_cpy (σ.1 a) (σ.1 b) sp.toNatClampNeg dp.toNatClampNeg n.toNatClampNeg))) = xw h0 cA sh P (cpI σ a b sp dp n) := by
  refine xw_set hs ?_ (fun j hj t => xe_ne (by simp [cpI, hj]) rfl rfl)
  show Sum.inl (cA 1, n1, Sum.inl ((cpI σ a b sp dp n).1 b)) = _
  simp [cpI]
theorem tj_copy {q a b n0 n1 ix : Nat} {sp dp n : Int32} {K : St_ → Option β} (ha : sh[a]? = some (1, n0)) (hb1 : sh[b]? = some (1, n1)) (hI : Ijc own ix) (hd : decode cc pc = .ok (.invokestatic ix, 3)) (hq : pc + 3 = q) (hh : 1 ≤ h) (hw : (st.map fun v => v.category).sum + (nativeFrameWords "java/lang/System" "arraycopy" 5 + 11) ≤ 40 * h) (kk : ∀ σ1, Tj l D cA h0 ad own cc nL ret false h mc ms f cells slots sh P σ1 q lv st (K σ1)) : Tj l D cA h0 ad own cc nL ret false h mc ms f cells slots sh P σ pc lv (.int n :: .int dp :: .ref (h0 + b) :: .int sp :: .ref (h0 + a) :: st) (if cpok sp dp n n0 n1 = true then bnd (cpI σ a b sp dp n) K else none) := by
  subst hq
  refine tj_gd (fun hg => ?_)
  simp only [cpok, Bool.and_eq_true, Bool.not_eq_true', decide_eq_false_iff_not, decide_eq_true_eq] at hg
  obtain ⟨⟨⟨⟨g1, g2⟩, g3⟩, g4⟩, g5⟩ := hg
  refine fun b_ hb p e s m args below meth c H locs ls C hP hz hS hl => va_copyi C.1 C.2.1 (C.2.2.2.1.trans hl.1.symm) C.own (C.hts _ hI.1) (C.hts _ hI.2.1) (C.hts _ hI.2.2.1) (C.hts _ hI.2.2.2) C.K hP xw_D hS a b 0 0 (xw_at ha) (xw_at hb1) rfl rfl rfl g1 g2 g3 g4 g5 (fun _ _ => rfl) hh hw hd (fun H1 locs1 hP1 hD1 hS1 => ?_)
  rw [xw_cp hb1] at hP1
  exact kk _ b_ hb p e s m args below meth c H1 locs1 ls C hP1 (fun h => by cases h) hS1 hl
theorem tj_max {q ix : Nat} {x y : Int32} (hI : Is own ix Lib.Math.max.name Lib.Math.max.code 2 (some .int) 2) (hd : decode cc pc = .ok (.invokestatic ix, 3)) (hq : pc + 3 = q) (hh : 1 ≤ h) (hw : (st.map fun v => v.category).sum + 13 ≤ 40 * h) (kk : Tj l D cA h0 ad own cc nL ret ini h mc ms f 0 0 sh P σ q lv (.int (if x < y then y else x) :: st) o) : Tj l D cA h0 ad own cc nL ret ini h mc ms f 0 0 sh P σ pc lv (.int y :: .int x :: st) o := by
  subst hq
  exact fun b hb p e s m args below meth c H locs ls C hP hz hS hl => va_mmax C.1 C.2.1 (C.2.2.2.1.trans hl.1.symm) C.own (C.hts _ hI.1) (C.hts _ hI.2.1) (C.hts _ hI.2.2.1) (C.hts _ hI.2.2.2.1) hh hw (Nat.zero_le _) (Nat.zero_le _) hd (kk b hb p e s m args below meth c H locs ls C hP hz hS hl)
end TH
