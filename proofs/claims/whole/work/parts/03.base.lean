/-! The world as a store of numbers: cells by their numbers 0, 1 .., cell i at the address h0 + i. -/
abbrev St_ : Type := (Nat → Nat → Int32) × (Nat → Nat → Int64)
abbrev Px_ : Type := Nat → Nat → Option Nat
abbrev Sh_ : Type := List (Nat × Nat)
abbrev Ad_ : Type := (Nat → Nat) × (Nat → Nat)
abbrev Out_ : Type := Option Value × Sh_ × Px_ × St_
def up2 {α : Type} (f : Nat → Nat → α) (i k : Nat) (x : α) : Nat → Nat → α := fun a => if a = i then (fun b => if b = k then x else f i b) else f a
def sI (σ : St_) (i k : Nat) (x : Int32) : St_ := (up2 σ.1 i k x, σ.2)
def sL (σ : St_) (i k : Nat) (x : Int64) : St_ := (σ.1, up2 σ.2 i k x)
def bnd {α β : Type} (a : α) (k : α → β) : β := k a
def b2i (b : Bool) : Int32 := match b with
  | true => 1
  | false => 0
/-- an index within -/
def bin (i : Int32) (n : Nat) : Bool := !(decide (i < 0)) && decide (i.toNatClampNeg < n)
theorem bin_in {i : Int32} {n : Nat} (h : bin i n = true) : vp_in i n := by
  unfold bin at h
  simp only [Bool.and_eq_true, Bool.not_eq_true', decide_eq_false_iff_not, decide_eq_true_eq] at h
  intro q
  rcases q with q | q
  · exact h.1 q
  · exact absurd h.2 (Nat.not_lt.mpr q)
/-- the kinds of the fields: 0 an int or a boolean, 1 a long, 2 a reference -/
def FKL : List (List Nat) := [[2, 0, 0, 0], [0, 0, 0, 0, 0, 2, 2, 2, 2, 2, 2, 2, 2, 2, 2, 2], [2], [2, 2, 2, 2, 0, 0], [2, 2, 2, 2, 2, 2, 0, 0, 0, 0], [2, 2, 2, 2, 2, 2, 2, 0, 2, 0, 0, 0, 0, 0, 0], [2, 2, 0, 0, 0], [2, 2, 2, 2, 2, 0, 0, 0, 0], [2, 2, 0, 0, 0], [2, 2, 2, 2, 0, 2, 2, 2, 2, 0], [2, 0, 2, 2, 2, 0, 0, 0, 0], [2, 2, 2, 2, 2, 2, 2, 0, 2, 0, 2, 0, 2, 2, 2, 2], [2, 0, 0, 0, 0, 0, 0, 0, 0, 1, 2, 2, 0, 2, 2, 2, 2, 2, 2, 0, 0, 0, 0, 0, 0, 0, 2, 2, 2, 2, 2, 2, 2, 2, 2, 2, 2, 2, 2, 2, 2, 2, 2, 2, 2, 0, 0, 0, 0, 0, 0, 0, 0, 0, 0, 0, 0, 0, 0, 0, 2, 2, 0, 0, 0, 0, 0, 2, 0, 0, 2, 0, 2, 2, 2, 2, 0, 0, 0, 2, 2, 2, 2, 2, 2, 2, 0, 0, 2, 2, 2]]
def xf (h0 : Nat) (P : Px_) (σ : St_) (i : Nat) (kd k : Nat) : Value := match kd with
  | 0 => .int (σ.1 i k)
  | 1 => .long (σ.2 i k)
  | _ => va_rf ((P i k).map (fun q => h0 + q))
def xo (h0 : Nat) (P : Px_) (σ : St_) (i ci : Nat) : List Value := (FKL.getD ci []).zipIdx.map (fun q => xf h0 P σ i q.1 q.2)
def xe (h0 : Nat) (cA : Nat → ClassId) (P : Px_) (σ : St_) (i : Nat) (s : Nat × Nat) : va_E := match s.1 with
  | 0 => .inr (s.2, xo h0 P σ i s.2)
  | 1 => .inl (cA 1, s.2, .inl (σ.1 i))
  | 2 => .inl (cA 2, s.2, .inr (.inl (σ.2 i)))
  | 3 => .inl (cA 3, s.2, .inl (σ.1 i))
  | _ => .inl (cA 4, s.2, .inr (.inr (.inr (.inr (fun k => (P i k).map (fun q => h0 + q))))))
def xw (h0 : Nat) (cA : Nat → ClassId) (sh : Sh_) (P : Px_) (σ : St_) : va_W := sh.zipIdx.map (fun q => (h0 + q.2, xe h0 cA P σ q.2 q.1))
abbrev TYS (cA : Nat → ClassId) : List (ClassId × FieldType) := [(cA 1, .int), (cA 2, .long), (cA 3, .boolean), (cA 4, .object "BetterThieves$State")]
theorem xw_at {h0 : Nat} {cA : Nat → ClassId} {sh : Sh_} {P : Px_} {σ : St_} {i : Nat} {s : Nat × Nat} (h : sh[i]? = some s) : (xw h0 cA sh P σ)[i]? = some (h0 + i, xe h0 cA P σ i s) := by
  simp [xw, List.getElem?_map, List.getElem?_zipIdx, h]
theorem xw_inv {h0 : Nat} {cA : Nat → ClassId} {sh : Sh_} {P : Px_} {σ : St_} {i : Nat} {q : Nat × va_E} (h : (xw h0 cA sh P σ)[i]? = some q) : ∃ s, sh[i]? = some s ∧ q = (h0 + i, xe h0 cA P σ i s) := by
  simp only [xw, List.getElem?_map, List.getElem?_zipIdx] at h
  cases hs : sh[i]? with
  | none => rw [hs] at h; simp at h
  | some s => rw [hs] at h; refine ⟨s, rfl, ?_⟩; simp at h; exact h.symm
theorem xw_len {h0 : Nat} {cA : Nat → ClassId} {sh : Sh_} {P : Px_} {σ : St_} : (xw h0 cA sh P σ).length = sh.length := by simp [xw]
theorem xw_D {h0 : Nat} {cA : Nat → ClassId} {sh : Sh_} {P : Px_} {σ : St_} : va_D (fun q => h0 ≤ q) (xw h0 cA sh P σ) := by
  refine ⟨fun i j p q hp hq e => ?_, fun k q hk => ?_⟩
  · obtain ⟨_, -, rfl⟩ := xw_inv hp
    obtain ⟨_, -, rfl⟩ := xw_inv hq
    simp only at e
    omega
  · obtain ⟨_, -, rfl⟩ := xw_inv hk
    exact Nat.le_add_right _ _
/-- one cell changes -/
theorem xw_set {h0 : Nat} {cA : Nat → ClassId} {sh : Sh_} {P P' : Px_} {σ σ' : St_} {i : Nat} {s : Nat × Nat} {E : va_E} (h : sh[i]? = some s) (hE : xe h0 cA P' σ' i s = E) (ho : ∀ j, j ≠ i → ∀ t, xe h0 cA P' σ' j t = xe h0 cA P σ j t) : (xw h0 cA sh P σ).set i (h0 + i, E) = xw h0 cA sh P' σ' := by
  apply List.ext_getElem?
  intro j
  rw [List.getElem?_set]
  by_cases hj : i = j
  · subst hj
    rw [if_pos rfl, xw_at h, hE]
    have : i < (xw h0 cA sh P σ).length := by rw [xw_len]; exact (List.getElem?_eq_some_iff.mp h).1
    rw [if_pos this]
  · rw [if_neg hj]
    simp only [xw, List.getElem?_map, List.getElem?_zipIdx]
    cases hs : sh[j]? with
    | none => rfl
    | some t =>
      simp only [Option.map_some, Nat.zero_add]
      rw [ho j (fun q => hj q.symm) t]
theorem up2_ne {α : Type} {f : Nat → Nat → α} {i k j : Nat} {x : α} (h : j ≠ i) : up2 f i k x j = f j := by simp [up2, h]
theorem up2_at {α : Type} {f : Nat → Nat → α} {i k : Nat} {x : α} : up2 f i k x i = fun b => if b = k then x else f i b := by simp [up2]
theorem xf_ne {h0 : Nat} {P P' : Px_} {σ σ' : St_} {i kd k : Nat} (h1 : σ'.1 i = σ.1 i) (h2 : σ'.2 i = σ.2 i) (h3 : P' i = P i) : xf h0 P' σ' i kd k = xf h0 P σ i kd k := by
  unfold xf
  rw [h1, h2, h3]
theorem xe_ne {h0 : Nat} {cA : Nat → ClassId} {P P' : Px_} {σ σ' : St_} {i : Nat} {s : Nat × Nat} (h1 : σ'.1 i = σ.1 i) (h2 : σ'.2 i = σ.2 i) (h3 : P' i = P i) : xe h0 cA P' σ' i s = xe h0 cA P σ i s := by
  unfold xe xo
  simp only [xf_ne (h0 := h0) h1 h2 h3]
  rw [h1, h2, h3]
theorem xo_at {h0 : Nat} {P : Px_} {σ : St_} {i ci k : Nat} {kd : Nat} (h : (FKL.getD ci [])[k]? = some kd) : (xo h0 P σ i ci)[k]? = some (xf h0 P σ i kd k) := by
  simp only [xo, List.getElem?_map, List.getElem?_zipIdx, h]
  simp
theorem xo_set {h0 : Nat} {P P' : Px_} {σ σ' : St_} {i ci k : Nat} {kd : Nat} {v : Value} (h : (FKL.getD ci [])[k]? = some kd) (hv : xf h0 P' σ' i kd k = v) (ho : ∀ j, j ≠ k → ∀ kd, xf h0 P' σ' i kd j = xf h0 P σ i kd j) : (xo h0 P σ i ci).set k v = xo h0 P' σ' i ci := by
  apply List.ext_getElem?
  intro j
  rw [List.getElem?_set]
  have hk : k < (FKL.getD ci []).length := (List.getElem?_eq_some_iff.mp h).1
  by_cases hj : k = j
  · subst hj
    rw [if_pos rfl, xo_at h, hv]
    have : k < (xo h0 P σ i ci).length := by simp only [xo, List.length_map, List.length_zipIdx]; exact hk
    rw [if_pos this]
  · rw [if_neg hj]
    simp only [xo, List.getElem?_map, List.getElem?_zipIdx]
    cases hs : (FKL.getD ci [])[j]? with
    | none => rfl
    | some t =>
      simp only [Option.map_some, Nat.zero_add]
      rw [ho j (fun q => hj q.symm) t]
theorem xo_len {h0 : Nat} {P : Px_} {σ : St_} {i ci : Nat} : (xo h0 P σ i ci).length = (FKL.getD ci []).length := by simp [xo]
def SLEN : List Nat := [11, 200]
def SBYT : List (List Int32) := [[59, 40, 41, 60, 62, 61, 43, 45, 42, 47, 37], [107, 105, 110, 100, 32, 32, 32, 32, 116, 104, 105, 110, 103, 32, 32, 32, 104, 111, 117, 115, 101, 32, 32, 32, 116, 104, 105, 101, 102, 32, 32, 32, 100, 101, 97, 114, 32, 32, 32, 32, 108, 97, 119, 32, 32, 32, 32, 32, 110, 105, 103, 104, 116, 32, 32, 32, 111, 102, 32, 32, 32, 32, 32, 32, 119, 101, 105, 103, 104, 116, 32, 32, 119, 111, 114, 116, 104, 32, 32, 32, 108, 111, 99, 107, 32, 32, 32, 32, 119, 97, 116, 99, 104, 32, 32, 32, 104, 97, 115, 32, 32, 32, 32, 32, 115, 97, 99, 107, 32, 32, 32, 32, 116, 111, 32, 32, 32, 32, 32, 32, 111, 114, 32, 32, 32, 32, 32, 32, 97, 110, 100, 32, 32, 32, 32, 32, 110, 111, 116, 32, 32, 32, 32, 32, 116, 97, 107, 101, 110, 32, 32, 32, 108, 101, 102, 116, 32, 32, 32, 32, 116, 111, 111, 107, 32, 32, 32, 32, 103, 97, 118, 101, 32, 32, 32, 32, 97, 108, 105, 107, 101, 32, 32, 32, 104, 111, 117, 114, 32, 32, 32, 32, 115, 107, 105, 108, 108, 32, 32, 32]]
/-- what stands below the world and isn't written: the two texts, and statics of String -/
def Ev (h0 : Nat) (ad : Ad_) (U : State) : Prop := vk_R "BetterThieves$Tokens" 61 ";()<>=+-*/%" (ad.1 0) U ∧ vk_R "BetterThieves$Tokens" 76 "kind    thing   house   thief   dear    law     night   of      weight  worth   lock    watch   has     sack    to      or      and     not     taken   left    took    gave    alike   hour    skill   " (ad.1 1) U ∧ vk_S 2 SLEN SBYT ad.1 ad.2 (fun q => h0 ≤ q) U U.heap ∧ va_Z "java/lang/String" "COMPACT_STRINGS" "Z" (.int 1) (fun q => h0 ≤ q) U U.heap ∧ va_Zq "jdk/internal/util/Preconditions" "SIOOBE_FORMATTER" "Ljava/util/function/BiFunction;" (fun q => h0 ≤ q) U U.heap ∧ (∀ q ∈ NW, va_Nw (.methodLinkNest q.1 q.2.1 q.2.2.1 q.2.2.2) U) ∧ va_AO "BetterThieves$State" U
theorem Ev.go {h0 : Nat} {ad : Ad_} {s U : State} (h : Ev h0 ad s) (hW : s.WarmedH U.vm) (hq : ∀ a : Nat, a < s.heap.size → ¬ h0 ≤ a → U.heap[a]? = s.heap[a]?) : Ev h0 ad U := by
  obtain ⟨h1, h2, h3, h4, h5, h6, h7⟩ := h
  exact ⟨h1.warm hW, h2.warm hW, (h3.moved hW.alike).kept hq, (h4.moved hW.alike).kept hq, (h5.moved hW.alike).kept hq, fun q hq => (h6 q hq).warmM hW, h7.moved hW.alike⟩
theorem Ev.calling {h0 : Nat} {ad : Ad_} {U : State} {g : JFrame} {mk : MethodId} {a : Array Value} (h : Ev h0 ad U) : Ev h0 ad (U.calling g mk a) := by
  obtain ⟨h1, h2, h3, h4, h5, h6, h7⟩ := h
  exact ⟨vk_R.same (u := U) rfl h1, vk_R.same (u := U) rfl h2, vk_S.moved (u := U) (Vm.Alike.refl U.vm) h3, va_Z.moved (u := U) (Vm.Alike.refl U.vm) h4, va_Zq.moved (u := U) (Vm.Alike.refl U.vm) h5, fun q hq => va_Nw.same rfl (u := U) rfl (h6 q hq), va_AO.moved (u := U) (Vm.Alike.refl U.vm) h7⟩
def rmx (h mc ms : Nat) : Room := { frames := h, cells := mc, slots := ms, locals := 40 * h }
/-- the end of a method: its answer and the world behind it -/
def Qx (D : va_G) (cA : Nat → ClassId) (h0 : Nat) (ini : Bool) (u : Out_) : Array Value → State → Outcome → State → Prop := fun _ st oc t => oc = .returned u.1 ∧ va_P D CL (xw h0 cA u.2.1 u.2.2.1 u.2.2.2) t.heap ∧ (ini = true → t.heap.size = h0 + u.2.1.length) ∧ va_F (fun q => h0 ≤ q) st t
/-- the start of a method -/
def Px (D : va_G) (cA : Nat → ClassId) (h0 : Nat) (ad : Ad_) (ini : Bool) (sh : Sh_) (P : Px_) (σ : St_) : State → Prop := fun U => va_P D CL (xw h0 cA sh P σ) U.heap ∧ (ini = true → U.heap.size = h0 + sh.length) ∧ h0 ≤ U.heap.size ∧ va_K D CL (TYS cA) U ∧ Ev h0 ad U
theorem Px.blind {D : va_G} {cA : Nat → ClassId} {h0 : Nat} {ad : Ad_} {ini : Bool} {sh : Sh_} {P : Px_} {σ : St_} {av : List Value} : FrameBlind (va_Pc av (Px D cA h0 ad ini sh P σ)) := by
  intro a U g mk q
  obtain ⟨q1, q2, q3, q4, q5, q6⟩ := q
  exact ⟨q1, q2, q3, q4, va_K.moved (u := U) (U := U.calling g mk a) (Vm.Alike.refl U.vm) q5, q6.calling⟩
/-- a method's contract: what 'o' says -/
def Rj {β : Type} (l : Launch) (D : va_G) (cA : Nat → ClassId) (h0 : Nat) (ad : Ad_) (y : MethodName) (cc : ByteArray) (nL : Nat) (ret : Option FieldType) (ini : Bool) (h mc ms : Nat) (f : β → Out_) (av : List Value) (sh : Sh_) (P : Px_) (σ : St_) (o : Option β) : Prop :=
  ∀ b, o = some b → Met l y (Cond.code y cc nL ret :: TB) (rmx h mc ms) (va_Pc av (Px D cA h0 ad ini sh P σ)) (Qx D cA h0 ini (f b)) mc ms (fun q => h0 ≤ q)
def Cx (D : va_G) (cA : Nat → ClassId) (h0 : Nat) (ad : Ad_) (own : String) (cc : ByteArray) (nL : Nat) (ret : Option FieldType) (ini : Bool) (p : Program) (s : State) (m : MethodId) (args : Array Value) (meth : Method) (c : Code) : Prop :=
  p.tables.exec = Jvm.exec ∧ c.code = cc ∧ meth.sig.returnType = ret ∧ c.maxLocals = nL ∧ s.vm.findClass own = some m.cls ∧ (∀ w ∈ TB, w.before args s = true) ∧ meth.locks = false ∧ (ini = true → meth.name = "<init>") ∧ va_K D CL (TYS cA) s ∧ h0 ≤ s.heap.size ∧ Ev h0 ad s
/-- from this place of the method on it ends as 'o' says -/
def Tj {β : Type} (l : Launch) (D : va_G) (cA : Nat → ClassId) (h0 : Nat) (ad : Ad_) (own : String) (cc : ByteArray) (nL : Nat) (ret : Option FieldType) (ini : Bool) (h mc ms : Nat) (f : β → Out_) (cells slots : Nat) (sh : Sh_) (P : Px_) (σ : St_) (pc : Nat) (lv : List (Nat × Value)) (st : List Value) (o : Option β) : Prop :=
  ∀ b, o = some b → ∀ p e s m args below meth c H locs ls, Cx D cA h0 ad own cc nL ret ini p s m args meth c → va_P D CL (xw h0 cA sh P σ) H → (ini = true → H.size = h0 + sh.length) → va_S (fun q => h0 ≤ q) s.heap H locs → lv_has ls nL lv →
    W p l e (rmx h mc ms) s m args below meth c H locs cells slots (MQ below (Qx D cA h0 ini (f b)) args s mc ms (fun q => h0 ≤ q)) (F0 m pc ls st)
theorem tb_good {w : Cond} (h : w ∈ TB) : goodWord w = true := (List.mem_filter.mp h).2
theorem tb_in {y : MethodName} {cc : ByteArray} {nL : Nat} {ret : Option FieldType} (hc : Cond.code y cc nL ret ∈ TB) : GoodIn TB (Cond.code y cc nL ret :: TB) := by
  intro w hw
  rcases List.mem_cons.mp hw with rfl | hw
  · exact ⟨hc, good_of_word (tb_good hc)⟩
  · exact ⟨hw, good_of_word (tb_good hw)⟩
section TJ
variable {β : Type} {l : Launch} {D : va_G} {cA : Nat → ClassId} {h0 : Nat} {ad : Ad_} {own : String} {cc : ByteArray} {nL : Nat} {ret : Option FieldType} {ini : Bool} {h mc ms : Nat} {f : β → Out_} {cells slots : Nat} {sh : Sh_} {P : Px_} {σ : St_} {pc : Nat} {lv : List (Nat × Value)} {st : List Value} {o : Option β}
/-- a method by its first place -/
theorem Rj.of {y : MethodName} {av : List Value} (hy : plainName y.cls = true) (hi : ini = true → y.name = "<init>") (hn : (lg_sl av).length ≤ nL)
    (k : Tj l D cA h0 ad y.cls cc nL ret ini h mc ms f 0 0 sh P σ 0 (lv_args 0 av) [] o) : Rj l D cA h0 ad y cc nL ret ini h mc ms f av sh P σ o := by
  intro b hb
  refine Met.ofW (cc := cc) (maxL := nL) (ret := ret) hy rfl ?_
  intro p e s m args below meth c s₁ B hml hv
  obtain ⟨rfl, hP, hz, hh, hK, hE⟩ := hv
  have hts := atoms_spec (ws := Cond.code y cc nL ret :: TB) B.pre
  have hown : s.vm.findClass y.cls = some m.cls := findClass_of_methodNamed B.named
  have hl := lv_entry av (n := nL) hn
  rw [lg_entry_eq]
  exact k b hb p e s m av.toArray below meth c s.heap [] _ ⟨B.exec, B.bytes, B.returns, hml, hown, fun w hw => hts w (List.mem_cons_of_mem _ hw), B.notSynchronized, fun q => ((name_of_methodNamed B.named B.method).1).trans (hi q), hK, hh, hE⟩ hP hz va_S.rf hl
theorem tj_none : Tj l D cA h0 ad own cc nL ret ini h mc ms f cells slots sh P σ pc lv st none := fun b hb => by cases hb
theorem tj_eq {o2 : Option β} (e : o = o2) (k : Tj l D cA h0 ad own cc nL ret ini h mc ms f cells slots sh P σ pc lv st o2) : Tj l D cA h0 ad own cc nL ret ini h mc ms f cells slots sh P σ pc lv st o := by rw [e]; exact k
theorem tj_bnd {α : Type} {a : α} {K : α → Option β} (J : α → Prop) (h1 : J a) (h2 : ∀ a, J a → Tj l D cA h0 ad own cc nL ret ini h mc ms f cells slots sh P σ pc lv st (K a)) : Tj l D cA h0 ad own cc nL ret ini h mc ms f cells slots sh P σ pc lv st (bnd a K) := h2 a h1
theorem tj_topI {x : Int32} {K : Int32 → Option β} (k : ∀ v, Tj l D cA h0 ad own cc nL ret ini h mc ms f cells slots sh P σ pc lv (.int v :: st) (K v)) : Tj l D cA h0 ad own cc nL ret ini h mc ms f cells slots sh P σ pc lv (.int x :: st) (bnd x K) := k x
theorem tj_topL {x : Int64} {K : Int64 → Option β} (k : ∀ v, Tj l D cA h0 ad own cc nL ret ini h mc ms f cells slots sh P σ pc lv (.long v :: st) (K v)) : Tj l D cA h0 ad own cc nL ret ini h mc ms f cells slots sh P σ pc lv (.long x :: st) (bnd x K) := k x
theorem tj_sndI {y : Int32} {x : Int32} {K : Int32 → Option β} (k : ∀ v, Tj l D cA h0 ad own cc nL ret ini h mc ms f cells slots sh P σ pc lv (.int y :: .int v :: st) (K v)) : Tj l D cA h0 ad own cc nL ret ini h mc ms f cells slots sh P σ pc lv (.int y :: .int x :: st) (bnd x K) := k x
theorem tj_sndL {y : Int64} {x : Int32} {K : Int32 → Option β} (k : ∀ v, Tj l D cA h0 ad own cc nL ret ini h mc ms f cells slots sh P σ pc lv (.long y :: .int v :: st) (K v)) : Tj l D cA h0 ad own cc nL ret ini h mc ms f cells slots sh P σ pc lv (.long y :: .int x :: st) (bnd x K) := k x
theorem tj_gd {b : Bool} (k : b = true → Tj l D cA h0 ad own cc nL ret ini h mc ms f cells slots sh P σ pc lv st o) : Tj l D cA h0 ad own cc nL ret ini h mc ms f cells slots sh P σ pc lv st (if b = true then o else none) := by
  by_cases hb : b = true
  · rw [if_pos hb]; exact k hb
  · rw [if_neg hb]; exact tj_none
theorem tj_lv0 {lv' : List (Nat × Value)} (e : lv = lv') (k : Tj l D cA h0 ad own cc nL ret ini h mc ms f cells slots sh P σ pc lv' st o) : Tj l D cA h0 ad own cc nL ret ini h mc ms f cells slots sh P σ pc lv st o := e ▸ k
theorem tj_gne {y : Int32} (k : ¬ y = 0 → Tj l D cA h0 ad own cc nL ret ini h mc ms f cells slots sh P σ pc lv st o) : Tj l D cA h0 ad own cc nL ret ini h mc ms f cells slots sh P σ pc lv st (if y = 0 then none else o) := by
  by_cases hb : y = 0
  · rw [if_pos hb]; exact tj_none
  · rw [if_neg hb]; exact k hb
theorem tj_lv {lv' : List (Nat × Value)} (ks : List Nat) (e : lv_pick lv ks = lv') (k : Tj l D cA h0 ad own cc nL ret ini h mc ms f cells slots sh P σ pc lv' st o) : Tj l D cA h0 ad own cc nL ret ini h mc ms f cells slots sh P σ pc lv st o := fun b hb p e' s m args below meth c H locs ls C hP hz hS hl => k b hb p e' s m args below meth c H locs ls C hP hz hS (lv_sub hl ks e)
theorem tj_iconst {q : Nat} {n : Int} {v : Int32} (hd : decode cc pc = .ok (.iconst n, 1)) (hq : pc + 1 = q) (hv : Int32.ofInt n = v) (k : Tj l D cA h0 ad own cc nL ret ini h mc ms f cells slots sh P σ q lv (.int v :: st) o) : Tj l D cA h0 ad own cc nL ret ini h mc ms f cells slots sh P σ pc lv st o := by
  subst hq
  exact fun b hb p e s m args below meth c H locs ls C hP hz hS hl => lv_iconst C.1 C.2.1 hd hv (k b hb p e s m args below meth c H locs ls C hP hz hS hl)
theorem tj_bipush {q : Nat} {n : Int} {v : Int32} (hd : decode cc pc = .ok (.bipush n, 2)) (hq : pc + 2 = q) (hv : (Int8.ofInt n).toInt32 = v) (k : Tj l D cA h0 ad own cc nL ret ini h mc ms f cells slots sh P σ q lv (.int v :: st) o) : Tj l D cA h0 ad own cc nL ret ini h mc ms f cells slots sh P σ pc lv st o := by
  subst hq
  exact fun b hb p e s m args below meth c H locs ls C hP hz hS hl => lv_bipush C.1 C.2.1 hd hv (k b hb p e s m args below meth c H locs ls C hP hz hS hl)
theorem tj_sipush {q : Nat} {n : Int} {v : Int32} (hd : decode cc pc = .ok (.sipush n, 3)) (hq : pc + 3 = q) (hv : (Int16.ofInt n).toInt32 = v) (k : Tj l D cA h0 ad own cc nL ret ini h mc ms f cells slots sh P σ q lv (.int v :: st) o) : Tj l D cA h0 ad own cc nL ret ini h mc ms f cells slots sh P σ pc lv st o := by
  subst hq
  exact fun b hb p e s m args below meth c H locs ls C hP hz hS hl => lv_sipush C.1 C.2.1 hd hv (k b hb p e s m args below meth c H locs ls C hP hz hS hl)
theorem tj_lconst {q : Nat} {n : Fin 2} {v : Int64} (hd : decode cc pc = .ok (.lconst n, 1)) (hq : pc + 1 = q) (hv : Int64.ofNat (n : Nat) = v) (k : Tj l D cA h0 ad own cc nL ret ini h mc ms f cells slots sh P σ q lv (.long v :: st) o) : Tj l D cA h0 ad own cc nL ret ini h mc ms f cells slots sh P σ pc lv st o := by
  subst hq
  exact fun b hb p e s m args below meth c H locs ls C hP hz hS hl => lv_lconst C.1 C.2.1 hd hv (k b hb p e s m args below meth c H locs ls C hP hz hS hl)
theorem tj_ldc {q : Nat} {ix : Nat} {v : Int32} (hd : decode cc pc = .ok (.ldc ix, 2)) (hq : pc + 2 = q) (hw : Cond.constant own ix v ∈ TB) (k : Tj l D cA h0 ad own cc nL ret ini h mc ms f cells slots sh P σ q lv (.int v :: st) o) : Tj l D cA h0 ad own cc nL ret ini h mc ms f cells slots sh P σ pc lv st o := by
  subst hq
  exact fun b hb p e s m args below meth c H locs ls C hP hz hS hl => lv_ldc C.1 C.2.1 C.2.2.2.2.1 (C.2.2.2.2.2.1 _ hw) hd (k b hb p e s m args below meth c H locs ls C hP hz hS hl)
theorem tj_ldc2 {q : Nat} {ix : Nat} {v : Int64} (hd : decode cc pc = .ok (.ldc2_w ix, 3)) (hq : pc + 3 = q) (hw : Cond.constantLong own ix v ∈ TB) (k : Tj l D cA h0 ad own cc nL ret ini h mc ms f cells slots sh P σ q lv (.long v :: st) o) : Tj l D cA h0 ad own cc nL ret ini h mc ms f cells slots sh P σ pc lv st o := by
  subst hq
  exact fun b hb p e s m args below meth c H locs ls C hP hz hS hl => lv_ldc2 C.1 C.2.1 C.2.2.2.2.1 (C.2.2.2.2.2.1 _ hw) hd (k b hb p e s m args below meth c H locs ls C hP hz hS hl)
theorem tj_iload_n {q : Nat} {k : Fin 4} {i pl : Nat} {x : Int32} (hd : decode cc pc = .ok (.iload_n k, 1)) (hq : pc + 1 = q) (hi : (k : Nat) = i) (hp : lv[pl]? = some (i, .int x)) (k : Tj l D cA h0 ad own cc nL ret ini h mc ms f cells slots sh P σ q lv (.int x :: st) o) : Tj l D cA h0 ad own cc nL ret ini h mc ms f cells slots sh P σ pc lv st o := by
  subst hq
  exact fun b hb p e s m args below meth c H locs ls C hP hz hS hl => lv_iload_n C.1 C.2.1 hd hi (lv_at hl pl hp) (k b hb p e s m args below meth c H locs ls C hP hz hS hl)
theorem tj_iload {q : Nat} {i pl : Nat} {x : Int32} (hd : decode cc pc = .ok (.iload i, 2)) (hq : pc + 2 = q) (hp : lv[pl]? = some (i, .int x)) (k : Tj l D cA h0 ad own cc nL ret ini h mc ms f cells slots sh P σ q lv (.int x :: st) o) : Tj l D cA h0 ad own cc nL ret ini h mc ms f cells slots sh P σ pc lv st o := by
  subst hq
  exact fun b hb p e s m args below meth c H locs ls C hP hz hS hl => lv_iload C.1 C.2.1 hd (lv_at hl pl hp) (k b hb p e s m args below meth c H locs ls C hP hz hS hl)
theorem tj_lload_n {q : Nat} {k : Fin 4} {i pl : Nat} {x : Int64} (hd : decode cc pc = .ok (.lload_n k, 1)) (hq : pc + 1 = q) (hi : (k : Nat) = i) (hp : lv[pl]? = some (i, .long x)) (k : Tj l D cA h0 ad own cc nL ret ini h mc ms f cells slots sh P σ q lv (.long x :: st) o) : Tj l D cA h0 ad own cc nL ret ini h mc ms f cells slots sh P σ pc lv st o := by
  subst hq
  exact fun b hb p e s m args below meth c H locs ls C hP hz hS hl => lv_lload_n C.1 C.2.1 hd hi (lv_at hl pl hp) (k b hb p e s m args below meth c H locs ls C hP hz hS hl)
theorem tj_lload {q : Nat} {i pl : Nat} {x : Int64} (hd : decode cc pc = .ok (.lload i, 2)) (hq : pc + 2 = q) (hp : lv[pl]? = some (i, .long x)) (k : Tj l D cA h0 ad own cc nL ret ini h mc ms f cells slots sh P σ q lv (.long x :: st) o) : Tj l D cA h0 ad own cc nL ret ini h mc ms f cells slots sh P σ pc lv st o := by
  subst hq
  exact fun b hb p e s m args below meth c H locs ls C hP hz hS hl => lv_lload C.1 C.2.1 hd (lv_at hl pl hp) (k b hb p e s m args below meth c H locs ls C hP hz hS hl)
theorem tj_aload_n {q : Nat} {k : Fin 4} {i pl : Nat} {x : Nat} (hd : decode cc pc = .ok (.aload_n k, 1)) (hq : pc + 1 = q) (hi : (k : Nat) = i) (hp : lv[pl]? = some (i, .ref x)) (k : Tj l D cA h0 ad own cc nL ret ini h mc ms f cells slots sh P σ q lv (.ref x :: st) o) : Tj l D cA h0 ad own cc nL ret ini h mc ms f cells slots sh P σ pc lv st o := by
  subst hq
  exact fun b hb p e s m args below meth c H locs ls C hP hz hS hl => lv_aload_n C.1 C.2.1 hd hi (lv_at hl pl hp) (k b hb p e s m args below meth c H locs ls C hP hz hS hl)
theorem tj_aload {q : Nat} {i pl : Nat} {x : Nat} (hd : decode cc pc = .ok (.aload i, 2)) (hq : pc + 2 = q) (hp : lv[pl]? = some (i, .ref x)) (k : Tj l D cA h0 ad own cc nL ret ini h mc ms f cells slots sh P σ q lv (.ref x :: st) o) : Tj l D cA h0 ad own cc nL ret ini h mc ms f cells slots sh P σ pc lv st o := by
  subst hq
  exact fun b hb p e s m args below meth c H locs ls C hP hz hS hl => lv_aload C.1 C.2.1 hd (lv_at hl pl hp) (k b hb p e s m args below meth c H locs ls C hP hz hS hl)
theorem tj_istore_n {q : Nat} {k : Fin 4} {i : Nat} {x : Int32} {lv' : List (Nat × Value)} (hd : decode cc pc = .ok (.istore_n k, 1)) (hq : pc + 1 = q) (hi : (k : Nat) = i) (hn : i < nL) (hs : (i, Value.int x) :: lv.filter (fun q => !(q.1 == i) && !(q.1 + 1 == i && q.2.category == 2)) = lv') (k : Tj l D cA h0 ad own cc nL ret ini h mc ms f cells slots sh P σ q lv' st o) : Tj l D cA h0 ad own cc nL ret ini h mc ms f cells slots sh P σ pc lv (Value.int x :: st) o := by
  subst hq
  exact fun b hb p e s m args below meth c H locs ls C hP hz hS hl => lv_istore_n C.1 C.2.1 hd hi hl hn hs (fun ls hl => k b hb p e s m args below meth c H locs ls C hP hz hS hl)
theorem tj_istore {q : Nat} {i : Nat} {x : Int32} {lv' : List (Nat × Value)} (hd : decode cc pc = .ok (.istore i, 2)) (hq : pc + 2 = q) (hn : i < nL) (hs : (i, Value.int x) :: lv.filter (fun q => !(q.1 == i) && !(q.1 + 1 == i && q.2.category == 2)) = lv') (k : Tj l D cA h0 ad own cc nL ret ini h mc ms f cells slots sh P σ q lv' st o) : Tj l D cA h0 ad own cc nL ret ini h mc ms f cells slots sh P σ pc lv (Value.int x :: st) o := by
  subst hq
  exact fun b hb p e s m args below meth c H locs ls C hP hz hS hl => lv_istore C.1 C.2.1 hd hl hn hs (fun ls hl => k b hb p e s m args below meth c H locs ls C hP hz hS hl)
theorem tj_lstore_n {q : Nat} {k : Fin 4} {i : Nat} {x : Int64} {lv' : List (Nat × Value)} (hd : decode cc pc = .ok (.lstore_n k, 1)) (hq : pc + 1 = q) (hi : (k : Nat) = i) (hn : i + 1 < nL) (hs : (i, Value.long x) :: lv.filter (fun q => !(q.1 == i) && (!(q.1 == i + 1) && !(q.1 + 1 == i && q.2.category == 2))) = lv') (k : Tj l D cA h0 ad own cc nL ret ini h mc ms f cells slots sh P σ q lv' st o) : Tj l D cA h0 ad own cc nL ret ini h mc ms f cells slots sh P σ pc lv (Value.long x :: st) o := by
  subst hq
  exact fun b hb p e s m args below meth c H locs ls C hP hz hS hl => lv_lstore_n C.1 C.2.1 hd hi hl hn hs (fun ls hl => k b hb p e s m args below meth c H locs ls C hP hz hS hl)
theorem tj_lstore {q : Nat} {i : Nat} {x : Int64} {lv' : List (Nat × Value)} (hd : decode cc pc = .ok (.lstore i, 2)) (hq : pc + 2 = q) (hn : i + 1 < nL) (hs : (i, Value.long x) :: lv.filter (fun q => !(q.1 == i) && (!(q.1 == i + 1) && !(q.1 + 1 == i && q.2.category == 2))) = lv') (k : Tj l D cA h0 ad own cc nL ret ini h mc ms f cells slots sh P σ q lv' st o) : Tj l D cA h0 ad own cc nL ret ini h mc ms f cells slots sh P σ pc lv (Value.long x :: st) o := by
  subst hq
  exact fun b hb p e s m args below meth c H locs ls C hP hz hS hl => lv_lstore C.1 C.2.1 hd hl hn hs (fun ls hl => k b hb p e s m args below meth c H locs ls C hP hz hS hl)
theorem tj_astore_n {q : Nat} {k : Fin 4} {i : Nat} {x : Nat} {lv' : List (Nat × Value)} (hd : decode cc pc = .ok (.astore_n k, 1)) (hq : pc + 1 = q) (hi : (k : Nat) = i) (hn : i < nL) (hs : (i, Value.ref x) :: lv.filter (fun q => !(q.1 == i) && !(q.1 + 1 == i && q.2.category == 2)) = lv') (k : Tj l D cA h0 ad own cc nL ret ini h mc ms f cells slots sh P σ q lv' st o) : Tj l D cA h0 ad own cc nL ret ini h mc ms f cells slots sh P σ pc lv (Value.ref x :: st) o := by
  subst hq
  exact fun b hb p e s m args below meth c H locs ls C hP hz hS hl => lv_astore_n C.1 C.2.1 hd hi hl hn hs (fun ls hl => k b hb p e s m args below meth c H locs ls C hP hz hS hl)
theorem tj_astore {q : Nat} {i : Nat} {x : Nat} {lv' : List (Nat × Value)} (hd : decode cc pc = .ok (.astore i, 2)) (hq : pc + 2 = q) (hn : i < nL) (hs : (i, Value.ref x) :: lv.filter (fun q => !(q.1 == i) && !(q.1 + 1 == i && q.2.category == 2)) = lv') (k : Tj l D cA h0 ad own cc nL ret ini h mc ms f cells slots sh P σ q lv' st o) : Tj l D cA h0 ad own cc nL ret ini h mc ms f cells slots sh P σ pc lv (Value.ref x :: st) o := by
  subst hq
  exact fun b hb p e s m args below meth c H locs ls C hP hz hS hl => lv_astore C.1 C.2.1 hd hl hn hs (fun ls hl => k b hb p e s m args below meth c H locs ls C hP hz hS hl)
theorem tj_iinc {q : Nat} {i pl : Nat} {n : Int} {x v : Int32} {lv' : List (Nat × Value)} (hd : decode cc pc = .ok (.iinc i n, 3)) (hq : pc + 3 = q) (hp : lv[pl]? = some (i, .int x)) (hv : x + Int32.ofInt n = v) (hn : i < nL) (hs : (i, Value.int v) :: lv.filter (fun q => !(q.1 == i) && !(q.1 + 1 == i && q.2.category == 2)) = lv') (k : Tj l D cA h0 ad own cc nL ret ini h mc ms f cells slots sh P σ q lv' st o) : Tj l D cA h0 ad own cc nL ret ini h mc ms f cells slots sh P σ pc lv st o := by
  subst hq
  exact fun b hb p e s m args below meth c H locs ls C hP hz hS hl => lv_iinc C.1 C.2.1 hd hl hp hv hn hs (fun ls hl => k b hb p e s m args below meth c H locs ls C hP hz hS hl)
theorem tj_iadd {q : Nat} {x y : Int32} (hd : decode cc pc = .ok (.iadd, 1)) (hq : pc + 1 = q) (k : Tj l D cA h0 ad own cc nL ret ini h mc ms f cells slots sh P σ q lv (.int (x + y) :: st) o) : Tj l D cA h0 ad own cc nL ret ini h mc ms f cells slots sh P σ pc lv (.int y :: .int x :: st) o := by
  subst hq
  exact fun b hb p e s m args below meth c H locs ls C hP hz hS hl => lv_iadd C.1 C.2.1 hd (k b hb p e s m args below meth c H locs ls C hP hz hS hl)
theorem tj_isub {q : Nat} {x y : Int32} (hd : decode cc pc = .ok (.isub, 1)) (hq : pc + 1 = q) (k : Tj l D cA h0 ad own cc nL ret ini h mc ms f cells slots sh P σ q lv (.int (x - y) :: st) o) : Tj l D cA h0 ad own cc nL ret ini h mc ms f cells slots sh P σ pc lv (.int y :: .int x :: st) o := by
  subst hq
  exact fun b hb p e s m args below meth c H locs ls C hP hz hS hl => lv_isub C.1 C.2.1 hd (k b hb p e s m args below meth c H locs ls C hP hz hS hl)
theorem tj_imul {q : Nat} {x y : Int32} (hd : decode cc pc = .ok (.imul, 1)) (hq : pc + 1 = q) (k : Tj l D cA h0 ad own cc nL ret ini h mc ms f cells slots sh P σ q lv (.int (x * y) :: st) o) : Tj l D cA h0 ad own cc nL ret ini h mc ms f cells slots sh P σ pc lv (.int y :: .int x :: st) o := by
  subst hq
  exact fun b hb p e s m args below meth c H locs ls C hP hz hS hl => lv_imul C.1 C.2.1 hd (k b hb p e s m args below meth c H locs ls C hP hz hS hl)
theorem tj_iand {q : Nat} {x y : Int32} (hd : decode cc pc = .ok (.iand, 1)) (hq : pc + 1 = q) (k : Tj l D cA h0 ad own cc nL ret ini h mc ms f cells slots sh P σ q lv (.int (x &&& y) :: st) o) : Tj l D cA h0 ad own cc nL ret ini h mc ms f cells slots sh P σ pc lv (.int y :: .int x :: st) o := by
  subst hq
  exact fun b hb p e s m args below meth c H locs ls C hP hz hS hl => lv_iand C.1 C.2.1 hd (k b hb p e s m args below meth c H locs ls C hP hz hS hl)
theorem tj_ior {q : Nat} {x y : Int32} (hd : decode cc pc = .ok (.ior, 1)) (hq : pc + 1 = q) (k : Tj l D cA h0 ad own cc nL ret ini h mc ms f cells slots sh P σ q lv (.int (x ||| y) :: st) o) : Tj l D cA h0 ad own cc nL ret ini h mc ms f cells slots sh P σ pc lv (.int y :: .int x :: st) o := by
  subst hq
  exact fun b hb p e s m args below meth c H locs ls C hP hz hS hl => lv_ior C.1 C.2.1 hd (k b hb p e s m args below meth c H locs ls C hP hz hS hl)
theorem tj_ixor {q : Nat} {x y : Int32} (hd : decode cc pc = .ok (.ixor, 1)) (hq : pc + 1 = q) (k : Tj l D cA h0 ad own cc nL ret ini h mc ms f cells slots sh P σ q lv (.int (x ^^^ y) :: st) o) : Tj l D cA h0 ad own cc nL ret ini h mc ms f cells slots sh P σ pc lv (.int y :: .int x :: st) o := by
  subst hq
  exact fun b hb p e s m args below meth c H locs ls C hP hz hS hl => lv_ixor C.1 C.2.1 hd (k b hb p e s m args below meth c H locs ls C hP hz hS hl)
theorem tj_ishl {q : Nat} {x y : Int32} (hd : decode cc pc = .ok (.ishl, 1)) (hq : pc + 1 = q) (k : Tj l D cA h0 ad own cc nL ret ini h mc ms f cells slots sh P σ q lv (.int (x <<< (y &&& 31)) :: st) o) : Tj l D cA h0 ad own cc nL ret ini h mc ms f cells slots sh P σ pc lv (.int y :: .int x :: st) o := by
  subst hq
  exact fun b hb p e s m args below meth c H locs ls C hP hz hS hl => lv_ishl C.1 C.2.1 hd (k b hb p e s m args below meth c H locs ls C hP hz hS hl)
theorem tj_ishr {q : Nat} {x y : Int32} (hd : decode cc pc = .ok (.ishr, 1)) (hq : pc + 1 = q) (k : Tj l D cA h0 ad own cc nL ret ini h mc ms f cells slots sh P σ q lv (.int (x >>> (y &&& 31)) :: st) o) : Tj l D cA h0 ad own cc nL ret ini h mc ms f cells slots sh P σ pc lv (.int y :: .int x :: st) o := by
  subst hq
  exact fun b hb p e s m args below meth c H locs ls C hP hz hS hl => lv_ishr C.1 C.2.1 hd (k b hb p e s m args below meth c H locs ls C hP hz hS hl)
theorem tj_idiv {q : Nat} {x y : Int32} (hd : decode cc pc = .ok (.idiv, 1)) (hq : pc + 1 = q) (hne : ¬ y = 0) (k : Tj l D cA h0 ad own cc nL ret ini h mc ms f cells slots sh P σ q lv (.int (x / y) :: st) o) : Tj l D cA h0 ad own cc nL ret ini h mc ms f cells slots sh P σ pc lv (.int y :: .int x :: st) o := by
  subst hq
  exact fun b hb p e s m args below meth c H locs ls C hP hz hS hl => lv_idiv C.1 C.2.1 hd hne (k b hb p e s m args below meth c H locs ls C hP hz hS hl)
theorem tj_irem {q : Nat} {x y : Int32} (hd : decode cc pc = .ok (.irem, 1)) (hq : pc + 1 = q) (hne : ¬ y = 0) (k : Tj l D cA h0 ad own cc nL ret ini h mc ms f cells slots sh P σ q lv (.int (x - x / y * y) :: st) o) : Tj l D cA h0 ad own cc nL ret ini h mc ms f cells slots sh P σ pc lv (.int y :: .int x :: st) o := by
  subst hq
  exact fun b hb p e s m args below meth c H locs ls C hP hz hS hl => lv_irem C.1 C.2.1 hd hne (k b hb p e s m args below meth c H locs ls C hP hz hS hl)
theorem tj_iushr {q : Nat} {x y : Int32} (hd : decode cc pc = .ok (.iushr, 1)) (hq : pc + 1 = q) (k : Tj l D cA h0 ad own cc nL ret ini h mc ms f cells slots sh P σ q lv (.int ((x.toUInt32 >>> (y.toUInt32 &&& Int32.toUInt32 31)).toInt32) :: st) o) : Tj l D cA h0 ad own cc nL ret ini h mc ms f cells slots sh P σ pc lv (.int y :: .int x :: st) o := by
  subst hq
  exact fun b hb p e s m args below meth c H locs ls C hP hz hS hl => lv_iushr C.1 C.2.1 hd rfl (k b hb p e s m args below meth c H locs ls C hP hz hS hl)
theorem tj_ladd {q : Nat} {x y : Int64} (hd : decode cc pc = .ok (.ladd, 1)) (hq : pc + 1 = q) (k : Tj l D cA h0 ad own cc nL ret ini h mc ms f cells slots sh P σ q lv (.long (x + y) :: st) o) : Tj l D cA h0 ad own cc nL ret ini h mc ms f cells slots sh P σ pc lv (.long y :: .long x :: st) o := by
  subst hq
  exact fun b hb p e s m args below meth c H locs ls C hP hz hS hl => lv_ladd C.1 C.2.1 hd (k b hb p e s m args below meth c H locs ls C hP hz hS hl)
theorem tj_lsub {q : Nat} {x y : Int64} (hd : decode cc pc = .ok (.lsub, 1)) (hq : pc + 1 = q) (k : Tj l D cA h0 ad own cc nL ret ini h mc ms f cells slots sh P σ q lv (.long (x - y) :: st) o) : Tj l D cA h0 ad own cc nL ret ini h mc ms f cells slots sh P σ pc lv (.long y :: .long x :: st) o := by
  subst hq
  exact fun b hb p e s m args below meth c H locs ls C hP hz hS hl => lv_lsub C.1 C.2.1 hd (k b hb p e s m args below meth c H locs ls C hP hz hS hl)
theorem tj_lmul {q : Nat} {x y : Int64} (hd : decode cc pc = .ok (.lmul, 1)) (hq : pc + 1 = q) (k : Tj l D cA h0 ad own cc nL ret ini h mc ms f cells slots sh P σ q lv (.long (x * y) :: st) o) : Tj l D cA h0 ad own cc nL ret ini h mc ms f cells slots sh P σ pc lv (.long y :: .long x :: st) o := by
  subst hq
  exact fun b hb p e s m args below meth c H locs ls C hP hz hS hl => lv_lmul C.1 C.2.1 hd (k b hb p e s m args below meth c H locs ls C hP hz hS hl)
theorem tj_lor {q : Nat} {x y : Int64} (hd : decode cc pc = .ok (.lor, 1)) (hq : pc + 1 = q) (k : Tj l D cA h0 ad own cc nL ret ini h mc ms f cells slots sh P σ q lv (.long (x ||| y) :: st) o) : Tj l D cA h0 ad own cc nL ret ini h mc ms f cells slots sh P σ pc lv (.long y :: .long x :: st) o := by
  subst hq
  exact fun b hb p e s m args below meth c H locs ls C hP hz hS hl => lv_lor C.1 C.2.1 hd (k b hb p e s m args below meth c H locs ls C hP hz hS hl)
theorem tj_lxor {q : Nat} {x y : Int64} (hd : decode cc pc = .ok (.lxor, 1)) (hq : pc + 1 = q) (k : Tj l D cA h0 ad own cc nL ret ini h mc ms f cells slots sh P σ q lv (.long (x ^^^ y) :: st) o) : Tj l D cA h0 ad own cc nL ret ini h mc ms f cells slots sh P σ pc lv (.long y :: .long x :: st) o := by
  subst hq
  exact fun b hb p e s m args below meth c H locs ls C hP hz hS hl => lv_lxor C.1 C.2.1 hd (k b hb p e s m args below meth c H locs ls C hP hz hS hl)
theorem tj_land {q : Nat} {x y : Int64} (hd : decode cc pc = .ok (.land, 1)) (hq : pc + 1 = q) (k : Tj l D cA h0 ad own cc nL ret ini h mc ms f cells slots sh P σ q lv (.long (x &&& y) :: st) o) : Tj l D cA h0 ad own cc nL ret ini h mc ms f cells slots sh P σ pc lv (.long y :: .long x :: st) o := by
  subst hq
  exact fun b hb p e s m args below meth c H locs ls C hP hz hS hl => lv_land C.1 C.2.1 hd (k b hb p e s m args below meth c H locs ls C hP hz hS hl)
theorem tj_lshl {q : Nat} {x : Int64} {y : Int32} (hd : decode cc pc = .ok (.lshl, 1)) (hq : pc + 1 = q) (k : Tj l D cA h0 ad own cc nL ret ini h mc ms f cells slots sh P σ q lv (.long (x <<< (y.toInt64 &&& 63)) :: st) o) : Tj l D cA h0 ad own cc nL ret ini h mc ms f cells slots sh P σ pc lv (.int y :: .long x :: st) o := by
  subst hq
  exact fun b hb p e s m args below meth c H locs ls C hP hz hS hl => lv_lshl C.1 C.2.1 hd rfl (k b hb p e s m args below meth c H locs ls C hP hz hS hl)
theorem tj_lshr {q : Nat} {x : Int64} {y : Int32} (hd : decode cc pc = .ok (.lshr, 1)) (hq : pc + 1 = q) (k : Tj l D cA h0 ad own cc nL ret ini h mc ms f cells slots sh P σ q lv (.long (x >>> (y.toInt64 &&& 63)) :: st) o) : Tj l D cA h0 ad own cc nL ret ini h mc ms f cells slots sh P σ pc lv (.int y :: .long x :: st) o := by
  subst hq
  exact fun b hb p e s m args below meth c H locs ls C hP hz hS hl => lv_lshr C.1 C.2.1 hd rfl (k b hb p e s m args below meth c H locs ls C hP hz hS hl)
theorem tj_lushr {q : Nat} {x : Int64} {y : Int32} (hd : decode cc pc = .ok (.lushr, 1)) (hq : pc + 1 = q) (k : Tj l D cA h0 ad own cc nL ret ini h mc ms f cells slots sh P σ q lv (.long ((x.toUInt64 >>> (y.toInt64.toUInt64 &&& Int64.toUInt64 63)).toInt64) :: st) o) : Tj l D cA h0 ad own cc nL ret ini h mc ms f cells slots sh P σ pc lv (.int y :: .long x :: st) o := by
  subst hq
  exact fun b hb p e s m args below meth c H locs ls C hP hz hS hl => lv_lushr C.1 C.2.1 hd rfl (k b hb p e s m args below meth c H locs ls C hP hz hS hl)
theorem tj_lcmp {q : Nat} {x y : Int64} (hd : decode cc pc = .ok (.lcmp, 1)) (hq : pc + 1 = q) (k : Tj l D cA h0 ad own cc nL ret ini h mc ms f cells slots sh P σ q lv (.int (lg_cmp x y) :: st) o) : Tj l D cA h0 ad own cc nL ret ini h mc ms f cells slots sh P σ pc lv (.long y :: .long x :: st) o := by
  subst hq
  exact fun b hb p e s m args below meth c H locs ls C hP hz hS hl => W.lcmp C.1 C.2.1 hd (k b hb p e s m args below meth c H locs ls C hP hz hS hl)
theorem tj_i2l {q : Nat} {x : Int32} (hd : decode cc pc = .ok (.i2l, 1)) (hq : pc + 1 = q) (k : Tj l D cA h0 ad own cc nL ret ini h mc ms f cells slots sh P σ q lv (.long x.toInt64 :: st) o) : Tj l D cA h0 ad own cc nL ret ini h mc ms f cells slots sh P σ pc lv (.int x :: st) o := by
  subst hq
  exact fun b hb p e s m args below meth c H locs ls C hP hz hS hl => lv_i2l C.1 C.2.1 hd rfl (k b hb p e s m args below meth c H locs ls C hP hz hS hl)
theorem tj_l2i {q : Nat} {x : Int64} (hd : decode cc pc = .ok (.l2i, 1)) (hq : pc + 1 = q) (k : Tj l D cA h0 ad own cc nL ret ini h mc ms f cells slots sh P σ q lv (.int x.toInt32 :: st) o) : Tj l D cA h0 ad own cc nL ret ini h mc ms f cells slots sh P σ pc lv (.long x :: st) o := by
  subst hq
  exact fun b hb p e s m args below meth c H locs ls C hP hz hS hl => lv_l2i C.1 C.2.1 hd rfl (k b hb p e s m args below meth c H locs ls C hP hz hS hl)
theorem tj_i2c {q : Nat} {x : Int32} (hd : decode cc pc = .ok (.i2c, 1)) (hq : pc + 1 = q) (k : Tj l D cA h0 ad own cc nL ret ini h mc ms f cells slots sh P σ q lv (.int ((x.toUInt32 % 65536).toInt32) :: st) o) : Tj l D cA h0 ad own cc nL ret ini h mc ms f cells slots sh P σ pc lv (.int x :: st) o := by
  subst hq
  exact fun b hb p e s m args below meth c H locs ls C hP hz hS hl => lv_i2c C.1 C.2.1 hd rfl (k b hb p e s m args below meth c H locs ls C hP hz hS hl)
theorem tj_dup {q : Nat} {v : Value} (hd : decode cc pc = .ok (.dup, 1)) (hq : pc + 1 = q) (hv : v.category = 1) (k : Tj l D cA h0 ad own cc nL ret ini h mc ms f cells slots sh P σ q lv (v :: v :: st) o) : Tj l D cA h0 ad own cc nL ret ini h mc ms f cells slots sh P σ pc lv (v :: st) o := by
  subst hq
  exact fun b hb p e s m args below meth c H locs ls C hP hz hS hl => lv_dup C.1 C.2.1 hd hv (k b hb p e s m args below meth c H locs ls C hP hz hS hl)
theorem tj_pop {q : Nat} {v : Value} (hd : decode cc pc = .ok (.pop, 1)) (hq : pc + 1 = q) (hv : v.category = 1) (k : Tj l D cA h0 ad own cc nL ret ini h mc ms f cells slots sh P σ q lv st o) : Tj l D cA h0 ad own cc nL ret ini h mc ms f cells slots sh P σ pc lv (v :: st) o := by
  subst hq
  exact fun b hb p e s m args below meth c H locs ls C hP hz hS hl => lv_pop C.1 C.2.1 hd hv (k b hb p e s m args below meth c H locs ls C hP hz hS hl)
theorem tj_dup2 {q : Nat} {v w : Value} (hd : decode cc pc = .ok (.dup2, 1)) (hq : pc + 1 = q) (hv : v.category = 1) (hw : w.category = 1) (k : Tj l D cA h0 ad own cc nL ret ini h mc ms f cells slots sh P σ q lv (v :: w :: v :: w :: st) o) : Tj l D cA h0 ad own cc nL ret ini h mc ms f cells slots sh P σ pc lv (v :: w :: st) o := by
  subst hq
  exact fun b hb p e s m args below meth c H locs ls C hP hz hS hl => lv_dup2_11 C.1 C.2.1 hd hv hw (k b hb p e s m args below meth c H locs ls C hP hz hS hl)
theorem tj_goto {q : Nat} {off : Int} (hd : decode cc pc = .ok (.goto off, 3)) (ht : (pc : Int) + off = (q : Int)) (k : Tj l D cA h0 ad own cc nL ret ini h mc ms f cells slots sh P σ q lv st o) : Tj l D cA h0 ad own cc nL ret ini h mc ms f cells slots sh P σ pc lv st o := fun b hb p e s m args below meth c H locs ls C hP hz hS hl => lv_goto C.1 C.2.1 hd ht (k b hb p e s m args below meth c H locs ls C hP hz hS hl)
theorem tj_if_eq {q tgt : Nat} {x : Int32} {off : Int} {o1 o2 : Option β} (hd : decode cc pc = .ok (.ifCond .eq off, 3)) (ht : (pc : Int) + off = (tgt : Int)) (hq : pc + 3 = q) (k1 : Tj l D cA h0 ad own cc nL ret ini h mc ms f cells slots sh P σ tgt lv st o1) (k2 : Tj l D cA h0 ad own cc nL ret ini h mc ms f cells slots sh P σ q lv st o2) : Tj l D cA h0 ad own cc nL ret ini h mc ms f cells slots sh P σ pc lv (.int x :: st) (if x = 0 then o1 else o2) := by
  subst hq
  exact fun b hb p e s m args below meth c H locs ls C hP hz hS hl => lv_if_eq C.1 C.2.1 hd ht (fun hc => k1 b (by rw [if_pos hc] at hb; exact hb) p e s m args below meth c H locs ls C hP hz hS hl) (fun hc => k2 b (by rw [if_neg hc] at hb; exact hb) p e s m args below meth c H locs ls C hP hz hS hl)
theorem tj_icmp_eq {q tgt : Nat} {x y : Int32} {off : Int} {o1 o2 : Option β} (hd : decode cc pc = .ok (.if_icmp .eq off, 3)) (ht : (pc : Int) + off = (tgt : Int)) (hq : pc + 3 = q) (k1 : Tj l D cA h0 ad own cc nL ret ini h mc ms f cells slots sh P σ tgt lv st o1) (k2 : Tj l D cA h0 ad own cc nL ret ini h mc ms f cells slots sh P σ q lv st o2) : Tj l D cA h0 ad own cc nL ret ini h mc ms f cells slots sh P σ pc lv (.int y :: .int x :: st) (if x = y then o1 else o2) := by
  subst hq
  exact fun b hb p e s m args below meth c H locs ls C hP hz hS hl => lv_icmp_eq C.1 C.2.1 hd ht (fun hc => k1 b (by rw [if_pos hc] at hb; exact hb) p e s m args below meth c H locs ls C hP hz hS hl) (fun hc => k2 b (by rw [if_neg hc] at hb; exact hb) p e s m args below meth c H locs ls C hP hz hS hl)
theorem tj_if_ne {q tgt : Nat} {x : Int32} {off : Int} {o1 o2 : Option β} (hd : decode cc pc = .ok (.ifCond .ne off, 3)) (ht : (pc : Int) + off = (tgt : Int)) (hq : pc + 3 = q) (k1 : Tj l D cA h0 ad own cc nL ret ini h mc ms f cells slots sh P σ q lv st o1) (k2 : Tj l D cA h0 ad own cc nL ret ini h mc ms f cells slots sh P σ tgt lv st o2) : Tj l D cA h0 ad own cc nL ret ini h mc ms f cells slots sh P σ pc lv (.int x :: st) (if x = 0 then o1 else o2) := by
  subst hq
  exact fun b hb p e s m args below meth c H locs ls C hP hz hS hl => lv_if_ne C.1 C.2.1 hd ht (fun hc => k2 b (by rw [if_neg hc] at hb; exact hb) p e s m args below meth c H locs ls C hP hz hS hl) (fun hc => k1 b (by rw [if_pos hc] at hb; exact hb) p e s m args below meth c H locs ls C hP hz hS hl)
theorem tj_icmp_ne {q tgt : Nat} {x y : Int32} {off : Int} {o1 o2 : Option β} (hd : decode cc pc = .ok (.if_icmp .ne off, 3)) (ht : (pc : Int) + off = (tgt : Int)) (hq : pc + 3 = q) (k1 : Tj l D cA h0 ad own cc nL ret ini h mc ms f cells slots sh P σ q lv st o1) (k2 : Tj l D cA h0 ad own cc nL ret ini h mc ms f cells slots sh P σ tgt lv st o2) : Tj l D cA h0 ad own cc nL ret ini h mc ms f cells slots sh P σ pc lv (.int y :: .int x :: st) (if x = y then o1 else o2) := by
  subst hq
  exact fun b hb p e s m args below meth c H locs ls C hP hz hS hl => lv_icmp_ne C.1 C.2.1 hd ht (fun hc => k2 b (by rw [if_neg hc] at hb; exact hb) p e s m args below meth c H locs ls C hP hz hS hl) (fun hc => k1 b (by rw [if_pos hc] at hb; exact hb) p e s m args below meth c H locs ls C hP hz hS hl)
theorem tj_if_lt {q tgt : Nat} {x : Int32} {off : Int} {o1 o2 : Option β} (hd : decode cc pc = .ok (.ifCond .lt off, 3)) (ht : (pc : Int) + off = (tgt : Int)) (hq : pc + 3 = q) (k1 : Tj l D cA h0 ad own cc nL ret ini h mc ms f cells slots sh P σ tgt lv st o1) (k2 : Tj l D cA h0 ad own cc nL ret ini h mc ms f cells slots sh P σ q lv st o2) : Tj l D cA h0 ad own cc nL ret ini h mc ms f cells slots sh P σ pc lv (.int x :: st) (if x < 0 then o1 else o2) := by
  subst hq
  exact fun b hb p e s m args below meth c H locs ls C hP hz hS hl => lv_if_lt C.1 C.2.1 hd ht (fun hc => k1 b (by rw [if_pos hc] at hb; exact hb) p e s m args below meth c H locs ls C hP hz hS hl) (fun hc => k2 b (by rw [if_neg hc] at hb; exact hb) p e s m args below meth c H locs ls C hP hz hS hl)
theorem tj_icmp_lt {q tgt : Nat} {x y : Int32} {off : Int} {o1 o2 : Option β} (hd : decode cc pc = .ok (.if_icmp .lt off, 3)) (ht : (pc : Int) + off = (tgt : Int)) (hq : pc + 3 = q) (k1 : Tj l D cA h0 ad own cc nL ret ini h mc ms f cells slots sh P σ tgt lv st o1) (k2 : Tj l D cA h0 ad own cc nL ret ini h mc ms f cells slots sh P σ q lv st o2) : Tj l D cA h0 ad own cc nL ret ini h mc ms f cells slots sh P σ pc lv (.int y :: .int x :: st) (if x < y then o1 else o2) := by
  subst hq
  exact fun b hb p e s m args below meth c H locs ls C hP hz hS hl => lv_icmp_lt C.1 C.2.1 hd ht (fun hc => k1 b (by rw [if_pos hc] at hb; exact hb) p e s m args below meth c H locs ls C hP hz hS hl) (fun hc => k2 b (by rw [if_neg hc] at hb; exact hb) p e s m args below meth c H locs ls C hP hz hS hl)
theorem tj_if_ge {q tgt : Nat} {x : Int32} {off : Int} {o1 o2 : Option β} (hd : decode cc pc = .ok (.ifCond .ge off, 3)) (ht : (pc : Int) + off = (tgt : Int)) (hq : pc + 3 = q) (k1 : Tj l D cA h0 ad own cc nL ret ini h mc ms f cells slots sh P σ tgt lv st o1) (k2 : Tj l D cA h0 ad own cc nL ret ini h mc ms f cells slots sh P σ q lv st o2) : Tj l D cA h0 ad own cc nL ret ini h mc ms f cells slots sh P σ pc lv (.int x :: st) (if 0 ≤ x then o1 else o2) := by
  subst hq
  exact fun b hb p e s m args below meth c H locs ls C hP hz hS hl => lv_if_ge C.1 C.2.1 hd ht (fun hc => k1 b (by rw [if_pos hc] at hb; exact hb) p e s m args below meth c H locs ls C hP hz hS hl) (fun hc => k2 b (by rw [if_neg hc] at hb; exact hb) p e s m args below meth c H locs ls C hP hz hS hl)
theorem tj_icmp_ge {q tgt : Nat} {x y : Int32} {off : Int} {o1 o2 : Option β} (hd : decode cc pc = .ok (.if_icmp .ge off, 3)) (ht : (pc : Int) + off = (tgt : Int)) (hq : pc + 3 = q) (k1 : Tj l D cA h0 ad own cc nL ret ini h mc ms f cells slots sh P σ tgt lv st o1) (k2 : Tj l D cA h0 ad own cc nL ret ini h mc ms f cells slots sh P σ q lv st o2) : Tj l D cA h0 ad own cc nL ret ini h mc ms f cells slots sh P σ pc lv (.int y :: .int x :: st) (if y ≤ x then o1 else o2) := by
  subst hq
  exact fun b hb p e s m args below meth c H locs ls C hP hz hS hl => lv_icmp_ge C.1 C.2.1 hd ht (fun hc => k1 b (by rw [if_pos hc] at hb; exact hb) p e s m args below meth c H locs ls C hP hz hS hl) (fun hc => k2 b (by rw [if_neg hc] at hb; exact hb) p e s m args below meth c H locs ls C hP hz hS hl)
theorem tj_if_gt {q tgt : Nat} {x : Int32} {off : Int} {o1 o2 : Option β} (hd : decode cc pc = .ok (.ifCond .gt off, 3)) (ht : (pc : Int) + off = (tgt : Int)) (hq : pc + 3 = q) (k1 : Tj l D cA h0 ad own cc nL ret ini h mc ms f cells slots sh P σ tgt lv st o1) (k2 : Tj l D cA h0 ad own cc nL ret ini h mc ms f cells slots sh P σ q lv st o2) : Tj l D cA h0 ad own cc nL ret ini h mc ms f cells slots sh P σ pc lv (.int x :: st) (if 0 < x then o1 else o2) := by
  subst hq
  exact fun b hb p e s m args below meth c H locs ls C hP hz hS hl => lv_if_gt C.1 C.2.1 hd ht (fun hc => k1 b (by rw [if_pos hc] at hb; exact hb) p e s m args below meth c H locs ls C hP hz hS hl) (fun hc => k2 b (by rw [if_neg hc] at hb; exact hb) p e s m args below meth c H locs ls C hP hz hS hl)
theorem tj_icmp_gt {q tgt : Nat} {x y : Int32} {off : Int} {o1 o2 : Option β} (hd : decode cc pc = .ok (.if_icmp .gt off, 3)) (ht : (pc : Int) + off = (tgt : Int)) (hq : pc + 3 = q) (k1 : Tj l D cA h0 ad own cc nL ret ini h mc ms f cells slots sh P σ tgt lv st o1) (k2 : Tj l D cA h0 ad own cc nL ret ini h mc ms f cells slots sh P σ q lv st o2) : Tj l D cA h0 ad own cc nL ret ini h mc ms f cells slots sh P σ pc lv (.int y :: .int x :: st) (if y < x then o1 else o2) := by
  subst hq
  exact fun b hb p e s m args below meth c H locs ls C hP hz hS hl => lv_icmp_gt C.1 C.2.1 hd ht (fun hc => k1 b (by rw [if_pos hc] at hb; exact hb) p e s m args below meth c H locs ls C hP hz hS hl) (fun hc => k2 b (by rw [if_neg hc] at hb; exact hb) p e s m args below meth c H locs ls C hP hz hS hl)
theorem tj_if_le {q tgt : Nat} {x : Int32} {off : Int} {o1 o2 : Option β} (hd : decode cc pc = .ok (.ifCond .le off, 3)) (ht : (pc : Int) + off = (tgt : Int)) (hq : pc + 3 = q) (k1 : Tj l D cA h0 ad own cc nL ret ini h mc ms f cells slots sh P σ tgt lv st o1) (k2 : Tj l D cA h0 ad own cc nL ret ini h mc ms f cells slots sh P σ q lv st o2) : Tj l D cA h0 ad own cc nL ret ini h mc ms f cells slots sh P σ pc lv (.int x :: st) (if x ≤ 0 then o1 else o2) := by
  subst hq
  exact fun b hb p e s m args below meth c H locs ls C hP hz hS hl => lv_if_le C.1 C.2.1 hd ht (fun hc => k1 b (by rw [if_pos hc] at hb; exact hb) p e s m args below meth c H locs ls C hP hz hS hl) (fun hc => k2 b (by rw [if_neg hc] at hb; exact hb) p e s m args below meth c H locs ls C hP hz hS hl)
theorem tj_icmp_le {q tgt : Nat} {x y : Int32} {off : Int} {o1 o2 : Option β} (hd : decode cc pc = .ok (.if_icmp .le off, 3)) (ht : (pc : Int) + off = (tgt : Int)) (hq : pc + 3 = q) (k1 : Tj l D cA h0 ad own cc nL ret ini h mc ms f cells slots sh P σ tgt lv st o1) (k2 : Tj l D cA h0 ad own cc nL ret ini h mc ms f cells slots sh P σ q lv st o2) : Tj l D cA h0 ad own cc nL ret ini h mc ms f cells slots sh P σ pc lv (.int y :: .int x :: st) (if x ≤ y then o1 else o2) := by
  subst hq
  exact fun b hb p e s m args below meth c H locs ls C hP hz hS hl => lv_icmp_le C.1 C.2.1 hd ht (fun hc => k1 b (by rw [if_pos hc] at hb; exact hb) p e s m args below meth c H locs ls C hP hz hS hl) (fun hc => k2 b (by rw [if_neg hc] at hb; exact hb) p e s m args below meth c H locs ls C hP hz hS hl)
theorem b2i_ne {b : Bool} : b2i b = 0 ↔ b = false := by cases b <;> decide
theorem tj_bz {q tgt : Nat} {x : Bool} {off : Int} {o1 o2 : Option β} (hd : decode cc pc = .ok (.ifCond .eq off, 3)) (ht : (pc : Int) + off = (tgt : Int)) (hq : pc + 3 = q) (k1 : Tj l D cA h0 ad own cc nL ret ini h mc ms f cells slots sh P σ q lv st o1) (k2 : Tj l D cA h0 ad own cc nL ret ini h mc ms f cells slots sh P σ tgt lv st o2) : Tj l D cA h0 ad own cc nL ret ini h mc ms f cells slots sh P σ pc lv (.int (b2i x) :: st) (if x = true then o1 else o2) := by
  subst hq
  exact fun b hb p e s m args below meth c H locs ls C hP hz hS hl => lv_if_eq C.1 C.2.1 hd ht (fun hc => k2 b (by rw [b2i_ne.mp hc] at hb; exact hb) p e s m args below meth c H locs ls C hP hz hS hl) (fun hc => k1 b (by cases x with
    | true => exact hb
    | false => exact absurd rfl hc) p e s m args below meth c H locs ls C hP hz hS hl)
theorem tj_bnz {q tgt : Nat} {x : Bool} {off : Int} {o1 o2 : Option β} (hd : decode cc pc = .ok (.ifCond .ne off, 3)) (ht : (pc : Int) + off = (tgt : Int)) (hq : pc + 3 = q) (k1 : Tj l D cA h0 ad own cc nL ret ini h mc ms f cells slots sh P σ tgt lv st o1) (k2 : Tj l D cA h0 ad own cc nL ret ini h mc ms f cells slots sh P σ q lv st o2) : Tj l D cA h0 ad own cc nL ret ini h mc ms f cells slots sh P σ pc lv (.int (b2i x) :: st) (if x = true then o1 else o2) := by
  subst hq
  exact fun b hb p e s m args below meth c H locs ls C hP hz hS hl => lv_if_ne C.1 C.2.1 hd ht (fun hc => k1 b (by cases x with
    | true => exact hb
    | false => exact absurd rfl hc) p e s m args below meth c H locs ls C hP hz hS hl) (fun hc => k2 b (by rw [b2i_ne.mp hc] at hb; exact hb) p e s m args below meth c H locs ls C hP hz hS hl)
theorem tj_ldcw {q : Nat} {ix : Nat} {v : Int32} (hd : decode cc pc = .ok (.ldc_w ix, 3)) (hq : pc + 3 = q) (hw : Cond.constant own ix v ∈ TB) (k : Tj l D cA h0 ad own cc nL ret ini h mc ms f cells slots sh P σ q lv (.int v :: st) o) : Tj l D cA h0 ad own cc nL ret ini h mc ms f cells slots sh P σ pc lv st o := by
  subst hq
  exact fun b hb p e s m args below meth c H locs ls C hP hz hS hl => lv_ldcw C.1 C.2.1 C.2.2.2.2.1 (C.2.2.2.2.2.1 _ hw) hd (k b hb p e s m args below meth c H locs ls C hP hz hS hl)
theorem tj_caseI {x k : Int32} {o1 o2 : Option β} (k1 : x = k → Tj l D cA h0 ad own cc nL ret ini h mc ms f cells slots sh P σ pc lv st o1) (k2 : ¬ x = k → Tj l D cA h0 ad own cc nL ret ini h mc ms f cells slots sh P σ pc lv st o2) : Tj l D cA h0 ad own cc nL ret ini h mc ms f cells slots sh P σ pc lv st (if x = k then o1 else o2) := by
  by_cases hb : x = k
  · rw [if_pos hb]; exact k1 hb
  · rw [if_neg hb]; exact k2 hb
theorem tj_tin {tgt : Nat} {dflt lo hi : Int} {offs : Array Int} {len : Nat} {x k : Int32} {off : Int} (hd : decode cc pc = .ok (.tableswitch dflt lo hi offs, len)) (hx : x = k) (h1 : ¬ k.toInt < lo) (h2 : ¬ hi < k.toInt) (ho : offs[(k.toInt - lo).toNat]? = some off) (ht : (pc : Int) + off = (tgt : Int)) (k : Tj l D cA h0 ad own cc nL ret ini h mc ms f cells slots sh P σ tgt lv st o) : Tj l D cA h0 ad own cc nL ret ini h mc ms f cells slots sh P σ pc lv (.int x :: st) o := by
  subst hx
  exact fun b hb p e s m args below meth c H locs ls C hP hz hS hl => lv_tableIn C.1 C.2.1 hd h1 h2 ho ht (k b hb p e s m args below meth c H locs ls C hP hz hS hl)
theorem tj_tout {tgt : Nat} {dflt lo hi : Int} {offs : Array Int} {len : Nat} {x : Int32} (hd : decode cc pc = .ok (.tableswitch dflt lo hi offs, len)) (hx : x.toInt < lo ∨ hi < x.toInt) (ht : (pc : Int) + dflt = (tgt : Int)) (k : Tj l D cA h0 ad own cc nL ret ini h mc ms f cells slots sh P σ tgt lv st o) : Tj l D cA h0 ad own cc nL ret ini h mc ms f cells slots sh P σ pc lv (.int x :: st) o := by
  exact fun b hb p e s m args below meth c H locs ls C hP hz hS hl => lv_tableOut C.1 C.2.1 hd hx ht (k b hb p e s m args below meth c H locs ls C hP hz hS hl)
theorem tj_look {tgt : Nat} {dflt : Int} {ps : Array (Int × Int)} {len : Nat} {x : Int32} {off : Int} (hd : decode cc pc = .ok (.lookupswitch dflt ps, len)) (hp : (ps.toList.zip (ps.toList.drop 1)).all (fun (a, next) => a.1 < next.1) = true) (ho : Op.lookupswitch.offset ps.toList dflt x.toInt = off) (ht : (pc : Int) + off = (tgt : Int)) (k : Tj l D cA h0 ad own cc nL ret ini h mc ms f cells slots sh P σ tgt lv st o) : Tj l D cA h0 ad own cc nL ret ini h mc ms f cells slots sh P σ pc lv (.int x :: st) o := by
  exact fun b hb p e s m args below meth c H locs ls C hP hz hS hl => lv_lookup C.1 C.2.1 hd hp ho ht (k b hb p e s m args below meth c H locs ls C hP hz hS hl)
theorem tj_dflt {tgt : Nat} {x : Int32} (k : Tj l D cA h0 ad own cc nL ret ini h mc ms f cells slots sh P σ tgt lv st o) (kk : Tj l D cA h0 ad own cc nL ret ini h mc ms f cells slots sh P σ tgt lv st o → Tj l D cA h0 ad own cc nL ret ini h mc ms f cells slots sh P σ pc lv (.int x :: st) o) : Tj l D cA h0 ad own cc nL ret ini h mc ms f cells slots sh P σ pc lv (.int x :: st) o := kk k
theorem tj_byI (x k : Int32) (k1 : x = k → Tj l D cA h0 ad own cc nL ret ini h mc ms f cells slots sh P σ pc lv st o) (k2 : ¬ x = k → Tj l D cA h0 ad own cc nL ret ini h mc ms f cells slots sh P σ pc lv st o) : Tj l D cA h0 ad own cc nL ret ini h mc ms f cells slots sh P σ pc lv st o := by
  by_cases hb : x = k
  · exact k1 hb
  · exact k2 hb
end TJ
