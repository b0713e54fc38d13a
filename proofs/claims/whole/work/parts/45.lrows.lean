/-! THE CLAIM OUT OF ONE WALK OF THE LAW'S BODY. Your part is whole_start (and what it stands on); all else here is the same for every law, but numbers. -/
def R_law : String := "BetterThievesLaw"
def lw_P (b : Addr) (xs : List Int32) (args : Array Value) (s : State) : Prop := args = #[.ref b] ∧ s.IntsAt b xs ∧ xs.length ≤ 3072 ∧ (Jvm.Cond.and given_1 narrow_1).before args s = true
def lw_Q (_ : Array Value) (s : State) (o : Outcome) (t : State) : Prop := o = .returned (some (.int 1)) ∧ Framed s o t [] 600000 7302249
def lw_Z (below : List Frame) (a : Array Value) (s : State) : State → Prop := fun t => ∃ o, t.status = .running ∧ Ended t below o ∧ lw_Q a s o t
/-- the law's own end, with 1 on the stack, nothing written that was there before, its room as the claim has it -/
theorem lw_ret {p : Program} {l : Launch} {e : Env} {s : State} {m : MethodId} {below : List Frame} {meth : Method} {c : Code} {b : Nat} (hx : p.tables.exec = Jvm.exec) (hb : c.code = code) (hr : meth.sig.returnType = ret) (hlocks : meth.locks = false) {pc : Nat} {H : Heap} {ls : Array Slot} (hdg : decode code pc = .ok (.ireturn, 1)) : W p l e room_1 s m #[Value.ref b] below meth c H [] 600000 7302249 (lw_Z below #[Value.ref b] s) (F0 m pc ls [.int 1]) := by
  intro T hT X
  obtain ⟨fs, hret, hrun, hended, hW, hframe⟩ := X.leave (v := some (.int 1)) (hlocks := hlocks) (fun h => by rw [hr] at h; cases h)
  have hmeth' : T.vm.method? m = some meth := X.method'
  refine ⟨T.setFrames fs, ?_, .returned (some (.int 1)), hrun, hended, rfl, ⟨_, rfl⟩, hW, hframe⟩
  jvm_step X.here [X.here.top, hx, hb, hdg, hmeth', hr, ret, narrow_b1]
  (try refine ⟨rfl, ?_⟩); (try refine ⟨rfl, ?_⟩)
  first | (intro acts; rw [hret _ acts rfl rfl rfl]) | rw [hret _ _ rfl rfl rfl]
  exact Steps.refl _
/-- what holds at the law's entry: the machine, the code, the tables' words (any of lw_tbl by 'hts w (by decide +kernel)'), the script of L ints xs at the cell b, what the Statement gives of the start (any of its parts by flat_of_before) -/
def lw_At (p : Program) (s : State) (m : MethodId) (meth : Method) (c : Code) (b L : Nat) (xs : Nat → Int32) : Prop :=
  p.tables.exec = Jvm.exec ∧ c.code = code ∧ meth.sig.returnType = ret ∧ c.maxLocals = 4 ∧ s.vm.findClass R_law = some m.cls ∧ (∀ w ∈ lw_tbl, w.before #[Value.ref b] s = true) ∧ va_X b L xs s s.heap ∧ b < s.heap.size ∧ meth.locks = false ∧ (Jvm.Cond.and given_1 narrow_1).before #[Value.ref b] s = true

section LW
variable {l : Launch} {D : va_G} {cA : Nat → ClassId} {h0 : Nat} {ad : Ad_} {b L : Nat} {xs : Nat → Int32} {sh : Sh_} {P : Px_} {σ : St_} {pc : Nat} {lv : List (Nat × Value)} {st : List Value}
def Lc (D : va_G) (cA : Nat → ClassId) (h0 : Nat) (ad : Ad_) (b L : Nat) (xs : Nat → Int32) (p : Program) (s : State) (m : MethodId) (meth : Method) (c : Code) : Prop := lw_At p s m meth c b L xs ∧ va_K D CL (TYS cA) s ∧ h0 = s.heap.size ∧ Ev h0 ad s
def Lj (l : Launch) (D : va_G) (cA : Nat → ClassId) (h0 : Nat) (ad : Ad_) (b L : Nat) (xs : Nat → Int32) (sh : Sh_) (P : Px_) (σ : St_) (pc : Nat) (lv : List (Nat × Value)) (st : List Value) : Prop :=
  ∀ p e s m below meth c H locs ls, Lc D cA h0 ad b L xs p s m meth c → va_P D CL (xw h0 cA sh P σ) H → va_S (fun q => h0 ≤ q) s.heap H locs → lv_has ls 4 lv →
    W p l e room_1 s m #[Value.ref b] below meth c H locs 280 48760 (lw_Z below #[Value.ref b] s) (F0 m pc ls st)
theorem Lc.hts {p : Program} {s : State} {m : MethodId} {meth : Method} {c : Code} (C : Lc D cA h0 ad b L xs p s m meth c) : ∀ w ∈ TB, w.before #[Value.ref b] s = true := fun w hw => C.1.2.2.2.2.2.1 w (List.mem_filter.mp hw).1
theorem Lc.own {p : Program} {s : State} {m : MethodId} {meth : Method} {c : Code} (C : Lc D cA h0 ad b L xs p s m meth c) : s.vm.findClass RL = some m.cls := C.1.2.2.2.2.1
theorem lj_iconst {q : Nat} {n : Int} {v : Int32} (hd : decode cL_law pc = .ok (.iconst n, 1)) (hq : pc + 1 = q) (hv : Int32.ofInt n = v) (k : Lj l D cA h0 ad b L xs sh P σ q lv (.int v :: st)) : Lj l D cA h0 ad b L xs sh P σ pc lv st := by
  subst hq
  exact fun p e s m below meth c H locs ls C hP hS hl => lv_iconst C.1.1 C.1.2.1 hd hv (k p e s m below meth c H locs ls C hP hS hl)
theorem lj_bipush {q : Nat} {n : Int} {v : Int32} (hd : decode cL_law pc = .ok (.bipush n, 2)) (hq : pc + 2 = q) (hv : (Int8.ofInt n).toInt32 = v) (k : Lj l D cA h0 ad b L xs sh P σ q lv (.int v :: st)) : Lj l D cA h0 ad b L xs sh P σ pc lv st := by
  subst hq
  exact fun p e s m below meth c H locs ls C hP hS hl => lv_bipush C.1.1 C.1.2.1 hd hv (k p e s m below meth c H locs ls C hP hS hl)
theorem lj_iload_n {q : Nat} {k : Fin 4} {i pl : Nat} {x : Int32} (hd : decode cL_law pc = .ok (.iload_n k, 1)) (hq : pc + 1 = q) (hi : (k : Nat) = i) (hp : lv[pl]? = some (i, .int x)) (k : Lj l D cA h0 ad b L xs sh P σ q lv (.int x :: st)) : Lj l D cA h0 ad b L xs sh P σ pc lv st := by
  subst hq
  exact fun p e s m below meth c H locs ls C hP hS hl => lv_iload_n C.1.1 C.1.2.1 hd hi (lv_at hl pl hp) (k p e s m below meth c H locs ls C hP hS hl)
theorem lj_aload_n {q : Nat} {k : Fin 4} {i pl : Nat} {x : Nat} (hd : decode cL_law pc = .ok (.aload_n k, 1)) (hq : pc + 1 = q) (hi : (k : Nat) = i) (hp : lv[pl]? = some (i, .ref x)) (k : Lj l D cA h0 ad b L xs sh P σ q lv (.ref x :: st)) : Lj l D cA h0 ad b L xs sh P σ pc lv st := by
  subst hq
  exact fun p e s m below meth c H locs ls C hP hS hl => lv_aload_n C.1.1 C.1.2.1 hd hi (lv_at hl pl hp) (k p e s m below meth c H locs ls C hP hS hl)
theorem lj_iadd {q : Nat} {x y : Int32} (hd : decode cL_law pc = .ok (.iadd, 1)) (hq : pc + 1 = q) (k : Lj l D cA h0 ad b L xs sh P σ q lv (.int (x + y) :: st)) : Lj l D cA h0 ad b L xs sh P σ pc lv (.int y :: .int x :: st) := by
  subst hq
  exact fun p e s m below meth c H locs ls C hP hS hl => lv_iadd C.1.1 C.1.2.1 hd (k p e s m below meth c H locs ls C hP hS hl)
theorem lj_isub {q : Nat} {x y : Int32} (hd : decode cL_law pc = .ok (.isub, 1)) (hq : pc + 1 = q) (k : Lj l D cA h0 ad b L xs sh P σ q lv (.int (x - y) :: st)) : Lj l D cA h0 ad b L xs sh P σ pc lv (.int y :: .int x :: st) := by
  subst hq
  exact fun p e s m below meth c H locs ls C hP hS hl => lv_isub C.1.1 C.1.2.1 hd (k p e s m below meth c H locs ls C hP hS hl)
theorem lj_iand {q : Nat} {x y : Int32} (hd : decode cL_law pc = .ok (.iand, 1)) (hq : pc + 1 = q) (k : Lj l D cA h0 ad b L xs sh P σ q lv (.int (x &&& y) :: st)) : Lj l D cA h0 ad b L xs sh P σ pc lv (.int y :: .int x :: st) := by
  subst hq
  exact fun p e s m below meth c H locs ls C hP hS hl => lv_iand C.1.1 C.1.2.1 hd (k p e s m below meth c H locs ls C hP hS hl)
theorem lj_goto {q : Nat} {off : Int} (hd : decode cL_law pc = .ok (.goto off, 3)) (ht : (pc : Int) + off = (q : Int)) (k : Lj l D cA h0 ad b L xs sh P σ q lv st) : Lj l D cA h0 ad b L xs sh P σ pc lv st := fun p e s m below meth c H locs ls C hP hS hl => lv_goto C.1.1 C.1.2.1 hd ht (k p e s m below meth c H locs ls C hP hS hl)
theorem lj_iinc {q : Nat} {i pl : Nat} {n : Int} {x v : Int32} {lv' : List (Nat × Value)} (hd : decode cL_law pc = .ok (.iinc i n, 3)) (hq : pc + 3 = q) (hp : lv[pl]? = some (i, .int x)) (hv : x + Int32.ofInt n = v) (hn : i < 4) (hs : (i, Value.int v) :: lv.filter (fun q => !(q.1 == i) && !(q.1 + 1 == i && q.2.category == 2)) = lv') (k : Lj l D cA h0 ad b L xs sh P σ q lv' st) : Lj l D cA h0 ad b L xs sh P σ pc lv st := by
  subst hq
  exact fun p e s m below meth c H locs ls C hP hS hl => lv_iinc C.1.1 C.1.2.1 hd hl hp hv hn hs (fun ls hl => k p e s m below meth c H locs ls C hP hS hl)
theorem lj_lv {lv' : List (Nat × Value)} (ks : List Nat) (e0 : lv_pick lv ks = lv') (k : Lj l D cA h0 ad b L xs sh P σ pc lv' st) : Lj l D cA h0 ad b L xs sh P σ pc lv st := fun p e s m below meth c H locs ls C hP hS hl => k p e s m below meth c H locs ls C hP hS (lv_sub hl ks e0)
theorem lj_icmp_eqY {tgt : Nat} {x y : Int32} {off : Int} (hc : x = y) (hd : decode cL_law pc = .ok (.if_icmp .eq off, 3)) (ht : (pc : Int) + off = (tgt : Int)) (k : Lj l D cA h0 ad b L xs sh P σ tgt lv st) : Lj l D cA h0 ad b L xs sh P σ pc lv (.int y :: .int x :: st) := fun p e s m below meth c H locs ls C hP hS hl => lv_icmp_eq C.1.1 C.1.2.1 hd ht (fun _ => k p e s m below meth c H locs ls C hP hS hl) (fun h => absurd hc h)
theorem lj_icmp_eqN {q tgt : Nat} {x y : Int32} {off : Int} (hc : ¬ x = y) (hd : decode cL_law pc = .ok (.if_icmp .eq off, 3)) (ht : (pc : Int) + off = (tgt : Int)) (hq : pc + 3 = q) (k : Lj l D cA h0 ad b L xs sh P σ q lv st) : Lj l D cA h0 ad b L xs sh P σ pc lv (.int y :: .int x :: st) := by
  subst hq
  exact fun p e s m below meth c H locs ls C hP hS hl => lv_icmp_eq C.1.1 C.1.2.1 hd ht (fun h => absurd h hc) (fun _ => k p e s m below meth c H locs ls C hP hS hl)
theorem lj_icmp_gtY {tgt : Nat} {x y : Int32} {off : Int} (hc : y < x) (hd : decode cL_law pc = .ok (.if_icmp .gt off, 3)) (ht : (pc : Int) + off = (tgt : Int)) (k : Lj l D cA h0 ad b L xs sh P σ tgt lv st) : Lj l D cA h0 ad b L xs sh P σ pc lv (.int y :: .int x :: st) := fun p e s m below meth c H locs ls C hP hS hl => lv_icmp_gt C.1.1 C.1.2.1 hd ht (fun _ => k p e s m below meth c H locs ls C hP hS hl) (fun h => absurd hc h)
theorem lj_icmp_gtN {q tgt : Nat} {x y : Int32} {off : Int} (hc : ¬ y < x) (hd : decode cL_law pc = .ok (.if_icmp .gt off, 3)) (ht : (pc : Int) + off = (tgt : Int)) (hq : pc + 3 = q) (k : Lj l D cA h0 ad b L xs sh P σ q lv st) : Lj l D cA h0 ad b L xs sh P σ pc lv (.int y :: .int x :: st) := by
  subst hq
  exact fun p e s m below meth c H locs ls C hP hS hl => lv_icmp_gt C.1.1 C.1.2.1 hd ht (fun h => absurd h hc) (fun _ => k p e s m below meth c H locs ls C hP hS hl)
theorem lj_ifeqY {tgt : Nat} {x : Int32} {off : Int} (hc : x = 0) (hd : decode cL_law pc = .ok (.ifCond .eq off, 3)) (ht : (pc : Int) + off = (tgt : Int)) (k : Lj l D cA h0 ad b L xs sh P σ tgt lv st) : Lj l D cA h0 ad b L xs sh P σ pc lv (.int x :: st) := fun p e s m below meth c H locs ls C hP hS hl => lv_if_eq C.1.1 C.1.2.1 hd ht (fun _ => k p e s m below meth c H locs ls C hP hS hl) (fun h => absurd hc h)
theorem lj_ifeqN {q tgt : Nat} {x : Int32} {off : Int} (hc : ¬ x = 0) (hd : decode cL_law pc = .ok (.ifCond .eq off, 3)) (ht : (pc : Int) + off = (tgt : Int)) (hq : pc + 3 = q) (k : Lj l D cA h0 ad b L xs sh P σ q lv st) : Lj l D cA h0 ad b L xs sh P σ pc lv (.int x :: st) := by
  subst hq
  exact fun p e s m below meth c H locs ls C hP hS hl => lv_if_eq C.1.1 C.1.2.1 hd ht (fun h => absurd h hc) (fun _ => k p e s m below meth c H locs ls C hP hS hl)
theorem lj_tin {tgt : Nat} {dflt lo hi : Int} {offs : Array Int} {len : Nat} {x k : Int32} {off : Int} (hd : decode cL_law pc = .ok (.tableswitch dflt lo hi offs, len)) (hx : x = k) (h1 : ¬ k.toInt < lo) (h2 : ¬ hi < k.toInt) (ho : offs[(k.toInt - lo).toNat]? = some off) (ht : (pc : Int) + off = (tgt : Int)) (k : Lj l D cA h0 ad b L xs sh P σ tgt lv st) : Lj l D cA h0 ad b L xs sh P σ pc lv (.int x :: st) := by
  subst hx
  exact fun p e s m below meth c H locs ls C hP hS hl => lv_tableIn C.1.1 C.1.2.1 hd h1 h2 ho ht (k p e s m below meth c H locs ls C hP hS hl)
theorem lj_tout {tgt : Nat} {dflt lo hi : Int} {offs : Array Int} {len : Nat} {x : Int32} (hd : decode cL_law pc = .ok (.tableswitch dflt lo hi offs, len)) (hx : x.toInt < lo ∨ hi < x.toInt) (ht : (pc : Int) + dflt = (tgt : Int)) (k : Lj l D cA h0 ad b L xs sh P σ tgt lv st) : Lj l D cA h0 ad b L xs sh P σ pc lv (.int x :: st) := by
  exact fun p e s m below meth c H locs ls C hP hS hl => lv_tableOut C.1.1 C.1.2.1 hd hx ht (k p e s m below meth c H locs ls C hP hS hl)
theorem lj_slen {q : Nat} (hd : decode cL_law pc = .ok (.arraylength, 1)) (hq : pc + 1 = q) (k : Lj l D cA h0 ad b L xs sh P σ q lv (.int (Int32.ofNat L) :: st)) : Lj l D cA h0 ad b L xs sh P σ pc lv (.ref b :: st) := by
  subst hq
  exact fun p e s m below meth c H locs ls C hP hS hl => va_slen C.1.1 C.1.2.1 C.1.2.2.2.2.2.2.1 C.1.2.2.2.2.2.2.2.1 (by rw [C.2.2.1]; exact Nat.not_le.mpr C.1.2.2.2.2.2.2.2.1) hS hd (k p e s m below meth c H locs ls C hP hS hl)
theorem lj_sld {q k : Nat} {x : Int32} (hx : x = Int32.ofNat k) (hk : k < L) (hL : L ≤ 3072) (hd : decode cL_law pc = .ok (.iaload, 1)) (hq : pc + 1 = q) (kk : Lj l D cA h0 ad b L xs sh P σ q lv (.int (xs k) :: st)) : Lj l D cA h0 ad b L xs sh P σ pc lv (.int x :: .ref b :: st) := by
  subst hq
  subst hx
  have hcN : (Int32.ofNat k).toNatClampNeg = k := Int32.toNatClampNeg_ofNat_of_lt (by omega)
  have hin : vp_in (Int32.ofNat k) L := vp_in_nI hk (by omega)
  intro p e s m below meth c H locs ls C hP hS hl
  refine va_sld C.1.1 C.1.2.1 C.1.2.2.2.2.2.2.1 C.1.2.2.2.2.2.2.2.1 (by rw [C.2.2.1]; exact Nat.not_le.mpr C.1.2.2.2.2.2.2.2.1) hS hin hd ?_
  rw [hcN]
  exact kk p e s m below meth c H locs ls C hP hS hl
theorem lj_ret (hd : decode cL_law pc = .ok (.ireturn, 1)) : Lj l D cA h0 ad b L xs sh P σ pc lv [.int 1] := by
  intro p e s m below meth c H locs ls C hP hS hl
  refine va_forget (fun q hq => by rw [← C.2.2.1]; exact hS.2.2 q hq) ?_
  refine W.widen (k := 600000) (n := 7302249) (Nat.le_of_ble_eq_true rfl) (Nat.le_of_ble_eq_true rfl) ?_
  exact lw_ret C.1.1 C.1.2.1 C.1.2.2.1 C.1.2.2.2.2.2.2.2.2.1 hd
theorem lj_run {γ : Type} {g : γ → Out_} {o' : Option γ} {h' nL' n ix t ci : Nat} {y : MethodName} {cc' : ByteArray} {ret' : Option FieldType} {T : u_T} {N : Nat} {As rest : List Value} {v : γ} {q : Nat} (hI : Iv RL ix y cc' nL' ret' n) (hs : sh[t]? = some (0, ci)) (hc : CL[ci]? = some (y.cls, T, N)) (hR : Rj l D cA h0 ad y cc' nL' ret' false h' 0 0 g (.ref (h0 + t) :: As) sh P σ o') (hv : o' = some v) (hn : As.length = n) (hh : h' ≤ 200) (hW : (rest.map fun v => v.category).sum ≤ 8) (hd : decode cL_law pc = .ok (.invokevirtual ix, 3)) (hq : pc + 3 = q) (kk : Lj l D cA h0 ad b L xs (g v).2.1 (g v).2.2.1 (g v).2.2.2 q lv ((g v).1.toList ++ rest)) : Lj l D cA h0 ad b L xs sh P σ pc lv (As.reverse ++ .ref (h0 + t) :: rest) := by
  subst hq
  intro p e s m below meth c H locs ls C hP hS hl
  obtain ⟨i1, i2, i3, i4, i5, i6, i7⟩ := hI
  have hPx : ∀ U : State, U.heap = H → s.WarmedH U.vm → va_Pc (.ref (h0 + t) :: As) (Px D cA h0 ad false sh P σ) (.ref (h0 + t) :: As).toArray U := fun U hU hW =>
    ⟨rfl, by rw [hU]; exact hP, (fun q => by cases q), by rw [hU, C.2.2.1]; exact hS.1, va_K.moved hW.alike C.2.1, C.2.2.2.go hW (fun a ha hn => by rw [hU]; exact hS.2.1 a ha hn)⟩
  have hr := va_runV (As := As) (rest := rest) (Ts := TB) (R := room_1) (locs := locs) (cells := 280) (slots := 48760) (e := e) (below := below) (meth := meth) (g := F0 m pc ls (As.reverse ++ .ref (h0 + t) :: rest)) ⟨C.1.1, C.1.2.1, C.1.2.2.2.1, C.own, C.hts⟩ (hR v hv) ⟨callB_of n C.hts (tb_in i5) rfl rfl rfl (C.hts _ i4) (C.hts _ i1) i6 ⟨by show h' + 1 ≤ 2048; omega, by show 8 + (nL' + 11) + 40 * h' ≤ 84000; omega⟩, C.hts _ i2, C.hts _ i3⟩ ⟨Px.blind, va_recv C.2.1 hP hc (xw_at hs), hPx⟩ rfl hn hl.1 rfl (lv_room hW) hd ⟨Nat.le_of_ble_eq_true rfl, Nat.le_of_ble_eq_true rfl⟩
  intro T hT X
  obtain ⟨w, st₀, t, T', Lo, g0, X', hL, e1, e2, ⟨hv, hp1, hz1, hF1, hF2⟩, go⟩ := hr T hT X
  cases hv
  rw [g0] at hF1 hF2
  obtain ⟨t2, a1, b1⟩ := kk p e s m below meth c T'.heap (locs ++ Lo) ls C (by rw [e1]; exact hp1) ⟨Nat.le_trans hS.1 (by rw [e1]; exact hF1), fun q h1 h2 => by rw [e1, hF2 q (Nat.lt_of_lt_of_le h1 hS.1) h2]; exact hS.2.1 q h1 h2, fun q hq => by
    rcases List.mem_append.mp hq with h | h
    · exact hS.2.2 q h
    · exact hL q h⟩ hl T' rfl X'
  exact ⟨t2, go t2 a1, b1⟩
theorem ofN_add (i k : Nat) : Int32.ofNat i + Int32.ofNat k = Int32.ofNat (i + k) := (Int32.ofNat_add i k).symm
end LW
