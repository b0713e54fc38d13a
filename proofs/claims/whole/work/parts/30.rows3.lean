section T3
variable {β : Type} {l : Launch} {D : va_G} {cA : Nat → ClassId} {h0 : Nat} {ad : Ad_} {own : String} {cc : ByteArray} {nL : Nat} {ret : Option FieldType} {ini : Bool} {h mc ms : Nat} {f : β → Out_} {cells slots : Nat} {sh : Sh_} {P : Px_} {σ : St_} {pc : Nat} {lv : List (Nat × Value)} {st : List Value} {o : Option β}
theorem Cx.E {p : Program} {s : State} {m : MethodId} {args : Array Value} {meth : Method} {c : Code} (C : Cx D cA h0 ad own cc nL ret ini p s m args meth c) : Ev h0 ad s := C.2.2.2.2.2.2.2.2.2.2
theorem tj_gdd {b : Bool} {o : b = true → Option β} (k : ∀ hb : b = true, Tj l D cA h0 ad own cc nL ret ini h mc ms f cells slots sh P σ pc lv st (o hb)) : Tj l D cA h0 ad own cc nL ret ini h mc ms f cells slots sh P σ pc lv st (if hb : b = true then o hb else none) := by
  by_cases hb : b = true
  · rw [dif_pos hb]; exact k hb
  · rw [dif_neg hb]; exact tj_none
theorem tj_aaloadD {q t n : Nat} {i : Int32} {j : Nat} {o : bin i n = true → Option β} (hs : sh[t]? = some (4, n)) (hj : bin i n = true → P t i.toNatClampNeg = some j) (hd : decode cc pc = .ok (.aaload, 1)) (hq : pc + 1 = q) (kk : ∀ hg : bin i n = true, Tj l D cA h0 ad own cc nL ret ini h mc ms f cells slots sh P σ q lv (.ref (h0 + j) :: st) (o hg)) : Tj l D cA h0 ad own cc nL ret ini h mc ms f cells slots sh P σ pc lv (.int i :: .ref (h0 + t) :: st) (if hg : bin i n = true then o hg else none) := by
  refine tj_gdd (fun hg => ?_)
  have e1 : (if bin i n = true then o hg else none) = o hg := if_pos hg
  rw [← e1]
  exact tj_aaload hs hj hd hq (fun _ => kk hg)
theorem tj_callR {γ : Type} {idf : γ → Nat} {q : Nat} {st0 rest : List Value} {o' : Option γ} {K : γ → Option β} (hK : Kj l D cA h0 ad own cc nL ret ini h mc ms cells slots 0 0 sh P σ pc st0 rest (fun b => (some (.ref (h0 + idf b)), sh, P, σ)) o') (hq : pc + 3 = q) (kk : ∀ r, Tj l D cA h0 ad own cc nL ret ini h mc ms f cells slots sh P σ q lv (.ref (h0 + idf r) :: rest) (K r)) : Tj l D cA h0 ad own cc nL ret ini h mc ms f cells slots sh P σ pc lv st0 (o'.bind K) := by
  subst hq
  intro b hb p e s m args below meth c H locs ls C hP hz hS hl
  cases ho : o' with
  | none => rw [ho] at hb; cases hb
  | some r =>
    rw [ho] at hb
    have hr := hK r ho p e s m args below meth c H locs ls C hP hz hS hl.1
    intro T hT X
    obtain ⟨v, st₀, t, T', L, g0, X', hL, e1, e2, ⟨hv, hp1, hz1, hF1, hF2⟩, go⟩ := hr T hT X
    cases hv
    rw [g0] at hF1 hF2
    obtain ⟨t2, a1, b1⟩ := kk r b hb p e s m args below meth c T'.heap (locs ++ L) ls C (by rw [e1]; exact hp1) (fun q => by rw [e1]; exact hz1 q) ⟨Nat.le_trans hS.1 (by rw [e1]; exact hF1), fun q h1 h2 => by rw [e1, hF2 q (Nat.lt_of_lt_of_le h1 hS.1) h2]; exact hS.2.1 q h1 h2, fun q hq => by
      rcases List.mem_append.mp hq with h | h
      · exact hS.2.2 q h
      · exact hL q h⟩ hl T' rfl X'
    exact ⟨t2, go t2 a1, b1⟩
theorem tj_callU {q : Nat} {st0 rest : List Value} {o' : Option Unit} {K : Unit → Option β} (hK : Kj l D cA h0 ad own cc nL ret ini h mc ms cells slots 0 0 sh P σ pc st0 rest (fun _ : Unit => (none, sh, P, σ)) o') (hq : pc + 3 = q) (kk : Tj l D cA h0 ad own cc nL ret ini h mc ms f cells slots sh P σ q lv rest (K ())) : Tj l D cA h0 ad own cc nL ret ini h mc ms f cells slots sh P σ pc lv st0 (o'.bind K) := by
  subst hq
  intro b hb p e s m args below meth c H locs ls C hP hz hS hl
  cases ho : o' with
  | none => rw [ho] at hb; cases hb
  | some r =>
    rw [ho] at hb
    have hr := hK r ho p e s m args below meth c H locs ls C hP hz hS hl.1
    intro T hT X
    obtain ⟨v, st₀, t, T', L, g0, X', hL, e1, e2, ⟨hv, hp1, hz1, hF1, hF2⟩, go⟩ := hr T hT X
    cases hv
    rw [g0] at hF1 hF2
    obtain ⟨t2, a1, b1⟩ := kk b hb p e s m args below meth c T'.heap (locs ++ L) ls C (by rw [e1]; exact hp1) (fun q => by rw [e1]; exact hz1 q) ⟨Nat.le_trans hS.1 (by rw [e1]; exact hF1), fun q h1 h2 => by rw [e1, hF2 q (Nat.lt_of_lt_of_le h1 hS.1) h2]; exact hS.2.1 q h1 h2, fun q hq => by
      rcases List.mem_append.mp hq with h | h
      · exact hS.2.2 q h
      · exact hL q h⟩ hl T' rfl X'
    exact ⟨t2, go t2 a1, b1⟩
theorem tj_ldcS0 {q : Nat} (hown : own = "BetterThieves$Tokens") (hd : decode cc pc = .ok (.ldc 61, 2)) (hq : pc + 2 = q) (k : Tj l D cA h0 ad own cc nL ret ini h mc ms f cells slots sh P σ q lv (.ref (ad.1 0) :: st) o) : Tj l D cA h0 ad own cc nL ret ini h mc ms f cells slots sh P σ pc lv st o := by
  subst hq
  subst hown
  exact fun b hb p e s m args below meth c H locs ls C hP hz hS hl => va_ldcS C.1 C.2.1 C.own C.E.1 hd (k b hb p e s m args below meth c H locs ls C hP hz hS hl)
theorem tj_ldcS1 {q : Nat} (hown : own = "BetterThieves$Tokens") (hd : decode cc pc = .ok (.ldc 76, 2)) (hq : pc + 2 = q) (k : Tj l D cA h0 ad own cc nL ret ini h mc ms f cells slots sh P σ q lv (.ref (ad.1 1) :: st) o) : Tj l D cA h0 ad own cc nL ret ini h mc ms f cells slots sh P σ pc lv st o := by
  subst hq
  subst hown
  exact fun b hb p e s m args below meth c H locs ls C hP hz hS hl => va_ldcS C.1 C.2.1 C.own C.E.2.1 hd (k b hb p e s m args below meth c H locs ls C hP hz hS hl)
theorem tj_getSV {q i ix : Nat} (hi : i < 2) (hw : Cond.fieldLink own ix "java/lang/String" "value" "[B" ∈ TB) (hd : decode cc pc = .ok (.getfield ix, 3)) (hq : pc + 3 = q) (k : Tj l D cA h0 ad own cc nL ret ini h mc ms f cells slots sh P σ q lv (.ref (ad.2 i) :: st) o) : Tj l D cA h0 ad own cc nL ret ini h mc ms f cells slots sh P σ pc lv (.ref (ad.1 i) :: st) o := by
  subst hq
  exact fun b hb p e s m args below meth c H locs ls C hP hz hS hl => vk_getf C.1 C.2.1 (C.E.2.2.1.1 i hi).2.2.1 hS C.own (C.hts _ hw) (fun _ h => h) hd (k b hb p e s m args below meth c H locs ls C hP hz hS hl)
theorem tj_getSC {q i ix : Nat} (hi : i < 2) (hw : Cond.fieldLink own ix "java/lang/String" "coder" "B" ∈ TB) (hd : decode cc pc = .ok (.getfield ix, 3)) (hq : pc + 3 = q) (k : Tj l D cA h0 ad own cc nL ret ini h mc ms f cells slots sh P σ q lv (.int 0 :: st) o) : Tj l D cA h0 ad own cc nL ret ini h mc ms f cells slots sh P σ pc lv (.ref (ad.1 i) :: st) o := by
  subst hq
  exact fun b hb p e s m args below meth c H locs ls C hP hz hS hl => vk_getf C.1 C.2.1 (C.E.2.2.1.1 i hi).2.1 hS C.own (C.hts _ hw) (fun _ h => h) hd (k b hb p e s m args below meth c H locs ls C hP hz hS hl)
theorem tj_getCS {q ix : Nat} (hw : Cond.fieldLink own ix "java/lang/String" "COMPACT_STRINGS" "Z" ∈ TB) (hd : decode cc pc = .ok (.getstatic ix, 3)) (hq : pc + 3 = q) (k : Tj l D cA h0 ad own cc nL ret ini h mc ms f cells slots sh P σ q lv (.int 1 :: st) o) : Tj l D cA h0 ad own cc nL ret ini h mc ms f cells slots sh P σ pc lv st o := by
  subst hq
  exact fun b hb p e s m args below meth c H locs ls C hP hz hS hl => va_gets C.1 C.2.1 C.E.2.2.2.1 hS C.own (C.hts _ hw) (fun _ h => h) hd (k b hb p e s m args below meth c H locs ls C hP hz hS hl)
theorem tj_getSF {q ix : Nat} (hw : Cond.fieldLink own ix "jdk/internal/util/Preconditions" "SIOOBE_FORMATTER" "Ljava/util/function/BiFunction;" ∈ TB) (hd : decode cc pc = .ok (.getstatic ix, 3)) (hq : pc + 3 = q) (k : ∀ v : Option Nat, Tj l D cA h0 ad own cc nL ret ini h mc ms f cells slots sh P σ q lv (va_rf v :: st) o) : Tj l D cA h0 ad own cc nL ret ini h mc ms f cells slots sh P σ pc lv st o := by
  subst hq
  intro b hb p e s m args below meth c H locs ls C hP hz hS hl
  rcases C.E.2.2.2.2.1 with h | ⟨t, h⟩
  · exact va_gets C.1 C.2.1 h hS C.own (C.hts _ hw) (fun _ h => h) hd (k none b hb p e s m args below meth c H locs ls C hP hz hS hl)
  · exact va_gets C.1 C.2.1 h hS C.own (C.hts _ hw) (fun _ h => h) hd (k (some t) b hb p e s m args below meth c H locs ls C hP hz hS hl)
theorem tj_byld {q k : Nat} {i : Int32} (hk : k < 2) (hd : decode cc pc = .ok (.baload, 1)) (hq : pc + 1 = q) (kk : Tj l D cA h0 ad own cc nL ret ini h mc ms f cells slots sh P σ q lv (.int ((SBYT.getD k []).getD i.toNatClampNeg 0) :: st) o) : Tj l D cA h0 ad own cc nL ret ini h mc ms f cells slots sh P σ pc lv (.int i :: .ref (ad.2 k) :: st) (if bin i (SLEN.getD k 0) = true then o else none) := by
  subst hq
  refine tj_gd (fun hg => ?_)
  exact fun b hb p e s m args below meth c H locs ls C hP hz hS hl => va_tb C.1 C.2.1 (C.E.2.2.1.1 k hk).2.2.2 hS (bin_in hg) rfl hd (kk b hb p e s m args below meth c H locs ls C hP hz hS hl)
theorem tj_bylen {q k : Nat} (hk : k < 2) (hd : decode cc pc = .ok (.arraylength, 1)) (hq : pc + 1 = q) (kk : Tj l D cA h0 ad own cc nL ret ini h mc ms f cells slots sh P σ q lv (.int (Int32.ofNat (SLEN.getD k 0)) :: st) o) : Tj l D cA h0 ad own cc nL ret ini h mc ms f cells slots sh P σ pc lv (.ref (ad.2 k) :: st) o := by
  subst hq
  exact fun b hb p e s m args below meth c H locs ls C hP hz hS hl => va_tlen C.1 C.2.1 (C.E.2.2.1.1 k hk).2.2.2 hS rfl hd (kk b hb p e s m args below meth c H locs ls C hP hz hS hl)
theorem tj_i2b {q : Nat} {x : Int32} (hd : decode cc pc = .ok (.i2b, 1)) (hq : pc + 1 = q) (k : Tj l D cA h0 ad own cc nL ret ini h mc ms f cells slots sh P σ q lv (.int x.toInt8.toInt32 :: st) o) : Tj l D cA h0 ad own cc nL ret ini h mc ms f cells slots sh P σ pc lv (.int x :: st) o := by
  subst hq
  exact fun b hb p e s m args below meth c H locs ls C hP hz hS hl => lv_i2b C.1 C.2.1 hd rfl (k b hb p e s m args below meth c H locs ls C hP hz hS hl)
theorem tj_min {q ix : Nat} {x y : Int32} (hI : Is own ix Lib.Math.min.name Lib.Math.min.code 2 (some .int) 2) (hd : decode cc pc = .ok (.invokestatic ix, 3)) (hq : pc + 3 = q) (hh : 1 ≤ h) (hw : (st.map fun v => v.category).sum + 13 ≤ 40 * h) (kk : Tj l D cA h0 ad own cc nL ret ini h mc ms f 0 0 sh P σ q lv (.int (if y < x then y else x) :: st) o) : Tj l D cA h0 ad own cc nL ret ini h mc ms f 0 0 sh P σ pc lv (.int y :: .int x :: st) o := by
  subst hq
  exact fun b hb p e s m args below meth c H locs ls C hP hz hS hl => va_mmin C.1 C.2.1 (C.2.2.2.1.trans hl.1.symm) C.own (C.hts _ hI.1) (C.hts _ hI.2.1) (C.hts _ hI.2.2.1) (C.hts _ hI.2.2.2.1) hh hw (Nat.zero_le _) (Nat.zero_le _) hd (kk b hb p e s m args below meth c H locs ls C hP hz hS hl)
def isC (x : Int32) : Bool := x.toUInt32.toUInt16.toUInt32.toInt32 == x
theorem isC_nar {x : Int32} (h : isC x = true) : narrow .char (.int x) = .int x := by
  show Value.int x.toUInt32.toUInt16.toUInt32.toInt32 = .int x
  rw [eq_of_beq h]
def isY (x : Int32) : Bool := x.toInt8.toInt32 == x
theorem isY_nar {x : Int32} (h : isY x = true) : narrow .byte (.int x) = .int x := by
  show Value.int x.toInt8.toInt32 = .int x
  rw [eq_of_beq h]
theorem tj_cret {v : Int32} (hr : ret = some .char) {b : β} (hf : f b = (some (.int v), sh, P, σ)) (hc : cells ≤ mc) (hsl : slots ≤ ms) (hd : decode cc pc = .ok (.ireturn, 1)) : Tj l D cA h0 ad own cc nL ret ini h mc ms f cells slots sh P σ pc lv [.int v] (if isC v = true then some b else none) := tj_gd (fun hg => tj_zret hr (isC_nar hg) hf hc hsl hd)
theorem tj_yret {v : Int32} (hr : ret = some .byte) {b : β} (hf : f b = (some (.int v), sh, P, σ)) (hc : cells ≤ mc) (hsl : slots ≤ ms) (hd : decode cc pc = .ok (.ireturn, 1)) : Tj l D cA h0 ad own cc nL ret ini h mc ms f cells slots sh P σ pc lv [.int v] (if isY v = true then some b else none) := tj_gd (fun hg => tj_zret hr (isY_nar hg) hf hc hsl hd)
theorem kj_T {γ : Type} {g : γ → Out_} {o' : Option γ} {mc' ms' h' nL' n ix i : Nat} {y : MethodName} {cc' : ByteArray} {ret' : Option FieldType} {As rest : List Value} (hI : Iv own ix y cc' nL' ret' n) (hi : i < 2) (hy : y.cls = "java/lang/String") (hR : Rj l D cA h0 ad y cc' nL' ret' ini h' mc' ms' g (.ref (ad.1 i) :: As) sh P σ o') (hn : As.length = n) (hh : h' + 1 ≤ h) (hf : cells + mc' ≤ mc ∧ slots + ms' ≤ ms) (hW : (rest.map fun v => v.category).sum ≤ 8) (hd : decode cc pc = .ok (.invokevirtual ix, 3)) : Kj l D cA h0 ad own cc nL ret ini h mc ms cells slots mc' ms' sh P σ pc (As.reverse ++ .ref (ad.1 i) :: rest) rest g o' := by
  intro b hb p e s m args below meth c H locs ls C hP hz hS hl
  obtain ⟨i1, i2, i3, i4, i5, i6, i7⟩ := hI
  exact va_runV (As := As) (rest := rest) (Ts := TB) ⟨C.1, C.2.1, C.2.2.2.1, C.own, C.hts⟩ (hR b hb) ⟨callB_of n C.hts (tb_in i5) rfl rfl rfl (C.hts _ i4) (C.hts _ i1) i6 (rmx_fit hh i7), C.hts _ i2, C.hts _ i3⟩ ⟨Px.blind, by rw [hy]; exact vk_recv C.E.2.2.1 hi hS, Px.at C hP hz hS⟩ rfl hn hl rfl (lv_room hW) hd hf
end T3
