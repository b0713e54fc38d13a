section
variable {l : Launch} {D : va_G} {cA : Nat → ClassId} {h0 : Nat} {ad : Ad_} {sh : Sh_} {P : Px_} {σ : St_}
theorem dX10_put_0 : decode cX10_put 0 = .ok (.bipush 24, 2) := by decide +kernel
theorem dX10_put_2 : decode cX10_put 2 = .ok (.istore_n 2, 1) := by decide +kernel
theorem dX10_put_3 : decode cX10_put 3 = .ok (.iload_n 2, 1) := by decide +kernel
theorem dX10_put_4 : decode cX10_put 4 = .ok (.ifCond .lt 45, 3) := by decide +kernel
theorem dX10_put_7 : decode cX10_put 7 = .ok (.aload_n 0, 1) := by decide +kernel
theorem dX10_put_8 : decode cX10_put 8 = .ok (.getfield 15, 3) := by decide +kernel
theorem dX10_put_11 : decode cX10_put 11 = .ok (.sipush 1700, 3) := by decide +kernel
theorem dX10_put_14 : decode cX10_put 14 = .ok (.if_icmp .ge 35, 3) := by decide +kernel
theorem dX10_put_17 : decode cX10_put 17 = .ok (.aload_n 0, 1) := by decide +kernel
theorem dX10_put_18 : decode cX10_put 18 = .ok (.getfield 9, 3) := by decide +kernel
theorem dX10_put_21 : decode cX10_put 21 = .ok (.aload_n 0, 1) := by decide +kernel
theorem dX10_put_22 : decode cX10_put 22 = .ok (.getfield 15, 3) := by decide +kernel
theorem dX10_put_25 : decode cX10_put 25 = .ok (.iload_n 1, 1) := by decide +kernel
theorem dX10_put_26 : decode cX10_put 26 = .ok (.iload_n 2, 1) := by decide +kernel
theorem dX10_put_27 : decode cX10_put 27 = .ok (.iushr, 1) := by decide +kernel
theorem dX10_put_28 : decode cX10_put 28 = .ok (.sipush 255, 3) := by decide +kernel
theorem dX10_put_31 : decode cX10_put 31 = .ok (.iand, 1) := by decide +kernel
theorem dX10_put_32 : decode cX10_put 32 = .ok (.iastore, 1) := by decide +kernel
theorem dX10_put_33 : decode cX10_put 33 = .ok (.aload_n 0, 1) := by decide +kernel
theorem dX10_put_34 : decode cX10_put 34 = .ok (.dup, 1) := by decide +kernel
theorem dX10_put_35 : decode cX10_put 35 = .ok (.getfield 15, 3) := by decide +kernel
theorem dX10_put_38 : decode cX10_put 38 = .ok (.iconst 1, 1) := by decide +kernel
theorem dX10_put_39 : decode cX10_put 39 = .ok (.iadd, 1) := by decide +kernel
theorem dX10_put_40 : decode cX10_put 40 = .ok (.putfield 15, 3) := by decide +kernel
theorem dX10_put_43 : decode cX10_put 43 = .ok (.iinc 2 (-8), 3) := by decide +kernel
theorem dX10_put_46 : decode cX10_put 46 = .ok (.goto (-43), 3) := by decide +kernel
theorem dX10_put_49 : decode cX10_put 49 = .ok (.return_, 1) := by decide +kernel
theorem wl_RX10_15 : Cond.fieldLink RX10 15 (TX10 1).1 (TX10 1).2.1 (TX10 1).2.2.1 ∈ TB := tbm 183 (by decide +kernel) (by decide +kernel)
theorem wl_RX10_9 : Cond.fieldLink RX10 9 (TX10 0).1 (TX10 0).2.1 (TX10 0).2.2.1 ∈ TB := tbm 182 (by decide +kernel) (by decide +kernel)
def mX10_put_L3 (t : Nat) (x1 : Int32) : Nat → Int32 → St_ → Option St_
  | 0, _, _ => none
  | n + 1, x2, σ => (if x2 < 0 then
 (some σ)
 else (if (1700 : Int32) ≤ (σ.1 t 1) then
 (some σ)
 else (bnd (σ.1 t 1) fun v1 =>
 (if bin v1 1700 = true then bnd (sI σ (t + 1) v1.toNatClampNeg (((x1.toUInt32 >>> (x2.toUInt32 &&& Int32.toUInt32 31)).toInt32) &&& (255 : Int32))) fun σ2 =>
 (bnd (sI σ2 t 1 ((σ2.1 t 1) + (1 : Int32))) fun σ3 =>
 (mX10_put_L3 t x1 n (x2 + (-8)) σ3))
 else none))))
def mX10_put (t : Nat) (p1 : Int32) (σ : St_) : Option St_ :=
 (mX10_put_L3 t p1 FU (24 : Int32) σ)
set_option maxHeartbeats 4000000 in
theorem tmX10_put_L3 (t : Nat) (hT : LY10 sh P t) (x1 : Int32) : ∀ (n : Nat) (x2 : Int32) (σ : St_), Tj l D cA h0 ad RX10 cX10_put 3 none false 2 0 0 (fun b => (none, sh, P, b)) 0 0 sh P σ 3 [(0, .ref (h0 + t)), (1, .int x1), (2, .int x2)] [] (mX10_put_L3 t x1 n x2 σ) := by
  intro n
  induction n with
  | zero => intros; exact tj_none
  | succ n ih =>
    intro x2 σ
    rw [mX10_put_L3]
    refine tj_iload_n (q := 4) dX10_put_3 rfl (i := 2) rfl (pl := 2) rfl ?_
    refine tj_if_lt (tgt := 49) (q := 7) dX10_put_4 (by decide) rfl ?_ ?_
    · exact tj_vret rfl rfl (Nat.le_of_ble_eq_true rfl) (Nat.le_of_ble_eq_true rfl) dX10_put_49
    · refine tj_aload_n (q := 8) dX10_put_7 rfl (i := 0) rfl (pl := 0) rfl ?_
      refine tj_getI (q := 11) (hT).s fok_10_1 wl_RX10_15 dX10_put_8 rfl ?_
      refine tj_sipush (q := 14) (v := 1700) dX10_put_11 rfl (by decide) ?_
      refine tj_icmp_ge (tgt := 49) (q := 17) dX10_put_14 (by decide) rfl ?_ ?_
      · exact tj_vret rfl rfl (Nat.le_of_ble_eq_true rfl) (Nat.le_of_ble_eq_true rfl) dX10_put_49
      · refine tj_aload_n (q := 18) dX10_put_17 rfl (i := 0) rfl (pl := 0) rfl ?_
        refine tj_getR (q := 21) (hT).s (hT).p_text fok_10_0 wl_RX10_9 dX10_put_18 rfl ?_
        refine tj_aload_n (q := 22) dX10_put_21 rfl (i := 0) rfl (pl := 0) rfl ?_
        refine tj_getI (q := 25) (hT).s fok_10_1 wl_RX10_15 dX10_put_22 rfl ?_
        refine tj_iload_n (q := 26) dX10_put_25 rfl (i := 1) rfl (pl := 1) rfl ?_
        refine tj_iload_n (q := 27) dX10_put_26 rfl (i := 2) rfl (pl := 2) rfl ?_
        refine tj_iushr (q := 28) dX10_put_27 rfl ?_
        refine tj_sipush (q := 31) (v := 255) dX10_put_28 rfl (by decide) ?_
        refine tj_iand (q := 32) dX10_put_31 rfl ?_
        refine tj_sndI (fun v1 => ?_)
        refine tj_iastore (q := 33) (hT).s_text dX10_put_32 rfl (fun σ2 => ?_)
        refine tj_aload_n (q := 34) dX10_put_33 rfl (i := 0) rfl (pl := 0) rfl ?_
        refine tj_dup (q := 35) dX10_put_34 rfl rfl ?_
        refine tj_getI (q := 38) (hT).s fok_10_1 wl_RX10_15 dX10_put_35 rfl ?_
        refine tj_iconst (q := 39) (v := 1) dX10_put_38 rfl (by decide) ?_
        refine tj_iadd (q := 40) dX10_put_39 rfl ?_
        refine tj_putI (q := 43) (hT).s fok_10_1 tok_10 fpk_10_1 wl_RX10_15 dX10_put_40 rfl (fun σ3 => ?_)
        refine tj_iinc (q := 46) (v := x2 + (-8)) dX10_put_43 rfl (pl := 2) rfl rfl (by decide) rfl ?_
        refine tj_goto (q := 3) dX10_put_46 (by decide) ?_
        refine tj_lv [1, 2, 0] rfl ?_
        exact ih (x2 + (-8)) σ3

set_option maxHeartbeats 4000000 in
theorem rX10_put (t : Nat) (p1 : Int32) (hT : LY10 sh P t) : Rj l D cA h0 ad yX10_put cX10_put 3 none false 2 0 0 (fun b => (none, sh, P, b)) [.ref (h0 + t), .int p1] sh P σ (mX10_put t p1 σ) := by
  rw [mX10_put]
  refine Rj.of (by decide) (fun h => by cases h) (Nat.le_of_ble_eq_true rfl) ?_
  refine tj_lv0 (lv' := [(0, .ref (h0 + t)), (1, .int p1)]) rfl ?_
  refine tj_bipush (q := 2) (v := 24) dX10_put_0 rfl (by decide) ?_
  refine tj_istore_n (q := 3) dX10_put_2 rfl (i := 2) rfl (by decide) rfl ?_
  refine tj_lv [1, 2, 0] rfl ?_
  exact tmX10_put_L3 t hT p1 FU (24 : Int32) σ

theorem dX10_skipBlanks_0 : decode cX10_skipBlanks 0 = .ok (.iload_n 1, 1) := by decide +kernel
theorem dX10_skipBlanks_1 : decode cX10_skipBlanks 1 = .ok (.istore_n 2, 1) := by decide +kernel
theorem dX10_skipBlanks_2 : decode cX10_skipBlanks 2 = .ok (.iload_n 2, 1) := by decide +kernel
theorem dX10_skipBlanks_3 : decode cX10_skipBlanks 3 = .ok (.aload_n 0, 1) := by decide +kernel
theorem dX10_skipBlanks_4 : decode cX10_skipBlanks 4 = .ok (.getfield 15, 3) := by decide +kernel
theorem dX10_skipBlanks_7 : decode cX10_skipBlanks 7 = .ok (.if_icmp .ge 31, 3) := by decide +kernel
theorem dX10_skipBlanks_10 : decode cX10_skipBlanks 10 = .ok (.aload_n 0, 1) := by decide +kernel
theorem dX10_skipBlanks_11 : decode cX10_skipBlanks 11 = .ok (.getfield 9, 3) := by decide +kernel
theorem dX10_skipBlanks_14 : decode cX10_skipBlanks 14 = .ok (.iload_n 2, 1) := by decide +kernel
theorem dX10_skipBlanks_15 : decode cX10_skipBlanks 15 = .ok (.iaload, 1) := by decide +kernel
theorem dX10_skipBlanks_16 : decode cX10_skipBlanks 16 = .ok (.bipush 32, 2) := by decide +kernel
theorem dX10_skipBlanks_18 : decode cX10_skipBlanks 18 = .ok (.if_icmp .eq 14, 3) := by decide +kernel
theorem dX10_skipBlanks_21 : decode cX10_skipBlanks 21 = .ok (.aload_n 0, 1) := by decide +kernel
theorem dX10_skipBlanks_22 : decode cX10_skipBlanks 22 = .ok (.getfield 9, 3) := by decide +kernel
theorem dX10_skipBlanks_25 : decode cX10_skipBlanks 25 = .ok (.iload_n 2, 1) := by decide +kernel
theorem dX10_skipBlanks_26 : decode cX10_skipBlanks 26 = .ok (.iaload, 1) := by decide +kernel
theorem dX10_skipBlanks_27 : decode cX10_skipBlanks 27 = .ok (.bipush 10, 2) := by decide +kernel
theorem dX10_skipBlanks_29 : decode cX10_skipBlanks 29 = .ok (.if_icmp .ne 9, 3) := by decide +kernel
theorem dX10_skipBlanks_32 : decode cX10_skipBlanks 32 = .ok (.iinc 2 1, 3) := by decide +kernel
theorem dX10_skipBlanks_35 : decode cX10_skipBlanks 35 = .ok (.goto (-33), 3) := by decide +kernel
theorem dX10_skipBlanks_38 : decode cX10_skipBlanks 38 = .ok (.iload_n 2, 1) := by decide +kernel
theorem dX10_skipBlanks_39 : decode cX10_skipBlanks 39 = .ok (.ireturn, 1) := by decide +kernel
def mX10_skipBlanks_L2 (t : Nat) (σ : St_) : Nat → Int32 → Option Int32
  | 0, _ => none
  | n + 1, x2 => (if (σ.1 t 1) ≤ x2 then
 (some x2)
 else (if bin x2 1700 = true then bnd (σ.1 (t + 1) x2.toNatClampNeg) fun v1 =>
 (bnd (mX10_skipBlanks_L2 t σ n (x2 + 1)) fun k2 =>
 (if v1 = (32 : Int32) then
 (k2)
 else (if bin x2 1700 = true then bnd (σ.1 (t + 1) x2.toNatClampNeg) fun v4 =>
 (if v4 = (10 : Int32) then
 (k2)
 else (some x2))
 else none)))
 else none))
def mX10_skipBlanks (t : Nat) (p1 : Int32) (σ : St_) : Option Int32 :=
 (mX10_skipBlanks_L2 t σ FU p1)
set_option maxHeartbeats 4000000 in
theorem tmX10_skipBlanks_L2 (σ : St_) (t : Nat) (hT : LY10 sh P t) : ∀ (n : Nat) (x2 : Int32), Tj l D cA h0 ad RX10 cX10_skipBlanks 3 (some .int) false 2 0 0 (fun b => (some (.int b), sh, P, σ)) 0 0 sh P σ 2 [(0, .ref (h0 + t)), (2, .int x2)] [] (mX10_skipBlanks_L2 t σ n x2) := by
  intro n
  induction n with
  | zero => intros; exact tj_none
  | succ n ih =>
    intro x2
    rw [mX10_skipBlanks_L2]
    refine tj_iload_n (q := 3) dX10_skipBlanks_2 rfl (i := 2) rfl (pl := 1) rfl ?_
    refine tj_aload_n (q := 4) dX10_skipBlanks_3 rfl (i := 0) rfl (pl := 0) rfl ?_
    refine tj_getI (q := 7) (hT).s fok_10_1 wl_RX10_15 dX10_skipBlanks_4 rfl ?_
    refine tj_icmp_ge (tgt := 38) (q := 10) dX10_skipBlanks_7 (by decide) rfl ?_ ?_
    · refine tj_iload_n (q := 39) dX10_skipBlanks_38 rfl (i := 2) rfl (pl := 1) rfl ?_
      exact tj_iret rfl rfl (Nat.le_of_ble_eq_true rfl) (Nat.le_of_ble_eq_true rfl) dX10_skipBlanks_39
    · refine tj_aload_n (q := 11) dX10_skipBlanks_10 rfl (i := 0) rfl (pl := 0) rfl ?_
      refine tj_getR (q := 14) (hT).s (hT).p_text fok_10_0 wl_RX10_9 dX10_skipBlanks_11 rfl ?_
      refine tj_iload_n (q := 15) dX10_skipBlanks_14 rfl (i := 2) rfl (pl := 1) rfl ?_
      refine tj_iaload (q := 16) (hT).s_text dX10_skipBlanks_15 rfl ?_
      refine tj_topI (fun v1 => ?_)
      refine tj_bipush (q := 18) (v := 32) dX10_skipBlanks_16 rfl (by decide) ?_
      refine tj_bnd (fun k2 => Tj l D cA h0 ad RX10 cX10_skipBlanks 3 (some .int) false 2 0 0 (fun b => (some (.int b), sh, P, σ)) 0 0 sh P σ 32 [(0, .ref (h0 + t)), (2, .int x2)] [] k2) ?_ (fun k2 hk3 => ?_)
      · refine tj_iinc (q := 35) (v := x2 + 1) dX10_skipBlanks_32 rfl (pl := 1) rfl rfl (by decide) rfl ?_
        refine tj_goto (q := 2) dX10_skipBlanks_35 (by decide) ?_
        refine tj_lv [1, 0] rfl ?_
        exact ih (x2 + 1)
      · refine tj_icmp_eq (tgt := 32) (q := 21) dX10_skipBlanks_18 (by decide) rfl ?_ ?_
        · exact hk3
        · refine tj_aload_n (q := 22) dX10_skipBlanks_21 rfl (i := 0) rfl (pl := 0) rfl ?_
          refine tj_getR (q := 25) (hT).s (hT).p_text fok_10_0 wl_RX10_9 dX10_skipBlanks_22 rfl ?_
          refine tj_iload_n (q := 26) dX10_skipBlanks_25 rfl (i := 2) rfl (pl := 1) rfl ?_
          refine tj_iaload (q := 27) (hT).s_text dX10_skipBlanks_26 rfl ?_
          refine tj_topI (fun v4 => ?_)
          refine tj_bipush (q := 29) (v := 10) dX10_skipBlanks_27 rfl (by decide) ?_
          refine tj_icmp_ne (tgt := 38) (q := 32) dX10_skipBlanks_29 (by decide) rfl ?_ ?_
          · exact hk3
          · refine tj_iload_n (q := 39) dX10_skipBlanks_38 rfl (i := 2) rfl (pl := 1) rfl ?_
            exact tj_iret rfl rfl (Nat.le_of_ble_eq_true rfl) (Nat.le_of_ble_eq_true rfl) dX10_skipBlanks_39

set_option maxHeartbeats 4000000 in
theorem rX10_skipBlanks (t : Nat) (p1 : Int32) (hT : LY10 sh P t) : Rj l D cA h0 ad yX10_skipBlanks cX10_skipBlanks 3 (some .int) false 2 0 0 (fun b => (some (.int b), sh, P, σ)) [.ref (h0 + t), .int p1] sh P σ (mX10_skipBlanks t p1 σ) := by
  rw [mX10_skipBlanks]
  refine Rj.of (by decide) (fun h => by cases h) (Nat.le_of_ble_eq_true rfl) ?_
  refine tj_lv0 (lv' := [(0, .ref (h0 + t)), (1, .int p1)]) rfl ?_
  refine tj_iload_n (q := 1) dX10_skipBlanks_0 rfl (i := 1) rfl (pl := 1) rfl ?_
  refine tj_istore_n (q := 2) dX10_skipBlanks_1 rfl (i := 2) rfl (by decide) rfl ?_
  refine tj_lv [1, 0] rfl ?_
  exact tmX10_skipBlanks_L2 σ t hT FU p1

theorem dX10_isDigit_0 : decode cX10_isDigit 0 = .ok (.iload_n 0, 1) := by decide +kernel
theorem dX10_isDigit_1 : decode cX10_isDigit 1 = .ok (.bipush 48, 2) := by decide +kernel
theorem dX10_isDigit_3 : decode cX10_isDigit 3 = .ok (.if_icmp .lt 13, 3) := by decide +kernel
theorem dX10_isDigit_6 : decode cX10_isDigit 6 = .ok (.iload_n 0, 1) := by decide +kernel
theorem dX10_isDigit_7 : decode cX10_isDigit 7 = .ok (.bipush 57, 2) := by decide +kernel
theorem dX10_isDigit_9 : decode cX10_isDigit 9 = .ok (.if_icmp .gt 7, 3) := by decide +kernel
theorem dX10_isDigit_12 : decode cX10_isDigit 12 = .ok (.iconst 1, 1) := by decide +kernel
theorem dX10_isDigit_13 : decode cX10_isDigit 13 = .ok (.goto 4, 3) := by decide +kernel
theorem dX10_isDigit_16 : decode cX10_isDigit 16 = .ok (.iconst 0, 1) := by decide +kernel
theorem dX10_isDigit_17 : decode cX10_isDigit 17 = .ok (.ireturn, 1) := by decide +kernel
def mX10_isDigit (p1 : Int32) (σ : St_) : Option Bool :=
 (if p1 < (48 : Int32) then
 (some false)
 else (if (57 : Int32) < p1 then
 (some false)
 else (some true)))
set_option maxHeartbeats 4000000 in
theorem rX10_isDigit (p1 : Int32)  : Rj l D cA h0 ad yX10_isDigit cX10_isDigit 1 (some .boolean) false 2 0 0 (fun b => (some (.int (b2i b)), sh, P, σ)) [.int p1] sh P σ (mX10_isDigit p1 σ) := by
  rw [mX10_isDigit]
  refine Rj.of (by decide) (fun h => by cases h) (Nat.le_of_ble_eq_true rfl) ?_
  refine tj_lv0 (lv' := [(0, .int p1)]) rfl ?_
  refine tj_iload_n (q := 1) dX10_isDigit_0 rfl (i := 0) rfl (pl := 0) rfl ?_
  refine tj_bipush (q := 3) (v := 48) dX10_isDigit_1 rfl (by decide) ?_
  refine tj_icmp_lt (tgt := 16) (q := 6) dX10_isDigit_3 (by decide) rfl ?_ ?_
  · refine tj_iconst (q := 17) (v := 0) dX10_isDigit_16 rfl (by decide) ?_
    exact tj_zret rfl (by decide) rfl (Nat.le_of_ble_eq_true rfl) (Nat.le_of_ble_eq_true rfl) dX10_isDigit_17
  · refine tj_iload_n (q := 7) dX10_isDigit_6 rfl (i := 0) rfl (pl := 0) rfl ?_
    refine tj_bipush (q := 9) (v := 57) dX10_isDigit_7 rfl (by decide) ?_
    refine tj_icmp_gt (tgt := 16) (q := 12) dX10_isDigit_9 (by decide) rfl ?_ ?_
    · refine tj_iconst (q := 17) (v := 0) dX10_isDigit_16 rfl (by decide) ?_
      exact tj_zret rfl (by decide) rfl (Nat.le_of_ble_eq_true rfl) (Nat.le_of_ble_eq_true rfl) dX10_isDigit_17
    · refine tj_iconst (q := 13) (v := 1) dX10_isDigit_12 rfl (by decide) ?_
      refine tj_goto (q := 17) dX10_isDigit_13 (by decide) ?_
      exact tj_zret rfl (by decide) rfl (Nat.le_of_ble_eq_true rfl) (Nat.le_of_ble_eq_true rfl) dX10_isDigit_17

theorem dX10_isLetter_0 : decode cX10_isLetter 0 = .ok (.iload_n 0, 1) := by decide +kernel
theorem dX10_isLetter_1 : decode cX10_isLetter 1 = .ok (.bipush 97, 2) := by decide +kernel
theorem dX10_isLetter_3 : decode cX10_isLetter 3 = .ok (.if_icmp .lt 13, 3) := by decide +kernel
theorem dX10_isLetter_6 : decode cX10_isLetter 6 = .ok (.iload_n 0, 1) := by decide +kernel
theorem dX10_isLetter_7 : decode cX10_isLetter 7 = .ok (.bipush 122, 2) := by decide +kernel
theorem dX10_isLetter_9 : decode cX10_isLetter 9 = .ok (.if_icmp .gt 7, 3) := by decide +kernel
theorem dX10_isLetter_12 : decode cX10_isLetter 12 = .ok (.iconst 1, 1) := by decide +kernel
theorem dX10_isLetter_13 : decode cX10_isLetter 13 = .ok (.goto 4, 3) := by decide +kernel
theorem dX10_isLetter_16 : decode cX10_isLetter 16 = .ok (.iconst 0, 1) := by decide +kernel
theorem dX10_isLetter_17 : decode cX10_isLetter 17 = .ok (.ireturn, 1) := by decide +kernel
def mX10_isLetter (p1 : Int32) (σ : St_) : Option Bool :=
 (if p1 < (97 : Int32) then
 (some false)
 else (if (122 : Int32) < p1 then
 (some false)
 else (some true)))
set_option maxHeartbeats 4000000 in
theorem rX10_isLetter (p1 : Int32)  : Rj l D cA h0 ad yX10_isLetter cX10_isLetter 1 (some .boolean) false 2 0 0 (fun b => (some (.int (b2i b)), sh, P, σ)) [.int p1] sh P σ (mX10_isLetter p1 σ) := by
  rw [mX10_isLetter]
  refine Rj.of (by decide) (fun h => by cases h) (Nat.le_of_ble_eq_true rfl) ?_
  refine tj_lv0 (lv' := [(0, .int p1)]) rfl ?_
  refine tj_iload_n (q := 1) dX10_isLetter_0 rfl (i := 0) rfl (pl := 0) rfl ?_
  refine tj_bipush (q := 3) (v := 97) dX10_isLetter_1 rfl (by decide) ?_
  refine tj_icmp_lt (tgt := 16) (q := 6) dX10_isLetter_3 (by decide) rfl ?_ ?_
  · refine tj_iconst (q := 17) (v := 0) dX10_isLetter_16 rfl (by decide) ?_
    exact tj_zret rfl (by decide) rfl (Nat.le_of_ble_eq_true rfl) (Nat.le_of_ble_eq_true rfl) dX10_isLetter_17
  · refine tj_iload_n (q := 7) dX10_isLetter_6 rfl (i := 0) rfl (pl := 0) rfl ?_
    refine tj_bipush (q := 9) (v := 122) dX10_isLetter_7 rfl (by decide) ?_
    refine tj_icmp_gt (tgt := 16) (q := 12) dX10_isLetter_9 (by decide) rfl ?_ ?_
    · refine tj_iconst (q := 17) (v := 0) dX10_isLetter_16 rfl (by decide) ?_
      exact tj_zret rfl (by decide) rfl (Nat.le_of_ble_eq_true rfl) (Nat.le_of_ble_eq_true rfl) dX10_isLetter_17
    · refine tj_iconst (q := 13) (v := 1) dX10_isLetter_12 rfl (by decide) ?_
      refine tj_goto (q := 17) dX10_isLetter_13 (by decide) ?_
      exact tj_zret rfl (by decide) rfl (Nat.le_of_ble_eq_true rfl) (Nat.le_of_ble_eq_true rfl) dX10_isLetter_17

theorem dX10_readDigits_0 : decode cX10_readDigits 0 = .ok (.iload_n 1, 1) := by decide +kernel
theorem dX10_readDigits_1 : decode cX10_readDigits 1 = .ok (.istore_n 2, 1) := by decide +kernel
theorem dX10_readDigits_2 : decode cX10_readDigits 2 = .ok (.iconst 0, 1) := by decide +kernel
theorem dX10_readDigits_3 : decode cX10_readDigits 3 = .ok (.istore_n 3, 1) := by decide +kernel
theorem dX10_readDigits_4 : decode cX10_readDigits 4 = .ok (.iload_n 2, 1) := by decide +kernel
theorem dX10_readDigits_5 : decode cX10_readDigits 5 = .ok (.aload_n 0, 1) := by decide +kernel
theorem dX10_readDigits_6 : decode cX10_readDigits 6 = .ok (.getfield 15, 3) := by decide +kernel
theorem dX10_readDigits_9 : decode cX10_readDigits 9 = .ok (.if_icmp .ge 36, 3) := by decide +kernel
theorem dX10_readDigits_12 : decode cX10_readDigits 12 = .ok (.aload_n 0, 1) := by decide +kernel
theorem dX10_readDigits_13 : decode cX10_readDigits 13 = .ok (.getfield 9, 3) := by decide +kernel
theorem dX10_readDigits_16 : decode cX10_readDigits 16 = .ok (.iload_n 2, 1) := by decide +kernel
theorem dX10_readDigits_17 : decode cX10_readDigits 17 = .ok (.iaload, 1) := by decide +kernel
theorem dX10_readDigits_18 : decode cX10_readDigits 18 = .ok (.invokestatic 55, 3) := by decide +kernel
theorem dX10_readDigits_21 : decode cX10_readDigits 21 = .ok (.ifCond .eq 24, 3) := by decide +kernel
theorem dX10_readDigits_24 : decode cX10_readDigits 24 = .ok (.iload_n 3, 1) := by decide +kernel
theorem dX10_readDigits_25 : decode cX10_readDigits 25 = .ok (.bipush 10, 2) := by decide +kernel
theorem dX10_readDigits_27 : decode cX10_readDigits 27 = .ok (.imul, 1) := by decide +kernel
theorem dX10_readDigits_28 : decode cX10_readDigits 28 = .ok (.aload_n 0, 1) := by decide +kernel
theorem dX10_readDigits_29 : decode cX10_readDigits 29 = .ok (.getfield 9, 3) := by decide +kernel
theorem dX10_readDigits_32 : decode cX10_readDigits 32 = .ok (.iload_n 2, 1) := by decide +kernel
theorem dX10_readDigits_33 : decode cX10_readDigits 33 = .ok (.iaload, 1) := by decide +kernel
theorem dX10_readDigits_34 : decode cX10_readDigits 34 = .ok (.iadd, 1) := by decide +kernel
theorem dX10_readDigits_35 : decode cX10_readDigits 35 = .ok (.bipush 48, 2) := by decide +kernel
theorem dX10_readDigits_37 : decode cX10_readDigits 37 = .ok (.isub, 1) := by decide +kernel
theorem dX10_readDigits_38 : decode cX10_readDigits 38 = .ok (.istore_n 3, 1) := by decide +kernel
theorem dX10_readDigits_39 : decode cX10_readDigits 39 = .ok (.iinc 2 1, 3) := by decide +kernel
theorem dX10_readDigits_42 : decode cX10_readDigits 42 = .ok (.goto (-38), 3) := by decide +kernel
theorem dX10_readDigits_45 : decode cX10_readDigits 45 = .ok (.iload_n 2, 1) := by decide +kernel
theorem dX10_readDigits_46 : decode cX10_readDigits 46 = .ok (.aload_n 0, 1) := by decide +kernel
theorem dX10_readDigits_47 : decode cX10_readDigits 47 = .ok (.getfield 15, 3) := by decide +kernel
theorem dX10_readDigits_50 : decode cX10_readDigits 50 = .ok (.if_icmp .ge 19, 3) := by decide +kernel
theorem dX10_readDigits_53 : decode cX10_readDigits 53 = .ok (.aload_n 0, 1) := by decide +kernel
theorem dX10_readDigits_54 : decode cX10_readDigits 54 = .ok (.getfield 9, 3) := by decide +kernel
theorem dX10_readDigits_57 : decode cX10_readDigits 57 = .ok (.iload_n 2, 1) := by decide +kernel
theorem dX10_readDigits_58 : decode cX10_readDigits 58 = .ok (.iaload, 1) := by decide +kernel
theorem dX10_readDigits_59 : decode cX10_readDigits 59 = .ok (.invokestatic 48, 3) := by decide +kernel
theorem dX10_readDigits_62 : decode cX10_readDigits 62 = .ok (.ifCond .eq 7, 3) := by decide +kernel
theorem dX10_readDigits_65 : decode cX10_readDigits 65 = .ok (.iconst 1, 1) := by decide +kernel
theorem dX10_readDigits_66 : decode cX10_readDigits 66 = .ok (.goto 4, 3) := by decide +kernel
theorem dX10_readDigits_69 : decode cX10_readDigits 69 = .ok (.iconst 0, 1) := by decide +kernel
theorem dX10_readDigits_70 : decode cX10_readDigits 70 = .ok (.istore 4, 2) := by decide +kernel
theorem dX10_readDigits_72 : decode cX10_readDigits 72 = .ok (.aload_n 0, 1) := by decide +kernel
theorem dX10_readDigits_73 : decode cX10_readDigits 73 = .ok (.getfield 25, 3) := by decide +kernel
theorem dX10_readDigits_76 : decode cX10_readDigits 76 = .ok (.aload_n 0, 1) := by decide +kernel
theorem dX10_readDigits_77 : decode cX10_readDigits 77 = .ok (.getfield 29, 3) := by decide +kernel
theorem dX10_readDigits_80 : decode cX10_readDigits 80 = .ok (.iload_n 3, 1) := by decide +kernel
theorem dX10_readDigits_81 : decode cX10_readDigits 81 = .ok (.i2l, 1) := by decide +kernel
theorem dX10_readDigits_82 : decode cX10_readDigits 82 = .ok (.lastore, 1) := by decide +kernel
theorem dX10_readDigits_83 : decode cX10_readDigits 83 = .ok (.aload_n 0, 1) := by decide +kernel
theorem dX10_readDigits_84 : decode cX10_readDigits 84 = .ok (.getfield 22, 3) := by decide +kernel
theorem dX10_readDigits_87 : decode cX10_readDigits 87 = .ok (.aload_n 0, 1) := by decide +kernel
theorem dX10_readDigits_88 : decode cX10_readDigits 88 = .ok (.getfield 29, 3) := by decide +kernel
theorem dX10_readDigits_91 : decode cX10_readDigits 91 = .ok (.iload_n 2, 1) := by decide +kernel
theorem dX10_readDigits_92 : decode cX10_readDigits 92 = .ok (.iload_n 1, 1) := by decide +kernel
theorem dX10_readDigits_93 : decode cX10_readDigits 93 = .ok (.isub, 1) := by decide +kernel
theorem dX10_readDigits_94 : decode cX10_readDigits 94 = .ok (.iconst 4, 1) := by decide +kernel
theorem dX10_readDigits_95 : decode cX10_readDigits 95 = .ok (.if_icmp .gt 8, 3) := by decide +kernel
theorem dX10_readDigits_98 : decode cX10_readDigits 98 = .ok (.iload 4, 2) := by decide +kernel
theorem dX10_readDigits_100 : decode cX10_readDigits 100 = .ok (.ifCond .eq 7, 3) := by decide +kernel
theorem dX10_readDigits_103 : decode cX10_readDigits 103 = .ok (.iconst 1, 1) := by decide +kernel
theorem dX10_readDigits_104 : decode cX10_readDigits 104 = .ok (.goto 4, 3) := by decide +kernel
theorem dX10_readDigits_107 : decode cX10_readDigits 107 = .ok (.iconst 4, 1) := by decide +kernel
theorem dX10_readDigits_108 : decode cX10_readDigits 108 = .ok (.iastore, 1) := by decide +kernel
theorem dX10_readDigits_109 : decode cX10_readDigits 109 = .ok (.iload_n 2, 1) := by decide +kernel
theorem dX10_readDigits_110 : decode cX10_readDigits 110 = .ok (.ireturn, 1) := by decide +kernel
theorem wm_X10_isDigit : Cond.static yX10_isDigit ∈ TB ∧ Cond.initialized yX10_isDigit.cls ∈ TB ∧ Cond.code yX10_isDigit cX10_isDigit 1 (some .boolean) ∈ TB ∧ (yX10_isDigit.cls ≠ "java/lang/invoke/MethodHandle" ∧ yX10_isDigit.cls ≠ "java/lang/invoke/VarHandle" ∧ (parseMethodDescriptor yX10_isDigit.desc).map (fun d => d.parameters.length) = some 1) ∧ 1 ≤ 21 := ⟨tbm 757 (by decide +kernel) (by decide +kernel), tbm 137 (by decide +kernel) (by decide +kernel), tbm 758 (by decide +kernel) (by decide +kernel), by decide +kernel, by decide⟩
theorem wi_RX10_55 : Is RX10 55 yX10_isDigit cX10_isDigit 1 (some .boolean) 1 := ⟨tbm 756 (by decide +kernel) (by decide +kernel), wm_X10_isDigit⟩
theorem wm_X10_isLetter : Cond.static yX10_isLetter ∈ TB ∧ Cond.initialized yX10_isLetter.cls ∈ TB ∧ Cond.code yX10_isLetter cX10_isLetter 1 (some .boolean) ∈ TB ∧ (yX10_isLetter.cls ≠ "java/lang/invoke/MethodHandle" ∧ yX10_isLetter.cls ≠ "java/lang/invoke/VarHandle" ∧ (parseMethodDescriptor yX10_isLetter.desc).map (fun d => d.parameters.length) = some 1) ∧ 1 ≤ 21 := ⟨tbm 691 (by decide +kernel) (by decide +kernel), tbm 137 (by decide +kernel) (by decide +kernel), tbm 692 (by decide +kernel) (by decide +kernel), by decide +kernel, by decide⟩
theorem wi_RX10_48 : Is RX10 48 yX10_isLetter cX10_isLetter 1 (some .boolean) 1 := ⟨tbm 690 (by decide +kernel) (by decide +kernel), wm_X10_isLetter⟩
theorem wl_RX10_25 : Cond.fieldLink RX10 25 (TX10 4).1 (TX10 4).2.1 (TX10 4).2.2.1 ∈ TB := tbm 187 (by decide +kernel) (by decide +kernel)
theorem wl_RX10_29 : Cond.fieldLink RX10 29 (TX10 5).1 (TX10 5).2.1 (TX10 5).2.2.1 ∈ TB := tbm 189 (by decide +kernel) (by decide +kernel)
theorem wl_RX10_22 : Cond.fieldLink RX10 22 (TX10 3).1 (TX10 3).2.1 (TX10 3).2.2.1 ∈ TB := tbm 186 (by decide +kernel) (by decide +kernel)
def mX10_readDigits_L4 (t : Nat) (σ : St_) (x1 : Int32) (k45 : Int32 → Int32 → Option (Int32 × St_)) : Nat → Int32 → Int32 → Option (Int32 × St_)
  | 0, _, _ => none
  | n + 1, x2, x3 => (if (σ.1 t 1) ≤ x2 then
 (k45 x2 x3)
 else (if bin x2 1700 = true then bnd (σ.1 (t + 1) x2.toNatClampNeg) fun v1 =>
 ((mX10_isDigit v1 σ).bind fun r2 =>
 (if r2 = true then
 (if bin x2 1700 = true then bnd (σ.1 (t + 1) x2.toNatClampNeg) fun v3 =>
 (bnd (((x3 * (10 : Int32)) + v3) - (48 : Int32)) fun v4 =>
 (mX10_readDigits_L4 t σ x1 k45 n (x2 + 1) v4))
 else none)
 else (k45 x2 x3)))
 else none))
def mX10_readDigits (t : Nat) (p1 : Int32) (σ : St_) : Option (Int32 × St_) :=
 (mX10_readDigits_L4 t σ p1
 (fun (y5 : Int32) (y6 : Int32) => (bnd (fun (j7 : Bool) => (bnd (σ.1 t 5) fun v10 =>
 (if bin v10 1701 = true then bnd (sL σ (t + 4) v10.toNatClampNeg y6.toInt64) fun σ11 =>
 (bnd (fun (j12 : Int32) => (bnd (σ11.1 t 5) fun v15 =>
 (if bin v15 1701 = true then bnd (sI σ11 (t + 3) v15.toNatClampNeg j12) fun σ16 =>
 (some (y5, σ16))
 else none))) fun k13 =>
 (bnd (k13 (1 : Int32)) fun k17 =>
 (if (4 : Int32) < (y5 - p1) then
 (k17)
 else (if j7 = true then
 (k17)
 else (k13 (4 : Int32))))))
 else none))) fun k8 =>
 (bnd (k8 false) fun k19 =>
 (if (σ.1 t 1) ≤ y5 then
 (k19)
 else (if bin y5 1700 = true then bnd (σ.1 (t + 1) y5.toNatClampNeg) fun v21 =>
 ((mX10_isLetter v21 σ).bind fun r22 =>
 (if r22 = true then
 (k8 true)
 else (k19)))
 else none))))) FU p1 (0 : Int32))
set_option maxHeartbeats 4000000 in
theorem tmX10_readDigits_L4 (σ : St_) (t : Nat) (hT : LY10 sh P t) (x1 : Int32) (k45 : Int32 → Int32 → Option (Int32 × St_)) (hk45 : ∀ (y2 : Int32) (y3 : Int32), Tj l D cA h0 ad RX10 cX10_readDigits 5 (some .int) false 3 0 0 (fun b => (some (.int b.1), sh, P, b.2)) 0 0 sh P σ 45 [(0, .ref (h0 + t)), (1, .int x1), (2, .int y2), (3, .int y3)] [] (k45 y2 y3)) : ∀ (n : Nat) (x2 : Int32) (x3 : Int32), Tj l D cA h0 ad RX10 cX10_readDigits 5 (some .int) false 3 0 0 (fun b => (some (.int b.1), sh, P, b.2)) 0 0 sh P σ 4 [(0, .ref (h0 + t)), (1, .int x1), (2, .int x2), (3, .int x3)] [] (mX10_readDigits_L4 t σ x1 k45 n x2 x3) := by
  intro n
  induction n with
  | zero => intros; exact tj_none
  | succ n ih =>
    intro x2 x3
    rw [mX10_readDigits_L4]
    refine tj_iload_n (q := 5) dX10_readDigits_4 rfl (i := 2) rfl (pl := 2) rfl ?_
    refine tj_aload_n (q := 6) dX10_readDigits_5 rfl (i := 0) rfl (pl := 0) rfl ?_
    refine tj_getI (q := 9) (hT).s fok_10_1 wl_RX10_15 dX10_readDigits_6 rfl ?_
    refine tj_icmp_ge (tgt := 45) (q := 12) dX10_readDigits_9 (by decide) rfl ?_ ?_
    · exact hk45 x2 x3
    · refine tj_aload_n (q := 13) dX10_readDigits_12 rfl (i := 0) rfl (pl := 0) rfl ?_
      refine tj_getR (q := 16) (hT).s (hT).p_text fok_10_0 wl_RX10_9 dX10_readDigits_13 rfl ?_
      refine tj_iload_n (q := 17) dX10_readDigits_16 rfl (i := 2) rfl (pl := 2) rfl ?_
      refine tj_iaload (q := 18) (hT).s_text dX10_readDigits_17 rfl ?_
      refine tj_topI (fun v1 => ?_)
      refine tj_callZp (q := 21) (kj_S (As := [.int v1]) (rest := []) wi_RX10_55 (rX10_isDigit v1) rfl (Nat.le_of_ble_eq_true rfl) ⟨Nat.le_of_ble_eq_true rfl, Nat.le_of_ble_eq_true rfl⟩ (Nat.le_of_ble_eq_true rfl) dX10_readDigits_18) rfl (fun r2 => ?_)
      refine tj_bz (tgt := 45) (q := 24) dX10_readDigits_21 (by decide) rfl ?_ ?_
      · refine tj_iload_n (q := 25) dX10_readDigits_24 rfl (i := 3) rfl (pl := 3) rfl ?_
        refine tj_bipush (q := 27) (v := 10) dX10_readDigits_25 rfl (by decide) ?_
        refine tj_imul (q := 28) dX10_readDigits_27 rfl ?_
        refine tj_aload_n (q := 29) dX10_readDigits_28 rfl (i := 0) rfl (pl := 0) rfl ?_
        refine tj_getR (q := 32) (hT).s (hT).p_text fok_10_0 wl_RX10_9 dX10_readDigits_29 rfl ?_
        refine tj_iload_n (q := 33) dX10_readDigits_32 rfl (i := 2) rfl (pl := 2) rfl ?_
        refine tj_iaload (q := 34) (hT).s_text dX10_readDigits_33 rfl ?_
        refine tj_topI (fun v3 => ?_)
        refine tj_iadd (q := 35) dX10_readDigits_34 rfl ?_
        refine tj_bipush (q := 37) (v := 48) dX10_readDigits_35 rfl (by decide) ?_
        refine tj_isub (q := 38) dX10_readDigits_37 rfl ?_
        refine tj_topI (fun v4 => ?_)
        refine tj_istore_n (q := 39) dX10_readDigits_38 rfl (i := 3) rfl (by decide) rfl ?_
        refine tj_iinc (q := 42) (v := x2 + 1) dX10_readDigits_39 rfl (pl := 3) rfl rfl (by decide) rfl ?_
        refine tj_goto (q := 4) dX10_readDigits_42 (by decide) ?_
        refine tj_lv [2, 3, 0, 1] rfl ?_
        exact ih (x2 + 1) v4
      · exact hk45 x2 x3

set_option maxHeartbeats 4000000 in
theorem rX10_readDigits (t : Nat) (p1 : Int32) (hT : LY10 sh P t) : Rj l D cA h0 ad yX10_readDigits cX10_readDigits 5 (some .int) false 3 0 0 (fun b => (some (.int b.1), sh, P, b.2)) [.ref (h0 + t), .int p1] sh P σ (mX10_readDigits t p1 σ) := by
  rw [mX10_readDigits]
  refine Rj.of (by decide) (fun h => by cases h) (Nat.le_of_ble_eq_true rfl) ?_
  refine tj_lv0 (lv' := [(0, .ref (h0 + t)), (1, .int p1)]) rfl ?_
  refine tj_iload_n (q := 1) dX10_readDigits_0 rfl (i := 1) rfl (pl := 1) rfl ?_
  refine tj_istore_n (q := 2) dX10_readDigits_1 rfl (i := 2) rfl (by decide) rfl ?_
  refine tj_iconst (q := 3) (v := 0) dX10_readDigits_2 rfl (by decide) ?_
  refine tj_istore_n (q := 4) dX10_readDigits_3 rfl (i := 3) rfl (by decide) rfl ?_
  refine tj_lv [2, 3, 1, 0] rfl ?_
  refine tmX10_readDigits_L4 σ t hT p1 _ ?_ FU p1 (0 : Int32)
  · intro y5 y6
    refine tj_iload_n (q := 46) dX10_readDigits_45 rfl (i := 2) rfl (pl := 2) rfl ?_
    refine tj_aload_n (q := 47) dX10_readDigits_46 rfl (i := 0) rfl (pl := 0) rfl ?_
    refine tj_getI (q := 50) (hT).s fok_10_1 wl_RX10_15 dX10_readDigits_47 rfl ?_
    refine tj_bnd (fun k8 => ∀ (j7 : Bool), Tj l D cA h0 ad RX10 cX10_readDigits 5 (some .int) false 3 0 0 (fun b => (some (.int b.1), sh, P, b.2)) 0 0 sh P σ 70 [(0, .ref (h0 + t)), (1, .int p1), (2, .int y5), (3, .int y6)] [.int (b2i j7)] (k8 j7)) ?_ (fun k8 hk9 => ?_)
    · intro j7
      refine tj_istore (q := 72) dX10_readDigits_70 rfl (by decide) rfl ?_
      refine tj_aload_n (q := 73) dX10_readDigits_72 rfl (i := 0) rfl (pl := 1) rfl ?_
      refine tj_getR (q := 76) (hT).s (hT).p_values fok_10_4 wl_RX10_25 dX10_readDigits_73 rfl ?_
      refine tj_aload_n (q := 77) dX10_readDigits_76 rfl (i := 0) rfl (pl := 1) rfl ?_
      refine tj_getI (q := 80) (hT).s fok_10_5 wl_RX10_29 dX10_readDigits_77 rfl ?_
      refine tj_iload_n (q := 81) dX10_readDigits_80 rfl (i := 3) rfl (pl := 4) rfl ?_
      refine tj_i2l (q := 82) dX10_readDigits_81 rfl ?_
      refine tj_sndL (fun v10 => ?_)
      refine tj_lastore (q := 83) (hT).s_values dX10_readDigits_82 rfl (fun σ11 => ?_)
      refine tj_aload_n (q := 84) dX10_readDigits_83 rfl (i := 0) rfl (pl := 1) rfl ?_
      refine tj_getR (q := 87) (hT).s (hT).p_sorts fok_10_3 wl_RX10_22 dX10_readDigits_84 rfl ?_
      refine tj_aload_n (q := 88) dX10_readDigits_87 rfl (i := 0) rfl (pl := 1) rfl ?_
      refine tj_getI (q := 91) (hT).s fok_10_5 wl_RX10_29 dX10_readDigits_88 rfl ?_
      refine tj_iload_n (q := 92) dX10_readDigits_91 rfl (i := 2) rfl (pl := 3) rfl ?_
      refine tj_iload_n (q := 93) dX10_readDigits_92 rfl (i := 1) rfl (pl := 2) rfl ?_
      refine tj_isub (q := 94) dX10_readDigits_93 rfl ?_
      refine tj_iconst (q := 95) (v := 4) dX10_readDigits_94 rfl (by decide) ?_
      refine tj_bnd (fun k13 => ∀ (j12 : Int32), Tj l D cA h0 ad RX10 cX10_readDigits 5 (some .int) false 3 0 0 (fun b => (some (.int b.1), sh, P, b.2)) 0 0 sh P σ11 108 [(2, .int y5)] [.int j12, .int (σ11.1 t 5), .ref (h0 + (t + 3))] (k13 j12)) ?_ (fun k13 hk14 => ?_)
      · intro j12
        refine tj_sndI (fun v15 => ?_)
        refine tj_iastore (q := 109) (hT).s_sorts dX10_readDigits_108 rfl (fun σ16 => ?_)
        refine tj_iload_n (q := 110) dX10_readDigits_109 rfl (i := 2) rfl (pl := 0) rfl ?_
        exact tj_iret rfl rfl (Nat.le_of_ble_eq_true rfl) (Nat.le_of_ble_eq_true rfl) dX10_readDigits_110
      · refine tj_bnd (fun k17 => Tj l D cA h0 ad RX10 cX10_readDigits 5 (some .int) false 3 0 0 (fun b => (some (.int b.1), sh, P, b.2)) 0 0 sh P σ11 103 [(2, .int y5)] [.int (σ11.1 t 5), .ref (h0 + (t + 3))] k17) ?_ (fun k17 hk18 => ?_)
        · refine tj_iconst (q := 104) (v := 1) dX10_readDigits_103 rfl (by decide) ?_
          refine tj_goto (q := 108) dX10_readDigits_104 (by decide) ?_
          exact hk14 (1 : Int32)
        · refine tj_icmp_gt (tgt := 103) (q := 98) dX10_readDigits_95 (by decide) rfl ?_ ?_
          · refine tj_lv [3] rfl ?_
            exact hk18
          · refine tj_iload (q := 100) dX10_readDigits_98 rfl (pl := 0) rfl ?_
            refine tj_bz (tgt := 107) (q := 103) dX10_readDigits_100 (by decide) rfl ?_ ?_
            · refine tj_lv [3] rfl ?_
              exact hk18
            · refine tj_iconst (q := 108) (v := 4) dX10_readDigits_107 rfl (by decide) ?_
              refine tj_lv [3] rfl ?_
              exact hk14 (4 : Int32)
    · refine tj_bnd (fun k19 => Tj l D cA h0 ad RX10 cX10_readDigits 5 (some .int) false 3 0 0 (fun b => (some (.int b.1), sh, P, b.2)) 0 0 sh P σ 69 [(0, .ref (h0 + t)), (1, .int p1), (2, .int y5), (3, .int y6)] [] k19) ?_ (fun k19 hk20 => ?_)
      · refine tj_iconst (q := 70) (v := 0) dX10_readDigits_69 rfl (by decide) ?_
        exact hk9 false
      · refine tj_icmp_ge (tgt := 69) (q := 53) dX10_readDigits_50 (by decide) rfl ?_ ?_
        · exact hk20
        · refine tj_aload_n (q := 54) dX10_readDigits_53 rfl (i := 0) rfl (pl := 0) rfl ?_
          refine tj_getR (q := 57) (hT).s (hT).p_text fok_10_0 wl_RX10_9 dX10_readDigits_54 rfl ?_
          refine tj_iload_n (q := 58) dX10_readDigits_57 rfl (i := 2) rfl (pl := 2) rfl ?_
          refine tj_iaload (q := 59) (hT).s_text dX10_readDigits_58 rfl ?_
          refine tj_topI (fun v21 => ?_)
          refine tj_callZp (q := 62) (kj_S (As := [.int v21]) (rest := []) wi_RX10_48 (rX10_isLetter v21) rfl (Nat.le_of_ble_eq_true rfl) ⟨Nat.le_of_ble_eq_true rfl, Nat.le_of_ble_eq_true rfl⟩ (Nat.le_of_ble_eq_true rfl) dX10_readDigits_59) rfl (fun r22 => ?_)
          refine tj_bz (tgt := 69) (q := 65) dX10_readDigits_62 (by decide) rfl ?_ ?_
          · refine tj_iconst (q := 66) (v := 1) dX10_readDigits_65 rfl (by decide) ?_
            refine tj_goto (q := 70) dX10_readDigits_66 (by decide) ?_
            exact hk9 true
          · exact hk20

theorem dX10_next_0 : decode cX10_next 0 = .ok (.aload_n 0, 1) := by decide +kernel
theorem dX10_next_1 : decode cX10_next 1 = .ok (.getfield 32, 3) := by decide +kernel
theorem dX10_next_4 : decode cX10_next 4 = .ok (.aload_n 0, 1) := by decide +kernel
theorem dX10_next_5 : decode cX10_next 5 = .ok (.getfield 29, 3) := by decide +kernel
theorem dX10_next_8 : decode cX10_next 8 = .ok (.if_icmp .ge 13, 3) := by decide +kernel
theorem dX10_next_11 : decode cX10_next 11 = .ok (.aload_n 0, 1) := by decide +kernel
theorem dX10_next_12 : decode cX10_next 12 = .ok (.dup, 1) := by decide +kernel
theorem dX10_next_13 : decode cX10_next 13 = .ok (.getfield 32, 3) := by decide +kernel
theorem dX10_next_16 : decode cX10_next 16 = .ok (.iconst 1, 1) := by decide +kernel
theorem dX10_next_17 : decode cX10_next 17 = .ok (.iadd, 1) := by decide +kernel
theorem dX10_next_18 : decode cX10_next 18 = .ok (.putfield 32, 3) := by decide +kernel
theorem dX10_next_21 : decode cX10_next 21 = .ok (.return_, 1) := by decide +kernel
theorem wl_RX10_32 : Cond.fieldLink RX10 32 (TX10 6).1 (TX10 6).2.1 (TX10 6).2.2.1 ∈ TB := tbm 190 (by decide +kernel) (by decide +kernel)
def mX10_next (t : Nat) (σ : St_) : Option St_ :=
 (if (σ.1 t 5) ≤ (σ.1 t 6) then
 (some σ)
 else (bnd (sI σ t 6 ((σ.1 t 6) + (1 : Int32))) fun σ1 =>
 (some σ1)))
set_option maxHeartbeats 4000000 in
theorem rX10_next (t : Nat) (hT : LY10 sh P t) : Rj l D cA h0 ad yX10_next cX10_next 1 none false 2 0 0 (fun b => (none, sh, P, b)) [.ref (h0 + t)] sh P σ (mX10_next t σ) := by
  rw [mX10_next]
  refine Rj.of (by decide) (fun h => by cases h) (Nat.le_of_ble_eq_true rfl) ?_
  refine tj_lv0 (lv' := [(0, .ref (h0 + t))]) rfl ?_
  refine tj_aload_n (q := 1) dX10_next_0 rfl (i := 0) rfl (pl := 0) rfl ?_
  refine tj_getI (q := 4) (hT).s fok_10_6 wl_RX10_32 dX10_next_1 rfl ?_
  refine tj_aload_n (q := 5) dX10_next_4 rfl (i := 0) rfl (pl := 0) rfl ?_
  refine tj_getI (q := 8) (hT).s fok_10_5 wl_RX10_29 dX10_next_5 rfl ?_
  refine tj_icmp_ge (tgt := 21) (q := 11) dX10_next_8 (by decide) rfl ?_ ?_
  · exact tj_vret rfl rfl (Nat.le_of_ble_eq_true rfl) (Nat.le_of_ble_eq_true rfl) dX10_next_21
  · refine tj_aload_n (q := 12) dX10_next_11 rfl (i := 0) rfl (pl := 0) rfl ?_
    refine tj_dup (q := 13) dX10_next_12 rfl rfl ?_
    refine tj_getI (q := 16) (hT).s fok_10_6 wl_RX10_32 dX10_next_13 rfl ?_
    refine tj_iconst (q := 17) (v := 1) dX10_next_16 rfl (by decide) ?_
    refine tj_iadd (q := 18) dX10_next_17 rfl ?_
    refine tj_putI (q := 21) (hT).s fok_10_6 tok_10 fpk_10_6 wl_RX10_32 dX10_next_18 rfl (fun σ1 => ?_)
    exact tj_vret rfl rfl (Nat.le_of_ble_eq_true rfl) (Nat.le_of_ble_eq_true rfl) dX10_next_21

theorem dX10_isSort_0 : decode cX10_isSort 0 = .ok (.aload_n 0, 1) := by decide +kernel
theorem dX10_isSort_1 : decode cX10_isSort 1 = .ok (.getfield 22, 3) := by decide +kernel
theorem dX10_isSort_4 : decode cX10_isSort 4 = .ok (.aload_n 0, 1) := by decide +kernel
theorem dX10_isSort_5 : decode cX10_isSort 5 = .ok (.getfield 32, 3) := by decide +kernel
theorem dX10_isSort_8 : decode cX10_isSort 8 = .ok (.iaload, 1) := by decide +kernel
theorem dX10_isSort_9 : decode cX10_isSort 9 = .ok (.iload_n 1, 1) := by decide +kernel
theorem dX10_isSort_10 : decode cX10_isSort 10 = .ok (.if_icmp .ne 7, 3) := by decide +kernel
theorem dX10_isSort_13 : decode cX10_isSort 13 = .ok (.iconst 1, 1) := by decide +kernel
theorem dX10_isSort_14 : decode cX10_isSort 14 = .ok (.goto 4, 3) := by decide +kernel
theorem dX10_isSort_17 : decode cX10_isSort 17 = .ok (.iconst 0, 1) := by decide +kernel
theorem dX10_isSort_18 : decode cX10_isSort 18 = .ok (.ireturn, 1) := by decide +kernel
def mX10_isSort (t : Nat) (p1 : Int32) (σ : St_) : Option Bool :=
 (bnd (σ.1 t 6) fun v1 =>
 (if bin v1 1701 = true then bnd (σ.1 (t + 3) v1.toNatClampNeg) fun v2 =>
 (if v2 = p1 then
 (some true)
 else (some false))
 else none))
set_option maxHeartbeats 4000000 in
theorem rX10_isSort (t : Nat) (p1 : Int32) (hT : LY10 sh P t) : Rj l D cA h0 ad yX10_isSort cX10_isSort 2 (some .boolean) false 2 0 0 (fun b => (some (.int (b2i b)), sh, P, σ)) [.ref (h0 + t), .int p1] sh P σ (mX10_isSort t p1 σ) := by
  rw [mX10_isSort]
  refine Rj.of (by decide) (fun h => by cases h) (Nat.le_of_ble_eq_true rfl) ?_
  refine tj_lv0 (lv' := [(0, .ref (h0 + t)), (1, .int p1)]) rfl ?_
  refine tj_aload_n (q := 1) dX10_isSort_0 rfl (i := 0) rfl (pl := 0) rfl ?_
  refine tj_getR (q := 4) (hT).s (hT).p_sorts fok_10_3 wl_RX10_22 dX10_isSort_1 rfl ?_
  refine tj_aload_n (q := 5) dX10_isSort_4 rfl (i := 0) rfl (pl := 0) rfl ?_
  refine tj_getI (q := 8) (hT).s fok_10_6 wl_RX10_32 dX10_isSort_5 rfl ?_
  refine tj_topI (fun v1 => ?_)
  refine tj_iaload (q := 9) (hT).s_sorts dX10_isSort_8 rfl ?_
  refine tj_topI (fun v2 => ?_)
  refine tj_iload_n (q := 10) dX10_isSort_9 rfl (i := 1) rfl (pl := 1) rfl ?_
  refine tj_icmp_ne (tgt := 17) (q := 13) dX10_isSort_10 (by decide) rfl ?_ ?_
  · refine tj_iconst (q := 14) (v := 1) dX10_isSort_13 rfl (by decide) ?_
    refine tj_goto (q := 18) dX10_isSort_14 (by decide) ?_
    exact tj_zret rfl (by decide) rfl (Nat.le_of_ble_eq_true rfl) (Nat.le_of_ble_eq_true rfl) dX10_isSort_18
  · refine tj_iconst (q := 18) (v := 0) dX10_isSort_17 rfl (by decide) ?_
    exact tj_zret rfl (by decide) rfl (Nat.le_of_ble_eq_true rfl) (Nat.le_of_ble_eq_true rfl) dX10_isSort_18

theorem dX10_number_0 : decode cX10_number 0 = .ok (.aload_n 0, 1) := by decide +kernel
theorem dX10_number_1 : decode cX10_number 1 = .ok (.getfield 25, 3) := by decide +kernel
theorem dX10_number_4 : decode cX10_number 4 = .ok (.aload_n 0, 1) := by decide +kernel
theorem dX10_number_5 : decode cX10_number 5 = .ok (.getfield 32, 3) := by decide +kernel
theorem dX10_number_8 : decode cX10_number 8 = .ok (.laload, 1) := by decide +kernel
theorem dX10_number_9 : decode cX10_number 9 = .ok (.l2i, 1) := by decide +kernel
theorem dX10_number_10 : decode cX10_number 10 = .ok (.ireturn, 1) := by decide +kernel
def mX10_number (t : Nat) (σ : St_) : Option Int32 :=
 (bnd (σ.1 t 6) fun v1 =>
 (if bin v1 1701 = true then bnd (σ.2 (t + 4) v1.toNatClampNeg) fun v2 =>
 (some v2.toInt32)
 else none))
set_option maxHeartbeats 4000000 in
theorem rX10_number (t : Nat) (hT : LY10 sh P t) : Rj l D cA h0 ad yX10_number cX10_number 1 (some .int) false 2 0 0 (fun b => (some (.int b), sh, P, σ)) [.ref (h0 + t)] sh P σ (mX10_number t σ) := by
  rw [mX10_number]
  refine Rj.of (by decide) (fun h => by cases h) (Nat.le_of_ble_eq_true rfl) ?_
  refine tj_lv0 (lv' := [(0, .ref (h0 + t))]) rfl ?_
  refine tj_aload_n (q := 1) dX10_number_0 rfl (i := 0) rfl (pl := 0) rfl ?_
  refine tj_getR (q := 4) (hT).s (hT).p_values fok_10_4 wl_RX10_25 dX10_number_1 rfl ?_
  refine tj_aload_n (q := 5) dX10_number_4 rfl (i := 0) rfl (pl := 0) rfl ?_
  refine tj_getI (q := 8) (hT).s fok_10_6 wl_RX10_32 dX10_number_5 rfl ?_
  refine tj_topI (fun v1 => ?_)
  refine tj_laload (q := 9) (hT).s_values dX10_number_8 rfl ?_
  refine tj_topL (fun v2 => ?_)
  refine tj_l2i (q := 10) dX10_number_9 rfl ?_
  exact tj_iret rfl rfl (Nat.le_of_ble_eq_true rfl) (Nat.le_of_ble_eq_true rfl) dX10_number_10

theorem dX10_isWord_0 : decode cX10_isWord 0 = .ok (.aload_n 0, 1) := by decide +kernel
theorem dX10_isWord_1 : decode cX10_isWord 1 = .ok (.getfield 22, 3) := by decide +kernel
theorem dX10_isWord_4 : decode cX10_isWord 4 = .ok (.aload_n 0, 1) := by decide +kernel
theorem dX10_isWord_5 : decode cX10_isWord 5 = .ok (.getfield 32, 3) := by decide +kernel
theorem dX10_isWord_8 : decode cX10_isWord 8 = .ok (.iaload, 1) := by decide +kernel
theorem dX10_isWord_9 : decode cX10_isWord 9 = .ok (.iconst 3, 1) := by decide +kernel
theorem dX10_isWord_10 : decode cX10_isWord 10 = .ok (.if_icmp .ne 22, 3) := by decide +kernel
theorem dX10_isWord_13 : decode cX10_isWord 13 = .ok (.aload_n 0, 1) := by decide +kernel
theorem dX10_isWord_14 : decode cX10_isWord 14 = .ok (.getfield 25, 3) := by decide +kernel
theorem dX10_isWord_17 : decode cX10_isWord 17 = .ok (.aload_n 0, 1) := by decide +kernel
theorem dX10_isWord_18 : decode cX10_isWord 18 = .ok (.getfield 32, 3) := by decide +kernel
theorem dX10_isWord_21 : decode cX10_isWord 21 = .ok (.laload, 1) := by decide +kernel
theorem dX10_isWord_22 : decode cX10_isWord 22 = .ok (.iload_n 1, 1) := by decide +kernel
theorem dX10_isWord_23 : decode cX10_isWord 23 = .ok (.i2l, 1) := by decide +kernel
theorem dX10_isWord_24 : decode cX10_isWord 24 = .ok (.lcmp, 1) := by decide +kernel
theorem dX10_isWord_25 : decode cX10_isWord 25 = .ok (.ifCond .ne 7, 3) := by decide +kernel
theorem dX10_isWord_28 : decode cX10_isWord 28 = .ok (.iconst 1, 1) := by decide +kernel
theorem dX10_isWord_29 : decode cX10_isWord 29 = .ok (.goto 4, 3) := by decide +kernel
theorem dX10_isWord_32 : decode cX10_isWord 32 = .ok (.iconst 0, 1) := by decide +kernel
theorem dX10_isWord_33 : decode cX10_isWord 33 = .ok (.ireturn, 1) := by decide +kernel
def mX10_isWord (t : Nat) (p1 : Int32) (σ : St_) : Option Bool :=
 (bnd (σ.1 t 6) fun v1 =>
 (if bin v1 1701 = true then bnd (σ.1 (t + 3) v1.toNatClampNeg) fun v2 =>
 (if v2 = (3 : Int32) then
 (bnd (σ.1 t 6) fun v3 =>
 (if bin v3 1701 = true then bnd (σ.2 (t + 4) v3.toNatClampNeg) fun v4 =>
 (if (lg_cmp v4 p1.toInt64) = 0 then
 (some true)
 else (some false))
 else none))
 else (some false))
 else none))
set_option maxHeartbeats 4000000 in
theorem rX10_isWord (t : Nat) (p1 : Int32) (hT : LY10 sh P t) : Rj l D cA h0 ad yX10_isWord cX10_isWord 2 (some .boolean) false 2 0 0 (fun b => (some (.int (b2i b)), sh, P, σ)) [.ref (h0 + t), .int p1] sh P σ (mX10_isWord t p1 σ) := by
  rw [mX10_isWord]
  refine Rj.of (by decide) (fun h => by cases h) (Nat.le_of_ble_eq_true rfl) ?_
  refine tj_lv0 (lv' := [(0, .ref (h0 + t)), (1, .int p1)]) rfl ?_
  refine tj_aload_n (q := 1) dX10_isWord_0 rfl (i := 0) rfl (pl := 0) rfl ?_
  refine tj_getR (q := 4) (hT).s (hT).p_sorts fok_10_3 wl_RX10_22 dX10_isWord_1 rfl ?_
  refine tj_aload_n (q := 5) dX10_isWord_4 rfl (i := 0) rfl (pl := 0) rfl ?_
  refine tj_getI (q := 8) (hT).s fok_10_6 wl_RX10_32 dX10_isWord_5 rfl ?_
  refine tj_topI (fun v1 => ?_)
  refine tj_iaload (q := 9) (hT).s_sorts dX10_isWord_8 rfl ?_
  refine tj_topI (fun v2 => ?_)
  refine tj_iconst (q := 10) (v := 3) dX10_isWord_9 rfl (by decide) ?_
  refine tj_icmp_ne (tgt := 32) (q := 13) dX10_isWord_10 (by decide) rfl ?_ ?_
  · refine tj_aload_n (q := 14) dX10_isWord_13 rfl (i := 0) rfl (pl := 0) rfl ?_
    refine tj_getR (q := 17) (hT).s (hT).p_values fok_10_4 wl_RX10_25 dX10_isWord_14 rfl ?_
    refine tj_aload_n (q := 18) dX10_isWord_17 rfl (i := 0) rfl (pl := 0) rfl ?_
    refine tj_getI (q := 21) (hT).s fok_10_6 wl_RX10_32 dX10_isWord_18 rfl ?_
    refine tj_topI (fun v3 => ?_)
    refine tj_laload (q := 22) (hT).s_values dX10_isWord_21 rfl ?_
    refine tj_topL (fun v4 => ?_)
    refine tj_iload_n (q := 23) dX10_isWord_22 rfl (i := 1) rfl (pl := 1) rfl ?_
    refine tj_i2l (q := 24) dX10_isWord_23 rfl ?_
    refine tj_lcmp (q := 25) dX10_isWord_24 rfl ?_
    refine tj_if_ne (tgt := 32) (q := 28) dX10_isWord_25 (by decide) rfl ?_ ?_
    · refine tj_iconst (q := 29) (v := 1) dX10_isWord_28 rfl (by decide) ?_
      refine tj_goto (q := 33) dX10_isWord_29 (by decide) ?_
      exact tj_zret rfl (by decide) rfl (Nat.le_of_ble_eq_true rfl) (Nat.le_of_ble_eq_true rfl) dX10_isWord_33
    · refine tj_iconst (q := 33) (v := 0) dX10_isWord_32 rfl (by decide) ?_
      exact tj_zret rfl (by decide) rfl (Nat.le_of_ble_eq_true rfl) (Nat.le_of_ble_eq_true rfl) dX10_isWord_33
  · refine tj_iconst (q := 33) (v := 0) dX10_isWord_32 rfl (by decide) ?_
    exact tj_zret rfl (by decide) rfl (Nat.le_of_ble_eq_true rfl) (Nat.le_of_ble_eq_true rfl) dX10_isWord_33

theorem dX10_isSign_0 : decode cX10_isSign 0 = .ok (.aload_n 0, 1) := by decide +kernel
theorem dX10_isSign_1 : decode cX10_isSign 1 = .ok (.getfield 22, 3) := by decide +kernel
theorem dX10_isSign_4 : decode cX10_isSign 4 = .ok (.aload_n 0, 1) := by decide +kernel
theorem dX10_isSign_5 : decode cX10_isSign 5 = .ok (.getfield 32, 3) := by decide +kernel
theorem dX10_isSign_8 : decode cX10_isSign 8 = .ok (.iaload, 1) := by decide +kernel
theorem dX10_isSign_9 : decode cX10_isSign 9 = .ok (.iconst 5, 1) := by decide +kernel
theorem dX10_isSign_10 : decode cX10_isSign 10 = .ok (.if_icmp .ne 22, 3) := by decide +kernel
theorem dX10_isSign_13 : decode cX10_isSign 13 = .ok (.aload_n 0, 1) := by decide +kernel
theorem dX10_isSign_14 : decode cX10_isSign 14 = .ok (.getfield 25, 3) := by decide +kernel
theorem dX10_isSign_17 : decode cX10_isSign 17 = .ok (.aload_n 0, 1) := by decide +kernel
theorem dX10_isSign_18 : decode cX10_isSign 18 = .ok (.getfield 32, 3) := by decide +kernel
theorem dX10_isSign_21 : decode cX10_isSign 21 = .ok (.laload, 1) := by decide +kernel
theorem dX10_isSign_22 : decode cX10_isSign 22 = .ok (.iload_n 1, 1) := by decide +kernel
theorem dX10_isSign_23 : decode cX10_isSign 23 = .ok (.i2l, 1) := by decide +kernel
theorem dX10_isSign_24 : decode cX10_isSign 24 = .ok (.lcmp, 1) := by decide +kernel
theorem dX10_isSign_25 : decode cX10_isSign 25 = .ok (.ifCond .ne 7, 3) := by decide +kernel
theorem dX10_isSign_28 : decode cX10_isSign 28 = .ok (.iconst 1, 1) := by decide +kernel
theorem dX10_isSign_29 : decode cX10_isSign 29 = .ok (.goto 4, 3) := by decide +kernel
theorem dX10_isSign_32 : decode cX10_isSign 32 = .ok (.iconst 0, 1) := by decide +kernel
theorem dX10_isSign_33 : decode cX10_isSign 33 = .ok (.ireturn, 1) := by decide +kernel
def mX10_isSign (t : Nat) (p1 : Int32) (σ : St_) : Option Bool :=
 (bnd (σ.1 t 6) fun v1 =>
 (if bin v1 1701 = true then bnd (σ.1 (t + 3) v1.toNatClampNeg) fun v2 =>
 (if v2 = (5 : Int32) then
 (bnd (σ.1 t 6) fun v3 =>
 (if bin v3 1701 = true then bnd (σ.2 (t + 4) v3.toNatClampNeg) fun v4 =>
 (if (lg_cmp v4 p1.toInt64) = 0 then
 (some true)
 else (some false))
 else none))
 else (some false))
 else none))
set_option maxHeartbeats 4000000 in
theorem rX10_isSign (t : Nat) (p1 : Int32) (hT : LY10 sh P t) : Rj l D cA h0 ad yX10_isSign cX10_isSign 2 (some .boolean) false 2 0 0 (fun b => (some (.int (b2i b)), sh, P, σ)) [.ref (h0 + t), .int p1] sh P σ (mX10_isSign t p1 σ) := by
  rw [mX10_isSign]
  refine Rj.of (by decide) (fun h => by cases h) (Nat.le_of_ble_eq_true rfl) ?_
  refine tj_lv0 (lv' := [(0, .ref (h0 + t)), (1, .int p1)]) rfl ?_
  refine tj_aload_n (q := 1) dX10_isSign_0 rfl (i := 0) rfl (pl := 0) rfl ?_
  refine tj_getR (q := 4) (hT).s (hT).p_sorts fok_10_3 wl_RX10_22 dX10_isSign_1 rfl ?_
  refine tj_aload_n (q := 5) dX10_isSign_4 rfl (i := 0) rfl (pl := 0) rfl ?_
  refine tj_getI (q := 8) (hT).s fok_10_6 wl_RX10_32 dX10_isSign_5 rfl ?_
  refine tj_topI (fun v1 => ?_)
  refine tj_iaload (q := 9) (hT).s_sorts dX10_isSign_8 rfl ?_
  refine tj_topI (fun v2 => ?_)
  refine tj_iconst (q := 10) (v := 5) dX10_isSign_9 rfl (by decide) ?_
  refine tj_icmp_ne (tgt := 32) (q := 13) dX10_isSign_10 (by decide) rfl ?_ ?_
  · refine tj_aload_n (q := 14) dX10_isSign_13 rfl (i := 0) rfl (pl := 0) rfl ?_
    refine tj_getR (q := 17) (hT).s (hT).p_values fok_10_4 wl_RX10_25 dX10_isSign_14 rfl ?_
    refine tj_aload_n (q := 18) dX10_isSign_17 rfl (i := 0) rfl (pl := 0) rfl ?_
    refine tj_getI (q := 21) (hT).s fok_10_6 wl_RX10_32 dX10_isSign_18 rfl ?_
    refine tj_topI (fun v3 => ?_)
    refine tj_laload (q := 22) (hT).s_values dX10_isSign_21 rfl ?_
    refine tj_topL (fun v4 => ?_)
    refine tj_iload_n (q := 23) dX10_isSign_22 rfl (i := 1) rfl (pl := 1) rfl ?_
    refine tj_i2l (q := 24) dX10_isSign_23 rfl ?_
    refine tj_lcmp (q := 25) dX10_isSign_24 rfl ?_
    refine tj_if_ne (tgt := 32) (q := 28) dX10_isSign_25 (by decide) rfl ?_ ?_
    · refine tj_iconst (q := 29) (v := 1) dX10_isSign_28 rfl (by decide) ?_
      refine tj_goto (q := 33) dX10_isSign_29 (by decide) ?_
      exact tj_zret rfl (by decide) rfl (Nat.le_of_ble_eq_true rfl) (Nat.le_of_ble_eq_true rfl) dX10_isSign_33
    · refine tj_iconst (q := 33) (v := 0) dX10_isSign_32 rfl (by decide) ?_
      exact tj_zret rfl (by decide) rfl (Nat.le_of_ble_eq_true rfl) (Nat.le_of_ble_eq_true rfl) dX10_isSign_33
  · refine tj_iconst (q := 33) (v := 0) dX10_isSign_32 rfl (by decide) ?_
    exact tj_zret rfl (by decide) rfl (Nat.le_of_ble_eq_true rfl) (Nat.le_of_ble_eq_true rfl) dX10_isSign_33

theorem dX10_fail_0 : decode cX10_fail 0 = .ok (.aload_n 0, 1) := by decide +kernel
theorem dX10_fail_1 : decode cX10_fail 1 = .ok (.iload_n 1, 1) := by decide +kernel
theorem dX10_fail_2 : decode cX10_fail 2 = .ok (.putfield 35, 3) := by decide +kernel
theorem dX10_fail_5 : decode cX10_fail 5 = .ok (.aload_n 0, 1) := by decide +kernel
theorem dX10_fail_6 : decode cX10_fail 6 = .ok (.aload_n 0, 1) := by decide +kernel
theorem dX10_fail_7 : decode cX10_fail 7 = .ok (.getfield 19, 3) := by decide +kernel
theorem dX10_fail_10 : decode cX10_fail 10 = .ok (.aload_n 0, 1) := by decide +kernel
theorem dX10_fail_11 : decode cX10_fail 11 = .ok (.getfield 32, 3) := by decide +kernel
theorem dX10_fail_14 : decode cX10_fail 14 = .ok (.iaload, 1) := by decide +kernel
theorem dX10_fail_15 : decode cX10_fail 15 = .ok (.putfield 38, 3) := by decide +kernel
theorem dX10_fail_18 : decode cX10_fail 18 = .ok (.iconst 0, 1) := by decide +kernel
theorem dX10_fail_19 : decode cX10_fail 19 = .ok (.ireturn, 1) := by decide +kernel
theorem wl_RX10_35 : Cond.fieldLink RX10 35 (TX10 7).1 (TX10 7).2.1 (TX10 7).2.2.1 ∈ TB := tbm 192 (by decide +kernel) (by decide +kernel)
theorem wl_RX10_19 : Cond.fieldLink RX10 19 (TX10 2).1 (TX10 2).2.1 (TX10 2).2.2.1 ∈ TB := tbm 185 (by decide +kernel) (by decide +kernel)
theorem wl_RX10_38 : Cond.fieldLink RX10 38 (TX10 8).1 (TX10 8).2.1 (TX10 8).2.2.1 ∈ TB := tbm 194 (by decide +kernel) (by decide +kernel)
def mX10_fail (t : Nat) (p1 : Int32) (σ : St_) : Option (Bool × St_) :=
 (bnd (sI σ t 7 p1) fun σ1 =>
 (bnd (σ1.1 t 6) fun v2 =>
 (if bin v2 1701 = true then bnd (σ1.1 (t + 2) v2.toNatClampNeg) fun v3 =>
 (bnd (sI σ1 t 8 v3) fun σ4 =>
 (some (false, σ4)))
 else none)))
set_option maxHeartbeats 4000000 in
theorem rX10_fail (t : Nat) (p1 : Int32) (hT : LY10 sh P t) : Rj l D cA h0 ad yX10_fail cX10_fail 2 (some .boolean) false 2 0 0 (fun b => (some (.int (b2i b.1)), sh, P, b.2)) [.ref (h0 + t), .int p1] sh P σ (mX10_fail t p1 σ) := by
  rw [mX10_fail]
  refine Rj.of (by decide) (fun h => by cases h) (Nat.le_of_ble_eq_true rfl) ?_
  refine tj_lv0 (lv' := [(0, .ref (h0 + t)), (1, .int p1)]) rfl ?_
  refine tj_aload_n (q := 1) dX10_fail_0 rfl (i := 0) rfl (pl := 0) rfl ?_
  refine tj_iload_n (q := 2) dX10_fail_1 rfl (i := 1) rfl (pl := 1) rfl ?_
  refine tj_putI (q := 5) (hT).s fok_10_7 tok_10 fpk_10_7 wl_RX10_35 dX10_fail_2 rfl (fun σ1 => ?_)
  refine tj_aload_n (q := 6) dX10_fail_5 rfl (i := 0) rfl (pl := 0) rfl ?_
  refine tj_aload_n (q := 7) dX10_fail_6 rfl (i := 0) rfl (pl := 0) rfl ?_
  refine tj_getR (q := 10) (hT).s (hT).p_starts fok_10_2 wl_RX10_19 dX10_fail_7 rfl ?_
  refine tj_aload_n (q := 11) dX10_fail_10 rfl (i := 0) rfl (pl := 0) rfl ?_
  refine tj_getI (q := 14) (hT).s fok_10_6 wl_RX10_32 dX10_fail_11 rfl ?_
  refine tj_topI (fun v2 => ?_)
  refine tj_iaload (q := 15) (hT).s_starts dX10_fail_14 rfl ?_
  refine tj_topI (fun v3 => ?_)
  refine tj_putI (q := 18) (hT).s fok_10_8 tok_10 fpk_10_8 wl_RX10_38 dX10_fail_15 rfl (fun σ4 => ?_)
  refine tj_iconst (q := 19) (v := 0) dX10_fail_18 rfl (by decide) ?_
  exact tj_zret rfl (by decide) rfl (Nat.le_of_ble_eq_true rfl) (Nat.le_of_ble_eq_true rfl) dX10_fail_19

theorem dX10_refuse_0 : decode cX10_refuse 0 = .ok (.aload_n 0, 1) := by decide +kernel
theorem dX10_refuse_1 : decode cX10_refuse 1 = .ok (.aload_n 0, 1) := by decide +kernel
theorem dX10_refuse_2 : decode cX10_refuse 2 = .ok (.getfield 22, 3) := by decide +kernel
theorem dX10_refuse_5 : decode cX10_refuse 5 = .ok (.aload_n 0, 1) := by decide +kernel
theorem dX10_refuse_6 : decode cX10_refuse 6 = .ok (.getfield 32, 3) := by decide +kernel
theorem dX10_refuse_9 : decode cX10_refuse 9 = .ok (.iaload, 1) := by decide +kernel
theorem dX10_refuse_10 : decode cX10_refuse 10 = .ok (.iconst 1, 1) := by decide +kernel
theorem dX10_refuse_11 : decode cX10_refuse 11 = .ok (.if_icmp .ne 7, 3) := by decide +kernel
theorem dX10_refuse_14 : decode cX10_refuse 14 = .ok (.iconst 1, 1) := by decide +kernel
theorem dX10_refuse_15 : decode cX10_refuse 15 = .ok (.goto 4, 3) := by decide +kernel
theorem dX10_refuse_18 : decode cX10_refuse 18 = .ok (.iconst 2, 1) := by decide +kernel
theorem dX10_refuse_19 : decode cX10_refuse 19 = .ok (.invokevirtual 102, 3) := by decide +kernel
theorem dX10_refuse_22 : decode cX10_refuse 22 = .ok (.ireturn, 1) := by decide +kernel
theorem wm_X10_fail : Cond.instanceMethod yX10_fail ∈ TB ∧ Cond.selects yX10_fail.cls yX10_fail yX10_fail ∈ TB ∧ Cond.initialized yX10_fail.cls ∈ TB ∧ Cond.code yX10_fail cX10_fail 2 (some .boolean) ∈ TB ∧ (yX10_fail.cls ≠ "java/lang/invoke/MethodHandle" ∧ yX10_fail.cls ≠ "java/lang/invoke/VarHandle" ∧ (parseMethodDescriptor yX10_fail.desc).map (fun d => d.parameters.length) = some 1) ∧ 2 ≤ 21 := ⟨tbm 851 (by decide +kernel) (by decide +kernel), tbm 852 (by decide +kernel) (by decide +kernel), tbm 137 (by decide +kernel) (by decide +kernel), tbm 853 (by decide +kernel) (by decide +kernel), by decide +kernel, by decide⟩
theorem wi_RX10_102 : Iv RX10 102 yX10_fail cX10_fail 2 (some .boolean) 1 := ⟨tbm 850 (by decide +kernel) (by decide +kernel), wm_X10_fail⟩
def mX10_refuse (t : Nat) (σ : St_) : Option (Bool × St_) :=
 (bnd (σ.1 t 6) fun v1 =>
 (if bin v1 1701 = true then bnd (σ.1 (t + 3) v1.toNatClampNeg) fun v2 =>
 (bnd (fun (j3 : Int32) => ((mX10_fail t j3 σ).bind fun r6 =>
 (some (r6.1, r6.2)))) fun k4 =>
 (if v2 = (1 : Int32) then
 (k4 (1 : Int32))
 else (k4 (2 : Int32))))
 else none))
set_option maxHeartbeats 4000000 in
theorem rX10_refuse (t : Nat) (hT : LY10 sh P t) : Rj l D cA h0 ad yX10_refuse cX10_refuse 1 (some .boolean) false 3 0 0 (fun b => (some (.int (b2i b.1)), sh, P, b.2)) [.ref (h0 + t)] sh P σ (mX10_refuse t σ) := by
  rw [mX10_refuse]
  refine Rj.of (by decide) (fun h => by cases h) (Nat.le_of_ble_eq_true rfl) ?_
  refine tj_lv0 (lv' := [(0, .ref (h0 + t))]) rfl ?_
  refine tj_aload_n (q := 1) dX10_refuse_0 rfl (i := 0) rfl (pl := 0) rfl ?_
  refine tj_aload_n (q := 2) dX10_refuse_1 rfl (i := 0) rfl (pl := 0) rfl ?_
  refine tj_getR (q := 5) (hT).s (hT).p_sorts fok_10_3 wl_RX10_22 dX10_refuse_2 rfl ?_
  refine tj_aload_n (q := 6) dX10_refuse_5 rfl (i := 0) rfl (pl := 0) rfl ?_
  refine tj_getI (q := 9) (hT).s fok_10_6 wl_RX10_32 dX10_refuse_6 rfl ?_
  refine tj_topI (fun v1 => ?_)
  refine tj_iaload (q := 10) (hT).s_sorts dX10_refuse_9 rfl ?_
  refine tj_topI (fun v2 => ?_)
  refine tj_iconst (q := 11) (v := 1) dX10_refuse_10 rfl (by decide) ?_
  refine tj_bnd (fun k4 => ∀ (j3 : Int32), Tj l D cA h0 ad RX10 cX10_refuse 1 (some .boolean) false 3 0 0 (fun b => (some (.int (b2i b.1)), sh, P, b.2)) 0 0 sh P σ 19 [] [.int j3, .ref (h0 + t)] (k4 j3)) ?_ (fun k4 hk5 => ?_)
  · intro j3
    refine tj_callZ (q := 22) (kj_V (As := [.int j3]) (rest := []) (t := t) wi_RX10_102 (hT).s rfl (rX10_fail t j3 (hT)) rfl (Nat.le_of_ble_eq_true rfl) ⟨Nat.le_of_ble_eq_true rfl, Nat.le_of_ble_eq_true rfl⟩ (Nat.le_of_ble_eq_true rfl) dX10_refuse_19) rfl (fun r6 => ?_)
    exact tj_zret rfl (nar_b2i _) rfl (Nat.le_of_ble_eq_true rfl) (Nat.le_of_ble_eq_true rfl) dX10_refuse_22
  · refine tj_icmp_ne (tgt := 18) (q := 14) dX10_refuse_11 (by decide) rfl ?_ ?_
    · refine tj_iconst (q := 15) (v := 1) dX10_refuse_14 rfl (by decide) ?_
      refine tj_goto (q := 19) dX10_refuse_15 (by decide) ?_
      refine tj_lv [] rfl ?_
      exact hk5 (1 : Int32)
    · refine tj_iconst (q := 19) (v := 2) dX10_refuse_18 rfl (by decide) ?_
      refine tj_lv [] rfl ?_
      exact hk5 (2 : Int32)

theorem dX10_takeWord_0 : decode cX10_takeWord 0 = .ok (.aload_n 0, 1) := by decide +kernel
theorem dX10_takeWord_1 : decode cX10_takeWord 1 = .ok (.iload_n 1, 1) := by decide +kernel
theorem dX10_takeWord_2 : decode cX10_takeWord 2 = .ok (.invokevirtual 89, 3) := by decide +kernel
theorem dX10_takeWord_5 : decode cX10_takeWord 5 = .ok (.ifCond .ne 8, 3) := by decide +kernel
theorem dX10_takeWord_8 : decode cX10_takeWord 8 = .ok (.aload_n 0, 1) := by decide +kernel
theorem dX10_takeWord_9 : decode cX10_takeWord 9 = .ok (.invokevirtual 92, 3) := by decide +kernel
theorem dX10_takeWord_12 : decode cX10_takeWord 12 = .ok (.ireturn, 1) := by decide +kernel
theorem dX10_takeWord_13 : decode cX10_takeWord 13 = .ok (.aload_n 0, 1) := by decide +kernel
theorem dX10_takeWord_14 : decode cX10_takeWord 14 = .ok (.invokevirtual 96, 3) := by decide +kernel
theorem dX10_takeWord_17 : decode cX10_takeWord 17 = .ok (.iconst 1, 1) := by decide +kernel
theorem dX10_takeWord_18 : decode cX10_takeWord 18 = .ok (.ireturn, 1) := by decide +kernel
theorem wm_X10_isWord : Cond.instanceMethod yX10_isWord ∈ TB ∧ Cond.selects yX10_isWord.cls yX10_isWord yX10_isWord ∈ TB ∧ Cond.initialized yX10_isWord.cls ∈ TB ∧ Cond.code yX10_isWord cX10_isWord 2 (some .boolean) ∈ TB ∧ (yX10_isWord.cls ≠ "java/lang/invoke/MethodHandle" ∧ yX10_isWord.cls ≠ "java/lang/invoke/VarHandle" ∧ (parseMethodDescriptor yX10_isWord.desc).map (fun d => d.parameters.length) = some 1) ∧ 2 ≤ 21 := ⟨tbm 884 (by decide +kernel) (by decide +kernel), tbm 885 (by decide +kernel) (by decide +kernel), tbm 137 (by decide +kernel) (by decide +kernel), tbm 886 (by decide +kernel) (by decide +kernel), by decide +kernel, by decide⟩
theorem wi_RX10_89 : Iv RX10 89 yX10_isWord cX10_isWord 2 (some .boolean) 1 := ⟨tbm 883 (by decide +kernel) (by decide +kernel), wm_X10_isWord⟩
theorem wm_X10_refuse : Cond.instanceMethod yX10_refuse ∈ TB ∧ Cond.selects yX10_refuse.cls yX10_refuse yX10_refuse ∈ TB ∧ Cond.initialized yX10_refuse.cls ∈ TB ∧ Cond.code yX10_refuse cX10_refuse 1 (some .boolean) ∈ TB ∧ (yX10_refuse.cls ≠ "java/lang/invoke/MethodHandle" ∧ yX10_refuse.cls ≠ "java/lang/invoke/VarHandle" ∧ (parseMethodDescriptor yX10_refuse.desc).map (fun d => d.parameters.length) = some 0) ∧ 1 ≤ 21 := ⟨tbm 847 (by decide +kernel) (by decide +kernel), tbm 848 (by decide +kernel) (by decide +kernel), tbm 137 (by decide +kernel) (by decide +kernel), tbm 849 (by decide +kernel) (by decide +kernel), by decide +kernel, by decide⟩
theorem wi_RX10_92 : Iv RX10 92 yX10_refuse cX10_refuse 1 (some .boolean) 0 := ⟨tbm 887 (by decide +kernel) (by decide +kernel), wm_X10_refuse⟩
theorem wm_X10_next : Cond.instanceMethod yX10_next ∈ TB ∧ Cond.selects yX10_next.cls yX10_next yX10_next ∈ TB ∧ Cond.initialized yX10_next.cls ∈ TB ∧ Cond.code yX10_next cX10_next 1 none ∈ TB ∧ (yX10_next.cls ≠ "java/lang/invoke/MethodHandle" ∧ yX10_next.cls ≠ "java/lang/invoke/VarHandle" ∧ (parseMethodDescriptor yX10_next.desc).map (fun d => d.parameters.length) = some 0) ∧ 1 ≤ 21 := ⟨tbm 863 (by decide +kernel) (by decide +kernel), tbm 864 (by decide +kernel) (by decide +kernel), tbm 137 (by decide +kernel) (by decide +kernel), tbm 865 (by decide +kernel) (by decide +kernel), by decide +kernel, by decide⟩
theorem wi_RX10_96 : Iv RX10 96 yX10_next cX10_next 1 none 0 := ⟨tbm 888 (by decide +kernel) (by decide +kernel), wm_X10_next⟩
def mX10_takeWord (t : Nat) (p1 : Int32) (σ : St_) : Option (Bool × St_) :=
 ((mX10_isWord t p1 σ).bind fun r1 =>
 (if r1 = true then
 ((mX10_next t σ).bind fun σ2 =>
 (some (true, σ2)))
 else ((mX10_refuse t σ).bind fun r3 =>
 (some (r3.1, r3.2)))))
set_option maxHeartbeats 4000000 in
theorem rX10_takeWord (t : Nat) (p1 : Int32) (hT : LY10 sh P t) : Rj l D cA h0 ad yX10_takeWord cX10_takeWord 2 (some .boolean) false 4 0 0 (fun b => (some (.int (b2i b.1)), sh, P, b.2)) [.ref (h0 + t), .int p1] sh P σ (mX10_takeWord t p1 σ) := by
  rw [mX10_takeWord]
  refine Rj.of (by decide) (fun h => by cases h) (Nat.le_of_ble_eq_true rfl) ?_
  refine tj_lv0 (lv' := [(0, .ref (h0 + t)), (1, .int p1)]) rfl ?_
  refine tj_aload_n (q := 1) dX10_takeWord_0 rfl (i := 0) rfl (pl := 0) rfl ?_
  refine tj_iload_n (q := 2) dX10_takeWord_1 rfl (i := 1) rfl (pl := 1) rfl ?_
  refine tj_callZp (q := 5) (kj_V (As := [.int p1]) (rest := []) (t := t) wi_RX10_89 (hT).s rfl (rX10_isWord t p1 (hT)) rfl (Nat.le_of_ble_eq_true rfl) ⟨Nat.le_of_ble_eq_true rfl, Nat.le_of_ble_eq_true rfl⟩ (Nat.le_of_ble_eq_true rfl) dX10_takeWord_2) rfl (fun r1 => ?_)
  refine tj_bnz (tgt := 13) (q := 8) dX10_takeWord_5 (by decide) rfl ?_ ?_
  · refine tj_aload_n (q := 14) dX10_takeWord_13 rfl (i := 0) rfl (pl := 0) rfl ?_
    refine tj_callV (q := 17) (kj_V (As := []) (rest := []) (t := t) wi_RX10_96 (hT).s rfl (rX10_next t (hT)) rfl (Nat.le_of_ble_eq_true rfl) ⟨Nat.le_of_ble_eq_true rfl, Nat.le_of_ble_eq_true rfl⟩ (Nat.le_of_ble_eq_true rfl) dX10_takeWord_14) rfl (fun σ2 => ?_)
    refine tj_iconst (q := 18) (v := 1) dX10_takeWord_17 rfl (by decide) ?_
    exact tj_zret rfl (by decide) rfl (Nat.le_of_ble_eq_true rfl) (Nat.le_of_ble_eq_true rfl) dX10_takeWord_18
  · refine tj_aload_n (q := 9) dX10_takeWord_8 rfl (i := 0) rfl (pl := 0) rfl ?_
    refine tj_callZ (q := 12) (kj_V (As := []) (rest := []) (t := t) wi_RX10_92 (hT).s rfl (rX10_refuse t (hT)) rfl (Nat.le_of_ble_eq_true rfl) ⟨Nat.le_of_ble_eq_true rfl, Nat.le_of_ble_eq_true rfl⟩ (Nat.le_of_ble_eq_true rfl) dX10_takeWord_9) rfl (fun r3 => ?_)
    exact tj_zret rfl (nar_b2i _) rfl (Nat.le_of_ble_eq_true rfl) (Nat.le_of_ble_eq_true rfl) dX10_takeWord_12

theorem dX10_takeSign_0 : decode cX10_takeSign 0 = .ok (.aload_n 0, 1) := by decide +kernel
theorem dX10_takeSign_1 : decode cX10_takeSign 1 = .ok (.iload_n 1, 1) := by decide +kernel
theorem dX10_takeSign_2 : decode cX10_takeSign 2 = .ok (.invokevirtual 99, 3) := by decide +kernel
theorem dX10_takeSign_5 : decode cX10_takeSign 5 = .ok (.ifCond .ne 8, 3) := by decide +kernel
theorem dX10_takeSign_8 : decode cX10_takeSign 8 = .ok (.aload_n 0, 1) := by decide +kernel
theorem dX10_takeSign_9 : decode cX10_takeSign 9 = .ok (.invokevirtual 92, 3) := by decide +kernel
theorem dX10_takeSign_12 : decode cX10_takeSign 12 = .ok (.ireturn, 1) := by decide +kernel
theorem dX10_takeSign_13 : decode cX10_takeSign 13 = .ok (.aload_n 0, 1) := by decide +kernel
theorem dX10_takeSign_14 : decode cX10_takeSign 14 = .ok (.invokevirtual 96, 3) := by decide +kernel
theorem dX10_takeSign_17 : decode cX10_takeSign 17 = .ok (.iconst 1, 1) := by decide +kernel
theorem dX10_takeSign_18 : decode cX10_takeSign 18 = .ok (.ireturn, 1) := by decide +kernel
theorem wm_X10_isSign : Cond.instanceMethod yX10_isSign ∈ TB ∧ Cond.selects yX10_isSign.cls yX10_isSign yX10_isSign ∈ TB ∧ Cond.initialized yX10_isSign.cls ∈ TB ∧ Cond.code yX10_isSign cX10_isSign 2 (some .boolean) ∈ TB ∧ (yX10_isSign.cls ≠ "java/lang/invoke/MethodHandle" ∧ yX10_isSign.cls ≠ "java/lang/invoke/VarHandle" ∧ (parseMethodDescriptor yX10_isSign.desc).map (fun d => d.parameters.length) = some 1) ∧ 2 ≤ 21 := ⟨tbm 970 (by decide +kernel) (by decide +kernel), tbm 971 (by decide +kernel) (by decide +kernel), tbm 137 (by decide +kernel) (by decide +kernel), tbm 972 (by decide +kernel) (by decide +kernel), by decide +kernel, by decide⟩
theorem wi_RX10_99 : Iv RX10 99 yX10_isSign cX10_isSign 2 (some .boolean) 1 := ⟨tbm 982 (by decide +kernel) (by decide +kernel), wm_X10_isSign⟩
def mX10_takeSign (t : Nat) (p1 : Int32) (σ : St_) : Option (Bool × St_) :=
 ((mX10_isSign t p1 σ).bind fun r1 =>
 (if r1 = true then
 ((mX10_next t σ).bind fun σ2 =>
 (some (true, σ2)))
 else ((mX10_refuse t σ).bind fun r3 =>
 (some (r3.1, r3.2)))))
set_option maxHeartbeats 4000000 in
theorem rX10_takeSign (t : Nat) (p1 : Int32) (hT : LY10 sh P t) : Rj l D cA h0 ad yX10_takeSign cX10_takeSign 2 (some .boolean) false 4 0 0 (fun b => (some (.int (b2i b.1)), sh, P, b.2)) [.ref (h0 + t), .int p1] sh P σ (mX10_takeSign t p1 σ) := by
  rw [mX10_takeSign]
  refine Rj.of (by decide) (fun h => by cases h) (Nat.le_of_ble_eq_true rfl) ?_
  refine tj_lv0 (lv' := [(0, .ref (h0 + t)), (1, .int p1)]) rfl ?_
  refine tj_aload_n (q := 1) dX10_takeSign_0 rfl (i := 0) rfl (pl := 0) rfl ?_
  refine tj_iload_n (q := 2) dX10_takeSign_1 rfl (i := 1) rfl (pl := 1) rfl ?_
  refine tj_callZp (q := 5) (kj_V (As := [.int p1]) (rest := []) (t := t) wi_RX10_99 (hT).s rfl (rX10_isSign t p1 (hT)) rfl (Nat.le_of_ble_eq_true rfl) ⟨Nat.le_of_ble_eq_true rfl, Nat.le_of_ble_eq_true rfl⟩ (Nat.le_of_ble_eq_true rfl) dX10_takeSign_2) rfl (fun r1 => ?_)
  refine tj_bnz (tgt := 13) (q := 8) dX10_takeSign_5 (by decide) rfl ?_ ?_
  · refine tj_aload_n (q := 14) dX10_takeSign_13 rfl (i := 0) rfl (pl := 0) rfl ?_
    refine tj_callV (q := 17) (kj_V (As := []) (rest := []) (t := t) wi_RX10_96 (hT).s rfl (rX10_next t (hT)) rfl (Nat.le_of_ble_eq_true rfl) ⟨Nat.le_of_ble_eq_true rfl, Nat.le_of_ble_eq_true rfl⟩ (Nat.le_of_ble_eq_true rfl) dX10_takeSign_14) rfl (fun σ2 => ?_)
    refine tj_iconst (q := 18) (v := 1) dX10_takeSign_17 rfl (by decide) ?_
    exact tj_zret rfl (by decide) rfl (Nat.le_of_ble_eq_true rfl) (Nat.le_of_ble_eq_true rfl) dX10_takeSign_18
  · refine tj_aload_n (q := 9) dX10_takeSign_8 rfl (i := 0) rfl (pl := 0) rfl ?_
    refine tj_callZ (q := 12) (kj_V (As := []) (rest := []) (t := t) wi_RX10_92 (hT).s rfl (rX10_refuse t (hT)) rfl (Nat.le_of_ble_eq_true rfl) ⟨Nat.le_of_ble_eq_true rfl, Nat.le_of_ble_eq_true rfl⟩ (Nat.le_of_ble_eq_true rfl) dX10_takeSign_9) rfl (fun r3 => ?_)
    exact tj_zret rfl (nar_b2i _) rfl (Nat.le_of_ble_eq_true rfl) (Nat.le_of_ble_eq_true rfl) dX10_takeSign_12

end
