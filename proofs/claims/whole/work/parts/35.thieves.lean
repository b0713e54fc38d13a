section
variable {l : Launch} {D : va_G} {cA : Nat → ClassId} {h0 : Nat} {ad : Ad_} {sh : Sh_} {P : Px_} {σ : St_}
theorem dX11_feed_0 : decode cX11_feed 0 = .ok (.aload_n 0, 1) := by decide +kernel
theorem dX11_feed_1 : decode cX11_feed 1 = .ok (.getfield 20, 3) := by decide +kernel
theorem dX11_feed_4 : decode cX11_feed 4 = .ok (.getfield 96, 3) := by decide +kernel
theorem dX11_feed_7 : decode cX11_feed 7 = .ok (.bipush 20, 2) := by decide +kernel
theorem dX11_feed_9 : decode cX11_feed 9 = .ok (.iadd, 1) := by decide +kernel
theorem dX11_feed_10 : decode cX11_feed 10 = .ok (.sipush 1700, 3) := by decide +kernel
theorem dX11_feed_13 : decode cX11_feed 13 = .ok (.if_icmp .le 5, 3) := by decide +kernel
theorem dX11_feed_16 : decode cX11_feed 16 = .ok (.iconst (-1), 1) := by decide +kernel
theorem dX11_feed_17 : decode cX11_feed 17 = .ok (.ireturn, 1) := by decide +kernel
theorem dX11_feed_18 : decode cX11_feed 18 = .ok (.aload_n 0, 1) := by decide +kernel
theorem dX11_feed_19 : decode cX11_feed 19 = .ok (.getfield 20, 3) := by decide +kernel
theorem dX11_feed_22 : decode cX11_feed 22 = .ok (.iload_n 1, 1) := by decide +kernel
theorem dX11_feed_23 : decode cX11_feed 23 = .ok (.invokevirtual 101, 3) := by decide +kernel
theorem dX11_feed_26 : decode cX11_feed 26 = .ok (.aload_n 0, 1) := by decide +kernel
theorem dX11_feed_27 : decode cX11_feed 27 = .ok (.getfield 20, 3) := by decide +kernel
theorem dX11_feed_30 : decode cX11_feed 30 = .ok (.iload_n 2, 1) := by decide +kernel
theorem dX11_feed_31 : decode cX11_feed 31 = .ok (.invokevirtual 101, 3) := by decide +kernel
theorem dX11_feed_34 : decode cX11_feed 34 = .ok (.aload_n 0, 1) := by decide +kernel
theorem dX11_feed_35 : decode cX11_feed 35 = .ok (.getfield 20, 3) := by decide +kernel
theorem dX11_feed_38 : decode cX11_feed 38 = .ok (.iload_n 3, 1) := by decide +kernel
theorem dX11_feed_39 : decode cX11_feed 39 = .ok (.invokevirtual 101, 3) := by decide +kernel
theorem dX11_feed_42 : decode cX11_feed 42 = .ok (.aload_n 0, 1) := by decide +kernel
theorem dX11_feed_43 : decode cX11_feed 43 = .ok (.getfield 20, 3) := by decide +kernel
theorem dX11_feed_46 : decode cX11_feed 46 = .ok (.iload 4, 2) := by decide +kernel
theorem dX11_feed_48 : decode cX11_feed 48 = .ok (.invokevirtual 101, 3) := by decide +kernel
theorem dX11_feed_51 : decode cX11_feed 51 = .ok (.aload_n 0, 1) := by decide +kernel
theorem dX11_feed_52 : decode cX11_feed 52 = .ok (.getfield 20, 3) := by decide +kernel
theorem dX11_feed_55 : decode cX11_feed 55 = .ok (.iload 5, 2) := by decide +kernel
theorem dX11_feed_57 : decode cX11_feed 57 = .ok (.invokevirtual 101, 3) := by decide +kernel
theorem dX11_feed_60 : decode cX11_feed 60 = .ok (.aload_n 0, 1) := by decide +kernel
theorem dX11_feed_61 : decode cX11_feed 61 = .ok (.getfield 20, 3) := by decide +kernel
theorem dX11_feed_64 : decode cX11_feed 64 = .ok (.getfield 96, 3) := by decide +kernel
theorem dX11_feed_67 : decode cX11_feed 67 = .ok (.ireturn, 1) := by decide +kernel
theorem wl_RX11_20 : Cond.fieldLink RX11 20 (TX11 1).1 (TX11 1).2.1 (TX11 1).2.2.1 ∈ TB := tbm 614 (by decide +kernel) (by decide +kernel)
theorem wl_RX11_96 : Cond.fieldLink RX11 96 (TX10 1).1 (TX10 1).2.1 (TX10 1).2.2.1 ∈ TB := tbm 184 (by decide +kernel) (by decide +kernel)
theorem wm_X10_put : Cond.instanceMethod yX10_put ∈ TB ∧ Cond.selects yX10_put.cls yX10_put yX10_put ∈ TB ∧ Cond.initialized yX10_put.cls ∈ TB ∧ Cond.code yX10_put cX10_put 3 none ∈ TB ∧ (yX10_put.cls ≠ "java/lang/invoke/MethodHandle" ∧ yX10_put.cls ≠ "java/lang/invoke/VarHandle" ∧ (parseMethodDescriptor yX10_put.desc).map (fun d => d.parameters.length) = some 1) ∧ 3 ≤ 21 := ⟨tbm 667 (by decide +kernel) (by decide +kernel), tbm 668 (by decide +kernel) (by decide +kernel), tbm 137 (by decide +kernel) (by decide +kernel), tbm 669 (by decide +kernel) (by decide +kernel), by decide +kernel, by decide⟩
theorem wi_RX11_101 : Iv RX11 101 yX10_put cX10_put 3 none 1 := ⟨tbm 666 (by decide +kernel) (by decide +kernel), wm_X10_put⟩
def mX11_feed (t : Nat) (tw : Nat) (dr : Nat) (p1 : Int32) (p2 : Int32) (p3 : Int32) (p4 : Int32) (p5 : Int32) (σ : St_) : Option (Int32 × St_) :=
 (if ((σ.1 (t + 3) 1) + (20 : Int32)) ≤ (1700 : Int32) then
 ((mX10_put (t + 3) p1 σ).bind fun σ1 =>
 ((mX10_put (t + 3) p2 σ1).bind fun σ2 =>
 ((mX10_put (t + 3) p3 σ2).bind fun σ3 =>
 ((mX10_put (t + 3) p4 σ3).bind fun σ4 =>
 ((mX10_put (t + 3) p5 σ4).bind fun σ5 =>
 (some ((σ5.1 (t + 3) 1), σ5)))))))
 else (some ((-1 : Int32), σ)))
set_option maxHeartbeats 4000000 in
theorem rX11_feed (t : Nat) (tw : Nat) (dr : Nat) (p1 : Int32) (p2 : Int32) (p3 : Int32) (p4 : Int32) (p5 : Int32) (hT : LY11 sh P t tw dr) : Rj l D cA h0 ad yX11_feed cX11_feed 6 (some .int) false 3 0 0 (fun b => (some (.int b.1), sh, P, b.2)) [.ref (h0 + t), .int p1, .int p2, .int p3, .int p4, .int p5] sh P σ (mX11_feed t tw dr p1 p2 p3 p4 p5 σ) := by
  rw [mX11_feed]
  refine Rj.of (by decide) (fun h => by cases h) (Nat.le_of_ble_eq_true rfl) ?_
  refine tj_lv0 (lv' := [(0, .ref (h0 + t)), (1, .int p1), (2, .int p2), (3, .int p3), (4, .int p4), (5, .int p5)]) rfl ?_
  refine tj_aload_n (q := 1) dX11_feed_0 rfl (i := 0) rfl (pl := 0) rfl ?_
  refine tj_getR (q := 4) (hT).s (hT).p_tape fok_11_1 wl_RX11_20 dX11_feed_1 rfl ?_
  refine tj_getI (q := 7) ((hT).o_tape).s fok_10_1 wl_RX11_96 dX11_feed_4 rfl ?_
  refine tj_bipush (q := 9) (v := 20) dX11_feed_7 rfl (by decide) ?_
  refine tj_iadd (q := 10) dX11_feed_9 rfl ?_
  refine tj_sipush (q := 13) (v := 1700) dX11_feed_10 rfl (by decide) ?_
  refine tj_icmp_le (tgt := 18) (q := 16) dX11_feed_13 (by decide) rfl ?_ ?_
  · refine tj_aload_n (q := 19) dX11_feed_18 rfl (i := 0) rfl (pl := 0) rfl ?_
    refine tj_getR (q := 22) (hT).s (hT).p_tape fok_11_1 wl_RX11_20 dX11_feed_19 rfl ?_
    refine tj_iload_n (q := 23) dX11_feed_22 rfl (i := 1) rfl (pl := 1) rfl ?_
    refine tj_callV (q := 26) (kj_V (As := [.int p1]) (rest := []) (t := (t + 3)) wi_RX11_101 ((hT).o_tape).s rfl (rX10_put (t + 3) p1 ((hT).o_tape)) rfl (Nat.le_of_ble_eq_true rfl) ⟨Nat.le_of_ble_eq_true rfl, Nat.le_of_ble_eq_true rfl⟩ (Nat.le_of_ble_eq_true rfl) dX11_feed_23) rfl (fun σ1 => ?_)
    refine tj_aload_n (q := 27) dX11_feed_26 rfl (i := 0) rfl (pl := 0) rfl ?_
    refine tj_getR (q := 30) (hT).s (hT).p_tape fok_11_1 wl_RX11_20 dX11_feed_27 rfl ?_
    refine tj_iload_n (q := 31) dX11_feed_30 rfl (i := 2) rfl (pl := 2) rfl ?_
    refine tj_callV (q := 34) (kj_V (As := [.int p2]) (rest := []) (t := (t + 3)) wi_RX11_101 ((hT).o_tape).s rfl (rX10_put (t + 3) p2 ((hT).o_tape)) rfl (Nat.le_of_ble_eq_true rfl) ⟨Nat.le_of_ble_eq_true rfl, Nat.le_of_ble_eq_true rfl⟩ (Nat.le_of_ble_eq_true rfl) dX11_feed_31) rfl (fun σ2 => ?_)
    refine tj_aload_n (q := 35) dX11_feed_34 rfl (i := 0) rfl (pl := 0) rfl ?_
    refine tj_getR (q := 38) (hT).s (hT).p_tape fok_11_1 wl_RX11_20 dX11_feed_35 rfl ?_
    refine tj_iload_n (q := 39) dX11_feed_38 rfl (i := 3) rfl (pl := 3) rfl ?_
    refine tj_callV (q := 42) (kj_V (As := [.int p3]) (rest := []) (t := (t + 3)) wi_RX11_101 ((hT).o_tape).s rfl (rX10_put (t + 3) p3 ((hT).o_tape)) rfl (Nat.le_of_ble_eq_true rfl) ⟨Nat.le_of_ble_eq_true rfl, Nat.le_of_ble_eq_true rfl⟩ (Nat.le_of_ble_eq_true rfl) dX11_feed_39) rfl (fun σ3 => ?_)
    refine tj_aload_n (q := 43) dX11_feed_42 rfl (i := 0) rfl (pl := 0) rfl ?_
    refine tj_getR (q := 46) (hT).s (hT).p_tape fok_11_1 wl_RX11_20 dX11_feed_43 rfl ?_
    refine tj_iload (q := 48) dX11_feed_46 rfl (pl := 4) rfl ?_
    refine tj_callV (q := 51) (kj_V (As := [.int p4]) (rest := []) (t := (t + 3)) wi_RX11_101 ((hT).o_tape).s rfl (rX10_put (t + 3) p4 ((hT).o_tape)) rfl (Nat.le_of_ble_eq_true rfl) ⟨Nat.le_of_ble_eq_true rfl, Nat.le_of_ble_eq_true rfl⟩ (Nat.le_of_ble_eq_true rfl) dX11_feed_48) rfl (fun σ4 => ?_)
    refine tj_aload_n (q := 52) dX11_feed_51 rfl (i := 0) rfl (pl := 0) rfl ?_
    refine tj_getR (q := 55) (hT).s (hT).p_tape fok_11_1 wl_RX11_20 dX11_feed_52 rfl ?_
    refine tj_iload (q := 57) dX11_feed_55 rfl (pl := 5) rfl ?_
    refine tj_callV (q := 60) (kj_V (As := [.int p5]) (rest := []) (t := (t + 3)) wi_RX11_101 ((hT).o_tape).s rfl (rX10_put (t + 3) p5 ((hT).o_tape)) rfl (Nat.le_of_ble_eq_true rfl) ⟨Nat.le_of_ble_eq_true rfl, Nat.le_of_ble_eq_true rfl⟩ (Nat.le_of_ble_eq_true rfl) dX11_feed_57) rfl (fun σ5 => ?_)
    refine tj_aload_n (q := 61) dX11_feed_60 rfl (i := 0) rfl (pl := 0) rfl ?_
    refine tj_getR (q := 64) (hT).s (hT).p_tape fok_11_1 wl_RX11_20 dX11_feed_61 rfl ?_
    refine tj_getI (q := 67) ((hT).o_tape).s fok_10_1 wl_RX11_96 dX11_feed_64 rfl ?_
    exact tj_iret rfl rfl (Nat.le_of_ble_eq_true rfl) (Nat.le_of_ble_eq_true rfl) dX11_feed_67
  · refine tj_iconst (q := 17) (v := (-1)) dX11_feed_16 rfl (by decide) ?_
    exact tj_iret rfl rfl (Nat.le_of_ble_eq_true rfl) (Nat.le_of_ble_eq_true rfl) dX11_feed_17

theorem dX11_end_0 : decode cX11_end 0 = .ok (.iload_n 1, 1) := by decide +kernel
theorem dX11_end_1 : decode cX11_end 1 = .ok (.ifCond .lt 14, 3) := by decide +kernel
theorem dX11_end_4 : decode cX11_end 4 = .ok (.iload_n 1, 1) := by decide +kernel
theorem dX11_end_5 : decode cX11_end 5 = .ok (.aload_n 0, 1) := by decide +kernel
theorem dX11_end_6 : decode cX11_end 6 = .ok (.getfield 20, 3) := by decide +kernel
theorem dX11_end_9 : decode cX11_end 9 = .ok (.getfield 96, 3) := by decide +kernel
theorem dX11_end_12 : decode cX11_end 12 = .ok (.if_icmp .le 5, 3) := by decide +kernel
theorem dX11_end_15 : decode cX11_end 15 = .ok (.iconst (-1), 1) := by decide +kernel
theorem dX11_end_16 : decode cX11_end 16 = .ok (.ireturn, 1) := by decide +kernel
theorem dX11_end_17 : decode cX11_end 17 = .ok (.aload_n 0, 1) := by decide +kernel
theorem dX11_end_18 : decode cX11_end 18 = .ok (.getfield 20, 3) := by decide +kernel
theorem dX11_end_21 : decode cX11_end 21 = .ok (.iload_n 1, 1) := by decide +kernel
theorem dX11_end_22 : decode cX11_end 22 = .ok (.putfield 96, 3) := by decide +kernel
theorem dX11_end_25 : decode cX11_end 25 = .ok (.iload_n 1, 1) := by decide +kernel
theorem dX11_end_26 : decode cX11_end 26 = .ok (.ireturn, 1) := by decide +kernel
def mX11_end (t : Nat) (tw : Nat) (dr : Nat) (p1 : Int32) (σ : St_) : Option (Int32 × St_) :=
 (if p1 < 0 then
 (some ((-1 : Int32), σ))
 else (if p1 ≤ (σ.1 (t + 3) 1) then
 (bnd (sI σ (t + 3) 1 p1) fun σ1 =>
 (some (p1, σ1)))
 else (some ((-1 : Int32), σ))))
set_option maxHeartbeats 4000000 in
theorem rX11_end (t : Nat) (tw : Nat) (dr : Nat) (p1 : Int32) (hT : LY11 sh P t tw dr) : Rj l D cA h0 ad yX11_end cX11_end 2 (some .int) false 2 0 0 (fun b => (some (.int b.1), sh, P, b.2)) [.ref (h0 + t), .int p1] sh P σ (mX11_end t tw dr p1 σ) := by
  rw [mX11_end]
  refine Rj.of (by decide) (fun h => by cases h) (Nat.le_of_ble_eq_true rfl) ?_
  refine tj_lv0 (lv' := [(0, .ref (h0 + t)), (1, .int p1)]) rfl ?_
  refine tj_iload_n (q := 1) dX11_end_0 rfl (i := 1) rfl (pl := 1) rfl ?_
  refine tj_if_lt (tgt := 15) (q := 4) dX11_end_1 (by decide) rfl ?_ ?_
  · refine tj_iconst (q := 16) (v := (-1)) dX11_end_15 rfl (by decide) ?_
    exact tj_iret rfl rfl (Nat.le_of_ble_eq_true rfl) (Nat.le_of_ble_eq_true rfl) dX11_end_16
  · refine tj_iload_n (q := 5) dX11_end_4 rfl (i := 1) rfl (pl := 1) rfl ?_
    refine tj_aload_n (q := 6) dX11_end_5 rfl (i := 0) rfl (pl := 0) rfl ?_
    refine tj_getR (q := 9) (hT).s (hT).p_tape fok_11_1 wl_RX11_20 dX11_end_6 rfl ?_
    refine tj_getI (q := 12) ((hT).o_tape).s fok_10_1 wl_RX11_96 dX11_end_9 rfl ?_
    refine tj_icmp_le (tgt := 17) (q := 15) dX11_end_12 (by decide) rfl ?_ ?_
    · refine tj_aload_n (q := 18) dX11_end_17 rfl (i := 0) rfl (pl := 0) rfl ?_
      refine tj_getR (q := 21) (hT).s (hT).p_tape fok_11_1 wl_RX11_20 dX11_end_18 rfl ?_
      refine tj_iload_n (q := 22) dX11_end_21 rfl (i := 1) rfl (pl := 1) rfl ?_
      refine tj_putI (q := 25) ((hT).o_tape).s fok_10_1 tok_10 fpk_10_1 wl_RX11_96 dX11_end_22 rfl (fun σ1 => ?_)
      refine tj_iload_n (q := 26) dX11_end_25 rfl (i := 1) rfl (pl := 1) rfl ?_
      exact tj_iret rfl rfl (Nat.le_of_ble_eq_true rfl) (Nat.le_of_ble_eq_true rfl) dX11_end_26
    · refine tj_iconst (q := 16) (v := (-1)) dX11_end_15 rfl (by decide) ?_
      exact tj_iret rfl rfl (Nat.le_of_ble_eq_true rfl) (Nat.le_of_ble_eq_true rfl) dX11_end_16

theorem dX11_fault_0 : decode cX11_fault 0 = .ok (.iload_n 1, 1) := by decide +kernel
theorem dX11_fault_1 : decode cX11_fault 1 = .ok (.ifCond .ne 11, 3) := by decide +kernel
theorem dX11_fault_4 : decode cX11_fault 4 = .ok (.aload_n 0, 1) := by decide +kernel
theorem dX11_fault_5 : decode cX11_fault 5 = .ok (.getfield 20, 3) := by decide +kernel
theorem dX11_fault_8 : decode cX11_fault 8 = .ok (.getfield 125, 3) := by decide +kernel
theorem dX11_fault_11 : decode cX11_fault 11 = .ok (.ireturn, 1) := by decide +kernel
theorem dX11_fault_12 : decode cX11_fault 12 = .ok (.iload_n 1, 1) := by decide +kernel
theorem dX11_fault_13 : decode cX11_fault 13 = .ok (.iconst 1, 1) := by decide +kernel
theorem dX11_fault_14 : decode cX11_fault 14 = .ok (.if_icmp .ne 13, 3) := by decide +kernel
theorem dX11_fault_17 : decode cX11_fault 17 = .ok (.aload_n 0, 1) := by decide +kernel
theorem dX11_fault_18 : decode cX11_fault 18 = .ok (.getfield 20, 3) := by decide +kernel
theorem dX11_fault_21 : decode cX11_fault 21 = .ok (.getfield 128, 3) := by decide +kernel
theorem dX11_fault_24 : decode cX11_fault 24 = .ok (.goto 4, 3) := by decide +kernel
theorem dX11_fault_27 : decode cX11_fault 27 = .ok (.iconst (-1), 1) := by decide +kernel
theorem dX11_fault_28 : decode cX11_fault 28 = .ok (.ireturn, 1) := by decide +kernel
theorem wl_RX11_125 : Cond.fieldLink RX11 125 (TX10 7).1 (TX10 7).2.1 (TX10 7).2.2.1 ∈ TB := tbm 193 (by decide +kernel) (by decide +kernel)
theorem wl_RX11_128 : Cond.fieldLink RX11 128 (TX10 8).1 (TX10 8).2.1 (TX10 8).2.2.1 ∈ TB := tbm 195 (by decide +kernel) (by decide +kernel)
def mX11_fault (t : Nat) (tw : Nat) (dr : Nat) (p1 : Int32) (σ : St_) : Option Int32 :=
 (if p1 = 0 then
 (some (σ.1 (t + 3) 7))
 else (if p1 = (1 : Int32) then
 (some (σ.1 (t + 3) 8))
 else (some (-1 : Int32))))
set_option maxHeartbeats 4000000 in
theorem rX11_fault (t : Nat) (tw : Nat) (dr : Nat) (p1 : Int32) (hT : LY11 sh P t tw dr) : Rj l D cA h0 ad yX11_fault cX11_fault 2 (some .int) false 2 0 0 (fun b => (some (.int b), sh, P, σ)) [.ref (h0 + t), .int p1] sh P σ (mX11_fault t tw dr p1 σ) := by
  rw [mX11_fault]
  refine Rj.of (by decide) (fun h => by cases h) (Nat.le_of_ble_eq_true rfl) ?_
  refine tj_lv0 (lv' := [(0, .ref (h0 + t)), (1, .int p1)]) rfl ?_
  refine tj_iload_n (q := 1) dX11_fault_0 rfl (i := 1) rfl (pl := 1) rfl ?_
  refine tj_if_ne (tgt := 12) (q := 4) dX11_fault_1 (by decide) rfl ?_ ?_
  · refine tj_aload_n (q := 5) dX11_fault_4 rfl (i := 0) rfl (pl := 0) rfl ?_
    refine tj_getR (q := 8) (hT).s (hT).p_tape fok_11_1 wl_RX11_20 dX11_fault_5 rfl ?_
    refine tj_getI (q := 11) ((hT).o_tape).s fok_10_7 wl_RX11_125 dX11_fault_8 rfl ?_
    exact tj_iret rfl rfl (Nat.le_of_ble_eq_true rfl) (Nat.le_of_ble_eq_true rfl) dX11_fault_11
  · refine tj_iload_n (q := 13) dX11_fault_12 rfl (i := 1) rfl (pl := 1) rfl ?_
    refine tj_iconst (q := 14) (v := 1) dX11_fault_13 rfl (by decide) ?_
    refine tj_icmp_ne (tgt := 27) (q := 17) dX11_fault_14 (by decide) rfl ?_ ?_
    · refine tj_aload_n (q := 18) dX11_fault_17 rfl (i := 0) rfl (pl := 0) rfl ?_
      refine tj_getR (q := 21) (hT).s (hT).p_tape fok_11_1 wl_RX11_20 dX11_fault_18 rfl ?_
      refine tj_getI (q := 24) ((hT).o_tape).s fok_10_8 wl_RX11_128 dX11_fault_21 rfl ?_
      refine tj_goto (q := 28) dX11_fault_24 (by decide) ?_
      exact tj_iret rfl rfl (Nat.le_of_ble_eq_true rfl) (Nat.le_of_ble_eq_true rfl) dX11_fault_28
    · refine tj_iconst (q := 28) (v := (-1)) dX11_fault_27 rfl (by decide) ?_
      exact tj_iret rfl rfl (Nat.le_of_ble_eq_true rfl) (Nat.le_of_ble_eq_true rfl) dX11_fault_28

theorem dX11_isThing_0 : decode cX11_isThing 0 = .ok (.iload_n 1, 1) := by decide +kernel
theorem dX11_isThing_1 : decode cX11_isThing 1 = .ok (.ifCond .lt 18, 3) := by decide +kernel
theorem dX11_isThing_4 : decode cX11_isThing 4 = .ok (.iload_n 1, 1) := by decide +kernel
theorem dX11_isThing_5 : decode cX11_isThing 5 = .ok (.aload_n 0, 1) := by decide +kernel
theorem dX11_isThing_6 : decode cX11_isThing 6 = .ok (.getfield 26, 3) := by decide +kernel
theorem dX11_isThing_9 : decode cX11_isThing 9 = .ok (.getfield 122, 3) := by decide +kernel
theorem dX11_isThing_12 : decode cX11_isThing 12 = .ok (.if_icmp .ge 7, 3) := by decide +kernel
theorem dX11_isThing_15 : decode cX11_isThing 15 = .ok (.iconst 1, 1) := by decide +kernel
theorem dX11_isThing_16 : decode cX11_isThing 16 = .ok (.goto 4, 3) := by decide +kernel
theorem dX11_isThing_19 : decode cX11_isThing 19 = .ok (.iconst 0, 1) := by decide +kernel
theorem dX11_isThing_20 : decode cX11_isThing 20 = .ok (.ireturn, 1) := by decide +kernel
theorem wl_RX11_26 : Cond.fieldLink RX11 26 (TX11 2).1 (TX11 2).2.1 (TX11 2).2.2.1 ∈ TB := tbm 615 (by decide +kernel) (by decide +kernel)
theorem wl_RX11_122 : Cond.fieldLink RX11 122 (TX1 2).1 (TX1 2).2.1 (TX1 2).2.2.1 ∈ TB := tbm 299 (by decide +kernel) (by decide +kernel)
def mX11_isThing (t : Nat) (tw : Nat) (dr : Nat) (p1 : Int32) (σ : St_) : Option Bool :=
 (if p1 < 0 then
 (some false)
 else (if (σ.1 tw 2) ≤ p1 then
 (some false)
 else (some true)))
set_option maxHeartbeats 4000000 in
theorem rX11_isThing (t : Nat) (tw : Nat) (dr : Nat) (p1 : Int32) (hT : LY11 sh P t tw dr) : Rj l D cA h0 ad yX11_isThing cX11_isThing 2 (some .boolean) false 2 0 0 (fun b => (some (.int (b2i b)), sh, P, σ)) [.ref (h0 + t), .int p1] sh P σ (mX11_isThing t tw dr p1 σ) := by
  rw [mX11_isThing]
  refine Rj.of (by decide) (fun h => by cases h) (Nat.le_of_ble_eq_true rfl) ?_
  refine tj_lv0 (lv' := [(0, .ref (h0 + t)), (1, .int p1)]) rfl ?_
  refine tj_iload_n (q := 1) dX11_isThing_0 rfl (i := 1) rfl (pl := 1) rfl ?_
  refine tj_if_lt (tgt := 19) (q := 4) dX11_isThing_1 (by decide) rfl ?_ ?_
  · refine tj_iconst (q := 20) (v := 0) dX11_isThing_19 rfl (by decide) ?_
    exact tj_zret rfl (by decide) rfl (Nat.le_of_ble_eq_true rfl) (Nat.le_of_ble_eq_true rfl) dX11_isThing_20
  · refine tj_iload_n (q := 5) dX11_isThing_4 rfl (i := 1) rfl (pl := 1) rfl ?_
    refine tj_aload_n (q := 6) dX11_isThing_5 rfl (i := 0) rfl (pl := 0) rfl ?_
    refine tj_getR (q := 9) (hT).s (hT).p_town fok_11_2 wl_RX11_26 dX11_isThing_6 rfl ?_
    refine tj_getI (q := 12) ((hT).o_town).s fok_1_2 wl_RX11_122 dX11_isThing_9 rfl ?_
    refine tj_icmp_ge (tgt := 19) (q := 15) dX11_isThing_12 (by decide) rfl ?_ ?_
    · refine tj_iconst (q := 20) (v := 0) dX11_isThing_19 rfl (by decide) ?_
      exact tj_zret rfl (by decide) rfl (Nat.le_of_ble_eq_true rfl) (Nat.le_of_ble_eq_true rfl) dX11_isThing_20
    · refine tj_iconst (q := 16) (v := 1) dX11_isThing_15 rfl (by decide) ?_
      refine tj_goto (q := 20) dX11_isThing_16 (by decide) ?_
      exact tj_zret rfl (by decide) rfl (Nat.le_of_ble_eq_true rfl) (Nat.le_of_ble_eq_true rfl) dX11_isThing_20

theorem dX11_thing_0 : decode cX11_thing 0 = .ok (.aload_n 0, 1) := by decide +kernel
theorem dX11_thing_1 : decode cX11_thing 1 = .ok (.iload_n 1, 1) := by decide +kernel
theorem dX11_thing_2 : decode cX11_thing 2 = .ok (.invokevirtual 131, 3) := by decide +kernel
theorem dX11_thing_5 : decode cX11_thing 5 = .ok (.ifCond .ne 6, 3) := by decide +kernel
theorem dX11_thing_8 : decode cX11_thing 8 = .ok (.bipush (-2), 2) := by decide +kernel
theorem dX11_thing_10 : decode cX11_thing 10 = .ok (.ireturn, 1) := by decide +kernel
theorem dX11_thing_11 : decode cX11_thing 11 = .ok (.aload_n 0, 1) := by decide +kernel
theorem dX11_thing_12 : decode cX11_thing 12 = .ok (.getfield 36, 3) := by decide +kernel
theorem dX11_thing_15 : decode cX11_thing 15 = .ok (.iload_n 1, 1) := by decide +kernel
theorem dX11_thing_16 : decode cX11_thing 16 = .ok (.invokevirtual 135, 3) := by decide +kernel
theorem dX11_thing_19 : decode cX11_thing 19 = .ok (.istore_n 3, 1) := by decide +kernel
theorem dX11_thing_20 : decode cX11_thing 20 = .ok (.iload_n 2, 1) := by decide +kernel
theorem dX11_thing_21 : decode cX11_thing 21 = .ok (.tableswitch 89 0 4 #[35, 45, 55, 65, 76], 35) := by decide +kernel
theorem dX11_thing_56 : decode cX11_thing 56 = .ok (.aload_n 0, 1) := by decide +kernel
theorem dX11_thing_57 : decode cX11_thing 57 = .ok (.getfield 26, 3) := by decide +kernel
theorem dX11_thing_60 : decode cX11_thing 60 = .ok (.getfield 139, 3) := by decide +kernel
theorem dX11_thing_63 : decode cX11_thing 63 = .ok (.iload_n 1, 1) := by decide +kernel
theorem dX11_thing_64 : decode cX11_thing 64 = .ok (.iaload, 1) := by decide +kernel
theorem dX11_thing_65 : decode cX11_thing 65 = .ok (.ireturn, 1) := by decide +kernel
theorem dX11_thing_66 : decode cX11_thing 66 = .ok (.aload_n 0, 1) := by decide +kernel
theorem dX11_thing_67 : decode cX11_thing 67 = .ok (.getfield 26, 3) := by decide +kernel
theorem dX11_thing_70 : decode cX11_thing 70 = .ok (.getfield 142, 3) := by decide +kernel
theorem dX11_thing_73 : decode cX11_thing 73 = .ok (.iload_n 1, 1) := by decide +kernel
theorem dX11_thing_74 : decode cX11_thing 74 = .ok (.iaload, 1) := by decide +kernel
theorem dX11_thing_75 : decode cX11_thing 75 = .ok (.ireturn, 1) := by decide +kernel
theorem dX11_thing_76 : decode cX11_thing 76 = .ok (.aload_n 0, 1) := by decide +kernel
theorem dX11_thing_77 : decode cX11_thing 77 = .ok (.getfield 26, 3) := by decide +kernel
theorem dX11_thing_80 : decode cX11_thing 80 = .ok (.getfield 145, 3) := by decide +kernel
theorem dX11_thing_83 : decode cX11_thing 83 = .ok (.iload_n 1, 1) := by decide +kernel
theorem dX11_thing_84 : decode cX11_thing 84 = .ok (.iaload, 1) := by decide +kernel
theorem dX11_thing_85 : decode cX11_thing 85 = .ok (.ireturn, 1) := by decide +kernel
theorem dX11_thing_86 : decode cX11_thing 86 = .ok (.iload_n 3, 1) := by decide +kernel
theorem dX11_thing_87 : decode cX11_thing 87 = .ok (.iconst 5, 1) := by decide +kernel
theorem dX11_thing_88 : decode cX11_thing 88 = .ok (.if_icmp .ge 7, 3) := by decide +kernel
theorem dX11_thing_91 : decode cX11_thing 91 = .ok (.iload_n 3, 1) := by decide +kernel
theorem dX11_thing_92 : decode cX11_thing 92 = .ok (.goto 4, 3) := by decide +kernel
theorem dX11_thing_95 : decode cX11_thing 95 = .ok (.iconst (-1), 1) := by decide +kernel
theorem dX11_thing_96 : decode cX11_thing 96 = .ok (.ireturn, 1) := by decide +kernel
theorem dX11_thing_97 : decode cX11_thing 97 = .ok (.iload_n 3, 1) := by decide +kernel
theorem dX11_thing_98 : decode cX11_thing 98 = .ok (.iconst 5, 1) := by decide +kernel
theorem dX11_thing_99 : decode cX11_thing 99 = .ok (.if_icmp .ge 7, 3) := by decide +kernel
theorem dX11_thing_102 : decode cX11_thing 102 = .ok (.iconst (-1), 1) := by decide +kernel
theorem dX11_thing_103 : decode cX11_thing 103 = .ok (.goto 6, 3) := by decide +kernel
theorem dX11_thing_106 : decode cX11_thing 106 = .ok (.iload_n 3, 1) := by decide +kernel
theorem dX11_thing_107 : decode cX11_thing 107 = .ok (.iconst 5, 1) := by decide +kernel
theorem dX11_thing_108 : decode cX11_thing 108 = .ok (.isub, 1) := by decide +kernel
theorem dX11_thing_109 : decode cX11_thing 109 = .ok (.ireturn, 1) := by decide +kernel
theorem dX11_thing_110 : decode cX11_thing 110 = .ok (.bipush (-2), 2) := by decide +kernel
theorem dX11_thing_112 : decode cX11_thing 112 = .ok (.ireturn, 1) := by decide +kernel
theorem wm_X11_isThing : Cond.instanceMethod yX11_isThing ∈ TB ∧ Cond.selects yX11_isThing.cls yX11_isThing yX11_isThing ∈ TB ∧ Cond.initialized yX11_isThing.cls ∈ TB ∧ Cond.code yX11_isThing cX11_isThing 2 (some .boolean) ∈ TB ∧ (yX11_isThing.cls ≠ "java/lang/invoke/MethodHandle" ∧ yX11_isThing.cls ≠ "java/lang/invoke/VarHandle" ∧ (parseMethodDescriptor yX11_isThing.desc).map (fun d => d.parameters.length) = some 1) ∧ 2 ≤ 21 := ⟨tbm 1026 (by decide +kernel) (by decide +kernel), tbm 31 (by decide +kernel) (by decide +kernel), tbm 134 (by decide +kernel) (by decide +kernel), tbm 1027 (by decide +kernel) (by decide +kernel), by decide +kernel, by decide⟩
theorem wi_RX11_131 : Iv RX11 131 yX11_isThing cX11_isThing 2 (some .boolean) 1 := ⟨tbm 1024 (by decide +kernel) (by decide +kernel), wm_X11_isThing⟩
theorem wl_RX11_36 : Cond.fieldLink RX11 36 (TX11 4).1 (TX11 4).2.1 (TX11 4).2.2.1 ∈ TB := tbm 617 (by decide +kernel) (by decide +kernel)
theorem wm_X8_holderOf : Cond.instanceMethod yX8_holderOf ∈ TB ∧ Cond.selects yX8_holderOf.cls yX8_holderOf yX8_holderOf ∈ TB ∧ Cond.initialized yX8_holderOf.cls ∈ TB ∧ Cond.code yX8_holderOf cX8_holderOf 3 (some .int) ∈ TB ∧ (yX8_holderOf.cls ≠ "java/lang/invoke/MethodHandle" ∧ yX8_holderOf.cls ≠ "java/lang/invoke/VarHandle" ∧ (parseMethodDescriptor yX8_holderOf.desc).map (fun d => d.parameters.length) = some 1) ∧ 3 ≤ 21 := ⟨tbm 1029 (by decide +kernel) (by decide +kernel), tbm 1030 (by decide +kernel) (by decide +kernel), tbm 140 (by decide +kernel) (by decide +kernel), tbm 1031 (by decide +kernel) (by decide +kernel), by decide +kernel, by decide⟩
theorem wi_RX11_135 : Iv RX11 135 yX8_holderOf cX8_holderOf 3 (some .int) 1 := ⟨tbm 1028 (by decide +kernel) (by decide +kernel), wm_X8_holderOf⟩
theorem wl_RX11_139 : Cond.fieldLink RX11 139 (TX1 5).1 (TX1 5).2.1 (TX1 5).2.2.1 ∈ TB := tbm 311 (by decide +kernel) (by decide +kernel)
theorem wl_RX11_142 : Cond.fieldLink RX11 142 (TX1 6).1 (TX1 6).2.1 (TX1 6).2.2.1 ∈ TB := tbm 315 (by decide +kernel) (by decide +kernel)
theorem wl_RX11_145 : Cond.fieldLink RX11 145 (TX1 7).1 (TX1 7).2.1 (TX1 7).2.2.1 ∈ TB := tbm 318 (by decide +kernel) (by decide +kernel)
def mX11_thing (t : Nat) (tw : Nat) (dr : Nat) (p1 : Int32) (p2 : Int32) (σ : St_) : Option Int32 :=
 ((mX11_isThing t tw dr p1 σ).bind fun r1 =>
 (if r1 = true then
 ((mX8_holderOf (t + 44) p1 σ).bind fun r2 =>
 (if p2 = 0 then (if bin p1 10 = true then bnd (σ.1 (tw + 1) p1.toNatClampNeg) fun v4 =>
 (some v4)
 else none)
 else (if p2 = 1 then (if bin p1 10 = true then bnd (σ.1 (tw + 2) p1.toNatClampNeg) fun v6 =>
 (some v6)
 else none)
 else (if p2 = 2 then (if bin p1 10 = true then bnd (σ.1 (tw + 3) p1.toNatClampNeg) fun v8 =>
 (some v8)
 else none)
 else (if p2 = 3 then (if (5 : Int32) ≤ r2 then
 (some (-1 : Int32))
 else (some r2))
 else (if p2 = 4 then (if (5 : Int32) ≤ r2 then
 (some (r2 - (5 : Int32)))
 else (some (-1 : Int32)))
 else (some (-2 : Int32))))))))
 else (some (-2 : Int32))))
set_option maxHeartbeats 4000000 in
theorem rX11_thing (t : Nat) (tw : Nat) (dr : Nat) (p1 : Int32) (p2 : Int32) (hT : LY11 sh P t tw dr) : Rj l D cA h0 ad yX11_thing cX11_thing 4 (some .int) false 3 0 0 (fun b => (some (.int b), sh, P, σ)) [.ref (h0 + t), .int p1, .int p2] sh P σ (mX11_thing t tw dr p1 p2 σ) := by
  rw [mX11_thing]
  refine Rj.of (by decide) (fun h => by cases h) (Nat.le_of_ble_eq_true rfl) ?_
  refine tj_lv0 (lv' := [(0, .ref (h0 + t)), (1, .int p1), (2, .int p2)]) rfl ?_
  refine tj_aload_n (q := 1) dX11_thing_0 rfl (i := 0) rfl (pl := 0) rfl ?_
  refine tj_iload_n (q := 2) dX11_thing_1 rfl (i := 1) rfl (pl := 1) rfl ?_
  refine tj_callZp (q := 5) (kj_V (As := [.int p1]) (rest := []) (t := t) wi_RX11_131 (hT).s rfl (rX11_isThing t tw dr p1 (hT)) rfl (Nat.le_of_ble_eq_true rfl) ⟨Nat.le_of_ble_eq_true rfl, Nat.le_of_ble_eq_true rfl⟩ (Nat.le_of_ble_eq_true rfl) dX11_thing_2) rfl (fun r1 => ?_)
  refine tj_bnz (tgt := 11) (q := 8) dX11_thing_5 (by decide) rfl ?_ ?_
  · refine tj_aload_n (q := 12) dX11_thing_11 rfl (i := 0) rfl (pl := 0) rfl ?_
    refine tj_getR (q := 15) (hT).s (hT).p_now fok_11_4 wl_RX11_36 dX11_thing_12 rfl ?_
    refine tj_iload_n (q := 16) dX11_thing_15 rfl (i := 1) rfl (pl := 1) rfl ?_
    refine tj_callIp (q := 19) (kj_V (As := [.int p1]) (rest := []) (t := (t + 44)) wi_RX11_135 ((hT).o_now).s rfl (rX8_holderOf (t + 44) p1 ((hT).o_now)) rfl (Nat.le_of_ble_eq_true rfl) ⟨Nat.le_of_ble_eq_true rfl, Nat.le_of_ble_eq_true rfl⟩ (Nat.le_of_ble_eq_true rfl) dX11_thing_16) rfl (fun r2 => ?_)
    refine tj_istore_n (q := 20) dX11_thing_19 rfl (i := 3) rfl (by decide) rfl ?_
    refine tj_iload_n (q := 21) dX11_thing_20 rfl (i := 2) rfl (pl := 3) rfl ?_
    refine tj_caseI (fun hc3 => ?_) (fun hc3 => ?_)
    · refine tj_tin (tgt := 56) (k := 0) (off := 35) dX11_thing_21 hc3 (by decide) (by decide) (by decide) (by decide) ?_
      refine tj_aload_n (q := 57) dX11_thing_56 rfl (i := 0) rfl (pl := 1) rfl ?_
      refine tj_getR (q := 60) (hT).s (hT).p_town fok_11_2 wl_RX11_26 dX11_thing_57 rfl ?_
      refine tj_getR (q := 63) ((hT).o_town).s ((hT).o_town).p_kindOf fok_1_5 wl_RX11_139 dX11_thing_60 rfl ?_
      refine tj_iload_n (q := 64) dX11_thing_63 rfl (i := 1) rfl (pl := 2) rfl ?_
      refine tj_iaload (q := 65) ((hT).o_town).s_kindOf dX11_thing_64 rfl ?_
      refine tj_topI (fun v4 => ?_)
      exact tj_iret rfl rfl (Nat.le_of_ble_eq_true rfl) (Nat.le_of_ble_eq_true rfl) dX11_thing_65
    · refine tj_caseI (fun hc5 => ?_) (fun hc5 => ?_)
      · refine tj_tin (tgt := 66) (k := 1) (off := 45) dX11_thing_21 hc5 (by decide) (by decide) (by decide) (by decide) ?_
        refine tj_aload_n (q := 67) dX11_thing_66 rfl (i := 0) rfl (pl := 1) rfl ?_
        refine tj_getR (q := 70) (hT).s (hT).p_town fok_11_2 wl_RX11_26 dX11_thing_67 rfl ?_
        refine tj_getR (q := 73) ((hT).o_town).s ((hT).o_town).p_weight fok_1_6 wl_RX11_142 dX11_thing_70 rfl ?_
        refine tj_iload_n (q := 74) dX11_thing_73 rfl (i := 1) rfl (pl := 2) rfl ?_
        refine tj_iaload (q := 75) ((hT).o_town).s_weight dX11_thing_74 rfl ?_
        refine tj_topI (fun v6 => ?_)
        exact tj_iret rfl rfl (Nat.le_of_ble_eq_true rfl) (Nat.le_of_ble_eq_true rfl) dX11_thing_75
      · refine tj_caseI (fun hc7 => ?_) (fun hc7 => ?_)
        · refine tj_tin (tgt := 76) (k := 2) (off := 55) dX11_thing_21 hc7 (by decide) (by decide) (by decide) (by decide) ?_
          refine tj_aload_n (q := 77) dX11_thing_76 rfl (i := 0) rfl (pl := 1) rfl ?_
          refine tj_getR (q := 80) (hT).s (hT).p_town fok_11_2 wl_RX11_26 dX11_thing_77 rfl ?_
          refine tj_getR (q := 83) ((hT).o_town).s ((hT).o_town).p_price fok_1_7 wl_RX11_145 dX11_thing_80 rfl ?_
          refine tj_iload_n (q := 84) dX11_thing_83 rfl (i := 1) rfl (pl := 2) rfl ?_
          refine tj_iaload (q := 85) ((hT).o_town).s_price dX11_thing_84 rfl ?_
          refine tj_topI (fun v8 => ?_)
          exact tj_iret rfl rfl (Nat.le_of_ble_eq_true rfl) (Nat.le_of_ble_eq_true rfl) dX11_thing_85
        · refine tj_caseI (fun hc9 => ?_) (fun hc9 => ?_)
          · refine tj_tin (tgt := 86) (k := 3) (off := 65) dX11_thing_21 hc9 (by decide) (by decide) (by decide) (by decide) ?_
            refine tj_iload_n (q := 87) dX11_thing_86 rfl (i := 3) rfl (pl := 0) rfl ?_
            refine tj_iconst (q := 88) (v := 5) dX11_thing_87 rfl (by decide) ?_
            refine tj_icmp_ge (tgt := 95) (q := 91) dX11_thing_88 (by decide) rfl ?_ ?_
            · refine tj_iconst (q := 96) (v := (-1)) dX11_thing_95 rfl (by decide) ?_
              exact tj_iret rfl rfl (Nat.le_of_ble_eq_true rfl) (Nat.le_of_ble_eq_true rfl) dX11_thing_96
            · refine tj_iload_n (q := 92) dX11_thing_91 rfl (i := 3) rfl (pl := 0) rfl ?_
              refine tj_goto (q := 96) dX11_thing_92 (by decide) ?_
              exact tj_iret rfl rfl (Nat.le_of_ble_eq_true rfl) (Nat.le_of_ble_eq_true rfl) dX11_thing_96
          · refine tj_caseI (fun hc10 => ?_) (fun hc10 => ?_)
            · refine tj_tin (tgt := 97) (k := 4) (off := 76) dX11_thing_21 hc10 (by decide) (by decide) (by decide) (by decide) ?_
              refine tj_iload_n (q := 98) dX11_thing_97 rfl (i := 3) rfl (pl := 0) rfl ?_
              refine tj_iconst (q := 99) (v := 5) dX11_thing_98 rfl (by decide) ?_
              refine tj_icmp_ge (tgt := 106) (q := 102) dX11_thing_99 (by decide) rfl ?_ ?_
              · refine tj_iload_n (q := 107) dX11_thing_106 rfl (i := 3) rfl (pl := 0) rfl ?_
                refine tj_iconst (q := 108) (v := 5) dX11_thing_107 rfl (by decide) ?_
                refine tj_isub (q := 109) dX11_thing_108 rfl ?_
                exact tj_iret rfl rfl (Nat.le_of_ble_eq_true rfl) (Nat.le_of_ble_eq_true rfl) dX11_thing_109
              · refine tj_iconst (q := 103) (v := (-1)) dX11_thing_102 rfl (by decide) ?_
                refine tj_goto (q := 109) dX11_thing_103 (by decide) ?_
                exact tj_iret rfl rfl (Nat.le_of_ble_eq_true rfl) (Nat.le_of_ble_eq_true rfl) dX11_thing_109
            · refine tj_dflt (tgt := 110) ?_ (fun hD11 => ?_)
              · refine tj_bipush (q := 112) (v := (-2)) dX11_thing_110 rfl (by decide) ?_
                exact tj_iret rfl rfl (Nat.le_of_ble_eq_true rfl) (Nat.le_of_ble_eq_true rfl) dX11_thing_112
              · exact tj_tout (tgt := 110) dX11_thing_21 (by have e0 := lv_neT (a := 0) hc3 (by decide); have e1 := lv_neT (a := 1) hc5 (by decide); have e2 := lv_neT (a := 2) hc7 (by decide); have e3 := lv_neT (a := 3) hc9 (by decide); have e4 := lv_neT (a := 4) hc10 (by decide); omega) (by decide) hD11
  · refine tj_bipush (q := 10) (v := (-2)) dX11_thing_8 rfl (by decide) ?_
    exact tj_iret rfl rfl (Nat.le_of_ble_eq_true rfl) (Nat.le_of_ble_eq_true rfl) dX11_thing_10

theorem dX11_isThief_0 : decode cX11_isThief 0 = .ok (.iload_n 1, 1) := by decide +kernel
theorem dX11_isThief_1 : decode cX11_isThief 1 = .ok (.ifCond .lt 18, 3) := by decide +kernel
theorem dX11_isThief_4 : decode cX11_isThief 4 = .ok (.iload_n 1, 1) := by decide +kernel
theorem dX11_isThief_5 : decode cX11_isThief 5 = .ok (.aload_n 0, 1) := by decide +kernel
theorem dX11_isThief_6 : decode cX11_isThief 6 = .ok (.getfield 26, 3) := by decide +kernel
theorem dX11_isThief_9 : decode cX11_isThief 9 = .ok (.getfield 276, 3) := by decide +kernel
theorem dX11_isThief_12 : decode cX11_isThief 12 = .ok (.if_icmp .ge 7, 3) := by decide +kernel
theorem dX11_isThief_15 : decode cX11_isThief 15 = .ok (.iconst 1, 1) := by decide +kernel
theorem dX11_isThief_16 : decode cX11_isThief 16 = .ok (.goto 4, 3) := by decide +kernel
theorem dX11_isThief_19 : decode cX11_isThief 19 = .ok (.iconst 0, 1) := by decide +kernel
theorem dX11_isThief_20 : decode cX11_isThief 20 = .ok (.ireturn, 1) := by decide +kernel
theorem wl_RX11_276 : Cond.fieldLink RX11 276 (TX1 4).1 (TX1 4).2.1 (TX1 4).2.2.1 ∈ TB := tbm 309 (by decide +kernel) (by decide +kernel)
def mX11_isThief (t : Nat) (tw : Nat) (dr : Nat) (p1 : Int32) (σ : St_) : Option Bool :=
 (if p1 < 0 then
 (some false)
 else (if (σ.1 tw 4) ≤ p1 then
 (some false)
 else (some true)))
set_option maxHeartbeats 4000000 in
theorem rX11_isThief (t : Nat) (tw : Nat) (dr : Nat) (p1 : Int32) (hT : LY11 sh P t tw dr) : Rj l D cA h0 ad yX11_isThief cX11_isThief 2 (some .boolean) false 2 0 0 (fun b => (some (.int (b2i b)), sh, P, σ)) [.ref (h0 + t), .int p1] sh P σ (mX11_isThief t tw dr p1 σ) := by
  rw [mX11_isThief]
  refine Rj.of (by decide) (fun h => by cases h) (Nat.le_of_ble_eq_true rfl) ?_
  refine tj_lv0 (lv' := [(0, .ref (h0 + t)), (1, .int p1)]) rfl ?_
  refine tj_iload_n (q := 1) dX11_isThief_0 rfl (i := 1) rfl (pl := 1) rfl ?_
  refine tj_if_lt (tgt := 19) (q := 4) dX11_isThief_1 (by decide) rfl ?_ ?_
  · refine tj_iconst (q := 20) (v := 0) dX11_isThief_19 rfl (by decide) ?_
    exact tj_zret rfl (by decide) rfl (Nat.le_of_ble_eq_true rfl) (Nat.le_of_ble_eq_true rfl) dX11_isThief_20
  · refine tj_iload_n (q := 5) dX11_isThief_4 rfl (i := 1) rfl (pl := 1) rfl ?_
    refine tj_aload_n (q := 6) dX11_isThief_5 rfl (i := 0) rfl (pl := 0) rfl ?_
    refine tj_getR (q := 9) (hT).s (hT).p_town fok_11_2 wl_RX11_26 dX11_isThief_6 rfl ?_
    refine tj_getI (q := 12) ((hT).o_town).s fok_1_4 wl_RX11_276 dX11_isThief_9 rfl ?_
    refine tj_icmp_ge (tgt := 19) (q := 15) dX11_isThief_12 (by decide) rfl ?_ ?_
    · refine tj_iconst (q := 20) (v := 0) dX11_isThief_19 rfl (by decide) ?_
      exact tj_zret rfl (by decide) rfl (Nat.le_of_ble_eq_true rfl) (Nat.le_of_ble_eq_true rfl) dX11_isThief_20
    · refine tj_iconst (q := 16) (v := 1) dX11_isThief_15 rfl (by decide) ?_
      refine tj_goto (q := 20) dX11_isThief_16 (by decide) ?_
      exact tj_zret rfl (by decide) rfl (Nat.le_of_ble_eq_true rfl) (Nat.le_of_ble_eq_true rfl) dX11_isThief_20

theorem dX11_isHouse_0 : decode cX11_isHouse 0 = .ok (.iload_n 1, 1) := by decide +kernel
theorem dX11_isHouse_1 : decode cX11_isHouse 1 = .ok (.ifCond .lt 18, 3) := by decide +kernel
theorem dX11_isHouse_4 : decode cX11_isHouse 4 = .ok (.iload_n 1, 1) := by decide +kernel
theorem dX11_isHouse_5 : decode cX11_isHouse 5 = .ok (.aload_n 0, 1) := by decide +kernel
theorem dX11_isHouse_6 : decode cX11_isHouse 6 = .ok (.getfield 26, 3) := by decide +kernel
theorem dX11_isHouse_9 : decode cX11_isHouse 9 = .ok (.getfield 359, 3) := by decide +kernel
theorem dX11_isHouse_12 : decode cX11_isHouse 12 = .ok (.if_icmp .ge 7, 3) := by decide +kernel
theorem dX11_isHouse_15 : decode cX11_isHouse 15 = .ok (.iconst 1, 1) := by decide +kernel
theorem dX11_isHouse_16 : decode cX11_isHouse 16 = .ok (.goto 4, 3) := by decide +kernel
theorem dX11_isHouse_19 : decode cX11_isHouse 19 = .ok (.iconst 0, 1) := by decide +kernel
theorem dX11_isHouse_20 : decode cX11_isHouse 20 = .ok (.ireturn, 1) := by decide +kernel
theorem wl_RX11_359 : Cond.fieldLink RX11 359 (TX1 3).1 (TX1 3).2.1 (TX1 3).2.2.1 ∈ TB := tbm 305 (by decide +kernel) (by decide +kernel)
def mX11_isHouse (t : Nat) (tw : Nat) (dr : Nat) (p1 : Int32) (σ : St_) : Option Bool :=
 (if p1 < 0 then
 (some false)
 else (if (σ.1 tw 3) ≤ p1 then
 (some false)
 else (some true)))
set_option maxHeartbeats 4000000 in
theorem rX11_isHouse (t : Nat) (tw : Nat) (dr : Nat) (p1 : Int32) (hT : LY11 sh P t tw dr) : Rj l D cA h0 ad yX11_isHouse cX11_isHouse 2 (some .boolean) false 2 0 0 (fun b => (some (.int (b2i b)), sh, P, σ)) [.ref (h0 + t), .int p1] sh P σ (mX11_isHouse t tw dr p1 σ) := by
  rw [mX11_isHouse]
  refine Rj.of (by decide) (fun h => by cases h) (Nat.le_of_ble_eq_true rfl) ?_
  refine tj_lv0 (lv' := [(0, .ref (h0 + t)), (1, .int p1)]) rfl ?_
  refine tj_iload_n (q := 1) dX11_isHouse_0 rfl (i := 1) rfl (pl := 1) rfl ?_
  refine tj_if_lt (tgt := 19) (q := 4) dX11_isHouse_1 (by decide) rfl ?_ ?_
  · refine tj_iconst (q := 20) (v := 0) dX11_isHouse_19 rfl (by decide) ?_
    exact tj_zret rfl (by decide) rfl (Nat.le_of_ble_eq_true rfl) (Nat.le_of_ble_eq_true rfl) dX11_isHouse_20
  · refine tj_iload_n (q := 5) dX11_isHouse_4 rfl (i := 1) rfl (pl := 1) rfl ?_
    refine tj_aload_n (q := 6) dX11_isHouse_5 rfl (i := 0) rfl (pl := 0) rfl ?_
    refine tj_getR (q := 9) (hT).s (hT).p_town fok_11_2 wl_RX11_26 dX11_isHouse_6 rfl ?_
    refine tj_getI (q := 12) ((hT).o_town).s fok_1_3 wl_RX11_359 dX11_isHouse_9 rfl ?_
    refine tj_icmp_ge (tgt := 19) (q := 15) dX11_isHouse_12 (by decide) rfl ?_ ?_
    · refine tj_iconst (q := 20) (v := 0) dX11_isHouse_19 rfl (by decide) ?_
      exact tj_zret rfl (by decide) rfl (Nat.le_of_ble_eq_true rfl) (Nat.le_of_ble_eq_true rfl) dX11_isHouse_20
    · refine tj_iconst (q := 16) (v := 1) dX11_isHouse_15 rfl (by decide) ?_
      refine tj_goto (q := 20) dX11_isHouse_16 (by decide) ?_
      exact tj_zret rfl (by decide) rfl (Nat.le_of_ble_eq_true rfl) (Nat.le_of_ble_eq_true rfl) dX11_isHouse_20

theorem dX11_holderIndex_0 : decode cX11_holderIndex 0 = .ok (.iload_n 2, 1) := by decide +kernel
theorem dX11_holderIndex_1 : decode cX11_holderIndex 1 = .ok (.ifCond .eq 19, 3) := by decide +kernel
theorem dX11_holderIndex_4 : decode cX11_holderIndex 4 = .ok (.aload_n 0, 1) := by decide +kernel
theorem dX11_holderIndex_5 : decode cX11_holderIndex 5 = .ok (.iload_n 1, 1) := by decide +kernel
theorem dX11_holderIndex_6 : decode cX11_holderIndex 6 = .ok (.invokevirtual 162, 3) := by decide +kernel
theorem dX11_holderIndex_9 : decode cX11_holderIndex 9 = .ok (.ifCond .eq 9, 3) := by decide +kernel
theorem dX11_holderIndex_12 : decode cX11_holderIndex 12 = .ok (.iconst 5, 1) := by decide +kernel
theorem dX11_holderIndex_13 : decode cX11_holderIndex 13 = .ok (.iload_n 1, 1) := by decide +kernel
theorem dX11_holderIndex_14 : decode cX11_holderIndex 14 = .ok (.iadd, 1) := by decide +kernel
theorem dX11_holderIndex_15 : decode cX11_holderIndex 15 = .ok (.goto 4, 3) := by decide +kernel
theorem dX11_holderIndex_18 : decode cX11_holderIndex 18 = .ok (.iconst (-1), 1) := by decide +kernel
theorem dX11_holderIndex_19 : decode cX11_holderIndex 19 = .ok (.ireturn, 1) := by decide +kernel
theorem dX11_holderIndex_20 : decode cX11_holderIndex 20 = .ok (.aload_n 0, 1) := by decide +kernel
theorem dX11_holderIndex_21 : decode cX11_holderIndex 21 = .ok (.iload_n 1, 1) := by decide +kernel
theorem dX11_holderIndex_22 : decode cX11_holderIndex 22 = .ok (.invokevirtual 174, 3) := by decide +kernel
theorem dX11_holderIndex_25 : decode cX11_holderIndex 25 = .ok (.ifCond .eq 7, 3) := by decide +kernel
theorem dX11_holderIndex_28 : decode cX11_holderIndex 28 = .ok (.iload_n 1, 1) := by decide +kernel
theorem dX11_holderIndex_29 : decode cX11_holderIndex 29 = .ok (.goto 4, 3) := by decide +kernel
theorem dX11_holderIndex_32 : decode cX11_holderIndex 32 = .ok (.iconst (-1), 1) := by decide +kernel
theorem dX11_holderIndex_33 : decode cX11_holderIndex 33 = .ok (.ireturn, 1) := by decide +kernel
theorem wm_X11_isThief : Cond.instanceMethod yX11_isThief ∈ TB ∧ Cond.selects yX11_isThief.cls yX11_isThief yX11_isThief ∈ TB ∧ Cond.initialized yX11_isThief.cls ∈ TB ∧ Cond.code yX11_isThief cX11_isThief 2 (some .boolean) ∈ TB ∧ (yX11_isThief.cls ≠ "java/lang/invoke/MethodHandle" ∧ yX11_isThief.cls ≠ "java/lang/invoke/VarHandle" ∧ (parseMethodDescriptor yX11_isThief.desc).map (fun d => d.parameters.length) = some 1) ∧ 2 ≤ 21 := ⟨tbm 1042 (by decide +kernel) (by decide +kernel), tbm 33 (by decide +kernel) (by decide +kernel), tbm 134 (by decide +kernel) (by decide +kernel), tbm 1043 (by decide +kernel) (by decide +kernel), by decide +kernel, by decide⟩
theorem wi_RX11_162 : Iv RX11 162 yX11_isThief cX11_isThief 2 (some .boolean) 1 := ⟨tbm 1040 (by decide +kernel) (by decide +kernel), wm_X11_isThief⟩
theorem wm_X11_isHouse : Cond.instanceMethod yX11_isHouse ∈ TB ∧ Cond.selects yX11_isHouse.cls yX11_isHouse yX11_isHouse ∈ TB ∧ Cond.initialized yX11_isHouse.cls ∈ TB ∧ Cond.code yX11_isHouse cX11_isHouse 2 (some .boolean) ∈ TB ∧ (yX11_isHouse.cls ≠ "java/lang/invoke/MethodHandle" ∧ yX11_isHouse.cls ≠ "java/lang/invoke/VarHandle" ∧ (parseMethodDescriptor yX11_isHouse.desc).map (fun d => d.parameters.length) = some 1) ∧ 2 ≤ 21 := ⟨tbm 1046 (by decide +kernel) (by decide +kernel), tbm 34 (by decide +kernel) (by decide +kernel), tbm 134 (by decide +kernel) (by decide +kernel), tbm 1047 (by decide +kernel) (by decide +kernel), by decide +kernel, by decide⟩
theorem wi_RX11_174 : Iv RX11 174 yX11_isHouse cX11_isHouse 2 (some .boolean) 1 := ⟨tbm 1044 (by decide +kernel) (by decide +kernel), wm_X11_isHouse⟩
def mX11_holderIndex (t : Nat) (tw : Nat) (dr : Nat) (p1 : Int32) (p2 : Bool) (σ : St_) : Option Int32 :=
 (if p2 = true then
 ((mX11_isThief t tw dr p1 σ).bind fun r1 =>
 (if r1 = true then
 (some ((5 : Int32) + p1))
 else (some (-1 : Int32))))
 else ((mX11_isHouse t tw dr p1 σ).bind fun r2 =>
 (if r2 = true then
 (some p1)
 else (some (-1 : Int32)))))
set_option maxHeartbeats 4000000 in
theorem rX11_holderIndex (t : Nat) (tw : Nat) (dr : Nat) (p1 : Int32) (p2 : Bool) (hT : LY11 sh P t tw dr) : Rj l D cA h0 ad yX11_holderIndex cX11_holderIndex 3 (some .int) false 3 0 0 (fun b => (some (.int b), sh, P, σ)) [.ref (h0 + t), .int p1, .int (b2i p2)] sh P σ (mX11_holderIndex t tw dr p1 p2 σ) := by
  rw [mX11_holderIndex]
  refine Rj.of (by decide) (fun h => by cases h) (Nat.le_of_ble_eq_true rfl) ?_
  refine tj_lv0 (lv' := [(0, .ref (h0 + t)), (1, .int p1), (2, .int (b2i p2))]) rfl ?_
  refine tj_iload_n (q := 1) dX11_holderIndex_0 rfl (i := 2) rfl (pl := 2) rfl ?_
  refine tj_bz (tgt := 20) (q := 4) dX11_holderIndex_1 (by decide) rfl ?_ ?_
  · refine tj_aload_n (q := 5) dX11_holderIndex_4 rfl (i := 0) rfl (pl := 0) rfl ?_
    refine tj_iload_n (q := 6) dX11_holderIndex_5 rfl (i := 1) rfl (pl := 1) rfl ?_
    refine tj_callZp (q := 9) (kj_V (As := [.int p1]) (rest := []) (t := t) wi_RX11_162 (hT).s rfl (rX11_isThief t tw dr p1 (hT)) rfl (Nat.le_of_ble_eq_true rfl) ⟨Nat.le_of_ble_eq_true rfl, Nat.le_of_ble_eq_true rfl⟩ (Nat.le_of_ble_eq_true rfl) dX11_holderIndex_6) rfl (fun r1 => ?_)
    refine tj_bz (tgt := 18) (q := 12) dX11_holderIndex_9 (by decide) rfl ?_ ?_
    · refine tj_iconst (q := 13) (v := 5) dX11_holderIndex_12 rfl (by decide) ?_
      refine tj_iload_n (q := 14) dX11_holderIndex_13 rfl (i := 1) rfl (pl := 1) rfl ?_
      refine tj_iadd (q := 15) dX11_holderIndex_14 rfl ?_
      refine tj_goto (q := 19) dX11_holderIndex_15 (by decide) ?_
      exact tj_iret rfl rfl (Nat.le_of_ble_eq_true rfl) (Nat.le_of_ble_eq_true rfl) dX11_holderIndex_19
    · refine tj_iconst (q := 19) (v := (-1)) dX11_holderIndex_18 rfl (by decide) ?_
      exact tj_iret rfl rfl (Nat.le_of_ble_eq_true rfl) (Nat.le_of_ble_eq_true rfl) dX11_holderIndex_19
  · refine tj_aload_n (q := 21) dX11_holderIndex_20 rfl (i := 0) rfl (pl := 0) rfl ?_
    refine tj_iload_n (q := 22) dX11_holderIndex_21 rfl (i := 1) rfl (pl := 1) rfl ?_
    refine tj_callZp (q := 25) (kj_V (As := [.int p1]) (rest := []) (t := t) wi_RX11_174 (hT).s rfl (rX11_isHouse t tw dr p1 (hT)) rfl (Nat.le_of_ble_eq_true rfl) ⟨Nat.le_of_ble_eq_true rfl, Nat.le_of_ble_eq_true rfl⟩ (Nat.le_of_ble_eq_true rfl) dX11_holderIndex_22) rfl (fun r2 => ?_)
    refine tj_bz (tgt := 32) (q := 28) dX11_holderIndex_25 (by decide) rfl ?_ ?_
    · refine tj_iload_n (q := 29) dX11_holderIndex_28 rfl (i := 1) rfl (pl := 1) rfl ?_
      refine tj_goto (q := 33) dX11_holderIndex_29 (by decide) ?_
      exact tj_iret rfl rfl (Nat.le_of_ble_eq_true rfl) (Nat.le_of_ble_eq_true rfl) dX11_holderIndex_33
    · refine tj_iconst (q := 33) (v := (-1)) dX11_holderIndex_32 rfl (by decide) ?_
      exact tj_iret rfl rfl (Nat.le_of_ble_eq_true rfl) (Nat.le_of_ble_eq_true rfl) dX11_holderIndex_33

theorem dX11_worth_0 : decode cX11_worth 0 = .ok (.aload_n 0, 1) := by decide +kernel
theorem dX11_worth_1 : decode cX11_worth 1 = .ok (.iload_n 2, 1) := by decide +kernel
theorem dX11_worth_2 : decode cX11_worth 2 = .ok (.iload_n 3, 1) := by decide +kernel
theorem dX11_worth_3 : decode cX11_worth 3 = .ok (.invokevirtual 148, 3) := by decide +kernel
theorem dX11_worth_6 : decode cX11_worth 6 = .ok (.istore 4, 2) := by decide +kernel
theorem dX11_worth_8 : decode cX11_worth 8 = .ok (.aload_n 0, 1) := by decide +kernel
theorem dX11_worth_9 : decode cX11_worth 9 = .ok (.iload_n 1, 1) := by decide +kernel
theorem dX11_worth_10 : decode cX11_worth 10 = .ok (.invokevirtual 131, 3) := by decide +kernel
theorem dX11_worth_13 : decode cX11_worth 13 = .ok (.ifCond .eq 9, 3) := by decide +kernel
theorem dX11_worth_16 : decode cX11_worth 16 = .ok (.iload 4, 2) := by decide +kernel
theorem dX11_worth_18 : decode cX11_worth 18 = .ok (.iconst (-1), 1) := by decide +kernel
theorem dX11_worth_19 : decode cX11_worth 19 = .ok (.if_icmp .ne 5, 3) := by decide +kernel
theorem dX11_worth_22 : decode cX11_worth 22 = .ok (.iconst (-1), 1) := by decide +kernel
theorem dX11_worth_23 : decode cX11_worth 23 = .ok (.ireturn, 1) := by decide +kernel
theorem dX11_worth_24 : decode cX11_worth 24 = .ok (.aload_n 0, 1) := by decide +kernel
theorem dX11_worth_25 : decode cX11_worth 25 = .ok (.getfield 26, 3) := by decide +kernel
theorem dX11_worth_28 : decode cX11_worth 28 = .ok (.iload 4, 2) := by decide +kernel
theorem dX11_worth_30 : decode cX11_worth 30 = .ok (.iload_n 1, 1) := by decide +kernel
theorem dX11_worth_31 : decode cX11_worth 31 = .ok (.invokevirtual 152, 3) := by decide +kernel
theorem dX11_worth_34 : decode cX11_worth 34 = .ok (.ireturn, 1) := by decide +kernel
theorem wm_X11_holderIndex : Cond.instanceMethod yX11_holderIndex ∈ TB ∧ Cond.selects yX11_holderIndex.cls yX11_holderIndex yX11_holderIndex ∈ TB ∧ Cond.initialized yX11_holderIndex.cls ∈ TB ∧ Cond.code yX11_holderIndex cX11_holderIndex 3 (some .int) ∈ TB ∧ (yX11_holderIndex.cls ≠ "java/lang/invoke/MethodHandle" ∧ yX11_holderIndex.cls ≠ "java/lang/invoke/VarHandle" ∧ (parseMethodDescriptor yX11_holderIndex.desc).map (fun d => d.parameters.length) = some 2) ∧ 3 ≤ 21 := ⟨tbm 1038 (by decide +kernel) (by decide +kernel), tbm 32 (by decide +kernel) (by decide +kernel), tbm 134 (by decide +kernel) (by decide +kernel), tbm 1039 (by decide +kernel) (by decide +kernel), by decide +kernel, by decide⟩
theorem wi_RX11_148 : Iv RX11 148 yX11_holderIndex cX11_holderIndex 3 (some .int) 2 := ⟨tbm 1036 (by decide +kernel) (by decide +kernel), wm_X11_holderIndex⟩
theorem wi_RX11_152 : Iv RX11 152 yX1_valueTo cX1_valueTo 3 (some .int) 2 := ⟨tbm 1048 (by decide +kernel) (by decide +kernel), wm_X1_valueTo⟩
def mX11_worth (t : Nat) (tw : Nat) (dr : Nat) (p1 : Int32) (p2 : Int32) (p3 : Bool) (σ : St_) : Option Int32 :=
 ((mX11_holderIndex t tw dr p2 p3 σ).bind fun r1 =>
 ((mX11_isThing t tw dr p1 σ).bind fun r2 =>
 (if r2 = true then
 (if r1 = (-1 : Int32) then
 (some (-1 : Int32))
 else ((mX1_valueTo tw r1 p1 σ).bind fun r3 =>
 (some r3)))
 else (some (-1 : Int32)))))
set_option maxHeartbeats 4000000 in
theorem rX11_worth (t : Nat) (tw : Nat) (dr : Nat) (p1 : Int32) (p2 : Int32) (p3 : Bool) (hT : LY11 sh P t tw dr) : Rj l D cA h0 ad yX11_worth cX11_worth 5 (some .int) false 4 0 0 (fun b => (some (.int b), sh, P, σ)) [.ref (h0 + t), .int p1, .int p2, .int (b2i p3)] sh P σ (mX11_worth t tw dr p1 p2 p3 σ) := by
  rw [mX11_worth]
  refine Rj.of (by decide) (fun h => by cases h) (Nat.le_of_ble_eq_true rfl) ?_
  refine tj_lv0 (lv' := [(0, .ref (h0 + t)), (1, .int p1), (2, .int p2), (3, .int (b2i p3))]) rfl ?_
  refine tj_aload_n (q := 1) dX11_worth_0 rfl (i := 0) rfl (pl := 0) rfl ?_
  refine tj_iload_n (q := 2) dX11_worth_1 rfl (i := 2) rfl (pl := 2) rfl ?_
  refine tj_iload_n (q := 3) dX11_worth_2 rfl (i := 3) rfl (pl := 3) rfl ?_
  refine tj_callIp (q := 6) (kj_V (As := [.int p2, .int (b2i p3)]) (rest := []) (t := t) wi_RX11_148 (hT).s rfl (rX11_holderIndex t tw dr p2 p3 (hT)) rfl (Nat.le_of_ble_eq_true rfl) ⟨Nat.le_of_ble_eq_true rfl, Nat.le_of_ble_eq_true rfl⟩ (Nat.le_of_ble_eq_true rfl) dX11_worth_3) rfl (fun r1 => ?_)
  refine tj_istore (q := 8) dX11_worth_6 rfl (by decide) rfl ?_
  refine tj_aload_n (q := 9) dX11_worth_8 rfl (i := 0) rfl (pl := 1) rfl ?_
  refine tj_iload_n (q := 10) dX11_worth_9 rfl (i := 1) rfl (pl := 2) rfl ?_
  refine tj_callZp (q := 13) (kj_V (As := [.int p1]) (rest := []) (t := t) wi_RX11_131 (hT).s rfl (rX11_isThing t tw dr p1 (hT)) rfl (Nat.le_of_ble_eq_true rfl) ⟨Nat.le_of_ble_eq_true rfl, Nat.le_of_ble_eq_true rfl⟩ (Nat.le_of_ble_eq_true rfl) dX11_worth_10) rfl (fun r2 => ?_)
  refine tj_bz (tgt := 22) (q := 16) dX11_worth_13 (by decide) rfl ?_ ?_
  · refine tj_iload (q := 18) dX11_worth_16 rfl (pl := 0) rfl ?_
    refine tj_iconst (q := 19) (v := (-1)) dX11_worth_18 rfl (by decide) ?_
    refine tj_icmp_ne (tgt := 24) (q := 22) dX11_worth_19 (by decide) rfl ?_ ?_
    · refine tj_iconst (q := 23) (v := (-1)) dX11_worth_22 rfl (by decide) ?_
      exact tj_iret rfl rfl (Nat.le_of_ble_eq_true rfl) (Nat.le_of_ble_eq_true rfl) dX11_worth_23
    · refine tj_aload_n (q := 25) dX11_worth_24 rfl (i := 0) rfl (pl := 1) rfl ?_
      refine tj_getR (q := 28) (hT).s (hT).p_town fok_11_2 wl_RX11_26 dX11_worth_25 rfl ?_
      refine tj_iload (q := 30) dX11_worth_28 rfl (pl := 0) rfl ?_
      refine tj_iload_n (q := 31) dX11_worth_30 rfl (i := 1) rfl (pl := 2) rfl ?_
      refine tj_callIp (q := 34) (kj_V (As := [.int r1, .int p1]) (rest := []) (t := tw) wi_RX11_152 ((hT).o_town).s rfl (rX1_valueTo tw r1 p1 ((hT).o_town)) rfl (Nat.le_of_ble_eq_true rfl) ⟨Nat.le_of_ble_eq_true rfl, Nat.le_of_ble_eq_true rfl⟩ (Nat.le_of_ble_eq_true rfl) dX11_worth_31) rfl (fun r3 => ?_)
      exact tj_iret rfl rfl (Nat.le_of_ble_eq_true rfl) (Nat.le_of_ble_eq_true rfl) dX11_worth_34
  · refine tj_iconst (q := 23) (v := (-1)) dX11_worth_22 rfl (by decide) ?_
    exact tj_iret rfl rfl (Nat.le_of_ble_eq_true rfl) (Nat.le_of_ble_eq_true rfl) dX11_worth_23

theorem dX11_has_0 : decode cX11_has 0 = .ok (.aload_n 0, 1) := by decide +kernel
theorem dX11_has_1 : decode cX11_has 1 = .ok (.iload_n 1, 1) := by decide +kernel
theorem dX11_has_2 : decode cX11_has 2 = .ok (.iload_n 2, 1) := by decide +kernel
theorem dX11_has_3 : decode cX11_has 3 = .ok (.invokevirtual 148, 3) := by decide +kernel
theorem dX11_has_6 : decode cX11_has 6 = .ok (.istore_n 3, 1) := by decide +kernel
theorem dX11_has_7 : decode cX11_has 7 = .ok (.iload_n 3, 1) := by decide +kernel
theorem dX11_has_8 : decode cX11_has 8 = .ok (.iconst (-1), 1) := by decide +kernel
theorem dX11_has_9 : decode cX11_has 9 = .ok (.if_icmp .ne 7, 3) := by decide +kernel
theorem dX11_has_12 : decode cX11_has 12 = .ok (.iconst (-1), 1) := by decide +kernel
theorem dX11_has_13 : decode cX11_has 13 = .ok (.goto 12, 3) := by decide +kernel
theorem dX11_has_16 : decode cX11_has 16 = .ok (.aload_n 0, 1) := by decide +kernel
theorem dX11_has_17 : decode cX11_has 17 = .ok (.getfield 36, 3) := by decide +kernel
theorem dX11_has_20 : decode cX11_has 20 = .ok (.getfield 156, 3) := by decide +kernel
theorem dX11_has_23 : decode cX11_has 23 = .ok (.iload_n 3, 1) := by decide +kernel
theorem dX11_has_24 : decode cX11_has 24 = .ok (.iaload, 1) := by decide +kernel
theorem dX11_has_25 : decode cX11_has 25 = .ok (.ireturn, 1) := by decide +kernel
theorem wl_RX11_156 : Cond.fieldLink RX11 156 (TX8 0).1 (TX8 0).2.1 (TX8 0).2.2.1 ∈ TB := tbm 383 (by decide +kernel) (by decide +kernel)
def mX11_has (t : Nat) (tw : Nat) (dr : Nat) (p1 : Int32) (p2 : Bool) (σ : St_) : Option Int32 :=
 ((mX11_holderIndex t tw dr p1 p2 σ).bind fun r1 =>
 (if r1 = (-1 : Int32) then
 (some (-1 : Int32))
 else (if bin r1 9 = true then bnd (σ.1 (t + 44 + 1) r1.toNatClampNeg) fun v2 =>
 (some v2)
 else none)))
set_option maxHeartbeats 4000000 in
theorem rX11_has (t : Nat) (tw : Nat) (dr : Nat) (p1 : Int32) (p2 : Bool) (hT : LY11 sh P t tw dr) : Rj l D cA h0 ad yX11_has cX11_has 4 (some .int) false 4 0 0 (fun b => (some (.int b), sh, P, σ)) [.ref (h0 + t), .int p1, .int (b2i p2)] sh P σ (mX11_has t tw dr p1 p2 σ) := by
  rw [mX11_has]
  refine Rj.of (by decide) (fun h => by cases h) (Nat.le_of_ble_eq_true rfl) ?_
  refine tj_lv0 (lv' := [(0, .ref (h0 + t)), (1, .int p1), (2, .int (b2i p2))]) rfl ?_
  refine tj_aload_n (q := 1) dX11_has_0 rfl (i := 0) rfl (pl := 0) rfl ?_
  refine tj_iload_n (q := 2) dX11_has_1 rfl (i := 1) rfl (pl := 1) rfl ?_
  refine tj_iload_n (q := 3) dX11_has_2 rfl (i := 2) rfl (pl := 2) rfl ?_
  refine tj_callIp (q := 6) (kj_V (As := [.int p1, .int (b2i p2)]) (rest := []) (t := t) wi_RX11_148 (hT).s rfl (rX11_holderIndex t tw dr p1 p2 (hT)) rfl (Nat.le_of_ble_eq_true rfl) ⟨Nat.le_of_ble_eq_true rfl, Nat.le_of_ble_eq_true rfl⟩ (Nat.le_of_ble_eq_true rfl) dX11_has_3) rfl (fun r1 => ?_)
  refine tj_istore_n (q := 7) dX11_has_6 rfl (i := 3) rfl (by decide) rfl ?_
  refine tj_iload_n (q := 8) dX11_has_7 rfl (i := 3) rfl (pl := 0) rfl ?_
  refine tj_iconst (q := 9) (v := (-1)) dX11_has_8 rfl (by decide) ?_
  refine tj_icmp_ne (tgt := 16) (q := 12) dX11_has_9 (by decide) rfl ?_ ?_
  · refine tj_iconst (q := 13) (v := (-1)) dX11_has_12 rfl (by decide) ?_
    refine tj_goto (q := 25) dX11_has_13 (by decide) ?_
    exact tj_iret rfl rfl (Nat.le_of_ble_eq_true rfl) (Nat.le_of_ble_eq_true rfl) dX11_has_25
  · refine tj_aload_n (q := 17) dX11_has_16 rfl (i := 0) rfl (pl := 1) rfl ?_
    refine tj_getR (q := 20) (hT).s (hT).p_now fok_11_4 wl_RX11_36 dX11_has_17 rfl ?_
    refine tj_getR (q := 23) ((hT).o_now).s ((hT).o_now).p_held fok_8_0 wl_RX11_156 dX11_has_20 rfl ?_
    refine tj_iload_n (q := 24) dX11_has_23 rfl (i := 3) rfl (pl := 0) rfl ?_
    refine tj_iaload (q := 25) ((hT).o_now).s_held dX11_has_24 rfl ?_
    refine tj_topI (fun v2 => ?_)
    exact tj_iret rfl rfl (Nat.le_of_ble_eq_true rfl) (Nat.le_of_ble_eq_true rfl) dX11_has_25

theorem dX11_sum_0 : decode cX11_sum 0 = .ok (.aload_n 0, 1) := by decide +kernel
theorem dX11_sum_1 : decode cX11_sum 1 = .ok (.iload_n 1, 1) := by decide +kernel
theorem dX11_sum_2 : decode cX11_sum 2 = .ok (.iload_n 2, 1) := by decide +kernel
theorem dX11_sum_3 : decode cX11_sum 3 = .ok (.invokevirtual 148, 3) := by decide +kernel
theorem dX11_sum_6 : decode cX11_sum 6 = .ok (.istore_n 3, 1) := by decide +kernel
theorem dX11_sum_7 : decode cX11_sum 7 = .ok (.iload_n 3, 1) := by decide +kernel
theorem dX11_sum_8 : decode cX11_sum 8 = .ok (.iconst (-1), 1) := by decide +kernel
theorem dX11_sum_9 : decode cX11_sum 9 = .ok (.if_icmp .ne 7, 3) := by decide +kernel
theorem dX11_sum_12 : decode cX11_sum 12 = .ok (.iconst (-1), 1) := by decide +kernel
theorem dX11_sum_13 : decode cX11_sum 13 = .ok (.goto 20, 3) := by decide +kernel
theorem dX11_sum_16 : decode cX11_sum 16 = .ok (.aload_n 0, 1) := by decide +kernel
theorem dX11_sum_17 : decode cX11_sum 17 = .ok (.getfield 26, 3) := by decide +kernel
theorem dX11_sum_20 : decode cX11_sum 20 = .ok (.iload_n 3, 1) := by decide +kernel
theorem dX11_sum_21 : decode cX11_sum 21 = .ok (.aload_n 0, 1) := by decide +kernel
theorem dX11_sum_22 : decode cX11_sum 22 = .ok (.getfield 36, 3) := by decide +kernel
theorem dX11_sum_25 : decode cX11_sum 25 = .ok (.getfield 156, 3) := by decide +kernel
theorem dX11_sum_28 : decode cX11_sum 28 = .ok (.iload_n 3, 1) := by decide +kernel
theorem dX11_sum_29 : decode cX11_sum 29 = .ok (.iaload, 1) := by decide +kernel
theorem dX11_sum_30 : decode cX11_sum 30 = .ok (.invokevirtual 159, 3) := by decide +kernel
theorem dX11_sum_33 : decode cX11_sum 33 = .ok (.ireturn, 1) := by decide +kernel
theorem wi_RX11_159 : Iv RX11 159 yX1_valueOfSet cX1_valueOfSet 5 (some .int) 2 := ⟨tbm 1060 (by decide +kernel) (by decide +kernel), wm_X1_valueOfSet⟩
def mX11_sum (t : Nat) (tw : Nat) (dr : Nat) (p1 : Int32) (p2 : Bool) (σ : St_) : Option Int32 :=
 ((mX11_holderIndex t tw dr p1 p2 σ).bind fun r1 =>
 (if r1 = (-1 : Int32) then
 (some (-1 : Int32))
 else (if bin r1 9 = true then bnd (σ.1 (t + 44 + 1) r1.toNatClampNeg) fun v2 =>
 ((mX1_valueOfSet tw r1 v2 σ).bind fun r3 =>
 (some r3))
 else none)))
set_option maxHeartbeats 4000000 in
theorem rX11_sum (t : Nat) (tw : Nat) (dr : Nat) (p1 : Int32) (p2 : Bool) (hT : LY11 sh P t tw dr) : Rj l D cA h0 ad yX11_sum cX11_sum 4 (some .int) false 4 0 0 (fun b => (some (.int b), sh, P, σ)) [.ref (h0 + t), .int p1, .int (b2i p2)] sh P σ (mX11_sum t tw dr p1 p2 σ) := by
  rw [mX11_sum]
  refine Rj.of (by decide) (fun h => by cases h) (Nat.le_of_ble_eq_true rfl) ?_
  refine tj_lv0 (lv' := [(0, .ref (h0 + t)), (1, .int p1), (2, .int (b2i p2))]) rfl ?_
  refine tj_aload_n (q := 1) dX11_sum_0 rfl (i := 0) rfl (pl := 0) rfl ?_
  refine tj_iload_n (q := 2) dX11_sum_1 rfl (i := 1) rfl (pl := 1) rfl ?_
  refine tj_iload_n (q := 3) dX11_sum_2 rfl (i := 2) rfl (pl := 2) rfl ?_
  refine tj_callIp (q := 6) (kj_V (As := [.int p1, .int (b2i p2)]) (rest := []) (t := t) wi_RX11_148 (hT).s rfl (rX11_holderIndex t tw dr p1 p2 (hT)) rfl (Nat.le_of_ble_eq_true rfl) ⟨Nat.le_of_ble_eq_true rfl, Nat.le_of_ble_eq_true rfl⟩ (Nat.le_of_ble_eq_true rfl) dX11_sum_3) rfl (fun r1 => ?_)
  refine tj_istore_n (q := 7) dX11_sum_6 rfl (i := 3) rfl (by decide) rfl ?_
  refine tj_iload_n (q := 8) dX11_sum_7 rfl (i := 3) rfl (pl := 0) rfl ?_
  refine tj_iconst (q := 9) (v := (-1)) dX11_sum_8 rfl (by decide) ?_
  refine tj_icmp_ne (tgt := 16) (q := 12) dX11_sum_9 (by decide) rfl ?_ ?_
  · refine tj_iconst (q := 13) (v := (-1)) dX11_sum_12 rfl (by decide) ?_
    refine tj_goto (q := 33) dX11_sum_13 (by decide) ?_
    exact tj_iret rfl rfl (Nat.le_of_ble_eq_true rfl) (Nat.le_of_ble_eq_true rfl) dX11_sum_33
  · refine tj_aload_n (q := 17) dX11_sum_16 rfl (i := 0) rfl (pl := 1) rfl ?_
    refine tj_getR (q := 20) (hT).s (hT).p_town fok_11_2 wl_RX11_26 dX11_sum_17 rfl ?_
    refine tj_iload_n (q := 21) dX11_sum_20 rfl (i := 3) rfl (pl := 0) rfl ?_
    refine tj_aload_n (q := 22) dX11_sum_21 rfl (i := 0) rfl (pl := 1) rfl ?_
    refine tj_getR (q := 25) (hT).s (hT).p_now fok_11_4 wl_RX11_36 dX11_sum_22 rfl ?_
    refine tj_getR (q := 28) ((hT).o_now).s ((hT).o_now).p_held fok_8_0 wl_RX11_156 dX11_sum_25 rfl ?_
    refine tj_iload_n (q := 29) dX11_sum_28 rfl (i := 3) rfl (pl := 0) rfl ?_
    refine tj_iaload (q := 30) ((hT).o_now).s_held dX11_sum_29 rfl ?_
    refine tj_topI (fun v2 => ?_)
    refine tj_callIp (q := 33) (kj_V (As := [.int r1, .int v2]) (rest := []) (t := tw) wi_RX11_159 ((hT).o_town).s rfl (rX1_valueOfSet tw r1 v2 ((hT).o_town)) rfl (Nat.le_of_ble_eq_true rfl) ⟨Nat.le_of_ble_eq_true rfl, Nat.le_of_ble_eq_true rfl⟩ (Nat.le_of_ble_eq_true rfl) dX11_sum_30) rfl (fun r3 => ?_)
    exact tj_iret rfl rfl (Nat.le_of_ble_eq_true rfl) (Nat.le_of_ble_eq_true rfl) dX11_sum_33

theorem dX11_thief_0 : decode cX11_thief 0 = .ok (.aload_n 0, 1) := by decide +kernel
theorem dX11_thief_1 : decode cX11_thief 1 = .ok (.iload_n 1, 1) := by decide +kernel
theorem dX11_thief_2 : decode cX11_thief 2 = .ok (.invokevirtual 162, 3) := by decide +kernel
theorem dX11_thief_5 : decode cX11_thief 5 = .ok (.ifCond .ne 5, 3) := by decide +kernel
theorem dX11_thief_8 : decode cX11_thief 8 = .ok (.iconst (-1), 1) := by decide +kernel
theorem dX11_thief_9 : decode cX11_thief 9 = .ok (.ireturn, 1) := by decide +kernel
theorem dX11_thief_10 : decode cX11_thief 10 = .ok (.iload_n 2, 1) := by decide +kernel
theorem dX11_thief_11 : decode cX11_thief 11 = .ok (.tableswitch 66 0 2 #[25, 37, 47], 25) := by decide +kernel
theorem dX11_thief_36 : decode cX11_thief 36 = .ok (.aload_n 0, 1) := by decide +kernel
theorem dX11_thief_37 : decode cX11_thief 37 = .ok (.getfield 36, 3) := by decide +kernel
theorem dX11_thief_40 : decode cX11_thief 40 = .ok (.getfield 165, 3) := by decide +kernel
theorem dX11_thief_43 : decode cX11_thief 43 = .ok (.iload_n 1, 1) := by decide +kernel
theorem dX11_thief_44 : decode cX11_thief 44 = .ok (.ishr, 1) := by decide +kernel
theorem dX11_thief_45 : decode cX11_thief 45 = .ok (.iconst 1, 1) := by decide +kernel
theorem dX11_thief_46 : decode cX11_thief 46 = .ok (.iand, 1) := by decide +kernel
theorem dX11_thief_47 : decode cX11_thief 47 = .ok (.ireturn, 1) := by decide +kernel
theorem dX11_thief_48 : decode cX11_thief 48 = .ok (.aload_n 0, 1) := by decide +kernel
theorem dX11_thief_49 : decode cX11_thief 49 = .ok (.getfield 36, 3) := by decide +kernel
theorem dX11_thief_52 : decode cX11_thief 52 = .ok (.getfield 168, 3) := by decide +kernel
theorem dX11_thief_55 : decode cX11_thief 55 = .ok (.iload_n 1, 1) := by decide +kernel
theorem dX11_thief_56 : decode cX11_thief 56 = .ok (.iaload, 1) := by decide +kernel
theorem dX11_thief_57 : decode cX11_thief 57 = .ok (.ireturn, 1) := by decide +kernel
theorem dX11_thief_58 : decode cX11_thief 58 = .ok (.aload_n 0, 1) := by decide +kernel
theorem dX11_thief_59 : decode cX11_thief 59 = .ok (.getfield 26, 3) := by decide +kernel
theorem dX11_thief_62 : decode cX11_thief 62 = .ok (.aload_n 0, 1) := by decide +kernel
theorem dX11_thief_63 : decode cX11_thief 63 = .ok (.getfield 36, 3) := by decide +kernel
theorem dX11_thief_66 : decode cX11_thief 66 = .ok (.getfield 156, 3) := by decide +kernel
theorem dX11_thief_69 : decode cX11_thief 69 = .ok (.iconst 5, 1) := by decide +kernel
theorem dX11_thief_70 : decode cX11_thief 70 = .ok (.iload_n 1, 1) := by decide +kernel
theorem dX11_thief_71 : decode cX11_thief 71 = .ok (.iadd, 1) := by decide +kernel
theorem dX11_thief_72 : decode cX11_thief 72 = .ok (.iaload, 1) := by decide +kernel
theorem dX11_thief_73 : decode cX11_thief 73 = .ok (.invokevirtual 171, 3) := by decide +kernel
theorem dX11_thief_76 : decode cX11_thief 76 = .ok (.ireturn, 1) := by decide +kernel
theorem dX11_thief_77 : decode cX11_thief 77 = .ok (.iconst (-1), 1) := by decide +kernel
theorem dX11_thief_78 : decode cX11_thief 78 = .ok (.ireturn, 1) := by decide +kernel
theorem wl_RX11_165 : Cond.fieldLink RX11 165 (TX8 4).1 (TX8 4).2.1 (TX8 4).2.2.1 ∈ TB := tbm 396 (by decide +kernel) (by decide +kernel)
theorem wl_RX11_168 : Cond.fieldLink RX11 168 (TX8 1).1 (TX8 1).2.1 (TX8 1).2.2.1 ∈ TB := tbm 386 (by decide +kernel) (by decide +kernel)
theorem wi_RX11_171 : Iv RX11 171 yX1_weightOfSet cX1_weightOfSet 4 (some .int) 1 := ⟨tbm 1069 (by decide +kernel) (by decide +kernel), wm_X1_weightOfSet⟩
def mX11_thief (t : Nat) (tw : Nat) (dr : Nat) (p1 : Int32) (p2 : Int32) (σ : St_) : Option Int32 :=
 ((mX11_isThief t tw dr p1 σ).bind fun r1 =>
 (if r1 = true then
 (if p2 = 0 then (some (((σ.1 (t + 44) 4) >>> (p1 &&& 31)) &&& (1 : Int32)))
 else (if p2 = 1 then (if bin p1 4 = true then bnd (σ.1 (t + 44 + 2) p1.toNatClampNeg) fun v4 =>
 (some v4)
 else none)
 else (if p2 = 2 then (bnd ((5 : Int32) + p1) fun v6 =>
 (if bin v6 9 = true then bnd (σ.1 (t + 44 + 1) v6.toNatClampNeg) fun v7 =>
 ((mX1_weightOfSet tw v7 σ).bind fun r8 =>
 (some r8))
 else none))
 else (some (-1 : Int32)))))
 else (some (-1 : Int32))))
set_option maxHeartbeats 4000000 in
theorem rX11_thief (t : Nat) (tw : Nat) (dr : Nat) (p1 : Int32) (p2 : Int32) (hT : LY11 sh P t tw dr) : Rj l D cA h0 ad yX11_thief cX11_thief 3 (some .int) false 3 0 0 (fun b => (some (.int b), sh, P, σ)) [.ref (h0 + t), .int p1, .int p2] sh P σ (mX11_thief t tw dr p1 p2 σ) := by
  rw [mX11_thief]
  refine Rj.of (by decide) (fun h => by cases h) (Nat.le_of_ble_eq_true rfl) ?_
  refine tj_lv0 (lv' := [(0, .ref (h0 + t)), (1, .int p1), (2, .int p2)]) rfl ?_
  refine tj_aload_n (q := 1) dX11_thief_0 rfl (i := 0) rfl (pl := 0) rfl ?_
  refine tj_iload_n (q := 2) dX11_thief_1 rfl (i := 1) rfl (pl := 1) rfl ?_
  refine tj_callZp (q := 5) (kj_V (As := [.int p1]) (rest := []) (t := t) wi_RX11_162 (hT).s rfl (rX11_isThief t tw dr p1 (hT)) rfl (Nat.le_of_ble_eq_true rfl) ⟨Nat.le_of_ble_eq_true rfl, Nat.le_of_ble_eq_true rfl⟩ (Nat.le_of_ble_eq_true rfl) dX11_thief_2) rfl (fun r1 => ?_)
  refine tj_bnz (tgt := 10) (q := 8) dX11_thief_5 (by decide) rfl ?_ ?_
  · refine tj_iload_n (q := 11) dX11_thief_10 rfl (i := 2) rfl (pl := 2) rfl ?_
    refine tj_caseI (fun hc2 => ?_) (fun hc2 => ?_)
    · refine tj_tin (tgt := 36) (k := 0) (off := 25) dX11_thief_11 hc2 (by decide) (by decide) (by decide) (by decide) ?_
      refine tj_aload_n (q := 37) dX11_thief_36 rfl (i := 0) rfl (pl := 0) rfl ?_
      refine tj_getR (q := 40) (hT).s (hT).p_now fok_11_4 wl_RX11_36 dX11_thief_37 rfl ?_
      refine tj_getI (q := 43) ((hT).o_now).s fok_8_4 wl_RX11_165 dX11_thief_40 rfl ?_
      refine tj_iload_n (q := 44) dX11_thief_43 rfl (i := 1) rfl (pl := 1) rfl ?_
      refine tj_ishr (q := 45) dX11_thief_44 rfl ?_
      refine tj_iconst (q := 46) (v := 1) dX11_thief_45 rfl (by decide) ?_
      refine tj_iand (q := 47) dX11_thief_46 rfl ?_
      exact tj_iret rfl rfl (Nat.le_of_ble_eq_true rfl) (Nat.le_of_ble_eq_true rfl) dX11_thief_47
    · refine tj_caseI (fun hc3 => ?_) (fun hc3 => ?_)
      · refine tj_tin (tgt := 48) (k := 1) (off := 37) dX11_thief_11 hc3 (by decide) (by decide) (by decide) (by decide) ?_
        refine tj_aload_n (q := 49) dX11_thief_48 rfl (i := 0) rfl (pl := 0) rfl ?_
        refine tj_getR (q := 52) (hT).s (hT).p_now fok_11_4 wl_RX11_36 dX11_thief_49 rfl ?_
        refine tj_getR (q := 55) ((hT).o_now).s ((hT).o_now).p_crimes fok_8_1 wl_RX11_168 dX11_thief_52 rfl ?_
        refine tj_iload_n (q := 56) dX11_thief_55 rfl (i := 1) rfl (pl := 1) rfl ?_
        refine tj_iaload (q := 57) ((hT).o_now).s_crimes dX11_thief_56 rfl ?_
        refine tj_topI (fun v4 => ?_)
        exact tj_iret rfl rfl (Nat.le_of_ble_eq_true rfl) (Nat.le_of_ble_eq_true rfl) dX11_thief_57
      · refine tj_caseI (fun hc5 => ?_) (fun hc5 => ?_)
        · refine tj_tin (tgt := 58) (k := 2) (off := 47) dX11_thief_11 hc5 (by decide) (by decide) (by decide) (by decide) ?_
          refine tj_aload_n (q := 59) dX11_thief_58 rfl (i := 0) rfl (pl := 0) rfl ?_
          refine tj_getR (q := 62) (hT).s (hT).p_town fok_11_2 wl_RX11_26 dX11_thief_59 rfl ?_
          refine tj_aload_n (q := 63) dX11_thief_62 rfl (i := 0) rfl (pl := 0) rfl ?_
          refine tj_getR (q := 66) (hT).s (hT).p_now fok_11_4 wl_RX11_36 dX11_thief_63 rfl ?_
          refine tj_getR (q := 69) ((hT).o_now).s ((hT).o_now).p_held fok_8_0 wl_RX11_156 dX11_thief_66 rfl ?_
          refine tj_iconst (q := 70) (v := 5) dX11_thief_69 rfl (by decide) ?_
          refine tj_iload_n (q := 71) dX11_thief_70 rfl (i := 1) rfl (pl := 1) rfl ?_
          refine tj_iadd (q := 72) dX11_thief_71 rfl ?_
          refine tj_topI (fun v6 => ?_)
          refine tj_iaload (q := 73) ((hT).o_now).s_held dX11_thief_72 rfl ?_
          refine tj_topI (fun v7 => ?_)
          refine tj_callIp (q := 76) (kj_V (As := [.int v7]) (rest := []) (t := tw) wi_RX11_171 ((hT).o_town).s rfl (rX1_weightOfSet tw v7 ((hT).o_town)) rfl (Nat.le_of_ble_eq_true rfl) ⟨Nat.le_of_ble_eq_true rfl, Nat.le_of_ble_eq_true rfl⟩ (Nat.le_of_ble_eq_true rfl) dX11_thief_73) rfl (fun r8 => ?_)
          exact tj_iret rfl rfl (Nat.le_of_ble_eq_true rfl) (Nat.le_of_ble_eq_true rfl) dX11_thief_76
        · refine tj_dflt (tgt := 77) ?_ (fun hD9 => ?_)
          · refine tj_iconst (q := 78) (v := (-1)) dX11_thief_77 rfl (by decide) ?_
            exact tj_iret rfl rfl (Nat.le_of_ble_eq_true rfl) (Nat.le_of_ble_eq_true rfl) dX11_thief_78
          · exact tj_tout (tgt := 77) dX11_thief_11 (by have e0 := lv_neT (a := 0) hc2 (by decide); have e1 := lv_neT (a := 1) hc3 (by decide); have e2 := lv_neT (a := 2) hc5 (by decide); omega) (by decide) hD9
  · refine tj_iconst (q := 9) (v := (-1)) dX11_thief_8 rfl (by decide) ?_
    exact tj_iret rfl rfl (Nat.le_of_ble_eq_true rfl) (Nat.le_of_ble_eq_true rfl) dX11_thief_9

theorem dX11_minutes_0 : decode cX11_minutes 0 = .ok (.aload_n 0, 1) := by decide +kernel
theorem dX11_minutes_1 : decode cX11_minutes 1 = .ok (.iload_n 1, 1) := by decide +kernel
theorem dX11_minutes_2 : decode cX11_minutes 2 = .ok (.invokevirtual 162, 3) := by decide +kernel
theorem dX11_minutes_5 : decode cX11_minutes 5 = .ok (.ifCond .eq 22, 3) := by decide +kernel
theorem dX11_minutes_8 : decode cX11_minutes 8 = .ok (.aload_n 0, 1) := by decide +kernel
theorem dX11_minutes_9 : decode cX11_minutes 9 = .ok (.iload_n 2, 1) := by decide +kernel
theorem dX11_minutes_10 : decode cX11_minutes 10 = .ok (.invokevirtual 174, 3) := by decide +kernel
theorem dX11_minutes_13 : decode cX11_minutes 13 = .ok (.ifCond .eq 14, 3) := by decide +kernel
theorem dX11_minutes_16 : decode cX11_minutes 16 = .ok (.iload_n 3, 1) := by decide +kernel
theorem dX11_minutes_17 : decode cX11_minutes 17 = .ok (.iconst 1, 1) := by decide +kernel
theorem dX11_minutes_18 : decode cX11_minutes 18 = .ok (.if_icmp .lt 9, 3) := by decide +kernel
theorem dX11_minutes_21 : decode cX11_minutes 21 = .ok (.iload_n 3, 1) := by decide +kernel
theorem dX11_minutes_22 : decode cX11_minutes 22 = .ok (.bipush 6, 2) := by decide +kernel
theorem dX11_minutes_24 : decode cX11_minutes 24 = .ok (.if_icmp .le 5, 3) := by decide +kernel
theorem dX11_minutes_27 : decode cX11_minutes 27 = .ok (.iconst (-1), 1) := by decide +kernel
theorem dX11_minutes_28 : decode cX11_minutes 28 = .ok (.ireturn, 1) := by decide +kernel
theorem dX11_minutes_29 : decode cX11_minutes 29 = .ok (.aload_n 0, 1) := by decide +kernel
theorem dX11_minutes_30 : decode cX11_minutes 30 = .ok (.getfield 26, 3) := by decide +kernel
theorem dX11_minutes_33 : decode cX11_minutes 33 = .ok (.iload_n 1, 1) := by decide +kernel
theorem dX11_minutes_34 : decode cX11_minutes 34 = .ok (.iload_n 2, 1) := by decide +kernel
theorem dX11_minutes_35 : decode cX11_minutes 35 = .ok (.iload_n 3, 1) := by decide +kernel
theorem dX11_minutes_36 : decode cX11_minutes 36 = .ok (.invokevirtual 177, 3) := by decide +kernel
theorem dX11_minutes_39 : decode cX11_minutes 39 = .ok (.ireturn, 1) := by decide +kernel
theorem wi_RX11_177 : Iv RX11 177 yX1_minutesOf cX1_minutesOf 4 (some .int) 3 := ⟨tbm 1077 (by decide +kernel) (by decide +kernel), wm_X1_minutesOf⟩
def mX11_minutes (t : Nat) (tw : Nat) (dr : Nat) (p1 : Int32) (p2 : Int32) (p3 : Int32) (σ : St_) : Option Int32 :=
 ((mX11_isThief t tw dr p1 σ).bind fun r1 =>
 (if r1 = true then
 ((mX11_isHouse t tw dr p2 σ).bind fun r2 =>
 (if r2 = true then
 (if p3 < (1 : Int32) then
 (some (-1 : Int32))
 else (if p3 ≤ (6 : Int32) then
 ((mX1_minutesOf tw p1 p2 p3 σ).bind fun r3 =>
 (some r3))
 else (some (-1 : Int32))))
 else (some (-1 : Int32))))
 else (some (-1 : Int32))))
set_option maxHeartbeats 4000000 in
theorem rX11_minutes (t : Nat) (tw : Nat) (dr : Nat) (p1 : Int32) (p2 : Int32) (p3 : Int32) (hT : LY11 sh P t tw dr) : Rj l D cA h0 ad yX11_minutes cX11_minutes 4 (some .int) false 4 0 0 (fun b => (some (.int b), sh, P, σ)) [.ref (h0 + t), .int p1, .int p2, .int p3] sh P σ (mX11_minutes t tw dr p1 p2 p3 σ) := by
  rw [mX11_minutes]
  refine Rj.of (by decide) (fun h => by cases h) (Nat.le_of_ble_eq_true rfl) ?_
  refine tj_lv0 (lv' := [(0, .ref (h0 + t)), (1, .int p1), (2, .int p2), (3, .int p3)]) rfl ?_
  refine tj_aload_n (q := 1) dX11_minutes_0 rfl (i := 0) rfl (pl := 0) rfl ?_
  refine tj_iload_n (q := 2) dX11_minutes_1 rfl (i := 1) rfl (pl := 1) rfl ?_
  refine tj_callZp (q := 5) (kj_V (As := [.int p1]) (rest := []) (t := t) wi_RX11_162 (hT).s rfl (rX11_isThief t tw dr p1 (hT)) rfl (Nat.le_of_ble_eq_true rfl) ⟨Nat.le_of_ble_eq_true rfl, Nat.le_of_ble_eq_true rfl⟩ (Nat.le_of_ble_eq_true rfl) dX11_minutes_2) rfl (fun r1 => ?_)
  refine tj_bz (tgt := 27) (q := 8) dX11_minutes_5 (by decide) rfl ?_ ?_
  · refine tj_aload_n (q := 9) dX11_minutes_8 rfl (i := 0) rfl (pl := 0) rfl ?_
    refine tj_iload_n (q := 10) dX11_minutes_9 rfl (i := 2) rfl (pl := 2) rfl ?_
    refine tj_callZp (q := 13) (kj_V (As := [.int p2]) (rest := []) (t := t) wi_RX11_174 (hT).s rfl (rX11_isHouse t tw dr p2 (hT)) rfl (Nat.le_of_ble_eq_true rfl) ⟨Nat.le_of_ble_eq_true rfl, Nat.le_of_ble_eq_true rfl⟩ (Nat.le_of_ble_eq_true rfl) dX11_minutes_10) rfl (fun r2 => ?_)
    refine tj_bz (tgt := 27) (q := 16) dX11_minutes_13 (by decide) rfl ?_ ?_
    · refine tj_iload_n (q := 17) dX11_minutes_16 rfl (i := 3) rfl (pl := 3) rfl ?_
      refine tj_iconst (q := 18) (v := 1) dX11_minutes_17 rfl (by decide) ?_
      refine tj_icmp_lt (tgt := 27) (q := 21) dX11_minutes_18 (by decide) rfl ?_ ?_
      · refine tj_iconst (q := 28) (v := (-1)) dX11_minutes_27 rfl (by decide) ?_
        exact tj_iret rfl rfl (Nat.le_of_ble_eq_true rfl) (Nat.le_of_ble_eq_true rfl) dX11_minutes_28
      · refine tj_iload_n (q := 22) dX11_minutes_21 rfl (i := 3) rfl (pl := 3) rfl ?_
        refine tj_bipush (q := 24) (v := 6) dX11_minutes_22 rfl (by decide) ?_
        refine tj_icmp_le (tgt := 29) (q := 27) dX11_minutes_24 (by decide) rfl ?_ ?_
        · refine tj_aload_n (q := 30) dX11_minutes_29 rfl (i := 0) rfl (pl := 0) rfl ?_
          refine tj_getR (q := 33) (hT).s (hT).p_town fok_11_2 wl_RX11_26 dX11_minutes_30 rfl ?_
          refine tj_iload_n (q := 34) dX11_minutes_33 rfl (i := 1) rfl (pl := 1) rfl ?_
          refine tj_iload_n (q := 35) dX11_minutes_34 rfl (i := 2) rfl (pl := 2) rfl ?_
          refine tj_iload_n (q := 36) dX11_minutes_35 rfl (i := 3) rfl (pl := 3) rfl ?_
          refine tj_callIp (q := 39) (kj_V (As := [.int p1, .int p2, .int p3]) (rest := []) (t := tw) wi_RX11_177 ((hT).o_town).s rfl (rX1_minutesOf tw p1 p2 p3 ((hT).o_town)) rfl (Nat.le_of_ble_eq_true rfl) ⟨Nat.le_of_ble_eq_true rfl, Nat.le_of_ble_eq_true rfl⟩ (Nat.le_of_ble_eq_true rfl) dX11_minutes_36) rfl (fun r3 => ?_)
          exact tj_iret rfl rfl (Nat.le_of_ble_eq_true rfl) (Nat.le_of_ble_eq_true rfl) dX11_minutes_39
        · refine tj_iconst (q := 28) (v := (-1)) dX11_minutes_27 rfl (by decide) ?_
          exact tj_iret rfl rfl (Nat.le_of_ble_eq_true rfl) (Nat.le_of_ble_eq_true rfl) dX11_minutes_28
    · refine tj_iconst (q := 28) (v := (-1)) dX11_minutes_27 rfl (by decide) ?_
      exact tj_iret rfl rfl (Nat.le_of_ble_eq_true rfl) (Nat.le_of_ble_eq_true rfl) dX11_minutes_28
  · refine tj_iconst (q := 28) (v := (-1)) dX11_minutes_27 rfl (by decide) ?_
    exact tj_iret rfl rfl (Nat.le_of_ble_eq_true rfl) (Nat.le_of_ble_eq_true rfl) dX11_minutes_28

theorem dX11_isPart_0 : decode cX11_isPart 0 = .ok (.iload_n 0, 1) := by decide +kernel
theorem dX11_isPart_1 : decode cX11_isPart 1 = .ok (.iload_n 1, 1) := by decide +kernel
theorem dX11_isPart_2 : decode cX11_isPart 2 = .ok (.iconst (-1), 1) := by decide +kernel
theorem dX11_isPart_3 : decode cX11_isPart 3 = .ok (.ixor, 1) := by decide +kernel
theorem dX11_isPart_4 : decode cX11_isPart 4 = .ok (.iand, 1) := by decide +kernel
theorem dX11_isPart_5 : decode cX11_isPart 5 = .ok (.ifCond .ne 15, 3) := by decide +kernel
theorem dX11_isPart_8 : decode cX11_isPart 8 = .ok (.iload_n 0, 1) := by decide +kernel
theorem dX11_isPart_9 : decode cX11_isPart 9 = .ok (.invokestatic 295, 3) := by decide +kernel
theorem dX11_isPart_12 : decode cX11_isPart 12 = .ok (.iconst 3, 1) := by decide +kernel
theorem dX11_isPart_13 : decode cX11_isPart 13 = .ok (.if_icmp .gt 7, 3) := by decide +kernel
theorem dX11_isPart_16 : decode cX11_isPart 16 = .ok (.iconst 1, 1) := by decide +kernel
theorem dX11_isPart_17 : decode cX11_isPart 17 = .ok (.goto 4, 3) := by decide +kernel
theorem dX11_isPart_20 : decode cX11_isPart 20 = .ok (.iconst 0, 1) := by decide +kernel
theorem dX11_isPart_21 : decode cX11_isPart 21 = .ok (.ireturn, 1) := by decide +kernel
theorem wi_RX11_295 : Is RX11 295 yJ6_bitCount_0f7a4 cJ6_bitCount_0f7a4 1 (some .int) 1 := ⟨tbm 1093 (by decide +kernel) (by decide +kernel), wm_J6_bitCount_0f7a4⟩
def mX11_isPart (p1 : Int32) (p2 : Int32) (σ : St_) : Option Bool :=
 (if (p1 &&& (p2 ^^^ (-1 : Int32))) = 0 then
 ((mJ6_bitCount_0f7a4 p1 σ).bind fun r1 =>
 (if (3 : Int32) < r1 then
 (some false)
 else (some true)))
 else (some false))
set_option maxHeartbeats 4000000 in
theorem rX11_isPart (p1 : Int32) (p2 : Int32)  : Rj l D cA h0 ad yX11_isPart cX11_isPart 2 (some .boolean) false 3 0 0 (fun b => (some (.int (b2i b)), sh, P, σ)) [.int p1, .int p2] sh P σ (mX11_isPart p1 p2 σ) := by
  rw [mX11_isPart]
  refine Rj.of (by decide) (fun h => by cases h) (Nat.le_of_ble_eq_true rfl) ?_
  refine tj_lv0 (lv' := [(0, .int p1), (1, .int p2)]) rfl ?_
  refine tj_iload_n (q := 1) dX11_isPart_0 rfl (i := 0) rfl (pl := 0) rfl ?_
  refine tj_iload_n (q := 2) dX11_isPart_1 rfl (i := 1) rfl (pl := 1) rfl ?_
  refine tj_iconst (q := 3) (v := (-1)) dX11_isPart_2 rfl (by decide) ?_
  refine tj_ixor (q := 4) dX11_isPart_3 rfl ?_
  refine tj_iand (q := 5) dX11_isPart_4 rfl ?_
  refine tj_if_ne (tgt := 20) (q := 8) dX11_isPart_5 (by decide) rfl ?_ ?_
  · refine tj_iload_n (q := 9) dX11_isPart_8 rfl (i := 0) rfl (pl := 0) rfl ?_
    refine tj_callIp (q := 12) (kj_S (As := [.int p1]) (rest := []) wi_RX11_295 (rJ6_bitCount_0f7a4 p1) rfl (Nat.le_of_ble_eq_true rfl) ⟨Nat.le_of_ble_eq_true rfl, Nat.le_of_ble_eq_true rfl⟩ (Nat.le_of_ble_eq_true rfl) dX11_isPart_9) rfl (fun r1 => ?_)
    refine tj_iconst (q := 13) (v := 3) dX11_isPart_12 rfl (by decide) ?_
    refine tj_icmp_gt (tgt := 20) (q := 16) dX11_isPart_13 (by decide) rfl ?_ ?_
    · refine tj_iconst (q := 21) (v := 0) dX11_isPart_20 rfl (by decide) ?_
      exact tj_zret rfl (by decide) rfl (Nat.le_of_ble_eq_true rfl) (Nat.le_of_ble_eq_true rfl) dX11_isPart_21
    · refine tj_iconst (q := 17) (v := 1) dX11_isPart_16 rfl (by decide) ?_
      refine tj_goto (q := 21) dX11_isPart_17 (by decide) ?_
      exact tj_zret rfl (by decide) rfl (Nat.le_of_ble_eq_true rfl) (Nat.le_of_ble_eq_true rfl) dX11_isPart_21
  · refine tj_iconst (q := 21) (v := 0) dX11_isPart_20 rfl (by decide) ?_
    exact tj_zret rfl (by decide) rfl (Nat.le_of_ble_eq_true rfl) (Nat.le_of_ble_eq_true rfl) dX11_isPart_21

theorem dX11_isTheft_0 : decode cX11_isTheft 0 = .ok (.aload_n 0, 1) := by decide +kernel
theorem dX11_isTheft_1 : decode cX11_isTheft 1 = .ok (.iload_n 1, 1) := by decide +kernel
theorem dX11_isTheft_2 : decode cX11_isTheft 2 = .ok (.invokevirtual 162, 3) := by decide +kernel
theorem dX11_isTheft_5 : decode cX11_isTheft 5 = .ok (.ifCond .eq 15, 3) := by decide +kernel
theorem dX11_isTheft_8 : decode cX11_isTheft 8 = .ok (.aload_n 0, 1) := by decide +kernel
theorem dX11_isTheft_9 : decode cX11_isTheft 9 = .ok (.iload_n 2, 1) := by decide +kernel
theorem dX11_isTheft_10 : decode cX11_isTheft 10 = .ok (.invokevirtual 174, 3) := by decide +kernel
theorem dX11_isTheft_13 : decode cX11_isTheft 13 = .ok (.ifCond .eq 7, 3) := by decide +kernel
theorem dX11_isTheft_16 : decode cX11_isTheft 16 = .ok (.iload_n 3, 1) := by decide +kernel
theorem dX11_isTheft_17 : decode cX11_isTheft 17 = .ok (.ifCond .ne 5, 3) := by decide +kernel
theorem dX11_isTheft_20 : decode cX11_isTheft 20 = .ok (.iconst 0, 1) := by decide +kernel
theorem dX11_isTheft_21 : decode cX11_isTheft 21 = .ok (.ireturn, 1) := by decide +kernel
theorem dX11_isTheft_22 : decode cX11_isTheft 22 = .ok (.iload_n 3, 1) := by decide +kernel
theorem dX11_isTheft_23 : decode cX11_isTheft 23 = .ok (.aload_n 0, 1) := by decide +kernel
theorem dX11_isTheft_24 : decode cX11_isTheft 24 = .ok (.getfield 36, 3) := by decide +kernel
theorem dX11_isTheft_27 : decode cX11_isTheft 27 = .ok (.getfield 156, 3) := by decide +kernel
theorem dX11_isTheft_30 : decode cX11_isTheft 30 = .ok (.iload_n 2, 1) := by decide +kernel
theorem dX11_isTheft_31 : decode cX11_isTheft 31 = .ok (.iaload, 1) := by decide +kernel
theorem dX11_isTheft_32 : decode cX11_isTheft 32 = .ok (.invokestatic 381, 3) := by decide +kernel
theorem dX11_isTheft_35 : decode cX11_isTheft 35 = .ok (.ifCond .eq 26, 3) := by decide +kernel
theorem dX11_isTheft_38 : decode cX11_isTheft 38 = .ok (.iload 4, 2) := by decide +kernel
theorem dX11_isTheft_40 : decode cX11_isTheft 40 = .ok (.aload_n 0, 1) := by decide +kernel
theorem dX11_isTheft_41 : decode cX11_isTheft 41 = .ok (.getfield 36, 3) := by decide +kernel
theorem dX11_isTheft_44 : decode cX11_isTheft 44 = .ok (.getfield 156, 3) := by decide +kernel
theorem dX11_isTheft_47 : decode cX11_isTheft 47 = .ok (.iconst 5, 1) := by decide +kernel
theorem dX11_isTheft_48 : decode cX11_isTheft 48 = .ok (.iload_n 1, 1) := by decide +kernel
theorem dX11_isTheft_49 : decode cX11_isTheft 49 = .ok (.iadd, 1) := by decide +kernel
theorem dX11_isTheft_50 : decode cX11_isTheft 50 = .ok (.iaload, 1) := by decide +kernel
theorem dX11_isTheft_51 : decode cX11_isTheft 51 = .ok (.invokestatic 381, 3) := by decide +kernel
theorem dX11_isTheft_54 : decode cX11_isTheft 54 = .ok (.ifCond .eq 7, 3) := by decide +kernel
theorem dX11_isTheft_57 : decode cX11_isTheft 57 = .ok (.iconst 1, 1) := by decide +kernel
theorem dX11_isTheft_58 : decode cX11_isTheft 58 = .ok (.goto 4, 3) := by decide +kernel
theorem dX11_isTheft_61 : decode cX11_isTheft 61 = .ok (.iconst 0, 1) := by decide +kernel
theorem dX11_isTheft_62 : decode cX11_isTheft 62 = .ok (.ireturn, 1) := by decide +kernel
theorem wm_X11_isPart : Cond.static yX11_isPart ∈ TB ∧ Cond.initialized yX11_isPart.cls ∈ TB ∧ Cond.code yX11_isPart cX11_isPart 2 (some .boolean) ∈ TB ∧ (yX11_isPart.cls ≠ "java/lang/invoke/MethodHandle" ∧ yX11_isPart.cls ≠ "java/lang/invoke/VarHandle" ∧ (parseMethodDescriptor yX11_isPart.desc).map (fun d => d.parameters.length) = some 2) ∧ 2 ≤ 21 := ⟨tbm 1091 (by decide +kernel) (by decide +kernel), tbm 134 (by decide +kernel) (by decide +kernel), tbm 1092 (by decide +kernel) (by decide +kernel), by decide +kernel, by decide⟩
theorem wi_RX11_381 : Is RX11 381 yX11_isPart cX11_isPart 2 (some .boolean) 2 := ⟨tbm 1090 (by decide +kernel) (by decide +kernel), wm_X11_isPart⟩
def mX11_isTheft (t : Nat) (tw : Nat) (dr : Nat) (p1 : Int32) (p2 : Int32) (p3 : Int32) (p4 : Int32) (σ : St_) : Option Bool :=
 ((mX11_isThief t tw dr p1 σ).bind fun r1 =>
 (if r1 = true then
 ((mX11_isHouse t tw dr p2 σ).bind fun r2 =>
 (if r2 = true then
 (if p3 = 0 then
 (some false)
 else (if bin p2 9 = true then bnd (σ.1 (t + 44 + 1) p2.toNatClampNeg) fun v3 =>
 ((mX11_isPart p3 v3 σ).bind fun r4 =>
 (if r4 = true then
 (bnd ((5 : Int32) + p1) fun v5 =>
 (if bin v5 9 = true then bnd (σ.1 (t + 44 + 1) v5.toNatClampNeg) fun v6 =>
 ((mX11_isPart p4 v6 σ).bind fun r7 =>
 (if r7 = true then
 (some true)
 else (some false)))
 else none))
 else (some false)))
 else none))
 else (some false)))
 else (some false)))
set_option maxHeartbeats 4000000 in
theorem rX11_isTheft (t : Nat) (tw : Nat) (dr : Nat) (p1 : Int32) (p2 : Int32) (p3 : Int32) (p4 : Int32) (hT : LY11 sh P t tw dr) : Rj l D cA h0 ad yX11_isTheft cX11_isTheft 5 (some .boolean) false 4 0 0 (fun b => (some (.int (b2i b)), sh, P, σ)) [.ref (h0 + t), .int p1, .int p2, .int p3, .int p4] sh P σ (mX11_isTheft t tw dr p1 p2 p3 p4 σ) := by
  rw [mX11_isTheft]
  refine Rj.of (by decide) (fun h => by cases h) (Nat.le_of_ble_eq_true rfl) ?_
  refine tj_lv0 (lv' := [(0, .ref (h0 + t)), (1, .int p1), (2, .int p2), (3, .int p3), (4, .int p4)]) rfl ?_
  refine tj_aload_n (q := 1) dX11_isTheft_0 rfl (i := 0) rfl (pl := 0) rfl ?_
  refine tj_iload_n (q := 2) dX11_isTheft_1 rfl (i := 1) rfl (pl := 1) rfl ?_
  refine tj_callZp (q := 5) (kj_V (As := [.int p1]) (rest := []) (t := t) wi_RX11_162 (hT).s rfl (rX11_isThief t tw dr p1 (hT)) rfl (Nat.le_of_ble_eq_true rfl) ⟨Nat.le_of_ble_eq_true rfl, Nat.le_of_ble_eq_true rfl⟩ (Nat.le_of_ble_eq_true rfl) dX11_isTheft_2) rfl (fun r1 => ?_)
  refine tj_bz (tgt := 20) (q := 8) dX11_isTheft_5 (by decide) rfl ?_ ?_
  · refine tj_aload_n (q := 9) dX11_isTheft_8 rfl (i := 0) rfl (pl := 0) rfl ?_
    refine tj_iload_n (q := 10) dX11_isTheft_9 rfl (i := 2) rfl (pl := 2) rfl ?_
    refine tj_callZp (q := 13) (kj_V (As := [.int p2]) (rest := []) (t := t) wi_RX11_174 (hT).s rfl (rX11_isHouse t tw dr p2 (hT)) rfl (Nat.le_of_ble_eq_true rfl) ⟨Nat.le_of_ble_eq_true rfl, Nat.le_of_ble_eq_true rfl⟩ (Nat.le_of_ble_eq_true rfl) dX11_isTheft_10) rfl (fun r2 => ?_)
    refine tj_bz (tgt := 20) (q := 16) dX11_isTheft_13 (by decide) rfl ?_ ?_
    · refine tj_iload_n (q := 17) dX11_isTheft_16 rfl (i := 3) rfl (pl := 3) rfl ?_
      refine tj_if_ne (tgt := 22) (q := 20) dX11_isTheft_17 (by decide) rfl ?_ ?_
      · refine tj_iconst (q := 21) (v := 0) dX11_isTheft_20 rfl (by decide) ?_
        exact tj_zret rfl (by decide) rfl (Nat.le_of_ble_eq_true rfl) (Nat.le_of_ble_eq_true rfl) dX11_isTheft_21
      · refine tj_iload_n (q := 23) dX11_isTheft_22 rfl (i := 3) rfl (pl := 3) rfl ?_
        refine tj_aload_n (q := 24) dX11_isTheft_23 rfl (i := 0) rfl (pl := 0) rfl ?_
        refine tj_getR (q := 27) (hT).s (hT).p_now fok_11_4 wl_RX11_36 dX11_isTheft_24 rfl ?_
        refine tj_getR (q := 30) ((hT).o_now).s ((hT).o_now).p_held fok_8_0 wl_RX11_156 dX11_isTheft_27 rfl ?_
        refine tj_iload_n (q := 31) dX11_isTheft_30 rfl (i := 2) rfl (pl := 2) rfl ?_
        refine tj_iaload (q := 32) ((hT).o_now).s_held dX11_isTheft_31 rfl ?_
        refine tj_topI (fun v3 => ?_)
        refine tj_callZp (q := 35) (kj_S (As := [.int p3, .int v3]) (rest := []) wi_RX11_381 (rX11_isPart p3 v3) rfl (Nat.le_of_ble_eq_true rfl) ⟨Nat.le_of_ble_eq_true rfl, Nat.le_of_ble_eq_true rfl⟩ (Nat.le_of_ble_eq_true rfl) dX11_isTheft_32) rfl (fun r4 => ?_)
        refine tj_bz (tgt := 61) (q := 38) dX11_isTheft_35 (by decide) rfl ?_ ?_
        · refine tj_iload (q := 40) dX11_isTheft_38 rfl (pl := 4) rfl ?_
          refine tj_aload_n (q := 41) dX11_isTheft_40 rfl (i := 0) rfl (pl := 0) rfl ?_
          refine tj_getR (q := 44) (hT).s (hT).p_now fok_11_4 wl_RX11_36 dX11_isTheft_41 rfl ?_
          refine tj_getR (q := 47) ((hT).o_now).s ((hT).o_now).p_held fok_8_0 wl_RX11_156 dX11_isTheft_44 rfl ?_
          refine tj_iconst (q := 48) (v := 5) dX11_isTheft_47 rfl (by decide) ?_
          refine tj_iload_n (q := 49) dX11_isTheft_48 rfl (i := 1) rfl (pl := 1) rfl ?_
          refine tj_iadd (q := 50) dX11_isTheft_49 rfl ?_
          refine tj_topI (fun v5 => ?_)
          refine tj_iaload (q := 51) ((hT).o_now).s_held dX11_isTheft_50 rfl ?_
          refine tj_topI (fun v6 => ?_)
          refine tj_callZp (q := 54) (kj_S (As := [.int p4, .int v6]) (rest := []) wi_RX11_381 (rX11_isPart p4 v6) rfl (Nat.le_of_ble_eq_true rfl) ⟨Nat.le_of_ble_eq_true rfl, Nat.le_of_ble_eq_true rfl⟩ (Nat.le_of_ble_eq_true rfl) dX11_isTheft_51) rfl (fun r7 => ?_)
          refine tj_bz (tgt := 61) (q := 57) dX11_isTheft_54 (by decide) rfl ?_ ?_
          · refine tj_iconst (q := 58) (v := 1) dX11_isTheft_57 rfl (by decide) ?_
            refine tj_goto (q := 62) dX11_isTheft_58 (by decide) ?_
            exact tj_zret rfl (by decide) rfl (Nat.le_of_ble_eq_true rfl) (Nat.le_of_ble_eq_true rfl) dX11_isTheft_62
          · refine tj_iconst (q := 62) (v := 0) dX11_isTheft_61 rfl (by decide) ?_
            exact tj_zret rfl (by decide) rfl (Nat.le_of_ble_eq_true rfl) (Nat.le_of_ble_eq_true rfl) dX11_isTheft_62
        · refine tj_iconst (q := 62) (v := 0) dX11_isTheft_61 rfl (by decide) ?_
          exact tj_zret rfl (by decide) rfl (Nat.le_of_ble_eq_true rfl) (Nat.le_of_ble_eq_true rfl) dX11_isTheft_62
    · refine tj_iconst (q := 21) (v := 0) dX11_isTheft_20 rfl (by decide) ?_
      exact tj_zret rfl (by decide) rfl (Nat.le_of_ble_eq_true rfl) (Nat.le_of_ble_eq_true rfl) dX11_isTheft_21
  · refine tj_iconst (q := 21) (v := 0) dX11_isTheft_20 rfl (by decide) ?_
    exact tj_zret rfl (by decide) rfl (Nat.le_of_ble_eq_true rfl) (Nat.le_of_ble_eq_true rfl) dX11_isTheft_21

theorem dX11_may_0 : decode cX11_may 0 = .ok (.aload_n 0, 1) := by decide +kernel
theorem dX11_may_1 : decode cX11_may 1 = .ok (.iload_n 1, 1) := by decide +kernel
theorem dX11_may_2 : decode cX11_may 2 = .ok (.iload_n 2, 1) := by decide +kernel
theorem dX11_may_3 : decode cX11_may 3 = .ok (.iload_n 3, 1) := by decide +kernel
theorem dX11_may_4 : decode cX11_may 4 = .ok (.iload 4, 2) := by decide +kernel
theorem dX11_may_6 : decode cX11_may 6 = .ok (.invokevirtual 181, 3) := by decide +kernel
theorem dX11_may_9 : decode cX11_may 9 = .ok (.ifCond .ne 5, 3) := by decide +kernel
theorem dX11_may_12 : decode cX11_may 12 = .ok (.iconst (-1), 1) := by decide +kernel
theorem dX11_may_13 : decode cX11_may 13 = .ok (.ireturn, 1) := by decide +kernel
theorem dX11_may_14 : decode cX11_may 14 = .ok (.iload 5, 2) := by decide +kernel
theorem dX11_may_16 : decode cX11_may 16 = .ok (.tableswitch 113 0 2 #[28, 53, 77], 28) := by decide +kernel
theorem dX11_may_44 : decode cX11_may 44 = .ok (.aload_n 0, 1) := by decide +kernel
theorem dX11_may_45 : decode cX11_may 45 = .ok (.getfield 26, 3) := by decide +kernel
theorem dX11_may_48 : decode cX11_may 48 = .ok (.aload_n 0, 1) := by decide +kernel
theorem dX11_may_49 : decode cX11_may 49 = .ok (.getfield 36, 3) := by decide +kernel
theorem dX11_may_52 : decode cX11_may 52 = .ok (.iload_n 1, 1) := by decide +kernel
theorem dX11_may_53 : decode cX11_may 53 = .ok (.iload_n 2, 1) := by decide +kernel
theorem dX11_may_54 : decode cX11_may 54 = .ok (.iload_n 3, 1) := by decide +kernel
theorem dX11_may_55 : decode cX11_may 55 = .ok (.iload 4, 2) := by decide +kernel
theorem dX11_may_57 : decode cX11_may 57 = .ok (.invokevirtual 185, 3) := by decide +kernel
theorem dX11_may_60 : decode cX11_may 60 = .ok (.ifCond .eq 7, 3) := by decide +kernel
theorem dX11_may_63 : decode cX11_may 63 = .ok (.iconst 1, 1) := by decide +kernel
theorem dX11_may_64 : decode cX11_may 64 = .ok (.goto 4, 3) := by decide +kernel
theorem dX11_may_67 : decode cX11_may 67 = .ok (.iconst 0, 1) := by decide +kernel
theorem dX11_may_68 : decode cX11_may 68 = .ok (.ireturn, 1) := by decide +kernel
theorem dX11_may_69 : decode cX11_may 69 = .ok (.aload_n 0, 1) := by decide +kernel
theorem dX11_may_70 : decode cX11_may 70 = .ok (.getfield 26, 3) := by decide +kernel
theorem dX11_may_73 : decode cX11_may 73 = .ok (.iload_n 2, 1) := by decide +kernel
theorem dX11_may_74 : decode cX11_may 74 = .ok (.aload_n 0, 1) := by decide +kernel
theorem dX11_may_75 : decode cX11_may 75 = .ok (.getfield 36, 3) := by decide +kernel
theorem dX11_may_78 : decode cX11_may 78 = .ok (.getfield 189, 3) := by decide +kernel
theorem dX11_may_81 : decode cX11_may 81 = .ok (.invokevirtual 192, 3) := by decide +kernel
theorem dX11_may_84 : decode cX11_may 84 = .ok (.ifCond .eq 7, 3) := by decide +kernel
theorem dX11_may_87 : decode cX11_may 87 = .ok (.iconst 1, 1) := by decide +kernel
theorem dX11_may_88 : decode cX11_may 88 = .ok (.goto 4, 3) := by decide +kernel
theorem dX11_may_91 : decode cX11_may 91 = .ok (.iconst 0, 1) := by decide +kernel
theorem dX11_may_92 : decode cX11_may 92 = .ok (.ireturn, 1) := by decide +kernel
theorem dX11_may_93 : decode cX11_may 93 = .ok (.aload_n 0, 1) := by decide +kernel
theorem dX11_may_94 : decode cX11_may 94 = .ok (.getfield 26, 3) := by decide +kernel
theorem dX11_may_97 : decode cX11_may 97 = .ok (.iload_n 2, 1) := by decide +kernel
theorem dX11_may_98 : decode cX11_may 98 = .ok (.iload_n 3, 1) := by decide +kernel
theorem dX11_may_99 : decode cX11_may 99 = .ok (.iload 4, 2) := by decide +kernel
theorem dX11_may_101 : decode cX11_may 101 = .ok (.aload_n 0, 1) := by decide +kernel
theorem dX11_may_102 : decode cX11_may 102 = .ok (.getfield 36, 3) := by decide +kernel
theorem dX11_may_105 : decode cX11_may 105 = .ok (.getfield 189, 3) := by decide +kernel
theorem dX11_may_108 : decode cX11_may 108 = .ok (.aload_n 0, 1) := by decide +kernel
theorem dX11_may_109 : decode cX11_may 109 = .ok (.getfield 26, 3) := by decide +kernel
theorem dX11_may_112 : decode cX11_may 112 = .ok (.getfield 196, 3) := by decide +kernel
theorem dX11_may_115 : decode cX11_may 115 = .ok (.iload_n 1, 1) := by decide +kernel
theorem dX11_may_116 : decode cX11_may 116 = .ok (.iaload, 1) := by decide +kernel
theorem dX11_may_117 : decode cX11_may 117 = .ok (.invokevirtual 199, 3) := by decide +kernel
theorem dX11_may_120 : decode cX11_may 120 = .ok (.ifCond .eq 7, 3) := by decide +kernel
theorem dX11_may_123 : decode cX11_may 123 = .ok (.iconst 1, 1) := by decide +kernel
theorem dX11_may_124 : decode cX11_may 124 = .ok (.goto 4, 3) := by decide +kernel
theorem dX11_may_127 : decode cX11_may 127 = .ok (.iconst 0, 1) := by decide +kernel
theorem dX11_may_128 : decode cX11_may 128 = .ok (.ireturn, 1) := by decide +kernel
theorem dX11_may_129 : decode cX11_may 129 = .ok (.iconst (-1), 1) := by decide +kernel
theorem dX11_may_130 : decode cX11_may 130 = .ok (.ireturn, 1) := by decide +kernel
theorem wm_X11_isTheft : Cond.instanceMethod yX11_isTheft ∈ TB ∧ Cond.selects yX11_isTheft.cls yX11_isTheft yX11_isTheft ∈ TB ∧ Cond.initialized yX11_isTheft.cls ∈ TB ∧ Cond.code yX11_isTheft cX11_isTheft 5 (some .boolean) ∈ TB ∧ (yX11_isTheft.cls ≠ "java/lang/invoke/MethodHandle" ∧ yX11_isTheft.cls ≠ "java/lang/invoke/VarHandle" ∧ (parseMethodDescriptor yX11_isTheft.desc).map (fun d => d.parameters.length) = some 4) ∧ 5 ≤ 21 := ⟨tbm 1088 (by decide +kernel) (by decide +kernel), tbm 35 (by decide +kernel) (by decide +kernel), tbm 134 (by decide +kernel) (by decide +kernel), tbm 1089 (by decide +kernel) (by decide +kernel), by decide +kernel, by decide⟩
theorem wi_RX11_181 : Iv RX11 181 yX11_isTheft cX11_isTheft 5 (some .boolean) 4 := ⟨tbm 1086 (by decide +kernel) (by decide +kernel), wm_X11_isTheft⟩
theorem wi_RX11_185 : Iv RX11 185 yX1_canBe cX1_canBe 8 (some .boolean) 5 := ⟨tbm 1099 (by decide +kernel) (by decide +kernel), wm_X1_canBe⟩
theorem wl_RX11_189 : Cond.fieldLink RX11 189 (TX8 3).1 (TX8 3).2.1 (TX8 3).2.2.1 ∈ TB := tbm 392 (by decide +kernel) (by decide +kernel)
theorem wi_RX11_192 : Iv RX11 192 yX1_isSeen cX1_isSeen 3 (some .boolean) 2 := ⟨tbm 1106 (by decide +kernel) (by decide +kernel), wm_X1_isSeen⟩
theorem wl_RX11_196 : Cond.fieldLink RX11 196 (TX1 11).1 (TX1 11).2.1 (TX1 11).2.2.1 ∈ TB := tbm 330 (by decide +kernel) (by decide +kernel)
theorem wi_RX11_199 : Iv RX11 199 yX1_isLawful cX1_isLawful 11 (some .boolean) 5 := ⟨tbm 1107 (by decide +kernel) (by decide +kernel), wm_X1_isLawful⟩
def mX11_may (t : Nat) (tw : Nat) (dr : Nat) (p1 : Int32) (p2 : Int32) (p3 : Int32) (p4 : Int32) (p5 : Int32) (σ : St_) : Option (Int32 × St_) :=
 ((mX11_isTheft t tw dr p1 p2 p3 p4 σ).bind fun r1 =>
 (if r1 = true then
 (if p5 = 0 then ((mX1_canBe tw (t + 44) p1 p2 p3 p4 σ).bind fun r3 =>
 (if r3 = true then
 (some ((1 : Int32), σ))
 else (some ((0 : Int32), σ))))
 else (if p5 = 1 then ((mX1_isSeen tw p2 (σ.1 (t + 44) 3) σ).bind fun r5 =>
 (if r5 = true then
 (some ((1 : Int32), σ))
 else (some ((0 : Int32), σ))))
 else (if p5 = 2 then (if bin p1 4 = true then bnd (σ.1 (tw + 7) p1.toNatClampNeg) fun v7 =>
 ((mX1_isLawful tw p2 p3 p4 (σ.1 (t + 44) 3) v7 σ).bind fun r8 =>
 (if r8.1 = true then
 (some ((1 : Int32), r8.2))
 else (some ((0 : Int32), r8.2))))
 else none)
 else (some ((-1 : Int32), σ)))))
 else (some ((-1 : Int32), σ))))
set_option maxHeartbeats 4000000 in
theorem rX11_may (t : Nat) (tw : Nat) (dr : Nat) (p1 : Int32) (p2 : Int32) (p3 : Int32) (p4 : Int32) (p5 : Int32) (hT : LY11 sh P t tw dr) : Rj l D cA h0 ad yX11_may cX11_may 6 (some .int) false 5 0 0 (fun b => (some (.int b.1), sh, P, b.2)) [.ref (h0 + t), .int p1, .int p2, .int p3, .int p4, .int p5] sh P σ (mX11_may t tw dr p1 p2 p3 p4 p5 σ) := by
  rw [mX11_may]
  refine Rj.of (by decide) (fun h => by cases h) (Nat.le_of_ble_eq_true rfl) ?_
  refine tj_lv0 (lv' := [(0, .ref (h0 + t)), (1, .int p1), (2, .int p2), (3, .int p3), (4, .int p4), (5, .int p5)]) rfl ?_
  refine tj_aload_n (q := 1) dX11_may_0 rfl (i := 0) rfl (pl := 0) rfl ?_
  refine tj_iload_n (q := 2) dX11_may_1 rfl (i := 1) rfl (pl := 1) rfl ?_
  refine tj_iload_n (q := 3) dX11_may_2 rfl (i := 2) rfl (pl := 2) rfl ?_
  refine tj_iload_n (q := 4) dX11_may_3 rfl (i := 3) rfl (pl := 3) rfl ?_
  refine tj_iload (q := 6) dX11_may_4 rfl (pl := 4) rfl ?_
  refine tj_callZp (q := 9) (kj_V (As := [.int p1, .int p2, .int p3, .int p4]) (rest := []) (t := t) wi_RX11_181 (hT).s rfl (rX11_isTheft t tw dr p1 p2 p3 p4 (hT)) rfl (Nat.le_of_ble_eq_true rfl) ⟨Nat.le_of_ble_eq_true rfl, Nat.le_of_ble_eq_true rfl⟩ (Nat.le_of_ble_eq_true rfl) dX11_may_6) rfl (fun r1 => ?_)
  refine tj_bnz (tgt := 14) (q := 12) dX11_may_9 (by decide) rfl ?_ ?_
  · refine tj_iload (q := 16) dX11_may_14 rfl (pl := 5) rfl ?_
    refine tj_caseI (fun hc2 => ?_) (fun hc2 => ?_)
    · refine tj_tin (tgt := 44) (k := 0) (off := 28) dX11_may_16 hc2 (by decide) (by decide) (by decide) (by decide) ?_
      refine tj_aload_n (q := 45) dX11_may_44 rfl (i := 0) rfl (pl := 0) rfl ?_
      refine tj_getR (q := 48) (hT).s (hT).p_town fok_11_2 wl_RX11_26 dX11_may_45 rfl ?_
      refine tj_aload_n (q := 49) dX11_may_48 rfl (i := 0) rfl (pl := 0) rfl ?_
      refine tj_getR (q := 52) (hT).s (hT).p_now fok_11_4 wl_RX11_36 dX11_may_49 rfl ?_
      refine tj_iload_n (q := 53) dX11_may_52 rfl (i := 1) rfl (pl := 1) rfl ?_
      refine tj_iload_n (q := 54) dX11_may_53 rfl (i := 2) rfl (pl := 2) rfl ?_
      refine tj_iload_n (q := 55) dX11_may_54 rfl (i := 3) rfl (pl := 3) rfl ?_
      refine tj_iload (q := 57) dX11_may_55 rfl (pl := 4) rfl ?_
      refine tj_callZp (q := 60) (kj_V (As := [.ref (h0 + (t + 44)), .int p1, .int p2, .int p3, .int p4]) (rest := []) (t := tw) wi_RX11_185 ((hT).o_town).s rfl (rX1_canBe tw (t + 44) p1 p2 p3 p4 ((hT).o_town) ((hT).o_now)) rfl (Nat.le_of_ble_eq_true rfl) ⟨Nat.le_of_ble_eq_true rfl, Nat.le_of_ble_eq_true rfl⟩ (Nat.le_of_ble_eq_true rfl) dX11_may_57) rfl (fun r3 => ?_)
      refine tj_bz (tgt := 67) (q := 63) dX11_may_60 (by decide) rfl ?_ ?_
      · refine tj_iconst (q := 64) (v := 1) dX11_may_63 rfl (by decide) ?_
        refine tj_goto (q := 68) dX11_may_64 (by decide) ?_
        exact tj_iret rfl rfl (Nat.le_of_ble_eq_true rfl) (Nat.le_of_ble_eq_true rfl) dX11_may_68
      · refine tj_iconst (q := 68) (v := 0) dX11_may_67 rfl (by decide) ?_
        exact tj_iret rfl rfl (Nat.le_of_ble_eq_true rfl) (Nat.le_of_ble_eq_true rfl) dX11_may_68
    · refine tj_caseI (fun hc4 => ?_) (fun hc4 => ?_)
      · refine tj_tin (tgt := 69) (k := 1) (off := 53) dX11_may_16 hc4 (by decide) (by decide) (by decide) (by decide) ?_
        refine tj_aload_n (q := 70) dX11_may_69 rfl (i := 0) rfl (pl := 0) rfl ?_
        refine tj_getR (q := 73) (hT).s (hT).p_town fok_11_2 wl_RX11_26 dX11_may_70 rfl ?_
        refine tj_iload_n (q := 74) dX11_may_73 rfl (i := 2) rfl (pl := 2) rfl ?_
        refine tj_aload_n (q := 75) dX11_may_74 rfl (i := 0) rfl (pl := 0) rfl ?_
        refine tj_getR (q := 78) (hT).s (hT).p_now fok_11_4 wl_RX11_36 dX11_may_75 rfl ?_
        refine tj_getI (q := 81) ((hT).o_now).s fok_8_3 wl_RX11_189 dX11_may_78 rfl ?_
        refine tj_callZp (q := 84) (kj_V (As := [.int p2, .int (σ.1 (t + 44) 3)]) (rest := []) (t := tw) wi_RX11_192 ((hT).o_town).s rfl (rX1_isSeen tw p2 (σ.1 (t + 44) 3) ((hT).o_town)) rfl (Nat.le_of_ble_eq_true rfl) ⟨Nat.le_of_ble_eq_true rfl, Nat.le_of_ble_eq_true rfl⟩ (Nat.le_of_ble_eq_true rfl) dX11_may_81) rfl (fun r5 => ?_)
        refine tj_bz (tgt := 91) (q := 87) dX11_may_84 (by decide) rfl ?_ ?_
        · refine tj_iconst (q := 88) (v := 1) dX11_may_87 rfl (by decide) ?_
          refine tj_goto (q := 92) dX11_may_88 (by decide) ?_
          exact tj_iret rfl rfl (Nat.le_of_ble_eq_true rfl) (Nat.le_of_ble_eq_true rfl) dX11_may_92
        · refine tj_iconst (q := 92) (v := 0) dX11_may_91 rfl (by decide) ?_
          exact tj_iret rfl rfl (Nat.le_of_ble_eq_true rfl) (Nat.le_of_ble_eq_true rfl) dX11_may_92
      · refine tj_caseI (fun hc6 => ?_) (fun hc6 => ?_)
        · refine tj_tin (tgt := 93) (k := 2) (off := 77) dX11_may_16 hc6 (by decide) (by decide) (by decide) (by decide) ?_
          refine tj_aload_n (q := 94) dX11_may_93 rfl (i := 0) rfl (pl := 0) rfl ?_
          refine tj_getR (q := 97) (hT).s (hT).p_town fok_11_2 wl_RX11_26 dX11_may_94 rfl ?_
          refine tj_iload_n (q := 98) dX11_may_97 rfl (i := 2) rfl (pl := 2) rfl ?_
          refine tj_iload_n (q := 99) dX11_may_98 rfl (i := 3) rfl (pl := 3) rfl ?_
          refine tj_iload (q := 101) dX11_may_99 rfl (pl := 4) rfl ?_
          refine tj_aload_n (q := 102) dX11_may_101 rfl (i := 0) rfl (pl := 0) rfl ?_
          refine tj_getR (q := 105) (hT).s (hT).p_now fok_11_4 wl_RX11_36 dX11_may_102 rfl ?_
          refine tj_getI (q := 108) ((hT).o_now).s fok_8_3 wl_RX11_189 dX11_may_105 rfl ?_
          refine tj_aload_n (q := 109) dX11_may_108 rfl (i := 0) rfl (pl := 0) rfl ?_
          refine tj_getR (q := 112) (hT).s (hT).p_town fok_11_2 wl_RX11_26 dX11_may_109 rfl ?_
          refine tj_getR (q := 115) ((hT).o_town).s ((hT).o_town).p_skill fok_1_11 wl_RX11_196 dX11_may_112 rfl ?_
          refine tj_iload_n (q := 116) dX11_may_115 rfl (i := 1) rfl (pl := 1) rfl ?_
          refine tj_iaload (q := 117) ((hT).o_town).s_skill dX11_may_116 rfl ?_
          refine tj_topI (fun v7 => ?_)
          refine tj_callZ (q := 120) (kj_V (As := [.int p2, .int p3, .int p4, .int (σ.1 (t + 44) 3), .int v7]) (rest := []) (t := tw) wi_RX11_199 ((hT).o_town).s rfl (rX1_isLawful tw p2 p3 p4 (σ.1 (t + 44) 3) v7 ((hT).o_town)) rfl (Nat.le_of_ble_eq_true rfl) ⟨Nat.le_of_ble_eq_true rfl, Nat.le_of_ble_eq_true rfl⟩ (Nat.le_of_ble_eq_true rfl) dX11_may_117) rfl (fun r8 => ?_)
          refine tj_bz (tgt := 127) (q := 123) dX11_may_120 (by decide) rfl ?_ ?_
          · refine tj_iconst (q := 124) (v := 1) dX11_may_123 rfl (by decide) ?_
            refine tj_goto (q := 128) dX11_may_124 (by decide) ?_
            exact tj_iret rfl rfl (Nat.le_of_ble_eq_true rfl) (Nat.le_of_ble_eq_true rfl) dX11_may_128
          · refine tj_iconst (q := 128) (v := 0) dX11_may_127 rfl (by decide) ?_
            exact tj_iret rfl rfl (Nat.le_of_ble_eq_true rfl) (Nat.le_of_ble_eq_true rfl) dX11_may_128
        · refine tj_dflt (tgt := 129) ?_ (fun hD9 => ?_)
          · refine tj_iconst (q := 130) (v := (-1)) dX11_may_129 rfl (by decide) ?_
            exact tj_iret rfl rfl (Nat.le_of_ble_eq_true rfl) (Nat.le_of_ble_eq_true rfl) dX11_may_130
          · exact tj_tout (tgt := 129) dX11_may_16 (by have e0 := lv_neT (a := 0) hc2 (by decide); have e1 := lv_neT (a := 1) hc4 (by decide); have e2 := lv_neT (a := 2) hc6 (by decide); omega) (by decide) hD9
  · refine tj_iconst (q := 13) (v := (-1)) dX11_may_12 rfl (by decide) ?_
    exact tj_iret rfl rfl (Nat.le_of_ble_eq_true rfl) (Nat.le_of_ble_eq_true rfl) dX11_may_13

theorem dX11_theft_0 : decode cX11_theft 0 = .ok (.aload_n 0, 1) := by decide +kernel
theorem dX11_theft_1 : decode cX11_theft 1 = .ok (.getfield 36, 3) := by decide +kernel
theorem dX11_theft_4 : decode cX11_theft 4 = .ok (.getfield 203, 3) := by decide +kernel
theorem dX11_theft_7 : decode cX11_theft 7 = .ok (.sipush 200, 3) := by decide +kernel
theorem dX11_theft_10 : decode cX11_theft 10 = .ok (.if_icmp .ge 34, 3) := by decide +kernel
theorem dX11_theft_13 : decode cX11_theft 13 = .ok (.aload_n 0, 1) := by decide +kernel
theorem dX11_theft_14 : decode cX11_theft 14 = .ok (.iload_n 1, 1) := by decide +kernel
theorem dX11_theft_15 : decode cX11_theft 15 = .ok (.iload_n 2, 1) := by decide +kernel
theorem dX11_theft_16 : decode cX11_theft 16 = .ok (.iload_n 3, 1) := by decide +kernel
theorem dX11_theft_17 : decode cX11_theft 17 = .ok (.iload 4, 2) := by decide +kernel
theorem dX11_theft_19 : decode cX11_theft 19 = .ok (.invokevirtual 181, 3) := by decide +kernel
theorem dX11_theft_22 : decode cX11_theft 22 = .ok (.ifCond .eq 22, 3) := by decide +kernel
theorem dX11_theft_25 : decode cX11_theft 25 = .ok (.aload_n 0, 1) := by decide +kernel
theorem dX11_theft_26 : decode cX11_theft 26 = .ok (.getfield 26, 3) := by decide +kernel
theorem dX11_theft_29 : decode cX11_theft 29 = .ok (.aload_n 0, 1) := by decide +kernel
theorem dX11_theft_30 : decode cX11_theft 30 = .ok (.getfield 36, 3) := by decide +kernel
theorem dX11_theft_33 : decode cX11_theft 33 = .ok (.iload_n 1, 1) := by decide +kernel
theorem dX11_theft_34 : decode cX11_theft 34 = .ok (.iload_n 2, 1) := by decide +kernel
theorem dX11_theft_35 : decode cX11_theft 35 = .ok (.iload_n 3, 1) := by decide +kernel
theorem dX11_theft_36 : decode cX11_theft 36 = .ok (.iload 4, 2) := by decide +kernel
theorem dX11_theft_38 : decode cX11_theft 38 = .ok (.invokevirtual 185, 3) := by decide +kernel
theorem dX11_theft_41 : decode cX11_theft 41 = .ok (.ifCond .ne 5, 3) := by decide +kernel
theorem dX11_theft_44 : decode cX11_theft 44 = .ok (.iconst (-1), 1) := by decide +kernel
theorem dX11_theft_45 : decode cX11_theft 45 = .ok (.ireturn, 1) := by decide +kernel
theorem dX11_theft_46 : decode cX11_theft 46 = .ok (.iconst 2, 1) := by decide +kernel
theorem dX11_theft_47 : decode cX11_theft 47 = .ok (.istore 5, 2) := by decide +kernel
theorem dX11_theft_49 : decode cX11_theft 49 = .ok (.aload_n 0, 1) := by decide +kernel
theorem dX11_theft_50 : decode cX11_theft 50 = .ok (.getfield 26, 3) := by decide +kernel
theorem dX11_theft_53 : decode cX11_theft 53 = .ok (.iload_n 2, 1) := by decide +kernel
theorem dX11_theft_54 : decode cX11_theft 54 = .ok (.aload_n 0, 1) := by decide +kernel
theorem dX11_theft_55 : decode cX11_theft 55 = .ok (.getfield 36, 3) := by decide +kernel
theorem dX11_theft_58 : decode cX11_theft 58 = .ok (.getfield 189, 3) := by decide +kernel
theorem dX11_theft_61 : decode cX11_theft 61 = .ok (.invokevirtual 192, 3) := by decide +kernel
theorem dX11_theft_64 : decode cX11_theft 64 = .ok (.ifCond .eq 21, 3) := by decide +kernel
theorem dX11_theft_67 : decode cX11_theft 67 = .ok (.aload_n 0, 1) := by decide +kernel
theorem dX11_theft_68 : decode cX11_theft 68 = .ok (.getfield 36, 3) := by decide +kernel
theorem dX11_theft_71 : decode cX11_theft 71 = .ok (.dup, 1) := by decide +kernel
theorem dX11_theft_72 : decode cX11_theft 72 = .ok (.getfield 165, 3) := by decide +kernel
theorem dX11_theft_75 : decode cX11_theft 75 = .ok (.iconst 1, 1) := by decide +kernel
theorem dX11_theft_76 : decode cX11_theft 76 = .ok (.iload_n 1, 1) := by decide +kernel
theorem dX11_theft_77 : decode cX11_theft 77 = .ok (.ishl, 1) := by decide +kernel
theorem dX11_theft_78 : decode cX11_theft 78 = .ok (.ior, 1) := by decide +kernel
theorem dX11_theft_79 : decode cX11_theft 79 = .ok (.putfield 165, 3) := by decide +kernel
theorem dX11_theft_82 : decode cX11_theft 82 = .ok (.goto 68, 3) := by decide +kernel
theorem dX11_theft_85 : decode cX11_theft 85 = .ok (.aload_n 0, 1) := by decide +kernel
theorem dX11_theft_86 : decode cX11_theft 86 = .ok (.getfield 26, 3) := by decide +kernel
theorem dX11_theft_89 : decode cX11_theft 89 = .ok (.iload_n 2, 1) := by decide +kernel
theorem dX11_theft_90 : decode cX11_theft 90 = .ok (.iload_n 3, 1) := by decide +kernel
theorem dX11_theft_91 : decode cX11_theft 91 = .ok (.iload 4, 2) := by decide +kernel
theorem dX11_theft_93 : decode cX11_theft 93 = .ok (.aload_n 0, 1) := by decide +kernel
theorem dX11_theft_94 : decode cX11_theft 94 = .ok (.getfield 36, 3) := by decide +kernel
theorem dX11_theft_97 : decode cX11_theft 97 = .ok (.getfield 189, 3) := by decide +kernel
theorem dX11_theft_100 : decode cX11_theft 100 = .ok (.aload_n 0, 1) := by decide +kernel
theorem dX11_theft_101 : decode cX11_theft 101 = .ok (.getfield 26, 3) := by decide +kernel
theorem dX11_theft_104 : decode cX11_theft 104 = .ok (.getfield 196, 3) := by decide +kernel
theorem dX11_theft_107 : decode cX11_theft 107 = .ok (.iload_n 1, 1) := by decide +kernel
theorem dX11_theft_108 : decode cX11_theft 108 = .ok (.iaload, 1) := by decide +kernel
theorem dX11_theft_109 : decode cX11_theft 109 = .ok (.invokevirtual 199, 3) := by decide +kernel
theorem dX11_theft_112 : decode cX11_theft 112 = .ok (.ifCond .eq 7, 3) := by decide +kernel
theorem dX11_theft_115 : decode cX11_theft 115 = .ok (.iconst 1, 1) := by decide +kernel
theorem dX11_theft_116 : decode cX11_theft 116 = .ok (.goto 4, 3) := by decide +kernel
theorem dX11_theft_119 : decode cX11_theft 119 = .ok (.iconst 0, 1) := by decide +kernel
theorem dX11_theft_120 : decode cX11_theft 120 = .ok (.istore 5, 2) := by decide +kernel
theorem dX11_theft_122 : decode cX11_theft 122 = .ok (.aload_n 0, 1) := by decide +kernel
theorem dX11_theft_123 : decode cX11_theft 123 = .ok (.getfield 36, 3) := by decide +kernel
theorem dX11_theft_126 : decode cX11_theft 126 = .ok (.iload_n 1, 1) := by decide +kernel
theorem dX11_theft_127 : decode cX11_theft 127 = .ok (.iload_n 2, 1) := by decide +kernel
theorem dX11_theft_128 : decode cX11_theft 128 = .ok (.iload_n 3, 1) := by decide +kernel
theorem dX11_theft_129 : decode cX11_theft 129 = .ok (.iload 4, 2) := by decide +kernel
theorem dX11_theft_131 : decode cX11_theft 131 = .ok (.invokevirtual 206, 3) := by decide +kernel
theorem dX11_theft_134 : decode cX11_theft 134 = .ok (.aload_n 0, 1) := by decide +kernel
theorem dX11_theft_135 : decode cX11_theft 135 = .ok (.getfield 36, 3) := by decide +kernel
theorem dX11_theft_138 : decode cX11_theft 138 = .ok (.getfield 168, 3) := by decide +kernel
theorem dX11_theft_141 : decode cX11_theft 141 = .ok (.iload_n 1, 1) := by decide +kernel
theorem dX11_theft_142 : decode cX11_theft 142 = .ok (.dup2, 1) := by decide +kernel
theorem dX11_theft_143 : decode cX11_theft 143 = .ok (.iaload, 1) := by decide +kernel
theorem dX11_theft_144 : decode cX11_theft 144 = .ok (.iconst 1, 1) := by decide +kernel
theorem dX11_theft_145 : decode cX11_theft 145 = .ok (.iload 5, 2) := by decide +kernel
theorem dX11_theft_147 : decode cX11_theft 147 = .ok (.isub, 1) := by decide +kernel
theorem dX11_theft_148 : decode cX11_theft 148 = .ok (.iadd, 1) := by decide +kernel
theorem dX11_theft_149 : decode cX11_theft 149 = .ok (.iastore, 1) := by decide +kernel
theorem dX11_theft_150 : decode cX11_theft 150 = .ok (.aload_n 0, 1) := by decide +kernel
theorem dX11_theft_151 : decode cX11_theft 151 = .ok (.getfield 36, 3) := by decide +kernel
theorem dX11_theft_154 : decode cX11_theft 154 = .ok (.aload_n 0, 1) := by decide +kernel
theorem dX11_theft_155 : decode cX11_theft 155 = .ok (.getfield 26, 3) := by decide +kernel
theorem dX11_theft_158 : decode cX11_theft 158 = .ok (.getfield 210, 3) := by decide +kernel
theorem dX11_theft_161 : decode cX11_theft 161 = .ok (.invokevirtual 213, 3) := by decide +kernel
theorem dX11_theft_164 : decode cX11_theft 164 = .ok (.aload_n 0, 1) := by decide +kernel
theorem dX11_theft_165 : decode cX11_theft 165 = .ok (.getfield 43, 3) := by decide +kernel
theorem dX11_theft_168 : decode cX11_theft 168 = .ok (.aload_n 0, 1) := by decide +kernel
theorem dX11_theft_169 : decode cX11_theft 169 = .ok (.getfield 36, 3) := by decide +kernel
theorem dX11_theft_172 : decode cX11_theft 172 = .ok (.invokevirtual 216, 3) := by decide +kernel
theorem dX11_theft_175 : decode cX11_theft 175 = .ok (.iload 5, 2) := by decide +kernel
theorem dX11_theft_177 : decode cX11_theft 177 = .ok (.ireturn, 1) := by decide +kernel
theorem wl_RX11_203 : Cond.fieldLink RX11 203 (TX8 2).1 (TX8 2).2.1 (TX8 2).2.2.1 ∈ TB := tbm 388 (by decide +kernel) (by decide +kernel)
theorem wi_RX11_206 : Iv RX11 206 yX8_exchange cX8_exchange 5 none 4 := ⟨tbm 1122 (by decide +kernel) (by decide +kernel), wm_X8_exchange⟩
theorem wl_RX11_210 : Cond.fieldLink RX11 210 (TX1 0).1 (TX1 0).2.1 (TX1 0).2.2.1 ∈ TB := tbm 292 (by decide +kernel) (by decide +kernel)
theorem wi_RX11_213 : Iv RX11 213 yX8_passHour cX8_passHour 2 none 1 := ⟨tbm 1126 (by decide +kernel) (by decide +kernel), wm_X8_passHour⟩
theorem wl_RX11_43 : Cond.fieldLink RX11 43 (TX11 5).1 (TX11 5).2.1 (TX11 5).2.2.1 ∈ TB := tbm 618 (by decide +kernel) (by decide +kernel)
theorem wm_X0_add : Cond.instanceMethod yX0_add ∈ TB ∧ Cond.selects yX0_add.cls yX0_add yX0_add ∈ TB ∧ Cond.initialized yX0_add.cls ∈ TB ∧ Cond.code yX0_add cX0_add 2 none ∈ TB ∧ (yX0_add.cls ≠ "java/lang/invoke/MethodHandle" ∧ yX0_add.cls ≠ "java/lang/invoke/VarHandle" ∧ (parseMethodDescriptor yX0_add.desc).map (fun d => d.parameters.length) = some 1) ∧ 2 ≤ 21 := ⟨tbm 1131 (by decide +kernel) (by decide +kernel), tbm 1132 (by decide +kernel) (by decide +kernel), tbm 141 (by decide +kernel) (by decide +kernel), tbm 1133 (by decide +kernel) (by decide +kernel), by decide +kernel, by decide⟩
theorem wi_RX11_216 : Iv RX11 216 yX0_add cX0_add 2 none 1 := ⟨tbm 1130 (by decide +kernel) (by decide +kernel), wm_X0_add⟩
def mX11_theft (t : Nat) (tw : Nat) (dr : Nat) (p1 : Int32) (p2 : Int32) (p3 : Int32) (p4 : Int32) (σ : St_) : Option (Int32 × St_) :=
 (if (200 : Int32) ≤ (σ.1 (t + 44) 2) then
 (some ((-1 : Int32), σ))
 else ((mX11_isTheft t tw dr p1 p2 p3 p4 σ).bind fun r1 =>
 (if r1 = true then
 ((mX1_canBe tw (t + 44) p1 p2 p3 p4 σ).bind fun r2 =>
 (if r2 = true then
 ((mX1_isSeen tw p2 (σ.1 (t + 44) 3) σ).bind fun r3 =>
 (bnd (fun (j4 : Int32) (σ5 : St_) => ((mX8_passHour (t + 44) (σ5.1 tw 0) σ5).bind fun σ8 =>
 ((mX0_add (t + 47) (t + 44) σ8).bind fun σ9 =>
 (some (j4, σ9))))) fun k6 =>
 (if r3 = true then
 (bnd (sI σ (t + 44) 4 ((σ.1 (t + 44) 4) ||| ((1 : Int32) <<< (p1 &&& 31)))) fun σ10 =>
 (k6 (2 : Int32) σ10))
 else (if bin p1 4 = true then bnd (σ.1 (tw + 7) p1.toNatClampNeg) fun v11 =>
 ((mX1_isLawful tw p2 p3 p4 (σ.1 (t + 44) 3) v11 σ).bind fun r12 =>
 (bnd (fun (j13 : Bool) => ((mX8_exchange (t + 44) p1 p2 p3 p4 r12.2).bind fun σ16 =>
 (if bin p1 4 = true then bnd (σ16.1 (t + 44 + 2) p1.toNatClampNeg) fun v17 =>
 (if bin p1 4 = true then bnd (sI σ16 (t + 44 + 2) p1.toNatClampNeg (v17 + ((1 : Int32) - (b2i j13)))) fun σ18 =>
 (k6 (b2i j13) σ18)
 else none)
 else none))) fun k14 =>
 (if r12.1 = true then
 (k14 true)
 else (k14 false))))
 else none))))
 else (some ((-1 : Int32), σ))))
 else (some ((-1 : Int32), σ)))))
set_option maxHeartbeats 4000000 in
theorem rX11_theft (t : Nat) (tw : Nat) (dr : Nat) (p1 : Int32) (p2 : Int32) (p3 : Int32) (p4 : Int32) (hT : LY11 sh P t tw dr) : Rj l D cA h0 ad yX11_theft cX11_theft 6 (some .int) false 5 0 0 (fun b => (some (.int b.1), sh, P, b.2)) [.ref (h0 + t), .int p1, .int p2, .int p3, .int p4] sh P σ (mX11_theft t tw dr p1 p2 p3 p4 σ) := by
  rw [mX11_theft]
  refine Rj.of (by decide) (fun h => by cases h) (Nat.le_of_ble_eq_true rfl) ?_
  refine tj_lv0 (lv' := [(0, .ref (h0 + t)), (1, .int p1), (2, .int p2), (3, .int p3), (4, .int p4)]) rfl ?_
  refine tj_aload_n (q := 1) dX11_theft_0 rfl (i := 0) rfl (pl := 0) rfl ?_
  refine tj_getR (q := 4) (hT).s (hT).p_now fok_11_4 wl_RX11_36 dX11_theft_1 rfl ?_
  refine tj_getI (q := 7) ((hT).o_now).s fok_8_2 wl_RX11_203 dX11_theft_4 rfl ?_
  refine tj_sipush (q := 10) (v := 200) dX11_theft_7 rfl (by decide) ?_
  refine tj_icmp_ge (tgt := 44) (q := 13) dX11_theft_10 (by decide) rfl ?_ ?_
  · refine tj_iconst (q := 45) (v := (-1)) dX11_theft_44 rfl (by decide) ?_
    exact tj_iret rfl rfl (Nat.le_of_ble_eq_true rfl) (Nat.le_of_ble_eq_true rfl) dX11_theft_45
  · refine tj_aload_n (q := 14) dX11_theft_13 rfl (i := 0) rfl (pl := 0) rfl ?_
    refine tj_iload_n (q := 15) dX11_theft_14 rfl (i := 1) rfl (pl := 1) rfl ?_
    refine tj_iload_n (q := 16) dX11_theft_15 rfl (i := 2) rfl (pl := 2) rfl ?_
    refine tj_iload_n (q := 17) dX11_theft_16 rfl (i := 3) rfl (pl := 3) rfl ?_
    refine tj_iload (q := 19) dX11_theft_17 rfl (pl := 4) rfl ?_
    refine tj_callZp (q := 22) (kj_V (As := [.int p1, .int p2, .int p3, .int p4]) (rest := []) (t := t) wi_RX11_181 (hT).s rfl (rX11_isTheft t tw dr p1 p2 p3 p4 (hT)) rfl (Nat.le_of_ble_eq_true rfl) ⟨Nat.le_of_ble_eq_true rfl, Nat.le_of_ble_eq_true rfl⟩ (Nat.le_of_ble_eq_true rfl) dX11_theft_19) rfl (fun r1 => ?_)
    refine tj_bz (tgt := 44) (q := 25) dX11_theft_22 (by decide) rfl ?_ ?_
    · refine tj_aload_n (q := 26) dX11_theft_25 rfl (i := 0) rfl (pl := 0) rfl ?_
      refine tj_getR (q := 29) (hT).s (hT).p_town fok_11_2 wl_RX11_26 dX11_theft_26 rfl ?_
      refine tj_aload_n (q := 30) dX11_theft_29 rfl (i := 0) rfl (pl := 0) rfl ?_
      refine tj_getR (q := 33) (hT).s (hT).p_now fok_11_4 wl_RX11_36 dX11_theft_30 rfl ?_
      refine tj_iload_n (q := 34) dX11_theft_33 rfl (i := 1) rfl (pl := 1) rfl ?_
      refine tj_iload_n (q := 35) dX11_theft_34 rfl (i := 2) rfl (pl := 2) rfl ?_
      refine tj_iload_n (q := 36) dX11_theft_35 rfl (i := 3) rfl (pl := 3) rfl ?_
      refine tj_iload (q := 38) dX11_theft_36 rfl (pl := 4) rfl ?_
      refine tj_callZp (q := 41) (kj_V (As := [.ref (h0 + (t + 44)), .int p1, .int p2, .int p3, .int p4]) (rest := []) (t := tw) wi_RX11_185 ((hT).o_town).s rfl (rX1_canBe tw (t + 44) p1 p2 p3 p4 ((hT).o_town) ((hT).o_now)) rfl (Nat.le_of_ble_eq_true rfl) ⟨Nat.le_of_ble_eq_true rfl, Nat.le_of_ble_eq_true rfl⟩ (Nat.le_of_ble_eq_true rfl) dX11_theft_38) rfl (fun r2 => ?_)
      refine tj_bnz (tgt := 46) (q := 44) dX11_theft_41 (by decide) rfl ?_ ?_
      · refine tj_iconst (q := 47) (v := 2) dX11_theft_46 rfl (by decide) ?_
        refine tj_istore (q := 49) dX11_theft_47 rfl (by decide) rfl ?_
        refine tj_aload_n (q := 50) dX11_theft_49 rfl (i := 0) rfl (pl := 1) rfl ?_
        refine tj_getR (q := 53) (hT).s (hT).p_town fok_11_2 wl_RX11_26 dX11_theft_50 rfl ?_
        refine tj_iload_n (q := 54) dX11_theft_53 rfl (i := 2) rfl (pl := 3) rfl ?_
        refine tj_aload_n (q := 55) dX11_theft_54 rfl (i := 0) rfl (pl := 1) rfl ?_
        refine tj_getR (q := 58) (hT).s (hT).p_now fok_11_4 wl_RX11_36 dX11_theft_55 rfl ?_
        refine tj_getI (q := 61) ((hT).o_now).s fok_8_3 wl_RX11_189 dX11_theft_58 rfl ?_
        refine tj_callZp (q := 64) (kj_V (As := [.int p2, .int (σ.1 (t + 44) 3)]) (rest := []) (t := tw) wi_RX11_192 ((hT).o_town).s rfl (rX1_isSeen tw p2 (σ.1 (t + 44) 3) ((hT).o_town)) rfl (Nat.le_of_ble_eq_true rfl) ⟨Nat.le_of_ble_eq_true rfl, Nat.le_of_ble_eq_true rfl⟩ (Nat.le_of_ble_eq_true rfl) dX11_theft_61) rfl (fun r3 => ?_)
        refine tj_bnd (fun k6 => ∀ (j4 : Int32) (σ5 : St_), Tj l D cA h0 ad RX11 cX11_theft 6 (some .int) false 5 0 0 (fun b => (some (.int b.1), sh, P, b.2)) 0 0 sh P σ5 150 [(0, .ref (h0 + t)), (5, .int j4)] [] (k6 j4 σ5)) ?_ (fun k6 hk7 => ?_)
        · intro j4 σ5
          refine tj_aload_n (q := 151) dX11_theft_150 rfl (i := 0) rfl (pl := 0) rfl ?_
          refine tj_getR (q := 154) (hT).s (hT).p_now fok_11_4 wl_RX11_36 dX11_theft_151 rfl ?_
          refine tj_aload_n (q := 155) dX11_theft_154 rfl (i := 0) rfl (pl := 0) rfl ?_
          refine tj_getR (q := 158) (hT).s (hT).p_town fok_11_2 wl_RX11_26 dX11_theft_155 rfl ?_
          refine tj_getI (q := 161) ((hT).o_town).s fok_1_0 wl_RX11_210 dX11_theft_158 rfl ?_
          refine tj_callV (q := 164) (kj_V (As := [.int (σ5.1 tw 0)]) (rest := []) (t := (t + 44)) wi_RX11_213 ((hT).o_now).s rfl (rX8_passHour (t + 44) (σ5.1 tw 0) ((hT).o_now)) rfl (Nat.le_of_ble_eq_true rfl) ⟨Nat.le_of_ble_eq_true rfl, Nat.le_of_ble_eq_true rfl⟩ (Nat.le_of_ble_eq_true rfl) dX11_theft_161) rfl (fun σ8 => ?_)
          refine tj_aload_n (q := 165) dX11_theft_164 rfl (i := 0) rfl (pl := 0) rfl ?_
          refine tj_getR (q := 168) (hT).s (hT).p_acts fok_11_5 wl_RX11_43 dX11_theft_165 rfl ?_
          refine tj_aload_n (q := 169) dX11_theft_168 rfl (i := 0) rfl (pl := 0) rfl ?_
          refine tj_getR (q := 172) (hT).s (hT).p_now fok_11_4 wl_RX11_36 dX11_theft_169 rfl ?_
          refine tj_callV (q := 175) (kj_V (As := [.ref (h0 + (t + 44))]) (rest := []) (t := (t + 47)) wi_RX11_216 ((hT).o_acts).s rfl (rX0_add (t + 47) (t + 44) ((hT).o_acts) ((hT).o_now)) rfl (Nat.le_of_ble_eq_true rfl) ⟨Nat.le_of_ble_eq_true rfl, Nat.le_of_ble_eq_true rfl⟩ (Nat.le_of_ble_eq_true rfl) dX11_theft_172) rfl (fun σ9 => ?_)
          refine tj_iload (q := 177) dX11_theft_175 rfl (pl := 1) rfl ?_
          exact tj_iret rfl rfl (Nat.le_of_ble_eq_true rfl) (Nat.le_of_ble_eq_true rfl) dX11_theft_177
        · refine tj_bz (tgt := 85) (q := 67) dX11_theft_64 (by decide) rfl ?_ ?_
          · refine tj_aload_n (q := 68) dX11_theft_67 rfl (i := 0) rfl (pl := 1) rfl ?_
            refine tj_getR (q := 71) (hT).s (hT).p_now fok_11_4 wl_RX11_36 dX11_theft_68 rfl ?_
            refine tj_dup (q := 72) dX11_theft_71 rfl rfl ?_
            refine tj_getI (q := 75) ((hT).o_now).s fok_8_4 wl_RX11_165 dX11_theft_72 rfl ?_
            refine tj_iconst (q := 76) (v := 1) dX11_theft_75 rfl (by decide) ?_
            refine tj_iload_n (q := 77) dX11_theft_76 rfl (i := 1) rfl (pl := 2) rfl ?_
            refine tj_ishl (q := 78) dX11_theft_77 rfl ?_
            refine tj_ior (q := 79) dX11_theft_78 rfl ?_
            refine tj_putI (q := 82) ((hT).o_now).s fok_8_4 tok_8 fpk_8_4 wl_RX11_165 dX11_theft_79 rfl (fun σ10 => ?_)
            refine tj_goto (q := 150) dX11_theft_82 (by decide) ?_
            refine tj_lv [1, 0] rfl ?_
            exact hk7 (2 : Int32) σ10
          · refine tj_aload_n (q := 86) dX11_theft_85 rfl (i := 0) rfl (pl := 1) rfl ?_
            refine tj_getR (q := 89) (hT).s (hT).p_town fok_11_2 wl_RX11_26 dX11_theft_86 rfl ?_
            refine tj_iload_n (q := 90) dX11_theft_89 rfl (i := 2) rfl (pl := 3) rfl ?_
            refine tj_iload_n (q := 91) dX11_theft_90 rfl (i := 3) rfl (pl := 4) rfl ?_
            refine tj_iload (q := 93) dX11_theft_91 rfl (pl := 5) rfl ?_
            refine tj_aload_n (q := 94) dX11_theft_93 rfl (i := 0) rfl (pl := 1) rfl ?_
            refine tj_getR (q := 97) (hT).s (hT).p_now fok_11_4 wl_RX11_36 dX11_theft_94 rfl ?_
            refine tj_getI (q := 100) ((hT).o_now).s fok_8_3 wl_RX11_189 dX11_theft_97 rfl ?_
            refine tj_aload_n (q := 101) dX11_theft_100 rfl (i := 0) rfl (pl := 1) rfl ?_
            refine tj_getR (q := 104) (hT).s (hT).p_town fok_11_2 wl_RX11_26 dX11_theft_101 rfl ?_
            refine tj_getR (q := 107) ((hT).o_town).s ((hT).o_town).p_skill fok_1_11 wl_RX11_196 dX11_theft_104 rfl ?_
            refine tj_iload_n (q := 108) dX11_theft_107 rfl (i := 1) rfl (pl := 2) rfl ?_
            refine tj_iaload (q := 109) ((hT).o_town).s_skill dX11_theft_108 rfl ?_
            refine tj_topI (fun v11 => ?_)
            refine tj_callZ (q := 112) (kj_V (As := [.int p2, .int p3, .int p4, .int (σ.1 (t + 44) 3), .int v11]) (rest := []) (t := tw) wi_RX11_199 ((hT).o_town).s rfl (rX1_isLawful tw p2 p3 p4 (σ.1 (t + 44) 3) v11 ((hT).o_town)) rfl (Nat.le_of_ble_eq_true rfl) ⟨Nat.le_of_ble_eq_true rfl, Nat.le_of_ble_eq_true rfl⟩ (Nat.le_of_ble_eq_true rfl) dX11_theft_109) rfl (fun r12 => ?_)
            refine tj_bnd (fun k14 => ∀ (j13 : Bool), Tj l D cA h0 ad RX11 cX11_theft 6 (some .int) false 5 0 0 (fun b => (some (.int b.1), sh, P, b.2)) 0 0 sh P r12.2 120 [(0, .ref (h0 + t)), (1, .int p1), (2, .int p2), (3, .int p3), (4, .int p4)] [.int (b2i j13)] (k14 j13)) ?_ (fun k14 hk15 => ?_)
            · intro j13
              refine tj_istore (q := 122) dX11_theft_120 rfl (by decide) rfl ?_
              refine tj_aload_n (q := 123) dX11_theft_122 rfl (i := 0) rfl (pl := 1) rfl ?_
              refine tj_getR (q := 126) (hT).s (hT).p_now fok_11_4 wl_RX11_36 dX11_theft_123 rfl ?_
              refine tj_iload_n (q := 127) dX11_theft_126 rfl (i := 1) rfl (pl := 2) rfl ?_
              refine tj_iload_n (q := 128) dX11_theft_127 rfl (i := 2) rfl (pl := 3) rfl ?_
              refine tj_iload_n (q := 129) dX11_theft_128 rfl (i := 3) rfl (pl := 4) rfl ?_
              refine tj_iload (q := 131) dX11_theft_129 rfl (pl := 5) rfl ?_
              refine tj_callV (q := 134) (kj_V (As := [.int p1, .int p2, .int p3, .int p4]) (rest := []) (t := (t + 44)) wi_RX11_206 ((hT).o_now).s rfl (rX8_exchange (t + 44) p1 p2 p3 p4 ((hT).o_now)) rfl (Nat.le_of_ble_eq_true rfl) ⟨Nat.le_of_ble_eq_true rfl, Nat.le_of_ble_eq_true rfl⟩ (Nat.le_of_ble_eq_true rfl) dX11_theft_131) rfl (fun σ16 => ?_)
              refine tj_aload_n (q := 135) dX11_theft_134 rfl (i := 0) rfl (pl := 1) rfl ?_
              refine tj_getR (q := 138) (hT).s (hT).p_now fok_11_4 wl_RX11_36 dX11_theft_135 rfl ?_
              refine tj_getR (q := 141) ((hT).o_now).s ((hT).o_now).p_crimes fok_8_1 wl_RX11_168 dX11_theft_138 rfl ?_
              refine tj_iload_n (q := 142) dX11_theft_141 rfl (i := 1) rfl (pl := 2) rfl ?_
              refine tj_dup2 (q := 143) dX11_theft_142 rfl rfl rfl ?_
              refine tj_iaload (q := 144) ((hT).o_now).s_crimes dX11_theft_143 rfl ?_
              refine tj_topI (fun v17 => ?_)
              refine tj_iconst (q := 145) (v := 1) dX11_theft_144 rfl (by decide) ?_
              refine tj_iload (q := 147) dX11_theft_145 rfl (pl := 0) rfl ?_
              refine tj_isub (q := 148) dX11_theft_147 rfl ?_
              refine tj_iadd (q := 149) dX11_theft_148 rfl ?_
              refine tj_iastore (q := 150) ((hT).o_now).s_crimes dX11_theft_149 rfl (fun σ18 => ?_)
              refine tj_lv [1, 0] rfl ?_
              exact hk7 (b2i j13) σ18
            · refine tj_bz (tgt := 119) (q := 115) dX11_theft_112 (by decide) rfl ?_ ?_
              · refine tj_iconst (q := 116) (v := 1) dX11_theft_115 rfl (by decide) ?_
                refine tj_goto (q := 120) dX11_theft_116 (by decide) ?_
                refine tj_lv [1, 2, 3, 4, 5] rfl ?_
                exact hk15 true
              · refine tj_iconst (q := 120) (v := 0) dX11_theft_119 rfl (by decide) ?_
                refine tj_lv [1, 2, 3, 4, 5] rfl ?_
                exact hk15 false
      · refine tj_iconst (q := 45) (v := (-1)) dX11_theft_44 rfl (by decide) ?_
        exact tj_iret rfl rfl (Nat.le_of_ble_eq_true rfl) (Nat.le_of_ble_eq_true rfl) dX11_theft_45
    · refine tj_iconst (q := 45) (v := (-1)) dX11_theft_44 rfl (by decide) ?_
      exact tj_iret rfl rfl (Nat.le_of_ble_eq_true rfl) (Nat.le_of_ble_eq_true rfl) dX11_theft_45

theorem dX11_waits_0 : decode cX11_waits 0 = .ok (.aload_n 0, 1) := by decide +kernel
theorem dX11_waits_1 : decode cX11_waits 1 = .ok (.getfield 36, 3) := by decide +kernel
theorem dX11_waits_4 : decode cX11_waits 4 = .ok (.getfield 203, 3) := by decide +kernel
theorem dX11_waits_7 : decode cX11_waits 7 = .ok (.sipush 200, 3) := by decide +kernel
theorem dX11_waits_10 : decode cX11_waits 10 = .ok (.if_icmp .lt 5, 3) := by decide +kernel
theorem dX11_waits_13 : decode cX11_waits 13 = .ok (.iconst (-1), 1) := by decide +kernel
theorem dX11_waits_14 : decode cX11_waits 14 = .ok (.ireturn, 1) := by decide +kernel
theorem dX11_waits_15 : decode cX11_waits 15 = .ok (.aload_n 0, 1) := by decide +kernel
theorem dX11_waits_16 : decode cX11_waits 16 = .ok (.getfield 36, 3) := by decide +kernel
theorem dX11_waits_19 : decode cX11_waits 19 = .ok (.aload_n 0, 1) := by decide +kernel
theorem dX11_waits_20 : decode cX11_waits 20 = .ok (.getfield 26, 3) := by decide +kernel
theorem dX11_waits_23 : decode cX11_waits 23 = .ok (.getfield 210, 3) := by decide +kernel
theorem dX11_waits_26 : decode cX11_waits 26 = .ok (.invokevirtual 213, 3) := by decide +kernel
theorem dX11_waits_29 : decode cX11_waits 29 = .ok (.aload_n 0, 1) := by decide +kernel
theorem dX11_waits_30 : decode cX11_waits 30 = .ok (.getfield 43, 3) := by decide +kernel
theorem dX11_waits_33 : decode cX11_waits 33 = .ok (.aload_n 0, 1) := by decide +kernel
theorem dX11_waits_34 : decode cX11_waits 34 = .ok (.getfield 36, 3) := by decide +kernel
theorem dX11_waits_37 : decode cX11_waits 37 = .ok (.invokevirtual 216, 3) := by decide +kernel
theorem dX11_waits_40 : decode cX11_waits 40 = .ok (.aload_n 0, 1) := by decide +kernel
theorem dX11_waits_41 : decode cX11_waits 41 = .ok (.getfield 36, 3) := by decide +kernel
theorem dX11_waits_44 : decode cX11_waits 44 = .ok (.getfield 189, 3) := by decide +kernel
theorem dX11_waits_47 : decode cX11_waits 47 = .ok (.ireturn, 1) := by decide +kernel
def mX11_waits (t : Nat) (tw : Nat) (dr : Nat) (σ : St_) : Option (Int32 × St_) :=
 (if (σ.1 (t + 44) 2) < (200 : Int32) then
 ((mX8_passHour (t + 44) (σ.1 tw 0) σ).bind fun σ1 =>
 ((mX0_add (t + 47) (t + 44) σ1).bind fun σ2 =>
 (some ((σ2.1 (t + 44) 3), σ2))))
 else (some ((-1 : Int32), σ)))
set_option maxHeartbeats 4000000 in
theorem rX11_waits (t : Nat) (tw : Nat) (dr : Nat) (hT : LY11 sh P t tw dr) : Rj l D cA h0 ad yX11_waits cX11_waits 1 (some .int) false 4 0 0 (fun b => (some (.int b.1), sh, P, b.2)) [.ref (h0 + t)] sh P σ (mX11_waits t tw dr σ) := by
  rw [mX11_waits]
  refine Rj.of (by decide) (fun h => by cases h) (Nat.le_of_ble_eq_true rfl) ?_
  refine tj_lv0 (lv' := [(0, .ref (h0 + t))]) rfl ?_
  refine tj_aload_n (q := 1) dX11_waits_0 rfl (i := 0) rfl (pl := 0) rfl ?_
  refine tj_getR (q := 4) (hT).s (hT).p_now fok_11_4 wl_RX11_36 dX11_waits_1 rfl ?_
  refine tj_getI (q := 7) ((hT).o_now).s fok_8_2 wl_RX11_203 dX11_waits_4 rfl ?_
  refine tj_sipush (q := 10) (v := 200) dX11_waits_7 rfl (by decide) ?_
  refine tj_icmp_lt (tgt := 15) (q := 13) dX11_waits_10 (by decide) rfl ?_ ?_
  · refine tj_aload_n (q := 16) dX11_waits_15 rfl (i := 0) rfl (pl := 0) rfl ?_
    refine tj_getR (q := 19) (hT).s (hT).p_now fok_11_4 wl_RX11_36 dX11_waits_16 rfl ?_
    refine tj_aload_n (q := 20) dX11_waits_19 rfl (i := 0) rfl (pl := 0) rfl ?_
    refine tj_getR (q := 23) (hT).s (hT).p_town fok_11_2 wl_RX11_26 dX11_waits_20 rfl ?_
    refine tj_getI (q := 26) ((hT).o_town).s fok_1_0 wl_RX11_210 dX11_waits_23 rfl ?_
    refine tj_callV (q := 29) (kj_V (As := [.int (σ.1 tw 0)]) (rest := []) (t := (t + 44)) wi_RX11_213 ((hT).o_now).s rfl (rX8_passHour (t + 44) (σ.1 tw 0) ((hT).o_now)) rfl (Nat.le_of_ble_eq_true rfl) ⟨Nat.le_of_ble_eq_true rfl, Nat.le_of_ble_eq_true rfl⟩ (Nat.le_of_ble_eq_true rfl) dX11_waits_26) rfl (fun σ1 => ?_)
    refine tj_aload_n (q := 30) dX11_waits_29 rfl (i := 0) rfl (pl := 0) rfl ?_
    refine tj_getR (q := 33) (hT).s (hT).p_acts fok_11_5 wl_RX11_43 dX11_waits_30 rfl ?_
    refine tj_aload_n (q := 34) dX11_waits_33 rfl (i := 0) rfl (pl := 0) rfl ?_
    refine tj_getR (q := 37) (hT).s (hT).p_now fok_11_4 wl_RX11_36 dX11_waits_34 rfl ?_
    refine tj_callV (q := 40) (kj_V (As := [.ref (h0 + (t + 44))]) (rest := []) (t := (t + 47)) wi_RX11_216 ((hT).o_acts).s rfl (rX0_add (t + 47) (t + 44) ((hT).o_acts) ((hT).o_now)) rfl (Nat.le_of_ble_eq_true rfl) ⟨Nat.le_of_ble_eq_true rfl, Nat.le_of_ble_eq_true rfl⟩ (Nat.le_of_ble_eq_true rfl) dX11_waits_37) rfl (fun σ2 => ?_)
    refine tj_aload_n (q := 41) dX11_waits_40 rfl (i := 0) rfl (pl := 0) rfl ?_
    refine tj_getR (q := 44) (hT).s (hT).p_now fok_11_4 wl_RX11_36 dX11_waits_41 rfl ?_
    refine tj_getI (q := 47) ((hT).o_now).s fok_8_3 wl_RX11_189 dX11_waits_44 rfl ?_
    exact tj_iret rfl rfl (Nat.le_of_ble_eq_true rfl) (Nat.le_of_ble_eq_true rfl) dX11_waits_47
  · refine tj_iconst (q := 14) (v := (-1)) dX11_waits_13 rfl (by decide) ?_
    exact tj_iret rfl rfl (Nat.le_of_ble_eq_true rfl) (Nat.le_of_ble_eq_true rfl) dX11_waits_14

theorem dX11_gift_0 : decode cX11_gift 0 = .ok (.aload_n 0, 1) := by decide +kernel
theorem dX11_gift_1 : decode cX11_gift 1 = .ok (.iload_n 2, 1) := by decide +kernel
theorem dX11_gift_2 : decode cX11_gift 2 = .ok (.iload_n 3, 1) := by decide +kernel
theorem dX11_gift_3 : decode cX11_gift 3 = .ok (.invokevirtual 148, 3) := by decide +kernel
theorem dX11_gift_6 : decode cX11_gift 6 = .ok (.istore 4, 2) := by decide +kernel
theorem dX11_gift_8 : decode cX11_gift 8 = .ok (.aload_n 0, 1) := by decide +kernel
theorem dX11_gift_9 : decode cX11_gift 9 = .ok (.iload_n 1, 1) := by decide +kernel
theorem dX11_gift_10 : decode cX11_gift 10 = .ok (.invokevirtual 131, 3) := by decide +kernel
theorem dX11_gift_13 : decode cX11_gift 13 = .ok (.ifCond .eq 9, 3) := by decide +kernel
theorem dX11_gift_16 : decode cX11_gift 16 = .ok (.iload 4, 2) := by decide +kernel
theorem dX11_gift_18 : decode cX11_gift 18 = .ok (.iconst (-1), 1) := by decide +kernel
theorem dX11_gift_19 : decode cX11_gift 19 = .ok (.if_icmp .ne 5, 3) := by decide +kernel
theorem dX11_gift_22 : decode cX11_gift 22 = .ok (.iconst 0, 1) := by decide +kernel
theorem dX11_gift_23 : decode cX11_gift 23 = .ok (.ireturn, 1) := by decide +kernel
theorem dX11_gift_24 : decode cX11_gift 24 = .ok (.aload_n 0, 1) := by decide +kernel
theorem dX11_gift_25 : decode cX11_gift 25 = .ok (.getfield 36, 3) := by decide +kernel
theorem dX11_gift_28 : decode cX11_gift 28 = .ok (.iload_n 1, 1) := by decide +kernel
theorem dX11_gift_29 : decode cX11_gift 29 = .ok (.invokevirtual 135, 3) := by decide +kernel
theorem dX11_gift_32 : decode cX11_gift 32 = .ok (.istore 5, 2) := by decide +kernel
theorem dX11_gift_34 : decode cX11_gift 34 = .ok (.iload 5, 2) := by decide +kernel
theorem dX11_gift_36 : decode cX11_gift 36 = .ok (.iload 4, 2) := by decide +kernel
theorem dX11_gift_38 : decode cX11_gift 38 = .ok (.if_icmp .ne 5, 3) := by decide +kernel
theorem dX11_gift_41 : decode cX11_gift 41 = .ok (.iconst 0, 1) := by decide +kernel
theorem dX11_gift_42 : decode cX11_gift 42 = .ok (.ireturn, 1) := by decide +kernel
theorem dX11_gift_43 : decode cX11_gift 43 = .ok (.iload 5, 2) := by decide +kernel
theorem dX11_gift_45 : decode cX11_gift 45 = .ok (.iconst (-1), 1) := by decide +kernel
theorem dX11_gift_46 : decode cX11_gift 46 = .ok (.if_icmp .eq 21, 3) := by decide +kernel
theorem dX11_gift_49 : decode cX11_gift 49 = .ok (.aload_n 0, 1) := by decide +kernel
theorem dX11_gift_50 : decode cX11_gift 50 = .ok (.getfield 36, 3) := by decide +kernel
theorem dX11_gift_53 : decode cX11_gift 53 = .ok (.getfield 156, 3) := by decide +kernel
theorem dX11_gift_56 : decode cX11_gift 56 = .ok (.iload 5, 2) := by decide +kernel
theorem dX11_gift_58 : decode cX11_gift 58 = .ok (.dup2, 1) := by decide +kernel
theorem dX11_gift_59 : decode cX11_gift 59 = .ok (.iaload, 1) := by decide +kernel
theorem dX11_gift_60 : decode cX11_gift 60 = .ok (.iconst 1, 1) := by decide +kernel
theorem dX11_gift_61 : decode cX11_gift 61 = .ok (.iload_n 1, 1) := by decide +kernel
theorem dX11_gift_62 : decode cX11_gift 62 = .ok (.ishl, 1) := by decide +kernel
theorem dX11_gift_63 : decode cX11_gift 63 = .ok (.iconst (-1), 1) := by decide +kernel
theorem dX11_gift_64 : decode cX11_gift 64 = .ok (.ixor, 1) := by decide +kernel
theorem dX11_gift_65 : decode cX11_gift 65 = .ok (.iand, 1) := by decide +kernel
theorem dX11_gift_66 : decode cX11_gift 66 = .ok (.iastore, 1) := by decide +kernel
theorem dX11_gift_67 : decode cX11_gift 67 = .ok (.aload_n 0, 1) := by decide +kernel
theorem dX11_gift_68 : decode cX11_gift 68 = .ok (.getfield 36, 3) := by decide +kernel
theorem dX11_gift_71 : decode cX11_gift 71 = .ok (.getfield 156, 3) := by decide +kernel
theorem dX11_gift_74 : decode cX11_gift 74 = .ok (.iload 4, 2) := by decide +kernel
theorem dX11_gift_76 : decode cX11_gift 76 = .ok (.dup2, 1) := by decide +kernel
theorem dX11_gift_77 : decode cX11_gift 77 = .ok (.iaload, 1) := by decide +kernel
theorem dX11_gift_78 : decode cX11_gift 78 = .ok (.iconst 1, 1) := by decide +kernel
theorem dX11_gift_79 : decode cX11_gift 79 = .ok (.iload_n 1, 1) := by decide +kernel
theorem dX11_gift_80 : decode cX11_gift 80 = .ok (.ishl, 1) := by decide +kernel
theorem dX11_gift_81 : decode cX11_gift 81 = .ok (.ior, 1) := by decide +kernel
theorem dX11_gift_82 : decode cX11_gift 82 = .ok (.iastore, 1) := by decide +kernel
theorem dX11_gift_83 : decode cX11_gift 83 = .ok (.aload_n 0, 1) := by decide +kernel
theorem dX11_gift_84 : decode cX11_gift 84 = .ok (.getfield 43, 3) := by decide +kernel
theorem dX11_gift_87 : decode cX11_gift 87 = .ok (.aload_n 0, 1) := by decide +kernel
theorem dX11_gift_88 : decode cX11_gift 88 = .ok (.getfield 36, 3) := by decide +kernel
theorem dX11_gift_91 : decode cX11_gift 91 = .ok (.invokevirtual 216, 3) := by decide +kernel
theorem dX11_gift_94 : decode cX11_gift 94 = .ok (.iconst 1, 1) := by decide +kernel
theorem dX11_gift_95 : decode cX11_gift 95 = .ok (.ireturn, 1) := by decide +kernel
def mX11_gift (t : Nat) (tw : Nat) (dr : Nat) (p1 : Int32) (p2 : Int32) (p3 : Bool) (σ : St_) : Option (Bool × St_) :=
 ((mX11_holderIndex t tw dr p2 p3 σ).bind fun r1 =>
 ((mX11_isThing t tw dr p1 σ).bind fun r2 =>
 (if r2 = true then
 (if r1 = (-1 : Int32) then
 (some (false, σ))
 else ((mX8_holderOf (t + 44) p1 σ).bind fun r3 =>
 (if r3 = r1 then
 (some (false, σ))
 else (bnd (fun (σ4 : St_) => (if bin r1 9 = true then bnd (σ4.1 (t + 44 + 1) r1.toNatClampNeg) fun v7 =>
 (if bin r1 9 = true then bnd (sI σ4 (t + 44 + 1) r1.toNatClampNeg (v7 ||| ((1 : Int32) <<< (p1 &&& 31)))) fun σ8 =>
 ((mX0_add (t + 47) (t + 44) σ8).bind fun σ9 =>
 (some (true, σ9)))
 else none)
 else none)) fun k5 =>
 (if r3 = (-1 : Int32) then
 (k5 σ)
 else (if bin r3 9 = true then bnd (σ.1 (t + 44 + 1) r3.toNatClampNeg) fun v10 =>
 (if bin r3 9 = true then bnd (sI σ (t + 44 + 1) r3.toNatClampNeg (v10 &&& (((1 : Int32) <<< (p1 &&& 31)) ^^^ (-1 : Int32)))) fun σ11 =>
 (k5 σ11)
 else none)
 else none))))))
 else (some (false, σ)))))
set_option maxHeartbeats 4000000 in
theorem rX11_gift (t : Nat) (tw : Nat) (dr : Nat) (p1 : Int32) (p2 : Int32) (p3 : Bool) (hT : LY11 sh P t tw dr) : Rj l D cA h0 ad yX11_gift cX11_gift 6 (some .boolean) false 4 0 0 (fun b => (some (.int (b2i b.1)), sh, P, b.2)) [.ref (h0 + t), .int p1, .int p2, .int (b2i p3)] sh P σ (mX11_gift t tw dr p1 p2 p3 σ) := by
  rw [mX11_gift]
  refine Rj.of (by decide) (fun h => by cases h) (Nat.le_of_ble_eq_true rfl) ?_
  refine tj_lv0 (lv' := [(0, .ref (h0 + t)), (1, .int p1), (2, .int p2), (3, .int (b2i p3))]) rfl ?_
  refine tj_aload_n (q := 1) dX11_gift_0 rfl (i := 0) rfl (pl := 0) rfl ?_
  refine tj_iload_n (q := 2) dX11_gift_1 rfl (i := 2) rfl (pl := 2) rfl ?_
  refine tj_iload_n (q := 3) dX11_gift_2 rfl (i := 3) rfl (pl := 3) rfl ?_
  refine tj_callIp (q := 6) (kj_V (As := [.int p2, .int (b2i p3)]) (rest := []) (t := t) wi_RX11_148 (hT).s rfl (rX11_holderIndex t tw dr p2 p3 (hT)) rfl (Nat.le_of_ble_eq_true rfl) ⟨Nat.le_of_ble_eq_true rfl, Nat.le_of_ble_eq_true rfl⟩ (Nat.le_of_ble_eq_true rfl) dX11_gift_3) rfl (fun r1 => ?_)
  refine tj_istore (q := 8) dX11_gift_6 rfl (by decide) rfl ?_
  refine tj_aload_n (q := 9) dX11_gift_8 rfl (i := 0) rfl (pl := 1) rfl ?_
  refine tj_iload_n (q := 10) dX11_gift_9 rfl (i := 1) rfl (pl := 2) rfl ?_
  refine tj_callZp (q := 13) (kj_V (As := [.int p1]) (rest := []) (t := t) wi_RX11_131 (hT).s rfl (rX11_isThing t tw dr p1 (hT)) rfl (Nat.le_of_ble_eq_true rfl) ⟨Nat.le_of_ble_eq_true rfl, Nat.le_of_ble_eq_true rfl⟩ (Nat.le_of_ble_eq_true rfl) dX11_gift_10) rfl (fun r2 => ?_)
  refine tj_bz (tgt := 22) (q := 16) dX11_gift_13 (by decide) rfl ?_ ?_
  · refine tj_iload (q := 18) dX11_gift_16 rfl (pl := 0) rfl ?_
    refine tj_iconst (q := 19) (v := (-1)) dX11_gift_18 rfl (by decide) ?_
    refine tj_icmp_ne (tgt := 24) (q := 22) dX11_gift_19 (by decide) rfl ?_ ?_
    · refine tj_iconst (q := 23) (v := 0) dX11_gift_22 rfl (by decide) ?_
      exact tj_zret rfl (by decide) rfl (Nat.le_of_ble_eq_true rfl) (Nat.le_of_ble_eq_true rfl) dX11_gift_23
    · refine tj_aload_n (q := 25) dX11_gift_24 rfl (i := 0) rfl (pl := 1) rfl ?_
      refine tj_getR (q := 28) (hT).s (hT).p_now fok_11_4 wl_RX11_36 dX11_gift_25 rfl ?_
      refine tj_iload_n (q := 29) dX11_gift_28 rfl (i := 1) rfl (pl := 2) rfl ?_
      refine tj_callIp (q := 32) (kj_V (As := [.int p1]) (rest := []) (t := (t + 44)) wi_RX11_135 ((hT).o_now).s rfl (rX8_holderOf (t + 44) p1 ((hT).o_now)) rfl (Nat.le_of_ble_eq_true rfl) ⟨Nat.le_of_ble_eq_true rfl, Nat.le_of_ble_eq_true rfl⟩ (Nat.le_of_ble_eq_true rfl) dX11_gift_29) rfl (fun r3 => ?_)
      refine tj_istore (q := 34) dX11_gift_32 rfl (by decide) rfl ?_
      refine tj_iload (q := 36) dX11_gift_34 rfl (pl := 0) rfl ?_
      refine tj_iload (q := 38) dX11_gift_36 rfl (pl := 1) rfl ?_
      refine tj_icmp_ne (tgt := 43) (q := 41) dX11_gift_38 (by decide) rfl ?_ ?_
      · refine tj_iconst (q := 42) (v := 0) dX11_gift_41 rfl (by decide) ?_
        exact tj_zret rfl (by decide) rfl (Nat.le_of_ble_eq_true rfl) (Nat.le_of_ble_eq_true rfl) dX11_gift_42
      · refine tj_iload (q := 45) dX11_gift_43 rfl (pl := 0) rfl ?_
        refine tj_iconst (q := 46) (v := (-1)) dX11_gift_45 rfl (by decide) ?_
        refine tj_bnd (fun k5 => ∀ (σ4 : St_), Tj l D cA h0 ad RX11 cX11_gift 6 (some .boolean) false 4 0 0 (fun b => (some (.int (b2i b.1)), sh, P, b.2)) 0 0 sh P σ4 67 [(0, .ref (h0 + t)), (1, .int p1), (4, .int r1)] [] (k5 σ4)) ?_ (fun k5 hk6 => ?_)
        · intro σ4
          refine tj_aload_n (q := 68) dX11_gift_67 rfl (i := 0) rfl (pl := 0) rfl ?_
          refine tj_getR (q := 71) (hT).s (hT).p_now fok_11_4 wl_RX11_36 dX11_gift_68 rfl ?_
          refine tj_getR (q := 74) ((hT).o_now).s ((hT).o_now).p_held fok_8_0 wl_RX11_156 dX11_gift_71 rfl ?_
          refine tj_iload (q := 76) dX11_gift_74 rfl (pl := 2) rfl ?_
          refine tj_dup2 (q := 77) dX11_gift_76 rfl rfl rfl ?_
          refine tj_iaload (q := 78) ((hT).o_now).s_held dX11_gift_77 rfl ?_
          refine tj_topI (fun v7 => ?_)
          refine tj_iconst (q := 79) (v := 1) dX11_gift_78 rfl (by decide) ?_
          refine tj_iload_n (q := 80) dX11_gift_79 rfl (i := 1) rfl (pl := 1) rfl ?_
          refine tj_ishl (q := 81) dX11_gift_80 rfl ?_
          refine tj_ior (q := 82) dX11_gift_81 rfl ?_
          refine tj_iastore (q := 83) ((hT).o_now).s_held dX11_gift_82 rfl (fun σ8 => ?_)
          refine tj_aload_n (q := 84) dX11_gift_83 rfl (i := 0) rfl (pl := 0) rfl ?_
          refine tj_getR (q := 87) (hT).s (hT).p_acts fok_11_5 wl_RX11_43 dX11_gift_84 rfl ?_
          refine tj_aload_n (q := 88) dX11_gift_87 rfl (i := 0) rfl (pl := 0) rfl ?_
          refine tj_getR (q := 91) (hT).s (hT).p_now fok_11_4 wl_RX11_36 dX11_gift_88 rfl ?_
          refine tj_callV (q := 94) (kj_V (As := [.ref (h0 + (t + 44))]) (rest := []) (t := (t + 47)) wi_RX11_216 ((hT).o_acts).s rfl (rX0_add (t + 47) (t + 44) ((hT).o_acts) ((hT).o_now)) rfl (Nat.le_of_ble_eq_true rfl) ⟨Nat.le_of_ble_eq_true rfl, Nat.le_of_ble_eq_true rfl⟩ (Nat.le_of_ble_eq_true rfl) dX11_gift_91) rfl (fun σ9 => ?_)
          refine tj_iconst (q := 95) (v := 1) dX11_gift_94 rfl (by decide) ?_
          exact tj_zret rfl (by decide) rfl (Nat.le_of_ble_eq_true rfl) (Nat.le_of_ble_eq_true rfl) dX11_gift_95
        · refine tj_icmp_eq (tgt := 67) (q := 49) dX11_gift_46 (by decide) rfl ?_ ?_
          · refine tj_lv [2, 3, 1] rfl ?_
            exact hk6 σ
          · refine tj_aload_n (q := 50) dX11_gift_49 rfl (i := 0) rfl (pl := 2) rfl ?_
            refine tj_getR (q := 53) (hT).s (hT).p_now fok_11_4 wl_RX11_36 dX11_gift_50 rfl ?_
            refine tj_getR (q := 56) ((hT).o_now).s ((hT).o_now).p_held fok_8_0 wl_RX11_156 dX11_gift_53 rfl ?_
            refine tj_iload (q := 58) dX11_gift_56 rfl (pl := 0) rfl ?_
            refine tj_dup2 (q := 59) dX11_gift_58 rfl rfl rfl ?_
            refine tj_iaload (q := 60) ((hT).o_now).s_held dX11_gift_59 rfl ?_
            refine tj_topI (fun v10 => ?_)
            refine tj_iconst (q := 61) (v := 1) dX11_gift_60 rfl (by decide) ?_
            refine tj_iload_n (q := 62) dX11_gift_61 rfl (i := 1) rfl (pl := 3) rfl ?_
            refine tj_ishl (q := 63) dX11_gift_62 rfl ?_
            refine tj_iconst (q := 64) (v := (-1)) dX11_gift_63 rfl (by decide) ?_
            refine tj_ixor (q := 65) dX11_gift_64 rfl ?_
            refine tj_iand (q := 66) dX11_gift_65 rfl ?_
            refine tj_iastore (q := 67) ((hT).o_now).s_held dX11_gift_66 rfl (fun σ11 => ?_)
            refine tj_lv [2, 3, 1] rfl ?_
            exact hk6 σ11
  · refine tj_iconst (q := 23) (v := 0) dX11_gift_22 rfl (by decide) ?_
    exact tj_zret rfl (by decide) rfl (Nat.le_of_ble_eq_true rfl) (Nat.le_of_ble_eq_true rfl) dX11_gift_23

theorem dX11_undo_0 : decode cX11_undo 0 = .ok (.aload_n 0, 1) := by decide +kernel
theorem dX11_undo_1 : decode cX11_undo 1 = .ok (.getfield 43, 3) := by decide +kernel
theorem dX11_undo_4 : decode cX11_undo 4 = .ok (.iconst (-1), 1) := by decide +kernel
theorem dX11_undo_5 : decode cX11_undo 5 = .ok (.aload_n 0, 1) := by decide +kernel
theorem dX11_undo_6 : decode cX11_undo 6 = .ok (.getfield 36, 3) := by decide +kernel
theorem dX11_undo_9 : decode cX11_undo 9 = .ok (.invokevirtual 219, 3) := by decide +kernel
theorem dX11_undo_12 : decode cX11_undo 12 = .ok (.ireturn, 1) := by decide +kernel
theorem wm_X0_step : Cond.instanceMethod yX0_step ∈ TB ∧ Cond.selects yX0_step.cls yX0_step yX0_step ∈ TB ∧ Cond.initialized yX0_step.cls ∈ TB ∧ Cond.code yX0_step cX0_step 3 (some .boolean) ∈ TB ∧ (yX0_step.cls ≠ "java/lang/invoke/MethodHandle" ∧ yX0_step.cls ≠ "java/lang/invoke/VarHandle" ∧ (parseMethodDescriptor yX0_step.desc).map (fun d => d.parameters.length) = some 2) ∧ 3 ≤ 21 := ⟨tbm 1151 (by decide +kernel) (by decide +kernel), tbm 1152 (by decide +kernel) (by decide +kernel), tbm 141 (by decide +kernel) (by decide +kernel), tbm 1153 (by decide +kernel) (by decide +kernel), by decide +kernel, by decide⟩
theorem wi_RX11_219 : Iv RX11 219 yX0_step cX0_step 3 (some .boolean) 2 := ⟨tbm 1150 (by decide +kernel) (by decide +kernel), wm_X0_step⟩
def mX11_undo (t : Nat) (tw : Nat) (dr : Nat) (σ : St_) : Option (Bool × St_) :=
 ((mX0_step (t + 47) (-1 : Int32) (t + 44) σ).bind fun r1 =>
 (some (r1.1, r1.2)))
set_option maxHeartbeats 4000000 in
theorem rX11_undo (t : Nat) (tw : Nat) (dr : Nat) (hT : LY11 sh P t tw dr) : Rj l D cA h0 ad yX11_undo cX11_undo 1 (some .boolean) false 4 0 0 (fun b => (some (.int (b2i b.1)), sh, P, b.2)) [.ref (h0 + t)] sh P σ (mX11_undo t tw dr σ) := by
  rw [mX11_undo]
  refine Rj.of (by decide) (fun h => by cases h) (Nat.le_of_ble_eq_true rfl) ?_
  refine tj_lv0 (lv' := [(0, .ref (h0 + t))]) rfl ?_
  refine tj_aload_n (q := 1) dX11_undo_0 rfl (i := 0) rfl (pl := 0) rfl ?_
  refine tj_getR (q := 4) (hT).s (hT).p_acts fok_11_5 wl_RX11_43 dX11_undo_1 rfl ?_
  refine tj_iconst (q := 5) (v := (-1)) dX11_undo_4 rfl (by decide) ?_
  refine tj_aload_n (q := 6) dX11_undo_5 rfl (i := 0) rfl (pl := 0) rfl ?_
  refine tj_getR (q := 9) (hT).s (hT).p_now fok_11_4 wl_RX11_36 dX11_undo_6 rfl ?_
  refine tj_callZ (q := 12) (kj_V (As := [.int (-1 : Int32), .ref (h0 + (t + 44))]) (rest := []) (t := (t + 47)) wi_RX11_219 ((hT).o_acts).s rfl (rX0_step (t + 47) (-1 : Int32) (t + 44) ((hT).o_acts) ((hT).o_now)) rfl (Nat.le_of_ble_eq_true rfl) ⟨Nat.le_of_ble_eq_true rfl, Nat.le_of_ble_eq_true rfl⟩ (Nat.le_of_ble_eq_true rfl) dX11_undo_9) rfl (fun r1 => ?_)
  exact tj_zret rfl (nar_b2i _) rfl (Nat.le_of_ble_eq_true rfl) (Nat.le_of_ble_eq_true rfl) dX11_undo_12

theorem dX11_redo_0 : decode cX11_redo 0 = .ok (.aload_n 0, 1) := by decide +kernel
theorem dX11_redo_1 : decode cX11_redo 1 = .ok (.getfield 43, 3) := by decide +kernel
theorem dX11_redo_4 : decode cX11_redo 4 = .ok (.iconst 1, 1) := by decide +kernel
theorem dX11_redo_5 : decode cX11_redo 5 = .ok (.aload_n 0, 1) := by decide +kernel
theorem dX11_redo_6 : decode cX11_redo 6 = .ok (.getfield 36, 3) := by decide +kernel
theorem dX11_redo_9 : decode cX11_redo 9 = .ok (.invokevirtual 219, 3) := by decide +kernel
theorem dX11_redo_12 : decode cX11_redo 12 = .ok (.ireturn, 1) := by decide +kernel
def mX11_redo (t : Nat) (tw : Nat) (dr : Nat) (σ : St_) : Option (Bool × St_) :=
 ((mX0_step (t + 47) (1 : Int32) (t + 44) σ).bind fun r1 =>
 (some (r1.1, r1.2)))
set_option maxHeartbeats 4000000 in
theorem rX11_redo (t : Nat) (tw : Nat) (dr : Nat) (hT : LY11 sh P t tw dr) : Rj l D cA h0 ad yX11_redo cX11_redo 1 (some .boolean) false 4 0 0 (fun b => (some (.int (b2i b.1)), sh, P, b.2)) [.ref (h0 + t)] sh P σ (mX11_redo t tw dr σ) := by
  rw [mX11_redo]
  refine Rj.of (by decide) (fun h => by cases h) (Nat.le_of_ble_eq_true rfl) ?_
  refine tj_lv0 (lv' := [(0, .ref (h0 + t))]) rfl ?_
  refine tj_aload_n (q := 1) dX11_redo_0 rfl (i := 0) rfl (pl := 0) rfl ?_
  refine tj_getR (q := 4) (hT).s (hT).p_acts fok_11_5 wl_RX11_43 dX11_redo_1 rfl ?_
  refine tj_iconst (q := 5) (v := 1) dX11_redo_4 rfl (by decide) ?_
  refine tj_aload_n (q := 6) dX11_redo_5 rfl (i := 0) rfl (pl := 0) rfl ?_
  refine tj_getR (q := 9) (hT).s (hT).p_now fok_11_4 wl_RX11_36 dX11_redo_6 rfl ?_
  refine tj_callZ (q := 12) (kj_V (As := [.int (1 : Int32), .ref (h0 + (t + 44))]) (rest := []) (t := (t + 47)) wi_RX11_219 ((hT).o_acts).s rfl (rX0_step (t + 47) (1 : Int32) (t + 44) ((hT).o_acts) ((hT).o_now)) rfl (Nat.le_of_ble_eq_true rfl) ⟨Nat.le_of_ble_eq_true rfl, Nat.le_of_ble_eq_true rfl⟩ (Nat.le_of_ble_eq_true rfl) dX11_redo_9) rfl (fun r1 => ?_)
  exact tj_zret rfl (nar_b2i _) rfl (Nat.le_of_ble_eq_true rfl) (Nat.le_of_ble_eq_true rfl) dX11_redo_12

theorem dX11_swaps_0 : decode cX11_swaps 0 = .ok (.aload_n 0, 1) := by decide +kernel
theorem dX11_swaps_1 : decode cX11_swaps 1 = .ok (.iload_n 1, 1) := by decide +kernel
theorem dX11_swaps_2 : decode cX11_swaps 2 = .ok (.invokevirtual 162, 3) := by decide +kernel
theorem dX11_swaps_5 : decode cX11_swaps 5 = .ok (.ifCond .ne 5, 3) := by decide +kernel
theorem dX11_swaps_8 : decode cX11_swaps 8 = .ok (.iconst (-1), 1) := by decide +kernel
theorem dX11_swaps_9 : decode cX11_swaps 9 = .ok (.ireturn, 1) := by decide +kernel
theorem dX11_swaps_10 : decode cX11_swaps 10 = .ok (.aload_n 0, 1) := by decide +kernel
theorem dX11_swaps_11 : decode cX11_swaps 11 = .ok (.getfield 75, 3) := by decide +kernel
theorem dX11_swaps_14 : decode cX11_swaps 14 = .ok (.aload_n 0, 1) := by decide +kernel
theorem dX11_swaps_15 : decode cX11_swaps 15 = .ok (.getfield 26, 3) := by decide +kernel
theorem dX11_swaps_18 : decode cX11_swaps 18 = .ok (.aload_n 0, 1) := by decide +kernel
theorem dX11_swaps_19 : decode cX11_swaps 19 = .ok (.getfield 36, 3) := by decide +kernel
theorem dX11_swaps_22 : decode cX11_swaps 22 = .ok (.iload_n 1, 1) := by decide +kernel
theorem dX11_swaps_23 : decode cX11_swaps 23 = .ok (.invokevirtual 223, 3) := by decide +kernel
theorem dX11_swaps_26 : decode cX11_swaps 26 = .ok (.aload_n 0, 1) := by decide +kernel
theorem dX11_swaps_27 : decode cX11_swaps 27 = .ok (.getfield 75, 3) := by decide +kernel
theorem dX11_swaps_30 : decode cX11_swaps 30 = .ok (.getfield 227, 3) := by decide +kernel
theorem dX11_swaps_33 : decode cX11_swaps 33 = .ok (.ireturn, 1) := by decide +kernel
theorem wl_RX11_75 : Cond.fieldLink RX11 75 (TX11 12).1 (TX11 12).2.1 (TX11 12).2.2.1 ∈ TB := tbm 625 (by decide +kernel) (by decide +kernel)
theorem wi_RX11_223 : Iv RX11 223 yX9_gather cX9_gather 7 none 3 := ⟨tbm 1162 (by decide +kernel) (by decide +kernel), wm_X9_gather⟩
theorem wl_RX11_227 : Cond.fieldLink RX11 227 (TX9 4).1 (TX9 4).2.1 (TX9 4).2.2.1 ∈ TB := tbm 515 (by decide +kernel) (by decide +kernel)
def mX11_swaps (t : Nat) (tw : Nat) (dr : Nat) (p1 : Int32) (σ : St_) : Option (Int32 × St_) :=
 ((mX11_isThief t tw dr p1 σ).bind fun r1 =>
 (if r1 = true then
 ((mX9_gather (t + 183) tw (t + 44) p1 σ).bind fun σ2 =>
 (some ((σ2.1 (t + 183) 4), σ2)))
 else (some ((-1 : Int32), σ))))
set_option maxHeartbeats 4000000 in
theorem rX11_swaps (t : Nat) (tw : Nat) (dr : Nat) (p1 : Int32) (hT : LY11 sh P t tw dr) : Rj l D cA h0 ad yX11_swaps cX11_swaps 2 (some .int) false 7 0 0 (fun b => (some (.int b.1), sh, P, b.2)) [.ref (h0 + t), .int p1] sh P σ (mX11_swaps t tw dr p1 σ) := by
  rw [mX11_swaps]
  refine Rj.of (by decide) (fun h => by cases h) (Nat.le_of_ble_eq_true rfl) ?_
  refine tj_lv0 (lv' := [(0, .ref (h0 + t)), (1, .int p1)]) rfl ?_
  refine tj_aload_n (q := 1) dX11_swaps_0 rfl (i := 0) rfl (pl := 0) rfl ?_
  refine tj_iload_n (q := 2) dX11_swaps_1 rfl (i := 1) rfl (pl := 1) rfl ?_
  refine tj_callZp (q := 5) (kj_V (As := [.int p1]) (rest := []) (t := t) wi_RX11_162 (hT).s rfl (rX11_isThief t tw dr p1 (hT)) rfl (Nat.le_of_ble_eq_true rfl) ⟨Nat.le_of_ble_eq_true rfl, Nat.le_of_ble_eq_true rfl⟩ (Nat.le_of_ble_eq_true rfl) dX11_swaps_2) rfl (fun r1 => ?_)
  refine tj_bnz (tgt := 10) (q := 8) dX11_swaps_5 (by decide) rfl ?_ ?_
  · refine tj_aload_n (q := 11) dX11_swaps_10 rfl (i := 0) rfl (pl := 0) rfl ?_
    refine tj_getR (q := 14) (hT).s (hT).p_list fok_11_12 wl_RX11_75 dX11_swaps_11 rfl ?_
    refine tj_aload_n (q := 15) dX11_swaps_14 rfl (i := 0) rfl (pl := 0) rfl ?_
    refine tj_getR (q := 18) (hT).s (hT).p_town fok_11_2 wl_RX11_26 dX11_swaps_15 rfl ?_
    refine tj_aload_n (q := 19) dX11_swaps_18 rfl (i := 0) rfl (pl := 0) rfl ?_
    refine tj_getR (q := 22) (hT).s (hT).p_now fok_11_4 wl_RX11_36 dX11_swaps_19 rfl ?_
    refine tj_iload_n (q := 23) dX11_swaps_22 rfl (i := 1) rfl (pl := 1) rfl ?_
    refine tj_callV (q := 26) (kj_V (As := [.ref (h0 + tw), .ref (h0 + (t + 44)), .int p1]) (rest := []) (t := (t + 183)) wi_RX11_223 ((hT).o_list).s rfl (rX9_gather (t + 183) tw (t + 44) p1 ((hT).o_list) ((hT).o_town) ((hT).o_now)) rfl (Nat.le_of_ble_eq_true rfl) ⟨Nat.le_of_ble_eq_true rfl, Nat.le_of_ble_eq_true rfl⟩ (Nat.le_of_ble_eq_true rfl) dX11_swaps_23) rfl (fun σ2 => ?_)
    refine tj_aload_n (q := 27) dX11_swaps_26 rfl (i := 0) rfl (pl := 0) rfl ?_
    refine tj_getR (q := 30) (hT).s (hT).p_list fok_11_12 wl_RX11_75 dX11_swaps_27 rfl ?_
    refine tj_getI (q := 33) ((hT).o_list).s fok_9_4 wl_RX11_227 dX11_swaps_30 rfl ?_
    exact tj_iret rfl rfl (Nat.le_of_ble_eq_true rfl) (Nat.le_of_ble_eq_true rfl) dX11_swaps_33
  · refine tj_iconst (q := 9) (v := (-1)) dX11_swaps_8 rfl (by decide) ?_
    exact tj_iret rfl rfl (Nat.le_of_ble_eq_true rfl) (Nat.le_of_ble_eq_true rfl) dX11_swaps_9

theorem dX11_lay_0 : decode cX11_lay 0 = .ok (.aload_n 0, 1) := by decide +kernel
theorem dX11_lay_1 : decode cX11_lay 1 = .ok (.getfield 59, 3) := by decide +kernel
theorem dX11_lay_4 : decode cX11_lay 4 = .ok (.bipush 30, 2) := by decide +kernel
theorem dX11_lay_6 : decode cX11_lay 6 = .ok (.if_icmp .ge 23, 3) := by decide +kernel
theorem dX11_lay_9 : decode cX11_lay 9 = .ok (.aload_n 0, 1) := by decide +kernel
theorem dX11_lay_10 : decode cX11_lay 10 = .ok (.getfield 55, 3) := by decide +kernel
theorem dX11_lay_13 : decode cX11_lay 13 = .ok (.aload_n 0, 1) := by decide +kernel
theorem dX11_lay_14 : decode cX11_lay 14 = .ok (.getfield 59, 3) := by decide +kernel
theorem dX11_lay_17 : decode cX11_lay 17 = .ok (.iload_n 1, 1) := by decide +kernel
theorem dX11_lay_18 : decode cX11_lay 18 = .ok (.iastore, 1) := by decide +kernel
theorem dX11_lay_19 : decode cX11_lay 19 = .ok (.aload_n 0, 1) := by decide +kernel
theorem dX11_lay_20 : decode cX11_lay 20 = .ok (.dup, 1) := by decide +kernel
theorem dX11_lay_21 : decode cX11_lay 21 = .ok (.getfield 59, 3) := by decide +kernel
theorem dX11_lay_24 : decode cX11_lay 24 = .ok (.iconst 1, 1) := by decide +kernel
theorem dX11_lay_25 : decode cX11_lay 25 = .ok (.iadd, 1) := by decide +kernel
theorem dX11_lay_26 : decode cX11_lay 26 = .ok (.putfield 59, 3) := by decide +kernel
theorem dX11_lay_29 : decode cX11_lay 29 = .ok (.return_, 1) := by decide +kernel
theorem wl_RX11_59 : Cond.fieldLink RX11 59 (TX11 9).1 (TX11 9).2.1 (TX11 9).2.2.1 ∈ TB := tbm 622 (by decide +kernel) (by decide +kernel)
theorem wl_RX11_55 : Cond.fieldLink RX11 55 (TX11 8).1 (TX11 8).2.1 (TX11 8).2.2.1 ∈ TB := tbm 621 (by decide +kernel) (by decide +kernel)
def mX11_lay (t : Nat) (tw : Nat) (dr : Nat) (p1 : Int32) (σ : St_) : Option St_ :=
 (if (30 : Int32) ≤ (σ.1 t 9) then
 (some σ)
 else (bnd (σ.1 t 9) fun v1 =>
 (if bin v1 30 = true then bnd (sI σ (t + 173) v1.toNatClampNeg p1) fun σ2 =>
 (bnd (sI σ2 t 9 ((σ2.1 t 9) + (1 : Int32))) fun σ3 =>
 (some σ3))
 else none)))
set_option maxHeartbeats 4000000 in
theorem rX11_lay (t : Nat) (tw : Nat) (dr : Nat) (p1 : Int32) (hT : LY11 sh P t tw dr) : Rj l D cA h0 ad yX11_lay cX11_lay 2 none false 2 0 0 (fun b => (none, sh, P, b)) [.ref (h0 + t), .int p1] sh P σ (mX11_lay t tw dr p1 σ) := by
  rw [mX11_lay]
  refine Rj.of (by decide) (fun h => by cases h) (Nat.le_of_ble_eq_true rfl) ?_
  refine tj_lv0 (lv' := [(0, .ref (h0 + t)), (1, .int p1)]) rfl ?_
  refine tj_aload_n (q := 1) dX11_lay_0 rfl (i := 0) rfl (pl := 0) rfl ?_
  refine tj_getI (q := 4) (hT).s fok_11_9 wl_RX11_59 dX11_lay_1 rfl ?_
  refine tj_bipush (q := 6) (v := 30) dX11_lay_4 rfl (by decide) ?_
  refine tj_icmp_ge (tgt := 29) (q := 9) dX11_lay_6 (by decide) rfl ?_ ?_
  · exact tj_vret rfl rfl (Nat.le_of_ble_eq_true rfl) (Nat.le_of_ble_eq_true rfl) dX11_lay_29
  · refine tj_aload_n (q := 10) dX11_lay_9 rfl (i := 0) rfl (pl := 0) rfl ?_
    refine tj_getR (q := 13) (hT).s (hT).p_laid fok_11_8 wl_RX11_55 dX11_lay_10 rfl ?_
    refine tj_aload_n (q := 14) dX11_lay_13 rfl (i := 0) rfl (pl := 0) rfl ?_
    refine tj_getI (q := 17) (hT).s fok_11_9 wl_RX11_59 dX11_lay_14 rfl ?_
    refine tj_iload_n (q := 18) dX11_lay_17 rfl (i := 1) rfl (pl := 1) rfl ?_
    refine tj_sndI (fun v1 => ?_)
    refine tj_iastore (q := 19) (hT).s_laid dX11_lay_18 rfl (fun σ2 => ?_)
    refine tj_aload_n (q := 20) dX11_lay_19 rfl (i := 0) rfl (pl := 0) rfl ?_
    refine tj_dup (q := 21) dX11_lay_20 rfl rfl ?_
    refine tj_getI (q := 24) (hT).s fok_11_9 wl_RX11_59 dX11_lay_21 rfl ?_
    refine tj_iconst (q := 25) (v := 1) dX11_lay_24 rfl (by decide) ?_
    refine tj_iadd (q := 26) dX11_lay_25 rfl ?_
    refine tj_putI (q := 29) (hT).s fok_11_9 tok_11 fpk_11_9 wl_RX11_59 dX11_lay_26 rfl (fun σ3 => ?_)
    exact tj_vret rfl rfl (Nat.le_of_ble_eq_true rfl) (Nat.le_of_ble_eq_true rfl) dX11_lay_29

end
