section
variable {l : Launch} {D : va_G} {cA : Nat → ClassId} {h0 : Nat} {ad : Ad_} {sh : Sh_} {P : Px_} {σ : St_}
theorem dX12_sum_0 : decode cX12_sum 0 = .ok (.aload_n 0, 1) := by decide +kernel
theorem dX12_sum_1 : decode cX12_sum 1 = .ok (.invokevirtual 497, 3) := by decide +kernel
theorem dX12_sum_4 : decode cX12_sum 4 = .ok (.aload_n 0, 1) := by decide +kernel
theorem dX12_sum_5 : decode cX12_sum 5 = .ok (.iload_n 1, 1) := by decide +kernel
theorem dX12_sum_6 : decode cX12_sum 6 = .ok (.iload_n 2, 1) := by decide +kernel
theorem dX12_sum_7 : decode cX12_sum 7 = .ok (.invokevirtual 493, 3) := by decide +kernel
theorem dX12_sum_10 : decode cX12_sum 10 = .ok (.ifCond .eq 17, 3) := by decide +kernel
theorem dX12_sum_13 : decode cX12_sum 13 = .ok (.aload_n 0, 1) := by decide +kernel
theorem dX12_sum_14 : decode cX12_sum 14 = .ok (.iload_n 1, 1) := by decide +kernel
theorem dX12_sum_15 : decode cX12_sum 15 = .ok (.iload_n 2, 1) := by decide +kernel
theorem dX12_sum_16 : decode cX12_sum 16 = .ok (.invokestatic 500, 3) := by decide +kernel
theorem dX12_sum_19 : decode cX12_sum 19 = .ok (.iload_n 1, 1) := by decide +kernel
theorem dX12_sum_20 : decode cX12_sum 20 = .ok (.iload_n 2, 1) := by decide +kernel
theorem dX12_sum_21 : decode cX12_sum 21 = .ok (.invokevirtual 504, 3) := by decide +kernel
theorem dX12_sum_24 : decode cX12_sum 24 = .ok (.goto 4, 3) := by decide +kernel
theorem dX12_sum_27 : decode cX12_sum 27 = .ok (.iconst (-1), 1) := by decide +kernel
theorem dX12_sum_28 : decode cX12_sum 28 = .ok (.ireturn, 1) := by decide +kernel
theorem wm_X12_sumAt : Cond.instanceMethod yX12_sumAt ∈ TB ∧ Cond.selects yX12_sumAt.cls yX12_sumAt yX12_sumAt ∈ TB ∧ Cond.initialized yX12_sumAt.cls ∈ TB ∧ Cond.code yX12_sumAt cX12_sumAt 6 (some .int) ∈ TB ∧ (yX12_sumAt.cls ≠ "java/lang/invoke/MethodHandle" ∧ yX12_sumAt.cls ≠ "java/lang/invoke/VarHandle" ∧ (parseMethodDescriptor yX12_sumAt.desc).map (fun d => d.parameters.length) = some 3) ∧ 6 ≤ 21 := ⟨tbm 1926 (by decide +kernel) (by decide +kernel), tbm 95 (by decide +kernel) (by decide +kernel), tbm 146 (by decide +kernel) (by decide +kernel), tbm 1927 (by decide +kernel) (by decide +kernel), by decide +kernel, by decide⟩
theorem wi_RX12_504 : Iv RX12 504 yX12_sumAt cX12_sumAt 6 (some .int) 3 := ⟨tbm 1924 (by decide +kernel) (by decide +kernel), wm_X12_sumAt⟩
def mX12_sum (t : Nat) (p1 : Int32) (p2 : Bool) (σ : St_) : Option (Int32 × St_) :=
 ((mX12_load t σ).bind fun σ1 =>
 ((mX12_isHolder t p1 p2 σ1).bind fun r2 =>
 (if r2 = true then
 ((mX12_whereOf p1 p2 σ1).bind fun r3 =>
 ((mX12_sumAt t r3 p1 p2 σ1).bind fun r4 =>
 (some (r4, σ1))))
 else (some ((-1 : Int32), σ1)))))
set_option maxHeartbeats 4000000 in
theorem rX12_sum (t : Nat) (p1 : Int32) (p2 : Bool) (hT : LY12 sh P t) : Rj l D cA h0 ad yX12_sum cX12_sum 3 (some .int) false 5 0 0 (fun b => (some (.int b.1), sh, P, b.2)) [.ref (h0 + t), .int p1, .int (b2i p2)] sh P σ (mX12_sum t p1 p2 σ) := by
  rw [mX12_sum]
  refine Rj.of (by decide) (fun h => by cases h) (Nat.le_of_ble_eq_true rfl) ?_
  refine tj_lv0 (lv' := [(0, .ref (h0 + t)), (1, .int p1), (2, .int (b2i p2))]) rfl ?_
  refine tj_aload_n (q := 1) dX12_sum_0 rfl (i := 0) rfl (pl := 0) rfl ?_
  refine tj_callV (q := 4) (kj_V (As := []) (rest := []) (t := t) wi_RX12_497 (hT).s rfl (rX12_load t (hT)) rfl (Nat.le_of_ble_eq_true rfl) ⟨Nat.le_of_ble_eq_true rfl, Nat.le_of_ble_eq_true rfl⟩ (Nat.le_of_ble_eq_true rfl) dX12_sum_1) rfl (fun σ1 => ?_)
  refine tj_aload_n (q := 5) dX12_sum_4 rfl (i := 0) rfl (pl := 0) rfl ?_
  refine tj_iload_n (q := 6) dX12_sum_5 rfl (i := 1) rfl (pl := 1) rfl ?_
  refine tj_iload_n (q := 7) dX12_sum_6 rfl (i := 2) rfl (pl := 2) rfl ?_
  refine tj_callZp (q := 10) (kj_V (As := [.int p1, .int (b2i p2)]) (rest := []) (t := t) wi_RX12_493 (hT).s rfl (rX12_isHolder t p1 p2 (hT)) rfl (Nat.le_of_ble_eq_true rfl) ⟨Nat.le_of_ble_eq_true rfl, Nat.le_of_ble_eq_true rfl⟩ (Nat.le_of_ble_eq_true rfl) dX12_sum_7) rfl (fun r2 => ?_)
  refine tj_bz (tgt := 27) (q := 13) dX12_sum_10 (by decide) rfl ?_ ?_
  · refine tj_aload_n (q := 14) dX12_sum_13 rfl (i := 0) rfl (pl := 0) rfl ?_
    refine tj_iload_n (q := 15) dX12_sum_14 rfl (i := 1) rfl (pl := 1) rfl ?_
    refine tj_iload_n (q := 16) dX12_sum_15 rfl (i := 2) rfl (pl := 2) rfl ?_
    refine tj_callIp (q := 19) (kj_S (As := [.int p1, .int (b2i p2)]) (rest := [.ref (h0 + t)]) wi_RX12_500 (rX12_whereOf p1 p2) rfl (Nat.le_of_ble_eq_true rfl) ⟨Nat.le_of_ble_eq_true rfl, Nat.le_of_ble_eq_true rfl⟩ (Nat.le_of_ble_eq_true rfl) dX12_sum_16) rfl (fun r3 => ?_)
    refine tj_iload_n (q := 20) dX12_sum_19 rfl (i := 1) rfl (pl := 1) rfl ?_
    refine tj_iload_n (q := 21) dX12_sum_20 rfl (i := 2) rfl (pl := 2) rfl ?_
    refine tj_callIp (q := 24) (kj_V (As := [.int r3, .int p1, .int (b2i p2)]) (rest := []) (t := t) wi_RX12_504 (hT).s rfl (rX12_sumAt t r3 p1 p2 (hT)) rfl (Nat.le_of_ble_eq_true rfl) ⟨Nat.le_of_ble_eq_true rfl, Nat.le_of_ble_eq_true rfl⟩ (Nat.le_of_ble_eq_true rfl) dX12_sum_21) rfl (fun r4 => ?_)
    refine tj_goto (q := 28) dX12_sum_24 (by decide) ?_
    exact tj_iret rfl rfl (Nat.le_of_ble_eq_true rfl) (Nat.le_of_ble_eq_true rfl) dX12_sum_28
  · refine tj_iconst (q := 28) (v := (-1)) dX12_sum_27 rfl (by decide) ?_
    exact tj_iret rfl rfl (Nat.le_of_ble_eq_true rfl) (Nat.le_of_ble_eq_true rfl) dX12_sum_28

theorem dX12_thief_0 : decode cX12_thief 0 = .ok (.aload_n 0, 1) := by decide +kernel
theorem dX12_thief_1 : decode cX12_thief 1 = .ok (.iload_n 1, 1) := by decide +kernel
theorem dX12_thief_2 : decode cX12_thief 2 = .ok (.invokevirtual 450, 3) := by decide +kernel
theorem dX12_thief_5 : decode cX12_thief 5 = .ok (.ifCond .ne 5, 3) := by decide +kernel
theorem dX12_thief_8 : decode cX12_thief 8 = .ok (.iconst (-1), 1) := by decide +kernel
theorem dX12_thief_9 : decode cX12_thief 9 = .ok (.ireturn, 1) := by decide +kernel
theorem dX12_thief_10 : decode cX12_thief 10 = .ok (.aload_n 0, 1) := by decide +kernel
theorem dX12_thief_11 : decode cX12_thief 11 = .ok (.invokevirtual 497, 3) := by decide +kernel
theorem dX12_thief_14 : decode cX12_thief 14 = .ok (.iload_n 2, 1) := by decide +kernel
theorem dX12_thief_15 : decode cX12_thief 15 = .ok (.ifCond .ne 14, 3) := by decide +kernel
theorem dX12_thief_18 : decode cX12_thief 18 = .ok (.aload_n 0, 1) := by decide +kernel
theorem dX12_thief_19 : decode cX12_thief 19 = .ok (.getfield 459, 3) := by decide +kernel
theorem dX12_thief_22 : decode cX12_thief 22 = .ok (.iload_n 1, 1) := by decide +kernel
theorem dX12_thief_23 : decode cX12_thief 23 = .ok (.ishr, 1) := by decide +kernel
theorem dX12_thief_24 : decode cX12_thief 24 = .ok (.iconst 1, 1) := by decide +kernel
theorem dX12_thief_25 : decode cX12_thief 25 = .ok (.iand, 1) := by decide +kernel
theorem dX12_thief_26 : decode cX12_thief 26 = .ok (.goto 41, 3) := by decide +kernel
theorem dX12_thief_29 : decode cX12_thief 29 = .ok (.iload_n 2, 1) := by decide +kernel
theorem dX12_thief_30 : decode cX12_thief 30 = .ok (.iconst 1, 1) := by decide +kernel
theorem dX12_thief_31 : decode cX12_thief 31 = .ok (.if_icmp .ne 15, 3) := by decide +kernel
theorem dX12_thief_34 : decode cX12_thief 34 = .ok (.aload_n 0, 1) := by decide +kernel
theorem dX12_thief_35 : decode cX12_thief 35 = .ok (.getfield 102, 3) := by decide +kernel
theorem dX12_thief_38 : decode cX12_thief 38 = .ok (.bipush 13, 2) := by decide +kernel
theorem dX12_thief_40 : decode cX12_thief 40 = .ok (.iload_n 1, 1) := by decide +kernel
theorem dX12_thief_41 : decode cX12_thief 41 = .ok (.iadd, 1) := by decide +kernel
theorem dX12_thief_42 : decode cX12_thief 42 = .ok (.iaload, 1) := by decide +kernel
theorem dX12_thief_43 : decode cX12_thief 43 = .ok (.goto 24, 3) := by decide +kernel
theorem dX12_thief_46 : decode cX12_thief 46 = .ok (.iload_n 2, 1) := by decide +kernel
theorem dX12_thief_47 : decode cX12_thief 47 = .ok (.iconst 2, 1) := by decide +kernel
theorem dX12_thief_48 : decode cX12_thief 48 = .ok (.if_icmp .ne 18, 3) := by decide +kernel
theorem dX12_thief_51 : decode cX12_thief 51 = .ok (.aload_n 0, 1) := by decide +kernel
theorem dX12_thief_52 : decode cX12_thief 52 = .ok (.aload_n 0, 1) := by decide +kernel
theorem dX12_thief_53 : decode cX12_thief 53 = .ok (.bipush 10, 2) := by decide +kernel
theorem dX12_thief_55 : decode cX12_thief 55 = .ok (.iload_n 1, 1) := by decide +kernel
theorem dX12_thief_56 : decode cX12_thief 56 = .ok (.iadd, 1) := by decide +kernel
theorem dX12_thief_57 : decode cX12_thief 57 = .ok (.invokevirtual 469, 3) := by decide +kernel
theorem dX12_thief_60 : decode cX12_thief 60 = .ok (.invokevirtual 472, 3) := by decide +kernel
theorem dX12_thief_63 : decode cX12_thief 63 = .ok (.goto 4, 3) := by decide +kernel
theorem dX12_thief_66 : decode cX12_thief 66 = .ok (.iconst (-1), 1) := by decide +kernel
theorem dX12_thief_67 : decode cX12_thief 67 = .ok (.ireturn, 1) := by decide +kernel
def mX12_thief (t : Nat) (p1 : Int32) (p2 : Int32) (σ : St_) : Option (Int32 × St_) :=
 ((mX12_isThief t p1 σ).bind fun r1 =>
 (if r1 = true then
 ((mX12_load t σ).bind fun σ2 =>
 (if p2 = 0 then
 (some ((((σ2.1 t 63) >>> (p1 &&& 31)) &&& (1 : Int32)), σ2))
 else (if p2 = (1 : Int32) then
 (bnd ((13 : Int32) + p1) fun v3 =>
 (if bin v3 20 = true then bnd (σ2.1 (t + 29) v3.toNatClampNeg) fun v4 =>
 (some (v4, σ2))
 else none))
 else (if p2 = (2 : Int32) then
 ((mX12_hasAt t ((10 : Int32) + p1) σ2).bind fun r5 =>
 ((mX12_weightOf t r5 σ2).bind fun r6 =>
 (some (r6, σ2))))
 else (some ((-1 : Int32), σ2))))))
 else (some ((-1 : Int32), σ))))
set_option maxHeartbeats 4000000 in
theorem rX12_thief (t : Nat) (p1 : Int32) (p2 : Int32) (hT : LY12 sh P t) : Rj l D cA h0 ad yX12_thief cX12_thief 3 (some .int) false 4 0 0 (fun b => (some (.int b.1), sh, P, b.2)) [.ref (h0 + t), .int p1, .int p2] sh P σ (mX12_thief t p1 p2 σ) := by
  rw [mX12_thief]
  refine Rj.of (by decide) (fun h => by cases h) (Nat.le_of_ble_eq_true rfl) ?_
  refine tj_lv0 (lv' := [(0, .ref (h0 + t)), (1, .int p1), (2, .int p2)]) rfl ?_
  refine tj_aload_n (q := 1) dX12_thief_0 rfl (i := 0) rfl (pl := 0) rfl ?_
  refine tj_iload_n (q := 2) dX12_thief_1 rfl (i := 1) rfl (pl := 1) rfl ?_
  refine tj_callZp (q := 5) (kj_V (As := [.int p1]) (rest := []) (t := t) wi_RX12_450 (hT).s rfl (rX12_isThief t p1 (hT)) rfl (Nat.le_of_ble_eq_true rfl) ⟨Nat.le_of_ble_eq_true rfl, Nat.le_of_ble_eq_true rfl⟩ (Nat.le_of_ble_eq_true rfl) dX12_thief_2) rfl (fun r1 => ?_)
  refine tj_bnz (tgt := 10) (q := 8) dX12_thief_5 (by decide) rfl ?_ ?_
  · refine tj_aload_n (q := 11) dX12_thief_10 rfl (i := 0) rfl (pl := 0) rfl ?_
    refine tj_callV (q := 14) (kj_V (As := []) (rest := []) (t := t) wi_RX12_497 (hT).s rfl (rX12_load t (hT)) rfl (Nat.le_of_ble_eq_true rfl) ⟨Nat.le_of_ble_eq_true rfl, Nat.le_of_ble_eq_true rfl⟩ (Nat.le_of_ble_eq_true rfl) dX12_thief_11) rfl (fun σ2 => ?_)
    refine tj_iload_n (q := 15) dX12_thief_14 rfl (i := 2) rfl (pl := 2) rfl ?_
    refine tj_if_ne (tgt := 29) (q := 18) dX12_thief_15 (by decide) rfl ?_ ?_
    · refine tj_aload_n (q := 19) dX12_thief_18 rfl (i := 0) rfl (pl := 0) rfl ?_
      refine tj_getI (q := 22) (hT).s fok_12_63 wl_RX12_459 dX12_thief_19 rfl ?_
      refine tj_iload_n (q := 23) dX12_thief_22 rfl (i := 1) rfl (pl := 1) rfl ?_
      refine tj_ishr (q := 24) dX12_thief_23 rfl ?_
      refine tj_iconst (q := 25) (v := 1) dX12_thief_24 rfl (by decide) ?_
      refine tj_iand (q := 26) dX12_thief_25 rfl ?_
      refine tj_goto (q := 67) dX12_thief_26 (by decide) ?_
      exact tj_iret rfl rfl (Nat.le_of_ble_eq_true rfl) (Nat.le_of_ble_eq_true rfl) dX12_thief_67
    · refine tj_iload_n (q := 30) dX12_thief_29 rfl (i := 2) rfl (pl := 2) rfl ?_
      refine tj_iconst (q := 31) (v := 1) dX12_thief_30 rfl (by decide) ?_
      refine tj_icmp_ne (tgt := 46) (q := 34) dX12_thief_31 (by decide) rfl ?_ ?_
      · refine tj_aload_n (q := 35) dX12_thief_34 rfl (i := 0) rfl (pl := 0) rfl ?_
        refine tj_getR (q := 38) (hT).s (hT).p_now fok_12_60 wl_RX12_102 dX12_thief_35 rfl ?_
        refine tj_bipush (q := 40) (v := 13) dX12_thief_38 rfl (by decide) ?_
        refine tj_iload_n (q := 41) dX12_thief_40 rfl (i := 1) rfl (pl := 1) rfl ?_
        refine tj_iadd (q := 42) dX12_thief_41 rfl ?_
        refine tj_topI (fun v3 => ?_)
        refine tj_iaload (q := 43) (hT).s_now dX12_thief_42 rfl ?_
        refine tj_topI (fun v4 => ?_)
        refine tj_goto (q := 67) dX12_thief_43 (by decide) ?_
        exact tj_iret rfl rfl (Nat.le_of_ble_eq_true rfl) (Nat.le_of_ble_eq_true rfl) dX12_thief_67
      · refine tj_iload_n (q := 47) dX12_thief_46 rfl (i := 2) rfl (pl := 2) rfl ?_
        refine tj_iconst (q := 48) (v := 2) dX12_thief_47 rfl (by decide) ?_
        refine tj_icmp_ne (tgt := 66) (q := 51) dX12_thief_48 (by decide) rfl ?_ ?_
        · refine tj_aload_n (q := 52) dX12_thief_51 rfl (i := 0) rfl (pl := 0) rfl ?_
          refine tj_aload_n (q := 53) dX12_thief_52 rfl (i := 0) rfl (pl := 0) rfl ?_
          refine tj_bipush (q := 55) (v := 10) dX12_thief_53 rfl (by decide) ?_
          refine tj_iload_n (q := 56) dX12_thief_55 rfl (i := 1) rfl (pl := 1) rfl ?_
          refine tj_iadd (q := 57) dX12_thief_56 rfl ?_
          refine tj_callIp (q := 60) (kj_V (As := [.int ((10 : Int32) + p1)]) (rest := [.ref (h0 + t)]) (t := t) wi_RX12_469 (hT).s rfl (rX12_hasAt t ((10 : Int32) + p1) (hT)) rfl (Nat.le_of_ble_eq_true rfl) ⟨Nat.le_of_ble_eq_true rfl, Nat.le_of_ble_eq_true rfl⟩ (Nat.le_of_ble_eq_true rfl) dX12_thief_57) rfl (fun r5 => ?_)
          refine tj_callIp (q := 63) (kj_V (As := [.int r5]) (rest := []) (t := t) wi_RX12_472 (hT).s rfl (rX12_weightOf t r5 (hT)) rfl (Nat.le_of_ble_eq_true rfl) ⟨Nat.le_of_ble_eq_true rfl, Nat.le_of_ble_eq_true rfl⟩ (Nat.le_of_ble_eq_true rfl) dX12_thief_60) rfl (fun r6 => ?_)
          refine tj_goto (q := 67) dX12_thief_63 (by decide) ?_
          exact tj_iret rfl rfl (Nat.le_of_ble_eq_true rfl) (Nat.le_of_ble_eq_true rfl) dX12_thief_67
        · refine tj_iconst (q := 67) (v := (-1)) dX12_thief_66 rfl (by decide) ?_
          exact tj_iret rfl rfl (Nat.le_of_ble_eq_true rfl) (Nat.le_of_ble_eq_true rfl) dX12_thief_67
  · refine tj_iconst (q := 9) (v := (-1)) dX12_thief_8 rfl (by decide) ?_
    exact tj_iret rfl rfl (Nat.le_of_ble_eq_true rfl) (Nat.le_of_ble_eq_true rfl) dX12_thief_9

theorem dX12_minutes_0 : decode cX12_minutes 0 = .ok (.aload_n 0, 1) := by decide +kernel
theorem dX12_minutes_1 : decode cX12_minutes 1 = .ok (.iload_n 1, 1) := by decide +kernel
theorem dX12_minutes_2 : decode cX12_minutes 2 = .ok (.invokevirtual 450, 3) := by decide +kernel
theorem dX12_minutes_5 : decode cX12_minutes 5 = .ok (.ifCond .eq 31, 3) := by decide +kernel
theorem dX12_minutes_8 : decode cX12_minutes 8 = .ok (.aload_n 0, 1) := by decide +kernel
theorem dX12_minutes_9 : decode cX12_minutes 9 = .ok (.iload_n 2, 1) := by decide +kernel
theorem dX12_minutes_10 : decode cX12_minutes 10 = .ok (.invokevirtual 453, 3) := by decide +kernel
theorem dX12_minutes_13 : decode cX12_minutes 13 = .ok (.ifCond .eq 23, 3) := by decide +kernel
theorem dX12_minutes_16 : decode cX12_minutes 16 = .ok (.iload_n 3, 1) := by decide +kernel
theorem dX12_minutes_17 : decode cX12_minutes 17 = .ok (.iconst 1, 1) := by decide +kernel
theorem dX12_minutes_18 : decode cX12_minutes 18 = .ok (.bipush 6, 2) := by decide +kernel
theorem dX12_minutes_20 : decode cX12_minutes 20 = .ok (.invokestatic 446, 3) := by decide +kernel
theorem dX12_minutes_23 : decode cX12_minutes 23 = .ok (.ifCond .eq 13, 3) := by decide +kernel
theorem dX12_minutes_26 : decode cX12_minutes 26 = .ok (.aload_n 0, 1) := by decide +kernel
theorem dX12_minutes_27 : decode cX12_minutes 27 = .ok (.iload_n 1, 1) := by decide +kernel
theorem dX12_minutes_28 : decode cX12_minutes 28 = .ok (.iload_n 2, 1) := by decide +kernel
theorem dX12_minutes_29 : decode cX12_minutes 29 = .ok (.iload_n 3, 1) := by decide +kernel
theorem dX12_minutes_30 : decode cX12_minutes 30 = .ok (.invokevirtual 478, 3) := by decide +kernel
theorem dX12_minutes_33 : decode cX12_minutes 33 = .ok (.goto 4, 3) := by decide +kernel
theorem dX12_minutes_36 : decode cX12_minutes 36 = .ok (.iconst (-1), 1) := by decide +kernel
theorem dX12_minutes_37 : decode cX12_minutes 37 = .ok (.ireturn, 1) := by decide +kernel
def mX12_minutes (t : Nat) (p1 : Int32) (p2 : Int32) (p3 : Int32) (σ : St_) : Option Int32 :=
 ((mX12_isThief t p1 σ).bind fun r1 =>
 (if r1 = true then
 ((mX12_isHouse t p2 σ).bind fun r2 =>
 (if r2 = true then
 ((mX12_isIn p3 (1 : Int32) (6 : Int32) σ).bind fun r3 =>
 (if r3 = true then
 ((mX12_minutesOf t p1 p2 p3 σ).bind fun r4 =>
 (some r4))
 else (some (-1 : Int32))))
 else (some (-1 : Int32))))
 else (some (-1 : Int32))))
set_option maxHeartbeats 4000000 in
theorem rX12_minutes (t : Nat) (p1 : Int32) (p2 : Int32) (p3 : Int32) (hT : LY12 sh P t) : Rj l D cA h0 ad yX12_minutes cX12_minutes 4 (some .int) false 4 0 0 (fun b => (some (.int b), sh, P, σ)) [.ref (h0 + t), .int p1, .int p2, .int p3] sh P σ (mX12_minutes t p1 p2 p3 σ) := by
  rw [mX12_minutes]
  refine Rj.of (by decide) (fun h => by cases h) (Nat.le_of_ble_eq_true rfl) ?_
  refine tj_lv0 (lv' := [(0, .ref (h0 + t)), (1, .int p1), (2, .int p2), (3, .int p3)]) rfl ?_
  refine tj_aload_n (q := 1) dX12_minutes_0 rfl (i := 0) rfl (pl := 0) rfl ?_
  refine tj_iload_n (q := 2) dX12_minutes_1 rfl (i := 1) rfl (pl := 1) rfl ?_
  refine tj_callZp (q := 5) (kj_V (As := [.int p1]) (rest := []) (t := t) wi_RX12_450 (hT).s rfl (rX12_isThief t p1 (hT)) rfl (Nat.le_of_ble_eq_true rfl) ⟨Nat.le_of_ble_eq_true rfl, Nat.le_of_ble_eq_true rfl⟩ (Nat.le_of_ble_eq_true rfl) dX12_minutes_2) rfl (fun r1 => ?_)
  refine tj_bz (tgt := 36) (q := 8) dX12_minutes_5 (by decide) rfl ?_ ?_
  · refine tj_aload_n (q := 9) dX12_minutes_8 rfl (i := 0) rfl (pl := 0) rfl ?_
    refine tj_iload_n (q := 10) dX12_minutes_9 rfl (i := 2) rfl (pl := 2) rfl ?_
    refine tj_callZp (q := 13) (kj_V (As := [.int p2]) (rest := []) (t := t) wi_RX12_453 (hT).s rfl (rX12_isHouse t p2 (hT)) rfl (Nat.le_of_ble_eq_true rfl) ⟨Nat.le_of_ble_eq_true rfl, Nat.le_of_ble_eq_true rfl⟩ (Nat.le_of_ble_eq_true rfl) dX12_minutes_10) rfl (fun r2 => ?_)
    refine tj_bz (tgt := 36) (q := 16) dX12_minutes_13 (by decide) rfl ?_ ?_
    · refine tj_iload_n (q := 17) dX12_minutes_16 rfl (i := 3) rfl (pl := 3) rfl ?_
      refine tj_iconst (q := 18) (v := 1) dX12_minutes_17 rfl (by decide) ?_
      refine tj_bipush (q := 20) (v := 6) dX12_minutes_18 rfl (by decide) ?_
      refine tj_callZp (q := 23) (kj_S (As := [.int p3, .int (1 : Int32), .int (6 : Int32)]) (rest := []) wi_RX12_446 (rX12_isIn p3 (1 : Int32) (6 : Int32)) rfl (Nat.le_of_ble_eq_true rfl) ⟨Nat.le_of_ble_eq_true rfl, Nat.le_of_ble_eq_true rfl⟩ (Nat.le_of_ble_eq_true rfl) dX12_minutes_20) rfl (fun r3 => ?_)
      refine tj_bz (tgt := 36) (q := 26) dX12_minutes_23 (by decide) rfl ?_ ?_
      · refine tj_aload_n (q := 27) dX12_minutes_26 rfl (i := 0) rfl (pl := 0) rfl ?_
        refine tj_iload_n (q := 28) dX12_minutes_27 rfl (i := 1) rfl (pl := 1) rfl ?_
        refine tj_iload_n (q := 29) dX12_minutes_28 rfl (i := 2) rfl (pl := 2) rfl ?_
        refine tj_iload_n (q := 30) dX12_minutes_29 rfl (i := 3) rfl (pl := 3) rfl ?_
        refine tj_callIp (q := 33) (kj_V (As := [.int p1, .int p2, .int p3]) (rest := []) (t := t) wi_RX12_478 (hT).s rfl (rX12_minutesOf t p1 p2 p3 (hT)) rfl (Nat.le_of_ble_eq_true rfl) ⟨Nat.le_of_ble_eq_true rfl, Nat.le_of_ble_eq_true rfl⟩ (Nat.le_of_ble_eq_true rfl) dX12_minutes_30) rfl (fun r4 => ?_)
        refine tj_goto (q := 37) dX12_minutes_33 (by decide) ?_
        exact tj_iret rfl rfl (Nat.le_of_ble_eq_true rfl) (Nat.le_of_ble_eq_true rfl) dX12_minutes_37
      · refine tj_iconst (q := 37) (v := (-1)) dX12_minutes_36 rfl (by decide) ?_
        exact tj_iret rfl rfl (Nat.le_of_ble_eq_true rfl) (Nat.le_of_ble_eq_true rfl) dX12_minutes_37
    · refine tj_iconst (q := 37) (v := (-1)) dX12_minutes_36 rfl (by decide) ?_
      exact tj_iret rfl rfl (Nat.le_of_ble_eq_true rfl) (Nat.le_of_ble_eq_true rfl) dX12_minutes_37
  · refine tj_iconst (q := 37) (v := (-1)) dX12_minutes_36 rfl (by decide) ?_
    exact tj_iret rfl rfl (Nat.le_of_ble_eq_true rfl) (Nat.le_of_ble_eq_true rfl) dX12_minutes_37

theorem dX12_areSets_0 : decode cX12_areSets 0 = .ok (.aload_n 0, 1) := by decide +kernel
theorem dX12_areSets_1 : decode cX12_areSets 1 = .ok (.iload_n 1, 1) := by decide +kernel
theorem dX12_areSets_2 : decode cX12_areSets 2 = .ok (.invokevirtual 450, 3) := by decide +kernel
theorem dX12_areSets_5 : decode cX12_areSets 5 = .ok (.ifCond .eq 11, 3) := by decide +kernel
theorem dX12_areSets_8 : decode cX12_areSets 8 = .ok (.aload_n 0, 1) := by decide +kernel
theorem dX12_areSets_9 : decode cX12_areSets 9 = .ok (.iload_n 2, 1) := by decide +kernel
theorem dX12_areSets_10 : decode cX12_areSets 10 = .ok (.invokevirtual 453, 3) := by decide +kernel
theorem dX12_areSets_13 : decode cX12_areSets 13 = .ok (.ifCond .ne 5, 3) := by decide +kernel
theorem dX12_areSets_16 : decode cX12_areSets 16 = .ok (.iconst 0, 1) := by decide +kernel
theorem dX12_areSets_17 : decode cX12_areSets 17 = .ok (.ireturn, 1) := by decide +kernel
theorem dX12_areSets_18 : decode cX12_areSets 18 = .ok (.aload_n 0, 1) := by decide +kernel
theorem dX12_areSets_19 : decode cX12_areSets 19 = .ok (.invokevirtual 497, 3) := by decide +kernel
theorem dX12_areSets_22 : decode cX12_areSets 22 = .ok (.iload_n 3, 1) := by decide +kernel
theorem dX12_areSets_23 : decode cX12_areSets 23 = .ok (.ifCond .le 57, 3) := by decide +kernel
theorem dX12_areSets_26 : decode cX12_areSets 26 = .ok (.iload 4, 2) := by decide +kernel
theorem dX12_areSets_28 : decode cX12_areSets 28 = .ok (.ifCond .lt 52, 3) := by decide +kernel
theorem dX12_areSets_31 : decode cX12_areSets 31 = .ok (.iload_n 3, 1) := by decide +kernel
theorem dX12_areSets_32 : decode cX12_areSets 32 = .ok (.invokestatic 475, 3) := by decide +kernel
theorem dX12_areSets_35 : decode cX12_areSets 35 = .ok (.iconst 3, 1) := by decide +kernel
theorem dX12_areSets_36 : decode cX12_areSets 36 = .ok (.if_icmp .gt 44, 3) := by decide +kernel
theorem dX12_areSets_39 : decode cX12_areSets 39 = .ok (.iload 4, 2) := by decide +kernel
theorem dX12_areSets_41 : decode cX12_areSets 41 = .ok (.invokestatic 475, 3) := by decide +kernel
theorem dX12_areSets_44 : decode cX12_areSets 44 = .ok (.iconst 3, 1) := by decide +kernel
theorem dX12_areSets_45 : decode cX12_areSets 45 = .ok (.if_icmp .gt 35, 3) := by decide +kernel
theorem dX12_areSets_48 : decode cX12_areSets 48 = .ok (.iload_n 3, 1) := by decide +kernel
theorem dX12_areSets_49 : decode cX12_areSets 49 = .ok (.aload_n 0, 1) := by decide +kernel
theorem dX12_areSets_50 : decode cX12_areSets 50 = .ok (.iload_n 2, 1) := by decide +kernel
theorem dX12_areSets_51 : decode cX12_areSets 51 = .ok (.invokevirtual 469, 3) := by decide +kernel
theorem dX12_areSets_54 : decode cX12_areSets 54 = .ok (.iconst (-1), 1) := by decide +kernel
theorem dX12_areSets_55 : decode cX12_areSets 55 = .ok (.ixor, 1) := by decide +kernel
theorem dX12_areSets_56 : decode cX12_areSets 56 = .ok (.iand, 1) := by decide +kernel
theorem dX12_areSets_57 : decode cX12_areSets 57 = .ok (.ifCond .ne 23, 3) := by decide +kernel
theorem dX12_areSets_60 : decode cX12_areSets 60 = .ok (.iload 4, 2) := by decide +kernel
theorem dX12_areSets_62 : decode cX12_areSets 62 = .ok (.aload_n 0, 1) := by decide +kernel
theorem dX12_areSets_63 : decode cX12_areSets 63 = .ok (.bipush 10, 2) := by decide +kernel
theorem dX12_areSets_65 : decode cX12_areSets 65 = .ok (.iload_n 1, 1) := by decide +kernel
theorem dX12_areSets_66 : decode cX12_areSets 66 = .ok (.iadd, 1) := by decide +kernel
theorem dX12_areSets_67 : decode cX12_areSets 67 = .ok (.invokevirtual 469, 3) := by decide +kernel
theorem dX12_areSets_70 : decode cX12_areSets 70 = .ok (.iconst (-1), 1) := by decide +kernel
theorem dX12_areSets_71 : decode cX12_areSets 71 = .ok (.ixor, 1) := by decide +kernel
theorem dX12_areSets_72 : decode cX12_areSets 72 = .ok (.iand, 1) := by decide +kernel
theorem dX12_areSets_73 : decode cX12_areSets 73 = .ok (.ifCond .ne 7, 3) := by decide +kernel
theorem dX12_areSets_76 : decode cX12_areSets 76 = .ok (.iconst 1, 1) := by decide +kernel
theorem dX12_areSets_77 : decode cX12_areSets 77 = .ok (.goto 4, 3) := by decide +kernel
theorem dX12_areSets_80 : decode cX12_areSets 80 = .ok (.iconst 0, 1) := by decide +kernel
theorem dX12_areSets_81 : decode cX12_areSets 81 = .ok (.ireturn, 1) := by decide +kernel
def mX12_areSets (t : Nat) (p1 : Int32) (p2 : Int32) (p3 : Int32) (p4 : Int32) (σ : St_) : Option (Bool × St_) :=
 ((mX12_isThief t p1 σ).bind fun r1 =>
 (if r1 = true then
 ((mX12_isHouse t p2 σ).bind fun r2 =>
 (if r2 = true then
 ((mX12_load t σ).bind fun σ3 =>
 (if p3 ≤ 0 then
 (some (false, σ3))
 else (if p4 < 0 then
 (some (false, σ3))
 else ((mX12_members p3 σ3).bind fun r4 =>
 (if (3 : Int32) < r4 then
 (some (false, σ3))
 else ((mX12_members p4 σ3).bind fun r5 =>
 (if (3 : Int32) < r5 then
 (some (false, σ3))
 else ((mX12_hasAt t p2 σ3).bind fun r6 =>
 (if (p3 &&& (r6 ^^^ (-1 : Int32))) = 0 then
 ((mX12_hasAt t ((10 : Int32) + p1) σ3).bind fun r7 =>
 (if (p4 &&& (r7 ^^^ (-1 : Int32))) = 0 then
 (some (true, σ3))
 else (some (false, σ3))))
 else (some (false, σ3)))))))))))
 else (some (false, σ))))
 else (some (false, σ))))
set_option maxHeartbeats 4000000 in
theorem rX12_areSets (t : Nat) (p1 : Int32) (p2 : Int32) (p3 : Int32) (p4 : Int32) (hT : LY12 sh P t) : Rj l D cA h0 ad yX12_areSets cX12_areSets 5 (some .boolean) false 4 0 0 (fun b => (some (.int (b2i b.1)), sh, P, b.2)) [.ref (h0 + t), .int p1, .int p2, .int p3, .int p4] sh P σ (mX12_areSets t p1 p2 p3 p4 σ) := by
  rw [mX12_areSets]
  refine Rj.of (by decide) (fun h => by cases h) (Nat.le_of_ble_eq_true rfl) ?_
  refine tj_lv0 (lv' := [(0, .ref (h0 + t)), (1, .int p1), (2, .int p2), (3, .int p3), (4, .int p4)]) rfl ?_
  refine tj_aload_n (q := 1) dX12_areSets_0 rfl (i := 0) rfl (pl := 0) rfl ?_
  refine tj_iload_n (q := 2) dX12_areSets_1 rfl (i := 1) rfl (pl := 1) rfl ?_
  refine tj_callZp (q := 5) (kj_V (As := [.int p1]) (rest := []) (t := t) wi_RX12_450 (hT).s rfl (rX12_isThief t p1 (hT)) rfl (Nat.le_of_ble_eq_true rfl) ⟨Nat.le_of_ble_eq_true rfl, Nat.le_of_ble_eq_true rfl⟩ (Nat.le_of_ble_eq_true rfl) dX12_areSets_2) rfl (fun r1 => ?_)
  refine tj_bz (tgt := 16) (q := 8) dX12_areSets_5 (by decide) rfl ?_ ?_
  · refine tj_aload_n (q := 9) dX12_areSets_8 rfl (i := 0) rfl (pl := 0) rfl ?_
    refine tj_iload_n (q := 10) dX12_areSets_9 rfl (i := 2) rfl (pl := 2) rfl ?_
    refine tj_callZp (q := 13) (kj_V (As := [.int p2]) (rest := []) (t := t) wi_RX12_453 (hT).s rfl (rX12_isHouse t p2 (hT)) rfl (Nat.le_of_ble_eq_true rfl) ⟨Nat.le_of_ble_eq_true rfl, Nat.le_of_ble_eq_true rfl⟩ (Nat.le_of_ble_eq_true rfl) dX12_areSets_10) rfl (fun r2 => ?_)
    refine tj_bnz (tgt := 18) (q := 16) dX12_areSets_13 (by decide) rfl ?_ ?_
    · refine tj_aload_n (q := 19) dX12_areSets_18 rfl (i := 0) rfl (pl := 0) rfl ?_
      refine tj_callV (q := 22) (kj_V (As := []) (rest := []) (t := t) wi_RX12_497 (hT).s rfl (rX12_load t (hT)) rfl (Nat.le_of_ble_eq_true rfl) ⟨Nat.le_of_ble_eq_true rfl, Nat.le_of_ble_eq_true rfl⟩ (Nat.le_of_ble_eq_true rfl) dX12_areSets_19) rfl (fun σ3 => ?_)
      refine tj_iload_n (q := 23) dX12_areSets_22 rfl (i := 3) rfl (pl := 3) rfl ?_
      refine tj_if_le (tgt := 80) (q := 26) dX12_areSets_23 (by decide) rfl ?_ ?_
      · refine tj_iconst (q := 81) (v := 0) dX12_areSets_80 rfl (by decide) ?_
        exact tj_zret rfl (by decide) rfl (Nat.le_of_ble_eq_true rfl) (Nat.le_of_ble_eq_true rfl) dX12_areSets_81
      · refine tj_iload (q := 28) dX12_areSets_26 rfl (pl := 4) rfl ?_
        refine tj_if_lt (tgt := 80) (q := 31) dX12_areSets_28 (by decide) rfl ?_ ?_
        · refine tj_iconst (q := 81) (v := 0) dX12_areSets_80 rfl (by decide) ?_
          exact tj_zret rfl (by decide) rfl (Nat.le_of_ble_eq_true rfl) (Nat.le_of_ble_eq_true rfl) dX12_areSets_81
        · refine tj_iload_n (q := 32) dX12_areSets_31 rfl (i := 3) rfl (pl := 3) rfl ?_
          refine tj_callIp (q := 35) (kj_S (As := [.int p3]) (rest := []) wi_RX12_475 (rX12_members p3) rfl (Nat.le_of_ble_eq_true rfl) ⟨Nat.le_of_ble_eq_true rfl, Nat.le_of_ble_eq_true rfl⟩ (Nat.le_of_ble_eq_true rfl) dX12_areSets_32) rfl (fun r4 => ?_)
          refine tj_iconst (q := 36) (v := 3) dX12_areSets_35 rfl (by decide) ?_
          refine tj_icmp_gt (tgt := 80) (q := 39) dX12_areSets_36 (by decide) rfl ?_ ?_
          · refine tj_iconst (q := 81) (v := 0) dX12_areSets_80 rfl (by decide) ?_
            exact tj_zret rfl (by decide) rfl (Nat.le_of_ble_eq_true rfl) (Nat.le_of_ble_eq_true rfl) dX12_areSets_81
          · refine tj_iload (q := 41) dX12_areSets_39 rfl (pl := 4) rfl ?_
            refine tj_callIp (q := 44) (kj_S (As := [.int p4]) (rest := []) wi_RX12_475 (rX12_members p4) rfl (Nat.le_of_ble_eq_true rfl) ⟨Nat.le_of_ble_eq_true rfl, Nat.le_of_ble_eq_true rfl⟩ (Nat.le_of_ble_eq_true rfl) dX12_areSets_41) rfl (fun r5 => ?_)
            refine tj_iconst (q := 45) (v := 3) dX12_areSets_44 rfl (by decide) ?_
            refine tj_icmp_gt (tgt := 80) (q := 48) dX12_areSets_45 (by decide) rfl ?_ ?_
            · refine tj_iconst (q := 81) (v := 0) dX12_areSets_80 rfl (by decide) ?_
              exact tj_zret rfl (by decide) rfl (Nat.le_of_ble_eq_true rfl) (Nat.le_of_ble_eq_true rfl) dX12_areSets_81
            · refine tj_iload_n (q := 49) dX12_areSets_48 rfl (i := 3) rfl (pl := 3) rfl ?_
              refine tj_aload_n (q := 50) dX12_areSets_49 rfl (i := 0) rfl (pl := 0) rfl ?_
              refine tj_iload_n (q := 51) dX12_areSets_50 rfl (i := 2) rfl (pl := 2) rfl ?_
              refine tj_callIp (q := 54) (kj_V (As := [.int p2]) (rest := [.int p3]) (t := t) wi_RX12_469 (hT).s rfl (rX12_hasAt t p2 (hT)) rfl (Nat.le_of_ble_eq_true rfl) ⟨Nat.le_of_ble_eq_true rfl, Nat.le_of_ble_eq_true rfl⟩ (Nat.le_of_ble_eq_true rfl) dX12_areSets_51) rfl (fun r6 => ?_)
              refine tj_iconst (q := 55) (v := (-1)) dX12_areSets_54 rfl (by decide) ?_
              refine tj_ixor (q := 56) dX12_areSets_55 rfl ?_
              refine tj_iand (q := 57) dX12_areSets_56 rfl ?_
              refine tj_if_ne (tgt := 80) (q := 60) dX12_areSets_57 (by decide) rfl ?_ ?_
              · refine tj_iload (q := 62) dX12_areSets_60 rfl (pl := 4) rfl ?_
                refine tj_aload_n (q := 63) dX12_areSets_62 rfl (i := 0) rfl (pl := 0) rfl ?_
                refine tj_bipush (q := 65) (v := 10) dX12_areSets_63 rfl (by decide) ?_
                refine tj_iload_n (q := 66) dX12_areSets_65 rfl (i := 1) rfl (pl := 1) rfl ?_
                refine tj_iadd (q := 67) dX12_areSets_66 rfl ?_
                refine tj_callIp (q := 70) (kj_V (As := [.int ((10 : Int32) + p1)]) (rest := [.int p4]) (t := t) wi_RX12_469 (hT).s rfl (rX12_hasAt t ((10 : Int32) + p1) (hT)) rfl (Nat.le_of_ble_eq_true rfl) ⟨Nat.le_of_ble_eq_true rfl, Nat.le_of_ble_eq_true rfl⟩ (Nat.le_of_ble_eq_true rfl) dX12_areSets_67) rfl (fun r7 => ?_)
                refine tj_iconst (q := 71) (v := (-1)) dX12_areSets_70 rfl (by decide) ?_
                refine tj_ixor (q := 72) dX12_areSets_71 rfl ?_
                refine tj_iand (q := 73) dX12_areSets_72 rfl ?_
                refine tj_if_ne (tgt := 80) (q := 76) dX12_areSets_73 (by decide) rfl ?_ ?_
                · refine tj_iconst (q := 77) (v := 1) dX12_areSets_76 rfl (by decide) ?_
                  refine tj_goto (q := 81) dX12_areSets_77 (by decide) ?_
                  exact tj_zret rfl (by decide) rfl (Nat.le_of_ble_eq_true rfl) (Nat.le_of_ble_eq_true rfl) dX12_areSets_81
                · refine tj_iconst (q := 81) (v := 0) dX12_areSets_80 rfl (by decide) ?_
                  exact tj_zret rfl (by decide) rfl (Nat.le_of_ble_eq_true rfl) (Nat.le_of_ble_eq_true rfl) dX12_areSets_81
              · refine tj_iconst (q := 81) (v := 0) dX12_areSets_80 rfl (by decide) ?_
                exact tj_zret rfl (by decide) rfl (Nat.le_of_ble_eq_true rfl) (Nat.le_of_ble_eq_true rfl) dX12_areSets_81
    · refine tj_iconst (q := 17) (v := 0) dX12_areSets_16 rfl (by decide) ?_
      exact tj_zret rfl (by decide) rfl (Nat.le_of_ble_eq_true rfl) (Nat.le_of_ble_eq_true rfl) dX12_areSets_17
  · refine tj_iconst (q := 17) (v := 0) dX12_areSets_16 rfl (by decide) ?_
    exact tj_zret rfl (by decide) rfl (Nat.le_of_ble_eq_true rfl) (Nat.le_of_ble_eq_true rfl) dX12_areSets_17

theorem dX12_may_0 : decode cX12_may 0 = .ok (.aload_n 0, 1) := by decide +kernel
theorem dX12_may_1 : decode cX12_may 1 = .ok (.iload_n 1, 1) := by decide +kernel
theorem dX12_may_2 : decode cX12_may 2 = .ok (.iload_n 2, 1) := by decide +kernel
theorem dX12_may_3 : decode cX12_may 3 = .ok (.iload_n 3, 1) := by decide +kernel
theorem dX12_may_4 : decode cX12_may 4 = .ok (.iload 4, 2) := by decide +kernel
theorem dX12_may_6 : decode cX12_may 6 = .ok (.invokevirtual 507, 3) := by decide +kernel
theorem dX12_may_9 : decode cX12_may 9 = .ok (.ifCond .eq 13, 3) := by decide +kernel
theorem dX12_may_12 : decode cX12_may 12 = .ok (.iload 5, 2) := by decide +kernel
theorem dX12_may_14 : decode cX12_may 14 = .ok (.iconst 0, 1) := by decide +kernel
theorem dX12_may_15 : decode cX12_may 15 = .ok (.iconst 2, 1) := by decide +kernel
theorem dX12_may_16 : decode cX12_may 16 = .ok (.invokestatic 446, 3) := by decide +kernel
theorem dX12_may_19 : decode cX12_may 19 = .ok (.ifCond .ne 5, 3) := by decide +kernel
theorem dX12_may_22 : decode cX12_may 22 = .ok (.iconst (-1), 1) := by decide +kernel
theorem dX12_may_23 : decode cX12_may 23 = .ok (.ireturn, 1) := by decide +kernel
theorem dX12_may_24 : decode cX12_may 24 = .ok (.iload 5, 2) := by decide +kernel
theorem dX12_may_26 : decode cX12_may 26 = .ok (.ifCond .ne 15, 3) := by decide +kernel
theorem dX12_may_29 : decode cX12_may 29 = .ok (.aload_n 0, 1) := by decide +kernel
theorem dX12_may_30 : decode cX12_may 30 = .ok (.iload_n 1, 1) := by decide +kernel
theorem dX12_may_31 : decode cX12_may 31 = .ok (.iload_n 2, 1) := by decide +kernel
theorem dX12_may_32 : decode cX12_may 32 = .ok (.iload_n 3, 1) := by decide +kernel
theorem dX12_may_33 : decode cX12_may 33 = .ok (.iload 4, 2) := by decide +kernel
theorem dX12_may_35 : decode cX12_may 35 = .ok (.invokevirtual 511, 3) := by decide +kernel
theorem dX12_may_38 : decode cX12_may 38 = .ok (.goto 35, 3) := by decide +kernel
theorem dX12_may_41 : decode cX12_may 41 = .ok (.iload 5, 2) := by decide +kernel
theorem dX12_may_43 : decode cX12_may 43 = .ok (.iconst 1, 1) := by decide +kernel
theorem dX12_may_44 : decode cX12_may 44 = .ok (.if_icmp .ne 11, 3) := by decide +kernel
theorem dX12_may_47 : decode cX12_may 47 = .ok (.aload_n 0, 1) := by decide +kernel
theorem dX12_may_48 : decode cX12_may 48 = .ok (.iload_n 2, 1) := by decide +kernel
theorem dX12_may_49 : decode cX12_may 49 = .ok (.invokevirtual 514, 3) := by decide +kernel
theorem dX12_may_52 : decode cX12_may 52 = .ok (.goto 21, 3) := by decide +kernel
theorem dX12_may_55 : decode cX12_may 55 = .ok (.aload_n 0, 1) := by decide +kernel
theorem dX12_may_56 : decode cX12_may 56 = .ok (.iload_n 2, 1) := by decide +kernel
theorem dX12_may_57 : decode cX12_may 57 = .ok (.iload_n 3, 1) := by decide +kernel
theorem dX12_may_58 : decode cX12_may 58 = .ok (.iload 4, 2) := by decide +kernel
theorem dX12_may_60 : decode cX12_may 60 = .ok (.aload_n 0, 1) := by decide +kernel
theorem dX12_may_61 : decode cX12_may 61 = .ok (.getfield 456, 3) := by decide +kernel
theorem dX12_may_64 : decode cX12_may 64 = .ok (.aload_n 0, 1) := by decide +kernel
theorem dX12_may_65 : decode cX12_may 65 = .ok (.getfield 93, 3) := by decide +kernel
theorem dX12_may_68 : decode cX12_may 68 = .ok (.iload_n 1, 1) := by decide +kernel
theorem dX12_may_69 : decode cX12_may 69 = .ok (.iaload, 1) := by decide +kernel
theorem dX12_may_70 : decode cX12_may 70 = .ok (.invokevirtual 517, 3) := by decide +kernel
theorem dX12_may_73 : decode cX12_may 73 = .ok (.invokestatic 337, 3) := by decide +kernel
theorem dX12_may_76 : decode cX12_may 76 = .ok (.ireturn, 1) := by decide +kernel
theorem wm_X12_areSets : Cond.instanceMethod yX12_areSets ∈ TB ∧ Cond.selects yX12_areSets.cls yX12_areSets yX12_areSets ∈ TB ∧ Cond.initialized yX12_areSets.cls ∈ TB ∧ Cond.code yX12_areSets cX12_areSets 5 (some .boolean) ∈ TB ∧ (yX12_areSets.cls ≠ "java/lang/invoke/MethodHandle" ∧ yX12_areSets.cls ≠ "java/lang/invoke/VarHandle" ∧ (parseMethodDescriptor yX12_areSets.desc).map (fun d => d.parameters.length) = some 4) ∧ 5 ≤ 21 := ⟨tbm 1950 (by decide +kernel) (by decide +kernel), tbm 98 (by decide +kernel) (by decide +kernel), tbm 146 (by decide +kernel) (by decide +kernel), tbm 1951 (by decide +kernel) (by decide +kernel), by decide +kernel, by decide⟩
theorem wi_RX12_507 : Iv RX12 507 yX12_areSets cX12_areSets 5 (some .boolean) 4 := ⟨tbm 1948 (by decide +kernel) (by decide +kernel), wm_X12_areSets⟩
theorem wm_X12_canBe : Cond.instanceMethod yX12_canBe ∈ TB ∧ Cond.selects yX12_canBe.cls yX12_canBe yX12_canBe ∈ TB ∧ Cond.initialized yX12_canBe.cls ∈ TB ∧ Cond.code yX12_canBe cX12_canBe 5 (some .boolean) ∈ TB ∧ (yX12_canBe.cls ≠ "java/lang/invoke/MethodHandle" ∧ yX12_canBe.cls ≠ "java/lang/invoke/VarHandle" ∧ (parseMethodDescriptor yX12_canBe.desc).map (fun d => d.parameters.length) = some 4) ∧ 5 ≤ 21 := ⟨tbm 1957 (by decide +kernel) (by decide +kernel), tbm 99 (by decide +kernel) (by decide +kernel), tbm 146 (by decide +kernel) (by decide +kernel), tbm 1958 (by decide +kernel) (by decide +kernel), by decide +kernel, by decide⟩
theorem wi_RX12_511 : Iv RX12 511 yX12_canBe cX12_canBe 5 (some .boolean) 4 := ⟨tbm 1955 (by decide +kernel) (by decide +kernel), wm_X12_canBe⟩
theorem wm_X12_isSeen : Cond.instanceMethod yX12_isSeen ∈ TB ∧ Cond.selects yX12_isSeen.cls yX12_isSeen yX12_isSeen ∈ TB ∧ Cond.initialized yX12_isSeen.cls ∈ TB ∧ Cond.code yX12_isSeen cX12_isSeen 2 (some .boolean) ∈ TB ∧ (yX12_isSeen.cls ≠ "java/lang/invoke/MethodHandle" ∧ yX12_isSeen.cls ≠ "java/lang/invoke/VarHandle" ∧ (parseMethodDescriptor yX12_isSeen.desc).map (fun d => d.parameters.length) = some 1) ∧ 2 ≤ 21 := ⟨tbm 1961 (by decide +kernel) (by decide +kernel), tbm 100 (by decide +kernel) (by decide +kernel), tbm 146 (by decide +kernel) (by decide +kernel), tbm 1962 (by decide +kernel) (by decide +kernel), by decide +kernel, by decide⟩
theorem wi_RX12_514 : Iv RX12 514 yX12_isSeen cX12_isSeen 2 (some .boolean) 1 := ⟨tbm 1959 (by decide +kernel) (by decide +kernel), wm_X12_isSeen⟩
theorem wm_X12_isLawful : Cond.instanceMethod yX12_isLawful ∈ TB ∧ Cond.selects yX12_isLawful.cls yX12_isLawful yX12_isLawful ∈ TB ∧ Cond.initialized yX12_isLawful.cls ∈ TB ∧ Cond.code yX12_isLawful cX12_isLawful 7 (some .boolean) ∈ TB ∧ (yX12_isLawful.cls ≠ "java/lang/invoke/MethodHandle" ∧ yX12_isLawful.cls ≠ "java/lang/invoke/VarHandle" ∧ (parseMethodDescriptor yX12_isLawful.desc).map (fun d => d.parameters.length) = some 5) ∧ 7 ≤ 21 := ⟨tbm 1965 (by decide +kernel) (by decide +kernel), tbm 101 (by decide +kernel) (by decide +kernel), tbm 146 (by decide +kernel) (by decide +kernel), tbm 1966 (by decide +kernel) (by decide +kernel), by decide +kernel, by decide⟩
theorem wi_RX12_517 : Iv RX12 517 yX12_isLawful cX12_isLawful 7 (some .boolean) 5 := ⟨tbm 1963 (by decide +kernel) (by decide +kernel), wm_X12_isLawful⟩
def mX12_may (t : Nat) (p1 : Int32) (p2 : Int32) (p3 : Int32) (p4 : Int32) (p5 : Int32) (σ : St_) : Option (Int32 × St_) :=
 ((mX12_areSets t p1 p2 p3 p4 σ).bind fun r1 =>
 (if r1.1 = true then
 ((mX12_isIn p5 (0 : Int32) (2 : Int32) r1.2).bind fun r2 =>
 (if r2 = true then
 (bnd (fun (j3 : Bool) (σ4 : St_) => ((mX12_truth j3 σ4).bind fun r7 =>
 (some (r7, σ4)))) fun k5 =>
 (if p5 = 0 then
 ((mX12_canBe t p1 p2 p3 p4 r1.2).bind fun r8 =>
 (k5 r8 r1.2))
 else (if p5 = (1 : Int32) then
 ((mX12_isSeen t p2 r1.2).bind fun r9 =>
 (k5 r9 r1.2))
 else (if bin p1 4 = true then bnd (r1.2.1 (t + 27) p1.toNatClampNeg) fun v10 =>
 ((mX12_isLawful t p2 p3 p4 (r1.2.1 t 62) v10 r1.2).bind fun r11 =>
 (k5 r11.1 r11.2))
 else none))))
 else (some ((-1 : Int32), r1.2))))
 else (some ((-1 : Int32), r1.2))))
set_option maxHeartbeats 4000000 in
theorem rX12_may (t : Nat) (p1 : Int32) (p2 : Int32) (p3 : Int32) (p4 : Int32) (p5 : Int32) (hT : LY12 sh P t) : Rj l D cA h0 ad yX12_may cX12_may 6 (some .int) false 6 0 0 (fun b => (some (.int b.1), sh, P, b.2)) [.ref (h0 + t), .int p1, .int p2, .int p3, .int p4, .int p5] sh P σ (mX12_may t p1 p2 p3 p4 p5 σ) := by
  rw [mX12_may]
  refine Rj.of (by decide) (fun h => by cases h) (Nat.le_of_ble_eq_true rfl) ?_
  refine tj_lv0 (lv' := [(0, .ref (h0 + t)), (1, .int p1), (2, .int p2), (3, .int p3), (4, .int p4), (5, .int p5)]) rfl ?_
  refine tj_aload_n (q := 1) dX12_may_0 rfl (i := 0) rfl (pl := 0) rfl ?_
  refine tj_iload_n (q := 2) dX12_may_1 rfl (i := 1) rfl (pl := 1) rfl ?_
  refine tj_iload_n (q := 3) dX12_may_2 rfl (i := 2) rfl (pl := 2) rfl ?_
  refine tj_iload_n (q := 4) dX12_may_3 rfl (i := 3) rfl (pl := 3) rfl ?_
  refine tj_iload (q := 6) dX12_may_4 rfl (pl := 4) rfl ?_
  refine tj_callZ (q := 9) (kj_V (As := [.int p1, .int p2, .int p3, .int p4]) (rest := []) (t := t) wi_RX12_507 (hT).s rfl (rX12_areSets t p1 p2 p3 p4 (hT)) rfl (Nat.le_of_ble_eq_true rfl) ⟨Nat.le_of_ble_eq_true rfl, Nat.le_of_ble_eq_true rfl⟩ (Nat.le_of_ble_eq_true rfl) dX12_may_6) rfl (fun r1 => ?_)
  refine tj_bz (tgt := 22) (q := 12) dX12_may_9 (by decide) rfl ?_ ?_
  · refine tj_iload (q := 14) dX12_may_12 rfl (pl := 5) rfl ?_
    refine tj_iconst (q := 15) (v := 0) dX12_may_14 rfl (by decide) ?_
    refine tj_iconst (q := 16) (v := 2) dX12_may_15 rfl (by decide) ?_
    refine tj_callZp (q := 19) (kj_S (As := [.int p5, .int (0 : Int32), .int (2 : Int32)]) (rest := []) wi_RX12_446 (rX12_isIn p5 (0 : Int32) (2 : Int32)) rfl (Nat.le_of_ble_eq_true rfl) ⟨Nat.le_of_ble_eq_true rfl, Nat.le_of_ble_eq_true rfl⟩ (Nat.le_of_ble_eq_true rfl) dX12_may_16) rfl (fun r2 => ?_)
    refine tj_bnz (tgt := 24) (q := 22) dX12_may_19 (by decide) rfl ?_ ?_
    · refine tj_iload (q := 26) dX12_may_24 rfl (pl := 5) rfl ?_
      refine tj_bnd (fun k5 => ∀ (j3 : Bool) (σ4 : St_), Tj l D cA h0 ad RX12 cX12_may 6 (some .int) false 6 0 0 (fun b => (some (.int b.1), sh, P, b.2)) 0 0 sh P σ4 73 [] [.int (b2i j3)] (k5 j3 σ4)) ?_ (fun k5 hk6 => ?_)
      · intro j3 σ4
        refine tj_callIp (q := 76) (kj_S (As := [.int (b2i j3)]) (rest := []) wi_RX12_337 (rX12_truth j3) rfl (Nat.le_of_ble_eq_true rfl) ⟨Nat.le_of_ble_eq_true rfl, Nat.le_of_ble_eq_true rfl⟩ (Nat.le_of_ble_eq_true rfl) dX12_may_73) rfl (fun r7 => ?_)
        exact tj_iret rfl rfl (Nat.le_of_ble_eq_true rfl) (Nat.le_of_ble_eq_true rfl) dX12_may_76
      · refine tj_if_ne (tgt := 41) (q := 29) dX12_may_26 (by decide) rfl ?_ ?_
        · refine tj_aload_n (q := 30) dX12_may_29 rfl (i := 0) rfl (pl := 0) rfl ?_
          refine tj_iload_n (q := 31) dX12_may_30 rfl (i := 1) rfl (pl := 1) rfl ?_
          refine tj_iload_n (q := 32) dX12_may_31 rfl (i := 2) rfl (pl := 2) rfl ?_
          refine tj_iload_n (q := 33) dX12_may_32 rfl (i := 3) rfl (pl := 3) rfl ?_
          refine tj_iload (q := 35) dX12_may_33 rfl (pl := 4) rfl ?_
          refine tj_callZp (q := 38) (kj_V (As := [.int p1, .int p2, .int p3, .int p4]) (rest := []) (t := t) wi_RX12_511 (hT).s rfl (rX12_canBe t p1 p2 p3 p4 (hT)) rfl (Nat.le_of_ble_eq_true rfl) ⟨Nat.le_of_ble_eq_true rfl, Nat.le_of_ble_eq_true rfl⟩ (Nat.le_of_ble_eq_true rfl) dX12_may_35) rfl (fun r8 => ?_)
          refine tj_goto (q := 73) dX12_may_38 (by decide) ?_
          refine tj_lv [] rfl ?_
          exact hk6 r8 r1.2
        · refine tj_iload (q := 43) dX12_may_41 rfl (pl := 5) rfl ?_
          refine tj_iconst (q := 44) (v := 1) dX12_may_43 rfl (by decide) ?_
          refine tj_icmp_ne (tgt := 55) (q := 47) dX12_may_44 (by decide) rfl ?_ ?_
          · refine tj_aload_n (q := 48) dX12_may_47 rfl (i := 0) rfl (pl := 0) rfl ?_
            refine tj_iload_n (q := 49) dX12_may_48 rfl (i := 2) rfl (pl := 2) rfl ?_
            refine tj_callZp (q := 52) (kj_V (As := [.int p2]) (rest := []) (t := t) wi_RX12_514 (hT).s rfl (rX12_isSeen t p2 (hT)) rfl (Nat.le_of_ble_eq_true rfl) ⟨Nat.le_of_ble_eq_true rfl, Nat.le_of_ble_eq_true rfl⟩ (Nat.le_of_ble_eq_true rfl) dX12_may_49) rfl (fun r9 => ?_)
            refine tj_goto (q := 73) dX12_may_52 (by decide) ?_
            refine tj_lv [] rfl ?_
            exact hk6 r9 r1.2
          · refine tj_aload_n (q := 56) dX12_may_55 rfl (i := 0) rfl (pl := 0) rfl ?_
            refine tj_iload_n (q := 57) dX12_may_56 rfl (i := 2) rfl (pl := 2) rfl ?_
            refine tj_iload_n (q := 58) dX12_may_57 rfl (i := 3) rfl (pl := 3) rfl ?_
            refine tj_iload (q := 60) dX12_may_58 rfl (pl := 4) rfl ?_
            refine tj_aload_n (q := 61) dX12_may_60 rfl (i := 0) rfl (pl := 0) rfl ?_
            refine tj_getI (q := 64) (hT).s fok_12_62 wl_RX12_456 dX12_may_61 rfl ?_
            refine tj_aload_n (q := 65) dX12_may_64 rfl (i := 0) rfl (pl := 0) rfl ?_
            refine tj_getR (q := 68) (hT).s (hT).p_skill fok_12_43 wl_RX12_93 dX12_may_65 rfl ?_
            refine tj_iload_n (q := 69) dX12_may_68 rfl (i := 1) rfl (pl := 1) rfl ?_
            refine tj_iaload (q := 70) (hT).s_skill dX12_may_69 rfl ?_
            refine tj_topI (fun v10 => ?_)
            refine tj_callZ (q := 73) (kj_V (As := [.int p2, .int p3, .int p4, .int (r1.2.1 t 62), .int v10]) (rest := []) (t := t) wi_RX12_517 (hT).s rfl (rX12_isLawful t p2 p3 p4 (r1.2.1 t 62) v10 (hT)) rfl (Nat.le_of_ble_eq_true rfl) ⟨Nat.le_of_ble_eq_true rfl, Nat.le_of_ble_eq_true rfl⟩ (Nat.le_of_ble_eq_true rfl) dX12_may_70) rfl (fun r11 => ?_)
            refine tj_lv [] rfl ?_
            exact hk6 r11.1 r11.2
    · refine tj_iconst (q := 23) (v := (-1)) dX12_may_22 rfl (by decide) ?_
      exact tj_iret rfl rfl (Nat.le_of_ble_eq_true rfl) (Nat.le_of_ble_eq_true rfl) dX12_may_23
  · refine tj_iconst (q := 23) (v := (-1)) dX12_may_22 rfl (by decide) ?_
    exact tj_iret rfl rfl (Nat.le_of_ble_eq_true rfl) (Nat.le_of_ble_eq_true rfl) dX12_may_23

theorem dX12_act_0 : decode cX12_act 0 = .ok (.aload_n 0, 1) := by decide +kernel
theorem dX12_act_1 : decode cX12_act 1 = .ok (.getfield 434, 3) := by decide +kernel
theorem dX12_act_4 : decode cX12_act 4 = .ok (.bipush 40, 2) := by decide +kernel
theorem dX12_act_6 : decode cX12_act 6 = .ok (.if_icmp .ne 43, 3) := by decide +kernel
theorem dX12_act_9 : decode cX12_act 9 = .ok (.iconst 0, 1) := by decide +kernel
theorem dX12_act_10 : decode cX12_act 10 = .ok (.istore_n 1, 1) := by decide +kernel
theorem dX12_act_11 : decode cX12_act 11 = .ok (.iload_n 1, 1) := by decide +kernel
theorem dX12_act_12 : decode cX12_act 12 = .ok (.sipush 780, 3) := by decide +kernel
theorem dX12_act_15 : decode cX12_act 15 = .ok (.if_icmp .ge 24, 3) := by decide +kernel
theorem dX12_act_18 : decode cX12_act 18 = .ok (.aload_n 0, 1) := by decide +kernel
theorem dX12_act_19 : decode cX12_act 19 = .ok (.getfield 114, 3) := by decide +kernel
theorem dX12_act_22 : decode cX12_act 22 = .ok (.iload_n 1, 1) := by decide +kernel
theorem dX12_act_23 : decode cX12_act 23 = .ok (.aload_n 0, 1) := by decide +kernel
theorem dX12_act_24 : decode cX12_act 24 = .ok (.getfield 114, 3) := by decide +kernel
theorem dX12_act_27 : decode cX12_act 27 = .ok (.bipush 20, 2) := by decide +kernel
theorem dX12_act_29 : decode cX12_act 29 = .ok (.iload_n 1, 1) := by decide +kernel
theorem dX12_act_30 : decode cX12_act 30 = .ok (.iadd, 1) := by decide +kernel
theorem dX12_act_31 : decode cX12_act 31 = .ok (.iaload, 1) := by decide +kernel
theorem dX12_act_32 : decode cX12_act 32 = .ok (.iastore, 1) := by decide +kernel
theorem dX12_act_33 : decode cX12_act 33 = .ok (.iinc 1 1, 3) := by decide +kernel
theorem dX12_act_36 : decode cX12_act 36 = .ok (.goto (-25), 3) := by decide +kernel
theorem dX12_act_39 : decode cX12_act 39 = .ok (.aload_n 0, 1) := by decide +kernel
theorem dX12_act_40 : decode cX12_act 40 = .ok (.dup, 1) := by decide +kernel
theorem dX12_act_41 : decode cX12_act 41 = .ok (.getfield 434, 3) := by decide +kernel
theorem dX12_act_44 : decode cX12_act 44 = .ok (.iconst 1, 1) := by decide +kernel
theorem dX12_act_45 : decode cX12_act 45 = .ok (.isub, 1) := by decide +kernel
theorem dX12_act_46 : decode cX12_act 46 = .ok (.putfield 434, 3) := by decide +kernel
theorem dX12_act_49 : decode cX12_act 49 = .ok (.iconst 0, 1) := by decide +kernel
theorem dX12_act_50 : decode cX12_act 50 = .ok (.istore_n 1, 1) := by decide +kernel
theorem dX12_act_51 : decode cX12_act 51 = .ok (.iload_n 1, 1) := by decide +kernel
theorem dX12_act_52 : decode cX12_act 52 = .ok (.bipush 17, 2) := by decide +kernel
theorem dX12_act_54 : decode cX12_act 54 = .ok (.if_icmp .ge 29, 3) := by decide +kernel
theorem dX12_act_57 : decode cX12_act 57 = .ok (.aload_n 0, 1) := by decide +kernel
theorem dX12_act_58 : decode cX12_act 58 = .ok (.getfield 114, 3) := by decide +kernel
theorem dX12_act_61 : decode cX12_act 61 = .ok (.bipush 20, 2) := by decide +kernel
theorem dX12_act_63 : decode cX12_act 63 = .ok (.aload_n 0, 1) := by decide +kernel
theorem dX12_act_64 : decode cX12_act 64 = .ok (.getfield 434, 3) := by decide +kernel
theorem dX12_act_67 : decode cX12_act 67 = .ok (.imul, 1) := by decide +kernel
theorem dX12_act_68 : decode cX12_act 68 = .ok (.iload_n 1, 1) := by decide +kernel
theorem dX12_act_69 : decode cX12_act 69 = .ok (.iadd, 1) := by decide +kernel
theorem dX12_act_70 : decode cX12_act 70 = .ok (.aload_n 0, 1) := by decide +kernel
theorem dX12_act_71 : decode cX12_act 71 = .ok (.getfield 102, 3) := by decide +kernel
theorem dX12_act_74 : decode cX12_act 74 = .ok (.iload_n 1, 1) := by decide +kernel
theorem dX12_act_75 : decode cX12_act 75 = .ok (.iaload, 1) := by decide +kernel
theorem dX12_act_76 : decode cX12_act 76 = .ok (.iastore, 1) := by decide +kernel
theorem dX12_act_77 : decode cX12_act 77 = .ok (.iinc 1 1, 3) := by decide +kernel
theorem dX12_act_80 : decode cX12_act 80 = .ok (.goto (-29), 3) := by decide +kernel
theorem dX12_act_83 : decode cX12_act 83 = .ok (.aload_n 0, 1) := by decide +kernel
theorem dX12_act_84 : decode cX12_act 84 = .ok (.dup, 1) := by decide +kernel
theorem dX12_act_85 : decode cX12_act 85 = .ok (.getfield 434, 3) := by decide +kernel
theorem dX12_act_88 : decode cX12_act 88 = .ok (.iconst 1, 1) := by decide +kernel
theorem dX12_act_89 : decode cX12_act 89 = .ok (.iadd, 1) := by decide +kernel
theorem dX12_act_90 : decode cX12_act 90 = .ok (.putfield 434, 3) := by decide +kernel
theorem dX12_act_93 : decode cX12_act 93 = .ok (.aload_n 0, 1) := by decide +kernel
theorem dX12_act_94 : decode cX12_act 94 = .ok (.iconst 0, 1) := by decide +kernel
theorem dX12_act_95 : decode cX12_act 95 = .ok (.putfield 437, 3) := by decide +kernel
theorem dX12_act_98 : decode cX12_act 98 = .ok (.return_, 1) := by decide +kernel
theorem wl_RX12_114 : Cond.fieldLink RX12 114 (TX12 67).1 (TX12 67).2.1 (TX12 67).2.2.1 ∈ TB := tbm 1482 (by decide +kernel) (by decide +kernel)
def mX12_act_L51 (t : Nat) (k83 : St_ → Option St_) : Nat → Int32 → St_ → Option St_
  | 0, _, _ => none
  | n + 1, x1, σ => (if (17 : Int32) ≤ x1 then
 (k83 σ)
 else (if bin x1 20 = true then bnd (σ.1 (t + 29) x1.toNatClampNeg) fun v4 =>
 (bnd (((20 : Int32) * (σ.1 t 68)) + x1) fun v5 =>
 (if bin v5 800 = true then bnd (sI σ (t + 31) v5.toNatClampNeg v4) fun σ6 =>
 (mX12_act_L51 t k83 n (x1 + 1) σ6)
 else none))
 else none))
def mX12_act_L11 (t : Nat) (k39 : St_ → Option St_) : Nat → Int32 → St_ → Option St_
  | 0, _, _ => none
  | n + 1, x1, σ => (if (780 : Int32) ≤ x1 then
 (k39 σ)
 else (bnd ((20 : Int32) + x1) fun v10 =>
 (if bin v10 800 = true then bnd (σ.1 (t + 31) v10.toNatClampNeg) fun v11 =>
 (if bin x1 800 = true then bnd (sI σ (t + 31) x1.toNatClampNeg v11) fun σ12 =>
 (mX12_act_L11 t k39 n (x1 + 1) σ12)
 else none)
 else none)))
def mX12_act (t : Nat) (σ : St_) : Option St_ :=
 (bnd (fun (σ1 : St_) => (mX12_act_L51 t
 (fun (σ7 : St_) => (bnd (sI σ7 t 68 ((σ7.1 t 68) + (1 : Int32))) fun σ8 =>
 (bnd (sI σ8 t 69 (0 : Int32)) fun σ9 =>
 (some σ9)))) FU (0 : Int32) σ1)) fun k2 =>
 (if (σ.1 t 68) = (40 : Int32) then
 (mX12_act_L11 t
 (fun (σ13 : St_) => (bnd (sI σ13 t 68 ((σ13.1 t 68) - (1 : Int32))) fun σ14 =>
 (k2 σ14))) FU (0 : Int32) σ)
 else (k2 σ)))
set_option maxHeartbeats 4000000 in
theorem tmX12_act_L51 (t : Nat) (hT : LY12 sh P t) (k83 : St_ → Option St_) (hk83 : ∀ (σ1 : St_), Tj l D cA h0 ad RX12 cX12_act 2 none false 2 0 0 (fun b => (none, sh, P, b)) 0 0 sh P σ1 83 [(0, .ref (h0 + t))] [] (k83 σ1)) : ∀ (n : Nat) (x1 : Int32) (σ : St_), Tj l D cA h0 ad RX12 cX12_act 2 none false 2 0 0 (fun b => (none, sh, P, b)) 0 0 sh P σ 51 [(0, .ref (h0 + t)), (1, .int x1)] [] (mX12_act_L51 t k83 n x1 σ) := by
  intro n
  induction n with
  | zero => intros; exact tj_none
  | succ n ih =>
    intro x1 σ
    rw [mX12_act_L51]
    refine tj_iload_n (q := 52) dX12_act_51 rfl (i := 1) rfl (pl := 1) rfl ?_
    refine tj_bipush (q := 54) (v := 17) dX12_act_52 rfl (by decide) ?_
    refine tj_icmp_ge (tgt := 83) (q := 57) dX12_act_54 (by decide) rfl ?_ ?_
    · refine tj_lv [0] rfl ?_
      exact hk83 σ
    · refine tj_aload_n (q := 58) dX12_act_57 rfl (i := 0) rfl (pl := 0) rfl ?_
      refine tj_getR (q := 61) (hT).s (hT).p_were fok_12_67 wl_RX12_114 dX12_act_58 rfl ?_
      refine tj_bipush (q := 63) (v := 20) dX12_act_61 rfl (by decide) ?_
      refine tj_aload_n (q := 64) dX12_act_63 rfl (i := 0) rfl (pl := 0) rfl ?_
      refine tj_getI (q := 67) (hT).s fok_12_68 wl_RX12_434 dX12_act_64 rfl ?_
      refine tj_imul (q := 68) dX12_act_67 rfl ?_
      refine tj_iload_n (q := 69) dX12_act_68 rfl (i := 1) rfl (pl := 1) rfl ?_
      refine tj_iadd (q := 70) dX12_act_69 rfl ?_
      refine tj_aload_n (q := 71) dX12_act_70 rfl (i := 0) rfl (pl := 0) rfl ?_
      refine tj_getR (q := 74) (hT).s (hT).p_now fok_12_60 wl_RX12_102 dX12_act_71 rfl ?_
      refine tj_iload_n (q := 75) dX12_act_74 rfl (i := 1) rfl (pl := 1) rfl ?_
      refine tj_iaload (q := 76) (hT).s_now dX12_act_75 rfl ?_
      refine tj_topI (fun v4 => ?_)
      refine tj_sndI (fun v5 => ?_)
      refine tj_iastore (q := 77) (hT).s_were dX12_act_76 rfl (fun σ6 => ?_)
      refine tj_iinc (q := 80) (v := x1 + 1) dX12_act_77 rfl (pl := 1) rfl rfl (by decide) rfl ?_
      refine tj_goto (q := 51) dX12_act_80 (by decide) ?_
      refine tj_lv [1, 0] rfl ?_
      exact ih (x1 + 1) σ6

set_option maxHeartbeats 4000000 in
theorem tmX12_act_L11 (t : Nat) (hT : LY12 sh P t) (k39 : St_ → Option St_) (hk39 : ∀ (σ1 : St_), Tj l D cA h0 ad RX12 cX12_act 2 none false 2 0 0 (fun b => (none, sh, P, b)) 0 0 sh P σ1 39 [(0, .ref (h0 + t))] [] (k39 σ1)) : ∀ (n : Nat) (x1 : Int32) (σ : St_), Tj l D cA h0 ad RX12 cX12_act 2 none false 2 0 0 (fun b => (none, sh, P, b)) 0 0 sh P σ 11 [(0, .ref (h0 + t)), (1, .int x1)] [] (mX12_act_L11 t k39 n x1 σ) := by
  intro n
  induction n with
  | zero => intros; exact tj_none
  | succ n ih =>
    intro x1 σ
    rw [mX12_act_L11]
    refine tj_iload_n (q := 12) dX12_act_11 rfl (i := 1) rfl (pl := 1) rfl ?_
    refine tj_sipush (q := 15) (v := 780) dX12_act_12 rfl (by decide) ?_
    refine tj_icmp_ge (tgt := 39) (q := 18) dX12_act_15 (by decide) rfl ?_ ?_
    · refine tj_lv [0] rfl ?_
      exact hk39 σ
    · refine tj_aload_n (q := 19) dX12_act_18 rfl (i := 0) rfl (pl := 0) rfl ?_
      refine tj_getR (q := 22) (hT).s (hT).p_were fok_12_67 wl_RX12_114 dX12_act_19 rfl ?_
      refine tj_iload_n (q := 23) dX12_act_22 rfl (i := 1) rfl (pl := 1) rfl ?_
      refine tj_aload_n (q := 24) dX12_act_23 rfl (i := 0) rfl (pl := 0) rfl ?_
      refine tj_getR (q := 27) (hT).s (hT).p_were fok_12_67 wl_RX12_114 dX12_act_24 rfl ?_
      refine tj_bipush (q := 29) (v := 20) dX12_act_27 rfl (by decide) ?_
      refine tj_iload_n (q := 30) dX12_act_29 rfl (i := 1) rfl (pl := 1) rfl ?_
      refine tj_iadd (q := 31) dX12_act_30 rfl ?_
      refine tj_topI (fun v10 => ?_)
      refine tj_iaload (q := 32) (hT).s_were dX12_act_31 rfl ?_
      refine tj_topI (fun v11 => ?_)
      refine tj_iastore (q := 33) (hT).s_were dX12_act_32 rfl (fun σ12 => ?_)
      refine tj_iinc (q := 36) (v := x1 + 1) dX12_act_33 rfl (pl := 1) rfl rfl (by decide) rfl ?_
      refine tj_goto (q := 11) dX12_act_36 (by decide) ?_
      refine tj_lv [1, 0] rfl ?_
      exact ih (x1 + 1) σ12

set_option maxHeartbeats 4000000 in
theorem rX12_act (t : Nat) (hT : LY12 sh P t) : Rj l D cA h0 ad yX12_act cX12_act 2 none false 2 0 0 (fun b => (none, sh, P, b)) [.ref (h0 + t)] sh P σ (mX12_act t σ) := by
  rw [mX12_act]
  refine Rj.of (by decide) (fun h => by cases h) (Nat.le_of_ble_eq_true rfl) ?_
  refine tj_lv0 (lv' := [(0, .ref (h0 + t))]) rfl ?_
  refine tj_aload_n (q := 1) dX12_act_0 rfl (i := 0) rfl (pl := 0) rfl ?_
  refine tj_getI (q := 4) (hT).s fok_12_68 wl_RX12_434 dX12_act_1 rfl ?_
  refine tj_bipush (q := 6) (v := 40) dX12_act_4 rfl (by decide) ?_
  refine tj_bnd (fun k2 => ∀ (σ1 : St_), Tj l D cA h0 ad RX12 cX12_act 2 none false 2 0 0 (fun b => (none, sh, P, b)) 0 0 sh P σ1 49 [(0, .ref (h0 + t))] [] (k2 σ1)) ?_ (fun k2 hk3 => ?_)
  · intro σ1
    refine tj_iconst (q := 50) (v := 0) dX12_act_49 rfl (by decide) ?_
    refine tj_istore_n (q := 51) dX12_act_50 rfl (i := 1) rfl (by decide) rfl ?_
    refine tj_lv [1, 0] rfl ?_
    refine tmX12_act_L51 t hT _ ?_ FU (0 : Int32) σ1
    · intro σ7
      refine tj_aload_n (q := 84) dX12_act_83 rfl (i := 0) rfl (pl := 0) rfl ?_
      refine tj_dup (q := 85) dX12_act_84 rfl rfl ?_
      refine tj_getI (q := 88) (hT).s fok_12_68 wl_RX12_434 dX12_act_85 rfl ?_
      refine tj_iconst (q := 89) (v := 1) dX12_act_88 rfl (by decide) ?_
      refine tj_iadd (q := 90) dX12_act_89 rfl ?_
      refine tj_putI (q := 93) (hT).s fok_12_68 tok_12 fpk_12_68 wl_RX12_434 dX12_act_90 rfl (fun σ8 => ?_)
      refine tj_aload_n (q := 94) dX12_act_93 rfl (i := 0) rfl (pl := 0) rfl ?_
      refine tj_iconst (q := 95) (v := 0) dX12_act_94 rfl (by decide) ?_
      refine tj_putI (q := 98) (hT).s fok_12_69 tok_12 fpk_12_69 wl_RX12_437 dX12_act_95 rfl (fun σ9 => ?_)
      exact tj_vret rfl rfl (Nat.le_of_ble_eq_true rfl) (Nat.le_of_ble_eq_true rfl) dX12_act_98
  · refine tj_icmp_ne (tgt := 49) (q := 9) dX12_act_6 (by decide) rfl ?_ ?_
    · refine tj_iconst (q := 10) (v := 0) dX12_act_9 rfl (by decide) ?_
      refine tj_istore_n (q := 11) dX12_act_10 rfl (i := 1) rfl (by decide) rfl ?_
      refine tj_lv [1, 0] rfl ?_
      refine tmX12_act_L11 t hT _ ?_ FU (0 : Int32) σ
      · intro σ13
        refine tj_aload_n (q := 40) dX12_act_39 rfl (i := 0) rfl (pl := 0) rfl ?_
        refine tj_dup (q := 41) dX12_act_40 rfl rfl ?_
        refine tj_getI (q := 44) (hT).s fok_12_68 wl_RX12_434 dX12_act_41 rfl ?_
        refine tj_iconst (q := 45) (v := 1) dX12_act_44 rfl (by decide) ?_
        refine tj_isub (q := 46) dX12_act_45 rfl ?_
        refine tj_putI (q := 49) (hT).s fok_12_68 tok_12 fpk_12_68 wl_RX12_434 dX12_act_46 rfl (fun σ14 => ?_)
        exact hk3 σ14
    · exact hk3 σ

theorem dX12_exchange_0 : decode cX12_exchange 0 = .ok (.iconst 0, 1) := by decide +kernel
theorem dX12_exchange_1 : decode cX12_exchange 1 = .ok (.istore_n 2, 1) := by decide +kernel
theorem dX12_exchange_2 : decode cX12_exchange 2 = .ok (.iload_n 2, 1) := by decide +kernel
theorem dX12_exchange_3 : decode cX12_exchange 3 = .ok (.bipush 17, 2) := by decide +kernel
theorem dX12_exchange_5 : decode cX12_exchange 5 = .ok (.if_icmp .ge 39, 3) := by decide +kernel
theorem dX12_exchange_8 : decode cX12_exchange 8 = .ok (.aload_n 0, 1) := by decide +kernel
theorem dX12_exchange_9 : decode cX12_exchange 9 = .ok (.getfield 114, 3) := by decide +kernel
theorem dX12_exchange_12 : decode cX12_exchange 12 = .ok (.iload_n 1, 1) := by decide +kernel
theorem dX12_exchange_13 : decode cX12_exchange 13 = .ok (.iload_n 2, 1) := by decide +kernel
theorem dX12_exchange_14 : decode cX12_exchange 14 = .ok (.iadd, 1) := by decide +kernel
theorem dX12_exchange_15 : decode cX12_exchange 15 = .ok (.iaload, 1) := by decide +kernel
theorem dX12_exchange_16 : decode cX12_exchange 16 = .ok (.istore_n 3, 1) := by decide +kernel
theorem dX12_exchange_17 : decode cX12_exchange 17 = .ok (.aload_n 0, 1) := by decide +kernel
theorem dX12_exchange_18 : decode cX12_exchange 18 = .ok (.getfield 114, 3) := by decide +kernel
theorem dX12_exchange_21 : decode cX12_exchange 21 = .ok (.iload_n 1, 1) := by decide +kernel
theorem dX12_exchange_22 : decode cX12_exchange 22 = .ok (.iload_n 2, 1) := by decide +kernel
theorem dX12_exchange_23 : decode cX12_exchange 23 = .ok (.iadd, 1) := by decide +kernel
theorem dX12_exchange_24 : decode cX12_exchange 24 = .ok (.aload_n 0, 1) := by decide +kernel
theorem dX12_exchange_25 : decode cX12_exchange 25 = .ok (.getfield 102, 3) := by decide +kernel
theorem dX12_exchange_28 : decode cX12_exchange 28 = .ok (.iload_n 2, 1) := by decide +kernel
theorem dX12_exchange_29 : decode cX12_exchange 29 = .ok (.iaload, 1) := by decide +kernel
theorem dX12_exchange_30 : decode cX12_exchange 30 = .ok (.iastore, 1) := by decide +kernel
theorem dX12_exchange_31 : decode cX12_exchange 31 = .ok (.aload_n 0, 1) := by decide +kernel
theorem dX12_exchange_32 : decode cX12_exchange 32 = .ok (.getfield 102, 3) := by decide +kernel
theorem dX12_exchange_35 : decode cX12_exchange 35 = .ok (.iload_n 2, 1) := by decide +kernel
theorem dX12_exchange_36 : decode cX12_exchange 36 = .ok (.iload_n 3, 1) := by decide +kernel
theorem dX12_exchange_37 : decode cX12_exchange 37 = .ok (.iastore, 1) := by decide +kernel
theorem dX12_exchange_38 : decode cX12_exchange 38 = .ok (.iinc 2 1, 3) := by decide +kernel
theorem dX12_exchange_41 : decode cX12_exchange 41 = .ok (.goto (-39), 3) := by decide +kernel
theorem dX12_exchange_44 : decode cX12_exchange 44 = .ok (.return_, 1) := by decide +kernel
def mX12_exchange_L2 (t : Nat) (x1 : Int32) : Nat → Int32 → St_ → Option St_
  | 0, _, _ => none
  | n + 1, x2, σ => (if (17 : Int32) ≤ x2 then
 (some σ)
 else (bnd (x1 + x2) fun v1 =>
 (if bin v1 800 = true then bnd (σ.1 (t + 31) v1.toNatClampNeg) fun v2 =>
 (if bin x2 20 = true then bnd (σ.1 (t + 29) x2.toNatClampNeg) fun v3 =>
 (bnd (x1 + x2) fun v4 =>
 (if bin v4 800 = true then bnd (sI σ (t + 31) v4.toNatClampNeg v3) fun σ5 =>
 (if bin x2 20 = true then bnd (sI σ5 (t + 29) x2.toNatClampNeg v2) fun σ6 =>
 (mX12_exchange_L2 t x1 n (x2 + 1) σ6)
 else none)
 else none))
 else none)
 else none)))
def mX12_exchange (t : Nat) (p1 : Int32) (σ : St_) : Option St_ :=
 (mX12_exchange_L2 t p1 FU (0 : Int32) σ)
set_option maxHeartbeats 4000000 in
theorem tmX12_exchange_L2 (t : Nat) (hT : LY12 sh P t) (x1 : Int32) : ∀ (n : Nat) (x2 : Int32) (σ : St_), Tj l D cA h0 ad RX12 cX12_exchange 4 none false 2 0 0 (fun b => (none, sh, P, b)) 0 0 sh P σ 2 [(0, .ref (h0 + t)), (1, .int x1), (2, .int x2)] [] (mX12_exchange_L2 t x1 n x2 σ) := by
  intro n
  induction n with
  | zero => intros; exact tj_none
  | succ n ih =>
    intro x2 σ
    rw [mX12_exchange_L2]
    refine tj_iload_n (q := 3) dX12_exchange_2 rfl (i := 2) rfl (pl := 2) rfl ?_
    refine tj_bipush (q := 5) (v := 17) dX12_exchange_3 rfl (by decide) ?_
    refine tj_icmp_ge (tgt := 44) (q := 8) dX12_exchange_5 (by decide) rfl ?_ ?_
    · exact tj_vret rfl rfl (Nat.le_of_ble_eq_true rfl) (Nat.le_of_ble_eq_true rfl) dX12_exchange_44
    · refine tj_aload_n (q := 9) dX12_exchange_8 rfl (i := 0) rfl (pl := 0) rfl ?_
      refine tj_getR (q := 12) (hT).s (hT).p_were fok_12_67 wl_RX12_114 dX12_exchange_9 rfl ?_
      refine tj_iload_n (q := 13) dX12_exchange_12 rfl (i := 1) rfl (pl := 1) rfl ?_
      refine tj_iload_n (q := 14) dX12_exchange_13 rfl (i := 2) rfl (pl := 2) rfl ?_
      refine tj_iadd (q := 15) dX12_exchange_14 rfl ?_
      refine tj_topI (fun v1 => ?_)
      refine tj_iaload (q := 16) (hT).s_were dX12_exchange_15 rfl ?_
      refine tj_topI (fun v2 => ?_)
      refine tj_istore_n (q := 17) dX12_exchange_16 rfl (i := 3) rfl (by decide) rfl ?_
      refine tj_aload_n (q := 18) dX12_exchange_17 rfl (i := 0) rfl (pl := 1) rfl ?_
      refine tj_getR (q := 21) (hT).s (hT).p_were fok_12_67 wl_RX12_114 dX12_exchange_18 rfl ?_
      refine tj_iload_n (q := 22) dX12_exchange_21 rfl (i := 1) rfl (pl := 2) rfl ?_
      refine tj_iload_n (q := 23) dX12_exchange_22 rfl (i := 2) rfl (pl := 3) rfl ?_
      refine tj_iadd (q := 24) dX12_exchange_23 rfl ?_
      refine tj_aload_n (q := 25) dX12_exchange_24 rfl (i := 0) rfl (pl := 1) rfl ?_
      refine tj_getR (q := 28) (hT).s (hT).p_now fok_12_60 wl_RX12_102 dX12_exchange_25 rfl ?_
      refine tj_iload_n (q := 29) dX12_exchange_28 rfl (i := 2) rfl (pl := 3) rfl ?_
      refine tj_iaload (q := 30) (hT).s_now dX12_exchange_29 rfl ?_
      refine tj_topI (fun v3 => ?_)
      refine tj_sndI (fun v4 => ?_)
      refine tj_iastore (q := 31) (hT).s_were dX12_exchange_30 rfl (fun σ5 => ?_)
      refine tj_aload_n (q := 32) dX12_exchange_31 rfl (i := 0) rfl (pl := 1) rfl ?_
      refine tj_getR (q := 35) (hT).s (hT).p_now fok_12_60 wl_RX12_102 dX12_exchange_32 rfl ?_
      refine tj_iload_n (q := 36) dX12_exchange_35 rfl (i := 2) rfl (pl := 3) rfl ?_
      refine tj_iload_n (q := 37) dX12_exchange_36 rfl (i := 3) rfl (pl := 0) rfl ?_
      refine tj_iastore (q := 38) (hT).s_now dX12_exchange_37 rfl (fun σ6 => ?_)
      refine tj_iinc (q := 41) (v := x2 + 1) dX12_exchange_38 rfl (pl := 3) rfl rfl (by decide) rfl ?_
      refine tj_goto (q := 2) dX12_exchange_41 (by decide) ?_
      refine tj_lv [2, 3, 0] rfl ?_
      exact ih (x2 + 1) σ6

set_option maxHeartbeats 4000000 in
theorem rX12_exchange (t : Nat) (p1 : Int32) (hT : LY12 sh P t) : Rj l D cA h0 ad yX12_exchange cX12_exchange 4 none false 2 0 0 (fun b => (none, sh, P, b)) [.ref (h0 + t), .int p1] sh P σ (mX12_exchange t p1 σ) := by
  rw [mX12_exchange]
  refine Rj.of (by decide) (fun h => by cases h) (Nat.le_of_ble_eq_true rfl) ?_
  refine tj_lv0 (lv' := [(0, .ref (h0 + t)), (1, .int p1)]) rfl ?_
  refine tj_iconst (q := 1) (v := 0) dX12_exchange_0 rfl (by decide) ?_
  refine tj_istore_n (q := 2) dX12_exchange_1 rfl (i := 2) rfl (by decide) rfl ?_
  refine tj_lv [1, 2, 0] rfl ?_
  exact tmX12_exchange_L2 t hT p1 FU (0 : Int32) σ

theorem dX12_keepOn_0 : decode cX12_keepOn 0 = .ok (.aload_n 0, 1) := by decide +kernel
theorem dX12_keepOn_1 : decode cX12_keepOn 1 = .ok (.invokevirtual 521, 3) := by decide +kernel
theorem dX12_keepOn_4 : decode cX12_keepOn 4 = .ok (.aload_n 0, 1) := by decide +kernel
theorem dX12_keepOn_5 : decode cX12_keepOn 5 = .ok (.getfield 456, 3) := by decide +kernel
theorem dX12_keepOn_8 : decode cX12_keepOn 8 = .ok (.ifCond .ne 14, 3) := by decide +kernel
theorem dX12_keepOn_11 : decode cX12_keepOn 11 = .ok (.aload_n 0, 1) := by decide +kernel
theorem dX12_keepOn_12 : decode cX12_keepOn 12 = .ok (.getfield 102, 3) := by decide +kernel
theorem dX12_keepOn_15 : decode cX12_keepOn 15 = .ok (.bipush 10, 2) := by decide +kernel
theorem dX12_keepOn_17 : decode cX12_keepOn 17 = .ok (.dup2, 1) := by decide +kernel
theorem dX12_keepOn_18 : decode cX12_keepOn 18 = .ok (.iaload, 1) := by decide +kernel
theorem dX12_keepOn_19 : decode cX12_keepOn 19 = .ok (.iconst 1, 1) := by decide +kernel
theorem dX12_keepOn_20 : decode cX12_keepOn 20 = .ok (.iadd, 1) := by decide +kernel
theorem dX12_keepOn_21 : decode cX12_keepOn 21 = .ok (.iastore, 1) := by decide +kernel
theorem dX12_keepOn_22 : decode cX12_keepOn 22 = .ok (.iconst 0, 1) := by decide +kernel
theorem dX12_keepOn_23 : decode cX12_keepOn 23 = .ok (.istore_n 1, 1) := by decide +kernel
theorem dX12_keepOn_24 : decode cX12_keepOn 24 = .ok (.iload_n 1, 1) := by decide +kernel
theorem dX12_keepOn_25 : decode cX12_keepOn 25 = .ok (.bipush 10, 2) := by decide +kernel
theorem dX12_keepOn_27 : decode cX12_keepOn 27 = .ok (.if_icmp .ge 21, 3) := by decide +kernel
theorem dX12_keepOn_30 : decode cX12_keepOn 30 = .ok (.aload_n 0, 1) := by decide +kernel
theorem dX12_keepOn_31 : decode cX12_keepOn 31 = .ok (.getfield 102, 3) := by decide +kernel
theorem dX12_keepOn_34 : decode cX12_keepOn 34 = .ok (.iload_n 1, 1) := by decide +kernel
theorem dX12_keepOn_35 : decode cX12_keepOn 35 = .ok (.aload_n 0, 1) := by decide +kernel
theorem dX12_keepOn_36 : decode cX12_keepOn 36 = .ok (.getfield 105, 3) := by decide +kernel
theorem dX12_keepOn_39 : decode cX12_keepOn 39 = .ok (.iload_n 1, 1) := by decide +kernel
theorem dX12_keepOn_40 : decode cX12_keepOn 40 = .ok (.iaload, 1) := by decide +kernel
theorem dX12_keepOn_41 : decode cX12_keepOn 41 = .ok (.iastore, 1) := by decide +kernel
theorem dX12_keepOn_42 : decode cX12_keepOn 42 = .ok (.iinc 1 1, 3) := by decide +kernel
theorem dX12_keepOn_45 : decode cX12_keepOn 45 = .ok (.goto (-21), 3) := by decide +kernel
theorem dX12_keepOn_48 : decode cX12_keepOn 48 = .ok (.aload_n 0, 1) := by decide +kernel
theorem dX12_keepOn_49 : decode cX12_keepOn 49 = .ok (.getfield 102, 3) := by decide +kernel
theorem dX12_keepOn_52 : decode cX12_keepOn 52 = .ok (.bipush 11, 2) := by decide +kernel
theorem dX12_keepOn_54 : decode cX12_keepOn 54 = .ok (.aload_n 0, 1) := by decide +kernel
theorem dX12_keepOn_55 : decode cX12_keepOn 55 = .ok (.getfield 456, 3) := by decide +kernel
theorem dX12_keepOn_58 : decode cX12_keepOn 58 = .ok (.iastore, 1) := by decide +kernel
theorem dX12_keepOn_59 : decode cX12_keepOn 59 = .ok (.aload_n 0, 1) := by decide +kernel
theorem dX12_keepOn_60 : decode cX12_keepOn 60 = .ok (.getfield 102, 3) := by decide +kernel
theorem dX12_keepOn_63 : decode cX12_keepOn 63 = .ok (.bipush 12, 2) := by decide +kernel
theorem dX12_keepOn_65 : decode cX12_keepOn 65 = .ok (.aload_n 0, 1) := by decide +kernel
theorem dX12_keepOn_66 : decode cX12_keepOn 66 = .ok (.getfield 459, 3) := by decide +kernel
theorem dX12_keepOn_69 : decode cX12_keepOn 69 = .ok (.iastore, 1) := by decide +kernel
theorem dX12_keepOn_70 : decode cX12_keepOn 70 = .ok (.return_, 1) := by decide +kernel
theorem wm_X12_tick : Cond.instanceMethod yX12_tick ∈ TB ∧ Cond.selects yX12_tick.cls yX12_tick yX12_tick ∈ TB ∧ Cond.initialized yX12_tick.cls ∈ TB ∧ Cond.code yX12_tick cX12_tick 1 none ∈ TB ∧ (yX12_tick.cls ≠ "java/lang/invoke/MethodHandle" ∧ yX12_tick.cls ≠ "java/lang/invoke/VarHandle" ∧ (parseMethodDescriptor yX12_tick.desc).map (fun d => d.parameters.length) = some 0) ∧ 1 ≤ 21 := ⟨tbm 2003 (by decide +kernel) (by decide +kernel), tbm 108 (by decide +kernel) (by decide +kernel), tbm 146 (by decide +kernel) (by decide +kernel), tbm 2004 (by decide +kernel) (by decide +kernel), by decide +kernel, by decide⟩
theorem wi_RX12_521 : Iv RX12 521 yX12_tick cX12_tick 1 none 0 := ⟨tbm 2001 (by decide +kernel) (by decide +kernel), wm_X12_tick⟩
def mX12_keepOn_L24 (t : Nat) (k48 : St_ → Option St_) : Nat → Int32 → St_ → Option St_
  | 0, _, _ => none
  | n + 1, x1, σ => (if (10 : Int32) ≤ x1 then
 (k48 σ)
 else (if bin x1 10 = true then bnd (σ.1 (t + 30) x1.toNatClampNeg) fun v5 =>
 (if bin x1 20 = true then bnd (sI σ (t + 29) x1.toNatClampNeg v5) fun σ6 =>
 (mX12_keepOn_L24 t k48 n (x1 + 1) σ6)
 else none)
 else none))
def mX12_keepOn (t : Nat) (σ : St_) : Option St_ :=
 ((mX12_tick t σ).bind fun σ1 =>
 (bnd (fun (σ2 : St_) => (mX12_keepOn_L24 t
 (fun (σ7 : St_) => (if bin (11 : Int32) 20 = true then bnd (sI σ7 (t + 29) (11 : Int32).toNatClampNeg (σ7.1 t 62)) fun σ8 =>
 (if bin (12 : Int32) 20 = true then bnd (sI σ8 (t + 29) (12 : Int32).toNatClampNeg (σ8.1 t 63)) fun σ9 =>
 (some σ9)
 else none)
 else none)) FU (0 : Int32) σ2)) fun k3 =>
 (if (σ1.1 t 62) = 0 then
 (if bin (10 : Int32) 20 = true then bnd (σ1.1 (t + 29) (10 : Int32).toNatClampNeg) fun v10 =>
 (if bin (10 : Int32) 20 = true then bnd (sI σ1 (t + 29) (10 : Int32).toNatClampNeg (v10 + (1 : Int32))) fun σ11 =>
 (k3 σ11)
 else none)
 else none)
 else (k3 σ1))))
set_option maxHeartbeats 4000000 in
theorem tmX12_keepOn_L24 (t : Nat) (hT : LY12 sh P t) (k48 : St_ → Option St_) (hk48 : ∀ (σ1 : St_), Tj l D cA h0 ad RX12 cX12_keepOn 2 none false 3 0 0 (fun b => (none, sh, P, b)) 0 0 sh P σ1 48 [(0, .ref (h0 + t))] [] (k48 σ1)) : ∀ (n : Nat) (x1 : Int32) (σ : St_), Tj l D cA h0 ad RX12 cX12_keepOn 2 none false 3 0 0 (fun b => (none, sh, P, b)) 0 0 sh P σ 24 [(0, .ref (h0 + t)), (1, .int x1)] [] (mX12_keepOn_L24 t k48 n x1 σ) := by
  intro n
  induction n with
  | zero => intros; exact tj_none
  | succ n ih =>
    intro x1 σ
    rw [mX12_keepOn_L24]
    refine tj_iload_n (q := 25) dX12_keepOn_24 rfl (i := 1) rfl (pl := 1) rfl ?_
    refine tj_bipush (q := 27) (v := 10) dX12_keepOn_25 rfl (by decide) ?_
    refine tj_icmp_ge (tgt := 48) (q := 30) dX12_keepOn_27 (by decide) rfl ?_ ?_
    · refine tj_lv [0] rfl ?_
      exact hk48 σ
    · refine tj_aload_n (q := 31) dX12_keepOn_30 rfl (i := 0) rfl (pl := 0) rfl ?_
      refine tj_getR (q := 34) (hT).s (hT).p_now fok_12_60 wl_RX12_102 dX12_keepOn_31 rfl ?_
      refine tj_iload_n (q := 35) dX12_keepOn_34 rfl (i := 1) rfl (pl := 1) rfl ?_
      refine tj_aload_n (q := 36) dX12_keepOn_35 rfl (i := 0) rfl (pl := 0) rfl ?_
      refine tj_getR (q := 39) (hT).s (hT).p_w fok_12_61 wl_RX12_105 dX12_keepOn_36 rfl ?_
      refine tj_iload_n (q := 40) dX12_keepOn_39 rfl (i := 1) rfl (pl := 1) rfl ?_
      refine tj_iaload (q := 41) (hT).s_w dX12_keepOn_40 rfl ?_
      refine tj_topI (fun v5 => ?_)
      refine tj_iastore (q := 42) (hT).s_now dX12_keepOn_41 rfl (fun σ6 => ?_)
      refine tj_iinc (q := 45) (v := x1 + 1) dX12_keepOn_42 rfl (pl := 1) rfl rfl (by decide) rfl ?_
      refine tj_goto (q := 24) dX12_keepOn_45 (by decide) ?_
      refine tj_lv [1, 0] rfl ?_
      exact ih (x1 + 1) σ6

set_option maxHeartbeats 4000000 in
theorem rX12_keepOn (t : Nat) (hT : LY12 sh P t) : Rj l D cA h0 ad yX12_keepOn cX12_keepOn 2 none false 3 0 0 (fun b => (none, sh, P, b)) [.ref (h0 + t)] sh P σ (mX12_keepOn t σ) := by
  rw [mX12_keepOn]
  refine Rj.of (by decide) (fun h => by cases h) (Nat.le_of_ble_eq_true rfl) ?_
  refine tj_lv0 (lv' := [(0, .ref (h0 + t))]) rfl ?_
  refine tj_aload_n (q := 1) dX12_keepOn_0 rfl (i := 0) rfl (pl := 0) rfl ?_
  refine tj_callV (q := 4) (kj_V (As := []) (rest := []) (t := t) wi_RX12_521 (hT).s rfl (rX12_tick t (hT)) rfl (Nat.le_of_ble_eq_true rfl) ⟨Nat.le_of_ble_eq_true rfl, Nat.le_of_ble_eq_true rfl⟩ (Nat.le_of_ble_eq_true rfl) dX12_keepOn_1) rfl (fun σ1 => ?_)
  refine tj_aload_n (q := 5) dX12_keepOn_4 rfl (i := 0) rfl (pl := 0) rfl ?_
  refine tj_getI (q := 8) (hT).s fok_12_62 wl_RX12_456 dX12_keepOn_5 rfl ?_
  refine tj_bnd (fun k3 => ∀ (σ2 : St_), Tj l D cA h0 ad RX12 cX12_keepOn 2 none false 3 0 0 (fun b => (none, sh, P, b)) 0 0 sh P σ2 22 [(0, .ref (h0 + t))] [] (k3 σ2)) ?_ (fun k3 hk4 => ?_)
  · intro σ2
    refine tj_iconst (q := 23) (v := 0) dX12_keepOn_22 rfl (by decide) ?_
    refine tj_istore_n (q := 24) dX12_keepOn_23 rfl (i := 1) rfl (by decide) rfl ?_
    refine tj_lv [1, 0] rfl ?_
    refine tmX12_keepOn_L24 t hT _ ?_ FU (0 : Int32) σ2
    · intro σ7
      refine tj_aload_n (q := 49) dX12_keepOn_48 rfl (i := 0) rfl (pl := 0) rfl ?_
      refine tj_getR (q := 52) (hT).s (hT).p_now fok_12_60 wl_RX12_102 dX12_keepOn_49 rfl ?_
      refine tj_bipush (q := 54) (v := 11) dX12_keepOn_52 rfl (by decide) ?_
      refine tj_aload_n (q := 55) dX12_keepOn_54 rfl (i := 0) rfl (pl := 0) rfl ?_
      refine tj_getI (q := 58) (hT).s fok_12_62 wl_RX12_456 dX12_keepOn_55 rfl ?_
      refine tj_iastore (q := 59) (hT).s_now dX12_keepOn_58 rfl (fun σ8 => ?_)
      refine tj_aload_n (q := 60) dX12_keepOn_59 rfl (i := 0) rfl (pl := 0) rfl ?_
      refine tj_getR (q := 63) (hT).s (hT).p_now fok_12_60 wl_RX12_102 dX12_keepOn_60 rfl ?_
      refine tj_bipush (q := 65) (v := 12) dX12_keepOn_63 rfl (by decide) ?_
      refine tj_aload_n (q := 66) dX12_keepOn_65 rfl (i := 0) rfl (pl := 0) rfl ?_
      refine tj_getI (q := 69) (hT).s fok_12_63 wl_RX12_459 dX12_keepOn_66 rfl ?_
      refine tj_iastore (q := 70) (hT).s_now dX12_keepOn_69 rfl (fun σ9 => ?_)
      exact tj_vret rfl rfl (Nat.le_of_ble_eq_true rfl) (Nat.le_of_ble_eq_true rfl) dX12_keepOn_70
  · refine tj_if_ne (tgt := 22) (q := 11) dX12_keepOn_8 (by decide) rfl ?_ ?_
    · refine tj_aload_n (q := 12) dX12_keepOn_11 rfl (i := 0) rfl (pl := 0) rfl ?_
      refine tj_getR (q := 15) (hT).s (hT).p_now fok_12_60 wl_RX12_102 dX12_keepOn_12 rfl ?_
      refine tj_bipush (q := 17) (v := 10) dX12_keepOn_15 rfl (by decide) ?_
      refine tj_dup2 (q := 18) dX12_keepOn_17 rfl rfl rfl ?_
      refine tj_iaload (q := 19) (hT).s_now dX12_keepOn_18 rfl ?_
      refine tj_topI (fun v10 => ?_)
      refine tj_iconst (q := 20) (v := 1) dX12_keepOn_19 rfl (by decide) ?_
      refine tj_iadd (q := 21) dX12_keepOn_20 rfl ?_
      refine tj_iastore (q := 22) (hT).s_now dX12_keepOn_21 rfl (fun σ11 => ?_)
      exact hk4 σ11
    · exact hk4 σ1

theorem dX12_theft_0 : decode cX12_theft 0 = .ok (.aload_n 0, 1) := by decide +kernel
theorem dX12_theft_1 : decode cX12_theft 1 = .ok (.getfield 102, 3) := by decide +kernel
theorem dX12_theft_4 : decode cX12_theft 4 = .ok (.bipush 10, 2) := by decide +kernel
theorem dX12_theft_6 : decode cX12_theft 6 = .ok (.iaload, 1) := by decide +kernel
theorem dX12_theft_7 : decode cX12_theft 7 = .ok (.sipush 200, 3) := by decide +kernel
theorem dX12_theft_10 : decode cX12_theft 10 = .ok (.if_icmp .eq 27, 3) := by decide +kernel
theorem dX12_theft_13 : decode cX12_theft 13 = .ok (.aload_n 0, 1) := by decide +kernel
theorem dX12_theft_14 : decode cX12_theft 14 = .ok (.iload_n 1, 1) := by decide +kernel
theorem dX12_theft_15 : decode cX12_theft 15 = .ok (.iload_n 2, 1) := by decide +kernel
theorem dX12_theft_16 : decode cX12_theft 16 = .ok (.iload_n 3, 1) := by decide +kernel
theorem dX12_theft_17 : decode cX12_theft 17 = .ok (.iload 4, 2) := by decide +kernel
theorem dX12_theft_19 : decode cX12_theft 19 = .ok (.invokevirtual 507, 3) := by decide +kernel
theorem dX12_theft_22 : decode cX12_theft 22 = .ok (.ifCond .eq 15, 3) := by decide +kernel
theorem dX12_theft_25 : decode cX12_theft 25 = .ok (.aload_n 0, 1) := by decide +kernel
theorem dX12_theft_26 : decode cX12_theft 26 = .ok (.iload_n 1, 1) := by decide +kernel
theorem dX12_theft_27 : decode cX12_theft 27 = .ok (.iload_n 2, 1) := by decide +kernel
theorem dX12_theft_28 : decode cX12_theft 28 = .ok (.iload_n 3, 1) := by decide +kernel
theorem dX12_theft_29 : decode cX12_theft 29 = .ok (.iload 4, 2) := by decide +kernel
theorem dX12_theft_31 : decode cX12_theft 31 = .ok (.invokevirtual 511, 3) := by decide +kernel
theorem dX12_theft_34 : decode cX12_theft 34 = .ok (.ifCond .ne 5, 3) := by decide +kernel
theorem dX12_theft_37 : decode cX12_theft 37 = .ok (.iconst (-1), 1) := by decide +kernel
theorem dX12_theft_38 : decode cX12_theft 38 = .ok (.ireturn, 1) := by decide +kernel
theorem dX12_theft_39 : decode cX12_theft 39 = .ok (.aload_n 0, 1) := by decide +kernel
theorem dX12_theft_40 : decode cX12_theft 40 = .ok (.invokevirtual 524, 3) := by decide +kernel
theorem dX12_theft_43 : decode cX12_theft 43 = .ok (.iconst 2, 1) := by decide +kernel
theorem dX12_theft_44 : decode cX12_theft 44 = .ok (.istore 5, 2) := by decide +kernel
theorem dX12_theft_46 : decode cX12_theft 46 = .ok (.aload_n 0, 1) := by decide +kernel
theorem dX12_theft_47 : decode cX12_theft 47 = .ok (.iload_n 2, 1) := by decide +kernel
theorem dX12_theft_48 : decode cX12_theft 48 = .ok (.invokevirtual 514, 3) := by decide +kernel
theorem dX12_theft_51 : decode cX12_theft 51 = .ok (.ifCond .eq 18, 3) := by decide +kernel
theorem dX12_theft_54 : decode cX12_theft 54 = .ok (.aload_n 0, 1) := by decide +kernel
theorem dX12_theft_55 : decode cX12_theft 55 = .ok (.dup, 1) := by decide +kernel
theorem dX12_theft_56 : decode cX12_theft 56 = .ok (.getfield 459, 3) := by decide +kernel
theorem dX12_theft_59 : decode cX12_theft 59 = .ok (.iconst 1, 1) := by decide +kernel
theorem dX12_theft_60 : decode cX12_theft 60 = .ok (.iload_n 1, 1) := by decide +kernel
theorem dX12_theft_61 : decode cX12_theft 61 = .ok (.ishl, 1) := by decide +kernel
theorem dX12_theft_62 : decode cX12_theft 62 = .ok (.ior, 1) := by decide +kernel
theorem dX12_theft_63 : decode cX12_theft 63 = .ok (.putfield 459, 3) := by decide +kernel
theorem dX12_theft_66 : decode cX12_theft 66 = .ok (.goto 51, 3) := by decide +kernel
theorem dX12_theft_69 : decode cX12_theft 69 = .ok (.aload_n 0, 1) := by decide +kernel
theorem dX12_theft_70 : decode cX12_theft 70 = .ok (.iload_n 2, 1) := by decide +kernel
theorem dX12_theft_71 : decode cX12_theft 71 = .ok (.iload_n 3, 1) := by decide +kernel
theorem dX12_theft_72 : decode cX12_theft 72 = .ok (.iload 4, 2) := by decide +kernel
theorem dX12_theft_74 : decode cX12_theft 74 = .ok (.aload_n 0, 1) := by decide +kernel
theorem dX12_theft_75 : decode cX12_theft 75 = .ok (.getfield 456, 3) := by decide +kernel
theorem dX12_theft_78 : decode cX12_theft 78 = .ok (.aload_n 0, 1) := by decide +kernel
theorem dX12_theft_79 : decode cX12_theft 79 = .ok (.getfield 93, 3) := by decide +kernel
theorem dX12_theft_82 : decode cX12_theft 82 = .ok (.iload_n 1, 1) := by decide +kernel
theorem dX12_theft_83 : decode cX12_theft 83 = .ok (.iaload, 1) := by decide +kernel
theorem dX12_theft_84 : decode cX12_theft 84 = .ok (.invokevirtual 517, 3) := by decide +kernel
theorem dX12_theft_87 : decode cX12_theft 87 = .ok (.invokestatic 337, 3) := by decide +kernel
theorem dX12_theft_90 : decode cX12_theft 90 = .ok (.istore 5, 2) := by decide +kernel
theorem dX12_theft_92 : decode cX12_theft 92 = .ok (.aload_n 0, 1) := by decide +kernel
theorem dX12_theft_93 : decode cX12_theft 93 = .ok (.getfield 102, 3) := by decide +kernel
theorem dX12_theft_96 : decode cX12_theft 96 = .ok (.bipush 13, 2) := by decide +kernel
theorem dX12_theft_98 : decode cX12_theft 98 = .ok (.iload_n 1, 1) := by decide +kernel
theorem dX12_theft_99 : decode cX12_theft 99 = .ok (.iadd, 1) := by decide +kernel
theorem dX12_theft_100 : decode cX12_theft 100 = .ok (.dup2, 1) := by decide +kernel
theorem dX12_theft_101 : decode cX12_theft 101 = .ok (.iaload, 1) := by decide +kernel
theorem dX12_theft_102 : decode cX12_theft 102 = .ok (.iconst 1, 1) := by decide +kernel
theorem dX12_theft_103 : decode cX12_theft 103 = .ok (.iload 5, 2) := by decide +kernel
theorem dX12_theft_105 : decode cX12_theft 105 = .ok (.isub, 1) := by decide +kernel
theorem dX12_theft_106 : decode cX12_theft 106 = .ok (.iadd, 1) := by decide +kernel
theorem dX12_theft_107 : decode cX12_theft 107 = .ok (.iastore, 1) := by decide +kernel
theorem dX12_theft_108 : decode cX12_theft 108 = .ok (.aload_n 0, 1) := by decide +kernel
theorem dX12_theft_109 : decode cX12_theft 109 = .ok (.iload_n 1, 1) := by decide +kernel
theorem dX12_theft_110 : decode cX12_theft 110 = .ok (.iload_n 2, 1) := by decide +kernel
theorem dX12_theft_111 : decode cX12_theft 111 = .ok (.iload_n 3, 1) := by decide +kernel
theorem dX12_theft_112 : decode cX12_theft 112 = .ok (.iload 4, 2) := by decide +kernel
theorem dX12_theft_114 : decode cX12_theft 114 = .ok (.invokevirtual 527, 3) := by decide +kernel
theorem dX12_theft_117 : decode cX12_theft 117 = .ok (.aload_n 0, 1) := by decide +kernel
theorem dX12_theft_118 : decode cX12_theft 118 = .ok (.invokevirtual 531, 3) := by decide +kernel
theorem dX12_theft_121 : decode cX12_theft 121 = .ok (.iload 5, 2) := by decide +kernel
theorem dX12_theft_123 : decode cX12_theft 123 = .ok (.ireturn, 1) := by decide +kernel
theorem wm_X12_act : Cond.instanceMethod yX12_act ∈ TB ∧ Cond.selects yX12_act.cls yX12_act yX12_act ∈ TB ∧ Cond.initialized yX12_act.cls ∈ TB ∧ Cond.code yX12_act cX12_act 2 none ∈ TB ∧ (yX12_act.cls ≠ "java/lang/invoke/MethodHandle" ∧ yX12_act.cls ≠ "java/lang/invoke/VarHandle" ∧ (parseMethodDescriptor yX12_act.desc).map (fun d => d.parameters.length) = some 0) ∧ 2 ≤ 21 := ⟨tbm 1991 (by decide +kernel) (by decide +kernel), tbm 105 (by decide +kernel) (by decide +kernel), tbm 146 (by decide +kernel) (by decide +kernel), tbm 1992 (by decide +kernel) (by decide +kernel), by decide +kernel, by decide⟩
theorem wi_RX12_524 : Iv RX12 524 yX12_act cX12_act 2 none 0 := ⟨tbm 1989 (by decide +kernel) (by decide +kernel), wm_X12_act⟩
theorem wm_X12_move : Cond.instanceMethod yX12_move ∈ TB ∧ Cond.selects yX12_move.cls yX12_move yX12_move ∈ TB ∧ Cond.initialized yX12_move.cls ∈ TB ∧ Cond.code yX12_move cX12_move 6 none ∈ TB ∧ (yX12_move.cls ≠ "java/lang/invoke/MethodHandle" ∧ yX12_move.cls ≠ "java/lang/invoke/VarHandle" ∧ (parseMethodDescriptor yX12_move.desc).map (fun d => d.parameters.length) = some 4) ∧ 6 ≤ 21 := ⟨tbm 1995 (by decide +kernel) (by decide +kernel), tbm 106 (by decide +kernel) (by decide +kernel), tbm 146 (by decide +kernel) (by decide +kernel), tbm 1996 (by decide +kernel) (by decide +kernel), by decide +kernel, by decide⟩
theorem wi_RX12_527 : Iv RX12 527 yX12_move cX12_move 6 none 4 := ⟨tbm 1993 (by decide +kernel) (by decide +kernel), wm_X12_move⟩
theorem wm_X12_keepOn : Cond.instanceMethod yX12_keepOn ∈ TB ∧ Cond.selects yX12_keepOn.cls yX12_keepOn yX12_keepOn ∈ TB ∧ Cond.initialized yX12_keepOn.cls ∈ TB ∧ Cond.code yX12_keepOn cX12_keepOn 2 none ∈ TB ∧ (yX12_keepOn.cls ≠ "java/lang/invoke/MethodHandle" ∧ yX12_keepOn.cls ≠ "java/lang/invoke/VarHandle" ∧ (parseMethodDescriptor yX12_keepOn.desc).map (fun d => d.parameters.length) = some 0) ∧ 2 ≤ 21 := ⟨tbm 1999 (by decide +kernel) (by decide +kernel), tbm 107 (by decide +kernel) (by decide +kernel), tbm 146 (by decide +kernel) (by decide +kernel), tbm 2000 (by decide +kernel) (by decide +kernel), by decide +kernel, by decide⟩
theorem wi_RX12_531 : Iv RX12 531 yX12_keepOn cX12_keepOn 2 none 0 := ⟨tbm 1997 (by decide +kernel) (by decide +kernel), wm_X12_keepOn⟩
def mX12_theft (t : Nat) (p1 : Int32) (p2 : Int32) (p3 : Int32) (p4 : Int32) (σ : St_) : Option (Int32 × St_) :=
 (if bin (10 : Int32) 20 = true then bnd (σ.1 (t + 29) (10 : Int32).toNatClampNeg) fun v1 =>
 (if v1 = (200 : Int32) then
 (some ((-1 : Int32), σ))
 else ((mX12_areSets t p1 p2 p3 p4 σ).bind fun r2 =>
 (if r2.1 = true then
 ((mX12_canBe t p1 p2 p3 p4 r2.2).bind fun r3 =>
 (if r3 = true then
 ((mX12_act t r2.2).bind fun σ4 =>
 ((mX12_isSeen t p2 σ4).bind fun r5 =>
 (bnd (fun (j6 : Int32) (σ7 : St_) => ((mX12_keepOn t σ7).bind fun σ10 =>
 (some (j6, σ10)))) fun k8 =>
 (if r5 = true then
 (bnd (sI σ4 t 63 ((σ4.1 t 63) ||| ((1 : Int32) <<< (p1 &&& 31)))) fun σ11 =>
 (k8 (2 : Int32) σ11))
 else (if bin p1 4 = true then bnd (σ4.1 (t + 27) p1.toNatClampNeg) fun v12 =>
 ((mX12_isLawful t p2 p3 p4 (σ4.1 t 62) v12 σ4).bind fun r13 =>
 ((mX12_truth r13.1 r13.2).bind fun r14 =>
 (bnd ((13 : Int32) + p1) fun v15 =>
 (if bin v15 20 = true then bnd (r13.2.1 (t + 29) v15.toNatClampNeg) fun v16 =>
 (if bin v15 20 = true then bnd (sI r13.2 (t + 29) v15.toNatClampNeg (v16 + ((1 : Int32) - r14))) fun σ17 =>
 ((mX12_move t p1 p2 p3 p4 σ17).bind fun σ18 =>
 (k8 r14 σ18))
 else none)
 else none))))
 else none)))))
 else (some ((-1 : Int32), r2.2))))
 else (some ((-1 : Int32), r2.2)))))
 else none)
set_option maxHeartbeats 4000000 in
theorem rX12_theft (t : Nat) (p1 : Int32) (p2 : Int32) (p3 : Int32) (p4 : Int32) (hT : LY12 sh P t) : Rj l D cA h0 ad yX12_theft cX12_theft 6 (some .int) false 6 0 0 (fun b => (some (.int b.1), sh, P, b.2)) [.ref (h0 + t), .int p1, .int p2, .int p3, .int p4] sh P σ (mX12_theft t p1 p2 p3 p4 σ) := by
  rw [mX12_theft]
  refine Rj.of (by decide) (fun h => by cases h) (Nat.le_of_ble_eq_true rfl) ?_
  refine tj_lv0 (lv' := [(0, .ref (h0 + t)), (1, .int p1), (2, .int p2), (3, .int p3), (4, .int p4)]) rfl ?_
  refine tj_aload_n (q := 1) dX12_theft_0 rfl (i := 0) rfl (pl := 0) rfl ?_
  refine tj_getR (q := 4) (hT).s (hT).p_now fok_12_60 wl_RX12_102 dX12_theft_1 rfl ?_
  refine tj_bipush (q := 6) (v := 10) dX12_theft_4 rfl (by decide) ?_
  refine tj_iaload (q := 7) (hT).s_now dX12_theft_6 rfl ?_
  refine tj_topI (fun v1 => ?_)
  refine tj_sipush (q := 10) (v := 200) dX12_theft_7 rfl (by decide) ?_
  refine tj_icmp_eq (tgt := 37) (q := 13) dX12_theft_10 (by decide) rfl ?_ ?_
  · refine tj_iconst (q := 38) (v := (-1)) dX12_theft_37 rfl (by decide) ?_
    exact tj_iret rfl rfl (Nat.le_of_ble_eq_true rfl) (Nat.le_of_ble_eq_true rfl) dX12_theft_38
  · refine tj_aload_n (q := 14) dX12_theft_13 rfl (i := 0) rfl (pl := 0) rfl ?_
    refine tj_iload_n (q := 15) dX12_theft_14 rfl (i := 1) rfl (pl := 1) rfl ?_
    refine tj_iload_n (q := 16) dX12_theft_15 rfl (i := 2) rfl (pl := 2) rfl ?_
    refine tj_iload_n (q := 17) dX12_theft_16 rfl (i := 3) rfl (pl := 3) rfl ?_
    refine tj_iload (q := 19) dX12_theft_17 rfl (pl := 4) rfl ?_
    refine tj_callZ (q := 22) (kj_V (As := [.int p1, .int p2, .int p3, .int p4]) (rest := []) (t := t) wi_RX12_507 (hT).s rfl (rX12_areSets t p1 p2 p3 p4 (hT)) rfl (Nat.le_of_ble_eq_true rfl) ⟨Nat.le_of_ble_eq_true rfl, Nat.le_of_ble_eq_true rfl⟩ (Nat.le_of_ble_eq_true rfl) dX12_theft_19) rfl (fun r2 => ?_)
    refine tj_bz (tgt := 37) (q := 25) dX12_theft_22 (by decide) rfl ?_ ?_
    · refine tj_aload_n (q := 26) dX12_theft_25 rfl (i := 0) rfl (pl := 0) rfl ?_
      refine tj_iload_n (q := 27) dX12_theft_26 rfl (i := 1) rfl (pl := 1) rfl ?_
      refine tj_iload_n (q := 28) dX12_theft_27 rfl (i := 2) rfl (pl := 2) rfl ?_
      refine tj_iload_n (q := 29) dX12_theft_28 rfl (i := 3) rfl (pl := 3) rfl ?_
      refine tj_iload (q := 31) dX12_theft_29 rfl (pl := 4) rfl ?_
      refine tj_callZp (q := 34) (kj_V (As := [.int p1, .int p2, .int p3, .int p4]) (rest := []) (t := t) wi_RX12_511 (hT).s rfl (rX12_canBe t p1 p2 p3 p4 (hT)) rfl (Nat.le_of_ble_eq_true rfl) ⟨Nat.le_of_ble_eq_true rfl, Nat.le_of_ble_eq_true rfl⟩ (Nat.le_of_ble_eq_true rfl) dX12_theft_31) rfl (fun r3 => ?_)
      refine tj_bnz (tgt := 39) (q := 37) dX12_theft_34 (by decide) rfl ?_ ?_
      · refine tj_aload_n (q := 40) dX12_theft_39 rfl (i := 0) rfl (pl := 0) rfl ?_
        refine tj_callV (q := 43) (kj_V (As := []) (rest := []) (t := t) wi_RX12_524 (hT).s rfl (rX12_act t (hT)) rfl (Nat.le_of_ble_eq_true rfl) ⟨Nat.le_of_ble_eq_true rfl, Nat.le_of_ble_eq_true rfl⟩ (Nat.le_of_ble_eq_true rfl) dX12_theft_40) rfl (fun σ4 => ?_)
        refine tj_iconst (q := 44) (v := 2) dX12_theft_43 rfl (by decide) ?_
        refine tj_istore (q := 46) dX12_theft_44 rfl (by decide) rfl ?_
        refine tj_aload_n (q := 47) dX12_theft_46 rfl (i := 0) rfl (pl := 1) rfl ?_
        refine tj_iload_n (q := 48) dX12_theft_47 rfl (i := 2) rfl (pl := 3) rfl ?_
        refine tj_callZp (q := 51) (kj_V (As := [.int p2]) (rest := []) (t := t) wi_RX12_514 (hT).s rfl (rX12_isSeen t p2 (hT)) rfl (Nat.le_of_ble_eq_true rfl) ⟨Nat.le_of_ble_eq_true rfl, Nat.le_of_ble_eq_true rfl⟩ (Nat.le_of_ble_eq_true rfl) dX12_theft_48) rfl (fun r5 => ?_)
        refine tj_bnd (fun k8 => ∀ (j6 : Int32) (σ7 : St_), Tj l D cA h0 ad RX12 cX12_theft 6 (some .int) false 6 0 0 (fun b => (some (.int b.1), sh, P, b.2)) 0 0 sh P σ7 117 [(0, .ref (h0 + t)), (5, .int j6)] [] (k8 j6 σ7)) ?_ (fun k8 hk9 => ?_)
        · intro j6 σ7
          refine tj_aload_n (q := 118) dX12_theft_117 rfl (i := 0) rfl (pl := 0) rfl ?_
          refine tj_callV (q := 121) (kj_V (As := []) (rest := []) (t := t) wi_RX12_531 (hT).s rfl (rX12_keepOn t (hT)) rfl (Nat.le_of_ble_eq_true rfl) ⟨Nat.le_of_ble_eq_true rfl, Nat.le_of_ble_eq_true rfl⟩ (Nat.le_of_ble_eq_true rfl) dX12_theft_118) rfl (fun σ10 => ?_)
          refine tj_iload (q := 123) dX12_theft_121 rfl (pl := 1) rfl ?_
          exact tj_iret rfl rfl (Nat.le_of_ble_eq_true rfl) (Nat.le_of_ble_eq_true rfl) dX12_theft_123
        · refine tj_bz (tgt := 69) (q := 54) dX12_theft_51 (by decide) rfl ?_ ?_
          · refine tj_aload_n (q := 55) dX12_theft_54 rfl (i := 0) rfl (pl := 1) rfl ?_
            refine tj_dup (q := 56) dX12_theft_55 rfl rfl ?_
            refine tj_getI (q := 59) (hT).s fok_12_63 wl_RX12_459 dX12_theft_56 rfl ?_
            refine tj_iconst (q := 60) (v := 1) dX12_theft_59 rfl (by decide) ?_
            refine tj_iload_n (q := 61) dX12_theft_60 rfl (i := 1) rfl (pl := 2) rfl ?_
            refine tj_ishl (q := 62) dX12_theft_61 rfl ?_
            refine tj_ior (q := 63) dX12_theft_62 rfl ?_
            refine tj_putI (q := 66) (hT).s fok_12_63 tok_12 fpk_12_63 wl_RX12_459 dX12_theft_63 rfl (fun σ11 => ?_)
            refine tj_goto (q := 117) dX12_theft_66 (by decide) ?_
            refine tj_lv [1, 0] rfl ?_
            exact hk9 (2 : Int32) σ11
          · refine tj_aload_n (q := 70) dX12_theft_69 rfl (i := 0) rfl (pl := 1) rfl ?_
            refine tj_iload_n (q := 71) dX12_theft_70 rfl (i := 2) rfl (pl := 3) rfl ?_
            refine tj_iload_n (q := 72) dX12_theft_71 rfl (i := 3) rfl (pl := 4) rfl ?_
            refine tj_iload (q := 74) dX12_theft_72 rfl (pl := 5) rfl ?_
            refine tj_aload_n (q := 75) dX12_theft_74 rfl (i := 0) rfl (pl := 1) rfl ?_
            refine tj_getI (q := 78) (hT).s fok_12_62 wl_RX12_456 dX12_theft_75 rfl ?_
            refine tj_aload_n (q := 79) dX12_theft_78 rfl (i := 0) rfl (pl := 1) rfl ?_
            refine tj_getR (q := 82) (hT).s (hT).p_skill fok_12_43 wl_RX12_93 dX12_theft_79 rfl ?_
            refine tj_iload_n (q := 83) dX12_theft_82 rfl (i := 1) rfl (pl := 2) rfl ?_
            refine tj_iaload (q := 84) (hT).s_skill dX12_theft_83 rfl ?_
            refine tj_topI (fun v12 => ?_)
            refine tj_callZ (q := 87) (kj_V (As := [.int p2, .int p3, .int p4, .int (σ4.1 t 62), .int v12]) (rest := []) (t := t) wi_RX12_517 (hT).s rfl (rX12_isLawful t p2 p3 p4 (σ4.1 t 62) v12 (hT)) rfl (Nat.le_of_ble_eq_true rfl) ⟨Nat.le_of_ble_eq_true rfl, Nat.le_of_ble_eq_true rfl⟩ (Nat.le_of_ble_eq_true rfl) dX12_theft_84) rfl (fun r13 => ?_)
            refine tj_callIp (q := 90) (kj_S (As := [.int (b2i r13.1)]) (rest := []) wi_RX12_337 (rX12_truth r13.1) rfl (Nat.le_of_ble_eq_true rfl) ⟨Nat.le_of_ble_eq_true rfl, Nat.le_of_ble_eq_true rfl⟩ (Nat.le_of_ble_eq_true rfl) dX12_theft_87) rfl (fun r14 => ?_)
            refine tj_istore (q := 92) dX12_theft_90 rfl (by decide) rfl ?_
            refine tj_aload_n (q := 93) dX12_theft_92 rfl (i := 0) rfl (pl := 1) rfl ?_
            refine tj_getR (q := 96) (hT).s (hT).p_now fok_12_60 wl_RX12_102 dX12_theft_93 rfl ?_
            refine tj_bipush (q := 98) (v := 13) dX12_theft_96 rfl (by decide) ?_
            refine tj_iload_n (q := 99) dX12_theft_98 rfl (i := 1) rfl (pl := 2) rfl ?_
            refine tj_iadd (q := 100) dX12_theft_99 rfl ?_
            refine tj_topI (fun v15 => ?_)
            refine tj_dup2 (q := 101) dX12_theft_100 rfl rfl rfl ?_
            refine tj_iaload (q := 102) (hT).s_now dX12_theft_101 rfl ?_
            refine tj_topI (fun v16 => ?_)
            refine tj_iconst (q := 103) (v := 1) dX12_theft_102 rfl (by decide) ?_
            refine tj_iload (q := 105) dX12_theft_103 rfl (pl := 0) rfl ?_
            refine tj_isub (q := 106) dX12_theft_105 rfl ?_
            refine tj_iadd (q := 107) dX12_theft_106 rfl ?_
            refine tj_iastore (q := 108) (hT).s_now dX12_theft_107 rfl (fun σ17 => ?_)
            refine tj_aload_n (q := 109) dX12_theft_108 rfl (i := 0) rfl (pl := 1) rfl ?_
            refine tj_iload_n (q := 110) dX12_theft_109 rfl (i := 1) rfl (pl := 2) rfl ?_
            refine tj_iload_n (q := 111) dX12_theft_110 rfl (i := 2) rfl (pl := 3) rfl ?_
            refine tj_iload_n (q := 112) dX12_theft_111 rfl (i := 3) rfl (pl := 4) rfl ?_
            refine tj_iload (q := 114) dX12_theft_112 rfl (pl := 5) rfl ?_
            refine tj_callV (q := 117) (kj_V (As := [.int p1, .int p2, .int p3, .int p4]) (rest := []) (t := t) wi_RX12_527 (hT).s rfl (rX12_move t p1 p2 p3 p4 (hT)) rfl (Nat.le_of_ble_eq_true rfl) ⟨Nat.le_of_ble_eq_true rfl, Nat.le_of_ble_eq_true rfl⟩ (Nat.le_of_ble_eq_true rfl) dX12_theft_114) rfl (fun σ18 => ?_)
            refine tj_lv [1, 0] rfl ?_
            exact hk9 r14 σ18
      · refine tj_iconst (q := 38) (v := (-1)) dX12_theft_37 rfl (by decide) ?_
        exact tj_iret rfl rfl (Nat.le_of_ble_eq_true rfl) (Nat.le_of_ble_eq_true rfl) dX12_theft_38
    · refine tj_iconst (q := 38) (v := (-1)) dX12_theft_37 rfl (by decide) ?_
      exact tj_iret rfl rfl (Nat.le_of_ble_eq_true rfl) (Nat.le_of_ble_eq_true rfl) dX12_theft_38

theorem dX12_waits_0 : decode cX12_waits 0 = .ok (.aload_n 0, 1) := by decide +kernel
theorem dX12_waits_1 : decode cX12_waits 1 = .ok (.getfield 102, 3) := by decide +kernel
theorem dX12_waits_4 : decode cX12_waits 4 = .ok (.bipush 10, 2) := by decide +kernel
theorem dX12_waits_6 : decode cX12_waits 6 = .ok (.iaload, 1) := by decide +kernel
theorem dX12_waits_7 : decode cX12_waits 7 = .ok (.sipush 200, 3) := by decide +kernel
theorem dX12_waits_10 : decode cX12_waits 10 = .ok (.if_icmp .ne 5, 3) := by decide +kernel
theorem dX12_waits_13 : decode cX12_waits 13 = .ok (.iconst (-1), 1) := by decide +kernel
theorem dX12_waits_14 : decode cX12_waits 14 = .ok (.ireturn, 1) := by decide +kernel
theorem dX12_waits_15 : decode cX12_waits 15 = .ok (.aload_n 0, 1) := by decide +kernel
theorem dX12_waits_16 : decode cX12_waits 16 = .ok (.invokevirtual 524, 3) := by decide +kernel
theorem dX12_waits_19 : decode cX12_waits 19 = .ok (.aload_n 0, 1) := by decide +kernel
theorem dX12_waits_20 : decode cX12_waits 20 = .ok (.invokevirtual 497, 3) := by decide +kernel
theorem dX12_waits_23 : decode cX12_waits 23 = .ok (.aload_n 0, 1) := by decide +kernel
theorem dX12_waits_24 : decode cX12_waits 24 = .ok (.invokevirtual 531, 3) := by decide +kernel
theorem dX12_waits_27 : decode cX12_waits 27 = .ok (.aload_n 0, 1) := by decide +kernel
theorem dX12_waits_28 : decode cX12_waits 28 = .ok (.getfield 456, 3) := by decide +kernel
theorem dX12_waits_31 : decode cX12_waits 31 = .ok (.ireturn, 1) := by decide +kernel
def mX12_waits (t : Nat) (σ : St_) : Option (Int32 × St_) :=
 (if bin (10 : Int32) 20 = true then bnd (σ.1 (t + 29) (10 : Int32).toNatClampNeg) fun v1 =>
 (if v1 = (200 : Int32) then
 (some ((-1 : Int32), σ))
 else ((mX12_act t σ).bind fun σ2 =>
 ((mX12_load t σ2).bind fun σ3 =>
 ((mX12_keepOn t σ3).bind fun σ4 =>
 (some ((σ4.1 t 62), σ4))))))
 else none)
set_option maxHeartbeats 4000000 in
theorem rX12_waits (t : Nat) (hT : LY12 sh P t) : Rj l D cA h0 ad yX12_waits cX12_waits 1 (some .int) false 4 0 0 (fun b => (some (.int b.1), sh, P, b.2)) [.ref (h0 + t)] sh P σ (mX12_waits t σ) := by
  rw [mX12_waits]
  refine Rj.of (by decide) (fun h => by cases h) (Nat.le_of_ble_eq_true rfl) ?_
  refine tj_lv0 (lv' := [(0, .ref (h0 + t))]) rfl ?_
  refine tj_aload_n (q := 1) dX12_waits_0 rfl (i := 0) rfl (pl := 0) rfl ?_
  refine tj_getR (q := 4) (hT).s (hT).p_now fok_12_60 wl_RX12_102 dX12_waits_1 rfl ?_
  refine tj_bipush (q := 6) (v := 10) dX12_waits_4 rfl (by decide) ?_
  refine tj_iaload (q := 7) (hT).s_now dX12_waits_6 rfl ?_
  refine tj_topI (fun v1 => ?_)
  refine tj_sipush (q := 10) (v := 200) dX12_waits_7 rfl (by decide) ?_
  refine tj_icmp_ne (tgt := 15) (q := 13) dX12_waits_10 (by decide) rfl ?_ ?_
  · refine tj_iconst (q := 14) (v := (-1)) dX12_waits_13 rfl (by decide) ?_
    exact tj_iret rfl rfl (Nat.le_of_ble_eq_true rfl) (Nat.le_of_ble_eq_true rfl) dX12_waits_14
  · refine tj_aload_n (q := 16) dX12_waits_15 rfl (i := 0) rfl (pl := 0) rfl ?_
    refine tj_callV (q := 19) (kj_V (As := []) (rest := []) (t := t) wi_RX12_524 (hT).s rfl (rX12_act t (hT)) rfl (Nat.le_of_ble_eq_true rfl) ⟨Nat.le_of_ble_eq_true rfl, Nat.le_of_ble_eq_true rfl⟩ (Nat.le_of_ble_eq_true rfl) dX12_waits_16) rfl (fun σ2 => ?_)
    refine tj_aload_n (q := 20) dX12_waits_19 rfl (i := 0) rfl (pl := 0) rfl ?_
    refine tj_callV (q := 23) (kj_V (As := []) (rest := []) (t := t) wi_RX12_497 (hT).s rfl (rX12_load t (hT)) rfl (Nat.le_of_ble_eq_true rfl) ⟨Nat.le_of_ble_eq_true rfl, Nat.le_of_ble_eq_true rfl⟩ (Nat.le_of_ble_eq_true rfl) dX12_waits_20) rfl (fun σ3 => ?_)
    refine tj_aload_n (q := 24) dX12_waits_23 rfl (i := 0) rfl (pl := 0) rfl ?_
    refine tj_callV (q := 27) (kj_V (As := []) (rest := []) (t := t) wi_RX12_531 (hT).s rfl (rX12_keepOn t (hT)) rfl (Nat.le_of_ble_eq_true rfl) ⟨Nat.le_of_ble_eq_true rfl, Nat.le_of_ble_eq_true rfl⟩ (Nat.le_of_ble_eq_true rfl) dX12_waits_24) rfl (fun σ4 => ?_)
    refine tj_aload_n (q := 28) dX12_waits_27 rfl (i := 0) rfl (pl := 0) rfl ?_
    refine tj_getI (q := 31) (hT).s fok_12_62 wl_RX12_456 dX12_waits_28 rfl ?_
    exact tj_iret rfl rfl (Nat.le_of_ble_eq_true rfl) (Nat.le_of_ble_eq_true rfl) dX12_waits_31

theorem dX12_gift_0 : decode cX12_gift 0 = .ok (.aload_n 0, 1) := by decide +kernel
theorem dX12_gift_1 : decode cX12_gift 1 = .ok (.iload_n 1, 1) := by decide +kernel
theorem dX12_gift_2 : decode cX12_gift 2 = .ok (.invokevirtual 490, 3) := by decide +kernel
theorem dX12_gift_5 : decode cX12_gift 5 = .ok (.ifCond .eq 26, 3) := by decide +kernel
theorem dX12_gift_8 : decode cX12_gift 8 = .ok (.aload_n 0, 1) := by decide +kernel
theorem dX12_gift_9 : decode cX12_gift 9 = .ok (.iload_n 2, 1) := by decide +kernel
theorem dX12_gift_10 : decode cX12_gift 10 = .ok (.iload_n 3, 1) := by decide +kernel
theorem dX12_gift_11 : decode cX12_gift 11 = .ok (.invokevirtual 493, 3) := by decide +kernel
theorem dX12_gift_14 : decode cX12_gift 14 = .ok (.ifCond .eq 17, 3) := by decide +kernel
theorem dX12_gift_17 : decode cX12_gift 17 = .ok (.aload_n 0, 1) := by decide +kernel
theorem dX12_gift_18 : decode cX12_gift 18 = .ok (.getfield 102, 3) := by decide +kernel
theorem dX12_gift_21 : decode cX12_gift 21 = .ok (.iload_n 1, 1) := by decide +kernel
theorem dX12_gift_22 : decode cX12_gift 22 = .ok (.iaload, 1) := by decide +kernel
theorem dX12_gift_23 : decode cX12_gift 23 = .ok (.iload_n 2, 1) := by decide +kernel
theorem dX12_gift_24 : decode cX12_gift 24 = .ok (.iload_n 3, 1) := by decide +kernel
theorem dX12_gift_25 : decode cX12_gift 25 = .ok (.invokestatic 500, 3) := by decide +kernel
theorem dX12_gift_28 : decode cX12_gift 28 = .ok (.if_icmp .ne 5, 3) := by decide +kernel
theorem dX12_gift_31 : decode cX12_gift 31 = .ok (.iconst 0, 1) := by decide +kernel
theorem dX12_gift_32 : decode cX12_gift 32 = .ok (.ireturn, 1) := by decide +kernel
theorem dX12_gift_33 : decode cX12_gift 33 = .ok (.aload_n 0, 1) := by decide +kernel
theorem dX12_gift_34 : decode cX12_gift 34 = .ok (.invokevirtual 524, 3) := by decide +kernel
theorem dX12_gift_37 : decode cX12_gift 37 = .ok (.aload_n 0, 1) := by decide +kernel
theorem dX12_gift_38 : decode cX12_gift 38 = .ok (.getfield 102, 3) := by decide +kernel
theorem dX12_gift_41 : decode cX12_gift 41 = .ok (.iload_n 1, 1) := by decide +kernel
theorem dX12_gift_42 : decode cX12_gift 42 = .ok (.iload_n 2, 1) := by decide +kernel
theorem dX12_gift_43 : decode cX12_gift 43 = .ok (.iload_n 3, 1) := by decide +kernel
theorem dX12_gift_44 : decode cX12_gift 44 = .ok (.invokestatic 500, 3) := by decide +kernel
theorem dX12_gift_47 : decode cX12_gift 47 = .ok (.iastore, 1) := by decide +kernel
theorem dX12_gift_48 : decode cX12_gift 48 = .ok (.iconst 1, 1) := by decide +kernel
theorem dX12_gift_49 : decode cX12_gift 49 = .ok (.ireturn, 1) := by decide +kernel
def mX12_gift (t : Nat) (p1 : Int32) (p2 : Int32) (p3 : Bool) (σ : St_) : Option (Bool × St_) :=
 ((mX12_isThing t p1 σ).bind fun r1 =>
 (if r1 = true then
 ((mX12_isHolder t p2 p3 σ).bind fun r2 =>
 (if r2 = true then
 (if bin p1 20 = true then bnd (σ.1 (t + 29) p1.toNatClampNeg) fun v3 =>
 ((mX12_whereOf p2 p3 σ).bind fun r4 =>
 (if v3 = r4 then
 (some (false, σ))
 else ((mX12_act t σ).bind fun σ5 =>
 ((mX12_whereOf p2 p3 σ5).bind fun r6 =>
 (if bin p1 20 = true then bnd (sI σ5 (t + 29) p1.toNatClampNeg r6) fun σ7 =>
 (some (true, σ7))
 else none)))))
 else none)
 else (some (false, σ))))
 else (some (false, σ))))
set_option maxHeartbeats 4000000 in
theorem rX12_gift (t : Nat) (p1 : Int32) (p2 : Int32) (p3 : Bool) (hT : LY12 sh P t) : Rj l D cA h0 ad yX12_gift cX12_gift 4 (some .boolean) false 5 0 0 (fun b => (some (.int (b2i b.1)), sh, P, b.2)) [.ref (h0 + t), .int p1, .int p2, .int (b2i p3)] sh P σ (mX12_gift t p1 p2 p3 σ) := by
  rw [mX12_gift]
  refine Rj.of (by decide) (fun h => by cases h) (Nat.le_of_ble_eq_true rfl) ?_
  refine tj_lv0 (lv' := [(0, .ref (h0 + t)), (1, .int p1), (2, .int p2), (3, .int (b2i p3))]) rfl ?_
  refine tj_aload_n (q := 1) dX12_gift_0 rfl (i := 0) rfl (pl := 0) rfl ?_
  refine tj_iload_n (q := 2) dX12_gift_1 rfl (i := 1) rfl (pl := 1) rfl ?_
  refine tj_callZp (q := 5) (kj_V (As := [.int p1]) (rest := []) (t := t) wi_RX12_490 (hT).s rfl (rX12_isThing t p1 (hT)) rfl (Nat.le_of_ble_eq_true rfl) ⟨Nat.le_of_ble_eq_true rfl, Nat.le_of_ble_eq_true rfl⟩ (Nat.le_of_ble_eq_true rfl) dX12_gift_2) rfl (fun r1 => ?_)
  refine tj_bz (tgt := 31) (q := 8) dX12_gift_5 (by decide) rfl ?_ ?_
  · refine tj_aload_n (q := 9) dX12_gift_8 rfl (i := 0) rfl (pl := 0) rfl ?_
    refine tj_iload_n (q := 10) dX12_gift_9 rfl (i := 2) rfl (pl := 2) rfl ?_
    refine tj_iload_n (q := 11) dX12_gift_10 rfl (i := 3) rfl (pl := 3) rfl ?_
    refine tj_callZp (q := 14) (kj_V (As := [.int p2, .int (b2i p3)]) (rest := []) (t := t) wi_RX12_493 (hT).s rfl (rX12_isHolder t p2 p3 (hT)) rfl (Nat.le_of_ble_eq_true rfl) ⟨Nat.le_of_ble_eq_true rfl, Nat.le_of_ble_eq_true rfl⟩ (Nat.le_of_ble_eq_true rfl) dX12_gift_11) rfl (fun r2 => ?_)
    refine tj_bz (tgt := 31) (q := 17) dX12_gift_14 (by decide) rfl ?_ ?_
    · refine tj_aload_n (q := 18) dX12_gift_17 rfl (i := 0) rfl (pl := 0) rfl ?_
      refine tj_getR (q := 21) (hT).s (hT).p_now fok_12_60 wl_RX12_102 dX12_gift_18 rfl ?_
      refine tj_iload_n (q := 22) dX12_gift_21 rfl (i := 1) rfl (pl := 1) rfl ?_
      refine tj_iaload (q := 23) (hT).s_now dX12_gift_22 rfl ?_
      refine tj_topI (fun v3 => ?_)
      refine tj_iload_n (q := 24) dX12_gift_23 rfl (i := 2) rfl (pl := 2) rfl ?_
      refine tj_iload_n (q := 25) dX12_gift_24 rfl (i := 3) rfl (pl := 3) rfl ?_
      refine tj_callIp (q := 28) (kj_S (As := [.int p2, .int (b2i p3)]) (rest := [.int v3]) wi_RX12_500 (rX12_whereOf p2 p3) rfl (Nat.le_of_ble_eq_true rfl) ⟨Nat.le_of_ble_eq_true rfl, Nat.le_of_ble_eq_true rfl⟩ (Nat.le_of_ble_eq_true rfl) dX12_gift_25) rfl (fun r4 => ?_)
      refine tj_icmp_ne (tgt := 33) (q := 31) dX12_gift_28 (by decide) rfl ?_ ?_
      · refine tj_iconst (q := 32) (v := 0) dX12_gift_31 rfl (by decide) ?_
        exact tj_zret rfl (by decide) rfl (Nat.le_of_ble_eq_true rfl) (Nat.le_of_ble_eq_true rfl) dX12_gift_32
      · refine tj_aload_n (q := 34) dX12_gift_33 rfl (i := 0) rfl (pl := 0) rfl ?_
        refine tj_callV (q := 37) (kj_V (As := []) (rest := []) (t := t) wi_RX12_524 (hT).s rfl (rX12_act t (hT)) rfl (Nat.le_of_ble_eq_true rfl) ⟨Nat.le_of_ble_eq_true rfl, Nat.le_of_ble_eq_true rfl⟩ (Nat.le_of_ble_eq_true rfl) dX12_gift_34) rfl (fun σ5 => ?_)
        refine tj_aload_n (q := 38) dX12_gift_37 rfl (i := 0) rfl (pl := 0) rfl ?_
        refine tj_getR (q := 41) (hT).s (hT).p_now fok_12_60 wl_RX12_102 dX12_gift_38 rfl ?_
        refine tj_iload_n (q := 42) dX12_gift_41 rfl (i := 1) rfl (pl := 1) rfl ?_
        refine tj_iload_n (q := 43) dX12_gift_42 rfl (i := 2) rfl (pl := 2) rfl ?_
        refine tj_iload_n (q := 44) dX12_gift_43 rfl (i := 3) rfl (pl := 3) rfl ?_
        refine tj_callIp (q := 47) (kj_S (As := [.int p2, .int (b2i p3)]) (rest := [.int p1, .ref (h0 + (t + 29))]) wi_RX12_500 (rX12_whereOf p2 p3) rfl (Nat.le_of_ble_eq_true rfl) ⟨Nat.le_of_ble_eq_true rfl, Nat.le_of_ble_eq_true rfl⟩ (Nat.le_of_ble_eq_true rfl) dX12_gift_44) rfl (fun r6 => ?_)
        refine tj_iastore (q := 48) (hT).s_now dX12_gift_47 rfl (fun σ7 => ?_)
        refine tj_iconst (q := 49) (v := 1) dX12_gift_48 rfl (by decide) ?_
        exact tj_zret rfl (by decide) rfl (Nat.le_of_ble_eq_true rfl) (Nat.le_of_ble_eq_true rfl) dX12_gift_49
    · refine tj_iconst (q := 32) (v := 0) dX12_gift_31 rfl (by decide) ?_
      exact tj_zret rfl (by decide) rfl (Nat.le_of_ble_eq_true rfl) (Nat.le_of_ble_eq_true rfl) dX12_gift_32
  · refine tj_iconst (q := 32) (v := 0) dX12_gift_31 rfl (by decide) ?_
    exact tj_zret rfl (by decide) rfl (Nat.le_of_ble_eq_true rfl) (Nat.le_of_ble_eq_true rfl) dX12_gift_32

theorem dX12_undo_0 : decode cX12_undo 0 = .ok (.aload_n 0, 1) := by decide +kernel
theorem dX12_undo_1 : decode cX12_undo 1 = .ok (.getfield 434, 3) := by decide +kernel
theorem dX12_undo_4 : decode cX12_undo 4 = .ok (.ifCond .ne 5, 3) := by decide +kernel
theorem dX12_undo_7 : decode cX12_undo 7 = .ok (.iconst 0, 1) := by decide +kernel
theorem dX12_undo_8 : decode cX12_undo 8 = .ok (.ireturn, 1) := by decide +kernel
theorem dX12_undo_9 : decode cX12_undo 9 = .ok (.aload_n 0, 1) := by decide +kernel
theorem dX12_undo_10 : decode cX12_undo 10 = .ok (.dup, 1) := by decide +kernel
theorem dX12_undo_11 : decode cX12_undo 11 = .ok (.getfield 434, 3) := by decide +kernel
theorem dX12_undo_14 : decode cX12_undo 14 = .ok (.iconst 1, 1) := by decide +kernel
theorem dX12_undo_15 : decode cX12_undo 15 = .ok (.isub, 1) := by decide +kernel
theorem dX12_undo_16 : decode cX12_undo 16 = .ok (.putfield 434, 3) := by decide +kernel
theorem dX12_undo_19 : decode cX12_undo 19 = .ok (.aload_n 0, 1) := by decide +kernel
theorem dX12_undo_20 : decode cX12_undo 20 = .ok (.dup, 1) := by decide +kernel
theorem dX12_undo_21 : decode cX12_undo 21 = .ok (.getfield 437, 3) := by decide +kernel
theorem dX12_undo_24 : decode cX12_undo 24 = .ok (.iconst 1, 1) := by decide +kernel
theorem dX12_undo_25 : decode cX12_undo 25 = .ok (.iadd, 1) := by decide +kernel
theorem dX12_undo_26 : decode cX12_undo 26 = .ok (.putfield 437, 3) := by decide +kernel
theorem dX12_undo_29 : decode cX12_undo 29 = .ok (.aload_n 0, 1) := by decide +kernel
theorem dX12_undo_30 : decode cX12_undo 30 = .ok (.bipush 20, 2) := by decide +kernel
theorem dX12_undo_32 : decode cX12_undo 32 = .ok (.aload_n 0, 1) := by decide +kernel
theorem dX12_undo_33 : decode cX12_undo 33 = .ok (.getfield 434, 3) := by decide +kernel
theorem dX12_undo_36 : decode cX12_undo 36 = .ok (.imul, 1) := by decide +kernel
theorem dX12_undo_37 : decode cX12_undo 37 = .ok (.invokevirtual 534, 3) := by decide +kernel
theorem dX12_undo_40 : decode cX12_undo 40 = .ok (.iconst 1, 1) := by decide +kernel
theorem dX12_undo_41 : decode cX12_undo 41 = .ok (.ireturn, 1) := by decide +kernel
theorem wm_X12_exchange : Cond.instanceMethod yX12_exchange ∈ TB ∧ Cond.selects yX12_exchange.cls yX12_exchange yX12_exchange ∈ TB ∧ Cond.initialized yX12_exchange.cls ∈ TB ∧ Cond.code yX12_exchange cX12_exchange 4 none ∈ TB ∧ (yX12_exchange.cls ≠ "java/lang/invoke/MethodHandle" ∧ yX12_exchange.cls ≠ "java/lang/invoke/VarHandle" ∧ (parseMethodDescriptor yX12_exchange.desc).map (fun d => d.parameters.length) = some 1) ∧ 4 ≤ 21 := ⟨tbm 2019 (by decide +kernel) (by decide +kernel), tbm 109 (by decide +kernel) (by decide +kernel), tbm 146 (by decide +kernel) (by decide +kernel), tbm 2020 (by decide +kernel) (by decide +kernel), by decide +kernel, by decide⟩
theorem wi_RX12_534 : Iv RX12 534 yX12_exchange cX12_exchange 4 none 1 := ⟨tbm 2017 (by decide +kernel) (by decide +kernel), wm_X12_exchange⟩
def mX12_undo (t : Nat) (σ : St_) : Option (Bool × St_) :=
 (if (σ.1 t 68) = 0 then
 (some (false, σ))
 else (bnd (sI σ t 68 ((σ.1 t 68) - (1 : Int32))) fun σ1 =>
 (bnd (sI σ1 t 69 ((σ1.1 t 69) + (1 : Int32))) fun σ2 =>
 ((mX12_exchange t ((20 : Int32) * (σ2.1 t 68)) σ2).bind fun σ3 =>
 (some (true, σ3))))))
set_option maxHeartbeats 4000000 in
theorem rX12_undo (t : Nat) (hT : LY12 sh P t) : Rj l D cA h0 ad yX12_undo cX12_undo 1 (some .boolean) false 3 0 0 (fun b => (some (.int (b2i b.1)), sh, P, b.2)) [.ref (h0 + t)] sh P σ (mX12_undo t σ) := by
  rw [mX12_undo]
  refine Rj.of (by decide) (fun h => by cases h) (Nat.le_of_ble_eq_true rfl) ?_
  refine tj_lv0 (lv' := [(0, .ref (h0 + t))]) rfl ?_
  refine tj_aload_n (q := 1) dX12_undo_0 rfl (i := 0) rfl (pl := 0) rfl ?_
  refine tj_getI (q := 4) (hT).s fok_12_68 wl_RX12_434 dX12_undo_1 rfl ?_
  refine tj_if_ne (tgt := 9) (q := 7) dX12_undo_4 (by decide) rfl ?_ ?_
  · refine tj_iconst (q := 8) (v := 0) dX12_undo_7 rfl (by decide) ?_
    exact tj_zret rfl (by decide) rfl (Nat.le_of_ble_eq_true rfl) (Nat.le_of_ble_eq_true rfl) dX12_undo_8
  · refine tj_aload_n (q := 10) dX12_undo_9 rfl (i := 0) rfl (pl := 0) rfl ?_
    refine tj_dup (q := 11) dX12_undo_10 rfl rfl ?_
    refine tj_getI (q := 14) (hT).s fok_12_68 wl_RX12_434 dX12_undo_11 rfl ?_
    refine tj_iconst (q := 15) (v := 1) dX12_undo_14 rfl (by decide) ?_
    refine tj_isub (q := 16) dX12_undo_15 rfl ?_
    refine tj_putI (q := 19) (hT).s fok_12_68 tok_12 fpk_12_68 wl_RX12_434 dX12_undo_16 rfl (fun σ1 => ?_)
    refine tj_aload_n (q := 20) dX12_undo_19 rfl (i := 0) rfl (pl := 0) rfl ?_
    refine tj_dup (q := 21) dX12_undo_20 rfl rfl ?_
    refine tj_getI (q := 24) (hT).s fok_12_69 wl_RX12_437 dX12_undo_21 rfl ?_
    refine tj_iconst (q := 25) (v := 1) dX12_undo_24 rfl (by decide) ?_
    refine tj_iadd (q := 26) dX12_undo_25 rfl ?_
    refine tj_putI (q := 29) (hT).s fok_12_69 tok_12 fpk_12_69 wl_RX12_437 dX12_undo_26 rfl (fun σ2 => ?_)
    refine tj_aload_n (q := 30) dX12_undo_29 rfl (i := 0) rfl (pl := 0) rfl ?_
    refine tj_bipush (q := 32) (v := 20) dX12_undo_30 rfl (by decide) ?_
    refine tj_aload_n (q := 33) dX12_undo_32 rfl (i := 0) rfl (pl := 0) rfl ?_
    refine tj_getI (q := 36) (hT).s fok_12_68 wl_RX12_434 dX12_undo_33 rfl ?_
    refine tj_imul (q := 37) dX12_undo_36 rfl ?_
    refine tj_callV (q := 40) (kj_V (As := [.int ((20 : Int32) * (σ2.1 t 68))]) (rest := []) (t := t) wi_RX12_534 (hT).s rfl (rX12_exchange t ((20 : Int32) * (σ2.1 t 68)) (hT)) rfl (Nat.le_of_ble_eq_true rfl) ⟨Nat.le_of_ble_eq_true rfl, Nat.le_of_ble_eq_true rfl⟩ (Nat.le_of_ble_eq_true rfl) dX12_undo_37) rfl (fun σ3 => ?_)
    refine tj_iconst (q := 41) (v := 1) dX12_undo_40 rfl (by decide) ?_
    exact tj_zret rfl (by decide) rfl (Nat.le_of_ble_eq_true rfl) (Nat.le_of_ble_eq_true rfl) dX12_undo_41

theorem dX12_redo_0 : decode cX12_redo 0 = .ok (.aload_n 0, 1) := by decide +kernel
theorem dX12_redo_1 : decode cX12_redo 1 = .ok (.getfield 437, 3) := by decide +kernel
theorem dX12_redo_4 : decode cX12_redo 4 = .ok (.ifCond .ne 5, 3) := by decide +kernel
theorem dX12_redo_7 : decode cX12_redo 7 = .ok (.iconst 0, 1) := by decide +kernel
theorem dX12_redo_8 : decode cX12_redo 8 = .ok (.ireturn, 1) := by decide +kernel
theorem dX12_redo_9 : decode cX12_redo 9 = .ok (.aload_n 0, 1) := by decide +kernel
theorem dX12_redo_10 : decode cX12_redo 10 = .ok (.bipush 20, 2) := by decide +kernel
theorem dX12_redo_12 : decode cX12_redo 12 = .ok (.aload_n 0, 1) := by decide +kernel
theorem dX12_redo_13 : decode cX12_redo 13 = .ok (.getfield 434, 3) := by decide +kernel
theorem dX12_redo_16 : decode cX12_redo 16 = .ok (.imul, 1) := by decide +kernel
theorem dX12_redo_17 : decode cX12_redo 17 = .ok (.invokevirtual 534, 3) := by decide +kernel
theorem dX12_redo_20 : decode cX12_redo 20 = .ok (.aload_n 0, 1) := by decide +kernel
theorem dX12_redo_21 : decode cX12_redo 21 = .ok (.dup, 1) := by decide +kernel
theorem dX12_redo_22 : decode cX12_redo 22 = .ok (.getfield 434, 3) := by decide +kernel
theorem dX12_redo_25 : decode cX12_redo 25 = .ok (.iconst 1, 1) := by decide +kernel
theorem dX12_redo_26 : decode cX12_redo 26 = .ok (.iadd, 1) := by decide +kernel
theorem dX12_redo_27 : decode cX12_redo 27 = .ok (.putfield 434, 3) := by decide +kernel
theorem dX12_redo_30 : decode cX12_redo 30 = .ok (.aload_n 0, 1) := by decide +kernel
theorem dX12_redo_31 : decode cX12_redo 31 = .ok (.dup, 1) := by decide +kernel
theorem dX12_redo_32 : decode cX12_redo 32 = .ok (.getfield 437, 3) := by decide +kernel
theorem dX12_redo_35 : decode cX12_redo 35 = .ok (.iconst 1, 1) := by decide +kernel
theorem dX12_redo_36 : decode cX12_redo 36 = .ok (.isub, 1) := by decide +kernel
theorem dX12_redo_37 : decode cX12_redo 37 = .ok (.putfield 437, 3) := by decide +kernel
theorem dX12_redo_40 : decode cX12_redo 40 = .ok (.iconst 1, 1) := by decide +kernel
theorem dX12_redo_41 : decode cX12_redo 41 = .ok (.ireturn, 1) := by decide +kernel
def mX12_redo (t : Nat) (σ : St_) : Option (Bool × St_) :=
 (if (σ.1 t 69) = 0 then
 (some (false, σ))
 else ((mX12_exchange t ((20 : Int32) * (σ.1 t 68)) σ).bind fun σ1 =>
 (bnd (sI σ1 t 68 ((σ1.1 t 68) + (1 : Int32))) fun σ2 =>
 (bnd (sI σ2 t 69 ((σ2.1 t 69) - (1 : Int32))) fun σ3 =>
 (some (true, σ3))))))
set_option maxHeartbeats 4000000 in
theorem rX12_redo (t : Nat) (hT : LY12 sh P t) : Rj l D cA h0 ad yX12_redo cX12_redo 1 (some .boolean) false 3 0 0 (fun b => (some (.int (b2i b.1)), sh, P, b.2)) [.ref (h0 + t)] sh P σ (mX12_redo t σ) := by
  rw [mX12_redo]
  refine Rj.of (by decide) (fun h => by cases h) (Nat.le_of_ble_eq_true rfl) ?_
  refine tj_lv0 (lv' := [(0, .ref (h0 + t))]) rfl ?_
  refine tj_aload_n (q := 1) dX12_redo_0 rfl (i := 0) rfl (pl := 0) rfl ?_
  refine tj_getI (q := 4) (hT).s fok_12_69 wl_RX12_437 dX12_redo_1 rfl ?_
  refine tj_if_ne (tgt := 9) (q := 7) dX12_redo_4 (by decide) rfl ?_ ?_
  · refine tj_iconst (q := 8) (v := 0) dX12_redo_7 rfl (by decide) ?_
    exact tj_zret rfl (by decide) rfl (Nat.le_of_ble_eq_true rfl) (Nat.le_of_ble_eq_true rfl) dX12_redo_8
  · refine tj_aload_n (q := 10) dX12_redo_9 rfl (i := 0) rfl (pl := 0) rfl ?_
    refine tj_bipush (q := 12) (v := 20) dX12_redo_10 rfl (by decide) ?_
    refine tj_aload_n (q := 13) dX12_redo_12 rfl (i := 0) rfl (pl := 0) rfl ?_
    refine tj_getI (q := 16) (hT).s fok_12_68 wl_RX12_434 dX12_redo_13 rfl ?_
    refine tj_imul (q := 17) dX12_redo_16 rfl ?_
    refine tj_callV (q := 20) (kj_V (As := [.int ((20 : Int32) * (σ.1 t 68))]) (rest := []) (t := t) wi_RX12_534 (hT).s rfl (rX12_exchange t ((20 : Int32) * (σ.1 t 68)) (hT)) rfl (Nat.le_of_ble_eq_true rfl) ⟨Nat.le_of_ble_eq_true rfl, Nat.le_of_ble_eq_true rfl⟩ (Nat.le_of_ble_eq_true rfl) dX12_redo_17) rfl (fun σ1 => ?_)
    refine tj_aload_n (q := 21) dX12_redo_20 rfl (i := 0) rfl (pl := 0) rfl ?_
    refine tj_dup (q := 22) dX12_redo_21 rfl rfl ?_
    refine tj_getI (q := 25) (hT).s fok_12_68 wl_RX12_434 dX12_redo_22 rfl ?_
    refine tj_iconst (q := 26) (v := 1) dX12_redo_25 rfl (by decide) ?_
    refine tj_iadd (q := 27) dX12_redo_26 rfl ?_
    refine tj_putI (q := 30) (hT).s fok_12_68 tok_12 fpk_12_68 wl_RX12_434 dX12_redo_27 rfl (fun σ2 => ?_)
    refine tj_aload_n (q := 31) dX12_redo_30 rfl (i := 0) rfl (pl := 0) rfl ?_
    refine tj_dup (q := 32) dX12_redo_31 rfl rfl ?_
    refine tj_getI (q := 35) (hT).s fok_12_69 wl_RX12_437 dX12_redo_32 rfl ?_
    refine tj_iconst (q := 36) (v := 1) dX12_redo_35 rfl (by decide) ?_
    refine tj_isub (q := 37) dX12_redo_36 rfl ?_
    refine tj_putI (q := 40) (hT).s fok_12_69 tok_12 fpk_12_69 wl_RX12_437 dX12_redo_37 rfl (fun σ3 => ?_)
    refine tj_iconst (q := 41) (v := 1) dX12_redo_40 rfl (by decide) ?_
    exact tj_zret rfl (by decide) rfl (Nat.le_of_ble_eq_true rfl) (Nat.le_of_ble_eq_true rfl) dX12_redo_41

theorem dX12_isSwap_0 : decode cX12_isSwap 0 = .ok (.iload_n 2, 1) := by decide +kernel
theorem dX12_isSwap_1 : decode cX12_isSwap 1 = .ok (.sipush 10240, 3) := by decide +kernel
theorem dX12_isSwap_4 : decode cX12_isSwap 4 = .ok (.idiv, 1) := by decide +kernel
theorem dX12_isSwap_5 : decode cX12_isSwap 5 = .ok (.istore_n 3, 1) := by decide +kernel
theorem dX12_isSwap_6 : decode cX12_isSwap 6 = .ok (.iload_n 2, 1) := by decide +kernel
theorem dX12_isSwap_7 : decode cX12_isSwap 7 = .ok (.sipush 1024, 3) := by decide +kernel
theorem dX12_isSwap_10 : decode cX12_isSwap 10 = .ok (.idiv, 1) := by decide +kernel
theorem dX12_isSwap_11 : decode cX12_isSwap 11 = .ok (.bipush 10, 2) := by decide +kernel
theorem dX12_isSwap_13 : decode cX12_isSwap 13 = .ok (.irem, 1) := by decide +kernel
theorem dX12_isSwap_14 : decode cX12_isSwap 14 = .ok (.istore 4, 2) := by decide +kernel
theorem dX12_isSwap_16 : decode cX12_isSwap 16 = .ok (.iload_n 2, 1) := by decide +kernel
theorem dX12_isSwap_17 : decode cX12_isSwap 17 = .ok (.sipush 1024, 3) := by decide +kernel
theorem dX12_isSwap_20 : decode cX12_isSwap 20 = .ok (.irem, 1) := by decide +kernel
theorem dX12_isSwap_21 : decode cX12_isSwap 21 = .ok (.istore 5, 2) := by decide +kernel
theorem dX12_isSwap_23 : decode cX12_isSwap 23 = .ok (.iload 5, 2) := by decide +kernel
theorem dX12_isSwap_25 : decode cX12_isSwap 25 = .ok (.ifCond .eq 48, 3) := by decide +kernel
theorem dX12_isSwap_28 : decode cX12_isSwap 28 = .ok (.iload 5, 2) := by decide +kernel
theorem dX12_isSwap_30 : decode cX12_isSwap 30 = .ok (.invokestatic 475, 3) := by decide +kernel
theorem dX12_isSwap_33 : decode cX12_isSwap 33 = .ok (.iconst 2, 1) := by decide +kernel
theorem dX12_isSwap_34 : decode cX12_isSwap 34 = .ok (.if_icmp .gt 39, 3) := by decide +kernel
theorem dX12_isSwap_37 : decode cX12_isSwap 37 = .ok (.aload_n 0, 1) := by decide +kernel
theorem dX12_isSwap_38 : decode cX12_isSwap 38 = .ok (.iload 4, 2) := by decide +kernel
theorem dX12_isSwap_40 : decode cX12_isSwap 40 = .ok (.invokevirtual 490, 3) := by decide +kernel
theorem dX12_isSwap_43 : decode cX12_isSwap 43 = .ok (.ifCond .eq 30, 3) := by decide +kernel
theorem dX12_isSwap_46 : decode cX12_isSwap 46 = .ok (.aload_n 0, 1) := by decide +kernel
theorem dX12_isSwap_47 : decode cX12_isSwap 47 = .ok (.getfield 105, 3) := by decide +kernel
theorem dX12_isSwap_50 : decode cX12_isSwap 50 = .ok (.iload 4, 2) := by decide +kernel
theorem dX12_isSwap_52 : decode cX12_isSwap 52 = .ok (.iaload, 1) := by decide +kernel
theorem dX12_isSwap_53 : decode cX12_isSwap 53 = .ok (.iload_n 3, 1) := by decide +kernel
theorem dX12_isSwap_54 : decode cX12_isSwap 54 = .ok (.if_icmp .ne 19, 3) := by decide +kernel
theorem dX12_isSwap_57 : decode cX12_isSwap 57 = .ok (.iload 5, 2) := by decide +kernel
theorem dX12_isSwap_59 : decode cX12_isSwap 59 = .ok (.aload_n 0, 1) := by decide +kernel
theorem dX12_isSwap_60 : decode cX12_isSwap 60 = .ok (.bipush 10, 2) := by decide +kernel
theorem dX12_isSwap_62 : decode cX12_isSwap 62 = .ok (.iload_n 1, 1) := by decide +kernel
theorem dX12_isSwap_63 : decode cX12_isSwap 63 = .ok (.iadd, 1) := by decide +kernel
theorem dX12_isSwap_64 : decode cX12_isSwap 64 = .ok (.invokevirtual 469, 3) := by decide +kernel
theorem dX12_isSwap_67 : decode cX12_isSwap 67 = .ok (.iconst (-1), 1) := by decide +kernel
theorem dX12_isSwap_68 : decode cX12_isSwap 68 = .ok (.ixor, 1) := by decide +kernel
theorem dX12_isSwap_69 : decode cX12_isSwap 69 = .ok (.iand, 1) := by decide +kernel
theorem dX12_isSwap_70 : decode cX12_isSwap 70 = .ok (.ifCond .eq 5, 3) := by decide +kernel
theorem dX12_isSwap_73 : decode cX12_isSwap 73 = .ok (.iconst 0, 1) := by decide +kernel
theorem dX12_isSwap_74 : decode cX12_isSwap 74 = .ok (.ireturn, 1) := by decide +kernel
theorem dX12_isSwap_75 : decode cX12_isSwap 75 = .ok (.aload_n 0, 1) := by decide +kernel
theorem dX12_isSwap_76 : decode cX12_isSwap 76 = .ok (.iload_n 3, 1) := by decide +kernel
theorem dX12_isSwap_77 : decode cX12_isSwap 77 = .ok (.invokevirtual 514, 3) := by decide +kernel
theorem dX12_isSwap_80 : decode cX12_isSwap 80 = .ok (.ifCond .ne 46, 3) := by decide +kernel
theorem dX12_isSwap_83 : decode cX12_isSwap 83 = .ok (.aload_n 0, 1) := by decide +kernel
theorem dX12_isSwap_84 : decode cX12_isSwap 84 = .ok (.iload_n 1, 1) := by decide +kernel
theorem dX12_isSwap_85 : decode cX12_isSwap 85 = .ok (.iload_n 3, 1) := by decide +kernel
theorem dX12_isSwap_86 : decode cX12_isSwap 86 = .ok (.iconst 1, 1) := by decide +kernel
theorem dX12_isSwap_87 : decode cX12_isSwap 87 = .ok (.iload 4, 2) := by decide +kernel
theorem dX12_isSwap_89 : decode cX12_isSwap 89 = .ok (.ishl, 1) := by decide +kernel
theorem dX12_isSwap_90 : decode cX12_isSwap 90 = .ok (.iload 5, 2) := by decide +kernel
theorem dX12_isSwap_92 : decode cX12_isSwap 92 = .ok (.invokevirtual 511, 3) := by decide +kernel
theorem dX12_isSwap_95 : decode cX12_isSwap 95 = .ok (.ifCond .eq 31, 3) := by decide +kernel
theorem dX12_isSwap_98 : decode cX12_isSwap 98 = .ok (.aload_n 0, 1) := by decide +kernel
theorem dX12_isSwap_99 : decode cX12_isSwap 99 = .ok (.iload_n 3, 1) := by decide +kernel
theorem dX12_isSwap_100 : decode cX12_isSwap 100 = .ok (.iconst 1, 1) := by decide +kernel
theorem dX12_isSwap_101 : decode cX12_isSwap 101 = .ok (.iload 4, 2) := by decide +kernel
theorem dX12_isSwap_103 : decode cX12_isSwap 103 = .ok (.ishl, 1) := by decide +kernel
theorem dX12_isSwap_104 : decode cX12_isSwap 104 = .ok (.iload 5, 2) := by decide +kernel
theorem dX12_isSwap_106 : decode cX12_isSwap 106 = .ok (.aload_n 0, 1) := by decide +kernel
theorem dX12_isSwap_107 : decode cX12_isSwap 107 = .ok (.getfield 456, 3) := by decide +kernel
theorem dX12_isSwap_110 : decode cX12_isSwap 110 = .ok (.aload_n 0, 1) := by decide +kernel
theorem dX12_isSwap_111 : decode cX12_isSwap 111 = .ok (.getfield 93, 3) := by decide +kernel
theorem dX12_isSwap_114 : decode cX12_isSwap 114 = .ok (.iload_n 1, 1) := by decide +kernel
theorem dX12_isSwap_115 : decode cX12_isSwap 115 = .ok (.iaload, 1) := by decide +kernel
theorem dX12_isSwap_116 : decode cX12_isSwap 116 = .ok (.invokevirtual 517, 3) := by decide +kernel
theorem dX12_isSwap_119 : decode cX12_isSwap 119 = .ok (.ifCond .eq 7, 3) := by decide +kernel
theorem dX12_isSwap_122 : decode cX12_isSwap 122 = .ok (.iconst 1, 1) := by decide +kernel
theorem dX12_isSwap_123 : decode cX12_isSwap 123 = .ok (.goto 4, 3) := by decide +kernel
theorem dX12_isSwap_126 : decode cX12_isSwap 126 = .ok (.iconst 0, 1) := by decide +kernel
theorem dX12_isSwap_127 : decode cX12_isSwap 127 = .ok (.ireturn, 1) := by decide +kernel
def mX12_isSwap (t : Nat) (p1 : Int32) (p2 : Int32) (σ : St_) : Option (Bool × St_) :=
 (bnd (p2 / (10240 : Int32)) fun v1 =>
 (bnd (p2 / (1024 : Int32)) fun v2 =>
 (bnd (v2 - v2 / (10 : Int32) * (10 : Int32)) fun v3 =>
 (bnd (p2 - p2 / (1024 : Int32) * (1024 : Int32)) fun v4 =>
 (if v4 = 0 then
 (some (false, σ))
 else ((mX12_members v4 σ).bind fun r5 =>
 (if (2 : Int32) < r5 then
 (some (false, σ))
 else ((mX12_isThing t v3 σ).bind fun r6 =>
 (if r6 = true then
 (if bin v3 10 = true then bnd (σ.1 (t + 30) v3.toNatClampNeg) fun v7 =>
 (if v7 = v1 then
 ((mX12_hasAt t ((10 : Int32) + p1) σ).bind fun r8 =>
 (if (v4 &&& (r8 ^^^ (-1 : Int32))) = 0 then
 ((mX12_isSeen t v1 σ).bind fun r9 =>
 (if r9 = true then
 (some (false, σ))
 else ((mX12_canBe t p1 v1 ((1 : Int32) <<< (v3 &&& 31)) v4 σ).bind fun r10 =>
 (if r10 = true then
 (if bin p1 4 = true then bnd (σ.1 (t + 27) p1.toNatClampNeg) fun v11 =>
 ((mX12_isLawful t v1 ((1 : Int32) <<< (v3 &&& 31)) v4 (σ.1 t 62) v11 σ).bind fun r12 =>
 (if r12.1 = true then
 (some (true, r12.2))
 else (some (false, r12.2))))
 else none)
 else (some (false, σ))))))
 else (some (false, σ))))
 else (some (false, σ)))
 else none)
 else (some (false, σ)))))))))))
set_option maxHeartbeats 4000000 in
theorem rX12_isSwap (t : Nat) (p1 : Int32) (p2 : Int32) (hT : LY12 sh P t) : Rj l D cA h0 ad yX12_isSwap cX12_isSwap 6 (some .boolean) false 6 0 0 (fun b => (some (.int (b2i b.1)), sh, P, b.2)) [.ref (h0 + t), .int p1, .int p2] sh P σ (mX12_isSwap t p1 p2 σ) := by
  rw [mX12_isSwap]
  refine Rj.of (by decide) (fun h => by cases h) (Nat.le_of_ble_eq_true rfl) ?_
  refine tj_lv0 (lv' := [(0, .ref (h0 + t)), (1, .int p1), (2, .int p2)]) rfl ?_
  refine tj_iload_n (q := 1) dX12_isSwap_0 rfl (i := 2) rfl (pl := 2) rfl ?_
  refine tj_sipush (q := 4) (v := 10240) dX12_isSwap_1 rfl (by decide) ?_
  refine tj_idiv (q := 5) dX12_isSwap_4 rfl (by decide) ?_
  refine tj_topI (fun v1 => ?_)
  refine tj_istore_n (q := 6) dX12_isSwap_5 rfl (i := 3) rfl (by decide) rfl ?_
  refine tj_iload_n (q := 7) dX12_isSwap_6 rfl (i := 2) rfl (pl := 3) rfl ?_
  refine tj_sipush (q := 10) (v := 1024) dX12_isSwap_7 rfl (by decide) ?_
  refine tj_idiv (q := 11) dX12_isSwap_10 rfl (by decide) ?_
  refine tj_bipush (q := 13) (v := 10) dX12_isSwap_11 rfl (by decide) ?_
  refine tj_sndI (fun v2 => ?_)
  refine tj_irem (q := 14) dX12_isSwap_13 rfl (by decide) ?_
  refine tj_topI (fun v3 => ?_)
  refine tj_istore (q := 16) dX12_isSwap_14 rfl (by decide) rfl ?_
  refine tj_iload_n (q := 17) dX12_isSwap_16 rfl (i := 2) rfl (pl := 4) rfl ?_
  refine tj_sipush (q := 20) (v := 1024) dX12_isSwap_17 rfl (by decide) ?_
  refine tj_irem (q := 21) dX12_isSwap_20 rfl (by decide) ?_
  refine tj_topI (fun v4 => ?_)
  refine tj_istore (q := 23) dX12_isSwap_21 rfl (by decide) rfl ?_
  refine tj_iload (q := 25) dX12_isSwap_23 rfl (pl := 0) rfl ?_
  refine tj_if_eq (tgt := 73) (q := 28) dX12_isSwap_25 (by decide) rfl ?_ ?_
  · refine tj_iconst (q := 74) (v := 0) dX12_isSwap_73 rfl (by decide) ?_
    exact tj_zret rfl (by decide) rfl (Nat.le_of_ble_eq_true rfl) (Nat.le_of_ble_eq_true rfl) dX12_isSwap_74
  · refine tj_iload (q := 30) dX12_isSwap_28 rfl (pl := 0) rfl ?_
    refine tj_callIp (q := 33) (kj_S (As := [.int v4]) (rest := []) wi_RX12_475 (rX12_members v4) rfl (Nat.le_of_ble_eq_true rfl) ⟨Nat.le_of_ble_eq_true rfl, Nat.le_of_ble_eq_true rfl⟩ (Nat.le_of_ble_eq_true rfl) dX12_isSwap_30) rfl (fun r5 => ?_)
    refine tj_iconst (q := 34) (v := 2) dX12_isSwap_33 rfl (by decide) ?_
    refine tj_icmp_gt (tgt := 73) (q := 37) dX12_isSwap_34 (by decide) rfl ?_ ?_
    · refine tj_iconst (q := 74) (v := 0) dX12_isSwap_73 rfl (by decide) ?_
      exact tj_zret rfl (by decide) rfl (Nat.le_of_ble_eq_true rfl) (Nat.le_of_ble_eq_true rfl) dX12_isSwap_74
    · refine tj_aload_n (q := 38) dX12_isSwap_37 rfl (i := 0) rfl (pl := 3) rfl ?_
      refine tj_iload (q := 40) dX12_isSwap_38 rfl (pl := 1) rfl ?_
      refine tj_callZp (q := 43) (kj_V (As := [.int v3]) (rest := []) (t := t) wi_RX12_490 (hT).s rfl (rX12_isThing t v3 (hT)) rfl (Nat.le_of_ble_eq_true rfl) ⟨Nat.le_of_ble_eq_true rfl, Nat.le_of_ble_eq_true rfl⟩ (Nat.le_of_ble_eq_true rfl) dX12_isSwap_40) rfl (fun r6 => ?_)
      refine tj_bz (tgt := 73) (q := 46) dX12_isSwap_43 (by decide) rfl ?_ ?_
      · refine tj_aload_n (q := 47) dX12_isSwap_46 rfl (i := 0) rfl (pl := 3) rfl ?_
        refine tj_getR (q := 50) (hT).s (hT).p_w fok_12_61 wl_RX12_105 dX12_isSwap_47 rfl ?_
        refine tj_iload (q := 52) dX12_isSwap_50 rfl (pl := 1) rfl ?_
        refine tj_iaload (q := 53) (hT).s_w dX12_isSwap_52 rfl ?_
        refine tj_topI (fun v7 => ?_)
        refine tj_iload_n (q := 54) dX12_isSwap_53 rfl (i := 3) rfl (pl := 2) rfl ?_
        refine tj_icmp_ne (tgt := 73) (q := 57) dX12_isSwap_54 (by decide) rfl ?_ ?_
        · refine tj_iload (q := 59) dX12_isSwap_57 rfl (pl := 0) rfl ?_
          refine tj_aload_n (q := 60) dX12_isSwap_59 rfl (i := 0) rfl (pl := 3) rfl ?_
          refine tj_bipush (q := 62) (v := 10) dX12_isSwap_60 rfl (by decide) ?_
          refine tj_iload_n (q := 63) dX12_isSwap_62 rfl (i := 1) rfl (pl := 4) rfl ?_
          refine tj_iadd (q := 64) dX12_isSwap_63 rfl ?_
          refine tj_callIp (q := 67) (kj_V (As := [.int ((10 : Int32) + p1)]) (rest := [.int v4]) (t := t) wi_RX12_469 (hT).s rfl (rX12_hasAt t ((10 : Int32) + p1) (hT)) rfl (Nat.le_of_ble_eq_true rfl) ⟨Nat.le_of_ble_eq_true rfl, Nat.le_of_ble_eq_true rfl⟩ (Nat.le_of_ble_eq_true rfl) dX12_isSwap_64) rfl (fun r8 => ?_)
          refine tj_iconst (q := 68) (v := (-1)) dX12_isSwap_67 rfl (by decide) ?_
          refine tj_ixor (q := 69) dX12_isSwap_68 rfl ?_
          refine tj_iand (q := 70) dX12_isSwap_69 rfl ?_
          refine tj_if_eq (tgt := 75) (q := 73) dX12_isSwap_70 (by decide) rfl ?_ ?_
          · refine tj_aload_n (q := 76) dX12_isSwap_75 rfl (i := 0) rfl (pl := 3) rfl ?_
            refine tj_iload_n (q := 77) dX12_isSwap_76 rfl (i := 3) rfl (pl := 2) rfl ?_
            refine tj_callZp (q := 80) (kj_V (As := [.int v1]) (rest := []) (t := t) wi_RX12_514 (hT).s rfl (rX12_isSeen t v1 (hT)) rfl (Nat.le_of_ble_eq_true rfl) ⟨Nat.le_of_ble_eq_true rfl, Nat.le_of_ble_eq_true rfl⟩ (Nat.le_of_ble_eq_true rfl) dX12_isSwap_77) rfl (fun r9 => ?_)
            refine tj_bnz (tgt := 126) (q := 83) dX12_isSwap_80 (by decide) rfl ?_ ?_
            · refine tj_iconst (q := 127) (v := 0) dX12_isSwap_126 rfl (by decide) ?_
              exact tj_zret rfl (by decide) rfl (Nat.le_of_ble_eq_true rfl) (Nat.le_of_ble_eq_true rfl) dX12_isSwap_127
            · refine tj_aload_n (q := 84) dX12_isSwap_83 rfl (i := 0) rfl (pl := 3) rfl ?_
              refine tj_iload_n (q := 85) dX12_isSwap_84 rfl (i := 1) rfl (pl := 4) rfl ?_
              refine tj_iload_n (q := 86) dX12_isSwap_85 rfl (i := 3) rfl (pl := 2) rfl ?_
              refine tj_iconst (q := 87) (v := 1) dX12_isSwap_86 rfl (by decide) ?_
              refine tj_iload (q := 89) dX12_isSwap_87 rfl (pl := 1) rfl ?_
              refine tj_ishl (q := 90) dX12_isSwap_89 rfl ?_
              refine tj_iload (q := 92) dX12_isSwap_90 rfl (pl := 0) rfl ?_
              refine tj_callZp (q := 95) (kj_V (As := [.int p1, .int v1, .int ((1 : Int32) <<< (v3 &&& 31)), .int v4]) (rest := []) (t := t) wi_RX12_511 (hT).s rfl (rX12_canBe t p1 v1 ((1 : Int32) <<< (v3 &&& 31)) v4 (hT)) rfl (Nat.le_of_ble_eq_true rfl) ⟨Nat.le_of_ble_eq_true rfl, Nat.le_of_ble_eq_true rfl⟩ (Nat.le_of_ble_eq_true rfl) dX12_isSwap_92) rfl (fun r10 => ?_)
              refine tj_bz (tgt := 126) (q := 98) dX12_isSwap_95 (by decide) rfl ?_ ?_
              · refine tj_aload_n (q := 99) dX12_isSwap_98 rfl (i := 0) rfl (pl := 3) rfl ?_
                refine tj_iload_n (q := 100) dX12_isSwap_99 rfl (i := 3) rfl (pl := 2) rfl ?_
                refine tj_iconst (q := 101) (v := 1) dX12_isSwap_100 rfl (by decide) ?_
                refine tj_iload (q := 103) dX12_isSwap_101 rfl (pl := 1) rfl ?_
                refine tj_ishl (q := 104) dX12_isSwap_103 rfl ?_
                refine tj_iload (q := 106) dX12_isSwap_104 rfl (pl := 0) rfl ?_
                refine tj_aload_n (q := 107) dX12_isSwap_106 rfl (i := 0) rfl (pl := 3) rfl ?_
                refine tj_getI (q := 110) (hT).s fok_12_62 wl_RX12_456 dX12_isSwap_107 rfl ?_
                refine tj_aload_n (q := 111) dX12_isSwap_110 rfl (i := 0) rfl (pl := 3) rfl ?_
                refine tj_getR (q := 114) (hT).s (hT).p_skill fok_12_43 wl_RX12_93 dX12_isSwap_111 rfl ?_
                refine tj_iload_n (q := 115) dX12_isSwap_114 rfl (i := 1) rfl (pl := 4) rfl ?_
                refine tj_iaload (q := 116) (hT).s_skill dX12_isSwap_115 rfl ?_
                refine tj_topI (fun v11 => ?_)
                refine tj_callZ (q := 119) (kj_V (As := [.int v1, .int ((1 : Int32) <<< (v3 &&& 31)), .int v4, .int (σ.1 t 62), .int v11]) (rest := []) (t := t) wi_RX12_517 (hT).s rfl (rX12_isLawful t v1 ((1 : Int32) <<< (v3 &&& 31)) v4 (σ.1 t 62) v11 (hT)) rfl (Nat.le_of_ble_eq_true rfl) ⟨Nat.le_of_ble_eq_true rfl, Nat.le_of_ble_eq_true rfl⟩ (Nat.le_of_ble_eq_true rfl) dX12_isSwap_116) rfl (fun r12 => ?_)
                refine tj_bz (tgt := 126) (q := 122) dX12_isSwap_119 (by decide) rfl ?_ ?_
                · refine tj_iconst (q := 123) (v := 1) dX12_isSwap_122 rfl (by decide) ?_
                  refine tj_goto (q := 127) dX12_isSwap_123 (by decide) ?_
                  exact tj_zret rfl (by decide) rfl (Nat.le_of_ble_eq_true rfl) (Nat.le_of_ble_eq_true rfl) dX12_isSwap_127
                · refine tj_iconst (q := 127) (v := 0) dX12_isSwap_126 rfl (by decide) ?_
                  exact tj_zret rfl (by decide) rfl (Nat.le_of_ble_eq_true rfl) (Nat.le_of_ble_eq_true rfl) dX12_isSwap_127
              · refine tj_iconst (q := 127) (v := 0) dX12_isSwap_126 rfl (by decide) ?_
                exact tj_zret rfl (by decide) rfl (Nat.le_of_ble_eq_true rfl) (Nat.le_of_ble_eq_true rfl) dX12_isSwap_127
          · refine tj_iconst (q := 74) (v := 0) dX12_isSwap_73 rfl (by decide) ?_
            exact tj_zret rfl (by decide) rfl (Nat.le_of_ble_eq_true rfl) (Nat.le_of_ble_eq_true rfl) dX12_isSwap_74
        · refine tj_iconst (q := 74) (v := 0) dX12_isSwap_73 rfl (by decide) ?_
          exact tj_zret rfl (by decide) rfl (Nat.le_of_ble_eq_true rfl) (Nat.le_of_ble_eq_true rfl) dX12_isSwap_74
      · refine tj_iconst (q := 74) (v := 0) dX12_isSwap_73 rfl (by decide) ?_
        exact tj_zret rfl (by decide) rfl (Nat.le_of_ble_eq_true rfl) (Nat.le_of_ble_eq_true rfl) dX12_isSwap_74

theorem dX12_doSwap_0 : decode cX12_doSwap 0 = .ok (.aload_n 0, 1) := by decide +kernel
theorem dX12_doSwap_1 : decode cX12_doSwap 1 = .ok (.iload_n 1, 1) := by decide +kernel
theorem dX12_doSwap_2 : decode cX12_doSwap 2 = .ok (.iload_n 2, 1) := by decide +kernel
theorem dX12_doSwap_3 : decode cX12_doSwap 3 = .ok (.sipush 10240, 3) := by decide +kernel
theorem dX12_doSwap_6 : decode cX12_doSwap 6 = .ok (.idiv, 1) := by decide +kernel
theorem dX12_doSwap_7 : decode cX12_doSwap 7 = .ok (.iconst 1, 1) := by decide +kernel
theorem dX12_doSwap_8 : decode cX12_doSwap 8 = .ok (.iload_n 2, 1) := by decide +kernel
theorem dX12_doSwap_9 : decode cX12_doSwap 9 = .ok (.sipush 1024, 3) := by decide +kernel
theorem dX12_doSwap_12 : decode cX12_doSwap 12 = .ok (.idiv, 1) := by decide +kernel
theorem dX12_doSwap_13 : decode cX12_doSwap 13 = .ok (.bipush 10, 2) := by decide +kernel
theorem dX12_doSwap_15 : decode cX12_doSwap 15 = .ok (.irem, 1) := by decide +kernel
theorem dX12_doSwap_16 : decode cX12_doSwap 16 = .ok (.ishl, 1) := by decide +kernel
theorem dX12_doSwap_17 : decode cX12_doSwap 17 = .ok (.iload_n 2, 1) := by decide +kernel
theorem dX12_doSwap_18 : decode cX12_doSwap 18 = .ok (.sipush 1024, 3) := by decide +kernel
theorem dX12_doSwap_21 : decode cX12_doSwap 21 = .ok (.irem, 1) := by decide +kernel
theorem dX12_doSwap_22 : decode cX12_doSwap 22 = .ok (.invokevirtual 527, 3) := by decide +kernel
theorem dX12_doSwap_25 : decode cX12_doSwap 25 = .ok (.return_, 1) := by decide +kernel
def mX12_doSwap (t : Nat) (p1 : Int32) (p2 : Int32) (σ : St_) : Option St_ :=
 (bnd (p2 / (1024 : Int32)) fun v1 =>
 ((mX12_move t p1 (p2 / (10240 : Int32)) ((1 : Int32) <<< ((v1 - v1 / (10 : Int32) * (10 : Int32)) &&& 31)) (p2 - p2 / (1024 : Int32) * (1024 : Int32)) σ).bind fun σ2 =>
 (some σ2)))
set_option maxHeartbeats 4000000 in
theorem rX12_doSwap (t : Nat) (p1 : Int32) (p2 : Int32) (hT : LY12 sh P t) : Rj l D cA h0 ad yX12_doSwap cX12_doSwap 3 none false 3 0 0 (fun b => (none, sh, P, b)) [.ref (h0 + t), .int p1, .int p2] sh P σ (mX12_doSwap t p1 p2 σ) := by
  rw [mX12_doSwap]
  refine Rj.of (by decide) (fun h => by cases h) (Nat.le_of_ble_eq_true rfl) ?_
  refine tj_lv0 (lv' := [(0, .ref (h0 + t)), (1, .int p1), (2, .int p2)]) rfl ?_
  refine tj_aload_n (q := 1) dX12_doSwap_0 rfl (i := 0) rfl (pl := 0) rfl ?_
  refine tj_iload_n (q := 2) dX12_doSwap_1 rfl (i := 1) rfl (pl := 1) rfl ?_
  refine tj_iload_n (q := 3) dX12_doSwap_2 rfl (i := 2) rfl (pl := 2) rfl ?_
  refine tj_sipush (q := 6) (v := 10240) dX12_doSwap_3 rfl (by decide) ?_
  refine tj_idiv (q := 7) dX12_doSwap_6 rfl (by decide) ?_
  refine tj_iconst (q := 8) (v := 1) dX12_doSwap_7 rfl (by decide) ?_
  refine tj_iload_n (q := 9) dX12_doSwap_8 rfl (i := 2) rfl (pl := 2) rfl ?_
  refine tj_sipush (q := 12) (v := 1024) dX12_doSwap_9 rfl (by decide) ?_
  refine tj_idiv (q := 13) dX12_doSwap_12 rfl (by decide) ?_
  refine tj_bipush (q := 15) (v := 10) dX12_doSwap_13 rfl (by decide) ?_
  refine tj_sndI (fun v1 => ?_)
  refine tj_irem (q := 16) dX12_doSwap_15 rfl (by decide) ?_
  refine tj_ishl (q := 17) dX12_doSwap_16 rfl ?_
  refine tj_iload_n (q := 18) dX12_doSwap_17 rfl (i := 2) rfl (pl := 2) rfl ?_
  refine tj_sipush (q := 21) (v := 1024) dX12_doSwap_18 rfl (by decide) ?_
  refine tj_irem (q := 22) dX12_doSwap_21 rfl (by decide) ?_
  refine tj_callV (q := 25) (kj_V (As := [.int p1, .int (p2 / (10240 : Int32)), .int ((1 : Int32) <<< ((v1 - v1 / (10 : Int32) * (10 : Int32)) &&& 31)), .int (p2 - p2 / (1024 : Int32) * (1024 : Int32))]) (rest := []) (t := t) wi_RX12_527 (hT).s rfl (rX12_move t p1 (p2 / (10240 : Int32)) ((1 : Int32) <<< ((v1 - v1 / (10 : Int32) * (10 : Int32)) &&& 31)) (p2 - p2 / (1024 : Int32) * (1024 : Int32)) (hT)) rfl (Nat.le_of_ble_eq_true rfl) ⟨Nat.le_of_ble_eq_true rfl, Nat.le_of_ble_eq_true rfl⟩ (Nat.le_of_ble_eq_true rfl) dX12_doSwap_22) rfl (fun σ2 => ?_)
  exact tj_vret rfl rfl (Nat.le_of_ble_eq_true rfl) (Nat.le_of_ble_eq_true rfl) dX12_doSwap_25

theorem dX12_nextSwap_0 : decode cX12_nextSwap 0 = .ok (.aload_n 0, 1) := by decide +kernel
theorem dX12_nextSwap_1 : decode cX12_nextSwap 1 = .ok (.bipush 10, 2) := by decide +kernel
theorem dX12_nextSwap_3 : decode cX12_nextSwap 3 = .ok (.iload_n 1, 1) := by decide +kernel
theorem dX12_nextSwap_4 : decode cX12_nextSwap 4 = .ok (.iadd, 1) := by decide +kernel
theorem dX12_nextSwap_5 : decode cX12_nextSwap 5 = .ok (.invokevirtual 469, 3) := by decide +kernel
theorem dX12_nextSwap_8 : decode cX12_nextSwap 8 = .ok (.istore_n 3, 1) := by decide +kernel
theorem dX12_nextSwap_9 : decode cX12_nextSwap 9 = .ok (.iload_n 3, 1) := by decide +kernel
theorem dX12_nextSwap_10 : decode cX12_nextSwap 10 = .ok (.ifCond .ne 5, 3) := by decide +kernel
theorem dX12_nextSwap_13 : decode cX12_nextSwap 13 = .ok (.iconst (-1), 1) := by decide +kernel
theorem dX12_nextSwap_14 : decode cX12_nextSwap 14 = .ok (.ireturn, 1) := by decide +kernel
theorem dX12_nextSwap_15 : decode cX12_nextSwap 15 = .ok (.iload_n 2, 1) := by decide +kernel
theorem dX12_nextSwap_16 : decode cX12_nextSwap 16 = .ok (.istore 4, 2) := by decide +kernel
theorem dX12_nextSwap_18 : decode cX12_nextSwap 18 = .ok (.iload 4, 2) := by decide +kernel
theorem dX12_nextSwap_20 : decode cX12_nextSwap 20 = .ok (.sipush 10240, 3) := by decide +kernel
theorem dX12_nextSwap_23 : decode cX12_nextSwap 23 = .ok (.aload_n 0, 1) := by decide +kernel
theorem dX12_nextSwap_24 : decode cX12_nextSwap 24 = .ok (.getfield 422, 3) := by decide +kernel
theorem dX12_nextSwap_27 : decode cX12_nextSwap 27 = .ok (.imul, 1) := by decide +kernel
theorem dX12_nextSwap_28 : decode cX12_nextSwap 28 = .ok (.if_icmp .ge 69, 3) := by decide +kernel
theorem dX12_nextSwap_31 : decode cX12_nextSwap 31 = .ok (.aload_n 0, 1) := by decide +kernel
theorem dX12_nextSwap_32 : decode cX12_nextSwap 32 = .ok (.getfield 105, 3) := by decide +kernel
theorem dX12_nextSwap_35 : decode cX12_nextSwap 35 = .ok (.iload 4, 2) := by decide +kernel
theorem dX12_nextSwap_37 : decode cX12_nextSwap 37 = .ok (.sipush 1024, 3) := by decide +kernel
theorem dX12_nextSwap_40 : decode cX12_nextSwap 40 = .ok (.idiv, 1) := by decide +kernel
theorem dX12_nextSwap_41 : decode cX12_nextSwap 41 = .ok (.bipush 10, 2) := by decide +kernel
theorem dX12_nextSwap_43 : decode cX12_nextSwap 43 = .ok (.irem, 1) := by decide +kernel
theorem dX12_nextSwap_44 : decode cX12_nextSwap 44 = .ok (.iaload, 1) := by decide +kernel
theorem dX12_nextSwap_45 : decode cX12_nextSwap 45 = .ok (.iload 4, 2) := by decide +kernel
theorem dX12_nextSwap_47 : decode cX12_nextSwap 47 = .ok (.sipush 10240, 3) := by decide +kernel
theorem dX12_nextSwap_50 : decode cX12_nextSwap 50 = .ok (.idiv, 1) := by decide +kernel
theorem dX12_nextSwap_51 : decode cX12_nextSwap 51 = .ok (.if_icmp .eq 14, 3) := by decide +kernel
theorem dX12_nextSwap_54 : decode cX12_nextSwap 54 = .ok (.iload 4, 2) := by decide +kernel
theorem dX12_nextSwap_56 : decode cX12_nextSwap 56 = .ok (.sipush 1023, 3) := by decide +kernel
theorem dX12_nextSwap_59 : decode cX12_nextSwap 59 = .ok (.ior, 1) := by decide +kernel
theorem dX12_nextSwap_60 : decode cX12_nextSwap 60 = .ok (.istore 4, 2) := by decide +kernel
theorem dX12_nextSwap_62 : decode cX12_nextSwap 62 = .ok (.goto 29, 3) := by decide +kernel
theorem dX12_nextSwap_65 : decode cX12_nextSwap 65 = .ok (.iload 4, 2) := by decide +kernel
theorem dX12_nextSwap_67 : decode cX12_nextSwap 67 = .ok (.sipush 1024, 3) := by decide +kernel
theorem dX12_nextSwap_70 : decode cX12_nextSwap 70 = .ok (.irem, 1) := by decide +kernel
theorem dX12_nextSwap_71 : decode cX12_nextSwap 71 = .ok (.iload_n 3, 1) := by decide +kernel
theorem dX12_nextSwap_72 : decode cX12_nextSwap 72 = .ok (.iconst (-1), 1) := by decide +kernel
theorem dX12_nextSwap_73 : decode cX12_nextSwap 73 = .ok (.ixor, 1) := by decide +kernel
theorem dX12_nextSwap_74 : decode cX12_nextSwap 74 = .ok (.iand, 1) := by decide +kernel
theorem dX12_nextSwap_75 : decode cX12_nextSwap 75 = .ok (.ifCond .ne 16, 3) := by decide +kernel
theorem dX12_nextSwap_78 : decode cX12_nextSwap 78 = .ok (.aload_n 0, 1) := by decide +kernel
theorem dX12_nextSwap_79 : decode cX12_nextSwap 79 = .ok (.iload_n 1, 1) := by decide +kernel
theorem dX12_nextSwap_80 : decode cX12_nextSwap 80 = .ok (.iload 4, 2) := by decide +kernel
theorem dX12_nextSwap_82 : decode cX12_nextSwap 82 = .ok (.invokevirtual 537, 3) := by decide +kernel
theorem dX12_nextSwap_85 : decode cX12_nextSwap 85 = .ok (.ifCond .eq 6, 3) := by decide +kernel
theorem dX12_nextSwap_88 : decode cX12_nextSwap 88 = .ok (.iload 4, 2) := by decide +kernel
theorem dX12_nextSwap_90 : decode cX12_nextSwap 90 = .ok (.ireturn, 1) := by decide +kernel
theorem dX12_nextSwap_91 : decode cX12_nextSwap 91 = .ok (.iinc 4 1, 3) := by decide +kernel
theorem dX12_nextSwap_94 : decode cX12_nextSwap 94 = .ok (.goto (-76), 3) := by decide +kernel
theorem dX12_nextSwap_97 : decode cX12_nextSwap 97 = .ok (.iconst (-1), 1) := by decide +kernel
theorem dX12_nextSwap_98 : decode cX12_nextSwap 98 = .ok (.ireturn, 1) := by decide +kernel
theorem wm_X12_isSwap : Cond.instanceMethod yX12_isSwap ∈ TB ∧ Cond.selects yX12_isSwap.cls yX12_isSwap yX12_isSwap ∈ TB ∧ Cond.initialized yX12_isSwap.cls ∈ TB ∧ Cond.code yX12_isSwap cX12_isSwap 6 (some .boolean) ∈ TB ∧ (yX12_isSwap.cls ≠ "java/lang/invoke/MethodHandle" ∧ yX12_isSwap.cls ≠ "java/lang/invoke/VarHandle" ∧ (parseMethodDescriptor yX12_isSwap.desc).map (fun d => d.parameters.length) = some 2) ∧ 6 ≤ 21 := ⟨tbm 2035 (by decide +kernel) (by decide +kernel), tbm 111 (by decide +kernel) (by decide +kernel), tbm 146 (by decide +kernel) (by decide +kernel), tbm 2036 (by decide +kernel) (by decide +kernel), by decide +kernel, by decide⟩
theorem wi_RX12_537 : Iv RX12 537 yX12_isSwap cX12_isSwap 6 (some .boolean) 2 := ⟨tbm 2033 (by decide +kernel) (by decide +kernel), wm_X12_isSwap⟩
def mX12_nextSwap_L18 (t : Nat) (x1 : Int32) (x3 : Int32) : Nat → Int32 → St_ → Option (Int32 × St_)
  | 0, _, _ => none
  | n + 1, x4, σ => (if ((10240 : Int32) * (σ.1 t 53)) ≤ x4 then
 (some ((-1 : Int32), σ))
 else (bnd (x4 / (1024 : Int32)) fun v2 =>
 (bnd (v2 - v2 / (10 : Int32) * (10 : Int32)) fun v3 =>
 (if bin v3 10 = true then bnd (σ.1 (t + 30) v3.toNatClampNeg) fun v4 =>
 (bnd (fun (j5 : Int32) (σ6 : St_) => (mX12_nextSwap_L18 t x1 x3 n (j5 + 1) σ6)) fun k7 =>
 (if v4 = (x4 / (10240 : Int32)) then
 (if ((x4 - x4 / (1024 : Int32) * (1024 : Int32)) &&& (x3 ^^^ (-1 : Int32))) = 0 then
 ((mX12_isSwap t x1 x4 σ).bind fun r9 =>
 (if r9.1 = true then
 (some (x4, r9.2))
 else (k7 x4 r9.2)))
 else (k7 x4 σ))
 else (bnd (x4 ||| (1023 : Int32)) fun v10 =>
 (k7 v10 σ))))
 else none))))
def mX12_nextSwap (t : Nat) (p1 : Int32) (p2 : Int32) (σ : St_) : Option (Int32 × St_) :=
 ((mX12_hasAt t ((10 : Int32) + p1) σ).bind fun r1 =>
 (if r1 = 0 then
 (some ((-1 : Int32), σ))
 else (mX12_nextSwap_L18 t p1 r1 FU p2 σ)))
set_option maxHeartbeats 4000000 in
theorem tmX12_nextSwap_L18 (t : Nat) (hT : LY12 sh P t) (x1 : Int32) (x3 : Int32) : ∀ (n : Nat) (x4 : Int32) (σ : St_), Tj l D cA h0 ad RX12 cX12_nextSwap 5 (some .int) false 7 0 0 (fun b => (some (.int b.1), sh, P, b.2)) 0 0 sh P σ 18 [(0, .ref (h0 + t)), (1, .int x1), (3, .int x3), (4, .int x4)] [] (mX12_nextSwap_L18 t x1 x3 n x4 σ) := by
  intro n
  induction n with
  | zero => intros; exact tj_none
  | succ n ih =>
    intro x4 σ
    rw [mX12_nextSwap_L18]
    refine tj_iload (q := 20) dX12_nextSwap_18 rfl (pl := 3) rfl ?_
    refine tj_sipush (q := 23) (v := 10240) dX12_nextSwap_20 rfl (by decide) ?_
    refine tj_aload_n (q := 24) dX12_nextSwap_23 rfl (i := 0) rfl (pl := 0) rfl ?_
    refine tj_getI (q := 27) (hT).s fok_12_53 wl_RX12_422 dX12_nextSwap_24 rfl ?_
    refine tj_imul (q := 28) dX12_nextSwap_27 rfl ?_
    refine tj_icmp_ge (tgt := 97) (q := 31) dX12_nextSwap_28 (by decide) rfl ?_ ?_
    · refine tj_iconst (q := 98) (v := (-1)) dX12_nextSwap_97 rfl (by decide) ?_
      exact tj_iret rfl rfl (Nat.le_of_ble_eq_true rfl) (Nat.le_of_ble_eq_true rfl) dX12_nextSwap_98
    · refine tj_aload_n (q := 32) dX12_nextSwap_31 rfl (i := 0) rfl (pl := 0) rfl ?_
      refine tj_getR (q := 35) (hT).s (hT).p_w fok_12_61 wl_RX12_105 dX12_nextSwap_32 rfl ?_
      refine tj_iload (q := 37) dX12_nextSwap_35 rfl (pl := 3) rfl ?_
      refine tj_sipush (q := 40) (v := 1024) dX12_nextSwap_37 rfl (by decide) ?_
      refine tj_idiv (q := 41) dX12_nextSwap_40 rfl (by decide) ?_
      refine tj_bipush (q := 43) (v := 10) dX12_nextSwap_41 rfl (by decide) ?_
      refine tj_sndI (fun v2 => ?_)
      refine tj_irem (q := 44) dX12_nextSwap_43 rfl (by decide) ?_
      refine tj_topI (fun v3 => ?_)
      refine tj_iaload (q := 45) (hT).s_w dX12_nextSwap_44 rfl ?_
      refine tj_topI (fun v4 => ?_)
      refine tj_iload (q := 47) dX12_nextSwap_45 rfl (pl := 3) rfl ?_
      refine tj_sipush (q := 50) (v := 10240) dX12_nextSwap_47 rfl (by decide) ?_
      refine tj_idiv (q := 51) dX12_nextSwap_50 rfl (by decide) ?_
      refine tj_bnd (fun k7 => ∀ (j5 : Int32) (σ6 : St_), Tj l D cA h0 ad RX12 cX12_nextSwap 5 (some .int) false 7 0 0 (fun b => (some (.int b.1), sh, P, b.2)) 0 0 sh P σ6 91 [(0, .ref (h0 + t)), (1, .int x1), (3, .int x3), (4, .int j5)] [] (k7 j5 σ6)) ?_ (fun k7 hk8 => ?_)
      · intro j5 σ6
        refine tj_iinc (q := 94) (v := j5 + 1) dX12_nextSwap_91 rfl (pl := 3) rfl rfl (by decide) rfl ?_
        refine tj_goto (q := 18) dX12_nextSwap_94 (by decide) ?_
        refine tj_lv [1, 2, 3, 0] rfl ?_
        exact ih (j5 + 1) σ6
      · refine tj_icmp_eq (tgt := 65) (q := 54) dX12_nextSwap_51 (by decide) rfl ?_ ?_
        · refine tj_iload (q := 67) dX12_nextSwap_65 rfl (pl := 3) rfl ?_
          refine tj_sipush (q := 70) (v := 1024) dX12_nextSwap_67 rfl (by decide) ?_
          refine tj_irem (q := 71) dX12_nextSwap_70 rfl (by decide) ?_
          refine tj_iload_n (q := 72) dX12_nextSwap_71 rfl (i := 3) rfl (pl := 2) rfl ?_
          refine tj_iconst (q := 73) (v := (-1)) dX12_nextSwap_72 rfl (by decide) ?_
          refine tj_ixor (q := 74) dX12_nextSwap_73 rfl ?_
          refine tj_iand (q := 75) dX12_nextSwap_74 rfl ?_
          refine tj_if_ne (tgt := 91) (q := 78) dX12_nextSwap_75 (by decide) rfl ?_ ?_
          · refine tj_aload_n (q := 79) dX12_nextSwap_78 rfl (i := 0) rfl (pl := 0) rfl ?_
            refine tj_iload_n (q := 80) dX12_nextSwap_79 rfl (i := 1) rfl (pl := 1) rfl ?_
            refine tj_iload (q := 82) dX12_nextSwap_80 rfl (pl := 3) rfl ?_
            refine tj_callZ (q := 85) (kj_V (As := [.int x1, .int x4]) (rest := []) (t := t) wi_RX12_537 (hT).s rfl (rX12_isSwap t x1 x4 (hT)) rfl (Nat.le_of_ble_eq_true rfl) ⟨Nat.le_of_ble_eq_true rfl, Nat.le_of_ble_eq_true rfl⟩ (Nat.le_of_ble_eq_true rfl) dX12_nextSwap_82) rfl (fun r9 => ?_)
            refine tj_bz (tgt := 91) (q := 88) dX12_nextSwap_85 (by decide) rfl ?_ ?_
            · refine tj_iload (q := 90) dX12_nextSwap_88 rfl (pl := 3) rfl ?_
              exact tj_iret rfl rfl (Nat.le_of_ble_eq_true rfl) (Nat.le_of_ble_eq_true rfl) dX12_nextSwap_90
            · exact hk8 x4 r9.2
          · exact hk8 x4 σ
        · refine tj_iload (q := 56) dX12_nextSwap_54 rfl (pl := 3) rfl ?_
          refine tj_sipush (q := 59) (v := 1023) dX12_nextSwap_56 rfl (by decide) ?_
          refine tj_ior (q := 60) dX12_nextSwap_59 rfl ?_
          refine tj_topI (fun v10 => ?_)
          refine tj_istore (q := 62) dX12_nextSwap_60 rfl (by decide) rfl ?_
          refine tj_goto (q := 91) dX12_nextSwap_62 (by decide) ?_
          refine tj_lv [1, 2, 3, 0] rfl ?_
          exact hk8 v10 σ

set_option maxHeartbeats 4000000 in
theorem rX12_nextSwap (t : Nat) (p1 : Int32) (p2 : Int32) (hT : LY12 sh P t) : Rj l D cA h0 ad yX12_nextSwap cX12_nextSwap 5 (some .int) false 7 0 0 (fun b => (some (.int b.1), sh, P, b.2)) [.ref (h0 + t), .int p1, .int p2] sh P σ (mX12_nextSwap t p1 p2 σ) := by
  rw [mX12_nextSwap]
  refine Rj.of (by decide) (fun h => by cases h) (Nat.le_of_ble_eq_true rfl) ?_
  refine tj_lv0 (lv' := [(0, .ref (h0 + t)), (1, .int p1), (2, .int p2)]) rfl ?_
  refine tj_aload_n (q := 1) dX12_nextSwap_0 rfl (i := 0) rfl (pl := 0) rfl ?_
  refine tj_bipush (q := 3) (v := 10) dX12_nextSwap_1 rfl (by decide) ?_
  refine tj_iload_n (q := 4) dX12_nextSwap_3 rfl (i := 1) rfl (pl := 1) rfl ?_
  refine tj_iadd (q := 5) dX12_nextSwap_4 rfl ?_
  refine tj_callIp (q := 8) (kj_V (As := [.int ((10 : Int32) + p1)]) (rest := []) (t := t) wi_RX12_469 (hT).s rfl (rX12_hasAt t ((10 : Int32) + p1) (hT)) rfl (Nat.le_of_ble_eq_true rfl) ⟨Nat.le_of_ble_eq_true rfl, Nat.le_of_ble_eq_true rfl⟩ (Nat.le_of_ble_eq_true rfl) dX12_nextSwap_5) rfl (fun r1 => ?_)
  refine tj_istore_n (q := 9) dX12_nextSwap_8 rfl (i := 3) rfl (by decide) rfl ?_
  refine tj_iload_n (q := 10) dX12_nextSwap_9 rfl (i := 3) rfl (pl := 0) rfl ?_
  refine tj_if_ne (tgt := 15) (q := 13) dX12_nextSwap_10 (by decide) rfl ?_ ?_
  · refine tj_iconst (q := 14) (v := (-1)) dX12_nextSwap_13 rfl (by decide) ?_
    exact tj_iret rfl rfl (Nat.le_of_ble_eq_true rfl) (Nat.le_of_ble_eq_true rfl) dX12_nextSwap_14
  · refine tj_iload_n (q := 16) dX12_nextSwap_15 rfl (i := 2) rfl (pl := 3) rfl ?_
    refine tj_istore (q := 18) dX12_nextSwap_16 rfl (by decide) rfl ?_
    refine tj_lv [2, 3, 1, 0] rfl ?_
    exact tmX12_nextSwap_L18 t hT p1 r1 FU p2 σ

theorem dX12_gainOf_0 : decode cX12_gainOf 0 = .ok (.iload_n 2, 1) := by decide +kernel
theorem dX12_gainOf_1 : decode cX12_gainOf 1 = .ok (.sipush 1024, 3) := by decide +kernel
theorem dX12_gainOf_4 : decode cX12_gainOf 4 = .ok (.irem, 1) := by decide +kernel
theorem dX12_gainOf_5 : decode cX12_gainOf 5 = .ok (.istore_n 3, 1) := by decide +kernel
theorem dX12_gainOf_6 : decode cX12_gainOf 6 = .ok (.aload_n 0, 1) := by decide +kernel
theorem dX12_gainOf_7 : decode cX12_gainOf 7 = .ok (.iload_n 2, 1) := by decide +kernel
theorem dX12_gainOf_8 : decode cX12_gainOf 8 = .ok (.sipush 1024, 3) := by decide +kernel
theorem dX12_gainOf_11 : decode cX12_gainOf 11 = .ok (.idiv, 1) := by decide +kernel
theorem dX12_gainOf_12 : decode cX12_gainOf 12 = .ok (.bipush 10, 2) := by decide +kernel
theorem dX12_gainOf_14 : decode cX12_gainOf 14 = .ok (.irem, 1) := by decide +kernel
theorem dX12_gainOf_15 : decode cX12_gainOf 15 = .ok (.iload_n 1, 1) := by decide +kernel
theorem dX12_gainOf_16 : decode cX12_gainOf 16 = .ok (.iconst 1, 1) := by decide +kernel
theorem dX12_gainOf_17 : decode cX12_gainOf 17 = .ok (.invokevirtual 465, 3) := by decide +kernel
theorem dX12_gainOf_20 : decode cX12_gainOf 20 = .ok (.istore 4, 2) := by decide +kernel
theorem dX12_gainOf_22 : decode cX12_gainOf 22 = .ok (.iconst 0, 1) := by decide +kernel
theorem dX12_gainOf_23 : decode cX12_gainOf 23 = .ok (.istore 5, 2) := by decide +kernel
theorem dX12_gainOf_25 : decode cX12_gainOf 25 = .ok (.iload 5, 2) := by decide +kernel
theorem dX12_gainOf_27 : decode cX12_gainOf 27 = .ok (.aload_n 0, 1) := by decide +kernel
theorem dX12_gainOf_28 : decode cX12_gainOf 28 = .ok (.getfield 419, 3) := by decide +kernel
theorem dX12_gainOf_31 : decode cX12_gainOf 31 = .ok (.if_icmp .ge 36, 3) := by decide +kernel
theorem dX12_gainOf_34 : decode cX12_gainOf 34 = .ok (.iload 4, 2) := by decide +kernel
theorem dX12_gainOf_36 : decode cX12_gainOf 36 = .ok (.iload_n 3, 1) := by decide +kernel
theorem dX12_gainOf_37 : decode cX12_gainOf 37 = .ok (.iload 5, 2) := by decide +kernel
theorem dX12_gainOf_39 : decode cX12_gainOf 39 = .ok (.ishr, 1) := by decide +kernel
theorem dX12_gainOf_40 : decode cX12_gainOf 40 = .ok (.iconst 1, 1) := by decide +kernel
theorem dX12_gainOf_41 : decode cX12_gainOf 41 = .ok (.iand, 1) := by decide +kernel
theorem dX12_gainOf_42 : decode cX12_gainOf 42 = .ok (.iconst 1, 1) := by decide +kernel
theorem dX12_gainOf_43 : decode cX12_gainOf 43 = .ok (.if_icmp .ne 14, 3) := by decide +kernel
theorem dX12_gainOf_46 : decode cX12_gainOf 46 = .ok (.aload_n 0, 1) := by decide +kernel
theorem dX12_gainOf_47 : decode cX12_gainOf 47 = .ok (.iload 5, 2) := by decide +kernel
theorem dX12_gainOf_49 : decode cX12_gainOf 49 = .ok (.iload_n 1, 1) := by decide +kernel
theorem dX12_gainOf_50 : decode cX12_gainOf 50 = .ok (.iconst 1, 1) := by decide +kernel
theorem dX12_gainOf_51 : decode cX12_gainOf 51 = .ok (.invokevirtual 465, 3) := by decide +kernel
theorem dX12_gainOf_54 : decode cX12_gainOf 54 = .ok (.goto 4, 3) := by decide +kernel
theorem dX12_gainOf_57 : decode cX12_gainOf 57 = .ok (.iconst 0, 1) := by decide +kernel
theorem dX12_gainOf_58 : decode cX12_gainOf 58 = .ok (.isub, 1) := by decide +kernel
theorem dX12_gainOf_59 : decode cX12_gainOf 59 = .ok (.istore 4, 2) := by decide +kernel
theorem dX12_gainOf_61 : decode cX12_gainOf 61 = .ok (.iinc 5 1, 3) := by decide +kernel
theorem dX12_gainOf_64 : decode cX12_gainOf 64 = .ok (.goto (-39), 3) := by decide +kernel
theorem dX12_gainOf_67 : decode cX12_gainOf 67 = .ok (.iload 4, 2) := by decide +kernel
theorem dX12_gainOf_69 : decode cX12_gainOf 69 = .ok (.ireturn, 1) := by decide +kernel
def mX12_gainOf_L25 (t : Nat) (σ : St_) (x1 : Int32) (x3 : Int32) : Nat → Int32 → Int32 → Option Int32
  | 0, _, _ => none
  | n + 1, x4, x5 => (if (σ.1 t 52) ≤ x5 then
 (some x4)
 else (bnd (fun (j4 : Int32) => (bnd (x4 - j4) fun v7 =>
 (mX12_gainOf_L25 t σ x1 x3 n v7 (x5 + 1)))) fun k5 =>
 (if ((x3 >>> (x5 &&& 31)) &&& (1 : Int32)) = (1 : Int32) then
 ((mX12_trueWorth t x5 x1 true σ).bind fun r8 =>
 (k5 r8))
 else (k5 (0 : Int32)))))
def mX12_gainOf (t : Nat) (p1 : Int32) (p2 : Int32) (σ : St_) : Option Int32 :=
 (bnd (p2 - p2 / (1024 : Int32) * (1024 : Int32)) fun v1 =>
 (bnd (p2 / (1024 : Int32)) fun v2 =>
 ((mX12_trueWorth t (v2 - v2 / (10 : Int32) * (10 : Int32)) p1 true σ).bind fun r3 =>
 (mX12_gainOf_L25 t σ p1 v1 FU r3 (0 : Int32)))))
set_option maxHeartbeats 4000000 in
theorem tmX12_gainOf_L25 (σ : St_) (t : Nat) (hT : LY12 sh P t) (x1 : Int32) (x3 : Int32) : ∀ (n : Nat) (x4 : Int32) (x5 : Int32), Tj l D cA h0 ad RX12 cX12_gainOf 6 (some .int) false 3 0 0 (fun b => (some (.int b), sh, P, σ)) 0 0 sh P σ 25 [(0, .ref (h0 + t)), (1, .int x1), (3, .int x3), (4, .int x4), (5, .int x5)] [] (mX12_gainOf_L25 t σ x1 x3 n x4 x5) := by
  intro n
  induction n with
  | zero => intros; exact tj_none
  | succ n ih =>
    intro x4 x5
    rw [mX12_gainOf_L25]
    refine tj_iload (q := 27) dX12_gainOf_25 rfl (pl := 4) rfl ?_
    refine tj_aload_n (q := 28) dX12_gainOf_27 rfl (i := 0) rfl (pl := 0) rfl ?_
    refine tj_getI (q := 31) (hT).s fok_12_52 wl_RX12_419 dX12_gainOf_28 rfl ?_
    refine tj_icmp_ge (tgt := 67) (q := 34) dX12_gainOf_31 (by decide) rfl ?_ ?_
    · refine tj_iload (q := 69) dX12_gainOf_67 rfl (pl := 3) rfl ?_
      exact tj_iret rfl rfl (Nat.le_of_ble_eq_true rfl) (Nat.le_of_ble_eq_true rfl) dX12_gainOf_69
    · refine tj_iload (q := 36) dX12_gainOf_34 rfl (pl := 3) rfl ?_
      refine tj_iload_n (q := 37) dX12_gainOf_36 rfl (i := 3) rfl (pl := 2) rfl ?_
      refine tj_iload (q := 39) dX12_gainOf_37 rfl (pl := 4) rfl ?_
      refine tj_ishr (q := 40) dX12_gainOf_39 rfl ?_
      refine tj_iconst (q := 41) (v := 1) dX12_gainOf_40 rfl (by decide) ?_
      refine tj_iand (q := 42) dX12_gainOf_41 rfl ?_
      refine tj_iconst (q := 43) (v := 1) dX12_gainOf_42 rfl (by decide) ?_
      refine tj_bnd (fun k5 => ∀ (j4 : Int32), Tj l D cA h0 ad RX12 cX12_gainOf 6 (some .int) false 3 0 0 (fun b => (some (.int b), sh, P, σ)) 0 0 sh P σ 58 [(0, .ref (h0 + t)), (1, .int x1), (3, .int x3), (5, .int x5)] [.int j4, .int x4] (k5 j4)) ?_ (fun k5 hk6 => ?_)
      · intro j4
        refine tj_isub (q := 59) dX12_gainOf_58 rfl ?_
        refine tj_topI (fun v7 => ?_)
        refine tj_istore (q := 61) dX12_gainOf_59 rfl (by decide) rfl ?_
        refine tj_iinc (q := 64) (v := x5 + 1) dX12_gainOf_61 rfl (pl := 4) rfl rfl (by decide) rfl ?_
        refine tj_goto (q := 25) dX12_gainOf_64 (by decide) ?_
        refine tj_lv [2, 3, 4, 1, 0] rfl ?_
        exact ih v7 (x5 + 1)
      · refine tj_icmp_ne (tgt := 57) (q := 46) dX12_gainOf_43 (by decide) rfl ?_ ?_
        · refine tj_aload_n (q := 47) dX12_gainOf_46 rfl (i := 0) rfl (pl := 0) rfl ?_
          refine tj_iload (q := 49) dX12_gainOf_47 rfl (pl := 4) rfl ?_
          refine tj_iload_n (q := 50) dX12_gainOf_49 rfl (i := 1) rfl (pl := 1) rfl ?_
          refine tj_iconst (q := 51) (v := 1) dX12_gainOf_50 rfl (by decide) ?_
          refine tj_callIp (q := 54) (kj_V (As := [.int x5, .int x1, .int (1 : Int32)]) (rest := [.int x4]) (t := t) wi_RX12_465 (hT).s rfl (rX12_trueWorth t x5 x1 true (hT)) rfl (Nat.le_of_ble_eq_true rfl) ⟨Nat.le_of_ble_eq_true rfl, Nat.le_of_ble_eq_true rfl⟩ (Nat.le_of_ble_eq_true rfl) dX12_gainOf_51) rfl (fun r8 => ?_)
          refine tj_goto (q := 58) dX12_gainOf_54 (by decide) ?_
          refine tj_lv [0, 1, 2, 4] rfl ?_
          exact hk6 r8
        · refine tj_iconst (q := 58) (v := 0) dX12_gainOf_57 rfl (by decide) ?_
          refine tj_lv [0, 1, 2, 4] rfl ?_
          exact hk6 (0 : Int32)

set_option maxHeartbeats 4000000 in
theorem rX12_gainOf (t : Nat) (p1 : Int32) (p2 : Int32) (hT : LY12 sh P t) : Rj l D cA h0 ad yX12_gainOf cX12_gainOf 6 (some .int) false 3 0 0 (fun b => (some (.int b), sh, P, σ)) [.ref (h0 + t), .int p1, .int p2] sh P σ (mX12_gainOf t p1 p2 σ) := by
  rw [mX12_gainOf]
  refine Rj.of (by decide) (fun h => by cases h) (Nat.le_of_ble_eq_true rfl) ?_
  refine tj_lv0 (lv' := [(0, .ref (h0 + t)), (1, .int p1), (2, .int p2)]) rfl ?_
  refine tj_iload_n (q := 1) dX12_gainOf_0 rfl (i := 2) rfl (pl := 2) rfl ?_
  refine tj_sipush (q := 4) (v := 1024) dX12_gainOf_1 rfl (by decide) ?_
  refine tj_irem (q := 5) dX12_gainOf_4 rfl (by decide) ?_
  refine tj_topI (fun v1 => ?_)
  refine tj_istore_n (q := 6) dX12_gainOf_5 rfl (i := 3) rfl (by decide) rfl ?_
  refine tj_aload_n (q := 7) dX12_gainOf_6 rfl (i := 0) rfl (pl := 1) rfl ?_
  refine tj_iload_n (q := 8) dX12_gainOf_7 rfl (i := 2) rfl (pl := 3) rfl ?_
  refine tj_sipush (q := 11) (v := 1024) dX12_gainOf_8 rfl (by decide) ?_
  refine tj_idiv (q := 12) dX12_gainOf_11 rfl (by decide) ?_
  refine tj_bipush (q := 14) (v := 10) dX12_gainOf_12 rfl (by decide) ?_
  refine tj_sndI (fun v2 => ?_)
  refine tj_irem (q := 15) dX12_gainOf_14 rfl (by decide) ?_
  refine tj_iload_n (q := 16) dX12_gainOf_15 rfl (i := 1) rfl (pl := 2) rfl ?_
  refine tj_iconst (q := 17) (v := 1) dX12_gainOf_16 rfl (by decide) ?_
  refine tj_callIp (q := 20) (kj_V (As := [.int (v2 - v2 / (10 : Int32) * (10 : Int32)), .int p1, .int (1 : Int32)]) (rest := []) (t := t) wi_RX12_465 (hT).s rfl (rX12_trueWorth t (v2 - v2 / (10 : Int32) * (10 : Int32)) p1 true (hT)) rfl (Nat.le_of_ble_eq_true rfl) ⟨Nat.le_of_ble_eq_true rfl, Nat.le_of_ble_eq_true rfl⟩ (Nat.le_of_ble_eq_true rfl) dX12_gainOf_17) rfl (fun r3 => ?_)
  refine tj_istore (q := 22) dX12_gainOf_20 rfl (by decide) rfl ?_
  refine tj_iconst (q := 23) (v := 0) dX12_gainOf_22 rfl (by decide) ?_
  refine tj_istore (q := 25) dX12_gainOf_23 rfl (by decide) rfl ?_
  refine tj_lv [3, 4, 2, 1, 0] rfl ?_
  exact tmX12_gainOf_L25 σ t hT p1 v1 FU r3 (0 : Int32)

theorem dX12_bestOf_0 : decode cX12_bestOf 0 = .ok (.iconst (-1), 1) := by decide +kernel
theorem dX12_bestOf_1 : decode cX12_bestOf 1 = .ok (.istore_n 2, 1) := by decide +kernel
theorem dX12_bestOf_2 : decode cX12_bestOf 2 = .ok (.aload_n 0, 1) := by decide +kernel
theorem dX12_bestOf_3 : decode cX12_bestOf 3 = .ok (.iload_n 1, 1) := by decide +kernel
theorem dX12_bestOf_4 : decode cX12_bestOf 4 = .ok (.iconst 0, 1) := by decide +kernel
theorem dX12_bestOf_5 : decode cX12_bestOf 5 = .ok (.invokevirtual 541, 3) := by decide +kernel
theorem dX12_bestOf_8 : decode cX12_bestOf 8 = .ok (.istore_n 3, 1) := by decide +kernel
theorem dX12_bestOf_9 : decode cX12_bestOf 9 = .ok (.iload_n 3, 1) := by decide +kernel
theorem dX12_bestOf_10 : decode cX12_bestOf 10 = .ok (.ifCond .lt 36, 3) := by decide +kernel
theorem dX12_bestOf_13 : decode cX12_bestOf 13 = .ok (.iload_n 2, 1) := by decide +kernel
theorem dX12_bestOf_14 : decode cX12_bestOf 14 = .ok (.ifCond .lt 18, 3) := by decide +kernel
theorem dX12_bestOf_17 : decode cX12_bestOf 17 = .ok (.aload_n 0, 1) := by decide +kernel
theorem dX12_bestOf_18 : decode cX12_bestOf 18 = .ok (.iload_n 1, 1) := by decide +kernel
theorem dX12_bestOf_19 : decode cX12_bestOf 19 = .ok (.iload_n 3, 1) := by decide +kernel
theorem dX12_bestOf_20 : decode cX12_bestOf 20 = .ok (.invokevirtual 544, 3) := by decide +kernel
theorem dX12_bestOf_23 : decode cX12_bestOf 23 = .ok (.aload_n 0, 1) := by decide +kernel
theorem dX12_bestOf_24 : decode cX12_bestOf 24 = .ok (.iload_n 1, 1) := by decide +kernel
theorem dX12_bestOf_25 : decode cX12_bestOf 25 = .ok (.iload_n 2, 1) := by decide +kernel
theorem dX12_bestOf_26 : decode cX12_bestOf 26 = .ok (.invokevirtual 544, 3) := by decide +kernel
theorem dX12_bestOf_29 : decode cX12_bestOf 29 = .ok (.if_icmp .le 5, 3) := by decide +kernel
theorem dX12_bestOf_32 : decode cX12_bestOf 32 = .ok (.iload_n 3, 1) := by decide +kernel
theorem dX12_bestOf_33 : decode cX12_bestOf 33 = .ok (.istore_n 2, 1) := by decide +kernel
theorem dX12_bestOf_34 : decode cX12_bestOf 34 = .ok (.aload_n 0, 1) := by decide +kernel
theorem dX12_bestOf_35 : decode cX12_bestOf 35 = .ok (.iload_n 1, 1) := by decide +kernel
theorem dX12_bestOf_36 : decode cX12_bestOf 36 = .ok (.iload_n 3, 1) := by decide +kernel
theorem dX12_bestOf_37 : decode cX12_bestOf 37 = .ok (.iconst 1, 1) := by decide +kernel
theorem dX12_bestOf_38 : decode cX12_bestOf 38 = .ok (.iadd, 1) := by decide +kernel
theorem dX12_bestOf_39 : decode cX12_bestOf 39 = .ok (.invokevirtual 541, 3) := by decide +kernel
theorem dX12_bestOf_42 : decode cX12_bestOf 42 = .ok (.istore_n 3, 1) := by decide +kernel
theorem dX12_bestOf_43 : decode cX12_bestOf 43 = .ok (.goto (-34), 3) := by decide +kernel
theorem dX12_bestOf_46 : decode cX12_bestOf 46 = .ok (.iload_n 2, 1) := by decide +kernel
theorem dX12_bestOf_47 : decode cX12_bestOf 47 = .ok (.ireturn, 1) := by decide +kernel
theorem wm_X12_nextSwap : Cond.instanceMethod yX12_nextSwap ∈ TB ∧ Cond.selects yX12_nextSwap.cls yX12_nextSwap yX12_nextSwap ∈ TB ∧ Cond.initialized yX12_nextSwap.cls ∈ TB ∧ Cond.code yX12_nextSwap cX12_nextSwap 5 (some .int) ∈ TB ∧ (yX12_nextSwap.cls ≠ "java/lang/invoke/MethodHandle" ∧ yX12_nextSwap.cls ≠ "java/lang/invoke/VarHandle" ∧ (parseMethodDescriptor yX12_nextSwap.desc).map (fun d => d.parameters.length) = some 2) ∧ 5 ≤ 21 := ⟨tbm 2031 (by decide +kernel) (by decide +kernel), tbm 110 (by decide +kernel) (by decide +kernel), tbm 146 (by decide +kernel) (by decide +kernel), tbm 2032 (by decide +kernel) (by decide +kernel), by decide +kernel, by decide⟩
theorem wi_RX12_541 : Iv RX12 541 yX12_nextSwap cX12_nextSwap 5 (some .int) 2 := ⟨tbm 2029 (by decide +kernel) (by decide +kernel), wm_X12_nextSwap⟩
theorem wm_X12_gainOf : Cond.instanceMethod yX12_gainOf ∈ TB ∧ Cond.selects yX12_gainOf.cls yX12_gainOf yX12_gainOf ∈ TB ∧ Cond.initialized yX12_gainOf.cls ∈ TB ∧ Cond.code yX12_gainOf cX12_gainOf 6 (some .int) ∈ TB ∧ (yX12_gainOf.cls ≠ "java/lang/invoke/MethodHandle" ∧ yX12_gainOf.cls ≠ "java/lang/invoke/VarHandle" ∧ (parseMethodDescriptor yX12_gainOf.desc).map (fun d => d.parameters.length) = some 2) ∧ 6 ≤ 21 := ⟨tbm 2048 (by decide +kernel) (by decide +kernel), tbm 113 (by decide +kernel) (by decide +kernel), tbm 146 (by decide +kernel) (by decide +kernel), tbm 2049 (by decide +kernel) (by decide +kernel), by decide +kernel, by decide⟩
theorem wi_RX12_544 : Iv RX12 544 yX12_gainOf cX12_gainOf 6 (some .int) 2 := ⟨tbm 2046 (by decide +kernel) (by decide +kernel), wm_X12_gainOf⟩
def mX12_bestOf_L9 (t : Nat) (x1 : Int32) : Nat → Int32 → Int32 → St_ → Option (Int32 × St_)
  | 0, _, _, _ => none
  | n + 1, x2, x3, σ => (if x3 < 0 then
 (some (x2, σ))
 else (bnd (fun (j2 : Int32) => ((mX12_nextSwap t x1 (x3 + (1 : Int32)) σ).bind fun r5 =>
 (mX12_bestOf_L9 t x1 n j2 r5.1 r5.2))) fun k3 =>
 (bnd (k3 x3) fun k6 =>
 (if x2 < 0 then
 (k6)
 else ((mX12_gainOf t x1 x3 σ).bind fun r8 =>
 ((mX12_gainOf t x1 x2 σ).bind fun r9 =>
 (if r8 ≤ r9 then
 (k3 x2)
 else (k6))))))))
def mX12_bestOf (t : Nat) (p1 : Int32) (σ : St_) : Option (Int32 × St_) :=
 ((mX12_nextSwap t p1 (0 : Int32) σ).bind fun r1 =>
 (mX12_bestOf_L9 t p1 FU (-1 : Int32) r1.1 r1.2))
set_option maxHeartbeats 4000000 in
theorem tmX12_bestOf_L9 (t : Nat) (hT : LY12 sh P t) (x1 : Int32) : ∀ (n : Nat) (x2 : Int32) (x3 : Int32) (σ : St_), Tj l D cA h0 ad RX12 cX12_bestOf 4 (some .int) false 8 0 0 (fun b => (some (.int b.1), sh, P, b.2)) 0 0 sh P σ 9 [(0, .ref (h0 + t)), (1, .int x1), (2, .int x2), (3, .int x3)] [] (mX12_bestOf_L9 t x1 n x2 x3 σ) := by
  intro n
  induction n with
  | zero => intros; exact tj_none
  | succ n ih =>
    intro x2 x3 σ
    rw [mX12_bestOf_L9]
    refine tj_iload_n (q := 10) dX12_bestOf_9 rfl (i := 3) rfl (pl := 3) rfl ?_
    refine tj_if_lt (tgt := 46) (q := 13) dX12_bestOf_10 (by decide) rfl ?_ ?_
    · refine tj_iload_n (q := 47) dX12_bestOf_46 rfl (i := 2) rfl (pl := 2) rfl ?_
      exact tj_iret rfl rfl (Nat.le_of_ble_eq_true rfl) (Nat.le_of_ble_eq_true rfl) dX12_bestOf_47
    · refine tj_iload_n (q := 14) dX12_bestOf_13 rfl (i := 2) rfl (pl := 2) rfl ?_
      refine tj_bnd (fun k3 => ∀ (j2 : Int32), Tj l D cA h0 ad RX12 cX12_bestOf 4 (some .int) false 8 0 0 (fun b => (some (.int b.1), sh, P, b.2)) 0 0 sh P σ 34 [(0, .ref (h0 + t)), (1, .int x1), (2, .int j2), (3, .int x3)] [] (k3 j2)) ?_ (fun k3 hk4 => ?_)
      · intro j2
        refine tj_aload_n (q := 35) dX12_bestOf_34 rfl (i := 0) rfl (pl := 0) rfl ?_
        refine tj_iload_n (q := 36) dX12_bestOf_35 rfl (i := 1) rfl (pl := 1) rfl ?_
        refine tj_iload_n (q := 37) dX12_bestOf_36 rfl (i := 3) rfl (pl := 3) rfl ?_
        refine tj_iconst (q := 38) (v := 1) dX12_bestOf_37 rfl (by decide) ?_
        refine tj_iadd (q := 39) dX12_bestOf_38 rfl ?_
        refine tj_callI (q := 42) (kj_V (As := [.int x1, .int (x3 + (1 : Int32))]) (rest := []) (t := t) wi_RX12_541 (hT).s rfl (rX12_nextSwap t x1 (x3 + (1 : Int32)) (hT)) rfl (Nat.le_of_ble_eq_true rfl) ⟨Nat.le_of_ble_eq_true rfl, Nat.le_of_ble_eq_true rfl⟩ (Nat.le_of_ble_eq_true rfl) dX12_bestOf_39) rfl (fun r5 => ?_)
        refine tj_istore_n (q := 43) dX12_bestOf_42 rfl (i := 3) rfl (by decide) rfl ?_
        refine tj_goto (q := 9) dX12_bestOf_43 (by decide) ?_
        refine tj_lv [1, 2, 3, 0] rfl ?_
        exact ih j2 r5.1 r5.2
      · refine tj_bnd (fun k6 => Tj l D cA h0 ad RX12 cX12_bestOf 4 (some .int) false 8 0 0 (fun b => (some (.int b.1), sh, P, b.2)) 0 0 sh P σ 32 [(0, .ref (h0 + t)), (1, .int x1), (3, .int x3)] [] k6) ?_ (fun k6 hk7 => ?_)
        · refine tj_iload_n (q := 33) dX12_bestOf_32 rfl (i := 3) rfl (pl := 2) rfl ?_
          refine tj_istore_n (q := 34) dX12_bestOf_33 rfl (i := 2) rfl (by decide) rfl ?_
          refine tj_lv [1, 2, 0, 3] rfl ?_
          exact hk4 x3
        · refine tj_if_lt (tgt := 32) (q := 17) dX12_bestOf_14 (by decide) rfl ?_ ?_
          · refine tj_lv [0, 1, 3] rfl ?_
            exact hk7
          · refine tj_aload_n (q := 18) dX12_bestOf_17 rfl (i := 0) rfl (pl := 0) rfl ?_
            refine tj_iload_n (q := 19) dX12_bestOf_18 rfl (i := 1) rfl (pl := 1) rfl ?_
            refine tj_iload_n (q := 20) dX12_bestOf_19 rfl (i := 3) rfl (pl := 3) rfl ?_
            refine tj_callIp (q := 23) (kj_V (As := [.int x1, .int x3]) (rest := []) (t := t) wi_RX12_544 (hT).s rfl (rX12_gainOf t x1 x3 (hT)) rfl (Nat.le_of_ble_eq_true rfl) ⟨Nat.le_of_ble_eq_true rfl, Nat.le_of_ble_eq_true rfl⟩ (Nat.le_of_ble_eq_true rfl) dX12_bestOf_20) rfl (fun r8 => ?_)
            refine tj_aload_n (q := 24) dX12_bestOf_23 rfl (i := 0) rfl (pl := 0) rfl ?_
            refine tj_iload_n (q := 25) dX12_bestOf_24 rfl (i := 1) rfl (pl := 1) rfl ?_
            refine tj_iload_n (q := 26) dX12_bestOf_25 rfl (i := 2) rfl (pl := 2) rfl ?_
            refine tj_callIp (q := 29) (kj_V (As := [.int x1, .int x2]) (rest := [.int r8]) (t := t) wi_RX12_544 (hT).s rfl (rX12_gainOf t x1 x2 (hT)) rfl (Nat.le_of_ble_eq_true rfl) ⟨Nat.le_of_ble_eq_true rfl, Nat.le_of_ble_eq_true rfl⟩ (Nat.le_of_ble_eq_true rfl) dX12_bestOf_26) rfl (fun r9 => ?_)
            refine tj_icmp_le (tgt := 34) (q := 32) dX12_bestOf_29 (by decide) rfl ?_ ?_
            · exact hk4 x2
            · refine tj_lv [0, 1, 3] rfl ?_
              exact hk7

set_option maxHeartbeats 4000000 in
theorem rX12_bestOf (t : Nat) (p1 : Int32) (hT : LY12 sh P t) : Rj l D cA h0 ad yX12_bestOf cX12_bestOf 4 (some .int) false 8 0 0 (fun b => (some (.int b.1), sh, P, b.2)) [.ref (h0 + t), .int p1] sh P σ (mX12_bestOf t p1 σ) := by
  rw [mX12_bestOf]
  refine Rj.of (by decide) (fun h => by cases h) (Nat.le_of_ble_eq_true rfl) ?_
  refine tj_lv0 (lv' := [(0, .ref (h0 + t)), (1, .int p1)]) rfl ?_
  refine tj_iconst (q := 1) (v := (-1)) dX12_bestOf_0 rfl (by decide) ?_
  refine tj_istore_n (q := 2) dX12_bestOf_1 rfl (i := 2) rfl (by decide) rfl ?_
  refine tj_aload_n (q := 3) dX12_bestOf_2 rfl (i := 0) rfl (pl := 1) rfl ?_
  refine tj_iload_n (q := 4) dX12_bestOf_3 rfl (i := 1) rfl (pl := 2) rfl ?_
  refine tj_iconst (q := 5) (v := 0) dX12_bestOf_4 rfl (by decide) ?_
  refine tj_callI (q := 8) (kj_V (As := [.int p1, .int (0 : Int32)]) (rest := []) (t := t) wi_RX12_541 (hT).s rfl (rX12_nextSwap t p1 (0 : Int32) (hT)) rfl (Nat.le_of_ble_eq_true rfl) ⟨Nat.le_of_ble_eq_true rfl, Nat.le_of_ble_eq_true rfl⟩ (Nat.le_of_ble_eq_true rfl) dX12_bestOf_5) rfl (fun r1 => ?_)
  refine tj_istore_n (q := 9) dX12_bestOf_8 rfl (i := 3) rfl (by decide) rfl ?_
  refine tj_lv [2, 3, 1, 0] rfl ?_
  exact tmX12_bestOf_L9 t hT p1 FU (-1 : Int32) r1.1 r1.2

theorem dX12_swaps_0 : decode cX12_swaps 0 = .ok (.aload_n 0, 1) := by decide +kernel
theorem dX12_swaps_1 : decode cX12_swaps 1 = .ok (.iload_n 1, 1) := by decide +kernel
theorem dX12_swaps_2 : decode cX12_swaps 2 = .ok (.invokevirtual 450, 3) := by decide +kernel
theorem dX12_swaps_5 : decode cX12_swaps 5 = .ok (.ifCond .ne 5, 3) := by decide +kernel
theorem dX12_swaps_8 : decode cX12_swaps 8 = .ok (.iconst (-1), 1) := by decide +kernel
theorem dX12_swaps_9 : decode cX12_swaps 9 = .ok (.ireturn, 1) := by decide +kernel
theorem dX12_swaps_10 : decode cX12_swaps 10 = .ok (.aload_n 0, 1) := by decide +kernel
theorem dX12_swaps_11 : decode cX12_swaps 11 = .ok (.invokevirtual 497, 3) := by decide +kernel
theorem dX12_swaps_14 : decode cX12_swaps 14 = .ok (.iconst 0, 1) := by decide +kernel
theorem dX12_swaps_15 : decode cX12_swaps 15 = .ok (.istore_n 2, 1) := by decide +kernel
theorem dX12_swaps_16 : decode cX12_swaps 16 = .ok (.aload_n 0, 1) := by decide +kernel
theorem dX12_swaps_17 : decode cX12_swaps 17 = .ok (.iload_n 1, 1) := by decide +kernel
theorem dX12_swaps_18 : decode cX12_swaps 18 = .ok (.iconst 0, 1) := by decide +kernel
theorem dX12_swaps_19 : decode cX12_swaps 19 = .ok (.invokevirtual 541, 3) := by decide +kernel
theorem dX12_swaps_22 : decode cX12_swaps 22 = .ok (.istore_n 3, 1) := by decide +kernel
theorem dX12_swaps_23 : decode cX12_swaps 23 = .ok (.iload_n 3, 1) := by decide +kernel
theorem dX12_swaps_24 : decode cX12_swaps 24 = .ok (.ifCond .lt 18, 3) := by decide +kernel
theorem dX12_swaps_27 : decode cX12_swaps 27 = .ok (.iinc 2 1, 3) := by decide +kernel
theorem dX12_swaps_30 : decode cX12_swaps 30 = .ok (.aload_n 0, 1) := by decide +kernel
theorem dX12_swaps_31 : decode cX12_swaps 31 = .ok (.iload_n 1, 1) := by decide +kernel
theorem dX12_swaps_32 : decode cX12_swaps 32 = .ok (.iload_n 3, 1) := by decide +kernel
theorem dX12_swaps_33 : decode cX12_swaps 33 = .ok (.iconst 1, 1) := by decide +kernel
theorem dX12_swaps_34 : decode cX12_swaps 34 = .ok (.iadd, 1) := by decide +kernel
theorem dX12_swaps_35 : decode cX12_swaps 35 = .ok (.invokevirtual 541, 3) := by decide +kernel
theorem dX12_swaps_38 : decode cX12_swaps 38 = .ok (.istore_n 3, 1) := by decide +kernel
theorem dX12_swaps_39 : decode cX12_swaps 39 = .ok (.goto (-16), 3) := by decide +kernel
theorem dX12_swaps_42 : decode cX12_swaps 42 = .ok (.iload_n 2, 1) := by decide +kernel
theorem dX12_swaps_43 : decode cX12_swaps 43 = .ok (.ireturn, 1) := by decide +kernel
def mX12_swaps_L23 (t : Nat) (x1 : Int32) : Nat → Int32 → Int32 → St_ → Option (Int32 × St_)
  | 0, _, _, _ => none
  | n + 1, x2, x3, σ => (if x3 < 0 then
 (some (x2, σ))
 else ((mX12_nextSwap t x1 (x3 + (1 : Int32)) σ).bind fun r4 =>
 (mX12_swaps_L23 t x1 n (x2 + 1) r4.1 r4.2)))
def mX12_swaps (t : Nat) (p1 : Int32) (σ : St_) : Option (Int32 × St_) :=
 ((mX12_isThief t p1 σ).bind fun r1 =>
 (if r1 = true then
 ((mX12_load t σ).bind fun σ2 =>
 ((mX12_nextSwap t p1 (0 : Int32) σ2).bind fun r3 =>
 (mX12_swaps_L23 t p1 FU (0 : Int32) r3.1 r3.2)))
 else (some ((-1 : Int32), σ))))
set_option maxHeartbeats 4000000 in
theorem tmX12_swaps_L23 (t : Nat) (hT : LY12 sh P t) (x1 : Int32) : ∀ (n : Nat) (x2 : Int32) (x3 : Int32) (σ : St_), Tj l D cA h0 ad RX12 cX12_swaps 4 (some .int) false 8 0 0 (fun b => (some (.int b.1), sh, P, b.2)) 0 0 sh P σ 23 [(0, .ref (h0 + t)), (1, .int x1), (2, .int x2), (3, .int x3)] [] (mX12_swaps_L23 t x1 n x2 x3 σ) := by
  intro n
  induction n with
  | zero => intros; exact tj_none
  | succ n ih =>
    intro x2 x3 σ
    rw [mX12_swaps_L23]
    refine tj_iload_n (q := 24) dX12_swaps_23 rfl (i := 3) rfl (pl := 3) rfl ?_
    refine tj_if_lt (tgt := 42) (q := 27) dX12_swaps_24 (by decide) rfl ?_ ?_
    · refine tj_iload_n (q := 43) dX12_swaps_42 rfl (i := 2) rfl (pl := 2) rfl ?_
      exact tj_iret rfl rfl (Nat.le_of_ble_eq_true rfl) (Nat.le_of_ble_eq_true rfl) dX12_swaps_43
    · refine tj_iinc (q := 30) (v := x2 + 1) dX12_swaps_27 rfl (pl := 2) rfl rfl (by decide) rfl ?_
      refine tj_aload_n (q := 31) dX12_swaps_30 rfl (i := 0) rfl (pl := 1) rfl ?_
      refine tj_iload_n (q := 32) dX12_swaps_31 rfl (i := 1) rfl (pl := 2) rfl ?_
      refine tj_iload_n (q := 33) dX12_swaps_32 rfl (i := 3) rfl (pl := 3) rfl ?_
      refine tj_iconst (q := 34) (v := 1) dX12_swaps_33 rfl (by decide) ?_
      refine tj_iadd (q := 35) dX12_swaps_34 rfl ?_
      refine tj_callI (q := 38) (kj_V (As := [.int x1, .int (x3 + (1 : Int32))]) (rest := []) (t := t) wi_RX12_541 (hT).s rfl (rX12_nextSwap t x1 (x3 + (1 : Int32)) (hT)) rfl (Nat.le_of_ble_eq_true rfl) ⟨Nat.le_of_ble_eq_true rfl, Nat.le_of_ble_eq_true rfl⟩ (Nat.le_of_ble_eq_true rfl) dX12_swaps_35) rfl (fun r4 => ?_)
      refine tj_istore_n (q := 39) dX12_swaps_38 rfl (i := 3) rfl (by decide) rfl ?_
      refine tj_goto (q := 23) dX12_swaps_39 (by decide) ?_
      refine tj_lv [2, 3, 1, 0] rfl ?_
      exact ih (x2 + 1) r4.1 r4.2

set_option maxHeartbeats 4000000 in
theorem rX12_swaps (t : Nat) (p1 : Int32) (hT : LY12 sh P t) : Rj l D cA h0 ad yX12_swaps cX12_swaps 4 (some .int) false 8 0 0 (fun b => (some (.int b.1), sh, P, b.2)) [.ref (h0 + t), .int p1] sh P σ (mX12_swaps t p1 σ) := by
  rw [mX12_swaps]
  refine Rj.of (by decide) (fun h => by cases h) (Nat.le_of_ble_eq_true rfl) ?_
  refine tj_lv0 (lv' := [(0, .ref (h0 + t)), (1, .int p1)]) rfl ?_
  refine tj_aload_n (q := 1) dX12_swaps_0 rfl (i := 0) rfl (pl := 0) rfl ?_
  refine tj_iload_n (q := 2) dX12_swaps_1 rfl (i := 1) rfl (pl := 1) rfl ?_
  refine tj_callZp (q := 5) (kj_V (As := [.int p1]) (rest := []) (t := t) wi_RX12_450 (hT).s rfl (rX12_isThief t p1 (hT)) rfl (Nat.le_of_ble_eq_true rfl) ⟨Nat.le_of_ble_eq_true rfl, Nat.le_of_ble_eq_true rfl⟩ (Nat.le_of_ble_eq_true rfl) dX12_swaps_2) rfl (fun r1 => ?_)
  refine tj_bnz (tgt := 10) (q := 8) dX12_swaps_5 (by decide) rfl ?_ ?_
  · refine tj_aload_n (q := 11) dX12_swaps_10 rfl (i := 0) rfl (pl := 0) rfl ?_
    refine tj_callV (q := 14) (kj_V (As := []) (rest := []) (t := t) wi_RX12_497 (hT).s rfl (rX12_load t (hT)) rfl (Nat.le_of_ble_eq_true rfl) ⟨Nat.le_of_ble_eq_true rfl, Nat.le_of_ble_eq_true rfl⟩ (Nat.le_of_ble_eq_true rfl) dX12_swaps_11) rfl (fun σ2 => ?_)
    refine tj_iconst (q := 15) (v := 0) dX12_swaps_14 rfl (by decide) ?_
    refine tj_istore_n (q := 16) dX12_swaps_15 rfl (i := 2) rfl (by decide) rfl ?_
    refine tj_aload_n (q := 17) dX12_swaps_16 rfl (i := 0) rfl (pl := 1) rfl ?_
    refine tj_iload_n (q := 18) dX12_swaps_17 rfl (i := 1) rfl (pl := 2) rfl ?_
    refine tj_iconst (q := 19) (v := 0) dX12_swaps_18 rfl (by decide) ?_
    refine tj_callI (q := 22) (kj_V (As := [.int p1, .int (0 : Int32)]) (rest := []) (t := t) wi_RX12_541 (hT).s rfl (rX12_nextSwap t p1 (0 : Int32) (hT)) rfl (Nat.le_of_ble_eq_true rfl) ⟨Nat.le_of_ble_eq_true rfl, Nat.le_of_ble_eq_true rfl⟩ (Nat.le_of_ble_eq_true rfl) dX12_swaps_19) rfl (fun r3 => ?_)
    refine tj_istore_n (q := 23) dX12_swaps_22 rfl (i := 3) rfl (by decide) rfl ?_
    refine tj_lv [2, 3, 1, 0] rfl ?_
    exact tmX12_swaps_L23 t hT p1 FU (0 : Int32) r3.1 r3.2
  · refine tj_iconst (q := 9) (v := (-1)) dX12_swaps_8 rfl (by decide) ?_
    exact tj_iret rfl rfl (Nat.le_of_ble_eq_true rfl) (Nat.le_of_ble_eq_true rfl) dX12_swaps_9

theorem dX12_lay_0 : decode cX12_lay 0 = .ok (.aload_n 0, 1) := by decide +kernel
theorem dX12_lay_1 : decode cX12_lay 1 = .ok (.getfield 117, 3) := by decide +kernel
theorem dX12_lay_4 : decode cX12_lay 4 = .ok (.aload_n 0, 1) := by decide +kernel
theorem dX12_lay_5 : decode cX12_lay 5 = .ok (.getfield 443, 3) := by decide +kernel
theorem dX12_lay_8 : decode cX12_lay 8 = .ok (.iload_n 1, 1) := by decide +kernel
theorem dX12_lay_9 : decode cX12_lay 9 = .ok (.iastore, 1) := by decide +kernel
theorem dX12_lay_10 : decode cX12_lay 10 = .ok (.aload_n 0, 1) := by decide +kernel
theorem dX12_lay_11 : decode cX12_lay 11 = .ok (.dup, 1) := by decide +kernel
theorem dX12_lay_12 : decode cX12_lay 12 = .ok (.getfield 443, 3) := by decide +kernel
theorem dX12_lay_15 : decode cX12_lay 15 = .ok (.iconst 1, 1) := by decide +kernel
theorem dX12_lay_16 : decode cX12_lay 16 = .ok (.iadd, 1) := by decide +kernel
theorem dX12_lay_17 : decode cX12_lay 17 = .ok (.putfield 443, 3) := by decide +kernel
theorem dX12_lay_20 : decode cX12_lay 20 = .ok (.return_, 1) := by decide +kernel
theorem wl_RX12_117 : Cond.fieldLink RX12 117 (TX12 70).1 (TX12 70).2.1 (TX12 70).2.2.1 ∈ TB := tbm 1485 (by decide +kernel) (by decide +kernel)
def mX12_lay (t : Nat) (p1 : Int32) (σ : St_) : Option St_ :=
 (bnd (σ.1 t 71) fun v1 =>
 (if bin v1 32 = true then bnd (sI σ (t + 32) v1.toNatClampNeg p1) fun σ2 =>
 (bnd (sI σ2 t 71 ((σ2.1 t 71) + (1 : Int32))) fun σ3 =>
 (some σ3))
 else none))
set_option maxHeartbeats 4000000 in
theorem rX12_lay (t : Nat) (p1 : Int32) (hT : LY12 sh P t) : Rj l D cA h0 ad yX12_lay cX12_lay 2 none false 2 0 0 (fun b => (none, sh, P, b)) [.ref (h0 + t), .int p1] sh P σ (mX12_lay t p1 σ) := by
  rw [mX12_lay]
  refine Rj.of (by decide) (fun h => by cases h) (Nat.le_of_ble_eq_true rfl) ?_
  refine tj_lv0 (lv' := [(0, .ref (h0 + t)), (1, .int p1)]) rfl ?_
  refine tj_aload_n (q := 1) dX12_lay_0 rfl (i := 0) rfl (pl := 0) rfl ?_
  refine tj_getR (q := 4) (hT).s (hT).p_lies fok_12_70 wl_RX12_117 dX12_lay_1 rfl ?_
  refine tj_aload_n (q := 5) dX12_lay_4 rfl (i := 0) rfl (pl := 0) rfl ?_
  refine tj_getI (q := 8) (hT).s fok_12_71 wl_RX12_443 dX12_lay_5 rfl ?_
  refine tj_iload_n (q := 9) dX12_lay_8 rfl (i := 1) rfl (pl := 1) rfl ?_
  refine tj_sndI (fun v1 => ?_)
  refine tj_iastore (q := 10) (hT).s_lies dX12_lay_9 rfl (fun σ2 => ?_)
  refine tj_aload_n (q := 11) dX12_lay_10 rfl (i := 0) rfl (pl := 0) rfl ?_
  refine tj_dup (q := 12) dX12_lay_11 rfl rfl ?_
  refine tj_getI (q := 15) (hT).s fok_12_71 wl_RX12_443 dX12_lay_12 rfl ?_
  refine tj_iconst (q := 16) (v := 1) dX12_lay_15 rfl (by decide) ?_
  refine tj_iadd (q := 17) dX12_lay_16 rfl ?_
  refine tj_putI (q := 20) (hT).s fok_12_71 tok_12 fpk_12_71 wl_RX12_443 dX12_lay_17 rfl (fun σ3 => ?_)
  exact tj_vret rfl rfl (Nat.le_of_ble_eq_true rfl) (Nat.le_of_ble_eq_true rfl) dX12_lay_20

theorem dX12_laySwap_0 : decode cX12_laySwap 0 = .ok (.aload_n 0, 1) := by decide +kernel
theorem dX12_laySwap_1 : decode cX12_laySwap 1 = .ok (.iload_n 1, 1) := by decide +kernel
theorem dX12_laySwap_2 : decode cX12_laySwap 2 = .ok (.ifCond .ge 7, 3) := by decide +kernel
theorem dX12_laySwap_5 : decode cX12_laySwap 5 = .ok (.iconst (-1), 1) := by decide +kernel
theorem dX12_laySwap_6 : decode cX12_laySwap 6 = .ok (.goto 8, 3) := by decide +kernel
theorem dX12_laySwap_9 : decode cX12_laySwap 9 = .ok (.iload_n 1, 1) := by decide +kernel
theorem dX12_laySwap_10 : decode cX12_laySwap 10 = .ok (.sipush 10240, 3) := by decide +kernel
theorem dX12_laySwap_13 : decode cX12_laySwap 13 = .ok (.idiv, 1) := by decide +kernel
theorem dX12_laySwap_14 : decode cX12_laySwap 14 = .ok (.invokevirtual 547, 3) := by decide +kernel
theorem dX12_laySwap_17 : decode cX12_laySwap 17 = .ok (.aload_n 0, 1) := by decide +kernel
theorem dX12_laySwap_18 : decode cX12_laySwap 18 = .ok (.iload_n 1, 1) := by decide +kernel
theorem dX12_laySwap_19 : decode cX12_laySwap 19 = .ok (.ifCond .ge 7, 3) := by decide +kernel
theorem dX12_laySwap_22 : decode cX12_laySwap 22 = .ok (.iconst (-1), 1) := by decide +kernel
theorem dX12_laySwap_23 : decode cX12_laySwap 23 = .ok (.goto 11, 3) := by decide +kernel
theorem dX12_laySwap_26 : decode cX12_laySwap 26 = .ok (.iload_n 1, 1) := by decide +kernel
theorem dX12_laySwap_27 : decode cX12_laySwap 27 = .ok (.sipush 1024, 3) := by decide +kernel
theorem dX12_laySwap_30 : decode cX12_laySwap 30 = .ok (.idiv, 1) := by decide +kernel
theorem dX12_laySwap_31 : decode cX12_laySwap 31 = .ok (.bipush 10, 2) := by decide +kernel
theorem dX12_laySwap_33 : decode cX12_laySwap 33 = .ok (.irem, 1) := by decide +kernel
theorem dX12_laySwap_34 : decode cX12_laySwap 34 = .ok (.invokevirtual 547, 3) := by decide +kernel
theorem dX12_laySwap_37 : decode cX12_laySwap 37 = .ok (.aload_n 0, 1) := by decide +kernel
theorem dX12_laySwap_38 : decode cX12_laySwap 38 = .ok (.iload_n 1, 1) := by decide +kernel
theorem dX12_laySwap_39 : decode cX12_laySwap 39 = .ok (.ifCond .ge 7, 3) := by decide +kernel
theorem dX12_laySwap_42 : decode cX12_laySwap 42 = .ok (.iconst 0, 1) := by decide +kernel
theorem dX12_laySwap_43 : decode cX12_laySwap 43 = .ok (.goto 8, 3) := by decide +kernel
theorem dX12_laySwap_46 : decode cX12_laySwap 46 = .ok (.iload_n 1, 1) := by decide +kernel
theorem dX12_laySwap_47 : decode cX12_laySwap 47 = .ok (.sipush 1024, 3) := by decide +kernel
theorem dX12_laySwap_50 : decode cX12_laySwap 50 = .ok (.irem, 1) := by decide +kernel
theorem dX12_laySwap_51 : decode cX12_laySwap 51 = .ok (.invokevirtual 547, 3) := by decide +kernel
theorem dX12_laySwap_54 : decode cX12_laySwap 54 = .ok (.return_, 1) := by decide +kernel
theorem wm_X12_lay : Cond.instanceMethod yX12_lay ∈ TB ∧ Cond.selects yX12_lay.cls yX12_lay yX12_lay ∈ TB ∧ Cond.initialized yX12_lay.cls ∈ TB ∧ Cond.code yX12_lay cX12_lay 2 none ∈ TB ∧ (yX12_lay.cls ≠ "java/lang/invoke/MethodHandle" ∧ yX12_lay.cls ≠ "java/lang/invoke/VarHandle" ∧ (parseMethodDescriptor yX12_lay.desc).map (fun d => d.parameters.length) = some 1) ∧ 2 ≤ 21 := ⟨tbm 2056 (by decide +kernel) (by decide +kernel), tbm 115 (by decide +kernel) (by decide +kernel), tbm 146 (by decide +kernel) (by decide +kernel), tbm 2057 (by decide +kernel) (by decide +kernel), by decide +kernel, by decide⟩
theorem wi_RX12_547 : Iv RX12 547 yX12_lay cX12_lay 2 none 1 := ⟨tbm 2054 (by decide +kernel) (by decide +kernel), wm_X12_lay⟩
def mX12_laySwap (t : Nat) (p1 : Int32) (σ : St_) : Option St_ :=
 (bnd (fun (j1 : Int32) => ((mX12_lay t j1 σ).bind fun σ4 =>
 (bnd (fun (j5 : Int32) => ((mX12_lay t j5 σ4).bind fun σ8 =>
 (bnd (fun (j9 : Int32) => ((mX12_lay t j9 σ8).bind fun σ12 =>
 (some σ12))) fun k10 =>
 (if 0 ≤ p1 then
 (k10 (p1 - p1 / (1024 : Int32) * (1024 : Int32)))
 else (k10 (0 : Int32)))))) fun k6 =>
 (if 0 ≤ p1 then
 (bnd (p1 / (1024 : Int32)) fun v13 =>
 (k6 (v13 - v13 / (10 : Int32) * (10 : Int32))))
 else (k6 (-1 : Int32)))))) fun k2 =>
 (if 0 ≤ p1 then
 (k2 (p1 / (10240 : Int32)))
 else (k2 (-1 : Int32))))
set_option maxHeartbeats 4000000 in
theorem rX12_laySwap (t : Nat) (p1 : Int32) (hT : LY12 sh P t) : Rj l D cA h0 ad yX12_laySwap cX12_laySwap 2 none false 3 0 0 (fun b => (none, sh, P, b)) [.ref (h0 + t), .int p1] sh P σ (mX12_laySwap t p1 σ) := by
  rw [mX12_laySwap]
  refine Rj.of (by decide) (fun h => by cases h) (Nat.le_of_ble_eq_true rfl) ?_
  refine tj_lv0 (lv' := [(0, .ref (h0 + t)), (1, .int p1)]) rfl ?_
  refine tj_aload_n (q := 1) dX12_laySwap_0 rfl (i := 0) rfl (pl := 0) rfl ?_
  refine tj_iload_n (q := 2) dX12_laySwap_1 rfl (i := 1) rfl (pl := 1) rfl ?_
  refine tj_bnd (fun k2 => ∀ (j1 : Int32), Tj l D cA h0 ad RX12 cX12_laySwap 2 none false 3 0 0 (fun b => (none, sh, P, b)) 0 0 sh P σ 14 [(0, .ref (h0 + t)), (1, .int p1)] [.int j1, .ref (h0 + t)] (k2 j1)) ?_ (fun k2 hk3 => ?_)
  · intro j1
    refine tj_callV (q := 17) (kj_V (As := [.int j1]) (rest := []) (t := t) wi_RX12_547 (hT).s rfl (rX12_lay t j1 (hT)) rfl (Nat.le_of_ble_eq_true rfl) ⟨Nat.le_of_ble_eq_true rfl, Nat.le_of_ble_eq_true rfl⟩ (Nat.le_of_ble_eq_true rfl) dX12_laySwap_14) rfl (fun σ4 => ?_)
    refine tj_aload_n (q := 18) dX12_laySwap_17 rfl (i := 0) rfl (pl := 0) rfl ?_
    refine tj_iload_n (q := 19) dX12_laySwap_18 rfl (i := 1) rfl (pl := 1) rfl ?_
    refine tj_bnd (fun k6 => ∀ (j5 : Int32), Tj l D cA h0 ad RX12 cX12_laySwap 2 none false 3 0 0 (fun b => (none, sh, P, b)) 0 0 sh P σ4 34 [(0, .ref (h0 + t)), (1, .int p1)] [.int j5, .ref (h0 + t)] (k6 j5)) ?_ (fun k6 hk7 => ?_)
    · intro j5
      refine tj_callV (q := 37) (kj_V (As := [.int j5]) (rest := []) (t := t) wi_RX12_547 (hT).s rfl (rX12_lay t j5 (hT)) rfl (Nat.le_of_ble_eq_true rfl) ⟨Nat.le_of_ble_eq_true rfl, Nat.le_of_ble_eq_true rfl⟩ (Nat.le_of_ble_eq_true rfl) dX12_laySwap_34) rfl (fun σ8 => ?_)
      refine tj_aload_n (q := 38) dX12_laySwap_37 rfl (i := 0) rfl (pl := 0) rfl ?_
      refine tj_iload_n (q := 39) dX12_laySwap_38 rfl (i := 1) rfl (pl := 1) rfl ?_
      refine tj_bnd (fun k10 => ∀ (j9 : Int32), Tj l D cA h0 ad RX12 cX12_laySwap 2 none false 3 0 0 (fun b => (none, sh, P, b)) 0 0 sh P σ8 51 [] [.int j9, .ref (h0 + t)] (k10 j9)) ?_ (fun k10 hk11 => ?_)
      · intro j9
        refine tj_callV (q := 54) (kj_V (As := [.int j9]) (rest := []) (t := t) wi_RX12_547 (hT).s rfl (rX12_lay t j9 (hT)) rfl (Nat.le_of_ble_eq_true rfl) ⟨Nat.le_of_ble_eq_true rfl, Nat.le_of_ble_eq_true rfl⟩ (Nat.le_of_ble_eq_true rfl) dX12_laySwap_51) rfl (fun σ12 => ?_)
        exact tj_vret rfl rfl (Nat.le_of_ble_eq_true rfl) (Nat.le_of_ble_eq_true rfl) dX12_laySwap_54
      · refine tj_if_ge (tgt := 46) (q := 42) dX12_laySwap_39 (by decide) rfl ?_ ?_
        · refine tj_iload_n (q := 47) dX12_laySwap_46 rfl (i := 1) rfl (pl := 1) rfl ?_
          refine tj_sipush (q := 50) (v := 1024) dX12_laySwap_47 rfl (by decide) ?_
          refine tj_irem (q := 51) dX12_laySwap_50 rfl (by decide) ?_
          refine tj_lv [] rfl ?_
          exact hk11 (p1 - p1 / (1024 : Int32) * (1024 : Int32))
        · refine tj_iconst (q := 43) (v := 0) dX12_laySwap_42 rfl (by decide) ?_
          refine tj_goto (q := 51) dX12_laySwap_43 (by decide) ?_
          refine tj_lv [] rfl ?_
          exact hk11 (0 : Int32)
    · refine tj_if_ge (tgt := 26) (q := 22) dX12_laySwap_19 (by decide) rfl ?_ ?_
      · refine tj_iload_n (q := 27) dX12_laySwap_26 rfl (i := 1) rfl (pl := 1) rfl ?_
        refine tj_sipush (q := 30) (v := 1024) dX12_laySwap_27 rfl (by decide) ?_
        refine tj_idiv (q := 31) dX12_laySwap_30 rfl (by decide) ?_
        refine tj_bipush (q := 33) (v := 10) dX12_laySwap_31 rfl (by decide) ?_
        refine tj_sndI (fun v13 => ?_)
        refine tj_irem (q := 34) dX12_laySwap_33 rfl (by decide) ?_
        exact hk7 (v13 - v13 / (10 : Int32) * (10 : Int32))
      · refine tj_iconst (q := 23) (v := (-1)) dX12_laySwap_22 rfl (by decide) ?_
        refine tj_goto (q := 34) dX12_laySwap_23 (by decide) ?_
        exact hk7 (-1 : Int32)
  · refine tj_if_ge (tgt := 9) (q := 5) dX12_laySwap_2 (by decide) rfl ?_ ?_
    · refine tj_iload_n (q := 10) dX12_laySwap_9 rfl (i := 1) rfl (pl := 1) rfl ?_
      refine tj_sipush (q := 13) (v := 10240) dX12_laySwap_10 rfl (by decide) ?_
      refine tj_idiv (q := 14) dX12_laySwap_13 rfl (by decide) ?_
      exact hk3 (p1 / (10240 : Int32))
    · refine tj_iconst (q := 6) (v := (-1)) dX12_laySwap_5 rfl (by decide) ?_
      refine tj_goto (q := 14) dX12_laySwap_6 (by decide) ?_
      exact hk3 (-1 : Int32)

theorem dX12_best_0 : decode cX12_best 0 = .ok (.aload_n 0, 1) := by decide +kernel
theorem dX12_best_1 : decode cX12_best 1 = .ok (.iconst 0, 1) := by decide +kernel
theorem dX12_best_2 : decode cX12_best 2 = .ok (.putfield 443, 3) := by decide +kernel
theorem dX12_best_5 : decode cX12_best 5 = .ok (.aload_n 0, 1) := by decide +kernel
theorem dX12_best_6 : decode cX12_best 6 = .ok (.iload_n 1, 1) := by decide +kernel
theorem dX12_best_7 : decode cX12_best 7 = .ok (.invokevirtual 450, 3) := by decide +kernel
theorem dX12_best_10 : decode cX12_best 10 = .ok (.ifCond .ne 7, 3) := by decide +kernel
theorem dX12_best_13 : decode cX12_best 13 = .ok (.ldc_w 550, 3) := by decide +kernel
theorem dX12_best_16 : decode cX12_best 16 = .ok (.ireturn, 1) := by decide +kernel
theorem dX12_best_17 : decode cX12_best 17 = .ok (.aload_n 0, 1) := by decide +kernel
theorem dX12_best_18 : decode cX12_best 18 = .ok (.invokevirtual 497, 3) := by decide +kernel
theorem dX12_best_21 : decode cX12_best 21 = .ok (.aload_n 0, 1) := by decide +kernel
theorem dX12_best_22 : decode cX12_best 22 = .ok (.iload_n 1, 1) := by decide +kernel
theorem dX12_best_23 : decode cX12_best 23 = .ok (.invokevirtual 551, 3) := by decide +kernel
theorem dX12_best_26 : decode cX12_best 26 = .ok (.istore_n 2, 1) := by decide +kernel
theorem dX12_best_27 : decode cX12_best 27 = .ok (.iload_n 2, 1) := by decide +kernel
theorem dX12_best_28 : decode cX12_best 28 = .ok (.ifCond .ge 7, 3) := by decide +kernel
theorem dX12_best_31 : decode cX12_best 31 = .ok (.ldc_w 550, 3) := by decide +kernel
theorem dX12_best_34 : decode cX12_best 34 = .ok (.ireturn, 1) := by decide +kernel
theorem dX12_best_35 : decode cX12_best 35 = .ok (.aload_n 0, 1) := by decide +kernel
theorem dX12_best_36 : decode cX12_best 36 = .ok (.iload_n 2, 1) := by decide +kernel
theorem dX12_best_37 : decode cX12_best 37 = .ok (.invokevirtual 554, 3) := by decide +kernel
theorem dX12_best_40 : decode cX12_best 40 = .ok (.aload_n 0, 1) := by decide +kernel
theorem dX12_best_41 : decode cX12_best 41 = .ok (.iload_n 1, 1) := by decide +kernel
theorem dX12_best_42 : decode cX12_best 42 = .ok (.iload_n 2, 1) := by decide +kernel
theorem dX12_best_43 : decode cX12_best 43 = .ok (.invokevirtual 544, 3) := by decide +kernel
theorem dX12_best_46 : decode cX12_best 46 = .ok (.ireturn, 1) := by decide +kernel
theorem wc_RX12_550 : Cond.constant RX12 550 (-1000000) ∈ TB := tbm 2041 (by decide +kernel) (by decide +kernel)
theorem wm_X12_bestOf : Cond.instanceMethod yX12_bestOf ∈ TB ∧ Cond.selects yX12_bestOf.cls yX12_bestOf yX12_bestOf ∈ TB ∧ Cond.initialized yX12_bestOf.cls ∈ TB ∧ Cond.code yX12_bestOf cX12_bestOf 4 (some .int) ∈ TB ∧ (yX12_bestOf.cls ≠ "java/lang/invoke/MethodHandle" ∧ yX12_bestOf.cls ≠ "java/lang/invoke/VarHandle" ∧ (parseMethodDescriptor yX12_bestOf.desc).map (fun d => d.parameters.length) = some 1) ∧ 4 ≤ 21 := ⟨tbm 2044 (by decide +kernel) (by decide +kernel), tbm 112 (by decide +kernel) (by decide +kernel), tbm 146 (by decide +kernel) (by decide +kernel), tbm 2045 (by decide +kernel) (by decide +kernel), by decide +kernel, by decide⟩
theorem wi_RX12_551 : Iv RX12 551 yX12_bestOf cX12_bestOf 4 (some .int) 1 := ⟨tbm 2042 (by decide +kernel) (by decide +kernel), wm_X12_bestOf⟩
theorem wm_X12_laySwap : Cond.instanceMethod yX12_laySwap ∈ TB ∧ Cond.selects yX12_laySwap.cls yX12_laySwap yX12_laySwap ∈ TB ∧ Cond.initialized yX12_laySwap.cls ∈ TB ∧ Cond.code yX12_laySwap cX12_laySwap 2 none ∈ TB ∧ (yX12_laySwap.cls ≠ "java/lang/invoke/MethodHandle" ∧ yX12_laySwap.cls ≠ "java/lang/invoke/VarHandle" ∧ (parseMethodDescriptor yX12_laySwap.desc).map (fun d => d.parameters.length) = some 1) ∧ 2 ≤ 21 := ⟨tbm 2052 (by decide +kernel) (by decide +kernel), tbm 114 (by decide +kernel) (by decide +kernel), tbm 146 (by decide +kernel) (by decide +kernel), tbm 2053 (by decide +kernel) (by decide +kernel), by decide +kernel, by decide⟩
theorem wi_RX12_554 : Iv RX12 554 yX12_laySwap cX12_laySwap 2 none 1 := ⟨tbm 2050 (by decide +kernel) (by decide +kernel), wm_X12_laySwap⟩
def mX12_best (t : Nat) (p1 : Int32) (σ : St_) : Option (Int32 × St_) :=
 (bnd (sI σ t 71 (0 : Int32)) fun σ1 =>
 ((mX12_isThief t p1 σ1).bind fun r2 =>
 (if r2 = true then
 ((mX12_load t σ1).bind fun σ3 =>
 ((mX12_bestOf t p1 σ3).bind fun r4 =>
 (if 0 ≤ r4.1 then
 ((mX12_laySwap t r4.1 r4.2).bind fun σ5 =>
 ((mX12_gainOf t p1 r4.1 σ5).bind fun r6 =>
 (some (r6, σ5))))
 else (some ((-1000000 : Int32), r4.2)))))
 else (some ((-1000000 : Int32), σ1)))))
set_option maxHeartbeats 4000000 in
theorem rX12_best (t : Nat) (p1 : Int32) (hT : LY12 sh P t) : Rj l D cA h0 ad yX12_best cX12_best 3 (some .int) false 9 0 0 (fun b => (some (.int b.1), sh, P, b.2)) [.ref (h0 + t), .int p1] sh P σ (mX12_best t p1 σ) := by
  rw [mX12_best]
  refine Rj.of (by decide) (fun h => by cases h) (Nat.le_of_ble_eq_true rfl) ?_
  refine tj_lv0 (lv' := [(0, .ref (h0 + t)), (1, .int p1)]) rfl ?_
  refine tj_aload_n (q := 1) dX12_best_0 rfl (i := 0) rfl (pl := 0) rfl ?_
  refine tj_iconst (q := 2) (v := 0) dX12_best_1 rfl (by decide) ?_
  refine tj_putI (q := 5) (hT).s fok_12_71 tok_12 fpk_12_71 wl_RX12_443 dX12_best_2 rfl (fun σ1 => ?_)
  refine tj_aload_n (q := 6) dX12_best_5 rfl (i := 0) rfl (pl := 0) rfl ?_
  refine tj_iload_n (q := 7) dX12_best_6 rfl (i := 1) rfl (pl := 1) rfl ?_
  refine tj_callZp (q := 10) (kj_V (As := [.int p1]) (rest := []) (t := t) wi_RX12_450 (hT).s rfl (rX12_isThief t p1 (hT)) rfl (Nat.le_of_ble_eq_true rfl) ⟨Nat.le_of_ble_eq_true rfl, Nat.le_of_ble_eq_true rfl⟩ (Nat.le_of_ble_eq_true rfl) dX12_best_7) rfl (fun r2 => ?_)
  refine tj_bnz (tgt := 17) (q := 13) dX12_best_10 (by decide) rfl ?_ ?_
  · refine tj_aload_n (q := 18) dX12_best_17 rfl (i := 0) rfl (pl := 0) rfl ?_
    refine tj_callV (q := 21) (kj_V (As := []) (rest := []) (t := t) wi_RX12_497 (hT).s rfl (rX12_load t (hT)) rfl (Nat.le_of_ble_eq_true rfl) ⟨Nat.le_of_ble_eq_true rfl, Nat.le_of_ble_eq_true rfl⟩ (Nat.le_of_ble_eq_true rfl) dX12_best_18) rfl (fun σ3 => ?_)
    refine tj_aload_n (q := 22) dX12_best_21 rfl (i := 0) rfl (pl := 0) rfl ?_
    refine tj_iload_n (q := 23) dX12_best_22 rfl (i := 1) rfl (pl := 1) rfl ?_
    refine tj_callI (q := 26) (kj_V (As := [.int p1]) (rest := []) (t := t) wi_RX12_551 (hT).s rfl (rX12_bestOf t p1 (hT)) rfl (Nat.le_of_ble_eq_true rfl) ⟨Nat.le_of_ble_eq_true rfl, Nat.le_of_ble_eq_true rfl⟩ (Nat.le_of_ble_eq_true rfl) dX12_best_23) rfl (fun r4 => ?_)
    refine tj_istore_n (q := 27) dX12_best_26 rfl (i := 2) rfl (by decide) rfl ?_
    refine tj_iload_n (q := 28) dX12_best_27 rfl (i := 2) rfl (pl := 0) rfl ?_
    refine tj_if_ge (tgt := 35) (q := 31) dX12_best_28 (by decide) rfl ?_ ?_
    · refine tj_aload_n (q := 36) dX12_best_35 rfl (i := 0) rfl (pl := 1) rfl ?_
      refine tj_iload_n (q := 37) dX12_best_36 rfl (i := 2) rfl (pl := 0) rfl ?_
      refine tj_callV (q := 40) (kj_V (As := [.int r4.1]) (rest := []) (t := t) wi_RX12_554 (hT).s rfl (rX12_laySwap t r4.1 (hT)) rfl (Nat.le_of_ble_eq_true rfl) ⟨Nat.le_of_ble_eq_true rfl, Nat.le_of_ble_eq_true rfl⟩ (Nat.le_of_ble_eq_true rfl) dX12_best_37) rfl (fun σ5 => ?_)
      refine tj_aload_n (q := 41) dX12_best_40 rfl (i := 0) rfl (pl := 1) rfl ?_
      refine tj_iload_n (q := 42) dX12_best_41 rfl (i := 1) rfl (pl := 2) rfl ?_
      refine tj_iload_n (q := 43) dX12_best_42 rfl (i := 2) rfl (pl := 0) rfl ?_
      refine tj_callIp (q := 46) (kj_V (As := [.int p1, .int r4.1]) (rest := []) (t := t) wi_RX12_544 (hT).s rfl (rX12_gainOf t p1 r4.1 (hT)) rfl (Nat.le_of_ble_eq_true rfl) ⟨Nat.le_of_ble_eq_true rfl, Nat.le_of_ble_eq_true rfl⟩ (Nat.le_of_ble_eq_true rfl) dX12_best_43) rfl (fun r6 => ?_)
      exact tj_iret rfl rfl (Nat.le_of_ble_eq_true rfl) (Nat.le_of_ble_eq_true rfl) dX12_best_46
    · refine tj_ldcw (q := 34) (v := (-1000000)) dX12_best_31 rfl wc_RX12_550 ?_
      exact tj_iret rfl rfl (Nat.le_of_ble_eq_true rfl) (Nat.le_of_ble_eq_true rfl) dX12_best_34
  · refine tj_ldcw (q := 16) (v := (-1000000)) dX12_best_13 rfl wc_RX12_550 ?_
    exact tj_iret rfl rfl (Nat.le_of_ble_eq_true rfl) (Nat.le_of_ble_eq_true rfl) dX12_best_16

theorem dX12_loadCome_0 : decode cX12_loadCome 0 = .ok (.iconst 0, 1) := by decide +kernel
theorem dX12_loadCome_1 : decode cX12_loadCome 1 = .ok (.istore_n 2, 1) := by decide +kernel
theorem dX12_loadCome_2 : decode cX12_loadCome 2 = .ok (.iload_n 2, 1) := by decide +kernel
theorem dX12_loadCome_3 : decode cX12_loadCome 3 = .ok (.bipush 10, 2) := by decide +kernel
theorem dX12_loadCome_5 : decode cX12_loadCome 5 = .ok (.if_icmp .ge 26, 3) := by decide +kernel
theorem dX12_loadCome_8 : decode cX12_loadCome 8 = .ok (.aload_n 0, 1) := by decide +kernel
theorem dX12_loadCome_9 : decode cX12_loadCome 9 = .ok (.getfield 105, 3) := by decide +kernel
theorem dX12_loadCome_12 : decode cX12_loadCome 12 = .ok (.iload_n 2, 1) := by decide +kernel
theorem dX12_loadCome_13 : decode cX12_loadCome 13 = .ok (.aload_n 0, 1) := by decide +kernel
theorem dX12_loadCome_14 : decode cX12_loadCome 14 = .ok (.getfield 120, 3) := by decide +kernel
theorem dX12_loadCome_17 : decode cX12_loadCome 17 = .ok (.bipush 10, 2) := by decide +kernel
theorem dX12_loadCome_19 : decode cX12_loadCome 19 = .ok (.iload_n 1, 1) := by decide +kernel
theorem dX12_loadCome_20 : decode cX12_loadCome 20 = .ok (.imul, 1) := by decide +kernel
theorem dX12_loadCome_21 : decode cX12_loadCome 21 = .ok (.iload_n 2, 1) := by decide +kernel
theorem dX12_loadCome_22 : decode cX12_loadCome 22 = .ok (.iadd, 1) := by decide +kernel
theorem dX12_loadCome_23 : decode cX12_loadCome 23 = .ok (.iaload, 1) := by decide +kernel
theorem dX12_loadCome_24 : decode cX12_loadCome 24 = .ok (.iastore, 1) := by decide +kernel
theorem dX12_loadCome_25 : decode cX12_loadCome 25 = .ok (.iinc 2 1, 3) := by decide +kernel
theorem dX12_loadCome_28 : decode cX12_loadCome 28 = .ok (.goto (-26), 3) := by decide +kernel
theorem dX12_loadCome_31 : decode cX12_loadCome 31 = .ok (.return_, 1) := by decide +kernel
theorem wl_RX12_120 : Cond.fieldLink RX12 120 (TX12 72).1 (TX12 72).2.1 (TX12 72).2.2.1 ∈ TB := tbm 1487 (by decide +kernel) (by decide +kernel)
def mX12_loadCome_L2 (t : Nat) (x1 : Int32) : Nat → Int32 → St_ → Option St_
  | 0, _, _ => none
  | n + 1, x2, σ => (if (10 : Int32) ≤ x2 then
 (some σ)
 else (bnd (((10 : Int32) * x1) + x2) fun v1 =>
 (if bin v1 20020 = true then bnd (σ.1 (t + 33) v1.toNatClampNeg) fun v2 =>
 (if bin x2 10 = true then bnd (sI σ (t + 30) x2.toNatClampNeg v2) fun σ3 =>
 (mX12_loadCome_L2 t x1 n (x2 + 1) σ3)
 else none)
 else none)))
def mX12_loadCome (t : Nat) (p1 : Int32) (σ : St_) : Option St_ :=
 (mX12_loadCome_L2 t p1 FU (0 : Int32) σ)
set_option maxHeartbeats 4000000 in
theorem tmX12_loadCome_L2 (t : Nat) (hT : LY12 sh P t) (x1 : Int32) : ∀ (n : Nat) (x2 : Int32) (σ : St_), Tj l D cA h0 ad RX12 cX12_loadCome 3 none false 2 0 0 (fun b => (none, sh, P, b)) 0 0 sh P σ 2 [(0, .ref (h0 + t)), (1, .int x1), (2, .int x2)] [] (mX12_loadCome_L2 t x1 n x2 σ) := by
  intro n
  induction n with
  | zero => intros; exact tj_none
  | succ n ih =>
    intro x2 σ
    rw [mX12_loadCome_L2]
    refine tj_iload_n (q := 3) dX12_loadCome_2 rfl (i := 2) rfl (pl := 2) rfl ?_
    refine tj_bipush (q := 5) (v := 10) dX12_loadCome_3 rfl (by decide) ?_
    refine tj_icmp_ge (tgt := 31) (q := 8) dX12_loadCome_5 (by decide) rfl ?_ ?_
    · exact tj_vret rfl rfl (Nat.le_of_ble_eq_true rfl) (Nat.le_of_ble_eq_true rfl) dX12_loadCome_31
    · refine tj_aload_n (q := 9) dX12_loadCome_8 rfl (i := 0) rfl (pl := 0) rfl ?_
      refine tj_getR (q := 12) (hT).s (hT).p_w fok_12_61 wl_RX12_105 dX12_loadCome_9 rfl ?_
      refine tj_iload_n (q := 13) dX12_loadCome_12 rfl (i := 2) rfl (pl := 2) rfl ?_
      refine tj_aload_n (q := 14) dX12_loadCome_13 rfl (i := 0) rfl (pl := 0) rfl ?_
      refine tj_getR (q := 17) (hT).s (hT).p_come fok_12_72 wl_RX12_120 dX12_loadCome_14 rfl ?_
      refine tj_bipush (q := 19) (v := 10) dX12_loadCome_17 rfl (by decide) ?_
      refine tj_iload_n (q := 20) dX12_loadCome_19 rfl (i := 1) rfl (pl := 1) rfl ?_
      refine tj_imul (q := 21) dX12_loadCome_20 rfl ?_
      refine tj_iload_n (q := 22) dX12_loadCome_21 rfl (i := 2) rfl (pl := 2) rfl ?_
      refine tj_iadd (q := 23) dX12_loadCome_22 rfl ?_
      refine tj_topI (fun v1 => ?_)
      refine tj_iaload (q := 24) (hT).s_come dX12_loadCome_23 rfl ?_
      refine tj_topI (fun v2 => ?_)
      refine tj_iastore (q := 25) (hT).s_w dX12_loadCome_24 rfl (fun σ3 => ?_)
      refine tj_iinc (q := 28) (v := x2 + 1) dX12_loadCome_25 rfl (pl := 2) rfl rfl (by decide) rfl ?_
      refine tj_goto (q := 2) dX12_loadCome_28 (by decide) ?_
      refine tj_lv [1, 2, 0] rfl ?_
      exact ih (x2 + 1) σ3

set_option maxHeartbeats 4000000 in
theorem rX12_loadCome (t : Nat) (p1 : Int32) (hT : LY12 sh P t) : Rj l D cA h0 ad yX12_loadCome cX12_loadCome 3 none false 2 0 0 (fun b => (none, sh, P, b)) [.ref (h0 + t), .int p1] sh P σ (mX12_loadCome t p1 σ) := by
  rw [mX12_loadCome]
  refine Rj.of (by decide) (fun h => by cases h) (Nat.le_of_ble_eq_true rfl) ?_
  refine tj_lv0 (lv' := [(0, .ref (h0 + t)), (1, .int p1)]) rfl ?_
  refine tj_iconst (q := 1) (v := 0) dX12_loadCome_0 rfl (by decide) ?_
  refine tj_istore_n (q := 2) dX12_loadCome_1 rfl (i := 2) rfl (by decide) rfl ?_
  refine tj_lv [1, 2, 0] rfl ?_
  exact tmX12_loadCome_L2 t hT p1 FU (0 : Int32) σ

theorem dX12_isCome_0 : decode cX12_isCome 0 = .ok (.iconst 1, 1) := by decide +kernel
theorem dX12_isCome_1 : decode cX12_isCome 1 = .ok (.istore_n 2, 1) := by decide +kernel
theorem dX12_isCome_2 : decode cX12_isCome 2 = .ok (.iconst 0, 1) := by decide +kernel
theorem dX12_isCome_3 : decode cX12_isCome 3 = .ok (.istore_n 3, 1) := by decide +kernel
theorem dX12_isCome_4 : decode cX12_isCome 4 = .ok (.iload_n 3, 1) := by decide +kernel
theorem dX12_isCome_5 : decode cX12_isCome 5 = .ok (.aload_n 0, 1) := by decide +kernel
theorem dX12_isCome_6 : decode cX12_isCome 6 = .ok (.getfield 419, 3) := by decide +kernel
theorem dX12_isCome_9 : decode cX12_isCome 9 = .ok (.if_icmp .ge 39, 3) := by decide +kernel
theorem dX12_isCome_12 : decode cX12_isCome 12 = .ok (.iload_n 2, 1) := by decide +kernel
theorem dX12_isCome_13 : decode cX12_isCome 13 = .ok (.ifCond .eq 27, 3) := by decide +kernel
theorem dX12_isCome_16 : decode cX12_isCome 16 = .ok (.aload_n 0, 1) := by decide +kernel
theorem dX12_isCome_17 : decode cX12_isCome 17 = .ok (.getfield 120, 3) := by decide +kernel
theorem dX12_isCome_20 : decode cX12_isCome 20 = .ok (.bipush 10, 2) := by decide +kernel
theorem dX12_isCome_22 : decode cX12_isCome 22 = .ok (.iload_n 1, 1) := by decide +kernel
theorem dX12_isCome_23 : decode cX12_isCome 23 = .ok (.imul, 1) := by decide +kernel
theorem dX12_isCome_24 : decode cX12_isCome 24 = .ok (.iload_n 3, 1) := by decide +kernel
theorem dX12_isCome_25 : decode cX12_isCome 25 = .ok (.iadd, 1) := by decide +kernel
theorem dX12_isCome_26 : decode cX12_isCome 26 = .ok (.iaload, 1) := by decide +kernel
theorem dX12_isCome_27 : decode cX12_isCome 27 = .ok (.aload_n 0, 1) := by decide +kernel
theorem dX12_isCome_28 : decode cX12_isCome 28 = .ok (.getfield 105, 3) := by decide +kernel
theorem dX12_isCome_31 : decode cX12_isCome 31 = .ok (.iload_n 3, 1) := by decide +kernel
theorem dX12_isCome_32 : decode cX12_isCome 32 = .ok (.iaload, 1) := by decide +kernel
theorem dX12_isCome_33 : decode cX12_isCome 33 = .ok (.if_icmp .ne 7, 3) := by decide +kernel
theorem dX12_isCome_36 : decode cX12_isCome 36 = .ok (.iconst 1, 1) := by decide +kernel
theorem dX12_isCome_37 : decode cX12_isCome 37 = .ok (.goto 4, 3) := by decide +kernel
theorem dX12_isCome_40 : decode cX12_isCome 40 = .ok (.iconst 0, 1) := by decide +kernel
theorem dX12_isCome_41 : decode cX12_isCome 41 = .ok (.istore_n 2, 1) := by decide +kernel
theorem dX12_isCome_42 : decode cX12_isCome 42 = .ok (.iinc 3 1, 3) := by decide +kernel
theorem dX12_isCome_45 : decode cX12_isCome 45 = .ok (.goto (-41), 3) := by decide +kernel
theorem dX12_isCome_48 : decode cX12_isCome 48 = .ok (.iload_n 2, 1) := by decide +kernel
theorem dX12_isCome_49 : decode cX12_isCome 49 = .ok (.ireturn, 1) := by decide +kernel
def mX12_isCome_L4 (t : Nat) (σ : St_) (x1 : Int32) : Nat → Bool → Int32 → Option Bool
  | 0, _, _ => none
  | n + 1, x2, x3 => (if (σ.1 t 52) ≤ x3 then
 (some x2)
 else (bnd (fun (j1 : Bool) => (mX12_isCome_L4 t σ x1 n j1 (x3 + 1))) fun k2 =>
 (bnd (k2 false) fun k4 =>
 (if x2 = true then
 (bnd (((10 : Int32) * x1) + x3) fun v6 =>
 (if bin v6 20020 = true then bnd (σ.1 (t + 33) v6.toNatClampNeg) fun v7 =>
 (if bin x3 10 = true then bnd (σ.1 (t + 30) x3.toNatClampNeg) fun v8 =>
 (if v7 = v8 then
 (k2 true)
 else (k4))
 else none)
 else none))
 else (k4)))))
def mX12_isCome (t : Nat) (p1 : Int32) (σ : St_) : Option Bool :=
 (mX12_isCome_L4 t σ p1 FU true (0 : Int32))
set_option maxHeartbeats 4000000 in
theorem tmX12_isCome_L4 (σ : St_) (t : Nat) (hT : LY12 sh P t) (x1 : Int32) : ∀ (n : Nat) (x2 : Bool) (x3 : Int32), Tj l D cA h0 ad RX12 cX12_isCome 4 (some .boolean) false 2 0 0 (fun b => (some (.int (b2i b)), sh, P, σ)) 0 0 sh P σ 4 [(0, .ref (h0 + t)), (1, .int x1), (2, .int (b2i x2)), (3, .int x3)] [] (mX12_isCome_L4 t σ x1 n x2 x3) := by
  intro n
  induction n with
  | zero => intros; exact tj_none
  | succ n ih =>
    intro x2 x3
    rw [mX12_isCome_L4]
    refine tj_iload_n (q := 5) dX12_isCome_4 rfl (i := 3) rfl (pl := 3) rfl ?_
    refine tj_aload_n (q := 6) dX12_isCome_5 rfl (i := 0) rfl (pl := 0) rfl ?_
    refine tj_getI (q := 9) (hT).s fok_12_52 wl_RX12_419 dX12_isCome_6 rfl ?_
    refine tj_icmp_ge (tgt := 48) (q := 12) dX12_isCome_9 (by decide) rfl ?_ ?_
    · refine tj_iload_n (q := 49) dX12_isCome_48 rfl (i := 2) rfl (pl := 2) rfl ?_
      exact tj_zret rfl (nar_b2i _) rfl (Nat.le_of_ble_eq_true rfl) (Nat.le_of_ble_eq_true rfl) dX12_isCome_49
    · refine tj_iload_n (q := 13) dX12_isCome_12 rfl (i := 2) rfl (pl := 2) rfl ?_
      refine tj_bnd (fun k2 => ∀ (j1 : Bool), Tj l D cA h0 ad RX12 cX12_isCome 4 (some .boolean) false 2 0 0 (fun b => (some (.int (b2i b)), sh, P, σ)) 0 0 sh P σ 41 [(0, .ref (h0 + t)), (1, .int x1), (3, .int x3)] [.int (b2i j1)] (k2 j1)) ?_ (fun k2 hk3 => ?_)
      · intro j1
        refine tj_istore_n (q := 42) dX12_isCome_41 rfl (i := 2) rfl (by decide) rfl ?_
        refine tj_iinc (q := 45) (v := x3 + 1) dX12_isCome_42 rfl (pl := 3) rfl rfl (by decide) rfl ?_
        refine tj_goto (q := 4) dX12_isCome_45 (by decide) ?_
        refine tj_lv [2, 3, 1, 0] rfl ?_
        exact ih j1 (x3 + 1)
      · refine tj_bnd (fun k4 => Tj l D cA h0 ad RX12 cX12_isCome 4 (some .boolean) false 2 0 0 (fun b => (some (.int (b2i b)), sh, P, σ)) 0 0 sh P σ 40 [(0, .ref (h0 + t)), (1, .int x1), (3, .int x3)] [] k4) ?_ (fun k4 hk5 => ?_)
        · refine tj_iconst (q := 41) (v := 0) dX12_isCome_40 rfl (by decide) ?_
          exact hk3 false
        · refine tj_bz (tgt := 40) (q := 16) dX12_isCome_13 (by decide) rfl ?_ ?_
          · refine tj_aload_n (q := 17) dX12_isCome_16 rfl (i := 0) rfl (pl := 0) rfl ?_
            refine tj_getR (q := 20) (hT).s (hT).p_come fok_12_72 wl_RX12_120 dX12_isCome_17 rfl ?_
            refine tj_bipush (q := 22) (v := 10) dX12_isCome_20 rfl (by decide) ?_
            refine tj_iload_n (q := 23) dX12_isCome_22 rfl (i := 1) rfl (pl := 1) rfl ?_
            refine tj_imul (q := 24) dX12_isCome_23 rfl ?_
            refine tj_iload_n (q := 25) dX12_isCome_24 rfl (i := 3) rfl (pl := 3) rfl ?_
            refine tj_iadd (q := 26) dX12_isCome_25 rfl ?_
            refine tj_topI (fun v6 => ?_)
            refine tj_iaload (q := 27) (hT).s_come dX12_isCome_26 rfl ?_
            refine tj_topI (fun v7 => ?_)
            refine tj_aload_n (q := 28) dX12_isCome_27 rfl (i := 0) rfl (pl := 0) rfl ?_
            refine tj_getR (q := 31) (hT).s (hT).p_w fok_12_61 wl_RX12_105 dX12_isCome_28 rfl ?_
            refine tj_iload_n (q := 32) dX12_isCome_31 rfl (i := 3) rfl (pl := 3) rfl ?_
            refine tj_iaload (q := 33) (hT).s_w dX12_isCome_32 rfl ?_
            refine tj_topI (fun v8 => ?_)
            refine tj_icmp_ne (tgt := 40) (q := 36) dX12_isCome_33 (by decide) rfl ?_ ?_
            · refine tj_iconst (q := 37) (v := 1) dX12_isCome_36 rfl (by decide) ?_
              refine tj_goto (q := 41) dX12_isCome_37 (by decide) ?_
              refine tj_lv [0, 1, 3] rfl ?_
              exact hk3 true
            · refine tj_lv [0, 1, 3] rfl ?_
              exact hk5
          · refine tj_lv [0, 1, 3] rfl ?_
            exact hk5

set_option maxHeartbeats 4000000 in
theorem rX12_isCome (t : Nat) (p1 : Int32) (hT : LY12 sh P t) : Rj l D cA h0 ad yX12_isCome cX12_isCome 4 (some .boolean) false 2 0 0 (fun b => (some (.int (b2i b)), sh, P, σ)) [.ref (h0 + t), .int p1] sh P σ (mX12_isCome t p1 σ) := by
  rw [mX12_isCome]
  refine Rj.of (by decide) (fun h => by cases h) (Nat.le_of_ble_eq_true rfl) ?_
  refine tj_lv0 (lv' := [(0, .ref (h0 + t)), (1, .int p1)]) rfl ?_
  refine tj_iconst (q := 1) (v := 1) dX12_isCome_0 rfl (by decide) ?_
  refine tj_istore_n (q := 2) dX12_isCome_1 rfl (i := 2) rfl (by decide) rfl ?_
  refine tj_iconst (q := 3) (v := 0) dX12_isCome_2 rfl (by decide) ?_
  refine tj_istore_n (q := 4) dX12_isCome_3 rfl (i := 3) rfl (by decide) rfl ?_
  refine tj_lv [2, 3, 1, 0] rfl ?_
  exact tmX12_isCome_L4 σ t hT p1 FU true (0 : Int32)

theorem dX12_put_0 : decode cX12_put 0 = .ok (.aload_n 0, 1) := by decide +kernel
theorem dX12_put_1 : decode cX12_put 1 = .ok (.getfield 557, 3) := by decide +kernel
theorem dX12_put_4 : decode cX12_put 4 = .ok (.istore_n 3, 1) := by decide +kernel
theorem dX12_put_5 : decode cX12_put 5 = .ok (.iload_n 3, 1) := by decide +kernel
theorem dX12_put_6 : decode cX12_put 6 = .ok (.aload_n 0, 1) := by decide +kernel
theorem dX12_put_7 : decode cX12_put 7 = .ok (.getfield 560, 3) := by decide +kernel
theorem dX12_put_10 : decode cX12_put 10 = .ok (.if_icmp .ge 19, 3) := by decide +kernel
theorem dX12_put_13 : decode cX12_put 13 = .ok (.aload_n 0, 1) := by decide +kernel
theorem dX12_put_14 : decode cX12_put 14 = .ok (.iload_n 3, 1) := by decide +kernel
theorem dX12_put_15 : decode cX12_put 15 = .ok (.invokevirtual 563, 3) := by decide +kernel
theorem dX12_put_18 : decode cX12_put 18 = .ok (.ifCond .eq 5, 3) := by decide +kernel
theorem dX12_put_21 : decode cX12_put 21 = .ok (.iconst 1, 1) := by decide +kernel
theorem dX12_put_22 : decode cX12_put 22 = .ok (.ireturn, 1) := by decide +kernel
theorem dX12_put_23 : decode cX12_put 23 = .ok (.iinc 3 1, 3) := by decide +kernel
theorem dX12_put_26 : decode cX12_put 26 = .ok (.goto (-21), 3) := by decide +kernel
theorem dX12_put_29 : decode cX12_put 29 = .ok (.iconst 0, 1) := by decide +kernel
theorem dX12_put_30 : decode cX12_put 30 = .ok (.istore_n 3, 1) := by decide +kernel
theorem dX12_put_31 : decode cX12_put 31 = .ok (.iload_n 3, 1) := by decide +kernel
theorem dX12_put_32 : decode cX12_put 32 = .ok (.bipush 10, 2) := by decide +kernel
theorem dX12_put_34 : decode cX12_put 34 = .ok (.if_icmp .ge 29, 3) := by decide +kernel
theorem dX12_put_37 : decode cX12_put 37 = .ok (.aload_n 0, 1) := by decide +kernel
theorem dX12_put_38 : decode cX12_put 38 = .ok (.getfield 120, 3) := by decide +kernel
theorem dX12_put_41 : decode cX12_put 41 = .ok (.bipush 10, 2) := by decide +kernel
theorem dX12_put_43 : decode cX12_put 43 = .ok (.aload_n 0, 1) := by decide +kernel
theorem dX12_put_44 : decode cX12_put 44 = .ok (.getfield 560, 3) := by decide +kernel
theorem dX12_put_47 : decode cX12_put 47 = .ok (.imul, 1) := by decide +kernel
theorem dX12_put_48 : decode cX12_put 48 = .ok (.iload_n 3, 1) := by decide +kernel
theorem dX12_put_49 : decode cX12_put 49 = .ok (.iadd, 1) := by decide +kernel
theorem dX12_put_50 : decode cX12_put 50 = .ok (.aload_n 0, 1) := by decide +kernel
theorem dX12_put_51 : decode cX12_put 51 = .ok (.getfield 105, 3) := by decide +kernel
theorem dX12_put_54 : decode cX12_put 54 = .ok (.iload_n 3, 1) := by decide +kernel
theorem dX12_put_55 : decode cX12_put 55 = .ok (.iaload, 1) := by decide +kernel
theorem dX12_put_56 : decode cX12_put 56 = .ok (.iastore, 1) := by decide +kernel
theorem dX12_put_57 : decode cX12_put 57 = .ok (.iinc 3 1, 3) := by decide +kernel
theorem dX12_put_60 : decode cX12_put 60 = .ok (.goto (-29), 3) := by decide +kernel
theorem dX12_put_63 : decode cX12_put 63 = .ok (.aload_n 0, 1) := by decide +kernel
theorem dX12_put_64 : decode cX12_put 64 = .ok (.getfield 123, 3) := by decide +kernel
theorem dX12_put_67 : decode cX12_put 67 = .ok (.aload_n 0, 1) := by decide +kernel
theorem dX12_put_68 : decode cX12_put 68 = .ok (.getfield 560, 3) := by decide +kernel
theorem dX12_put_71 : decode cX12_put 71 = .ok (.iload_n 1, 1) := by decide +kernel
theorem dX12_put_72 : decode cX12_put 72 = .ok (.iastore, 1) := by decide +kernel
theorem dX12_put_73 : decode cX12_put 73 = .ok (.aload_n 0, 1) := by decide +kernel
theorem dX12_put_74 : decode cX12_put 74 = .ok (.getfield 126, 3) := by decide +kernel
theorem dX12_put_77 : decode cX12_put 77 = .ok (.aload_n 0, 1) := by decide +kernel
theorem dX12_put_78 : decode cX12_put 78 = .ok (.getfield 560, 3) := by decide +kernel
theorem dX12_put_81 : decode cX12_put 81 = .ok (.iload_n 2, 1) := by decide +kernel
theorem dX12_put_82 : decode cX12_put 82 = .ok (.iastore, 1) := by decide +kernel
theorem dX12_put_83 : decode cX12_put 83 = .ok (.aload_n 0, 1) := by decide +kernel
theorem dX12_put_84 : decode cX12_put 84 = .ok (.dup, 1) := by decide +kernel
theorem dX12_put_85 : decode cX12_put 85 = .ok (.getfield 560, 3) := by decide +kernel
theorem dX12_put_88 : decode cX12_put 88 = .ok (.iconst 1, 1) := by decide +kernel
theorem dX12_put_89 : decode cX12_put 89 = .ok (.iadd, 1) := by decide +kernel
theorem dX12_put_90 : decode cX12_put 90 = .ok (.putfield 560, 3) := by decide +kernel
theorem dX12_put_93 : decode cX12_put 93 = .ok (.aload_n 0, 1) := by decide +kernel
theorem dX12_put_94 : decode cX12_put 94 = .ok (.getfield 560, 3) := by decide +kernel
theorem dX12_put_97 : decode cX12_put 97 = .ok (.sipush 2000, 3) := by decide +kernel
theorem dX12_put_100 : decode cX12_put 100 = .ok (.if_icmp .gt 7, 3) := by decide +kernel
theorem dX12_put_103 : decode cX12_put 103 = .ok (.iconst 1, 1) := by decide +kernel
theorem dX12_put_104 : decode cX12_put 104 = .ok (.goto 4, 3) := by decide +kernel
theorem dX12_put_107 : decode cX12_put 107 = .ok (.iconst 0, 1) := by decide +kernel
theorem dX12_put_108 : decode cX12_put 108 = .ok (.ireturn, 1) := by decide +kernel
theorem wl_RX12_557 : Cond.fieldLink RX12 557 (TX12 77).1 (TX12 77).2.1 (TX12 77).2.2.1 ∈ TB := tbm 1492 (by decide +kernel) (by decide +kernel)
theorem wl_RX12_560 : Cond.fieldLink RX12 560 (TX12 76).1 (TX12 76).2.1 (TX12 76).2.2.1 ∈ TB := tbm 1491 (by decide +kernel) (by decide +kernel)
theorem wm_X12_isCome : Cond.instanceMethod yX12_isCome ∈ TB ∧ Cond.selects yX12_isCome.cls yX12_isCome yX12_isCome ∈ TB ∧ Cond.initialized yX12_isCome.cls ∈ TB ∧ Cond.code yX12_isCome cX12_isCome 4 (some .boolean) ∈ TB ∧ (yX12_isCome.cls ≠ "java/lang/invoke/MethodHandle" ∧ yX12_isCome.cls ≠ "java/lang/invoke/VarHandle" ∧ (parseMethodDescriptor yX12_isCome.desc).map (fun d => d.parameters.length) = some 1) ∧ 4 ≤ 21 := ⟨tbm 2068 (by decide +kernel) (by decide +kernel), tbm 117 (by decide +kernel) (by decide +kernel), tbm 146 (by decide +kernel) (by decide +kernel), tbm 2069 (by decide +kernel) (by decide +kernel), by decide +kernel, by decide⟩
theorem wi_RX12_563 : Iv RX12 563 yX12_isCome cX12_isCome 4 (some .boolean) 1 := ⟨tbm 2066 (by decide +kernel) (by decide +kernel), wm_X12_isCome⟩
theorem wl_RX12_123 : Cond.fieldLink RX12 123 (TX12 73).1 (TX12 73).2.1 (TX12 73).2.2.1 ∈ TB := tbm 1488 (by decide +kernel) (by decide +kernel)
theorem wl_RX12_126 : Cond.fieldLink RX12 126 (TX12 74).1 (TX12 74).2.1 (TX12 74).2.2.1 ∈ TB := tbm 1489 (by decide +kernel) (by decide +kernel)
def mX12_put_L5 (t : Nat) (σ : St_) (x1 : Int32) (x2 : Int32) (k29 : Option (Bool × St_)) : Nat → Int32 → Option (Bool × St_)
  | 0, _ => none
  | n + 1, x3 => (if (σ.1 t 76) ≤ x3 then
 (k29)
 else ((mX12_isCome t x3 σ).bind fun r2 =>
 (if r2 = true then
 (some (true, σ))
 else (mX12_put_L5 t σ x1 x2 k29 n (x3 + 1)))))
def mX12_put_L31 (t : Nat) (x1 : Int32) (x2 : Int32) (k63 : St_ → Option (Bool × St_)) : Nat → Int32 → St_ → Option (Bool × St_)
  | 0, _, _ => none
  | n + 1, x3, σ => (if (10 : Int32) ≤ x3 then
 (k63 σ)
 else (if bin x3 10 = true then bnd (σ.1 (t + 30) x3.toNatClampNeg) fun v3 =>
 (bnd (((10 : Int32) * (σ.1 t 76)) + x3) fun v4 =>
 (if bin v4 20020 = true then bnd (sI σ (t + 33) v4.toNatClampNeg v3) fun σ5 =>
 (mX12_put_L31 t x1 x2 k63 n (x3 + 1) σ5)
 else none))
 else none))
def mX12_put (t : Nat) (p1 : Int32) (p2 : Int32) (σ : St_) : Option (Bool × St_) :=
 (bnd (σ.1 t 77) fun v1 =>
 (mX12_put_L5 t σ p1 p2
 (mX12_put_L31 t p1 p2
 (fun (σ6 : St_) => (bnd (σ6.1 t 76) fun v7 =>
 (if bin v7 2002 = true then bnd (sI σ6 (t + 34) v7.toNatClampNeg p1) fun σ8 =>
 (bnd (σ8.1 t 76) fun v9 =>
 (if bin v9 2002 = true then bnd (sI σ8 (t + 35) v9.toNatClampNeg p2) fun σ10 =>
 (bnd (sI σ10 t 76 ((σ10.1 t 76) + (1 : Int32))) fun σ11 =>
 (if (2000 : Int32) < (σ11.1 t 76) then
 (some (false, σ11))
 else (some (true, σ11))))
 else none))
 else none))) FU (0 : Int32) σ) FU v1))
set_option maxHeartbeats 4000000 in
theorem tmX12_put_L5 (σ : St_) (t : Nat) (hT : LY12 sh P t) (x1 : Int32) (x2 : Int32) (k29 : Option (Bool × St_)) (hk29 : Tj l D cA h0 ad RX12 cX12_put 4 (some .boolean) false 3 0 0 (fun b => (some (.int (b2i b.1)), sh, P, b.2)) 0 0 sh P σ 29 [(0, .ref (h0 + t)), (1, .int x1), (2, .int x2)] [] (k29)) : ∀ (n : Nat) (x3 : Int32), Tj l D cA h0 ad RX12 cX12_put 4 (some .boolean) false 3 0 0 (fun b => (some (.int (b2i b.1)), sh, P, b.2)) 0 0 sh P σ 5 [(0, .ref (h0 + t)), (1, .int x1), (2, .int x2), (3, .int x3)] [] (mX12_put_L5 t σ x1 x2 k29 n x3) := by
  intro n
  induction n with
  | zero => intros; exact tj_none
  | succ n ih =>
    intro x3
    rw [mX12_put_L5]
    refine tj_iload_n (q := 6) dX12_put_5 rfl (i := 3) rfl (pl := 3) rfl ?_
    refine tj_aload_n (q := 7) dX12_put_6 rfl (i := 0) rfl (pl := 0) rfl ?_
    refine tj_getI (q := 10) (hT).s fok_12_76 wl_RX12_560 dX12_put_7 rfl ?_
    refine tj_icmp_ge (tgt := 29) (q := 13) dX12_put_10 (by decide) rfl ?_ ?_
    · refine tj_lv [0, 1, 2] rfl ?_
      exact hk29
    · refine tj_aload_n (q := 14) dX12_put_13 rfl (i := 0) rfl (pl := 0) rfl ?_
      refine tj_iload_n (q := 15) dX12_put_14 rfl (i := 3) rfl (pl := 3) rfl ?_
      refine tj_callZp (q := 18) (kj_V (As := [.int x3]) (rest := []) (t := t) wi_RX12_563 (hT).s rfl (rX12_isCome t x3 (hT)) rfl (Nat.le_of_ble_eq_true rfl) ⟨Nat.le_of_ble_eq_true rfl, Nat.le_of_ble_eq_true rfl⟩ (Nat.le_of_ble_eq_true rfl) dX12_put_15) rfl (fun r2 => ?_)
      refine tj_bz (tgt := 23) (q := 21) dX12_put_18 (by decide) rfl ?_ ?_
      · refine tj_iconst (q := 22) (v := 1) dX12_put_21 rfl (by decide) ?_
        exact tj_zret rfl (by decide) rfl (Nat.le_of_ble_eq_true rfl) (Nat.le_of_ble_eq_true rfl) dX12_put_22
      · refine tj_iinc (q := 26) (v := x3 + 1) dX12_put_23 rfl (pl := 3) rfl rfl (by decide) rfl ?_
        refine tj_goto (q := 5) dX12_put_26 (by decide) ?_
        refine tj_lv [1, 2, 3, 0] rfl ?_
        exact ih (x3 + 1)

set_option maxHeartbeats 4000000 in
theorem tmX12_put_L31 (t : Nat) (hT : LY12 sh P t) (x1 : Int32) (x2 : Int32) (k63 : St_ → Option (Bool × St_)) (hk63 : ∀ (σ1 : St_), Tj l D cA h0 ad RX12 cX12_put 4 (some .boolean) false 3 0 0 (fun b => (some (.int (b2i b.1)), sh, P, b.2)) 0 0 sh P σ1 63 [(0, .ref (h0 + t)), (1, .int x1), (2, .int x2)] [] (k63 σ1)) : ∀ (n : Nat) (x3 : Int32) (σ : St_), Tj l D cA h0 ad RX12 cX12_put 4 (some .boolean) false 3 0 0 (fun b => (some (.int (b2i b.1)), sh, P, b.2)) 0 0 sh P σ 31 [(0, .ref (h0 + t)), (1, .int x1), (2, .int x2), (3, .int x3)] [] (mX12_put_L31 t x1 x2 k63 n x3 σ) := by
  intro n
  induction n with
  | zero => intros; exact tj_none
  | succ n ih =>
    intro x3 σ
    rw [mX12_put_L31]
    refine tj_iload_n (q := 32) dX12_put_31 rfl (i := 3) rfl (pl := 3) rfl ?_
    refine tj_bipush (q := 34) (v := 10) dX12_put_32 rfl (by decide) ?_
    refine tj_icmp_ge (tgt := 63) (q := 37) dX12_put_34 (by decide) rfl ?_ ?_
    · refine tj_lv [0, 1, 2] rfl ?_
      exact hk63 σ
    · refine tj_aload_n (q := 38) dX12_put_37 rfl (i := 0) rfl (pl := 0) rfl ?_
      refine tj_getR (q := 41) (hT).s (hT).p_come fok_12_72 wl_RX12_120 dX12_put_38 rfl ?_
      refine tj_bipush (q := 43) (v := 10) dX12_put_41 rfl (by decide) ?_
      refine tj_aload_n (q := 44) dX12_put_43 rfl (i := 0) rfl (pl := 0) rfl ?_
      refine tj_getI (q := 47) (hT).s fok_12_76 wl_RX12_560 dX12_put_44 rfl ?_
      refine tj_imul (q := 48) dX12_put_47 rfl ?_
      refine tj_iload_n (q := 49) dX12_put_48 rfl (i := 3) rfl (pl := 3) rfl ?_
      refine tj_iadd (q := 50) dX12_put_49 rfl ?_
      refine tj_aload_n (q := 51) dX12_put_50 rfl (i := 0) rfl (pl := 0) rfl ?_
      refine tj_getR (q := 54) (hT).s (hT).p_w fok_12_61 wl_RX12_105 dX12_put_51 rfl ?_
      refine tj_iload_n (q := 55) dX12_put_54 rfl (i := 3) rfl (pl := 3) rfl ?_
      refine tj_iaload (q := 56) (hT).s_w dX12_put_55 rfl ?_
      refine tj_topI (fun v3 => ?_)
      refine tj_sndI (fun v4 => ?_)
      refine tj_iastore (q := 57) (hT).s_come dX12_put_56 rfl (fun σ5 => ?_)
      refine tj_iinc (q := 60) (v := x3 + 1) dX12_put_57 rfl (pl := 3) rfl rfl (by decide) rfl ?_
      refine tj_goto (q := 31) dX12_put_60 (by decide) ?_
      refine tj_lv [1, 2, 3, 0] rfl ?_
      exact ih (x3 + 1) σ5

set_option maxHeartbeats 4000000 in
theorem rX12_put (t : Nat) (p1 : Int32) (p2 : Int32) (hT : LY12 sh P t) : Rj l D cA h0 ad yX12_put cX12_put 4 (some .boolean) false 3 0 0 (fun b => (some (.int (b2i b.1)), sh, P, b.2)) [.ref (h0 + t), .int p1, .int p2] sh P σ (mX12_put t p1 p2 σ) := by
  rw [mX12_put]
  refine Rj.of (by decide) (fun h => by cases h) (Nat.le_of_ble_eq_true rfl) ?_
  refine tj_lv0 (lv' := [(0, .ref (h0 + t)), (1, .int p1), (2, .int p2)]) rfl ?_
  refine tj_aload_n (q := 1) dX12_put_0 rfl (i := 0) rfl (pl := 0) rfl ?_
  refine tj_getI (q := 4) (hT).s fok_12_77 wl_RX12_557 dX12_put_1 rfl ?_
  refine tj_topI (fun v1 => ?_)
  refine tj_istore_n (q := 5) dX12_put_4 rfl (i := 3) rfl (by decide) rfl ?_
  refine tj_lv [1, 2, 3, 0] rfl ?_
  refine tmX12_put_L5 σ t hT p1 p2 _ ?_ FU v1
  · refine tj_iconst (q := 30) (v := 0) dX12_put_29 rfl (by decide) ?_
    refine tj_istore_n (q := 31) dX12_put_30 rfl (i := 3) rfl (by decide) rfl ?_
    refine tj_lv [1, 2, 3, 0] rfl ?_
    refine tmX12_put_L31 t hT p1 p2 _ ?_ FU (0 : Int32) σ
    · intro σ6
      refine tj_aload_n (q := 64) dX12_put_63 rfl (i := 0) rfl (pl := 0) rfl ?_
      refine tj_getR (q := 67) (hT).s (hT).p_from fok_12_73 wl_RX12_123 dX12_put_64 rfl ?_
      refine tj_aload_n (q := 68) dX12_put_67 rfl (i := 0) rfl (pl := 0) rfl ?_
      refine tj_getI (q := 71) (hT).s fok_12_76 wl_RX12_560 dX12_put_68 rfl ?_
      refine tj_iload_n (q := 72) dX12_put_71 rfl (i := 1) rfl (pl := 1) rfl ?_
      refine tj_sndI (fun v7 => ?_)
      refine tj_iastore (q := 73) (hT).s_from dX12_put_72 rfl (fun σ8 => ?_)
      refine tj_aload_n (q := 74) dX12_put_73 rfl (i := 0) rfl (pl := 0) rfl ?_
      refine tj_getR (q := 77) (hT).s (hT).p_by fok_12_74 wl_RX12_126 dX12_put_74 rfl ?_
      refine tj_aload_n (q := 78) dX12_put_77 rfl (i := 0) rfl (pl := 0) rfl ?_
      refine tj_getI (q := 81) (hT).s fok_12_76 wl_RX12_560 dX12_put_78 rfl ?_
      refine tj_iload_n (q := 82) dX12_put_81 rfl (i := 2) rfl (pl := 2) rfl ?_
      refine tj_sndI (fun v9 => ?_)
      refine tj_iastore (q := 83) (hT).s_by dX12_put_82 rfl (fun σ10 => ?_)
      refine tj_aload_n (q := 84) dX12_put_83 rfl (i := 0) rfl (pl := 0) rfl ?_
      refine tj_dup (q := 85) dX12_put_84 rfl rfl ?_
      refine tj_getI (q := 88) (hT).s fok_12_76 wl_RX12_560 dX12_put_85 rfl ?_
      refine tj_iconst (q := 89) (v := 1) dX12_put_88 rfl (by decide) ?_
      refine tj_iadd (q := 90) dX12_put_89 rfl ?_
      refine tj_putI (q := 93) (hT).s fok_12_76 tok_12 fpk_12_76 wl_RX12_560 dX12_put_90 rfl (fun σ11 => ?_)
      refine tj_aload_n (q := 94) dX12_put_93 rfl (i := 0) rfl (pl := 0) rfl ?_
      refine tj_getI (q := 97) (hT).s fok_12_76 wl_RX12_560 dX12_put_94 rfl ?_
      refine tj_sipush (q := 100) (v := 2000) dX12_put_97 rfl (by decide) ?_
      refine tj_icmp_gt (tgt := 107) (q := 103) dX12_put_100 (by decide) rfl ?_ ?_
      · refine tj_iconst (q := 108) (v := 0) dX12_put_107 rfl (by decide) ?_
        exact tj_zret rfl (by decide) rfl (Nat.le_of_ble_eq_true rfl) (Nat.le_of_ble_eq_true rfl) dX12_put_108
      · refine tj_iconst (q := 104) (v := 1) dX12_put_103 rfl (by decide) ?_
        refine tj_goto (q := 108) dX12_put_104 (by decide) ?_
        exact tj_zret rfl (by decide) rfl (Nat.le_of_ble_eq_true rfl) (Nat.le_of_ble_eq_true rfl) dX12_put_108

end
