section
variable {l : Launch} {D : va_G} {cA : Nat → ClassId} {h0 : Nat} {ad : Ad_} {sh : Sh_} {P : Px_} {σ : St_}
theorem dX11_best_0 : decode cX11_best 0 = .ok (.aload_n 0, 1) := by decide +kernel
theorem dX11_best_1 : decode cX11_best 1 = .ok (.iconst 0, 1) := by decide +kernel
theorem dX11_best_2 : decode cX11_best 2 = .ok (.putfield 59, 3) := by decide +kernel
theorem dX11_best_5 : decode cX11_best 5 = .ok (.aload_n 0, 1) := by decide +kernel
theorem dX11_best_6 : decode cX11_best 6 = .ok (.iload_n 1, 1) := by decide +kernel
theorem dX11_best_7 : decode cX11_best 7 = .ok (.invokevirtual 162, 3) := by decide +kernel
theorem dX11_best_10 : decode cX11_best 10 = .ok (.ifCond .ne 6, 3) := by decide +kernel
theorem dX11_best_13 : decode cX11_best 13 = .ok (.ldc 228, 2) := by decide +kernel
theorem dX11_best_15 : decode cX11_best 15 = .ok (.ireturn, 1) := by decide +kernel
theorem dX11_best_16 : decode cX11_best 16 = .ok (.aload_n 0, 1) := by decide +kernel
theorem dX11_best_17 : decode cX11_best 17 = .ok (.getfield 75, 3) := by decide +kernel
theorem dX11_best_20 : decode cX11_best 20 = .ok (.aload_n 0, 1) := by decide +kernel
theorem dX11_best_21 : decode cX11_best 21 = .ok (.getfield 26, 3) := by decide +kernel
theorem dX11_best_24 : decode cX11_best 24 = .ok (.aload_n 0, 1) := by decide +kernel
theorem dX11_best_25 : decode cX11_best 25 = .ok (.getfield 36, 3) := by decide +kernel
theorem dX11_best_28 : decode cX11_best 28 = .ok (.iload_n 1, 1) := by decide +kernel
theorem dX11_best_29 : decode cX11_best 29 = .ok (.invokevirtual 223, 3) := by decide +kernel
theorem dX11_best_32 : decode cX11_best 32 = .ok (.aload_n 0, 1) := by decide +kernel
theorem dX11_best_33 : decode cX11_best 33 = .ok (.getfield 75, 3) := by decide +kernel
theorem dX11_best_36 : decode cX11_best 36 = .ok (.invokevirtual 229, 3) := by decide +kernel
theorem dX11_best_39 : decode cX11_best 39 = .ok (.istore_n 2, 1) := by decide +kernel
theorem dX11_best_40 : decode cX11_best 40 = .ok (.iload_n 2, 1) := by decide +kernel
theorem dX11_best_41 : decode cX11_best 41 = .ok (.iconst (-1), 1) := by decide +kernel
theorem dX11_best_42 : decode cX11_best 42 = .ok (.if_icmp .ne 6, 3) := by decide +kernel
theorem dX11_best_45 : decode cX11_best 45 = .ok (.ldc 228, 2) := by decide +kernel
theorem dX11_best_47 : decode cX11_best 47 = .ok (.ireturn, 1) := by decide +kernel
theorem dX11_best_48 : decode cX11_best 48 = .ok (.aload_n 0, 1) := by decide +kernel
theorem dX11_best_49 : decode cX11_best 49 = .ok (.aload_n 0, 1) := by decide +kernel
theorem dX11_best_50 : decode cX11_best 50 = .ok (.getfield 75, 3) := by decide +kernel
theorem dX11_best_53 : decode cX11_best 53 = .ok (.getfield 233, 3) := by decide +kernel
theorem dX11_best_56 : decode cX11_best 56 = .ok (.iload_n 2, 1) := by decide +kernel
theorem dX11_best_57 : decode cX11_best 57 = .ok (.iaload, 1) := by decide +kernel
theorem dX11_best_58 : decode cX11_best 58 = .ok (.invokevirtual 236, 3) := by decide +kernel
theorem dX11_best_61 : decode cX11_best 61 = .ok (.aload_n 0, 1) := by decide +kernel
theorem dX11_best_62 : decode cX11_best 62 = .ok (.aload_n 0, 1) := by decide +kernel
theorem dX11_best_63 : decode cX11_best 63 = .ok (.getfield 75, 3) := by decide +kernel
theorem dX11_best_66 : decode cX11_best 66 = .ok (.getfield 239, 3) := by decide +kernel
theorem dX11_best_69 : decode cX11_best 69 = .ok (.iload_n 2, 1) := by decide +kernel
theorem dX11_best_70 : decode cX11_best 70 = .ok (.iaload, 1) := by decide +kernel
theorem dX11_best_71 : decode cX11_best 71 = .ok (.invokevirtual 236, 3) := by decide +kernel
theorem dX11_best_74 : decode cX11_best 74 = .ok (.aload_n 0, 1) := by decide +kernel
theorem dX11_best_75 : decode cX11_best 75 = .ok (.aload_n 0, 1) := by decide +kernel
theorem dX11_best_76 : decode cX11_best 76 = .ok (.getfield 75, 3) := by decide +kernel
theorem dX11_best_79 : decode cX11_best 79 = .ok (.getfield 242, 3) := by decide +kernel
theorem dX11_best_82 : decode cX11_best 82 = .ok (.iload_n 2, 1) := by decide +kernel
theorem dX11_best_83 : decode cX11_best 83 = .ok (.iaload, 1) := by decide +kernel
theorem dX11_best_84 : decode cX11_best 84 = .ok (.invokevirtual 236, 3) := by decide +kernel
theorem dX11_best_87 : decode cX11_best 87 = .ok (.aload_n 0, 1) := by decide +kernel
theorem dX11_best_88 : decode cX11_best 88 = .ok (.getfield 75, 3) := by decide +kernel
theorem dX11_best_91 : decode cX11_best 91 = .ok (.getfield 245, 3) := by decide +kernel
theorem dX11_best_94 : decode cX11_best 94 = .ok (.iload_n 2, 1) := by decide +kernel
theorem dX11_best_95 : decode cX11_best 95 = .ok (.iaload, 1) := by decide +kernel
theorem dX11_best_96 : decode cX11_best 96 = .ok (.ireturn, 1) := by decide +kernel
theorem wc_RX11_228 : Cond.constant RX11 228 (-1000000) ∈ TB := tbm 1194 (by decide +kernel) (by decide +kernel)
theorem wi_RX11_229 : Iv RX11 229 yX9_pick cX9_pick 3 (some .int) 0 := ⟨tbm 1195 (by decide +kernel) (by decide +kernel), wm_X9_pick⟩
theorem wl_RX11_233 : Cond.fieldLink RX11 233 (TX9 0).1 (TX9 0).2.1 (TX9 0).2.2.1 ∈ TB := tbm 501 (by decide +kernel) (by decide +kernel)
theorem wm_X11_lay : Cond.instanceMethod yX11_lay ∈ TB ∧ Cond.selects yX11_lay.cls yX11_lay yX11_lay ∈ TB ∧ Cond.initialized yX11_lay.cls ∈ TB ∧ Cond.code yX11_lay cX11_lay 2 none ∈ TB ∧ (yX11_lay.cls ≠ "java/lang/invoke/MethodHandle" ∧ yX11_lay.cls ≠ "java/lang/invoke/VarHandle" ∧ (parseMethodDescriptor yX11_lay.desc).map (fun d => d.parameters.length) = some 1) ∧ 2 ≤ 21 := ⟨tbm 1201 (by decide +kernel) (by decide +kernel), tbm 40 (by decide +kernel) (by decide +kernel), tbm 134 (by decide +kernel) (by decide +kernel), tbm 1202 (by decide +kernel) (by decide +kernel), by decide +kernel, by decide⟩
theorem wi_RX11_236 : Iv RX11 236 yX11_lay cX11_lay 2 none 1 := ⟨tbm 1199 (by decide +kernel) (by decide +kernel), wm_X11_lay⟩
theorem wl_RX11_239 : Cond.fieldLink RX11 239 (TX9 1).1 (TX9 1).2.1 (TX9 1).2.2.1 ∈ TB := tbm 505 (by decide +kernel) (by decide +kernel)
theorem wl_RX11_242 : Cond.fieldLink RX11 242 (TX9 2).1 (TX9 2).2.1 (TX9 2).2.2.1 ∈ TB := tbm 509 (by decide +kernel) (by decide +kernel)
theorem wl_RX11_245 : Cond.fieldLink RX11 245 (TX9 3).1 (TX9 3).2.1 (TX9 3).2.2.1 ∈ TB := tbm 512 (by decide +kernel) (by decide +kernel)
def mX11_best (t : Nat) (tw : Nat) (dr : Nat) (p1 : Int32) (σ : St_) : Option (Int32 × St_) :=
 (bnd (sI σ t 9 (0 : Int32)) fun σ1 =>
 ((mX11_isThief t tw dr p1 σ1).bind fun r2 =>
 (if r2 = true then
 ((mX9_gather (t + 183) tw (t + 44) p1 σ1).bind fun σ3 =>
 ((mX9_pick (t + 183) σ3).bind fun r4 =>
 (if r4 = (-1 : Int32) then
 (some ((-1000000 : Int32), σ3))
 else (if bin r4 100 = true then bnd (σ3.1 (t + 183 + 1) r4.toNatClampNeg) fun v5 =>
 ((mX11_lay t tw dr v5 σ3).bind fun σ6 =>
 (if bin r4 100 = true then bnd (σ6.1 (t + 183 + 2) r4.toNatClampNeg) fun v7 =>
 ((mX11_lay t tw dr v7 σ6).bind fun σ8 =>
 (if bin r4 100 = true then bnd (σ8.1 (t + 183 + 3) r4.toNatClampNeg) fun v9 =>
 ((mX11_lay t tw dr v9 σ8).bind fun σ10 =>
 (if bin r4 100 = true then bnd (σ10.1 (t + 183 + 4) r4.toNatClampNeg) fun v11 =>
 (some (v11, σ10))
 else none))
 else none))
 else none))
 else none))))
 else (some ((-1000000 : Int32), σ1)))))
set_option maxHeartbeats 4000000 in
theorem rX11_best (t : Nat) (tw : Nat) (dr : Nat) (p1 : Int32) (hT : LY11 sh P t tw dr) : Rj l D cA h0 ad yX11_best cX11_best 3 (some .int) false 7 0 0 (fun b => (some (.int b.1), sh, P, b.2)) [.ref (h0 + t), .int p1] sh P σ (mX11_best t tw dr p1 σ) := by
  rw [mX11_best]
  refine Rj.of (by decide) (fun h => by cases h) (Nat.le_of_ble_eq_true rfl) ?_
  refine tj_lv0 (lv' := [(0, .ref (h0 + t)), (1, .int p1)]) rfl ?_
  refine tj_aload_n (q := 1) dX11_best_0 rfl (i := 0) rfl (pl := 0) rfl ?_
  refine tj_iconst (q := 2) (v := 0) dX11_best_1 rfl (by decide) ?_
  refine tj_putI (q := 5) (hT).s fok_11_9 tok_11 fpk_11_9 wl_RX11_59 dX11_best_2 rfl (fun σ1 => ?_)
  refine tj_aload_n (q := 6) dX11_best_5 rfl (i := 0) rfl (pl := 0) rfl ?_
  refine tj_iload_n (q := 7) dX11_best_6 rfl (i := 1) rfl (pl := 1) rfl ?_
  refine tj_callZp (q := 10) (kj_V (As := [.int p1]) (rest := []) (t := t) wi_RX11_162 (hT).s rfl (rX11_isThief t tw dr p1 (hT)) rfl (Nat.le_of_ble_eq_true rfl) ⟨Nat.le_of_ble_eq_true rfl, Nat.le_of_ble_eq_true rfl⟩ (Nat.le_of_ble_eq_true rfl) dX11_best_7) rfl (fun r2 => ?_)
  refine tj_bnz (tgt := 16) (q := 13) dX11_best_10 (by decide) rfl ?_ ?_
  · refine tj_aload_n (q := 17) dX11_best_16 rfl (i := 0) rfl (pl := 0) rfl ?_
    refine tj_getR (q := 20) (hT).s (hT).p_list fok_11_12 wl_RX11_75 dX11_best_17 rfl ?_
    refine tj_aload_n (q := 21) dX11_best_20 rfl (i := 0) rfl (pl := 0) rfl ?_
    refine tj_getR (q := 24) (hT).s (hT).p_town fok_11_2 wl_RX11_26 dX11_best_21 rfl ?_
    refine tj_aload_n (q := 25) dX11_best_24 rfl (i := 0) rfl (pl := 0) rfl ?_
    refine tj_getR (q := 28) (hT).s (hT).p_now fok_11_4 wl_RX11_36 dX11_best_25 rfl ?_
    refine tj_iload_n (q := 29) dX11_best_28 rfl (i := 1) rfl (pl := 1) rfl ?_
    refine tj_callV (q := 32) (kj_V (As := [.ref (h0 + tw), .ref (h0 + (t + 44)), .int p1]) (rest := []) (t := (t + 183)) wi_RX11_223 ((hT).o_list).s rfl (rX9_gather (t + 183) tw (t + 44) p1 ((hT).o_list) ((hT).o_town) ((hT).o_now)) rfl (Nat.le_of_ble_eq_true rfl) ⟨Nat.le_of_ble_eq_true rfl, Nat.le_of_ble_eq_true rfl⟩ (Nat.le_of_ble_eq_true rfl) dX11_best_29) rfl (fun σ3 => ?_)
    refine tj_aload_n (q := 33) dX11_best_32 rfl (i := 0) rfl (pl := 0) rfl ?_
    refine tj_getR (q := 36) (hT).s (hT).p_list fok_11_12 wl_RX11_75 dX11_best_33 rfl ?_
    refine tj_callIp (q := 39) (kj_V (As := []) (rest := []) (t := (t + 183)) wi_RX11_229 ((hT).o_list).s rfl (rX9_pick (t + 183) ((hT).o_list)) rfl (Nat.le_of_ble_eq_true rfl) ⟨Nat.le_of_ble_eq_true rfl, Nat.le_of_ble_eq_true rfl⟩ (Nat.le_of_ble_eq_true rfl) dX11_best_36) rfl (fun r4 => ?_)
    refine tj_istore_n (q := 40) dX11_best_39 rfl (i := 2) rfl (by decide) rfl ?_
    refine tj_iload_n (q := 41) dX11_best_40 rfl (i := 2) rfl (pl := 0) rfl ?_
    refine tj_iconst (q := 42) (v := (-1)) dX11_best_41 rfl (by decide) ?_
    refine tj_icmp_ne (tgt := 48) (q := 45) dX11_best_42 (by decide) rfl ?_ ?_
    · refine tj_ldc (q := 47) (v := (-1000000)) dX11_best_45 rfl wc_RX11_228 ?_
      exact tj_iret rfl rfl (Nat.le_of_ble_eq_true rfl) (Nat.le_of_ble_eq_true rfl) dX11_best_47
    · refine tj_aload_n (q := 49) dX11_best_48 rfl (i := 0) rfl (pl := 1) rfl ?_
      refine tj_aload_n (q := 50) dX11_best_49 rfl (i := 0) rfl (pl := 1) rfl ?_
      refine tj_getR (q := 53) (hT).s (hT).p_list fok_11_12 wl_RX11_75 dX11_best_50 rfl ?_
      refine tj_getR (q := 56) ((hT).o_list).s ((hT).o_list).p_house fok_9_0 wl_RX11_233 dX11_best_53 rfl ?_
      refine tj_iload_n (q := 57) dX11_best_56 rfl (i := 2) rfl (pl := 0) rfl ?_
      refine tj_iaload (q := 58) ((hT).o_list).s_house dX11_best_57 rfl ?_
      refine tj_topI (fun v5 => ?_)
      refine tj_callV (q := 61) (kj_V (As := [.int v5]) (rest := []) (t := t) wi_RX11_236 (hT).s rfl (rX11_lay t tw dr v5 (hT)) rfl (Nat.le_of_ble_eq_true rfl) ⟨Nat.le_of_ble_eq_true rfl, Nat.le_of_ble_eq_true rfl⟩ (Nat.le_of_ble_eq_true rfl) dX11_best_58) rfl (fun σ6 => ?_)
      refine tj_aload_n (q := 62) dX11_best_61 rfl (i := 0) rfl (pl := 1) rfl ?_
      refine tj_aload_n (q := 63) dX11_best_62 rfl (i := 0) rfl (pl := 1) rfl ?_
      refine tj_getR (q := 66) (hT).s (hT).p_list fok_11_12 wl_RX11_75 dX11_best_63 rfl ?_
      refine tj_getR (q := 69) ((hT).o_list).s ((hT).o_list).p_thing fok_9_1 wl_RX11_239 dX11_best_66 rfl ?_
      refine tj_iload_n (q := 70) dX11_best_69 rfl (i := 2) rfl (pl := 0) rfl ?_
      refine tj_iaload (q := 71) ((hT).o_list).s_thing dX11_best_70 rfl ?_
      refine tj_topI (fun v7 => ?_)
      refine tj_callV (q := 74) (kj_V (As := [.int v7]) (rest := []) (t := t) wi_RX11_236 (hT).s rfl (rX11_lay t tw dr v7 (hT)) rfl (Nat.le_of_ble_eq_true rfl) ⟨Nat.le_of_ble_eq_true rfl, Nat.le_of_ble_eq_true rfl⟩ (Nat.le_of_ble_eq_true rfl) dX11_best_71) rfl (fun σ8 => ?_)
      refine tj_aload_n (q := 75) dX11_best_74 rfl (i := 0) rfl (pl := 1) rfl ?_
      refine tj_aload_n (q := 76) dX11_best_75 rfl (i := 0) rfl (pl := 1) rfl ?_
      refine tj_getR (q := 79) (hT).s (hT).p_list fok_11_12 wl_RX11_75 dX11_best_76 rfl ?_
      refine tj_getR (q := 82) ((hT).o_list).s ((hT).o_list).p_left fok_9_2 wl_RX11_242 dX11_best_79 rfl ?_
      refine tj_iload_n (q := 83) dX11_best_82 rfl (i := 2) rfl (pl := 0) rfl ?_
      refine tj_iaload (q := 84) ((hT).o_list).s_left dX11_best_83 rfl ?_
      refine tj_topI (fun v9 => ?_)
      refine tj_callV (q := 87) (kj_V (As := [.int v9]) (rest := []) (t := t) wi_RX11_236 (hT).s rfl (rX11_lay t tw dr v9 (hT)) rfl (Nat.le_of_ble_eq_true rfl) ⟨Nat.le_of_ble_eq_true rfl, Nat.le_of_ble_eq_true rfl⟩ (Nat.le_of_ble_eq_true rfl) dX11_best_84) rfl (fun σ10 => ?_)
      refine tj_aload_n (q := 88) dX11_best_87 rfl (i := 0) rfl (pl := 1) rfl ?_
      refine tj_getR (q := 91) (hT).s (hT).p_list fok_11_12 wl_RX11_75 dX11_best_88 rfl ?_
      refine tj_getR (q := 94) ((hT).o_list).s ((hT).o_list).p_gain fok_9_3 wl_RX11_245 dX11_best_91 rfl ?_
      refine tj_iload_n (q := 95) dX11_best_94 rfl (i := 2) rfl (pl := 0) rfl ?_
      refine tj_iaload (q := 96) ((hT).o_list).s_gain dX11_best_95 rfl ?_
      refine tj_topI (fun v11 => ?_)
      exact tj_iret rfl rfl (Nat.le_of_ble_eq_true rfl) (Nat.le_of_ble_eq_true rfl) dX11_best_96
  · refine tj_ldc (q := 15) (v := (-1000000)) dX11_best_13 rfl wc_RX11_228 ?_
    exact tj_iret rfl rfl (Nat.le_of_ble_eq_true rfl) (Nat.le_of_ble_eq_true rfl) dX11_best_15

theorem dX11_tour_0 : decode cX11_tour 0 = .ok (.aload_n 0, 1) := by decide +kernel
theorem dX11_tour_1 : decode cX11_tour 1 = .ok (.iconst 0, 1) := by decide +kernel
theorem dX11_tour_2 : decode cX11_tour 2 = .ok (.putfield 59, 3) := by decide +kernel
theorem dX11_tour_5 : decode cX11_tour 5 = .ok (.aload_n 0, 1) := by decide +kernel
theorem dX11_tour_6 : decode cX11_tour 6 = .ok (.iload_n 1, 1) := by decide +kernel
theorem dX11_tour_7 : decode cX11_tour 7 = .ok (.invokevirtual 162, 3) := by decide +kernel
theorem dX11_tour_10 : decode cX11_tour 10 = .ok (.ifCond .eq 11, 3) := by decide +kernel
theorem dX11_tour_13 : decode cX11_tour 13 = .ok (.aload_n 0, 1) := by decide +kernel
theorem dX11_tour_14 : decode cX11_tour 14 = .ok (.iload_n 2, 1) := by decide +kernel
theorem dX11_tour_15 : decode cX11_tour 15 = .ok (.invokevirtual 131, 3) := by decide +kernel
theorem dX11_tour_18 : decode cX11_tour 18 = .ok (.ifCond .ne 5, 3) := by decide +kernel
theorem dX11_tour_21 : decode cX11_tour 21 = .ok (.iconst (-1), 1) := by decide +kernel
theorem dX11_tour_22 : decode cX11_tour 22 = .ok (.ireturn, 1) := by decide +kernel
theorem dX11_tour_23 : decode cX11_tour 23 = .ok (.aload_n 0, 1) := by decide +kernel
theorem dX11_tour_24 : decode cX11_tour 24 = .ok (.getfield 89, 3) := by decide +kernel
theorem dX11_tour_27 : decode cX11_tour 27 = .ok (.aload_n 0, 1) := by decide +kernel
theorem dX11_tour_28 : decode cX11_tour 28 = .ok (.getfield 26, 3) := by decide +kernel
theorem dX11_tour_31 : decode cX11_tour 31 = .ok (.aload_n 0, 1) := by decide +kernel
theorem dX11_tour_32 : decode cX11_tour 32 = .ok (.getfield 36, 3) := by decide +kernel
theorem dX11_tour_35 : decode cX11_tour 35 = .ok (.iload_n 1, 1) := by decide +kernel
theorem dX11_tour_36 : decode cX11_tour 36 = .ok (.iload_n 2, 1) := by decide +kernel
theorem dX11_tour_37 : decode cX11_tour 37 = .ok (.invokevirtual 248, 3) := by decide +kernel
theorem dX11_tour_40 : decode cX11_tour 40 = .ok (.istore_n 3, 1) := by decide +kernel
theorem dX11_tour_41 : decode cX11_tour 41 = .ok (.iload_n 3, 1) := by decide +kernel
theorem dX11_tour_42 : decode cX11_tour 42 = .ok (.ifCond .le 19, 3) := by decide +kernel
theorem dX11_tour_45 : decode cX11_tour 45 = .ok (.aload_n 0, 1) := by decide +kernel
theorem dX11_tour_46 : decode cX11_tour 46 = .ok (.aload_n 0, 1) := by decide +kernel
theorem dX11_tour_47 : decode cX11_tour 47 = .ok (.getfield 89, 3) := by decide +kernel
theorem dX11_tour_50 : decode cX11_tour 50 = .ok (.iload_n 3, 1) := by decide +kernel
theorem dX11_tour_51 : decode cX11_tour 51 = .ok (.aload_n 0, 1) := by decide +kernel
theorem dX11_tour_52 : decode cX11_tour 52 = .ok (.getfield 55, 3) := by decide +kernel
theorem dX11_tour_55 : decode cX11_tour 55 = .ok (.invokevirtual 252, 3) := by decide +kernel
theorem dX11_tour_58 : decode cX11_tour 58 = .ok (.putfield 59, 3) := by decide +kernel
theorem dX11_tour_61 : decode cX11_tour 61 = .ok (.iload_n 3, 1) := by decide +kernel
theorem dX11_tour_62 : decode cX11_tour 62 = .ok (.ireturn, 1) := by decide +kernel
theorem wl_RX11_89 : Cond.fieldLink RX11 89 (TX11 14).1 (TX11 14).2.1 (TX11 14).2.2.1 ∈ TB := tbm 627 (by decide +kernel) (by decide +kernel)
theorem wm_X7_run : Cond.instanceMethod yX7_run ∈ TB ∧ Cond.selects yX7_run.cls yX7_run yX7_run ∈ TB ∧ Cond.initialized yX7_run.cls ∈ TB ∧ Cond.code yX7_run cX7_run 7 (some .int) ∈ TB ∧ (yX7_run.cls ≠ "java/lang/invoke/MethodHandle" ∧ yX7_run.cls ≠ "java/lang/invoke/VarHandle" ∧ (parseMethodDescriptor yX7_run.desc).map (fun d => d.parameters.length) = some 4) ∧ 7 ≤ 21 := ⟨tbm 1208 (by decide +kernel) (by decide +kernel), tbm 1209 (by decide +kernel) (by decide +kernel), tbm 145 (by decide +kernel) (by decide +kernel), tbm 1210 (by decide +kernel) (by decide +kernel), by decide +kernel, by decide⟩
theorem wi_RX11_248 : Iv RX11 248 yX7_run cX7_run 7 (some .int) 4 := ⟨tbm 1207 (by decide +kernel) (by decide +kernel), wm_X7_run⟩
theorem wm_X7_layPath : Cond.instanceMethod yX7_layPath ∈ TB ∧ Cond.selects yX7_layPath.cls yX7_layPath yX7_layPath ∈ TB ∧ Cond.initialized yX7_layPath.cls ∈ TB ∧ Cond.code yX7_layPath cX7_layPath 6 (some .int) ∈ TB ∧ (yX7_layPath.cls ≠ "java/lang/invoke/MethodHandle" ∧ yX7_layPath.cls ≠ "java/lang/invoke/VarHandle" ∧ (parseMethodDescriptor yX7_layPath.desc).map (fun d => d.parameters.length) = some 2) ∧ 6 ≤ 21 := ⟨tbm 1239 (by decide +kernel) (by decide +kernel), tbm 1240 (by decide +kernel) (by decide +kernel), tbm 145 (by decide +kernel) (by decide +kernel), tbm 1241 (by decide +kernel) (by decide +kernel), by decide +kernel, by decide⟩
theorem wi_RX11_252 : Iv RX11 252 yX7_layPath cX7_layPath 6 (some .int) 2 := ⟨tbm 1238 (by decide +kernel) (by decide +kernel), wm_X7_layPath⟩
def mX11_tour (t : Nat) (tw : Nat) (dr : Nat) (p1 : Int32) (p2 : Int32) (σ : St_) : Option (Int32 × St_) :=
 (bnd (sI σ t 9 (0 : Int32)) fun σ1 =>
 ((mX11_isThief t tw dr p1 σ1).bind fun r2 =>
 (if r2 = true then
 ((mX11_isThing t tw dr p2 σ1).bind fun r3 =>
 (if r3 = true then
 ((mX7_run (t + 205) tw (t + 44) p1 p2 σ1).bind fun r4 =>
 (if r4.1 ≤ 0 then
 (some (r4.1, r4.2))
 else ((mX7_layPath (t + 205) r4.1 (t + 173) 30 r4.2).bind fun r5 =>
 (bnd (sI r5.2 t 9 r5.1) fun σ6 =>
 (some (r4.1, σ6))))))
 else (some ((-1 : Int32), σ1))))
 else (some ((-1 : Int32), σ1)))))
set_option maxHeartbeats 4000000 in
theorem rX11_tour (t : Nat) (tw : Nat) (dr : Nat) (p1 : Int32) (p2 : Int32) (hT : LY11 sh P t tw dr) : Rj l D cA h0 ad yX11_tour cX11_tour 4 (some .int) false 9 0 0 (fun b => (some (.int b.1), sh, P, b.2)) [.ref (h0 + t), .int p1, .int p2] sh P σ (mX11_tour t tw dr p1 p2 σ) := by
  rw [mX11_tour]
  refine Rj.of (by decide) (fun h => by cases h) (Nat.le_of_ble_eq_true rfl) ?_
  refine tj_lv0 (lv' := [(0, .ref (h0 + t)), (1, .int p1), (2, .int p2)]) rfl ?_
  refine tj_aload_n (q := 1) dX11_tour_0 rfl (i := 0) rfl (pl := 0) rfl ?_
  refine tj_iconst (q := 2) (v := 0) dX11_tour_1 rfl (by decide) ?_
  refine tj_putI (q := 5) (hT).s fok_11_9 tok_11 fpk_11_9 wl_RX11_59 dX11_tour_2 rfl (fun σ1 => ?_)
  refine tj_aload_n (q := 6) dX11_tour_5 rfl (i := 0) rfl (pl := 0) rfl ?_
  refine tj_iload_n (q := 7) dX11_tour_6 rfl (i := 1) rfl (pl := 1) rfl ?_
  refine tj_callZp (q := 10) (kj_V (As := [.int p1]) (rest := []) (t := t) wi_RX11_162 (hT).s rfl (rX11_isThief t tw dr p1 (hT)) rfl (Nat.le_of_ble_eq_true rfl) ⟨Nat.le_of_ble_eq_true rfl, Nat.le_of_ble_eq_true rfl⟩ (Nat.le_of_ble_eq_true rfl) dX11_tour_7) rfl (fun r2 => ?_)
  refine tj_bz (tgt := 21) (q := 13) dX11_tour_10 (by decide) rfl ?_ ?_
  · refine tj_aload_n (q := 14) dX11_tour_13 rfl (i := 0) rfl (pl := 0) rfl ?_
    refine tj_iload_n (q := 15) dX11_tour_14 rfl (i := 2) rfl (pl := 2) rfl ?_
    refine tj_callZp (q := 18) (kj_V (As := [.int p2]) (rest := []) (t := t) wi_RX11_131 (hT).s rfl (rX11_isThing t tw dr p2 (hT)) rfl (Nat.le_of_ble_eq_true rfl) ⟨Nat.le_of_ble_eq_true rfl, Nat.le_of_ble_eq_true rfl⟩ (Nat.le_of_ble_eq_true rfl) dX11_tour_15) rfl (fun r3 => ?_)
    refine tj_bnz (tgt := 23) (q := 21) dX11_tour_18 (by decide) rfl ?_ ?_
    · refine tj_aload_n (q := 24) dX11_tour_23 rfl (i := 0) rfl (pl := 0) rfl ?_
      refine tj_getR (q := 27) (hT).s (hT).p_search fok_11_14 wl_RX11_89 dX11_tour_24 rfl ?_
      refine tj_aload_n (q := 28) dX11_tour_27 rfl (i := 0) rfl (pl := 0) rfl ?_
      refine tj_getR (q := 31) (hT).s (hT).p_town fok_11_2 wl_RX11_26 dX11_tour_28 rfl ?_
      refine tj_aload_n (q := 32) dX11_tour_31 rfl (i := 0) rfl (pl := 0) rfl ?_
      refine tj_getR (q := 35) (hT).s (hT).p_now fok_11_4 wl_RX11_36 dX11_tour_32 rfl ?_
      refine tj_iload_n (q := 36) dX11_tour_35 rfl (i := 1) rfl (pl := 1) rfl ?_
      refine tj_iload_n (q := 37) dX11_tour_36 rfl (i := 2) rfl (pl := 2) rfl ?_
      refine tj_callI (q := 40) (kj_V (As := [.ref (h0 + tw), .ref (h0 + (t + 44)), .int p1, .int p2]) (rest := []) (t := (t + 205)) wi_RX11_248 ((hT).o_search).s rfl (rX7_run (t + 205) tw (t + 44) p1 p2 ((hT).o_search) ((hT).o_town) ((hT).o_now)) rfl (Nat.le_of_ble_eq_true rfl) ⟨Nat.le_of_ble_eq_true rfl, Nat.le_of_ble_eq_true rfl⟩ (Nat.le_of_ble_eq_true rfl) dX11_tour_37) rfl (fun r4 => ?_)
      refine tj_istore_n (q := 41) dX11_tour_40 rfl (i := 3) rfl (by decide) rfl ?_
      refine tj_iload_n (q := 42) dX11_tour_41 rfl (i := 3) rfl (pl := 0) rfl ?_
      refine tj_if_le (tgt := 61) (q := 45) dX11_tour_42 (by decide) rfl ?_ ?_
      · refine tj_iload_n (q := 62) dX11_tour_61 rfl (i := 3) rfl (pl := 0) rfl ?_
        exact tj_iret rfl rfl (Nat.le_of_ble_eq_true rfl) (Nat.le_of_ble_eq_true rfl) dX11_tour_62
      · refine tj_aload_n (q := 46) dX11_tour_45 rfl (i := 0) rfl (pl := 1) rfl ?_
        refine tj_aload_n (q := 47) dX11_tour_46 rfl (i := 0) rfl (pl := 1) rfl ?_
        refine tj_getR (q := 50) (hT).s (hT).p_search fok_11_14 wl_RX11_89 dX11_tour_47 rfl ?_
        refine tj_iload_n (q := 51) dX11_tour_50 rfl (i := 3) rfl (pl := 0) rfl ?_
        refine tj_aload_n (q := 52) dX11_tour_51 rfl (i := 0) rfl (pl := 1) rfl ?_
        refine tj_getR (q := 55) (hT).s (hT).p_laid fok_11_8 wl_RX11_55 dX11_tour_52 rfl ?_
        refine tj_callI (q := 58) (kj_V (As := [.int r4.1, .ref (h0 + (t + 173))]) (rest := [.ref (h0 + t)]) (t := (t + 205)) wi_RX11_252 ((hT).o_search).s rfl (rX7_layPath (t + 205) r4.1 (t + 173) 30 ((hT).o_search) ((hT).s_laid)) rfl (Nat.le_of_ble_eq_true rfl) ⟨Nat.le_of_ble_eq_true rfl, Nat.le_of_ble_eq_true rfl⟩ (Nat.le_of_ble_eq_true rfl) dX11_tour_55) rfl (fun r5 => ?_)
        refine tj_putI (q := 61) (hT).s fok_11_9 tok_11 fpk_11_9 wl_RX11_59 dX11_tour_58 rfl (fun σ6 => ?_)
        refine tj_iload_n (q := 62) dX11_tour_61 rfl (i := 3) rfl (pl := 0) rfl ?_
        exact tj_iret rfl rfl (Nat.le_of_ble_eq_true rfl) (Nat.le_of_ble_eq_true rfl) dX11_tour_62
    · refine tj_iconst (q := 22) (v := (-1)) dX11_tour_21 rfl (by decide) ?_
      exact tj_iret rfl rfl (Nat.le_of_ble_eq_true rfl) (Nat.le_of_ble_eq_true rfl) dX11_tour_22
  · refine tj_iconst (q := 22) (v := (-1)) dX11_tour_21 rfl (by decide) ?_
    exact tj_iret rfl rfl (Nat.le_of_ble_eq_true rfl) (Nat.le_of_ble_eq_true rfl) dX11_tour_22

theorem dX11_drift_0 : decode cX11_drift 0 = .ok (.aload_n 0, 1) := by decide +kernel
theorem dX11_drift_1 : decode cX11_drift 1 = .ok (.iload_n 1, 1) := by decide +kernel
theorem dX11_drift_2 : decode cX11_drift 2 = .ok (.invokevirtual 131, 3) := by decide +kernel
theorem dX11_drift_5 : decode cX11_drift 5 = .ok (.ifCond .eq 13, 3) := by decide +kernel
theorem dX11_drift_8 : decode cX11_drift 8 = .ok (.iload_n 2, 1) := by decide +kernel
theorem dX11_drift_9 : decode cX11_drift 9 = .ok (.ifCond .lt 9, 3) := by decide +kernel
theorem dX11_drift_12 : decode cX11_drift 12 = .ok (.iload_n 2, 1) := by decide +kernel
theorem dX11_drift_13 : decode cX11_drift 13 = .ok (.bipush 60, 2) := by decide +kernel
theorem dX11_drift_15 : decode cX11_drift 15 = .ok (.if_icmp .le 6, 3) := by decide +kernel
theorem dX11_drift_18 : decode cX11_drift 18 = .ok (.bipush (-2), 2) := by decide +kernel
theorem dX11_drift_20 : decode cX11_drift 20 = .ok (.ireturn, 1) := by decide +kernel
theorem dX11_drift_21 : decode cX11_drift 21 = .ok (.aload_n 0, 1) := by decide +kernel
theorem dX11_drift_22 : decode cX11_drift 22 = .ok (.getfield 82, 3) := by decide +kernel
theorem dX11_drift_25 : decode cX11_drift 25 = .ok (.aload_n 0, 1) := by decide +kernel
theorem dX11_drift_26 : decode cX11_drift 26 = .ok (.getfield 26, 3) := by decide +kernel
theorem dX11_drift_29 : decode cX11_drift 29 = .ok (.aload_n 0, 1) := by decide +kernel
theorem dX11_drift_30 : decode cX11_drift 30 = .ok (.getfield 36, 3) := by decide +kernel
theorem dX11_drift_33 : decode cX11_drift 33 = .ok (.iload_n 2, 1) := by decide +kernel
theorem dX11_drift_34 : decode cX11_drift 34 = .ok (.bipush 61, 2) := by decide +kernel
theorem dX11_drift_36 : decode cX11_drift 36 = .ok (.invokevirtual 256, 3) := by decide +kernel
theorem dX11_drift_39 : decode cX11_drift 39 = .ok (.pop, 1) := by decide +kernel
theorem dX11_drift_40 : decode cX11_drift 40 = .ok (.aload_n 0, 1) := by decide +kernel
theorem dX11_drift_41 : decode cX11_drift 41 = .ok (.getfield 82, 3) := by decide +kernel
theorem dX11_drift_44 : decode cX11_drift 44 = .ok (.getfield 257, 3) := by decide +kernel
theorem dX11_drift_47 : decode cX11_drift 47 = .ok (.iload_n 1, 1) := by decide +kernel
theorem dX11_drift_48 : decode cX11_drift 48 = .ok (.invokevirtual 135, 3) := by decide +kernel
theorem dX11_drift_51 : decode cX11_drift 51 = .ok (.istore_n 3, 1) := by decide +kernel
theorem dX11_drift_52 : decode cX11_drift 52 = .ok (.iload_n 3, 1) := by decide +kernel
theorem dX11_drift_53 : decode cX11_drift 53 = .ok (.iconst 5, 1) := by decide +kernel
theorem dX11_drift_54 : decode cX11_drift 54 = .ok (.if_icmp .ge 7, 3) := by decide +kernel
theorem dX11_drift_57 : decode cX11_drift 57 = .ok (.iload_n 3, 1) := by decide +kernel
theorem dX11_drift_58 : decode cX11_drift 58 = .ok (.goto 9, 3) := by decide +kernel
theorem dX11_drift_61 : decode cX11_drift 61 = .ok (.iload_n 3, 1) := by decide +kernel
theorem dX11_drift_62 : decode cX11_drift 62 = .ok (.iconst 5, 1) := by decide +kernel
theorem dX11_drift_63 : decode cX11_drift 63 = .ok (.isub, 1) := by decide +kernel
theorem dX11_drift_64 : decode cX11_drift 64 = .ok (.bipush 10, 2) := by decide +kernel
theorem dX11_drift_66 : decode cX11_drift 66 = .ok (.iadd, 1) := by decide +kernel
theorem dX11_drift_67 : decode cX11_drift 67 = .ok (.ireturn, 1) := by decide +kernel
theorem wl_RX11_82 : Cond.fieldLink RX11 82 (TX11 13).1 (TX11 13).2.1 (TX11 13).2.2.1 ∈ TB := tbm 626 (by decide +kernel) (by decide +kernel)
theorem wi_RX11_256 : Iv RX11 256 yX6_run cX6_run 9 (some .int) 4 := ⟨tbm 1253 (by decide +kernel) (by decide +kernel), wm_X6_run⟩
theorem wl_RX11_257 : Cond.fieldLink RX11 257 (TX6 1).1 (TX6 1).2.1 (TX6 1).2.2.1 ∈ TB := tbm 557 (by decide +kernel) (by decide +kernel)
def mX11_drift (t : Nat) (tw : Nat) (dr : Nat) (p1 : Int32) (p2 : Int32) (σ : St_) : Option (Int32 × St_) :=
 ((mX11_isThing t tw dr p1 σ).bind fun r1 =>
 (if r1 = true then
 (if p2 < 0 then
 (some ((-2 : Int32), σ))
 else (if p2 ≤ (60 : Int32) then
 ((mX6_run (t + 192) tw (t + 44) p2 (61 : Int32) σ).bind fun r2 =>
 ((mX8_holderOf (t + 192 + 10) p1 r2.2).bind fun r3 =>
 (if (5 : Int32) ≤ r3 then
 (some (((r3 - (5 : Int32)) + (10 : Int32)), r2.2))
 else (some (r3, r2.2)))))
 else (some ((-2 : Int32), σ))))
 else (some ((-2 : Int32), σ))))
set_option maxHeartbeats 4000000 in
theorem rX11_drift (t : Nat) (tw : Nat) (dr : Nat) (p1 : Int32) (p2 : Int32) (hT : LY11 sh P t tw dr) : Rj l D cA h0 ad yX11_drift cX11_drift 4 (some .int) false 8 0 0 (fun b => (some (.int b.1), sh, P, b.2)) [.ref (h0 + t), .int p1, .int p2] sh P σ (mX11_drift t tw dr p1 p2 σ) := by
  rw [mX11_drift]
  refine Rj.of (by decide) (fun h => by cases h) (Nat.le_of_ble_eq_true rfl) ?_
  refine tj_lv0 (lv' := [(0, .ref (h0 + t)), (1, .int p1), (2, .int p2)]) rfl ?_
  refine tj_aload_n (q := 1) dX11_drift_0 rfl (i := 0) rfl (pl := 0) rfl ?_
  refine tj_iload_n (q := 2) dX11_drift_1 rfl (i := 1) rfl (pl := 1) rfl ?_
  refine tj_callZp (q := 5) (kj_V (As := [.int p1]) (rest := []) (t := t) wi_RX11_131 (hT).s rfl (rX11_isThing t tw dr p1 (hT)) rfl (Nat.le_of_ble_eq_true rfl) ⟨Nat.le_of_ble_eq_true rfl, Nat.le_of_ble_eq_true rfl⟩ (Nat.le_of_ble_eq_true rfl) dX11_drift_2) rfl (fun r1 => ?_)
  refine tj_bz (tgt := 18) (q := 8) dX11_drift_5 (by decide) rfl ?_ ?_
  · refine tj_iload_n (q := 9) dX11_drift_8 rfl (i := 2) rfl (pl := 2) rfl ?_
    refine tj_if_lt (tgt := 18) (q := 12) dX11_drift_9 (by decide) rfl ?_ ?_
    · refine tj_bipush (q := 20) (v := (-2)) dX11_drift_18 rfl (by decide) ?_
      exact tj_iret rfl rfl (Nat.le_of_ble_eq_true rfl) (Nat.le_of_ble_eq_true rfl) dX11_drift_20
    · refine tj_iload_n (q := 13) dX11_drift_12 rfl (i := 2) rfl (pl := 2) rfl ?_
      refine tj_bipush (q := 15) (v := 60) dX11_drift_13 rfl (by decide) ?_
      refine tj_icmp_le (tgt := 21) (q := 18) dX11_drift_15 (by decide) rfl ?_ ?_
      · refine tj_aload_n (q := 22) dX11_drift_21 rfl (i := 0) rfl (pl := 0) rfl ?_
        refine tj_getR (q := 25) (hT).s (hT).p_rounds fok_11_13 wl_RX11_82 dX11_drift_22 rfl ?_
        refine tj_aload_n (q := 26) dX11_drift_25 rfl (i := 0) rfl (pl := 0) rfl ?_
        refine tj_getR (q := 29) (hT).s (hT).p_town fok_11_2 wl_RX11_26 dX11_drift_26 rfl ?_
        refine tj_aload_n (q := 30) dX11_drift_29 rfl (i := 0) rfl (pl := 0) rfl ?_
        refine tj_getR (q := 33) (hT).s (hT).p_now fok_11_4 wl_RX11_36 dX11_drift_30 rfl ?_
        refine tj_iload_n (q := 34) dX11_drift_33 rfl (i := 2) rfl (pl := 2) rfl ?_
        refine tj_bipush (q := 36) (v := 61) dX11_drift_34 rfl (by decide) ?_
        refine tj_callI (q := 39) (kj_V (As := [.ref (h0 + tw), .ref (h0 + (t + 44)), .int p2, .int (61 : Int32)]) (rest := []) (t := (t + 192)) wi_RX11_256 ((hT).o_rounds).s rfl (rX6_run (t + 192) tw (t + 44) p2 (61 : Int32) ((hT).o_rounds) ((hT).o_town) ((hT).o_now)) rfl (Nat.le_of_ble_eq_true rfl) ⟨Nat.le_of_ble_eq_true rfl, Nat.le_of_ble_eq_true rfl⟩ (Nat.le_of_ble_eq_true rfl) dX11_drift_36) rfl (fun r2 => ?_)
        refine tj_pop (q := 40) dX11_drift_39 rfl rfl ?_
        refine tj_aload_n (q := 41) dX11_drift_40 rfl (i := 0) rfl (pl := 0) rfl ?_
        refine tj_getR (q := 44) (hT).s (hT).p_rounds fok_11_13 wl_RX11_82 dX11_drift_41 rfl ?_
        refine tj_getR (q := 47) ((hT).o_rounds).s ((hT).o_rounds).p_scene fok_6_1 wl_RX11_257 dX11_drift_44 rfl ?_
        refine tj_iload_n (q := 48) dX11_drift_47 rfl (i := 1) rfl (pl := 1) rfl ?_
        refine tj_callIp (q := 51) (kj_V (As := [.int p1]) (rest := []) (t := (t + 192 + 10)) wi_RX11_135 (((hT).o_rounds).o_scene).s rfl (rX8_holderOf (t + 192 + 10) p1 (((hT).o_rounds).o_scene)) rfl (Nat.le_of_ble_eq_true rfl) ⟨Nat.le_of_ble_eq_true rfl, Nat.le_of_ble_eq_true rfl⟩ (Nat.le_of_ble_eq_true rfl) dX11_drift_48) rfl (fun r3 => ?_)
        refine tj_istore_n (q := 52) dX11_drift_51 rfl (i := 3) rfl (by decide) rfl ?_
        refine tj_iload_n (q := 53) dX11_drift_52 rfl (i := 3) rfl (pl := 0) rfl ?_
        refine tj_iconst (q := 54) (v := 5) dX11_drift_53 rfl (by decide) ?_
        refine tj_icmp_ge (tgt := 61) (q := 57) dX11_drift_54 (by decide) rfl ?_ ?_
        · refine tj_iload_n (q := 62) dX11_drift_61 rfl (i := 3) rfl (pl := 0) rfl ?_
          refine tj_iconst (q := 63) (v := 5) dX11_drift_62 rfl (by decide) ?_
          refine tj_isub (q := 64) dX11_drift_63 rfl ?_
          refine tj_bipush (q := 66) (v := 10) dX11_drift_64 rfl (by decide) ?_
          refine tj_iadd (q := 67) dX11_drift_66 rfl ?_
          exact tj_iret rfl rfl (Nat.le_of_ble_eq_true rfl) (Nat.le_of_ble_eq_true rfl) dX11_drift_67
        · refine tj_iload_n (q := 58) dX11_drift_57 rfl (i := 3) rfl (pl := 0) rfl ?_
          refine tj_goto (q := 67) dX11_drift_58 (by decide) ?_
          exact tj_iret rfl rfl (Nat.le_of_ble_eq_true rfl) (Nat.le_of_ble_eq_true rfl) dX11_drift_67
      · refine tj_bipush (q := 20) (v := (-2)) dX11_drift_18 rfl (by decide) ?_
        exact tj_iret rfl rfl (Nat.le_of_ble_eq_true rfl) (Nat.le_of_ble_eq_true rfl) dX11_drift_20
  · refine tj_bipush (q := 20) (v := (-2)) dX11_drift_18 rfl (by decide) ?_
    exact tj_iret rfl rfl (Nat.le_of_ble_eq_true rfl) (Nat.le_of_ble_eq_true rfl) dX11_drift_20

theorem dX11_sums_0 : decode cX11_sums 0 = .ok (.aload_n 0, 1) := by decide +kernel
theorem dX11_sums_1 : decode cX11_sums 1 = .ok (.iload_n 1, 1) := by decide +kernel
theorem dX11_sums_2 : decode cX11_sums 2 = .ok (.iload_n 2, 1) := by decide +kernel
theorem dX11_sums_3 : decode cX11_sums 3 = .ok (.invokevirtual 148, 3) := by decide +kernel
theorem dX11_sums_6 : decode cX11_sums 6 = .ok (.istore 4, 2) := by decide +kernel
theorem dX11_sums_8 : decode cX11_sums 8 = .ok (.iload 4, 2) := by decide +kernel
theorem dX11_sums_10 : decode cX11_sums 10 = .ok (.iconst (-1), 1) := by decide +kernel
theorem dX11_sums_11 : decode cX11_sums 11 = .ok (.if_icmp .eq 13, 3) := by decide +kernel
theorem dX11_sums_14 : decode cX11_sums 14 = .ok (.iload_n 3, 1) := by decide +kernel
theorem dX11_sums_15 : decode cX11_sums 15 = .ok (.ifCond .lt 9, 3) := by decide +kernel
theorem dX11_sums_18 : decode cX11_sums 18 = .ok (.iload_n 3, 1) := by decide +kernel
theorem dX11_sums_19 : decode cX11_sums 19 = .ok (.bipush 60, 2) := by decide +kernel
theorem dX11_sums_21 : decode cX11_sums 21 = .ok (.if_icmp .le 5, 3) := by decide +kernel
theorem dX11_sums_24 : decode cX11_sums 24 = .ok (.iconst (-1), 1) := by decide +kernel
theorem dX11_sums_25 : decode cX11_sums 25 = .ok (.ireturn, 1) := by decide +kernel
theorem dX11_sums_26 : decode cX11_sums 26 = .ok (.aload_n 0, 1) := by decide +kernel
theorem dX11_sums_27 : decode cX11_sums 27 = .ok (.getfield 82, 3) := by decide +kernel
theorem dX11_sums_30 : decode cX11_sums 30 = .ok (.aload_n 0, 1) := by decide +kernel
theorem dX11_sums_31 : decode cX11_sums 31 = .ok (.getfield 26, 3) := by decide +kernel
theorem dX11_sums_34 : decode cX11_sums 34 = .ok (.aload_n 0, 1) := by decide +kernel
theorem dX11_sums_35 : decode cX11_sums 35 = .ok (.getfield 36, 3) := by decide +kernel
theorem dX11_sums_38 : decode cX11_sums 38 = .ok (.iload_n 3, 1) := by decide +kernel
theorem dX11_sums_39 : decode cX11_sums 39 = .ok (.bipush 61, 2) := by decide +kernel
theorem dX11_sums_41 : decode cX11_sums 41 = .ok (.invokevirtual 256, 3) := by decide +kernel
theorem dX11_sums_44 : decode cX11_sums 44 = .ok (.pop, 1) := by decide +kernel
theorem dX11_sums_45 : decode cX11_sums 45 = .ok (.aload_n 0, 1) := by decide +kernel
theorem dX11_sums_46 : decode cX11_sums 46 = .ok (.getfield 26, 3) := by decide +kernel
theorem dX11_sums_49 : decode cX11_sums 49 = .ok (.iload 4, 2) := by decide +kernel
theorem dX11_sums_51 : decode cX11_sums 51 = .ok (.aload_n 0, 1) := by decide +kernel
theorem dX11_sums_52 : decode cX11_sums 52 = .ok (.getfield 82, 3) := by decide +kernel
theorem dX11_sums_55 : decode cX11_sums 55 = .ok (.getfield 257, 3) := by decide +kernel
theorem dX11_sums_58 : decode cX11_sums 58 = .ok (.getfield 156, 3) := by decide +kernel
theorem dX11_sums_61 : decode cX11_sums 61 = .ok (.iload 4, 2) := by decide +kernel
theorem dX11_sums_63 : decode cX11_sums 63 = .ok (.iaload, 1) := by decide +kernel
theorem dX11_sums_64 : decode cX11_sums 64 = .ok (.invokevirtual 159, 3) := by decide +kernel
theorem dX11_sums_67 : decode cX11_sums 67 = .ok (.ireturn, 1) := by decide +kernel
def mX11_sums (t : Nat) (tw : Nat) (dr : Nat) (p1 : Int32) (p2 : Bool) (p3 : Int32) (σ : St_) : Option (Int32 × St_) :=
 ((mX11_holderIndex t tw dr p1 p2 σ).bind fun r1 =>
 (if r1 = (-1 : Int32) then
 (some ((-1 : Int32), σ))
 else (if p3 < 0 then
 (some ((-1 : Int32), σ))
 else (if p3 ≤ (60 : Int32) then
 ((mX6_run (t + 192) tw (t + 44) p3 (61 : Int32) σ).bind fun r2 =>
 (if bin r1 9 = true then bnd (r2.2.1 (t + 192 + 10 + 1) r1.toNatClampNeg) fun v3 =>
 ((mX1_valueOfSet tw r1 v3 r2.2).bind fun r4 =>
 (some (r4, r2.2)))
 else none))
 else (some ((-1 : Int32), σ))))))
set_option maxHeartbeats 4000000 in
theorem rX11_sums (t : Nat) (tw : Nat) (dr : Nat) (p1 : Int32) (p2 : Bool) (p3 : Int32) (hT : LY11 sh P t tw dr) : Rj l D cA h0 ad yX11_sums cX11_sums 5 (some .int) false 8 0 0 (fun b => (some (.int b.1), sh, P, b.2)) [.ref (h0 + t), .int p1, .int (b2i p2), .int p3] sh P σ (mX11_sums t tw dr p1 p2 p3 σ) := by
  rw [mX11_sums]
  refine Rj.of (by decide) (fun h => by cases h) (Nat.le_of_ble_eq_true rfl) ?_
  refine tj_lv0 (lv' := [(0, .ref (h0 + t)), (1, .int p1), (2, .int (b2i p2)), (3, .int p3)]) rfl ?_
  refine tj_aload_n (q := 1) dX11_sums_0 rfl (i := 0) rfl (pl := 0) rfl ?_
  refine tj_iload_n (q := 2) dX11_sums_1 rfl (i := 1) rfl (pl := 1) rfl ?_
  refine tj_iload_n (q := 3) dX11_sums_2 rfl (i := 2) rfl (pl := 2) rfl ?_
  refine tj_callIp (q := 6) (kj_V (As := [.int p1, .int (b2i p2)]) (rest := []) (t := t) wi_RX11_148 (hT).s rfl (rX11_holderIndex t tw dr p1 p2 (hT)) rfl (Nat.le_of_ble_eq_true rfl) ⟨Nat.le_of_ble_eq_true rfl, Nat.le_of_ble_eq_true rfl⟩ (Nat.le_of_ble_eq_true rfl) dX11_sums_3) rfl (fun r1 => ?_)
  refine tj_istore (q := 8) dX11_sums_6 rfl (by decide) rfl ?_
  refine tj_iload (q := 10) dX11_sums_8 rfl (pl := 0) rfl ?_
  refine tj_iconst (q := 11) (v := (-1)) dX11_sums_10 rfl (by decide) ?_
  refine tj_icmp_eq (tgt := 24) (q := 14) dX11_sums_11 (by decide) rfl ?_ ?_
  · refine tj_iconst (q := 25) (v := (-1)) dX11_sums_24 rfl (by decide) ?_
    exact tj_iret rfl rfl (Nat.le_of_ble_eq_true rfl) (Nat.le_of_ble_eq_true rfl) dX11_sums_25
  · refine tj_iload_n (q := 15) dX11_sums_14 rfl (i := 3) rfl (pl := 4) rfl ?_
    refine tj_if_lt (tgt := 24) (q := 18) dX11_sums_15 (by decide) rfl ?_ ?_
    · refine tj_iconst (q := 25) (v := (-1)) dX11_sums_24 rfl (by decide) ?_
      exact tj_iret rfl rfl (Nat.le_of_ble_eq_true rfl) (Nat.le_of_ble_eq_true rfl) dX11_sums_25
    · refine tj_iload_n (q := 19) dX11_sums_18 rfl (i := 3) rfl (pl := 4) rfl ?_
      refine tj_bipush (q := 21) (v := 60) dX11_sums_19 rfl (by decide) ?_
      refine tj_icmp_le (tgt := 26) (q := 24) dX11_sums_21 (by decide) rfl ?_ ?_
      · refine tj_aload_n (q := 27) dX11_sums_26 rfl (i := 0) rfl (pl := 1) rfl ?_
        refine tj_getR (q := 30) (hT).s (hT).p_rounds fok_11_13 wl_RX11_82 dX11_sums_27 rfl ?_
        refine tj_aload_n (q := 31) dX11_sums_30 rfl (i := 0) rfl (pl := 1) rfl ?_
        refine tj_getR (q := 34) (hT).s (hT).p_town fok_11_2 wl_RX11_26 dX11_sums_31 rfl ?_
        refine tj_aload_n (q := 35) dX11_sums_34 rfl (i := 0) rfl (pl := 1) rfl ?_
        refine tj_getR (q := 38) (hT).s (hT).p_now fok_11_4 wl_RX11_36 dX11_sums_35 rfl ?_
        refine tj_iload_n (q := 39) dX11_sums_38 rfl (i := 3) rfl (pl := 4) rfl ?_
        refine tj_bipush (q := 41) (v := 61) dX11_sums_39 rfl (by decide) ?_
        refine tj_callI (q := 44) (kj_V (As := [.ref (h0 + tw), .ref (h0 + (t + 44)), .int p3, .int (61 : Int32)]) (rest := []) (t := (t + 192)) wi_RX11_256 ((hT).o_rounds).s rfl (rX6_run (t + 192) tw (t + 44) p3 (61 : Int32) ((hT).o_rounds) ((hT).o_town) ((hT).o_now)) rfl (Nat.le_of_ble_eq_true rfl) ⟨Nat.le_of_ble_eq_true rfl, Nat.le_of_ble_eq_true rfl⟩ (Nat.le_of_ble_eq_true rfl) dX11_sums_41) rfl (fun r2 => ?_)
        refine tj_pop (q := 45) dX11_sums_44 rfl rfl ?_
        refine tj_aload_n (q := 46) dX11_sums_45 rfl (i := 0) rfl (pl := 1) rfl ?_
        refine tj_getR (q := 49) (hT).s (hT).p_town fok_11_2 wl_RX11_26 dX11_sums_46 rfl ?_
        refine tj_iload (q := 51) dX11_sums_49 rfl (pl := 0) rfl ?_
        refine tj_aload_n (q := 52) dX11_sums_51 rfl (i := 0) rfl (pl := 1) rfl ?_
        refine tj_getR (q := 55) (hT).s (hT).p_rounds fok_11_13 wl_RX11_82 dX11_sums_52 rfl ?_
        refine tj_getR (q := 58) ((hT).o_rounds).s ((hT).o_rounds).p_scene fok_6_1 wl_RX11_257 dX11_sums_55 rfl ?_
        refine tj_getR (q := 61) (((hT).o_rounds).o_scene).s (((hT).o_rounds).o_scene).p_held fok_8_0 wl_RX11_156 dX11_sums_58 rfl ?_
        refine tj_iload (q := 63) dX11_sums_61 rfl (pl := 0) rfl ?_
        refine tj_iaload (q := 64) (((hT).o_rounds).o_scene).s_held dX11_sums_63 rfl ?_
        refine tj_topI (fun v3 => ?_)
        refine tj_callIp (q := 67) (kj_V (As := [.int r1, .int v3]) (rest := []) (t := tw) wi_RX11_159 ((hT).o_town).s rfl (rX1_valueOfSet tw r1 v3 ((hT).o_town)) rfl (Nat.le_of_ble_eq_true rfl) ⟨Nat.le_of_ble_eq_true rfl, Nat.le_of_ble_eq_true rfl⟩ (Nat.le_of_ble_eq_true rfl) dX11_sums_64) rfl (fun r4 => ?_)
        exact tj_iret rfl rfl (Nat.le_of_ble_eq_true rfl) (Nat.le_of_ble_eq_true rfl) dX11_sums_67
      · refine tj_iconst (q := 25) (v := (-1)) dX11_sums_24 rfl (by decide) ?_
        exact tj_iret rfl rfl (Nat.le_of_ble_eq_true rfl) (Nat.le_of_ble_eq_true rfl) dX11_sums_25

theorem dX11_rests_0 : decode cX11_rests 0 = .ok (.aload_n 0, 1) := by decide +kernel
theorem dX11_rests_1 : decode cX11_rests 1 = .ok (.getfield 82, 3) := by decide +kernel
theorem dX11_rests_4 : decode cX11_rests 4 = .ok (.aload_n 0, 1) := by decide +kernel
theorem dX11_rests_5 : decode cX11_rests 5 = .ok (.getfield 26, 3) := by decide +kernel
theorem dX11_rests_8 : decode cX11_rests 8 = .ok (.aload_n 0, 1) := by decide +kernel
theorem dX11_rests_9 : decode cX11_rests 9 = .ok (.getfield 36, 3) := by decide +kernel
theorem dX11_rests_12 : decode cX11_rests 12 = .ok (.bipush 60, 2) := by decide +kernel
theorem dX11_rests_14 : decode cX11_rests 14 = .ok (.aload_n 0, 1) := by decide +kernel
theorem dX11_rests_15 : decode cX11_rests 15 = .ok (.getfield 26, 3) := by decide +kernel
theorem dX11_rests_18 : decode cX11_rests 18 = .ok (.getfield 210, 3) := by decide +kernel
theorem dX11_rests_21 : decode cX11_rests 21 = .ok (.invokevirtual 256, 3) := by decide +kernel
theorem dX11_rests_24 : decode cX11_rests 24 = .ok (.ireturn, 1) := by decide +kernel
def mX11_rests (t : Nat) (tw : Nat) (dr : Nat) (σ : St_) : Option (Int32 × St_) :=
 ((mX6_run (t + 192) tw (t + 44) (60 : Int32) (σ.1 tw 0) σ).bind fun r1 =>
 (some (r1.1, r1.2)))
set_option maxHeartbeats 4000000 in
theorem rX11_rests (t : Nat) (tw : Nat) (dr : Nat) (hT : LY11 sh P t tw dr) : Rj l D cA h0 ad yX11_rests cX11_rests 1 (some .int) false 8 0 0 (fun b => (some (.int b.1), sh, P, b.2)) [.ref (h0 + t)] sh P σ (mX11_rests t tw dr σ) := by
  rw [mX11_rests]
  refine Rj.of (by decide) (fun h => by cases h) (Nat.le_of_ble_eq_true rfl) ?_
  refine tj_lv0 (lv' := [(0, .ref (h0 + t))]) rfl ?_
  refine tj_aload_n (q := 1) dX11_rests_0 rfl (i := 0) rfl (pl := 0) rfl ?_
  refine tj_getR (q := 4) (hT).s (hT).p_rounds fok_11_13 wl_RX11_82 dX11_rests_1 rfl ?_
  refine tj_aload_n (q := 5) dX11_rests_4 rfl (i := 0) rfl (pl := 0) rfl ?_
  refine tj_getR (q := 8) (hT).s (hT).p_town fok_11_2 wl_RX11_26 dX11_rests_5 rfl ?_
  refine tj_aload_n (q := 9) dX11_rests_8 rfl (i := 0) rfl (pl := 0) rfl ?_
  refine tj_getR (q := 12) (hT).s (hT).p_now fok_11_4 wl_RX11_36 dX11_rests_9 rfl ?_
  refine tj_bipush (q := 14) (v := 60) dX11_rests_12 rfl (by decide) ?_
  refine tj_aload_n (q := 15) dX11_rests_14 rfl (i := 0) rfl (pl := 0) rfl ?_
  refine tj_getR (q := 18) (hT).s (hT).p_town fok_11_2 wl_RX11_26 dX11_rests_15 rfl ?_
  refine tj_getI (q := 21) ((hT).o_town).s fok_1_0 wl_RX11_210 dX11_rests_18 rfl ?_
  refine tj_callI (q := 24) (kj_V (As := [.ref (h0 + tw), .ref (h0 + (t + 44)), .int (60 : Int32), .int (σ.1 tw 0)]) (rest := []) (t := (t + 192)) wi_RX11_256 ((hT).o_rounds).s rfl (rX6_run (t + 192) tw (t + 44) (60 : Int32) (σ.1 tw 0) ((hT).o_rounds) ((hT).o_town) ((hT).o_now)) rfl (Nat.le_of_ble_eq_true rfl) ⟨Nat.le_of_ble_eq_true rfl, Nat.le_of_ble_eq_true rfl⟩ (Nat.le_of_ble_eq_true rfl) dX11_rests_21) rfl (fun r1 => ?_)
  exact tj_iret rfl rfl (Nat.le_of_ble_eq_true rfl) (Nat.le_of_ble_eq_true rfl) dX11_rests_24

theorem dX11_lie_0 : decode cX11_lie 0 = .ok (.aload_n 0, 1) := by decide +kernel
theorem dX11_lie_1 : decode cX11_lie 1 = .ok (.iload_n 1, 1) := by decide +kernel
theorem dX11_lie_2 : decode cX11_lie 2 = .ok (.invokevirtual 174, 3) := by decide +kernel
theorem dX11_lie_5 : decode cX11_lie 5 = .ok (.ifCond .eq 22, 3) := by decide +kernel
theorem dX11_lie_8 : decode cX11_lie 8 = .ok (.iload_n 2, 1) := by decide +kernel
theorem dX11_lie_9 : decode cX11_lie 9 = .ok (.iconst 1, 1) := by decide +kernel
theorem dX11_lie_10 : decode cX11_lie 10 = .ok (.if_icmp .lt 17, 3) := by decide +kernel
theorem dX11_lie_13 : decode cX11_lie 13 = .ok (.iload_n 2, 1) := by decide +kernel
theorem dX11_lie_14 : decode cX11_lie 14 = .ok (.iconst 4, 1) := by decide +kernel
theorem dX11_lie_15 : decode cX11_lie 15 = .ok (.if_icmp .gt 12, 3) := by decide +kernel
theorem dX11_lie_18 : decode cX11_lie 18 = .ok (.iload_n 3, 1) := by decide +kernel
theorem dX11_lie_19 : decode cX11_lie 19 = .ok (.ifCond .lt 8, 3) := by decide +kernel
theorem dX11_lie_22 : decode cX11_lie 22 = .ok (.iload_n 3, 1) := by decide +kernel
theorem dX11_lie_23 : decode cX11_lie 23 = .ok (.iconst 2, 1) := by decide +kernel
theorem dX11_lie_24 : decode cX11_lie 24 = .ok (.if_icmp .le 6, 3) := by decide +kernel
theorem dX11_lie_27 : decode cX11_lie 27 = .ok (.bipush (-2), 2) := by decide +kernel
theorem dX11_lie_29 : decode cX11_lie 29 = .ok (.ireturn, 1) := by decide +kernel
theorem dX11_lie_30 : decode cX11_lie 30 = .ok (.aload_n 0, 1) := by decide +kernel
theorem dX11_lie_31 : decode cX11_lie 31 = .ok (.getfield 82, 3) := by decide +kernel
theorem dX11_lie_34 : decode cX11_lie 34 = .ok (.aload_n 0, 1) := by decide +kernel
theorem dX11_lie_35 : decode cX11_lie 35 = .ok (.getfield 26, 3) := by decide +kernel
theorem dX11_lie_38 : decode cX11_lie 38 = .ok (.aload_n 0, 1) := by decide +kernel
theorem dX11_lie_39 : decode cX11_lie 39 = .ok (.getfield 36, 3) := by decide +kernel
theorem dX11_lie_42 : decode cX11_lie 42 = .ok (.iload_n 1, 1) := by decide +kernel
theorem dX11_lie_43 : decode cX11_lie 43 = .ok (.iload_n 2, 1) := by decide +kernel
theorem dX11_lie_44 : decode cX11_lie 44 = .ok (.invokevirtual 260, 3) := by decide +kernel
theorem dX11_lie_47 : decode cX11_lie 47 = .ok (.iload_n 3, 1) := by decide +kernel
theorem dX11_lie_48 : decode cX11_lie 48 = .ok (.ifCond .ne 11, 3) := by decide +kernel
theorem dX11_lie_51 : decode cX11_lie 51 = .ok (.aload_n 0, 1) := by decide +kernel
theorem dX11_lie_52 : decode cX11_lie 52 = .ok (.getfield 82, 3) := by decide +kernel
theorem dX11_lie_55 : decode cX11_lie 55 = .ok (.getfield 264, 3) := by decide +kernel
theorem dX11_lie_58 : decode cX11_lie 58 = .ok (.ireturn, 1) := by decide +kernel
theorem dX11_lie_59 : decode cX11_lie 59 = .ok (.iload_n 3, 1) := by decide +kernel
theorem dX11_lie_60 : decode cX11_lie 60 = .ok (.iconst 1, 1) := by decide +kernel
theorem dX11_lie_61 : decode cX11_lie 61 = .ok (.if_icmp .ne 13, 3) := by decide +kernel
theorem dX11_lie_64 : decode cX11_lie 64 = .ok (.aload_n 0, 1) := by decide +kernel
theorem dX11_lie_65 : decode cX11_lie 65 = .ok (.getfield 82, 3) := by decide +kernel
theorem dX11_lie_68 : decode cX11_lie 68 = .ok (.getfield 267, 3) := by decide +kernel
theorem dX11_lie_71 : decode cX11_lie 71 = .ok (.goto 10, 3) := by decide +kernel
theorem dX11_lie_74 : decode cX11_lie 74 = .ok (.aload_n 0, 1) := by decide +kernel
theorem dX11_lie_75 : decode cX11_lie 75 = .ok (.getfield 82, 3) := by decide +kernel
theorem dX11_lie_78 : decode cX11_lie 78 = .ok (.getfield 270, 3) := by decide +kernel
theorem dX11_lie_81 : decode cX11_lie 81 = .ok (.ireturn, 1) := by decide +kernel
theorem wm_X6_findLie : Cond.instanceMethod yX6_findLie ∈ TB ∧ Cond.selects yX6_findLie.cls yX6_findLie yX6_findLie ∈ TB ∧ Cond.initialized yX6_findLie.cls ∈ TB ∧ Cond.code yX6_findLie cX6_findLie 8 none ∈ TB ∧ (yX6_findLie.cls ≠ "java/lang/invoke/MethodHandle" ∧ yX6_findLie.cls ≠ "java/lang/invoke/VarHandle" ∧ (parseMethodDescriptor yX6_findLie.desc).map (fun d => d.parameters.length) = some 4) ∧ 8 ≤ 21 := ⟨tbm 1275 (by decide +kernel) (by decide +kernel), tbm 1276 (by decide +kernel) (by decide +kernel), tbm 144 (by decide +kernel) (by decide +kernel), tbm 1277 (by decide +kernel) (by decide +kernel), by decide +kernel, by decide⟩
theorem wi_RX11_260 : Iv RX11 260 yX6_findLie cX6_findLie 8 none 4 := ⟨tbm 1274 (by decide +kernel) (by decide +kernel), wm_X6_findLie⟩
theorem wl_RX11_264 : Cond.fieldLink RX11 264 (TX6 2).1 (TX6 2).2.1 (TX6 2).2.2.1 ∈ TB := tbm 559 (by decide +kernel) (by decide +kernel)
theorem wl_RX11_267 : Cond.fieldLink RX11 267 (TX6 3).1 (TX6 3).2.1 (TX6 3).2.2.1 ∈ TB := tbm 561 (by decide +kernel) (by decide +kernel)
theorem wl_RX11_270 : Cond.fieldLink RX11 270 (TX6 4).1 (TX6 4).2.1 (TX6 4).2.2.1 ∈ TB := tbm 563 (by decide +kernel) (by decide +kernel)
def mX11_lie (t : Nat) (tw : Nat) (dr : Nat) (p1 : Int32) (p2 : Int32) (p3 : Int32) (σ : St_) : Option (Int32 × St_) :=
 ((mX11_isHouse t tw dr p1 σ).bind fun r1 =>
 (if r1 = true then
 (if p2 < (1 : Int32) then
 (some ((-2 : Int32), σ))
 else (if (4 : Int32) < p2 then
 (some ((-2 : Int32), σ))
 else (if p3 < 0 then
 (some ((-2 : Int32), σ))
 else (if p3 ≤ (2 : Int32) then
 ((mX6_findLie (t + 192) tw (t + 44) p1 p2 σ).bind fun σ2 =>
 (if p3 = 0 then
 (some ((σ2.1 (t + 192) 2), σ2))
 else (if p3 = (1 : Int32) then
 (some ((σ2.1 (t + 192) 3), σ2))
 else (some ((σ2.1 (t + 192) 4), σ2)))))
 else (some ((-2 : Int32), σ))))))
 else (some ((-2 : Int32), σ))))
set_option maxHeartbeats 4000000 in
theorem rX11_lie (t : Nat) (tw : Nat) (dr : Nat) (p1 : Int32) (p2 : Int32) (p3 : Int32) (hT : LY11 sh P t tw dr) : Rj l D cA h0 ad yX11_lie cX11_lie 4 (some .int) false 9 0 0 (fun b => (some (.int b.1), sh, P, b.2)) [.ref (h0 + t), .int p1, .int p2, .int p3] sh P σ (mX11_lie t tw dr p1 p2 p3 σ) := by
  rw [mX11_lie]
  refine Rj.of (by decide) (fun h => by cases h) (Nat.le_of_ble_eq_true rfl) ?_
  refine tj_lv0 (lv' := [(0, .ref (h0 + t)), (1, .int p1), (2, .int p2), (3, .int p3)]) rfl ?_
  refine tj_aload_n (q := 1) dX11_lie_0 rfl (i := 0) rfl (pl := 0) rfl ?_
  refine tj_iload_n (q := 2) dX11_lie_1 rfl (i := 1) rfl (pl := 1) rfl ?_
  refine tj_callZp (q := 5) (kj_V (As := [.int p1]) (rest := []) (t := t) wi_RX11_174 (hT).s rfl (rX11_isHouse t tw dr p1 (hT)) rfl (Nat.le_of_ble_eq_true rfl) ⟨Nat.le_of_ble_eq_true rfl, Nat.le_of_ble_eq_true rfl⟩ (Nat.le_of_ble_eq_true rfl) dX11_lie_2) rfl (fun r1 => ?_)
  refine tj_bz (tgt := 27) (q := 8) dX11_lie_5 (by decide) rfl ?_ ?_
  · refine tj_iload_n (q := 9) dX11_lie_8 rfl (i := 2) rfl (pl := 2) rfl ?_
    refine tj_iconst (q := 10) (v := 1) dX11_lie_9 rfl (by decide) ?_
    refine tj_icmp_lt (tgt := 27) (q := 13) dX11_lie_10 (by decide) rfl ?_ ?_
    · refine tj_bipush (q := 29) (v := (-2)) dX11_lie_27 rfl (by decide) ?_
      exact tj_iret rfl rfl (Nat.le_of_ble_eq_true rfl) (Nat.le_of_ble_eq_true rfl) dX11_lie_29
    · refine tj_iload_n (q := 14) dX11_lie_13 rfl (i := 2) rfl (pl := 2) rfl ?_
      refine tj_iconst (q := 15) (v := 4) dX11_lie_14 rfl (by decide) ?_
      refine tj_icmp_gt (tgt := 27) (q := 18) dX11_lie_15 (by decide) rfl ?_ ?_
      · refine tj_bipush (q := 29) (v := (-2)) dX11_lie_27 rfl (by decide) ?_
        exact tj_iret rfl rfl (Nat.le_of_ble_eq_true rfl) (Nat.le_of_ble_eq_true rfl) dX11_lie_29
      · refine tj_iload_n (q := 19) dX11_lie_18 rfl (i := 3) rfl (pl := 3) rfl ?_
        refine tj_if_lt (tgt := 27) (q := 22) dX11_lie_19 (by decide) rfl ?_ ?_
        · refine tj_bipush (q := 29) (v := (-2)) dX11_lie_27 rfl (by decide) ?_
          exact tj_iret rfl rfl (Nat.le_of_ble_eq_true rfl) (Nat.le_of_ble_eq_true rfl) dX11_lie_29
        · refine tj_iload_n (q := 23) dX11_lie_22 rfl (i := 3) rfl (pl := 3) rfl ?_
          refine tj_iconst (q := 24) (v := 2) dX11_lie_23 rfl (by decide) ?_
          refine tj_icmp_le (tgt := 30) (q := 27) dX11_lie_24 (by decide) rfl ?_ ?_
          · refine tj_aload_n (q := 31) dX11_lie_30 rfl (i := 0) rfl (pl := 0) rfl ?_
            refine tj_getR (q := 34) (hT).s (hT).p_rounds fok_11_13 wl_RX11_82 dX11_lie_31 rfl ?_
            refine tj_aload_n (q := 35) dX11_lie_34 rfl (i := 0) rfl (pl := 0) rfl ?_
            refine tj_getR (q := 38) (hT).s (hT).p_town fok_11_2 wl_RX11_26 dX11_lie_35 rfl ?_
            refine tj_aload_n (q := 39) dX11_lie_38 rfl (i := 0) rfl (pl := 0) rfl ?_
            refine tj_getR (q := 42) (hT).s (hT).p_now fok_11_4 wl_RX11_36 dX11_lie_39 rfl ?_
            refine tj_iload_n (q := 43) dX11_lie_42 rfl (i := 1) rfl (pl := 1) rfl ?_
            refine tj_iload_n (q := 44) dX11_lie_43 rfl (i := 2) rfl (pl := 2) rfl ?_
            refine tj_callV (q := 47) (kj_V (As := [.ref (h0 + tw), .ref (h0 + (t + 44)), .int p1, .int p2]) (rest := []) (t := (t + 192)) wi_RX11_260 ((hT).o_rounds).s rfl (rX6_findLie (t + 192) tw (t + 44) p1 p2 ((hT).o_rounds) ((hT).o_town) ((hT).o_now)) rfl (Nat.le_of_ble_eq_true rfl) ⟨Nat.le_of_ble_eq_true rfl, Nat.le_of_ble_eq_true rfl⟩ (Nat.le_of_ble_eq_true rfl) dX11_lie_44) rfl (fun σ2 => ?_)
            refine tj_iload_n (q := 48) dX11_lie_47 rfl (i := 3) rfl (pl := 3) rfl ?_
            refine tj_if_ne (tgt := 59) (q := 51) dX11_lie_48 (by decide) rfl ?_ ?_
            · refine tj_aload_n (q := 52) dX11_lie_51 rfl (i := 0) rfl (pl := 0) rfl ?_
              refine tj_getR (q := 55) (hT).s (hT).p_rounds fok_11_13 wl_RX11_82 dX11_lie_52 rfl ?_
              refine tj_getI (q := 58) ((hT).o_rounds).s fok_6_2 wl_RX11_264 dX11_lie_55 rfl ?_
              exact tj_iret rfl rfl (Nat.le_of_ble_eq_true rfl) (Nat.le_of_ble_eq_true rfl) dX11_lie_58
            · refine tj_iload_n (q := 60) dX11_lie_59 rfl (i := 3) rfl (pl := 3) rfl ?_
              refine tj_iconst (q := 61) (v := 1) dX11_lie_60 rfl (by decide) ?_
              refine tj_icmp_ne (tgt := 74) (q := 64) dX11_lie_61 (by decide) rfl ?_ ?_
              · refine tj_aload_n (q := 65) dX11_lie_64 rfl (i := 0) rfl (pl := 0) rfl ?_
                refine tj_getR (q := 68) (hT).s (hT).p_rounds fok_11_13 wl_RX11_82 dX11_lie_65 rfl ?_
                refine tj_getI (q := 71) ((hT).o_rounds).s fok_6_3 wl_RX11_267 dX11_lie_68 rfl ?_
                refine tj_goto (q := 81) dX11_lie_71 (by decide) ?_
                exact tj_iret rfl rfl (Nat.le_of_ble_eq_true rfl) (Nat.le_of_ble_eq_true rfl) dX11_lie_81
              · refine tj_aload_n (q := 75) dX11_lie_74 rfl (i := 0) rfl (pl := 0) rfl ?_
                refine tj_getR (q := 78) (hT).s (hT).p_rounds fok_11_13 wl_RX11_82 dX11_lie_75 rfl ?_
                refine tj_getI (q := 81) ((hT).o_rounds).s fok_6_4 wl_RX11_270 dX11_lie_78 rfl ?_
                exact tj_iret rfl rfl (Nat.le_of_ble_eq_true rfl) (Nat.le_of_ble_eq_true rfl) dX11_lie_81
          · refine tj_bipush (q := 29) (v := (-2)) dX11_lie_27 rfl (by decide) ?_
            exact tj_iret rfl rfl (Nat.le_of_ble_eq_true rfl) (Nat.le_of_ble_eq_true rfl) dX11_lie_29
  · refine tj_bipush (q := 29) (v := (-2)) dX11_lie_27 rfl (by decide) ?_
    exact tj_iret rfl rfl (Nat.le_of_ble_eq_true rfl) (Nat.le_of_ble_eq_true rfl) dX11_lie_29

theorem dX11_canBeBettered_0 : decode cX11_canBeBettered 0 = .ok (.iconst 0, 1) := by decide +kernel
theorem dX11_canBeBettered_1 : decode cX11_canBeBettered 1 = .ok (.istore_n 3, 1) := by decide +kernel
theorem dX11_canBeBettered_2 : decode cX11_canBeBettered 2 = .ok (.iload_n 3, 1) := by decide +kernel
theorem dX11_canBeBettered_3 : decode cX11_canBeBettered 3 = .ok (.aload_n 0, 1) := by decide +kernel
theorem dX11_canBeBettered_4 : decode cX11_canBeBettered 4 = .ok (.getfield 26, 3) := by decide +kernel
theorem dX11_canBeBettered_7 : decode cX11_canBeBettered 7 = .ok (.getfield 276, 3) := by decide +kernel
theorem dX11_canBeBettered_10 : decode cX11_canBeBettered 10 = .ok (.if_icmp .ge 100, 3) := by decide +kernel
theorem dX11_canBeBettered_13 : decode cX11_canBeBettered 13 = .ok (.aload_n 0, 1) := by decide +kernel
theorem dX11_canBeBettered_14 : decode cX11_canBeBettered 14 = .ok (.getfield 26, 3) := by decide +kernel
theorem dX11_canBeBettered_17 : decode cX11_canBeBettered 17 = .ok (.getfield 196, 3) := by decide +kernel
theorem dX11_canBeBettered_20 : decode cX11_canBeBettered 20 = .ok (.iload_n 3, 1) := by decide +kernel
theorem dX11_canBeBettered_21 : decode cX11_canBeBettered 21 = .ok (.iaload, 1) := by decide +kernel
theorem dX11_canBeBettered_22 : decode cX11_canBeBettered 22 = .ok (.istore 4, 2) := by decide +kernel
theorem dX11_canBeBettered_24 : decode cX11_canBeBettered 24 = .ok (.aload_n 0, 1) := by decide +kernel
theorem dX11_canBeBettered_25 : decode cX11_canBeBettered 25 = .ok (.getfield 75, 3) := by decide +kernel
theorem dX11_canBeBettered_28 : decode cX11_canBeBettered 28 = .ok (.aload_n 0, 1) := by decide +kernel
theorem dX11_canBeBettered_29 : decode cX11_canBeBettered 29 = .ok (.getfield 26, 3) := by decide +kernel
theorem dX11_canBeBettered_32 : decode cX11_canBeBettered 32 = .ok (.aload_n 0, 1) := by decide +kernel
theorem dX11_canBeBettered_33 : decode cX11_canBeBettered 33 = .ok (.getfield 36, 3) := by decide +kernel
theorem dX11_canBeBettered_36 : decode cX11_canBeBettered 36 = .ok (.iload_n 3, 1) := by decide +kernel
theorem dX11_canBeBettered_37 : decode cX11_canBeBettered 37 = .ok (.invokevirtual 279, 3) := by decide +kernel
theorem dX11_canBeBettered_40 : decode cX11_canBeBettered 40 = .ok (.iconst 0, 1) := by decide +kernel
theorem dX11_canBeBettered_41 : decode cX11_canBeBettered 41 = .ok (.istore 5, 2) := by decide +kernel
theorem dX11_canBeBettered_43 : decode cX11_canBeBettered 43 = .ok (.iload 5, 2) := by decide +kernel
theorem dX11_canBeBettered_45 : decode cX11_canBeBettered 45 = .ok (.aload_n 0, 1) := by decide +kernel
theorem dX11_canBeBettered_46 : decode cX11_canBeBettered 46 = .ok (.getfield 75, 3) := by decide +kernel
theorem dX11_canBeBettered_49 : decode cX11_canBeBettered 49 = .ok (.getfield 282, 3) := by decide +kernel
theorem dX11_canBeBettered_52 : decode cX11_canBeBettered 52 = .ok (.if_icmp .ge 52, 3) := by decide +kernel
theorem dX11_canBeBettered_55 : decode cX11_canBeBettered 55 = .ok (.aload_n 0, 1) := by decide +kernel
theorem dX11_canBeBettered_56 : decode cX11_canBeBettered 56 = .ok (.getfield 26, 3) := by decide +kernel
theorem dX11_canBeBettered_59 : decode cX11_canBeBettered 59 = .ok (.iload_n 1, 1) := by decide +kernel
theorem dX11_canBeBettered_60 : decode cX11_canBeBettered 60 = .ok (.iload_n 2, 1) := by decide +kernel
theorem dX11_canBeBettered_61 : decode cX11_canBeBettered 61 = .ok (.aload_n 0, 1) := by decide +kernel
theorem dX11_canBeBettered_62 : decode cX11_canBeBettered 62 = .ok (.getfield 75, 3) := by decide +kernel
theorem dX11_canBeBettered_65 : decode cX11_canBeBettered 65 = .ok (.getfield 285, 3) := by decide +kernel
theorem dX11_canBeBettered_68 : decode cX11_canBeBettered 68 = .ok (.iload 5, 2) := by decide +kernel
theorem dX11_canBeBettered_70 : decode cX11_canBeBettered 70 = .ok (.iaload, 1) := by decide +kernel
theorem dX11_canBeBettered_71 : decode cX11_canBeBettered 71 = .ok (.aload_n 0, 1) := by decide +kernel
theorem dX11_canBeBettered_72 : decode cX11_canBeBettered 72 = .ok (.getfield 75, 3) := by decide +kernel
theorem dX11_canBeBettered_75 : decode cX11_canBeBettered 75 = .ok (.getfield 288, 3) := by decide +kernel
theorem dX11_canBeBettered_78 : decode cX11_canBeBettered 78 = .ok (.iload 5, 2) := by decide +kernel
theorem dX11_canBeBettered_80 : decode cX11_canBeBettered 80 = .ok (.iaload, 1) := by decide +kernel
theorem dX11_canBeBettered_81 : decode cX11_canBeBettered 81 = .ok (.aload_n 0, 1) := by decide +kernel
theorem dX11_canBeBettered_82 : decode cX11_canBeBettered 82 = .ok (.getfield 36, 3) := by decide +kernel
theorem dX11_canBeBettered_85 : decode cX11_canBeBettered 85 = .ok (.getfield 189, 3) := by decide +kernel
theorem dX11_canBeBettered_88 : decode cX11_canBeBettered 88 = .ok (.iload 4, 2) := by decide +kernel
theorem dX11_canBeBettered_90 : decode cX11_canBeBettered 90 = .ok (.invokevirtual 291, 3) := by decide +kernel
theorem dX11_canBeBettered_93 : decode cX11_canBeBettered 93 = .ok (.ifCond .eq 5, 3) := by decide +kernel
theorem dX11_canBeBettered_96 : decode cX11_canBeBettered 96 = .ok (.iconst 1, 1) := by decide +kernel
theorem dX11_canBeBettered_97 : decode cX11_canBeBettered 97 = .ok (.ireturn, 1) := by decide +kernel
theorem dX11_canBeBettered_98 : decode cX11_canBeBettered 98 = .ok (.iinc 5 1, 3) := by decide +kernel
theorem dX11_canBeBettered_101 : decode cX11_canBeBettered 101 = .ok (.goto (-58), 3) := by decide +kernel
theorem dX11_canBeBettered_104 : decode cX11_canBeBettered 104 = .ok (.iinc 3 1, 3) := by decide +kernel
theorem dX11_canBeBettered_107 : decode cX11_canBeBettered 107 = .ok (.goto (-105), 3) := by decide +kernel
theorem dX11_canBeBettered_110 : decode cX11_canBeBettered 110 = .ok (.iconst 0, 1) := by decide +kernel
theorem dX11_canBeBettered_111 : decode cX11_canBeBettered 111 = .ok (.ireturn, 1) := by decide +kernel
theorem wi_RX11_279 : Iv RX11 279 yX9_splitStock cX9_splitStock 7 none 3 := ⟨tbm 1297 (by decide +kernel) (by decide +kernel), wm_X9_splitStock⟩
theorem wl_RX11_282 : Cond.fieldLink RX11 282 (TX9 9).1 (TX9 9).2.1 (TX9 9).2.2.1 ∈ TB := tbm 523 (by decide +kernel) (by decide +kernel)
theorem wl_RX11_285 : Cond.fieldLink RX11 285 (TX9 5).1 (TX9 5).2.1 (TX9 5).2.2.1 ∈ TB := tbm 517 (by decide +kernel) (by decide +kernel)
theorem wl_RX11_288 : Cond.fieldLink RX11 288 (TX9 6).1 (TX9 6).2.1 (TX9 6).2.2.1 ∈ TB := tbm 519 (by decide +kernel) (by decide +kernel)
theorem wi_RX11_291 : Iv RX11 291 yX1_isLawfulFor cX1_isLawfulFor 11 (some .boolean) 6 := ⟨tbm 1298 (by decide +kernel) (by decide +kernel), wm_X1_isLawfulFor⟩
def mX11_canBeBettered_L43 (t : Nat) (tw : Nat) (dr : Nat) (x1 : Int32) (x2 : Int32) (x3 : Int32) (x4 : Int32) (k104 : St_ → Option (Bool × St_)) : Nat → Int32 → St_ → Option (Bool × St_)
  | 0, _, _ => none
  | n + 1, x5, σ => (if (σ.1 (t + 183) 9) ≤ x5 then
 (k104 σ)
 else (if bin x5 55 = true then bnd (σ.1 (t + 183 + 5) x5.toNatClampNeg) fun v3 =>
 (if bin x5 55 = true then bnd (σ.1 (t + 183 + 6) x5.toNatClampNeg) fun v4 =>
 ((mX1_isLawfulFor tw x1 x2 v3 v4 (σ.1 (t + 44) 3) x4 σ).bind fun r5 =>
 (if r5.1 = true then
 (some (true, r5.2))
 else (mX11_canBeBettered_L43 t tw dr x1 x2 x3 x4 k104 n (x5 + 1) r5.2)))
 else none)
 else none))
def mX11_canBeBettered_L2 (t : Nat) (tw : Nat) (dr : Nat) (x1 : Int32) (x2 : Int32) : Nat → Int32 → St_ → Option (Bool × St_)
  | 0, _, _ => none
  | n + 1, x3, σ => (if (σ.1 tw 4) ≤ x3 then
 (some (false, σ))
 else (if bin x3 4 = true then bnd (σ.1 (tw + 7) x3.toNatClampNeg) fun v1 =>
 ((mX9_splitStock (t + 183) tw (t + 44) x3 σ).bind fun σ2 =>
 (mX11_canBeBettered_L43 t tw dr x1 x2 x3 v1
 (fun (σ6 : St_) => (mX11_canBeBettered_L2 t tw dr x1 x2 n (x3 + 1) σ6)) FU (0 : Int32) σ2))
 else none))
def mX11_canBeBettered (t : Nat) (tw : Nat) (dr : Nat) (p1 : Int32) (p2 : Int32) (σ : St_) : Option (Bool × St_) :=
 (mX11_canBeBettered_L2 t tw dr p1 p2 FU (0 : Int32) σ)
set_option maxHeartbeats 4000000 in
theorem tmX11_canBeBettered_L43 (t : Nat) (tw : Nat) (dr : Nat) (hT : LY11 sh P t tw dr) (x1 : Int32) (x2 : Int32) (x3 : Int32) (x4 : Int32) (k104 : St_ → Option (Bool × St_)) (hk104 : ∀ (σ1 : St_), Tj l D cA h0 ad RX11 cX11_canBeBettered 6 (some .boolean) false 5 0 0 (fun b => (some (.int (b2i b.1)), sh, P, b.2)) 0 0 sh P σ1 104 [(0, .ref (h0 + t)), (1, .int x1), (2, .int x2), (3, .int x3)] [] (k104 σ1)) : ∀ (n : Nat) (x5 : Int32) (σ : St_), Tj l D cA h0 ad RX11 cX11_canBeBettered 6 (some .boolean) false 5 0 0 (fun b => (some (.int (b2i b.1)), sh, P, b.2)) 0 0 sh P σ 43 [(0, .ref (h0 + t)), (1, .int x1), (2, .int x2), (3, .int x3), (4, .int x4), (5, .int x5)] [] (mX11_canBeBettered_L43 t tw dr x1 x2 x3 x4 k104 n x5 σ) := by
  intro n
  induction n with
  | zero => intros; exact tj_none
  | succ n ih =>
    intro x5 σ
    rw [mX11_canBeBettered_L43]
    refine tj_iload (q := 45) dX11_canBeBettered_43 rfl (pl := 5) rfl ?_
    refine tj_aload_n (q := 46) dX11_canBeBettered_45 rfl (i := 0) rfl (pl := 0) rfl ?_
    refine tj_getR (q := 49) (hT).s (hT).p_list fok_11_12 wl_RX11_75 dX11_canBeBettered_46 rfl ?_
    refine tj_getI (q := 52) ((hT).o_list).s fok_9_9 wl_RX11_282 dX11_canBeBettered_49 rfl ?_
    refine tj_icmp_ge (tgt := 104) (q := 55) dX11_canBeBettered_52 (by decide) rfl ?_ ?_
    · refine tj_lv [0, 1, 2, 3] rfl ?_
      exact hk104 σ
    · refine tj_aload_n (q := 56) dX11_canBeBettered_55 rfl (i := 0) rfl (pl := 0) rfl ?_
      refine tj_getR (q := 59) (hT).s (hT).p_town fok_11_2 wl_RX11_26 dX11_canBeBettered_56 rfl ?_
      refine tj_iload_n (q := 60) dX11_canBeBettered_59 rfl (i := 1) rfl (pl := 1) rfl ?_
      refine tj_iload_n (q := 61) dX11_canBeBettered_60 rfl (i := 2) rfl (pl := 2) rfl ?_
      refine tj_aload_n (q := 62) dX11_canBeBettered_61 rfl (i := 0) rfl (pl := 0) rfl ?_
      refine tj_getR (q := 65) (hT).s (hT).p_list fok_11_12 wl_RX11_75 dX11_canBeBettered_62 rfl ?_
      refine tj_getR (q := 68) ((hT).o_list).s ((hT).o_list).p_high fok_9_5 wl_RX11_285 dX11_canBeBettered_65 rfl ?_
      refine tj_iload (q := 70) dX11_canBeBettered_68 rfl (pl := 5) rfl ?_
      refine tj_iaload (q := 71) ((hT).o_list).s_high dX11_canBeBettered_70 rfl ?_
      refine tj_topI (fun v3 => ?_)
      refine tj_aload_n (q := 72) dX11_canBeBettered_71 rfl (i := 0) rfl (pl := 0) rfl ?_
      refine tj_getR (q := 75) (hT).s (hT).p_list fok_11_12 wl_RX11_75 dX11_canBeBettered_72 rfl ?_
      refine tj_getR (q := 78) ((hT).o_list).s ((hT).o_list).p_low fok_9_6 wl_RX11_288 dX11_canBeBettered_75 rfl ?_
      refine tj_iload (q := 80) dX11_canBeBettered_78 rfl (pl := 5) rfl ?_
      refine tj_iaload (q := 81) ((hT).o_list).s_low dX11_canBeBettered_80 rfl ?_
      refine tj_topI (fun v4 => ?_)
      refine tj_aload_n (q := 82) dX11_canBeBettered_81 rfl (i := 0) rfl (pl := 0) rfl ?_
      refine tj_getR (q := 85) (hT).s (hT).p_now fok_11_4 wl_RX11_36 dX11_canBeBettered_82 rfl ?_
      refine tj_getI (q := 88) ((hT).o_now).s fok_8_3 wl_RX11_189 dX11_canBeBettered_85 rfl ?_
      refine tj_iload (q := 90) dX11_canBeBettered_88 rfl (pl := 4) rfl ?_
      refine tj_callZ (q := 93) (kj_V (As := [.int x1, .int x2, .int v3, .int v4, .int (σ.1 (t + 44) 3), .int x4]) (rest := []) (t := tw) wi_RX11_291 ((hT).o_town).s rfl (rX1_isLawfulFor tw x1 x2 v3 v4 (σ.1 (t + 44) 3) x4 ((hT).o_town)) rfl (Nat.le_of_ble_eq_true rfl) ⟨Nat.le_of_ble_eq_true rfl, Nat.le_of_ble_eq_true rfl⟩ (Nat.le_of_ble_eq_true rfl) dX11_canBeBettered_90) rfl (fun r5 => ?_)
      refine tj_bz (tgt := 98) (q := 96) dX11_canBeBettered_93 (by decide) rfl ?_ ?_
      · refine tj_iconst (q := 97) (v := 1) dX11_canBeBettered_96 rfl (by decide) ?_
        exact tj_zret rfl (by decide) rfl (Nat.le_of_ble_eq_true rfl) (Nat.le_of_ble_eq_true rfl) dX11_canBeBettered_97
      · refine tj_iinc (q := 101) (v := x5 + 1) dX11_canBeBettered_98 rfl (pl := 5) rfl rfl (by decide) rfl ?_
        refine tj_goto (q := 43) dX11_canBeBettered_101 (by decide) ?_
        refine tj_lv [1, 2, 3, 4, 5, 0] rfl ?_
        exact ih (x5 + 1) r5.2

set_option maxHeartbeats 4000000 in
theorem tmX11_canBeBettered_L2 (t : Nat) (tw : Nat) (dr : Nat) (hT : LY11 sh P t tw dr) (x1 : Int32) (x2 : Int32) : ∀ (n : Nat) (x3 : Int32) (σ : St_), Tj l D cA h0 ad RX11 cX11_canBeBettered 6 (some .boolean) false 5 0 0 (fun b => (some (.int (b2i b.1)), sh, P, b.2)) 0 0 sh P σ 2 [(0, .ref (h0 + t)), (1, .int x1), (2, .int x2), (3, .int x3)] [] (mX11_canBeBettered_L2 t tw dr x1 x2 n x3 σ) := by
  intro n
  induction n with
  | zero => intros; exact tj_none
  | succ n ih =>
    intro x3 σ
    rw [mX11_canBeBettered_L2]
    refine tj_iload_n (q := 3) dX11_canBeBettered_2 rfl (i := 3) rfl (pl := 3) rfl ?_
    refine tj_aload_n (q := 4) dX11_canBeBettered_3 rfl (i := 0) rfl (pl := 0) rfl ?_
    refine tj_getR (q := 7) (hT).s (hT).p_town fok_11_2 wl_RX11_26 dX11_canBeBettered_4 rfl ?_
    refine tj_getI (q := 10) ((hT).o_town).s fok_1_4 wl_RX11_276 dX11_canBeBettered_7 rfl ?_
    refine tj_icmp_ge (tgt := 110) (q := 13) dX11_canBeBettered_10 (by decide) rfl ?_ ?_
    · refine tj_iconst (q := 111) (v := 0) dX11_canBeBettered_110 rfl (by decide) ?_
      exact tj_zret rfl (by decide) rfl (Nat.le_of_ble_eq_true rfl) (Nat.le_of_ble_eq_true rfl) dX11_canBeBettered_111
    · refine tj_aload_n (q := 14) dX11_canBeBettered_13 rfl (i := 0) rfl (pl := 0) rfl ?_
      refine tj_getR (q := 17) (hT).s (hT).p_town fok_11_2 wl_RX11_26 dX11_canBeBettered_14 rfl ?_
      refine tj_getR (q := 20) ((hT).o_town).s ((hT).o_town).p_skill fok_1_11 wl_RX11_196 dX11_canBeBettered_17 rfl ?_
      refine tj_iload_n (q := 21) dX11_canBeBettered_20 rfl (i := 3) rfl (pl := 3) rfl ?_
      refine tj_iaload (q := 22) ((hT).o_town).s_skill dX11_canBeBettered_21 rfl ?_
      refine tj_topI (fun v1 => ?_)
      refine tj_istore (q := 24) dX11_canBeBettered_22 rfl (by decide) rfl ?_
      refine tj_aload_n (q := 25) dX11_canBeBettered_24 rfl (i := 0) rfl (pl := 1) rfl ?_
      refine tj_getR (q := 28) (hT).s (hT).p_list fok_11_12 wl_RX11_75 dX11_canBeBettered_25 rfl ?_
      refine tj_aload_n (q := 29) dX11_canBeBettered_28 rfl (i := 0) rfl (pl := 1) rfl ?_
      refine tj_getR (q := 32) (hT).s (hT).p_town fok_11_2 wl_RX11_26 dX11_canBeBettered_29 rfl ?_
      refine tj_aload_n (q := 33) dX11_canBeBettered_32 rfl (i := 0) rfl (pl := 1) rfl ?_
      refine tj_getR (q := 36) (hT).s (hT).p_now fok_11_4 wl_RX11_36 dX11_canBeBettered_33 rfl ?_
      refine tj_iload_n (q := 37) dX11_canBeBettered_36 rfl (i := 3) rfl (pl := 4) rfl ?_
      refine tj_callV (q := 40) (kj_V (As := [.ref (h0 + tw), .ref (h0 + (t + 44)), .int x3]) (rest := []) (t := (t + 183)) wi_RX11_279 ((hT).o_list).s rfl (rX9_splitStock (t + 183) tw (t + 44) x3 ((hT).o_list) ((hT).o_town) ((hT).o_now)) rfl (Nat.le_of_ble_eq_true rfl) ⟨Nat.le_of_ble_eq_true rfl, Nat.le_of_ble_eq_true rfl⟩ (Nat.le_of_ble_eq_true rfl) dX11_canBeBettered_37) rfl (fun σ2 => ?_)
      refine tj_iconst (q := 41) (v := 0) dX11_canBeBettered_40 rfl (by decide) ?_
      refine tj_istore (q := 43) dX11_canBeBettered_41 rfl (by decide) rfl ?_
      refine tj_lv [2, 3, 4, 5, 1, 0] rfl ?_
      refine tmX11_canBeBettered_L43 t tw dr hT x1 x2 x3 v1 _ ?_ FU (0 : Int32) σ2
      · intro σ6
        refine tj_iinc (q := 107) (v := x3 + 1) dX11_canBeBettered_104 rfl (pl := 3) rfl rfl (by decide) rfl ?_
        refine tj_goto (q := 2) dX11_canBeBettered_107 (by decide) ?_
        refine tj_lv [1, 2, 3, 0] rfl ?_
        exact ih (x3 + 1) σ6

set_option maxHeartbeats 4000000 in
theorem rX11_canBeBettered (t : Nat) (tw : Nat) (dr : Nat) (p1 : Int32) (p2 : Int32) (hT : LY11 sh P t tw dr) : Rj l D cA h0 ad yX11_canBeBettered cX11_canBeBettered 6 (some .boolean) false 5 0 0 (fun b => (some (.int (b2i b.1)), sh, P, b.2)) [.ref (h0 + t), .int p1, .int p2] sh P σ (mX11_canBeBettered t tw dr p1 p2 σ) := by
  rw [mX11_canBeBettered]
  refine Rj.of (by decide) (fun h => by cases h) (Nat.le_of_ble_eq_true rfl) ?_
  refine tj_lv0 (lv' := [(0, .ref (h0 + t)), (1, .int p1), (2, .int p2)]) rfl ?_
  refine tj_iconst (q := 1) (v := 0) dX11_canBeBettered_0 rfl (by decide) ?_
  refine tj_istore_n (q := 2) dX11_canBeBettered_1 rfl (i := 3) rfl (by decide) rfl ?_
  refine tj_lv [1, 2, 3, 0] rfl ?_
  exact tmX11_canBeBettered_L2 t tw dr hT p1 p2 FU (0 : Int32) σ

theorem dX11_unbettered_0 : decode cX11_unbettered 0 = .ok (.aload_n 0, 1) := by decide +kernel
theorem dX11_unbettered_1 : decode cX11_unbettered 1 = .ok (.iload_n 1, 1) := by decide +kernel
theorem dX11_unbettered_2 : decode cX11_unbettered 2 = .ok (.invokevirtual 174, 3) := by decide +kernel
theorem dX11_unbettered_5 : decode cX11_unbettered 5 = .ok (.ifCond .ne 5, 3) := by decide +kernel
theorem dX11_unbettered_8 : decode cX11_unbettered 8 = .ok (.iconst (-1), 1) := by decide +kernel
theorem dX11_unbettered_9 : decode cX11_unbettered 9 = .ok (.ireturn, 1) := by decide +kernel
theorem dX11_unbettered_10 : decode cX11_unbettered 10 = .ok (.iconst 0, 1) := by decide +kernel
theorem dX11_unbettered_11 : decode cX11_unbettered 11 = .ok (.istore_n 2, 1) := by decide +kernel
theorem dX11_unbettered_12 : decode cX11_unbettered 12 = .ok (.iconst 0, 1) := by decide +kernel
theorem dX11_unbettered_13 : decode cX11_unbettered 13 = .ok (.istore_n 3, 1) := by decide +kernel
theorem dX11_unbettered_14 : decode cX11_unbettered 14 = .ok (.iload_n 3, 1) := by decide +kernel
theorem dX11_unbettered_15 : decode cX11_unbettered 15 = .ok (.aload_n 0, 1) := by decide +kernel
theorem dX11_unbettered_16 : decode cX11_unbettered 16 = .ok (.getfield 26, 3) := by decide +kernel
theorem dX11_unbettered_19 : decode cX11_unbettered 19 = .ok (.getfield 122, 3) := by decide +kernel
theorem dX11_unbettered_22 : decode cX11_unbettered 22 = .ok (.if_icmp .ge 40, 3) := by decide +kernel
theorem dX11_unbettered_25 : decode cX11_unbettered 25 = .ok (.aload_n 0, 1) := by decide +kernel
theorem dX11_unbettered_26 : decode cX11_unbettered 26 = .ok (.getfield 36, 3) := by decide +kernel
theorem dX11_unbettered_29 : decode cX11_unbettered 29 = .ok (.getfield 156, 3) := by decide +kernel
theorem dX11_unbettered_32 : decode cX11_unbettered 32 = .ok (.iload_n 1, 1) := by decide +kernel
theorem dX11_unbettered_33 : decode cX11_unbettered 33 = .ok (.iaload, 1) := by decide +kernel
theorem dX11_unbettered_34 : decode cX11_unbettered 34 = .ok (.iload_n 3, 1) := by decide +kernel
theorem dX11_unbettered_35 : decode cX11_unbettered 35 = .ok (.ishr, 1) := by decide +kernel
theorem dX11_unbettered_36 : decode cX11_unbettered 36 = .ok (.iconst 1, 1) := by decide +kernel
theorem dX11_unbettered_37 : decode cX11_unbettered 37 = .ok (.iand, 1) := by decide +kernel
theorem dX11_unbettered_38 : decode cX11_unbettered 38 = .ok (.ifCond .eq 18, 3) := by decide +kernel
theorem dX11_unbettered_41 : decode cX11_unbettered 41 = .ok (.aload_n 0, 1) := by decide +kernel
theorem dX11_unbettered_42 : decode cX11_unbettered 42 = .ok (.iload_n 1, 1) := by decide +kernel
theorem dX11_unbettered_43 : decode cX11_unbettered 43 = .ok (.iload_n 3, 1) := by decide +kernel
theorem dX11_unbettered_44 : decode cX11_unbettered 44 = .ok (.invokevirtual 273, 3) := by decide +kernel
theorem dX11_unbettered_47 : decode cX11_unbettered 47 = .ok (.ifCond .ne 9, 3) := by decide +kernel
theorem dX11_unbettered_50 : decode cX11_unbettered 50 = .ok (.iload_n 2, 1) := by decide +kernel
theorem dX11_unbettered_51 : decode cX11_unbettered 51 = .ok (.iconst 1, 1) := by decide +kernel
theorem dX11_unbettered_52 : decode cX11_unbettered 52 = .ok (.iload_n 3, 1) := by decide +kernel
theorem dX11_unbettered_53 : decode cX11_unbettered 53 = .ok (.ishl, 1) := by decide +kernel
theorem dX11_unbettered_54 : decode cX11_unbettered 54 = .ok (.ior, 1) := by decide +kernel
theorem dX11_unbettered_55 : decode cX11_unbettered 55 = .ok (.istore_n 2, 1) := by decide +kernel
theorem dX11_unbettered_56 : decode cX11_unbettered 56 = .ok (.iinc 3 1, 3) := by decide +kernel
theorem dX11_unbettered_59 : decode cX11_unbettered 59 = .ok (.goto (-45), 3) := by decide +kernel
theorem dX11_unbettered_62 : decode cX11_unbettered 62 = .ok (.iload_n 2, 1) := by decide +kernel
theorem dX11_unbettered_63 : decode cX11_unbettered 63 = .ok (.ireturn, 1) := by decide +kernel
theorem wm_X11_canBeBettered : Cond.instanceMethod yX11_canBeBettered ∈ TB ∧ Cond.selects yX11_canBeBettered.cls yX11_canBeBettered yX11_canBeBettered ∈ TB ∧ Cond.initialized yX11_canBeBettered.cls ∈ TB ∧ Cond.code yX11_canBeBettered cX11_canBeBettered 6 (some .boolean) ∈ TB ∧ (yX11_canBeBettered.cls ≠ "java/lang/invoke/MethodHandle" ∧ yX11_canBeBettered.cls ≠ "java/lang/invoke/VarHandle" ∧ (parseMethodDescriptor yX11_canBeBettered.desc).map (fun d => d.parameters.length) = some 2) ∧ 6 ≤ 21 := ⟨tbm 1295 (by decide +kernel) (by decide +kernel), tbm 46 (by decide +kernel) (by decide +kernel), tbm 134 (by decide +kernel) (by decide +kernel), tbm 1296 (by decide +kernel) (by decide +kernel), by decide +kernel, by decide⟩
theorem wi_RX11_273 : Iv RX11 273 yX11_canBeBettered cX11_canBeBettered 6 (some .boolean) 2 := ⟨tbm 1293 (by decide +kernel) (by decide +kernel), wm_X11_canBeBettered⟩
def mX11_unbettered_L14 (t : Nat) (tw : Nat) (dr : Nat) (x1 : Int32) : Nat → Int32 → Int32 → St_ → Option (Int32 × St_)
  | 0, _, _, _ => none
  | n + 1, x2, x3, σ => (if (σ.1 tw 2) ≤ x3 then
 (some (x2, σ))
 else (if bin x1 9 = true then bnd (σ.1 (t + 44 + 1) x1.toNatClampNeg) fun v2 =>
 (bnd (fun (j3 : Int32) (σ4 : St_) => (mX11_unbettered_L14 t tw dr x1 n j3 (x3 + 1) σ4)) fun k5 =>
 (if ((v2 >>> (x3 &&& 31)) &&& (1 : Int32)) = 0 then
 (k5 x2 σ)
 else ((mX11_canBeBettered t tw dr x1 x3 σ).bind fun r7 =>
 (if r7.1 = true then
 (k5 x2 r7.2)
 else (bnd (x2 ||| ((1 : Int32) <<< (x3 &&& 31))) fun v8 =>
 (k5 v8 r7.2))))))
 else none))
def mX11_unbettered (t : Nat) (tw : Nat) (dr : Nat) (p1 : Int32) (σ : St_) : Option (Int32 × St_) :=
 ((mX11_isHouse t tw dr p1 σ).bind fun r1 =>
 (if r1 = true then
 (mX11_unbettered_L14 t tw dr p1 FU (0 : Int32) (0 : Int32) σ)
 else (some ((-1 : Int32), σ))))
set_option maxHeartbeats 4000000 in
theorem tmX11_unbettered_L14 (t : Nat) (tw : Nat) (dr : Nat) (hT : LY11 sh P t tw dr) (x1 : Int32) : ∀ (n : Nat) (x2 : Int32) (x3 : Int32) (σ : St_), Tj l D cA h0 ad RX11 cX11_unbettered 4 (some .int) false 6 0 0 (fun b => (some (.int b.1), sh, P, b.2)) 0 0 sh P σ 14 [(0, .ref (h0 + t)), (1, .int x1), (2, .int x2), (3, .int x3)] [] (mX11_unbettered_L14 t tw dr x1 n x2 x3 σ) := by
  intro n
  induction n with
  | zero => intros; exact tj_none
  | succ n ih =>
    intro x2 x3 σ
    rw [mX11_unbettered_L14]
    refine tj_iload_n (q := 15) dX11_unbettered_14 rfl (i := 3) rfl (pl := 3) rfl ?_
    refine tj_aload_n (q := 16) dX11_unbettered_15 rfl (i := 0) rfl (pl := 0) rfl ?_
    refine tj_getR (q := 19) (hT).s (hT).p_town fok_11_2 wl_RX11_26 dX11_unbettered_16 rfl ?_
    refine tj_getI (q := 22) ((hT).o_town).s fok_1_2 wl_RX11_122 dX11_unbettered_19 rfl ?_
    refine tj_icmp_ge (tgt := 62) (q := 25) dX11_unbettered_22 (by decide) rfl ?_ ?_
    · refine tj_iload_n (q := 63) dX11_unbettered_62 rfl (i := 2) rfl (pl := 2) rfl ?_
      exact tj_iret rfl rfl (Nat.le_of_ble_eq_true rfl) (Nat.le_of_ble_eq_true rfl) dX11_unbettered_63
    · refine tj_aload_n (q := 26) dX11_unbettered_25 rfl (i := 0) rfl (pl := 0) rfl ?_
      refine tj_getR (q := 29) (hT).s (hT).p_now fok_11_4 wl_RX11_36 dX11_unbettered_26 rfl ?_
      refine tj_getR (q := 32) ((hT).o_now).s ((hT).o_now).p_held fok_8_0 wl_RX11_156 dX11_unbettered_29 rfl ?_
      refine tj_iload_n (q := 33) dX11_unbettered_32 rfl (i := 1) rfl (pl := 1) rfl ?_
      refine tj_iaload (q := 34) ((hT).o_now).s_held dX11_unbettered_33 rfl ?_
      refine tj_topI (fun v2 => ?_)
      refine tj_iload_n (q := 35) dX11_unbettered_34 rfl (i := 3) rfl (pl := 3) rfl ?_
      refine tj_ishr (q := 36) dX11_unbettered_35 rfl ?_
      refine tj_iconst (q := 37) (v := 1) dX11_unbettered_36 rfl (by decide) ?_
      refine tj_iand (q := 38) dX11_unbettered_37 rfl ?_
      refine tj_bnd (fun k5 => ∀ (j3 : Int32) (σ4 : St_), Tj l D cA h0 ad RX11 cX11_unbettered 4 (some .int) false 6 0 0 (fun b => (some (.int b.1), sh, P, b.2)) 0 0 sh P σ4 56 [(0, .ref (h0 + t)), (1, .int x1), (2, .int j3), (3, .int x3)] [] (k5 j3 σ4)) ?_ (fun k5 hk6 => ?_)
      · intro j3 σ4
        refine tj_iinc (q := 59) (v := x3 + 1) dX11_unbettered_56 rfl (pl := 3) rfl rfl (by decide) rfl ?_
        refine tj_goto (q := 14) dX11_unbettered_59 (by decide) ?_
        refine tj_lv [1, 2, 3, 0] rfl ?_
        exact ih j3 (x3 + 1) σ4
      · refine tj_if_eq (tgt := 56) (q := 41) dX11_unbettered_38 (by decide) rfl ?_ ?_
        · exact hk6 x2 σ
        · refine tj_aload_n (q := 42) dX11_unbettered_41 rfl (i := 0) rfl (pl := 0) rfl ?_
          refine tj_iload_n (q := 43) dX11_unbettered_42 rfl (i := 1) rfl (pl := 1) rfl ?_
          refine tj_iload_n (q := 44) dX11_unbettered_43 rfl (i := 3) rfl (pl := 3) rfl ?_
          refine tj_callZ (q := 47) (kj_V (As := [.int x1, .int x3]) (rest := []) (t := t) wi_RX11_273 (hT).s rfl (rX11_canBeBettered t tw dr x1 x3 (hT)) rfl (Nat.le_of_ble_eq_true rfl) ⟨Nat.le_of_ble_eq_true rfl, Nat.le_of_ble_eq_true rfl⟩ (Nat.le_of_ble_eq_true rfl) dX11_unbettered_44) rfl (fun r7 => ?_)
          refine tj_bnz (tgt := 56) (q := 50) dX11_unbettered_47 (by decide) rfl ?_ ?_
          · exact hk6 x2 r7.2
          · refine tj_iload_n (q := 51) dX11_unbettered_50 rfl (i := 2) rfl (pl := 2) rfl ?_
            refine tj_iconst (q := 52) (v := 1) dX11_unbettered_51 rfl (by decide) ?_
            refine tj_iload_n (q := 53) dX11_unbettered_52 rfl (i := 3) rfl (pl := 3) rfl ?_
            refine tj_ishl (q := 54) dX11_unbettered_53 rfl ?_
            refine tj_ior (q := 55) dX11_unbettered_54 rfl ?_
            refine tj_topI (fun v8 => ?_)
            refine tj_istore_n (q := 56) dX11_unbettered_55 rfl (i := 2) rfl (by decide) rfl ?_
            refine tj_lv [1, 2, 0, 3] rfl ?_
            exact hk6 v8 r7.2

set_option maxHeartbeats 4000000 in
theorem rX11_unbettered (t : Nat) (tw : Nat) (dr : Nat) (p1 : Int32) (hT : LY11 sh P t tw dr) : Rj l D cA h0 ad yX11_unbettered cX11_unbettered 4 (some .int) false 6 0 0 (fun b => (some (.int b.1), sh, P, b.2)) [.ref (h0 + t), .int p1] sh P σ (mX11_unbettered t tw dr p1 σ) := by
  rw [mX11_unbettered]
  refine Rj.of (by decide) (fun h => by cases h) (Nat.le_of_ble_eq_true rfl) ?_
  refine tj_lv0 (lv' := [(0, .ref (h0 + t)), (1, .int p1)]) rfl ?_
  refine tj_aload_n (q := 1) dX11_unbettered_0 rfl (i := 0) rfl (pl := 0) rfl ?_
  refine tj_iload_n (q := 2) dX11_unbettered_1 rfl (i := 1) rfl (pl := 1) rfl ?_
  refine tj_callZp (q := 5) (kj_V (As := [.int p1]) (rest := []) (t := t) wi_RX11_174 (hT).s rfl (rX11_isHouse t tw dr p1 (hT)) rfl (Nat.le_of_ble_eq_true rfl) ⟨Nat.le_of_ble_eq_true rfl, Nat.le_of_ble_eq_true rfl⟩ (Nat.le_of_ble_eq_true rfl) dX11_unbettered_2) rfl (fun r1 => ?_)
  refine tj_bnz (tgt := 10) (q := 8) dX11_unbettered_5 (by decide) rfl ?_ ?_
  · refine tj_iconst (q := 11) (v := 0) dX11_unbettered_10 rfl (by decide) ?_
    refine tj_istore_n (q := 12) dX11_unbettered_11 rfl (i := 2) rfl (by decide) rfl ?_
    refine tj_iconst (q := 13) (v := 0) dX11_unbettered_12 rfl (by decide) ?_
    refine tj_istore_n (q := 14) dX11_unbettered_13 rfl (i := 3) rfl (by decide) rfl ?_
    refine tj_lv [2, 3, 1, 0] rfl ?_
    exact tmX11_unbettered_L14 t tw dr hT p1 FU (0 : Int32) (0 : Int32) σ
  · refine tj_iconst (q := 9) (v := (-1)) dX11_unbettered_8 rfl (by decide) ?_
    exact tj_iret rfl rfl (Nat.le_of_ble_eq_true rfl) (Nat.le_of_ble_eq_true rfl) dX11_unbettered_9

theorem dX11_canUndo_0 : decode cX11_canUndo 0 = .ok (.aload_n 0, 1) := by decide +kernel
theorem dX11_canUndo_1 : decode cX11_canUndo 1 = .ok (.getfield 75, 3) := by decide +kernel
theorem dX11_canUndo_4 : decode cX11_canUndo 4 = .ok (.getfield 233, 3) := by decide +kernel
theorem dX11_canUndo_7 : decode cX11_canUndo 7 = .ok (.iload_n 2, 1) := by decide +kernel
theorem dX11_canUndo_8 : decode cX11_canUndo 8 = .ok (.iaload, 1) := by decide +kernel
theorem dX11_canUndo_9 : decode cX11_canUndo 9 = .ok (.istore_n 3, 1) := by decide +kernel
theorem dX11_canUndo_10 : decode cX11_canUndo 10 = .ok (.iconst 1, 1) := by decide +kernel
theorem dX11_canUndo_11 : decode cX11_canUndo 11 = .ok (.aload_n 0, 1) := by decide +kernel
theorem dX11_canUndo_12 : decode cX11_canUndo 12 = .ok (.getfield 75, 3) := by decide +kernel
theorem dX11_canUndo_15 : decode cX11_canUndo 15 = .ok (.getfield 239, 3) := by decide +kernel
theorem dX11_canUndo_18 : decode cX11_canUndo 18 = .ok (.iload_n 2, 1) := by decide +kernel
theorem dX11_canUndo_19 : decode cX11_canUndo 19 = .ok (.iaload, 1) := by decide +kernel
theorem dX11_canUndo_20 : decode cX11_canUndo 20 = .ok (.ishl, 1) := by decide +kernel
theorem dX11_canUndo_21 : decode cX11_canUndo 21 = .ok (.istore 4, 2) := by decide +kernel
theorem dX11_canUndo_23 : decode cX11_canUndo 23 = .ok (.aload_n 0, 1) := by decide +kernel
theorem dX11_canUndo_24 : decode cX11_canUndo 24 = .ok (.getfield 93, 3) := by decide +kernel
theorem dX11_canUndo_27 : decode cX11_canUndo 27 = .ok (.aload_n 0, 1) := by decide +kernel
theorem dX11_canUndo_28 : decode cX11_canUndo 28 = .ok (.getfield 36, 3) := by decide +kernel
theorem dX11_canUndo_31 : decode cX11_canUndo 31 = .ok (.invokevirtual 307, 3) := by decide +kernel
theorem dX11_canUndo_34 : decode cX11_canUndo 34 = .ok (.aload_n 0, 1) := by decide +kernel
theorem dX11_canUndo_35 : decode cX11_canUndo 35 = .ok (.getfield 93, 3) := by decide +kernel
theorem dX11_canUndo_38 : decode cX11_canUndo 38 = .ok (.iload_n 1, 1) := by decide +kernel
theorem dX11_canUndo_39 : decode cX11_canUndo 39 = .ok (.iload_n 3, 1) := by decide +kernel
theorem dX11_canUndo_40 : decode cX11_canUndo 40 = .ok (.iload 4, 2) := by decide +kernel
theorem dX11_canUndo_42 : decode cX11_canUndo 42 = .ok (.aload_n 0, 1) := by decide +kernel
theorem dX11_canUndo_43 : decode cX11_canUndo 43 = .ok (.getfield 75, 3) := by decide +kernel
theorem dX11_canUndo_46 : decode cX11_canUndo 46 = .ok (.getfield 242, 3) := by decide +kernel
theorem dX11_canUndo_49 : decode cX11_canUndo 49 = .ok (.iload_n 2, 1) := by decide +kernel
theorem dX11_canUndo_50 : decode cX11_canUndo 50 = .ok (.iaload, 1) := by decide +kernel
theorem dX11_canUndo_51 : decode cX11_canUndo 51 = .ok (.invokevirtual 206, 3) := by decide +kernel
theorem dX11_canUndo_54 : decode cX11_canUndo 54 = .ok (.aload_n 0, 1) := by decide +kernel
theorem dX11_canUndo_55 : decode cX11_canUndo 55 = .ok (.getfield 26, 3) := by decide +kernel
theorem dX11_canUndo_58 : decode cX11_canUndo 58 = .ok (.aload_n 0, 1) := by decide +kernel
theorem dX11_canUndo_59 : decode cX11_canUndo 59 = .ok (.getfield 93, 3) := by decide +kernel
theorem dX11_canUndo_62 : decode cX11_canUndo 62 = .ok (.iload_n 1, 1) := by decide +kernel
theorem dX11_canUndo_63 : decode cX11_canUndo 63 = .ok (.iload_n 3, 1) := by decide +kernel
theorem dX11_canUndo_64 : decode cX11_canUndo 64 = .ok (.aload_n 0, 1) := by decide +kernel
theorem dX11_canUndo_65 : decode cX11_canUndo 65 = .ok (.getfield 75, 3) := by decide +kernel
theorem dX11_canUndo_68 : decode cX11_canUndo 68 = .ok (.getfield 242, 3) := by decide +kernel
theorem dX11_canUndo_71 : decode cX11_canUndo 71 = .ok (.iload_n 2, 1) := by decide +kernel
theorem dX11_canUndo_72 : decode cX11_canUndo 72 = .ok (.iaload, 1) := by decide +kernel
theorem dX11_canUndo_73 : decode cX11_canUndo 73 = .ok (.iload 4, 2) := by decide +kernel
theorem dX11_canUndo_75 : decode cX11_canUndo 75 = .ok (.invokevirtual 310, 3) := by decide +kernel
theorem dX11_canUndo_78 : decode cX11_canUndo 78 = .ok (.ireturn, 1) := by decide +kernel
theorem wl_RX11_93 : Cond.fieldLink RX11 93 (TX11 15).1 (TX11 15).2.1 (TX11 15).2.2.1 ∈ TB := tbm 628 (by decide +kernel) (by decide +kernel)
theorem wi_RX11_307 : Iv RX11 307 yX8_copy cX8_copy 2 none 1 := ⟨tbm 1307 (by decide +kernel) (by decide +kernel), wm_X8_copy⟩
theorem wm_X1_isSwap : Cond.instanceMethod yX1_isSwap ∈ TB ∧ Cond.selects yX1_isSwap.cls yX1_isSwap yX1_isSwap ∈ TB ∧ Cond.initialized yX1_isSwap.cls ∈ TB ∧ Cond.code yX1_isSwap cX1_isSwap 6 (some .boolean) ∈ TB ∧ (yX1_isSwap.cls ≠ "java/lang/invoke/MethodHandle" ∧ yX1_isSwap.cls ≠ "java/lang/invoke/VarHandle" ∧ (parseMethodDescriptor yX1_isSwap.desc).map (fun d => d.parameters.length) = some 5) ∧ 6 ≤ 21 := ⟨tbm 1309 (by decide +kernel) (by decide +kernel), tbm 1310 (by decide +kernel) (by decide +kernel), tbm 138 (by decide +kernel) (by decide +kernel), tbm 1311 (by decide +kernel) (by decide +kernel), by decide +kernel, by decide⟩
theorem wi_RX11_310 : Iv RX11 310 yX1_isSwap cX1_isSwap 6 (some .boolean) 5 := ⟨tbm 1308 (by decide +kernel) (by decide +kernel), wm_X1_isSwap⟩
def mX11_canUndo (t : Nat) (tw : Nat) (dr : Nat) (p1 : Int32) (p2 : Int32) (σ : St_) : Option (Bool × St_) :=
 (if bin p2 100 = true then bnd (σ.1 (t + 183 + 1) p2.toNatClampNeg) fun v1 =>
 (if bin p2 100 = true then bnd (σ.1 (t + 183 + 2) p2.toNatClampNeg) fun v2 =>
 (bnd ((1 : Int32) <<< (v2 &&& 31)) fun v3 =>
 ((mX8_copy (t + 221) (t + 44) σ).bind fun σ4 =>
 (if bin p2 100 = true then bnd (σ4.1 (t + 183 + 3) p2.toNatClampNeg) fun v5 =>
 ((mX8_exchange (t + 221) p1 v1 v3 v5 σ4).bind fun σ6 =>
 (if bin p2 100 = true then bnd (σ6.1 (t + 183 + 3) p2.toNatClampNeg) fun v7 =>
 ((mX1_isSwap tw (t + 221) p1 v1 v7 v3 σ6).bind fun r8 =>
 (some (r8.1, r8.2)))
 else none))
 else none)))
 else none)
 else none)
set_option maxHeartbeats 4000000 in
theorem rX11_canUndo (t : Nat) (tw : Nat) (dr : Nat) (p1 : Int32) (p2 : Int32) (hT : LY11 sh P t tw dr) : Rj l D cA h0 ad yX11_canUndo cX11_canUndo 5 (some .boolean) false 6 0 0 (fun b => (some (.int (b2i b.1)), sh, P, b.2)) [.ref (h0 + t), .int p1, .int p2] sh P σ (mX11_canUndo t tw dr p1 p2 σ) := by
  rw [mX11_canUndo]
  refine Rj.of (by decide) (fun h => by cases h) (Nat.le_of_ble_eq_true rfl) ?_
  refine tj_lv0 (lv' := [(0, .ref (h0 + t)), (1, .int p1), (2, .int p2)]) rfl ?_
  refine tj_aload_n (q := 1) dX11_canUndo_0 rfl (i := 0) rfl (pl := 0) rfl ?_
  refine tj_getR (q := 4) (hT).s (hT).p_list fok_11_12 wl_RX11_75 dX11_canUndo_1 rfl ?_
  refine tj_getR (q := 7) ((hT).o_list).s ((hT).o_list).p_house fok_9_0 wl_RX11_233 dX11_canUndo_4 rfl ?_
  refine tj_iload_n (q := 8) dX11_canUndo_7 rfl (i := 2) rfl (pl := 2) rfl ?_
  refine tj_iaload (q := 9) ((hT).o_list).s_house dX11_canUndo_8 rfl ?_
  refine tj_topI (fun v1 => ?_)
  refine tj_istore_n (q := 10) dX11_canUndo_9 rfl (i := 3) rfl (by decide) rfl ?_
  refine tj_iconst (q := 11) (v := 1) dX11_canUndo_10 rfl (by decide) ?_
  refine tj_aload_n (q := 12) dX11_canUndo_11 rfl (i := 0) rfl (pl := 1) rfl ?_
  refine tj_getR (q := 15) (hT).s (hT).p_list fok_11_12 wl_RX11_75 dX11_canUndo_12 rfl ?_
  refine tj_getR (q := 18) ((hT).o_list).s ((hT).o_list).p_thing fok_9_1 wl_RX11_239 dX11_canUndo_15 rfl ?_
  refine tj_iload_n (q := 19) dX11_canUndo_18 rfl (i := 2) rfl (pl := 3) rfl ?_
  refine tj_iaload (q := 20) ((hT).o_list).s_thing dX11_canUndo_19 rfl ?_
  refine tj_topI (fun v2 => ?_)
  refine tj_ishl (q := 21) dX11_canUndo_20 rfl ?_
  refine tj_topI (fun v3 => ?_)
  refine tj_istore (q := 23) dX11_canUndo_21 rfl (by decide) rfl ?_
  refine tj_aload_n (q := 24) dX11_canUndo_23 rfl (i := 0) rfl (pl := 2) rfl ?_
  refine tj_getR (q := 27) (hT).s (hT).p_trial fok_11_15 wl_RX11_93 dX11_canUndo_24 rfl ?_
  refine tj_aload_n (q := 28) dX11_canUndo_27 rfl (i := 0) rfl (pl := 2) rfl ?_
  refine tj_getR (q := 31) (hT).s (hT).p_now fok_11_4 wl_RX11_36 dX11_canUndo_28 rfl ?_
  refine tj_callV (q := 34) (kj_V (As := [.ref (h0 + (t + 44))]) (rest := []) (t := (t + 221)) wi_RX11_307 ((hT).o_trial).s rfl (rX8_copy (t + 221) (t + 44) ((hT).o_trial) ((hT).o_now)) rfl (Nat.le_of_ble_eq_true rfl) ⟨Nat.le_of_ble_eq_true rfl, Nat.le_of_ble_eq_true rfl⟩ (Nat.le_of_ble_eq_true rfl) dX11_canUndo_31) rfl (fun σ4 => ?_)
  refine tj_aload_n (q := 35) dX11_canUndo_34 rfl (i := 0) rfl (pl := 2) rfl ?_
  refine tj_getR (q := 38) (hT).s (hT).p_trial fok_11_15 wl_RX11_93 dX11_canUndo_35 rfl ?_
  refine tj_iload_n (q := 39) dX11_canUndo_38 rfl (i := 1) rfl (pl := 3) rfl ?_
  refine tj_iload_n (q := 40) dX11_canUndo_39 rfl (i := 3) rfl (pl := 1) rfl ?_
  refine tj_iload (q := 42) dX11_canUndo_40 rfl (pl := 0) rfl ?_
  refine tj_aload_n (q := 43) dX11_canUndo_42 rfl (i := 0) rfl (pl := 2) rfl ?_
  refine tj_getR (q := 46) (hT).s (hT).p_list fok_11_12 wl_RX11_75 dX11_canUndo_43 rfl ?_
  refine tj_getR (q := 49) ((hT).o_list).s ((hT).o_list).p_left fok_9_2 wl_RX11_242 dX11_canUndo_46 rfl ?_
  refine tj_iload_n (q := 50) dX11_canUndo_49 rfl (i := 2) rfl (pl := 4) rfl ?_
  refine tj_iaload (q := 51) ((hT).o_list).s_left dX11_canUndo_50 rfl ?_
  refine tj_topI (fun v5 => ?_)
  refine tj_callV (q := 54) (kj_V (As := [.int p1, .int v1, .int v3, .int v5]) (rest := []) (t := (t + 221)) wi_RX11_206 ((hT).o_trial).s rfl (rX8_exchange (t + 221) p1 v1 v3 v5 ((hT).o_trial)) rfl (Nat.le_of_ble_eq_true rfl) ⟨Nat.le_of_ble_eq_true rfl, Nat.le_of_ble_eq_true rfl⟩ (Nat.le_of_ble_eq_true rfl) dX11_canUndo_51) rfl (fun σ6 => ?_)
  refine tj_aload_n (q := 55) dX11_canUndo_54 rfl (i := 0) rfl (pl := 2) rfl ?_
  refine tj_getR (q := 58) (hT).s (hT).p_town fok_11_2 wl_RX11_26 dX11_canUndo_55 rfl ?_
  refine tj_aload_n (q := 59) dX11_canUndo_58 rfl (i := 0) rfl (pl := 2) rfl ?_
  refine tj_getR (q := 62) (hT).s (hT).p_trial fok_11_15 wl_RX11_93 dX11_canUndo_59 rfl ?_
  refine tj_iload_n (q := 63) dX11_canUndo_62 rfl (i := 1) rfl (pl := 3) rfl ?_
  refine tj_iload_n (q := 64) dX11_canUndo_63 rfl (i := 3) rfl (pl := 1) rfl ?_
  refine tj_aload_n (q := 65) dX11_canUndo_64 rfl (i := 0) rfl (pl := 2) rfl ?_
  refine tj_getR (q := 68) (hT).s (hT).p_list fok_11_12 wl_RX11_75 dX11_canUndo_65 rfl ?_
  refine tj_getR (q := 71) ((hT).o_list).s ((hT).o_list).p_left fok_9_2 wl_RX11_242 dX11_canUndo_68 rfl ?_
  refine tj_iload_n (q := 72) dX11_canUndo_71 rfl (i := 2) rfl (pl := 4) rfl ?_
  refine tj_iaload (q := 73) ((hT).o_list).s_left dX11_canUndo_72 rfl ?_
  refine tj_topI (fun v7 => ?_)
  refine tj_iload (q := 75) dX11_canUndo_73 rfl (pl := 0) rfl ?_
  refine tj_callZ (q := 78) (kj_V (As := [.ref (h0 + (t + 221)), .int p1, .int v1, .int v7, .int v3]) (rest := []) (t := tw) wi_RX11_310 ((hT).o_town).s rfl (rX1_isSwap tw (t + 221) p1 v1 v7 v3 ((hT).o_town) ((hT).o_trial)) rfl (Nat.le_of_ble_eq_true rfl) ⟨Nat.le_of_ble_eq_true rfl, Nat.le_of_ble_eq_true rfl⟩ (Nat.le_of_ble_eq_true rfl) dX11_canUndo_75) rfl (fun r8 => ?_)
  exact tj_zret rfl (nar_b2i _) rfl (Nat.le_of_ble_eq_true rfl) (Nat.le_of_ble_eq_true rfl) dX11_canUndo_78

theorem dX11_layLoophole_0 : decode cX11_layLoophole 0 = .ok (.aload_n 0, 1) := by decide +kernel
theorem dX11_layLoophole_1 : decode cX11_layLoophole 1 = .ok (.getfield 59, 3) := by decide +kernel
theorem dX11_layLoophole_4 : decode cX11_layLoophole 4 = .ok (.ifCond .le 4, 3) := by decide +kernel
theorem dX11_layLoophole_7 : decode cX11_layLoophole 7 = .ok (.return_, 1) := by decide +kernel
theorem dX11_layLoophole_8 : decode cX11_layLoophole 8 = .ok (.aload_n 0, 1) := by decide +kernel
theorem dX11_layLoophole_9 : decode cX11_layLoophole 9 = .ok (.iload_n 1, 1) := by decide +kernel
theorem dX11_layLoophole_10 : decode cX11_layLoophole 10 = .ok (.invokevirtual 236, 3) := by decide +kernel
theorem dX11_layLoophole_13 : decode cX11_layLoophole 13 = .ok (.aload_n 0, 1) := by decide +kernel
theorem dX11_layLoophole_14 : decode cX11_layLoophole 14 = .ok (.aload_n 0, 1) := by decide +kernel
theorem dX11_layLoophole_15 : decode cX11_layLoophole 15 = .ok (.getfield 75, 3) := by decide +kernel
theorem dX11_layLoophole_18 : decode cX11_layLoophole 18 = .ok (.getfield 233, 3) := by decide +kernel
theorem dX11_layLoophole_21 : decode cX11_layLoophole 21 = .ok (.iload_n 2, 1) := by decide +kernel
theorem dX11_layLoophole_22 : decode cX11_layLoophole 22 = .ok (.iaload, 1) := by decide +kernel
theorem dX11_layLoophole_23 : decode cX11_layLoophole 23 = .ok (.invokevirtual 236, 3) := by decide +kernel
theorem dX11_layLoophole_26 : decode cX11_layLoophole 26 = .ok (.aload_n 0, 1) := by decide +kernel
theorem dX11_layLoophole_27 : decode cX11_layLoophole 27 = .ok (.aload_n 0, 1) := by decide +kernel
theorem dX11_layLoophole_28 : decode cX11_layLoophole 28 = .ok (.getfield 75, 3) := by decide +kernel
theorem dX11_layLoophole_31 : decode cX11_layLoophole 31 = .ok (.getfield 239, 3) := by decide +kernel
theorem dX11_layLoophole_34 : decode cX11_layLoophole 34 = .ok (.iload_n 2, 1) := by decide +kernel
theorem dX11_layLoophole_35 : decode cX11_layLoophole 35 = .ok (.iaload, 1) := by decide +kernel
theorem dX11_layLoophole_36 : decode cX11_layLoophole 36 = .ok (.invokevirtual 236, 3) := by decide +kernel
theorem dX11_layLoophole_39 : decode cX11_layLoophole 39 = .ok (.aload_n 0, 1) := by decide +kernel
theorem dX11_layLoophole_40 : decode cX11_layLoophole 40 = .ok (.aload_n 0, 1) := by decide +kernel
theorem dX11_layLoophole_41 : decode cX11_layLoophole 41 = .ok (.getfield 75, 3) := by decide +kernel
theorem dX11_layLoophole_44 : decode cX11_layLoophole 44 = .ok (.getfield 242, 3) := by decide +kernel
theorem dX11_layLoophole_47 : decode cX11_layLoophole 47 = .ok (.iload_n 2, 1) := by decide +kernel
theorem dX11_layLoophole_48 : decode cX11_layLoophole 48 = .ok (.iaload, 1) := by decide +kernel
theorem dX11_layLoophole_49 : decode cX11_layLoophole 49 = .ok (.invokestatic 313, 3) := by decide +kernel
theorem dX11_layLoophole_52 : decode cX11_layLoophole 52 = .ok (.invokevirtual 236, 3) := by decide +kernel
theorem dX11_layLoophole_55 : decode cX11_layLoophole 55 = .ok (.return_, 1) := by decide +kernel
theorem wi_RX11_313 : Is RX11 313 yJ6_numberOfTrailingZeros_0f7a4 cJ6_numberOfTrailingZeros_0f7a4 2 (some .int) 1 := ⟨tbm 1319 (by decide +kernel) (by decide +kernel), wm_J6_numberOfTrailingZeros_0f7a4⟩
def mX11_layLoophole (t : Nat) (tw : Nat) (dr : Nat) (p1 : Int32) (p2 : Int32) (σ : St_) : Option St_ :=
 (if (σ.1 t 9) ≤ 0 then
 ((mX11_lay t tw dr p1 σ).bind fun σ1 =>
 (if bin p2 100 = true then bnd (σ1.1 (t + 183 + 1) p2.toNatClampNeg) fun v2 =>
 ((mX11_lay t tw dr v2 σ1).bind fun σ3 =>
 (if bin p2 100 = true then bnd (σ3.1 (t + 183 + 2) p2.toNatClampNeg) fun v4 =>
 ((mX11_lay t tw dr v4 σ3).bind fun σ5 =>
 (if bin p2 100 = true then bnd (σ5.1 (t + 183 + 3) p2.toNatClampNeg) fun v6 =>
 ((mJ6_numberOfTrailingZeros_0f7a4 v6 σ5).bind fun r7 =>
 ((mX11_lay t tw dr r7 σ5).bind fun σ8 =>
 (some σ8)))
 else none))
 else none))
 else none))
 else (some σ))
set_option maxHeartbeats 4000000 in
theorem rX11_layLoophole (t : Nat) (tw : Nat) (dr : Nat) (p1 : Int32) (p2 : Int32) (hT : LY11 sh P t tw dr) : Rj l D cA h0 ad yX11_layLoophole cX11_layLoophole 3 none false 3 0 0 (fun b => (none, sh, P, b)) [.ref (h0 + t), .int p1, .int p2] sh P σ (mX11_layLoophole t tw dr p1 p2 σ) := by
  rw [mX11_layLoophole]
  refine Rj.of (by decide) (fun h => by cases h) (Nat.le_of_ble_eq_true rfl) ?_
  refine tj_lv0 (lv' := [(0, .ref (h0 + t)), (1, .int p1), (2, .int p2)]) rfl ?_
  refine tj_aload_n (q := 1) dX11_layLoophole_0 rfl (i := 0) rfl (pl := 0) rfl ?_
  refine tj_getI (q := 4) (hT).s fok_11_9 wl_RX11_59 dX11_layLoophole_1 rfl ?_
  refine tj_if_le (tgt := 8) (q := 7) dX11_layLoophole_4 (by decide) rfl ?_ ?_
  · refine tj_aload_n (q := 9) dX11_layLoophole_8 rfl (i := 0) rfl (pl := 0) rfl ?_
    refine tj_iload_n (q := 10) dX11_layLoophole_9 rfl (i := 1) rfl (pl := 1) rfl ?_
    refine tj_callV (q := 13) (kj_V (As := [.int p1]) (rest := []) (t := t) wi_RX11_236 (hT).s rfl (rX11_lay t tw dr p1 (hT)) rfl (Nat.le_of_ble_eq_true rfl) ⟨Nat.le_of_ble_eq_true rfl, Nat.le_of_ble_eq_true rfl⟩ (Nat.le_of_ble_eq_true rfl) dX11_layLoophole_10) rfl (fun σ1 => ?_)
    refine tj_aload_n (q := 14) dX11_layLoophole_13 rfl (i := 0) rfl (pl := 0) rfl ?_
    refine tj_aload_n (q := 15) dX11_layLoophole_14 rfl (i := 0) rfl (pl := 0) rfl ?_
    refine tj_getR (q := 18) (hT).s (hT).p_list fok_11_12 wl_RX11_75 dX11_layLoophole_15 rfl ?_
    refine tj_getR (q := 21) ((hT).o_list).s ((hT).o_list).p_house fok_9_0 wl_RX11_233 dX11_layLoophole_18 rfl ?_
    refine tj_iload_n (q := 22) dX11_layLoophole_21 rfl (i := 2) rfl (pl := 2) rfl ?_
    refine tj_iaload (q := 23) ((hT).o_list).s_house dX11_layLoophole_22 rfl ?_
    refine tj_topI (fun v2 => ?_)
    refine tj_callV (q := 26) (kj_V (As := [.int v2]) (rest := []) (t := t) wi_RX11_236 (hT).s rfl (rX11_lay t tw dr v2 (hT)) rfl (Nat.le_of_ble_eq_true rfl) ⟨Nat.le_of_ble_eq_true rfl, Nat.le_of_ble_eq_true rfl⟩ (Nat.le_of_ble_eq_true rfl) dX11_layLoophole_23) rfl (fun σ3 => ?_)
    refine tj_aload_n (q := 27) dX11_layLoophole_26 rfl (i := 0) rfl (pl := 0) rfl ?_
    refine tj_aload_n (q := 28) dX11_layLoophole_27 rfl (i := 0) rfl (pl := 0) rfl ?_
    refine tj_getR (q := 31) (hT).s (hT).p_list fok_11_12 wl_RX11_75 dX11_layLoophole_28 rfl ?_
    refine tj_getR (q := 34) ((hT).o_list).s ((hT).o_list).p_thing fok_9_1 wl_RX11_239 dX11_layLoophole_31 rfl ?_
    refine tj_iload_n (q := 35) dX11_layLoophole_34 rfl (i := 2) rfl (pl := 2) rfl ?_
    refine tj_iaload (q := 36) ((hT).o_list).s_thing dX11_layLoophole_35 rfl ?_
    refine tj_topI (fun v4 => ?_)
    refine tj_callV (q := 39) (kj_V (As := [.int v4]) (rest := []) (t := t) wi_RX11_236 (hT).s rfl (rX11_lay t tw dr v4 (hT)) rfl (Nat.le_of_ble_eq_true rfl) ⟨Nat.le_of_ble_eq_true rfl, Nat.le_of_ble_eq_true rfl⟩ (Nat.le_of_ble_eq_true rfl) dX11_layLoophole_36) rfl (fun σ5 => ?_)
    refine tj_aload_n (q := 40) dX11_layLoophole_39 rfl (i := 0) rfl (pl := 0) rfl ?_
    refine tj_aload_n (q := 41) dX11_layLoophole_40 rfl (i := 0) rfl (pl := 0) rfl ?_
    refine tj_getR (q := 44) (hT).s (hT).p_list fok_11_12 wl_RX11_75 dX11_layLoophole_41 rfl ?_
    refine tj_getR (q := 47) ((hT).o_list).s ((hT).o_list).p_left fok_9_2 wl_RX11_242 dX11_layLoophole_44 rfl ?_
    refine tj_iload_n (q := 48) dX11_layLoophole_47 rfl (i := 2) rfl (pl := 2) rfl ?_
    refine tj_iaload (q := 49) ((hT).o_list).s_left dX11_layLoophole_48 rfl ?_
    refine tj_topI (fun v6 => ?_)
    refine tj_callIp (q := 52) (kj_S (As := [.int v6]) (rest := [.ref (h0 + t)]) wi_RX11_313 (rJ6_numberOfTrailingZeros_0f7a4 v6) rfl (Nat.le_of_ble_eq_true rfl) ⟨Nat.le_of_ble_eq_true rfl, Nat.le_of_ble_eq_true rfl⟩ (Nat.le_of_ble_eq_true rfl) dX11_layLoophole_49) rfl (fun r7 => ?_)
    refine tj_callV (q := 55) (kj_V (As := [.int r7]) (rest := []) (t := t) wi_RX11_236 (hT).s rfl (rX11_lay t tw dr r7 (hT)) rfl (Nat.le_of_ble_eq_true rfl) ⟨Nat.le_of_ble_eq_true rfl, Nat.le_of_ble_eq_true rfl⟩ (Nat.le_of_ble_eq_true rfl) dX11_layLoophole_52) rfl (fun σ8 => ?_)
    exact tj_vret rfl rfl (Nat.le_of_ble_eq_true rfl) (Nat.le_of_ble_eq_true rfl) dX11_layLoophole_55
  · exact tj_vret rfl rfl (Nat.le_of_ble_eq_true rfl) (Nat.le_of_ble_eq_true rfl) dX11_layLoophole_7

theorem dX11_loopholes_0 : decode cX11_loopholes 0 = .ok (.aload_n 0, 1) := by decide +kernel
theorem dX11_loopholes_1 : decode cX11_loopholes 1 = .ok (.iconst 0, 1) := by decide +kernel
theorem dX11_loopholes_2 : decode cX11_loopholes 2 = .ok (.putfield 59, 3) := by decide +kernel
theorem dX11_loopholes_5 : decode cX11_loopholes 5 = .ok (.iconst 0, 1) := by decide +kernel
theorem dX11_loopholes_6 : decode cX11_loopholes 6 = .ok (.istore_n 1, 1) := by decide +kernel
theorem dX11_loopholes_7 : decode cX11_loopholes 7 = .ok (.iconst 0, 1) := by decide +kernel
theorem dX11_loopholes_8 : decode cX11_loopholes 8 = .ok (.istore_n 2, 1) := by decide +kernel
theorem dX11_loopholes_9 : decode cX11_loopholes 9 = .ok (.iload_n 2, 1) := by decide +kernel
theorem dX11_loopholes_10 : decode cX11_loopholes 10 = .ok (.aload_n 0, 1) := by decide +kernel
theorem dX11_loopholes_11 : decode cX11_loopholes 11 = .ok (.getfield 26, 3) := by decide +kernel
theorem dX11_loopholes_14 : decode cX11_loopholes 14 = .ok (.getfield 276, 3) := by decide +kernel
theorem dX11_loopholes_17 : decode cX11_loopholes 17 = .ok (.if_icmp .ge 78, 3) := by decide +kernel
theorem dX11_loopholes_20 : decode cX11_loopholes 20 = .ok (.aload_n 0, 1) := by decide +kernel
theorem dX11_loopholes_21 : decode cX11_loopholes 21 = .ok (.getfield 75, 3) := by decide +kernel
theorem dX11_loopholes_24 : decode cX11_loopholes 24 = .ok (.aload_n 0, 1) := by decide +kernel
theorem dX11_loopholes_25 : decode cX11_loopholes 25 = .ok (.getfield 26, 3) := by decide +kernel
theorem dX11_loopholes_28 : decode cX11_loopholes 28 = .ok (.aload_n 0, 1) := by decide +kernel
theorem dX11_loopholes_29 : decode cX11_loopholes 29 = .ok (.getfield 36, 3) := by decide +kernel
theorem dX11_loopholes_32 : decode cX11_loopholes 32 = .ok (.iload_n 2, 1) := by decide +kernel
theorem dX11_loopholes_33 : decode cX11_loopholes 33 = .ok (.invokevirtual 223, 3) := by decide +kernel
theorem dX11_loopholes_36 : decode cX11_loopholes 36 = .ok (.iconst 0, 1) := by decide +kernel
theorem dX11_loopholes_37 : decode cX11_loopholes 37 = .ok (.istore_n 3, 1) := by decide +kernel
theorem dX11_loopholes_38 : decode cX11_loopholes 38 = .ok (.iload_n 3, 1) := by decide +kernel
theorem dX11_loopholes_39 : decode cX11_loopholes 39 = .ok (.aload_n 0, 1) := by decide +kernel
theorem dX11_loopholes_40 : decode cX11_loopholes 40 = .ok (.getfield 75, 3) := by decide +kernel
theorem dX11_loopholes_43 : decode cX11_loopholes 43 = .ok (.getfield 227, 3) := by decide +kernel
theorem dX11_loopholes_46 : decode cX11_loopholes 46 = .ok (.if_icmp .ge 43, 3) := by decide +kernel
theorem dX11_loopholes_49 : decode cX11_loopholes 49 = .ok (.aload_n 0, 1) := by decide +kernel
theorem dX11_loopholes_50 : decode cX11_loopholes 50 = .ok (.getfield 75, 3) := by decide +kernel
theorem dX11_loopholes_53 : decode cX11_loopholes 53 = .ok (.getfield 242, 3) := by decide +kernel
theorem dX11_loopholes_56 : decode cX11_loopholes 56 = .ok (.iload_n 3, 1) := by decide +kernel
theorem dX11_loopholes_57 : decode cX11_loopholes 57 = .ok (.iaload, 1) := by decide +kernel
theorem dX11_loopholes_58 : decode cX11_loopholes 58 = .ok (.invokestatic 295, 3) := by decide +kernel
theorem dX11_loopholes_61 : decode cX11_loopholes 61 = .ok (.iconst 1, 1) := by decide +kernel
theorem dX11_loopholes_62 : decode cX11_loopholes 62 = .ok (.if_icmp .ne 21, 3) := by decide +kernel
theorem dX11_loopholes_65 : decode cX11_loopholes 65 = .ok (.aload_n 0, 1) := by decide +kernel
theorem dX11_loopholes_66 : decode cX11_loopholes 66 = .ok (.iload_n 2, 1) := by decide +kernel
theorem dX11_loopholes_67 : decode cX11_loopholes 67 = .ok (.iload_n 3, 1) := by decide +kernel
theorem dX11_loopholes_68 : decode cX11_loopholes 68 = .ok (.invokevirtual 300, 3) := by decide +kernel
theorem dX11_loopholes_71 : decode cX11_loopholes 71 = .ok (.ifCond .eq 12, 3) := by decide +kernel
theorem dX11_loopholes_74 : decode cX11_loopholes 74 = .ok (.aload_n 0, 1) := by decide +kernel
theorem dX11_loopholes_75 : decode cX11_loopholes 75 = .ok (.iload_n 2, 1) := by decide +kernel
theorem dX11_loopholes_76 : decode cX11_loopholes 76 = .ok (.iload_n 3, 1) := by decide +kernel
theorem dX11_loopholes_77 : decode cX11_loopholes 77 = .ok (.invokevirtual 303, 3) := by decide +kernel
theorem dX11_loopholes_80 : decode cX11_loopholes 80 = .ok (.iinc 1 1, 3) := by decide +kernel
theorem dX11_loopholes_83 : decode cX11_loopholes 83 = .ok (.iinc 3 1, 3) := by decide +kernel
theorem dX11_loopholes_86 : decode cX11_loopholes 86 = .ok (.goto (-48), 3) := by decide +kernel
theorem dX11_loopholes_89 : decode cX11_loopholes 89 = .ok (.iinc 2 1, 3) := by decide +kernel
theorem dX11_loopholes_92 : decode cX11_loopholes 92 = .ok (.goto (-83), 3) := by decide +kernel
theorem dX11_loopholes_95 : decode cX11_loopholes 95 = .ok (.iload_n 1, 1) := by decide +kernel
theorem dX11_loopholes_96 : decode cX11_loopholes 96 = .ok (.ireturn, 1) := by decide +kernel
theorem wm_X11_canUndo : Cond.instanceMethod yX11_canUndo ∈ TB ∧ Cond.selects yX11_canUndo.cls yX11_canUndo yX11_canUndo ∈ TB ∧ Cond.initialized yX11_canUndo.cls ∈ TB ∧ Cond.code yX11_canUndo cX11_canUndo 5 (some .boolean) ∈ TB ∧ (yX11_canUndo.cls ≠ "java/lang/invoke/MethodHandle" ∧ yX11_canUndo.cls ≠ "java/lang/invoke/VarHandle" ∧ (parseMethodDescriptor yX11_canUndo.desc).map (fun d => d.parameters.length) = some 2) ∧ 5 ≤ 21 := ⟨tbm 1305 (by decide +kernel) (by decide +kernel), tbm 47 (by decide +kernel) (by decide +kernel), tbm 134 (by decide +kernel) (by decide +kernel), tbm 1306 (by decide +kernel) (by decide +kernel), by decide +kernel, by decide⟩
theorem wi_RX11_300 : Iv RX11 300 yX11_canUndo cX11_canUndo 5 (some .boolean) 2 := ⟨tbm 1303 (by decide +kernel) (by decide +kernel), wm_X11_canUndo⟩
theorem wm_X11_layLoophole : Cond.instanceMethod yX11_layLoophole ∈ TB ∧ Cond.selects yX11_layLoophole.cls yX11_layLoophole yX11_layLoophole ∈ TB ∧ Cond.initialized yX11_layLoophole.cls ∈ TB ∧ Cond.code yX11_layLoophole cX11_layLoophole 3 none ∈ TB ∧ (yX11_layLoophole.cls ≠ "java/lang/invoke/MethodHandle" ∧ yX11_layLoophole.cls ≠ "java/lang/invoke/VarHandle" ∧ (parseMethodDescriptor yX11_layLoophole.desc).map (fun d => d.parameters.length) = some 2) ∧ 3 ≤ 21 := ⟨tbm 1317 (by decide +kernel) (by decide +kernel), tbm 48 (by decide +kernel) (by decide +kernel), tbm 134 (by decide +kernel) (by decide +kernel), tbm 1318 (by decide +kernel) (by decide +kernel), by decide +kernel, by decide⟩
theorem wi_RX11_303 : Iv RX11 303 yX11_layLoophole cX11_layLoophole 3 none 2 := ⟨tbm 1315 (by decide +kernel) (by decide +kernel), wm_X11_layLoophole⟩
def mX11_loopholes_L38 (t : Nat) (tw : Nat) (dr : Nat) (x2 : Int32) (k89 : Int32 → St_ → Option (Int32 × St_)) : Nat → Int32 → Int32 → St_ → Option (Int32 × St_)
  | 0, _, _, _ => none
  | n + 1, x1, x3, σ => (if (σ.1 (t + 183) 4) ≤ x3 then
 (k89 x1 σ)
 else (if bin x3 100 = true then bnd (σ.1 (t + 183 + 3) x3.toNatClampNeg) fun v3 =>
 ((mJ6_bitCount_0f7a4 v3 σ).bind fun r4 =>
 (bnd (fun (j5 : Int32) (σ6 : St_) => (mX11_loopholes_L38 t tw dr x2 k89 n j5 (x3 + 1) σ6)) fun k7 =>
 (if r4 = (1 : Int32) then
 ((mX11_canUndo t tw dr x2 x3 σ).bind fun r9 =>
 (if r9.1 = true then
 ((mX11_layLoophole t tw dr x2 x3 r9.2).bind fun σ10 =>
 (k7 (x1 + 1) σ10))
 else (k7 x1 r9.2)))
 else (k7 x1 σ))))
 else none))
def mX11_loopholes_L9 (t : Nat) (tw : Nat) (dr : Nat) : Nat → Int32 → Int32 → St_ → Option (Int32 × St_)
  | 0, _, _, _ => none
  | n + 1, x1, x2, σ => (if (σ.1 tw 4) ≤ x2 then
 (some (x1, σ))
 else ((mX9_gather (t + 183) tw (t + 44) x2 σ).bind fun σ2 =>
 (mX11_loopholes_L38 t tw dr x2
 (fun (y11 : Int32) (σ12 : St_) => (mX11_loopholes_L9 t tw dr n y11 (x2 + 1) σ12)) FU x1 (0 : Int32) σ2)))
def mX11_loopholes (t : Nat) (tw : Nat) (dr : Nat) (σ : St_) : Option (Int32 × St_) :=
 (bnd (sI σ t 9 (0 : Int32)) fun σ1 =>
 (mX11_loopholes_L9 t tw dr FU (0 : Int32) (0 : Int32) σ1))
set_option maxHeartbeats 4000000 in
theorem tmX11_loopholes_L38 (t : Nat) (tw : Nat) (dr : Nat) (hT : LY11 sh P t tw dr) (x2 : Int32) (k89 : Int32 → St_ → Option (Int32 × St_)) (hk89 : ∀ (y1 : Int32) (σ1 : St_), Tj l D cA h0 ad RX11 cX11_loopholes 4 (some .int) false 7 0 0 (fun b => (some (.int b.1), sh, P, b.2)) 0 0 sh P σ1 89 [(0, .ref (h0 + t)), (1, .int y1), (2, .int x2)] [] (k89 y1 σ1)) : ∀ (n : Nat) (x1 : Int32) (x3 : Int32) (σ : St_), Tj l D cA h0 ad RX11 cX11_loopholes 4 (some .int) false 7 0 0 (fun b => (some (.int b.1), sh, P, b.2)) 0 0 sh P σ 38 [(0, .ref (h0 + t)), (1, .int x1), (2, .int x2), (3, .int x3)] [] (mX11_loopholes_L38 t tw dr x2 k89 n x1 x3 σ) := by
  intro n
  induction n with
  | zero => intros; exact tj_none
  | succ n ih =>
    intro x1 x3 σ
    rw [mX11_loopholes_L38]
    refine tj_iload_n (q := 39) dX11_loopholes_38 rfl (i := 3) rfl (pl := 3) rfl ?_
    refine tj_aload_n (q := 40) dX11_loopholes_39 rfl (i := 0) rfl (pl := 0) rfl ?_
    refine tj_getR (q := 43) (hT).s (hT).p_list fok_11_12 wl_RX11_75 dX11_loopholes_40 rfl ?_
    refine tj_getI (q := 46) ((hT).o_list).s fok_9_4 wl_RX11_227 dX11_loopholes_43 rfl ?_
    refine tj_icmp_ge (tgt := 89) (q := 49) dX11_loopholes_46 (by decide) rfl ?_ ?_
    · refine tj_lv [0, 1, 2] rfl ?_
      exact hk89 x1 σ
    · refine tj_aload_n (q := 50) dX11_loopholes_49 rfl (i := 0) rfl (pl := 0) rfl ?_
      refine tj_getR (q := 53) (hT).s (hT).p_list fok_11_12 wl_RX11_75 dX11_loopholes_50 rfl ?_
      refine tj_getR (q := 56) ((hT).o_list).s ((hT).o_list).p_left fok_9_2 wl_RX11_242 dX11_loopholes_53 rfl ?_
      refine tj_iload_n (q := 57) dX11_loopholes_56 rfl (i := 3) rfl (pl := 3) rfl ?_
      refine tj_iaload (q := 58) ((hT).o_list).s_left dX11_loopholes_57 rfl ?_
      refine tj_topI (fun v3 => ?_)
      refine tj_callIp (q := 61) (kj_S (As := [.int v3]) (rest := []) wi_RX11_295 (rJ6_bitCount_0f7a4 v3) rfl (Nat.le_of_ble_eq_true rfl) ⟨Nat.le_of_ble_eq_true rfl, Nat.le_of_ble_eq_true rfl⟩ (Nat.le_of_ble_eq_true rfl) dX11_loopholes_58) rfl (fun r4 => ?_)
      refine tj_iconst (q := 62) (v := 1) dX11_loopholes_61 rfl (by decide) ?_
      refine tj_bnd (fun k7 => ∀ (j5 : Int32) (σ6 : St_), Tj l D cA h0 ad RX11 cX11_loopholes 4 (some .int) false 7 0 0 (fun b => (some (.int b.1), sh, P, b.2)) 0 0 sh P σ6 83 [(0, .ref (h0 + t)), (1, .int j5), (2, .int x2), (3, .int x3)] [] (k7 j5 σ6)) ?_ (fun k7 hk8 => ?_)
      · intro j5 σ6
        refine tj_iinc (q := 86) (v := x3 + 1) dX11_loopholes_83 rfl (pl := 3) rfl rfl (by decide) rfl ?_
        refine tj_goto (q := 38) dX11_loopholes_86 (by decide) ?_
        refine tj_lv [1, 2, 3, 0] rfl ?_
        exact ih j5 (x3 + 1) σ6
      · refine tj_icmp_ne (tgt := 83) (q := 65) dX11_loopholes_62 (by decide) rfl ?_ ?_
        · refine tj_aload_n (q := 66) dX11_loopholes_65 rfl (i := 0) rfl (pl := 0) rfl ?_
          refine tj_iload_n (q := 67) dX11_loopholes_66 rfl (i := 2) rfl (pl := 2) rfl ?_
          refine tj_iload_n (q := 68) dX11_loopholes_67 rfl (i := 3) rfl (pl := 3) rfl ?_
          refine tj_callZ (q := 71) (kj_V (As := [.int x2, .int x3]) (rest := []) (t := t) wi_RX11_300 (hT).s rfl (rX11_canUndo t tw dr x2 x3 (hT)) rfl (Nat.le_of_ble_eq_true rfl) ⟨Nat.le_of_ble_eq_true rfl, Nat.le_of_ble_eq_true rfl⟩ (Nat.le_of_ble_eq_true rfl) dX11_loopholes_68) rfl (fun r9 => ?_)
          refine tj_bz (tgt := 83) (q := 74) dX11_loopholes_71 (by decide) rfl ?_ ?_
          · refine tj_aload_n (q := 75) dX11_loopholes_74 rfl (i := 0) rfl (pl := 0) rfl ?_
            refine tj_iload_n (q := 76) dX11_loopholes_75 rfl (i := 2) rfl (pl := 2) rfl ?_
            refine tj_iload_n (q := 77) dX11_loopholes_76 rfl (i := 3) rfl (pl := 3) rfl ?_
            refine tj_callV (q := 80) (kj_V (As := [.int x2, .int x3]) (rest := []) (t := t) wi_RX11_303 (hT).s rfl (rX11_layLoophole t tw dr x2 x3 (hT)) rfl (Nat.le_of_ble_eq_true rfl) ⟨Nat.le_of_ble_eq_true rfl, Nat.le_of_ble_eq_true rfl⟩ (Nat.le_of_ble_eq_true rfl) dX11_loopholes_77) rfl (fun σ10 => ?_)
            refine tj_iinc (q := 83) (v := x1 + 1) dX11_loopholes_80 rfl (pl := 1) rfl rfl (by decide) rfl ?_
            refine tj_lv [1, 0, 2, 3] rfl ?_
            exact hk8 (x1 + 1) σ10
          · exact hk8 x1 r9.2
        · exact hk8 x1 σ

set_option maxHeartbeats 4000000 in
theorem tmX11_loopholes_L9 (t : Nat) (tw : Nat) (dr : Nat) (hT : LY11 sh P t tw dr) : ∀ (n : Nat) (x1 : Int32) (x2 : Int32) (σ : St_), Tj l D cA h0 ad RX11 cX11_loopholes 4 (some .int) false 7 0 0 (fun b => (some (.int b.1), sh, P, b.2)) 0 0 sh P σ 9 [(0, .ref (h0 + t)), (1, .int x1), (2, .int x2)] [] (mX11_loopholes_L9 t tw dr n x1 x2 σ) := by
  intro n
  induction n with
  | zero => intros; exact tj_none
  | succ n ih =>
    intro x1 x2 σ
    rw [mX11_loopholes_L9]
    refine tj_iload_n (q := 10) dX11_loopholes_9 rfl (i := 2) rfl (pl := 2) rfl ?_
    refine tj_aload_n (q := 11) dX11_loopholes_10 rfl (i := 0) rfl (pl := 0) rfl ?_
    refine tj_getR (q := 14) (hT).s (hT).p_town fok_11_2 wl_RX11_26 dX11_loopholes_11 rfl ?_
    refine tj_getI (q := 17) ((hT).o_town).s fok_1_4 wl_RX11_276 dX11_loopholes_14 rfl ?_
    refine tj_icmp_ge (tgt := 95) (q := 20) dX11_loopholes_17 (by decide) rfl ?_ ?_
    · refine tj_iload_n (q := 96) dX11_loopholes_95 rfl (i := 1) rfl (pl := 1) rfl ?_
      exact tj_iret rfl rfl (Nat.le_of_ble_eq_true rfl) (Nat.le_of_ble_eq_true rfl) dX11_loopholes_96
    · refine tj_aload_n (q := 21) dX11_loopholes_20 rfl (i := 0) rfl (pl := 0) rfl ?_
      refine tj_getR (q := 24) (hT).s (hT).p_list fok_11_12 wl_RX11_75 dX11_loopholes_21 rfl ?_
      refine tj_aload_n (q := 25) dX11_loopholes_24 rfl (i := 0) rfl (pl := 0) rfl ?_
      refine tj_getR (q := 28) (hT).s (hT).p_town fok_11_2 wl_RX11_26 dX11_loopholes_25 rfl ?_
      refine tj_aload_n (q := 29) dX11_loopholes_28 rfl (i := 0) rfl (pl := 0) rfl ?_
      refine tj_getR (q := 32) (hT).s (hT).p_now fok_11_4 wl_RX11_36 dX11_loopholes_29 rfl ?_
      refine tj_iload_n (q := 33) dX11_loopholes_32 rfl (i := 2) rfl (pl := 2) rfl ?_
      refine tj_callV (q := 36) (kj_V (As := [.ref (h0 + tw), .ref (h0 + (t + 44)), .int x2]) (rest := []) (t := (t + 183)) wi_RX11_223 ((hT).o_list).s rfl (rX9_gather (t + 183) tw (t + 44) x2 ((hT).o_list) ((hT).o_town) ((hT).o_now)) rfl (Nat.le_of_ble_eq_true rfl) ⟨Nat.le_of_ble_eq_true rfl, Nat.le_of_ble_eq_true rfl⟩ (Nat.le_of_ble_eq_true rfl) dX11_loopholes_33) rfl (fun σ2 => ?_)
      refine tj_iconst (q := 37) (v := 0) dX11_loopholes_36 rfl (by decide) ?_
      refine tj_istore_n (q := 38) dX11_loopholes_37 rfl (i := 3) rfl (by decide) rfl ?_
      refine tj_lv [1, 2, 3, 0] rfl ?_
      refine tmX11_loopholes_L38 t tw dr hT x2 _ ?_ FU x1 (0 : Int32) σ2
      · intro y11 σ12
        refine tj_iinc (q := 92) (v := x2 + 1) dX11_loopholes_89 rfl (pl := 2) rfl rfl (by decide) rfl ?_
        refine tj_goto (q := 9) dX11_loopholes_92 (by decide) ?_
        refine tj_lv [1, 2, 0] rfl ?_
        exact ih y11 (x2 + 1) σ12

set_option maxHeartbeats 4000000 in
theorem rX11_loopholes (t : Nat) (tw : Nat) (dr : Nat) (hT : LY11 sh P t tw dr) : Rj l D cA h0 ad yX11_loopholes cX11_loopholes 4 (some .int) false 7 0 0 (fun b => (some (.int b.1), sh, P, b.2)) [.ref (h0 + t)] sh P σ (mX11_loopholes t tw dr σ) := by
  rw [mX11_loopholes]
  refine Rj.of (by decide) (fun h => by cases h) (Nat.le_of_ble_eq_true rfl) ?_
  refine tj_lv0 (lv' := [(0, .ref (h0 + t))]) rfl ?_
  refine tj_aload_n (q := 1) dX11_loopholes_0 rfl (i := 0) rfl (pl := 0) rfl ?_
  refine tj_iconst (q := 2) (v := 0) dX11_loopholes_1 rfl (by decide) ?_
  refine tj_putI (q := 5) (hT).s fok_11_9 tok_11 fpk_11_9 wl_RX11_59 dX11_loopholes_2 rfl (fun σ1 => ?_)
  refine tj_iconst (q := 6) (v := 0) dX11_loopholes_5 rfl (by decide) ?_
  refine tj_istore_n (q := 7) dX11_loopholes_6 rfl (i := 1) rfl (by decide) rfl ?_
  refine tj_iconst (q := 8) (v := 0) dX11_loopholes_7 rfl (by decide) ?_
  refine tj_istore_n (q := 9) dX11_loopholes_8 rfl (i := 2) rfl (by decide) rfl ?_
  refine tj_lv [2, 1, 0] rfl ?_
  exact tmX11_loopholes_L9 t tw dr hT FU (0 : Int32) (0 : Int32) σ1

theorem dX11_isFilled_0 : decode cX11_isFilled 0 = .ok (.iload_n 1, 1) := by decide +kernel
theorem dX11_isFilled_1 : decode cX11_isFilled 1 = .ok (.ifCond .lt 23, 3) := by decide +kernel
theorem dX11_isFilled_4 : decode cX11_isFilled 4 = .ok (.iload_n 1, 1) := by decide +kernel
theorem dX11_isFilled_5 : decode cX11_isFilled 5 = .ok (.iconst 3, 1) := by decide +kernel
theorem dX11_isFilled_6 : decode cX11_isFilled 6 = .ok (.if_icmp .ge 18, 3) := by decide +kernel
theorem dX11_isFilled_9 : decode cX11_isFilled 9 = .ok (.aload_n 0, 1) := by decide +kernel
theorem dX11_isFilled_10 : decode cX11_isFilled 10 = .ok (.getfield 51, 3) := by decide +kernel
theorem dX11_isFilled_13 : decode cX11_isFilled 13 = .ok (.iload_n 1, 1) := by decide +kernel
theorem dX11_isFilled_14 : decode cX11_isFilled 14 = .ok (.ishr, 1) := by decide +kernel
theorem dX11_isFilled_15 : decode cX11_isFilled 15 = .ok (.iconst 1, 1) := by decide +kernel
theorem dX11_isFilled_16 : decode cX11_isFilled 16 = .ok (.iand, 1) := by decide +kernel
theorem dX11_isFilled_17 : decode cX11_isFilled 17 = .ok (.ifCond .eq 7, 3) := by decide +kernel
theorem dX11_isFilled_20 : decode cX11_isFilled 20 = .ok (.iconst 1, 1) := by decide +kernel
theorem dX11_isFilled_21 : decode cX11_isFilled 21 = .ok (.goto 4, 3) := by decide +kernel
theorem dX11_isFilled_24 : decode cX11_isFilled 24 = .ok (.iconst 0, 1) := by decide +kernel
theorem dX11_isFilled_25 : decode cX11_isFilled 25 = .ok (.ireturn, 1) := by decide +kernel
theorem wl_RX11_51 : Cond.fieldLink RX11 51 (TX11 7).1 (TX11 7).2.1 (TX11 7).2.2.1 ∈ TB := tbm 620 (by decide +kernel) (by decide +kernel)
def mX11_isFilled (t : Nat) (tw : Nat) (dr : Nat) (p1 : Int32) (σ : St_) : Option Bool :=
 (if p1 < 0 then
 (some false)
 else (if (3 : Int32) ≤ p1 then
 (some false)
 else (if (((σ.1 t 7) >>> (p1 &&& 31)) &&& (1 : Int32)) = 0 then
 (some false)
 else (some true))))
set_option maxHeartbeats 4000000 in
theorem rX11_isFilled (t : Nat) (tw : Nat) (dr : Nat) (p1 : Int32) (hT : LY11 sh P t tw dr) : Rj l D cA h0 ad yX11_isFilled cX11_isFilled 2 (some .boolean) false 2 0 0 (fun b => (some (.int (b2i b)), sh, P, σ)) [.ref (h0 + t), .int p1] sh P σ (mX11_isFilled t tw dr p1 σ) := by
  rw [mX11_isFilled]
  refine Rj.of (by decide) (fun h => by cases h) (Nat.le_of_ble_eq_true rfl) ?_
  refine tj_lv0 (lv' := [(0, .ref (h0 + t)), (1, .int p1)]) rfl ?_
  refine tj_iload_n (q := 1) dX11_isFilled_0 rfl (i := 1) rfl (pl := 1) rfl ?_
  refine tj_if_lt (tgt := 24) (q := 4) dX11_isFilled_1 (by decide) rfl ?_ ?_
  · refine tj_iconst (q := 25) (v := 0) dX11_isFilled_24 rfl (by decide) ?_
    exact tj_zret rfl (by decide) rfl (Nat.le_of_ble_eq_true rfl) (Nat.le_of_ble_eq_true rfl) dX11_isFilled_25
  · refine tj_iload_n (q := 5) dX11_isFilled_4 rfl (i := 1) rfl (pl := 1) rfl ?_
    refine tj_iconst (q := 6) (v := 3) dX11_isFilled_5 rfl (by decide) ?_
    refine tj_icmp_ge (tgt := 24) (q := 9) dX11_isFilled_6 (by decide) rfl ?_ ?_
    · refine tj_iconst (q := 25) (v := 0) dX11_isFilled_24 rfl (by decide) ?_
      exact tj_zret rfl (by decide) rfl (Nat.le_of_ble_eq_true rfl) (Nat.le_of_ble_eq_true rfl) dX11_isFilled_25
    · refine tj_aload_n (q := 10) dX11_isFilled_9 rfl (i := 0) rfl (pl := 0) rfl ?_
      refine tj_getI (q := 13) (hT).s fok_11_7 wl_RX11_51 dX11_isFilled_10 rfl ?_
      refine tj_iload_n (q := 14) dX11_isFilled_13 rfl (i := 1) rfl (pl := 1) rfl ?_
      refine tj_ishr (q := 15) dX11_isFilled_14 rfl ?_
      refine tj_iconst (q := 16) (v := 1) dX11_isFilled_15 rfl (by decide) ?_
      refine tj_iand (q := 17) dX11_isFilled_16 rfl ?_
      refine tj_if_eq (tgt := 24) (q := 20) dX11_isFilled_17 (by decide) rfl ?_ ?_
      · refine tj_iconst (q := 25) (v := 0) dX11_isFilled_24 rfl (by decide) ?_
        exact tj_zret rfl (by decide) rfl (Nat.le_of_ble_eq_true rfl) (Nat.le_of_ble_eq_true rfl) dX11_isFilled_25
      · refine tj_iconst (q := 21) (v := 1) dX11_isFilled_20 rfl (by decide) ?_
        refine tj_goto (q := 25) dX11_isFilled_21 (by decide) ?_
        exact tj_zret rfl (by decide) rfl (Nat.le_of_ble_eq_true rfl) (Nat.le_of_ble_eq_true rfl) dX11_isFilled_25

theorem dX11_leadsToNow_0 : decode cX11_leadsToNow 0 = .ok (.aload_n 0, 1) := by decide +kernel
theorem dX11_leadsToNow_1 : decode cX11_leadsToNow 1 = .ok (.getfield 75, 3) := by decide +kernel
theorem dX11_leadsToNow_4 : decode cX11_leadsToNow 4 = .ok (.getfield 233, 3) := by decide +kernel
theorem dX11_leadsToNow_7 : decode cX11_leadsToNow 7 = .ok (.iload_n 2, 1) := by decide +kernel
theorem dX11_leadsToNow_8 : decode cX11_leadsToNow 8 = .ok (.iaload, 1) := by decide +kernel
theorem dX11_leadsToNow_9 : decode cX11_leadsToNow 9 = .ok (.istore_n 3, 1) := by decide +kernel
theorem dX11_leadsToNow_10 : decode cX11_leadsToNow 10 = .ok (.iconst 1, 1) := by decide +kernel
theorem dX11_leadsToNow_11 : decode cX11_leadsToNow 11 = .ok (.aload_n 0, 1) := by decide +kernel
theorem dX11_leadsToNow_12 : decode cX11_leadsToNow 12 = .ok (.getfield 75, 3) := by decide +kernel
theorem dX11_leadsToNow_15 : decode cX11_leadsToNow 15 = .ok (.getfield 239, 3) := by decide +kernel
theorem dX11_leadsToNow_18 : decode cX11_leadsToNow 18 = .ok (.iload_n 2, 1) := by decide +kernel
theorem dX11_leadsToNow_19 : decode cX11_leadsToNow 19 = .ok (.iaload, 1) := by decide +kernel
theorem dX11_leadsToNow_20 : decode cX11_leadsToNow 20 = .ok (.ishl, 1) := by decide +kernel
theorem dX11_leadsToNow_21 : decode cX11_leadsToNow 21 = .ok (.aload_n 0, 1) := by decide +kernel
theorem dX11_leadsToNow_22 : decode cX11_leadsToNow 22 = .ok (.getfield 75, 3) := by decide +kernel
theorem dX11_leadsToNow_25 : decode cX11_leadsToNow 25 = .ok (.getfield 242, 3) := by decide +kernel
theorem dX11_leadsToNow_28 : decode cX11_leadsToNow 28 = .ok (.iload_n 2, 1) := by decide +kernel
theorem dX11_leadsToNow_29 : decode cX11_leadsToNow 29 = .ok (.iaload, 1) := by decide +kernel
theorem dX11_leadsToNow_30 : decode cX11_leadsToNow 30 = .ok (.ior, 1) := by decide +kernel
theorem dX11_leadsToNow_31 : decode cX11_leadsToNow 31 = .ok (.istore 4, 2) := by decide +kernel
theorem dX11_leadsToNow_33 : decode cX11_leadsToNow 33 = .ok (.iconst 0, 1) := by decide +kernel
theorem dX11_leadsToNow_34 : decode cX11_leadsToNow 34 = .ok (.istore 5, 2) := by decide +kernel
theorem dX11_leadsToNow_36 : decode cX11_leadsToNow 36 = .ok (.iload 5, 2) := by decide +kernel
theorem dX11_leadsToNow_38 : decode cX11_leadsToNow 38 = .ok (.bipush 9, 2) := by decide +kernel
theorem dX11_leadsToNow_40 : decode cX11_leadsToNow 40 = .ok (.if_icmp .ge 80, 3) := by decide +kernel
theorem dX11_leadsToNow_43 : decode cX11_leadsToNow 43 = .ok (.iload 5, 2) := by decide +kernel
theorem dX11_leadsToNow_45 : decode cX11_leadsToNow 45 = .ok (.iload_n 3, 1) := by decide +kernel
theorem dX11_leadsToNow_46 : decode cX11_leadsToNow 46 = .ok (.if_icmp .eq 11, 3) := by decide +kernel
theorem dX11_leadsToNow_49 : decode cX11_leadsToNow 49 = .ok (.iload 5, 2) := by decide +kernel
theorem dX11_leadsToNow_51 : decode cX11_leadsToNow 51 = .ok (.iconst 5, 1) := by decide +kernel
theorem dX11_leadsToNow_52 : decode cX11_leadsToNow 52 = .ok (.iload_n 1, 1) := by decide +kernel
theorem dX11_leadsToNow_53 : decode cX11_leadsToNow 53 = .ok (.iadd, 1) := by decide +kernel
theorem dX11_leadsToNow_54 : decode cX11_leadsToNow 54 = .ok (.if_icmp .ne 7, 3) := by decide +kernel
theorem dX11_leadsToNow_57 : decode cX11_leadsToNow 57 = .ok (.iconst 1, 1) := by decide +kernel
theorem dX11_leadsToNow_58 : decode cX11_leadsToNow 58 = .ok (.goto 4, 3) := by decide +kernel
theorem dX11_leadsToNow_61 : decode cX11_leadsToNow 61 = .ok (.iconst 0, 1) := by decide +kernel
theorem dX11_leadsToNow_62 : decode cX11_leadsToNow 62 = .ok (.istore 6, 2) := by decide +kernel
theorem dX11_leadsToNow_64 : decode cX11_leadsToNow 64 = .ok (.iload 6, 2) := by decide +kernel
theorem dX11_leadsToNow_66 : decode cX11_leadsToNow 66 = .ok (.ifCond .eq 19, 3) := by decide +kernel
theorem dX11_leadsToNow_69 : decode cX11_leadsToNow 69 = .ok (.aload_n 0, 1) := by decide +kernel
theorem dX11_leadsToNow_70 : decode cX11_leadsToNow 70 = .ok (.getfield 93, 3) := by decide +kernel
theorem dX11_leadsToNow_73 : decode cX11_leadsToNow 73 = .ok (.getfield 156, 3) := by decide +kernel
theorem dX11_leadsToNow_76 : decode cX11_leadsToNow 76 = .ok (.iload 5, 2) := by decide +kernel
theorem dX11_leadsToNow_78 : decode cX11_leadsToNow 78 = .ok (.iaload, 1) := by decide +kernel
theorem dX11_leadsToNow_79 : decode cX11_leadsToNow 79 = .ok (.iload 4, 2) := by decide +kernel
theorem dX11_leadsToNow_81 : decode cX11_leadsToNow 81 = .ok (.ixor, 1) := by decide +kernel
theorem dX11_leadsToNow_82 : decode cX11_leadsToNow 82 = .ok (.goto 13, 3) := by decide +kernel
theorem dX11_leadsToNow_85 : decode cX11_leadsToNow 85 = .ok (.aload_n 0, 1) := by decide +kernel
theorem dX11_leadsToNow_86 : decode cX11_leadsToNow 86 = .ok (.getfield 93, 3) := by decide +kernel
theorem dX11_leadsToNow_89 : decode cX11_leadsToNow 89 = .ok (.getfield 156, 3) := by decide +kernel
theorem dX11_leadsToNow_92 : decode cX11_leadsToNow 92 = .ok (.iload 5, 2) := by decide +kernel
theorem dX11_leadsToNow_94 : decode cX11_leadsToNow 94 = .ok (.iaload, 1) := by decide +kernel
theorem dX11_leadsToNow_95 : decode cX11_leadsToNow 95 = .ok (.istore 7, 2) := by decide +kernel
theorem dX11_leadsToNow_97 : decode cX11_leadsToNow 97 = .ok (.iload 7, 2) := by decide +kernel
theorem dX11_leadsToNow_99 : decode cX11_leadsToNow 99 = .ok (.aload_n 0, 1) := by decide +kernel
theorem dX11_leadsToNow_100 : decode cX11_leadsToNow 100 = .ok (.getfield 36, 3) := by decide +kernel
theorem dX11_leadsToNow_103 : decode cX11_leadsToNow 103 = .ok (.getfield 156, 3) := by decide +kernel
theorem dX11_leadsToNow_106 : decode cX11_leadsToNow 106 = .ok (.iload 5, 2) := by decide +kernel
theorem dX11_leadsToNow_108 : decode cX11_leadsToNow 108 = .ok (.iaload, 1) := by decide +kernel
theorem dX11_leadsToNow_109 : decode cX11_leadsToNow 109 = .ok (.if_icmp .eq 5, 3) := by decide +kernel
theorem dX11_leadsToNow_112 : decode cX11_leadsToNow 112 = .ok (.iconst 0, 1) := by decide +kernel
theorem dX11_leadsToNow_113 : decode cX11_leadsToNow 113 = .ok (.ireturn, 1) := by decide +kernel
theorem dX11_leadsToNow_114 : decode cX11_leadsToNow 114 = .ok (.iinc 5 1, 3) := by decide +kernel
theorem dX11_leadsToNow_117 : decode cX11_leadsToNow 117 = .ok (.goto (-81), 3) := by decide +kernel
theorem dX11_leadsToNow_120 : decode cX11_leadsToNow 120 = .ok (.iconst 1, 1) := by decide +kernel
theorem dX11_leadsToNow_121 : decode cX11_leadsToNow 121 = .ok (.ireturn, 1) := by decide +kernel
def mX11_leadsToNow_L36 (t : Nat) (tw : Nat) (dr : Nat) (σ : St_) (x1 : Int32) (x3 : Int32) (x4 : Int32) : Nat → Int32 → Option Bool
  | 0, _ => none
  | n + 1, x5 => (if (9 : Int32) ≤ x5 then
 (some true)
 else (bnd (fun (j5 : Bool) => (bnd (fun (j8 : Int32) => (if bin x5 9 = true then bnd (σ.1 (t + 44 + 1) x5.toNatClampNeg) fun v11 =>
 (if j8 = v11 then
 (mX11_leadsToNow_L36 t tw dr σ x1 x3 x4 n (x5 + 1))
 else (some false))
 else none)) fun k9 =>
 (if j5 = true then
 (if bin x5 9 = true then bnd (σ.1 (t + 221 + 1) x5.toNatClampNeg) fun v12 =>
 (k9 (v12 ^^^ x4))
 else none)
 else (if bin x5 9 = true then bnd (σ.1 (t + 221 + 1) x5.toNatClampNeg) fun v13 =>
 (k9 v13)
 else none)))) fun k6 =>
 (bnd (k6 true) fun k14 =>
 (if x5 = x3 then
 (k14)
 else (if x5 = ((5 : Int32) + x1) then
 (k14)
 else (k6 false))))))
def mX11_leadsToNow (t : Nat) (tw : Nat) (dr : Nat) (p1 : Int32) (p2 : Int32) (σ : St_) : Option Bool :=
 (if bin p2 100 = true then bnd (σ.1 (t + 183 + 1) p2.toNatClampNeg) fun v1 =>
 (if bin p2 100 = true then bnd (σ.1 (t + 183 + 2) p2.toNatClampNeg) fun v2 =>
 (if bin p2 100 = true then bnd (σ.1 (t + 183 + 3) p2.toNatClampNeg) fun v3 =>
 (bnd (((1 : Int32) <<< (v2 &&& 31)) ||| v3) fun v4 =>
 (mX11_leadsToNow_L36 t tw dr σ p1 v1 v4 FU (0 : Int32)))
 else none)
 else none)
 else none)
set_option maxHeartbeats 4000000 in
theorem tmX11_leadsToNow_L36 (σ : St_) (t : Nat) (tw : Nat) (dr : Nat) (hT : LY11 sh P t tw dr) (x1 : Int32) (x3 : Int32) (x4 : Int32) : ∀ (n : Nat) (x5 : Int32), Tj l D cA h0 ad RX11 cX11_leadsToNow 8 (some .boolean) false 2 0 0 (fun b => (some (.int (b2i b)), sh, P, σ)) 0 0 sh P σ 36 [(0, .ref (h0 + t)), (1, .int x1), (3, .int x3), (4, .int x4), (5, .int x5)] [] (mX11_leadsToNow_L36 t tw dr σ x1 x3 x4 n x5) := by
  intro n
  induction n with
  | zero => intros; exact tj_none
  | succ n ih =>
    intro x5
    rw [mX11_leadsToNow_L36]
    refine tj_iload (q := 38) dX11_leadsToNow_36 rfl (pl := 4) rfl ?_
    refine tj_bipush (q := 40) (v := 9) dX11_leadsToNow_38 rfl (by decide) ?_
    refine tj_icmp_ge (tgt := 120) (q := 43) dX11_leadsToNow_40 (by decide) rfl ?_ ?_
    · refine tj_iconst (q := 121) (v := 1) dX11_leadsToNow_120 rfl (by decide) ?_
      exact tj_zret rfl (by decide) rfl (Nat.le_of_ble_eq_true rfl) (Nat.le_of_ble_eq_true rfl) dX11_leadsToNow_121
    · refine tj_iload (q := 45) dX11_leadsToNow_43 rfl (pl := 4) rfl ?_
      refine tj_iload_n (q := 46) dX11_leadsToNow_45 rfl (i := 3) rfl (pl := 2) rfl ?_
      refine tj_bnd (fun k6 => ∀ (j5 : Bool), Tj l D cA h0 ad RX11 cX11_leadsToNow 8 (some .boolean) false 2 0 0 (fun b => (some (.int (b2i b)), sh, P, σ)) 0 0 sh P σ 62 [(0, .ref (h0 + t)), (1, .int x1), (3, .int x3), (4, .int x4), (5, .int x5)] [.int (b2i j5)] (k6 j5)) ?_ (fun k6 hk7 => ?_)
      · intro j5
        refine tj_istore (q := 64) dX11_leadsToNow_62 rfl (by decide) rfl ?_
        refine tj_iload (q := 66) dX11_leadsToNow_64 rfl (pl := 0) rfl ?_
        refine tj_bnd (fun k9 => ∀ (j8 : Int32), Tj l D cA h0 ad RX11 cX11_leadsToNow 8 (some .boolean) false 2 0 0 (fun b => (some (.int (b2i b)), sh, P, σ)) 0 0 sh P σ 95 [(0, .ref (h0 + t)), (1, .int x1), (3, .int x3), (4, .int x4), (5, .int x5)] [.int j8] (k9 j8)) ?_ (fun k9 hk10 => ?_)
        · intro j8
          refine tj_istore (q := 97) dX11_leadsToNow_95 rfl (by decide) rfl ?_
          refine tj_iload (q := 99) dX11_leadsToNow_97 rfl (pl := 0) rfl ?_
          refine tj_aload_n (q := 100) dX11_leadsToNow_99 rfl (i := 0) rfl (pl := 1) rfl ?_
          refine tj_getR (q := 103) (hT).s (hT).p_now fok_11_4 wl_RX11_36 dX11_leadsToNow_100 rfl ?_
          refine tj_getR (q := 106) ((hT).o_now).s ((hT).o_now).p_held fok_8_0 wl_RX11_156 dX11_leadsToNow_103 rfl ?_
          refine tj_iload (q := 108) dX11_leadsToNow_106 rfl (pl := 5) rfl ?_
          refine tj_iaload (q := 109) ((hT).o_now).s_held dX11_leadsToNow_108 rfl ?_
          refine tj_topI (fun v11 => ?_)
          refine tj_icmp_eq (tgt := 114) (q := 112) dX11_leadsToNow_109 (by decide) rfl ?_ ?_
          · refine tj_iinc (q := 117) (v := x5 + 1) dX11_leadsToNow_114 rfl (pl := 5) rfl rfl (by decide) rfl ?_
            refine tj_goto (q := 36) dX11_leadsToNow_117 (by decide) ?_
            refine tj_lv [2, 3, 4, 5, 0] rfl ?_
            exact ih (x5 + 1)
          · refine tj_iconst (q := 113) (v := 0) dX11_leadsToNow_112 rfl (by decide) ?_
            exact tj_zret rfl (by decide) rfl (Nat.le_of_ble_eq_true rfl) (Nat.le_of_ble_eq_true rfl) dX11_leadsToNow_113
        · refine tj_bz (tgt := 85) (q := 69) dX11_leadsToNow_66 (by decide) rfl ?_ ?_
          · refine tj_aload_n (q := 70) dX11_leadsToNow_69 rfl (i := 0) rfl (pl := 1) rfl ?_
            refine tj_getR (q := 73) (hT).s (hT).p_trial fok_11_15 wl_RX11_93 dX11_leadsToNow_70 rfl ?_
            refine tj_getR (q := 76) ((hT).o_trial).s ((hT).o_trial).p_held fok_8_0 wl_RX11_156 dX11_leadsToNow_73 rfl ?_
            refine tj_iload (q := 78) dX11_leadsToNow_76 rfl (pl := 5) rfl ?_
            refine tj_iaload (q := 79) ((hT).o_trial).s_held dX11_leadsToNow_78 rfl ?_
            refine tj_topI (fun v12 => ?_)
            refine tj_iload (q := 81) dX11_leadsToNow_79 rfl (pl := 4) rfl ?_
            refine tj_ixor (q := 82) dX11_leadsToNow_81 rfl ?_
            refine tj_goto (q := 95) dX11_leadsToNow_82 (by decide) ?_
            refine tj_lv [1, 2, 3, 4, 5] rfl ?_
            exact hk10 (v12 ^^^ x4)
          · refine tj_aload_n (q := 86) dX11_leadsToNow_85 rfl (i := 0) rfl (pl := 1) rfl ?_
            refine tj_getR (q := 89) (hT).s (hT).p_trial fok_11_15 wl_RX11_93 dX11_leadsToNow_86 rfl ?_
            refine tj_getR (q := 92) ((hT).o_trial).s ((hT).o_trial).p_held fok_8_0 wl_RX11_156 dX11_leadsToNow_89 rfl ?_
            refine tj_iload (q := 94) dX11_leadsToNow_92 rfl (pl := 5) rfl ?_
            refine tj_iaload (q := 95) ((hT).o_trial).s_held dX11_leadsToNow_94 rfl ?_
            refine tj_topI (fun v13 => ?_)
            refine tj_lv [1, 2, 3, 4, 5] rfl ?_
            exact hk10 v13
      · refine tj_bnd (fun k14 => Tj l D cA h0 ad RX11 cX11_leadsToNow 8 (some .boolean) false 2 0 0 (fun b => (some (.int (b2i b)), sh, P, σ)) 0 0 sh P σ 57 [(0, .ref (h0 + t)), (1, .int x1), (3, .int x3), (4, .int x4), (5, .int x5)] [] k14) ?_ (fun k14 hk15 => ?_)
        · refine tj_iconst (q := 58) (v := 1) dX11_leadsToNow_57 rfl (by decide) ?_
          refine tj_goto (q := 62) dX11_leadsToNow_58 (by decide) ?_
          exact hk7 true
        · refine tj_icmp_eq (tgt := 57) (q := 49) dX11_leadsToNow_46 (by decide) rfl ?_ ?_
          · exact hk15
          · refine tj_iload (q := 51) dX11_leadsToNow_49 rfl (pl := 4) rfl ?_
            refine tj_iconst (q := 52) (v := 5) dX11_leadsToNow_51 rfl (by decide) ?_
            refine tj_iload_n (q := 53) dX11_leadsToNow_52 rfl (i := 1) rfl (pl := 1) rfl ?_
            refine tj_iadd (q := 54) dX11_leadsToNow_53 rfl ?_
            refine tj_icmp_ne (tgt := 61) (q := 57) dX11_leadsToNow_54 (by decide) rfl ?_ ?_
            · exact hk15
            · refine tj_iconst (q := 62) (v := 0) dX11_leadsToNow_61 rfl (by decide) ?_
              exact hk7 false

set_option maxHeartbeats 4000000 in
theorem rX11_leadsToNow (t : Nat) (tw : Nat) (dr : Nat) (p1 : Int32) (p2 : Int32) (hT : LY11 sh P t tw dr) : Rj l D cA h0 ad yX11_leadsToNow cX11_leadsToNow 8 (some .boolean) false 2 0 0 (fun b => (some (.int (b2i b)), sh, P, σ)) [.ref (h0 + t), .int p1, .int p2] sh P σ (mX11_leadsToNow t tw dr p1 p2 σ) := by
  rw [mX11_leadsToNow]
  refine Rj.of (by decide) (fun h => by cases h) (Nat.le_of_ble_eq_true rfl) ?_
  refine tj_lv0 (lv' := [(0, .ref (h0 + t)), (1, .int p1), (2, .int p2)]) rfl ?_
  refine tj_aload_n (q := 1) dX11_leadsToNow_0 rfl (i := 0) rfl (pl := 0) rfl ?_
  refine tj_getR (q := 4) (hT).s (hT).p_list fok_11_12 wl_RX11_75 dX11_leadsToNow_1 rfl ?_
  refine tj_getR (q := 7) ((hT).o_list).s ((hT).o_list).p_house fok_9_0 wl_RX11_233 dX11_leadsToNow_4 rfl ?_
  refine tj_iload_n (q := 8) dX11_leadsToNow_7 rfl (i := 2) rfl (pl := 2) rfl ?_
  refine tj_iaload (q := 9) ((hT).o_list).s_house dX11_leadsToNow_8 rfl ?_
  refine tj_topI (fun v1 => ?_)
  refine tj_istore_n (q := 10) dX11_leadsToNow_9 rfl (i := 3) rfl (by decide) rfl ?_
  refine tj_iconst (q := 11) (v := 1) dX11_leadsToNow_10 rfl (by decide) ?_
  refine tj_aload_n (q := 12) dX11_leadsToNow_11 rfl (i := 0) rfl (pl := 1) rfl ?_
  refine tj_getR (q := 15) (hT).s (hT).p_list fok_11_12 wl_RX11_75 dX11_leadsToNow_12 rfl ?_
  refine tj_getR (q := 18) ((hT).o_list).s ((hT).o_list).p_thing fok_9_1 wl_RX11_239 dX11_leadsToNow_15 rfl ?_
  refine tj_iload_n (q := 19) dX11_leadsToNow_18 rfl (i := 2) rfl (pl := 3) rfl ?_
  refine tj_iaload (q := 20) ((hT).o_list).s_thing dX11_leadsToNow_19 rfl ?_
  refine tj_topI (fun v2 => ?_)
  refine tj_ishl (q := 21) dX11_leadsToNow_20 rfl ?_
  refine tj_aload_n (q := 22) dX11_leadsToNow_21 rfl (i := 0) rfl (pl := 1) rfl ?_
  refine tj_getR (q := 25) (hT).s (hT).p_list fok_11_12 wl_RX11_75 dX11_leadsToNow_22 rfl ?_
  refine tj_getR (q := 28) ((hT).o_list).s ((hT).o_list).p_left fok_9_2 wl_RX11_242 dX11_leadsToNow_25 rfl ?_
  refine tj_iload_n (q := 29) dX11_leadsToNow_28 rfl (i := 2) rfl (pl := 3) rfl ?_
  refine tj_iaload (q := 30) ((hT).o_list).s_left dX11_leadsToNow_29 rfl ?_
  refine tj_topI (fun v3 => ?_)
  refine tj_ior (q := 31) dX11_leadsToNow_30 rfl ?_
  refine tj_topI (fun v4 => ?_)
  refine tj_istore (q := 33) dX11_leadsToNow_31 rfl (by decide) rfl ?_
  refine tj_iconst (q := 34) (v := 0) dX11_leadsToNow_33 rfl (by decide) ?_
  refine tj_istore (q := 36) dX11_leadsToNow_34 rfl (by decide) rfl ?_
  refine tj_lv [3, 4, 2, 1, 0] rfl ?_
  exact tmX11_leadsToNow_L36 σ t tw dr hT p1 v1 v4 FU (0 : Int32)

theorem dX11_layDoer_0 : decode cX11_layDoer 0 = .ok (.aload_n 0, 1) := by decide +kernel
theorem dX11_layDoer_1 : decode cX11_layDoer 1 = .ok (.getfield 59, 3) := by decide +kernel
theorem dX11_layDoer_4 : decode cX11_layDoer 4 = .ok (.ifCond .le 4, 3) := by decide +kernel
theorem dX11_layDoer_7 : decode cX11_layDoer 7 = .ok (.return_, 1) := by decide +kernel
theorem dX11_layDoer_8 : decode cX11_layDoer 8 = .ok (.aload_n 0, 1) := by decide +kernel
theorem dX11_layDoer_9 : decode cX11_layDoer 9 = .ok (.iload_n 1, 1) := by decide +kernel
theorem dX11_layDoer_10 : decode cX11_layDoer 10 = .ok (.invokevirtual 236, 3) := by decide +kernel
theorem dX11_layDoer_13 : decode cX11_layDoer 13 = .ok (.aload_n 0, 1) := by decide +kernel
theorem dX11_layDoer_14 : decode cX11_layDoer 14 = .ok (.iload_n 2, 1) := by decide +kernel
theorem dX11_layDoer_15 : decode cX11_layDoer 15 = .ok (.invokevirtual 236, 3) := by decide +kernel
theorem dX11_layDoer_18 : decode cX11_layDoer 18 = .ok (.aload_n 0, 1) := by decide +kernel
theorem dX11_layDoer_19 : decode cX11_layDoer 19 = .ok (.aload_n 0, 1) := by decide +kernel
theorem dX11_layDoer_20 : decode cX11_layDoer 20 = .ok (.getfield 75, 3) := by decide +kernel
theorem dX11_layDoer_23 : decode cX11_layDoer 23 = .ok (.getfield 233, 3) := by decide +kernel
theorem dX11_layDoer_26 : decode cX11_layDoer 26 = .ok (.iload_n 3, 1) := by decide +kernel
theorem dX11_layDoer_27 : decode cX11_layDoer 27 = .ok (.iaload, 1) := by decide +kernel
theorem dX11_layDoer_28 : decode cX11_layDoer 28 = .ok (.invokevirtual 236, 3) := by decide +kernel
theorem dX11_layDoer_31 : decode cX11_layDoer 31 = .ok (.aload_n 0, 1) := by decide +kernel
theorem dX11_layDoer_32 : decode cX11_layDoer 32 = .ok (.aload_n 0, 1) := by decide +kernel
theorem dX11_layDoer_33 : decode cX11_layDoer 33 = .ok (.getfield 75, 3) := by decide +kernel
theorem dX11_layDoer_36 : decode cX11_layDoer 36 = .ok (.getfield 239, 3) := by decide +kernel
theorem dX11_layDoer_39 : decode cX11_layDoer 39 = .ok (.iload_n 3, 1) := by decide +kernel
theorem dX11_layDoer_40 : decode cX11_layDoer 40 = .ok (.iaload, 1) := by decide +kernel
theorem dX11_layDoer_41 : decode cX11_layDoer 41 = .ok (.invokevirtual 236, 3) := by decide +kernel
theorem dX11_layDoer_44 : decode cX11_layDoer 44 = .ok (.aload_n 0, 1) := by decide +kernel
theorem dX11_layDoer_45 : decode cX11_layDoer 45 = .ok (.aload_n 0, 1) := by decide +kernel
theorem dX11_layDoer_46 : decode cX11_layDoer 46 = .ok (.getfield 75, 3) := by decide +kernel
theorem dX11_layDoer_49 : decode cX11_layDoer 49 = .ok (.getfield 242, 3) := by decide +kernel
theorem dX11_layDoer_52 : decode cX11_layDoer 52 = .ok (.iload_n 3, 1) := by decide +kernel
theorem dX11_layDoer_53 : decode cX11_layDoer 53 = .ok (.iaload, 1) := by decide +kernel
theorem dX11_layDoer_54 : decode cX11_layDoer 54 = .ok (.invokevirtual 236, 3) := by decide +kernel
theorem dX11_layDoer_57 : decode cX11_layDoer 57 = .ok (.return_, 1) := by decide +kernel
def mX11_layDoer (t : Nat) (tw : Nat) (dr : Nat) (p1 : Int32) (p2 : Int32) (p3 : Int32) (σ : St_) : Option St_ :=
 (if (σ.1 t 9) ≤ 0 then
 ((mX11_lay t tw dr p1 σ).bind fun σ1 =>
 ((mX11_lay t tw dr p2 σ1).bind fun σ2 =>
 (if bin p3 100 = true then bnd (σ2.1 (t + 183 + 1) p3.toNatClampNeg) fun v3 =>
 ((mX11_lay t tw dr v3 σ2).bind fun σ4 =>
 (if bin p3 100 = true then bnd (σ4.1 (t + 183 + 2) p3.toNatClampNeg) fun v5 =>
 ((mX11_lay t tw dr v5 σ4).bind fun σ6 =>
 (if bin p3 100 = true then bnd (σ6.1 (t + 183 + 3) p3.toNatClampNeg) fun v7 =>
 ((mX11_lay t tw dr v7 σ6).bind fun σ8 =>
 (some σ8))
 else none))
 else none))
 else none)))
 else (some σ))
set_option maxHeartbeats 4000000 in
theorem rX11_layDoer (t : Nat) (tw : Nat) (dr : Nat) (p1 : Int32) (p2 : Int32) (p3 : Int32) (hT : LY11 sh P t tw dr) : Rj l D cA h0 ad yX11_layDoer cX11_layDoer 4 none false 3 0 0 (fun b => (none, sh, P, b)) [.ref (h0 + t), .int p1, .int p2, .int p3] sh P σ (mX11_layDoer t tw dr p1 p2 p3 σ) := by
  rw [mX11_layDoer]
  refine Rj.of (by decide) (fun h => by cases h) (Nat.le_of_ble_eq_true rfl) ?_
  refine tj_lv0 (lv' := [(0, .ref (h0 + t)), (1, .int p1), (2, .int p2), (3, .int p3)]) rfl ?_
  refine tj_aload_n (q := 1) dX11_layDoer_0 rfl (i := 0) rfl (pl := 0) rfl ?_
  refine tj_getI (q := 4) (hT).s fok_11_9 wl_RX11_59 dX11_layDoer_1 rfl ?_
  refine tj_if_le (tgt := 8) (q := 7) dX11_layDoer_4 (by decide) rfl ?_ ?_
  · refine tj_aload_n (q := 9) dX11_layDoer_8 rfl (i := 0) rfl (pl := 0) rfl ?_
    refine tj_iload_n (q := 10) dX11_layDoer_9 rfl (i := 1) rfl (pl := 1) rfl ?_
    refine tj_callV (q := 13) (kj_V (As := [.int p1]) (rest := []) (t := t) wi_RX11_236 (hT).s rfl (rX11_lay t tw dr p1 (hT)) rfl (Nat.le_of_ble_eq_true rfl) ⟨Nat.le_of_ble_eq_true rfl, Nat.le_of_ble_eq_true rfl⟩ (Nat.le_of_ble_eq_true rfl) dX11_layDoer_10) rfl (fun σ1 => ?_)
    refine tj_aload_n (q := 14) dX11_layDoer_13 rfl (i := 0) rfl (pl := 0) rfl ?_
    refine tj_iload_n (q := 15) dX11_layDoer_14 rfl (i := 2) rfl (pl := 2) rfl ?_
    refine tj_callV (q := 18) (kj_V (As := [.int p2]) (rest := []) (t := t) wi_RX11_236 (hT).s rfl (rX11_lay t tw dr p2 (hT)) rfl (Nat.le_of_ble_eq_true rfl) ⟨Nat.le_of_ble_eq_true rfl, Nat.le_of_ble_eq_true rfl⟩ (Nat.le_of_ble_eq_true rfl) dX11_layDoer_15) rfl (fun σ2 => ?_)
    refine tj_aload_n (q := 19) dX11_layDoer_18 rfl (i := 0) rfl (pl := 0) rfl ?_
    refine tj_aload_n (q := 20) dX11_layDoer_19 rfl (i := 0) rfl (pl := 0) rfl ?_
    refine tj_getR (q := 23) (hT).s (hT).p_list fok_11_12 wl_RX11_75 dX11_layDoer_20 rfl ?_
    refine tj_getR (q := 26) ((hT).o_list).s ((hT).o_list).p_house fok_9_0 wl_RX11_233 dX11_layDoer_23 rfl ?_
    refine tj_iload_n (q := 27) dX11_layDoer_26 rfl (i := 3) rfl (pl := 3) rfl ?_
    refine tj_iaload (q := 28) ((hT).o_list).s_house dX11_layDoer_27 rfl ?_
    refine tj_topI (fun v3 => ?_)
    refine tj_callV (q := 31) (kj_V (As := [.int v3]) (rest := []) (t := t) wi_RX11_236 (hT).s rfl (rX11_lay t tw dr v3 (hT)) rfl (Nat.le_of_ble_eq_true rfl) ⟨Nat.le_of_ble_eq_true rfl, Nat.le_of_ble_eq_true rfl⟩ (Nat.le_of_ble_eq_true rfl) dX11_layDoer_28) rfl (fun σ4 => ?_)
    refine tj_aload_n (q := 32) dX11_layDoer_31 rfl (i := 0) rfl (pl := 0) rfl ?_
    refine tj_aload_n (q := 33) dX11_layDoer_32 rfl (i := 0) rfl (pl := 0) rfl ?_
    refine tj_getR (q := 36) (hT).s (hT).p_list fok_11_12 wl_RX11_75 dX11_layDoer_33 rfl ?_
    refine tj_getR (q := 39) ((hT).o_list).s ((hT).o_list).p_thing fok_9_1 wl_RX11_239 dX11_layDoer_36 rfl ?_
    refine tj_iload_n (q := 40) dX11_layDoer_39 rfl (i := 3) rfl (pl := 3) rfl ?_
    refine tj_iaload (q := 41) ((hT).o_list).s_thing dX11_layDoer_40 rfl ?_
    refine tj_topI (fun v5 => ?_)
    refine tj_callV (q := 44) (kj_V (As := [.int v5]) (rest := []) (t := t) wi_RX11_236 (hT).s rfl (rX11_lay t tw dr v5 (hT)) rfl (Nat.le_of_ble_eq_true rfl) ⟨Nat.le_of_ble_eq_true rfl, Nat.le_of_ble_eq_true rfl⟩ (Nat.le_of_ble_eq_true rfl) dX11_layDoer_41) rfl (fun σ6 => ?_)
    refine tj_aload_n (q := 45) dX11_layDoer_44 rfl (i := 0) rfl (pl := 0) rfl ?_
    refine tj_aload_n (q := 46) dX11_layDoer_45 rfl (i := 0) rfl (pl := 0) rfl ?_
    refine tj_getR (q := 49) (hT).s (hT).p_list fok_11_12 wl_RX11_75 dX11_layDoer_46 rfl ?_
    refine tj_getR (q := 52) ((hT).o_list).s ((hT).o_list).p_left fok_9_2 wl_RX11_242 dX11_layDoer_49 rfl ?_
    refine tj_iload_n (q := 53) dX11_layDoer_52 rfl (i := 3) rfl (pl := 3) rfl ?_
    refine tj_iaload (q := 54) ((hT).o_list).s_left dX11_layDoer_53 rfl ?_
    refine tj_topI (fun v7 => ?_)
    refine tj_callV (q := 57) (kj_V (As := [.int v7]) (rest := []) (t := t) wi_RX11_236 (hT).s rfl (rX11_lay t tw dr v7 (hT)) rfl (Nat.le_of_ble_eq_true rfl) ⟨Nat.le_of_ble_eq_true rfl, Nat.le_of_ble_eq_true rfl⟩ (Nat.le_of_ble_eq_true rfl) dX11_layDoer_54) rfl (fun σ8 => ?_)
    exact tj_vret rfl rfl (Nat.le_of_ble_eq_true rfl) (Nat.le_of_ble_eq_true rfl) dX11_layDoer_57
  · exact tj_vret rfl rfl (Nat.le_of_ble_eq_true rfl) (Nat.le_of_ble_eq_true rfl) dX11_layDoer_7

theorem dX11_who_0 : decode cX11_who 0 = .ok (.aload_n 0, 1) := by decide +kernel
theorem dX11_who_1 : decode cX11_who 1 = .ok (.iconst 0, 1) := by decide +kernel
theorem dX11_who_2 : decode cX11_who 2 = .ok (.putfield 59, 3) := by decide +kernel
theorem dX11_who_5 : decode cX11_who 5 = .ok (.aload_n 0, 1) := by decide +kernel
theorem dX11_who_6 : decode cX11_who 6 = .ok (.iload_n 1, 1) := by decide +kernel
theorem dX11_who_7 : decode cX11_who 7 = .ok (.invokevirtual 316, 3) := by decide +kernel
theorem dX11_who_10 : decode cX11_who 10 = .ok (.ifCond .ne 5, 3) := by decide +kernel
theorem dX11_who_13 : decode cX11_who 13 = .ok (.iconst (-1), 1) := by decide +kernel
theorem dX11_who_14 : decode cX11_who 14 = .ok (.ireturn, 1) := by decide +kernel
theorem dX11_who_15 : decode cX11_who 15 = .ok (.iconst 0, 1) := by decide +kernel
theorem dX11_who_16 : decode cX11_who 16 = .ok (.istore_n 2, 1) := by decide +kernel
theorem dX11_who_17 : decode cX11_who 17 = .ok (.iconst 0, 1) := by decide +kernel
theorem dX11_who_18 : decode cX11_who 18 = .ok (.istore_n 3, 1) := by decide +kernel
theorem dX11_who_19 : decode cX11_who 19 = .ok (.iload_n 3, 1) := by decide +kernel
theorem dX11_who_20 : decode cX11_who 20 = .ok (.aload_n 0, 1) := by decide +kernel
theorem dX11_who_21 : decode cX11_who 21 = .ok (.getfield 26, 3) := by decide +kernel
theorem dX11_who_24 : decode cX11_who 24 = .ok (.getfield 276, 3) := by decide +kernel
theorem dX11_who_27 : decode cX11_who 27 = .ok (.if_icmp .ge 119, 3) := by decide +kernel
theorem dX11_who_30 : decode cX11_who 30 = .ok (.iconst 0, 1) := by decide +kernel
theorem dX11_who_31 : decode cX11_who 31 = .ok (.istore 4, 2) := by decide +kernel
theorem dX11_who_33 : decode cX11_who 33 = .ok (.iload 4, 2) := by decide +kernel
theorem dX11_who_35 : decode cX11_who 35 = .ok (.aload_n 0, 1) := by decide +kernel
theorem dX11_who_36 : decode cX11_who 36 = .ok (.getfield 26, 3) := by decide +kernel
theorem dX11_who_39 : decode cX11_who 39 = .ok (.getfield 210, 3) := by decide +kernel
theorem dX11_who_42 : decode cX11_who 42 = .ok (.if_icmp .ge 98, 3) := by decide +kernel
theorem dX11_who_45 : decode cX11_who 45 = .ok (.aload_n 0, 1) := by decide +kernel
theorem dX11_who_46 : decode cX11_who 46 = .ok (.getfield 93, 3) := by decide +kernel
theorem dX11_who_49 : decode cX11_who 49 = .ok (.aload_n 0, 1) := by decide +kernel
theorem dX11_who_50 : decode cX11_who 50 = .ok (.getfield 47, 3) := by decide +kernel
theorem dX11_who_53 : decode cX11_who 53 = .ok (.iload_n 1, 1) := by decide +kernel
theorem dX11_who_54 : decode cX11_who 54 = .ok (.aaload, 1) := by decide +kernel
theorem dX11_who_55 : decode cX11_who 55 = .ok (.invokevirtual 307, 3) := by decide +kernel
theorem dX11_who_58 : decode cX11_who 58 = .ok (.aload_n 0, 1) := by decide +kernel
theorem dX11_who_59 : decode cX11_who 59 = .ok (.getfield 93, 3) := by decide +kernel
theorem dX11_who_62 : decode cX11_who 62 = .ok (.iconst 0, 1) := by decide +kernel
theorem dX11_who_63 : decode cX11_who 63 = .ok (.putfield 165, 3) := by decide +kernel
theorem dX11_who_66 : decode cX11_who 66 = .ok (.aload_n 0, 1) := by decide +kernel
theorem dX11_who_67 : decode cX11_who 67 = .ok (.getfield 93, 3) := by decide +kernel
theorem dX11_who_70 : decode cX11_who 70 = .ok (.iload 4, 2) := by decide +kernel
theorem dX11_who_72 : decode cX11_who 72 = .ok (.putfield 189, 3) := by decide +kernel
theorem dX11_who_75 : decode cX11_who 75 = .ok (.aload_n 0, 1) := by decide +kernel
theorem dX11_who_76 : decode cX11_who 76 = .ok (.getfield 75, 3) := by decide +kernel
theorem dX11_who_79 : decode cX11_who 79 = .ok (.aload_n 0, 1) := by decide +kernel
theorem dX11_who_80 : decode cX11_who 80 = .ok (.getfield 26, 3) := by decide +kernel
theorem dX11_who_83 : decode cX11_who 83 = .ok (.aload_n 0, 1) := by decide +kernel
theorem dX11_who_84 : decode cX11_who 84 = .ok (.getfield 93, 3) := by decide +kernel
theorem dX11_who_87 : decode cX11_who 87 = .ok (.iload_n 3, 1) := by decide +kernel
theorem dX11_who_88 : decode cX11_who 88 = .ok (.invokevirtual 223, 3) := by decide +kernel
theorem dX11_who_91 : decode cX11_who 91 = .ok (.iconst 0, 1) := by decide +kernel
theorem dX11_who_92 : decode cX11_who 92 = .ok (.istore 5, 2) := by decide +kernel
theorem dX11_who_94 : decode cX11_who 94 = .ok (.iload 5, 2) := by decide +kernel
theorem dX11_who_96 : decode cX11_who 96 = .ok (.aload_n 0, 1) := by decide +kernel
theorem dX11_who_97 : decode cX11_who 97 = .ok (.getfield 75, 3) := by decide +kernel
theorem dX11_who_100 : decode cX11_who 100 = .ok (.getfield 227, 3) := by decide +kernel
theorem dX11_who_103 : decode cX11_who 103 = .ok (.if_icmp .ge 31, 3) := by decide +kernel
theorem dX11_who_106 : decode cX11_who 106 = .ok (.aload_n 0, 1) := by decide +kernel
theorem dX11_who_107 : decode cX11_who 107 = .ok (.iload_n 3, 1) := by decide +kernel
theorem dX11_who_108 : decode cX11_who 108 = .ok (.iload 5, 2) := by decide +kernel
theorem dX11_who_110 : decode cX11_who 110 = .ok (.invokevirtual 319, 3) := by decide +kernel
theorem dX11_who_113 : decode cX11_who 113 = .ok (.ifCond .eq 15, 3) := by decide +kernel
theorem dX11_who_116 : decode cX11_who 116 = .ok (.aload_n 0, 1) := by decide +kernel
theorem dX11_who_117 : decode cX11_who 117 = .ok (.iload_n 3, 1) := by decide +kernel
theorem dX11_who_118 : decode cX11_who 118 = .ok (.iload 4, 2) := by decide +kernel
theorem dX11_who_120 : decode cX11_who 120 = .ok (.iload 5, 2) := by decide +kernel
theorem dX11_who_122 : decode cX11_who 122 = .ok (.invokevirtual 322, 3) := by decide +kernel
theorem dX11_who_125 : decode cX11_who 125 = .ok (.iinc 2 1, 3) := by decide +kernel
theorem dX11_who_128 : decode cX11_who 128 = .ok (.iinc 5 1, 3) := by decide +kernel
theorem dX11_who_131 : decode cX11_who 131 = .ok (.goto (-37), 3) := by decide +kernel
theorem dX11_who_134 : decode cX11_who 134 = .ok (.iinc 4 1, 3) := by decide +kernel
theorem dX11_who_137 : decode cX11_who 137 = .ok (.goto (-104), 3) := by decide +kernel
theorem dX11_who_140 : decode cX11_who 140 = .ok (.iinc 3 1, 3) := by decide +kernel
theorem dX11_who_143 : decode cX11_who 143 = .ok (.goto (-124), 3) := by decide +kernel
theorem dX11_who_146 : decode cX11_who 146 = .ok (.iload_n 2, 1) := by decide +kernel
theorem dX11_who_147 : decode cX11_who 147 = .ok (.ireturn, 1) := by decide +kernel
theorem wm_X11_isFilled : Cond.instanceMethod yX11_isFilled ∈ TB ∧ Cond.selects yX11_isFilled.cls yX11_isFilled yX11_isFilled ∈ TB ∧ Cond.initialized yX11_isFilled.cls ∈ TB ∧ Cond.code yX11_isFilled cX11_isFilled 2 (some .boolean) ∈ TB ∧ (yX11_isFilled.cls ≠ "java/lang/invoke/MethodHandle" ∧ yX11_isFilled.cls ≠ "java/lang/invoke/VarHandle" ∧ (parseMethodDescriptor yX11_isFilled.desc).map (fun d => d.parameters.length) = some 1) ∧ 2 ≤ 21 := ⟨tbm 1326 (by decide +kernel) (by decide +kernel), tbm 49 (by decide +kernel) (by decide +kernel), tbm 134 (by decide +kernel) (by decide +kernel), tbm 1327 (by decide +kernel) (by decide +kernel), by decide +kernel, by decide⟩
theorem wi_RX11_316 : Iv RX11 316 yX11_isFilled cX11_isFilled 2 (some .boolean) 1 := ⟨tbm 1324 (by decide +kernel) (by decide +kernel), wm_X11_isFilled⟩
theorem wl_RX11_47 : Cond.fieldLink RX11 47 (TX11 6).1 (TX11 6).2.1 (TX11 6).2.2.1 ∈ TB := tbm 619 (by decide +kernel) (by decide +kernel)
theorem wm_X11_leadsToNow : Cond.instanceMethod yX11_leadsToNow ∈ TB ∧ Cond.selects yX11_leadsToNow.cls yX11_leadsToNow yX11_leadsToNow ∈ TB ∧ Cond.initialized yX11_leadsToNow.cls ∈ TB ∧ Cond.code yX11_leadsToNow cX11_leadsToNow 8 (some .boolean) ∈ TB ∧ (yX11_leadsToNow.cls ≠ "java/lang/invoke/MethodHandle" ∧ yX11_leadsToNow.cls ≠ "java/lang/invoke/VarHandle" ∧ (parseMethodDescriptor yX11_leadsToNow.desc).map (fun d => d.parameters.length) = some 2) ∧ 8 ≤ 21 := ⟨tbm 1330 (by decide +kernel) (by decide +kernel), tbm 50 (by decide +kernel) (by decide +kernel), tbm 134 (by decide +kernel) (by decide +kernel), tbm 1331 (by decide +kernel) (by decide +kernel), by decide +kernel, by decide⟩
theorem wi_RX11_319 : Iv RX11 319 yX11_leadsToNow cX11_leadsToNow 8 (some .boolean) 2 := ⟨tbm 1328 (by decide +kernel) (by decide +kernel), wm_X11_leadsToNow⟩
theorem wm_X11_layDoer : Cond.instanceMethod yX11_layDoer ∈ TB ∧ Cond.selects yX11_layDoer.cls yX11_layDoer yX11_layDoer ∈ TB ∧ Cond.initialized yX11_layDoer.cls ∈ TB ∧ Cond.code yX11_layDoer cX11_layDoer 4 none ∈ TB ∧ (yX11_layDoer.cls ≠ "java/lang/invoke/MethodHandle" ∧ yX11_layDoer.cls ≠ "java/lang/invoke/VarHandle" ∧ (parseMethodDescriptor yX11_layDoer.desc).map (fun d => d.parameters.length) = some 3) ∧ 4 ≤ 21 := ⟨tbm 1334 (by decide +kernel) (by decide +kernel), tbm 51 (by decide +kernel) (by decide +kernel), tbm 134 (by decide +kernel) (by decide +kernel), tbm 1335 (by decide +kernel) (by decide +kernel), by decide +kernel, by decide⟩
theorem wi_RX11_322 : Iv RX11 322 yX11_layDoer cX11_layDoer 4 none 3 := ⟨tbm 1332 (by decide +kernel) (by decide +kernel), wm_X11_layDoer⟩
def mX11_who_L94 (t : Nat) (tw : Nat) (dr : Nat) (x1 : Int32) (x3 : Int32) (x4 : Int32) (k134 : Int32 → St_ → Option (Int32 × St_)) : Nat → Int32 → Int32 → St_ → Option (Int32 × St_)
  | 0, _, _, _ => none
  | n + 1, x2, x5, σ => (if (σ.1 (t + 183) 4) ≤ x5 then
 (k134 x2 σ)
 else ((mX11_leadsToNow t tw dr x3 x5 σ).bind fun r8 =>
 (bnd (fun (j9 : Int32) (σ10 : St_) => (mX11_who_L94 t tw dr x1 x3 x4 k134 n j9 (x5 + 1) σ10)) fun k11 =>
 (if r8 = true then
 ((mX11_layDoer t tw dr x3 x4 x5 σ).bind fun σ13 =>
 (k11 (x2 + 1) σ13))
 else (k11 x2 σ)))))
def mX11_who_L33 (t : Nat) (tw : Nat) (dr : Nat) (x1 : Int32) (x3 : Int32) (k140 : Int32 → St_ → Option (Int32 × St_)) : Nat → Int32 → Int32 → St_ → Option (Int32 × St_)
  | 0, _, _, _ => none
  | n + 1, x2, x4, σ => (if (σ.1 tw 0) ≤ x4 then
 (k140 x2 σ)
 else (if bin x1 3 = true then
 ((mX8_copy (t + 221) (t + 224 + 3 * x1.toNatClampNeg) σ).bind fun σ4 =>
 (bnd (sI σ4 (t + 221) 4 (0 : Int32)) fun σ5 =>
 (bnd (sI σ5 (t + 221) 3 x4) fun σ6 =>
 ((mX9_gather (t + 183) tw (t + 221) x3 σ6).bind fun σ7 =>
 (mX11_who_L94 t tw dr x1 x3 x4
 (fun (y14 : Int32) (σ15 : St_) => (mX11_who_L33 t tw dr x1 x3 k140 n y14 (x4 + 1) σ15)) FU x2 (0 : Int32) σ7)))))
 else none))
def mX11_who_L19 (t : Nat) (tw : Nat) (dr : Nat) (x1 : Int32) : Nat → Int32 → Int32 → St_ → Option (Int32 × St_)
  | 0, _, _, _ => none
  | n + 1, x2, x3, σ => (if (σ.1 tw 4) ≤ x3 then
 (some (x2, σ))
 else (mX11_who_L33 t tw dr x1 x3
 (fun (y16 : Int32) (σ17 : St_) => (mX11_who_L19 t tw dr x1 n y16 (x3 + 1) σ17)) FU x2 (0 : Int32) σ))
def mX11_who (t : Nat) (tw : Nat) (dr : Nat) (p1 : Int32) (σ : St_) : Option (Int32 × St_) :=
 (bnd (sI σ t 9 (0 : Int32)) fun σ1 =>
 ((mX11_isFilled t tw dr p1 σ1).bind fun r2 =>
 (if r2 = true then
 (mX11_who_L19 t tw dr p1 FU (0 : Int32) (0 : Int32) σ1)
 else (some ((-1 : Int32), σ1)))))
set_option maxHeartbeats 4000000 in
theorem tmX11_who_L94 (t : Nat) (tw : Nat) (dr : Nat) (hT : LY11 sh P t tw dr) (x1 : Int32) (x3 : Int32) (x4 : Int32) (k134 : Int32 → St_ → Option (Int32 × St_)) (hk134 : ∀ (y2 : Int32) (σ1 : St_), Tj l D cA h0 ad RX11 cX11_who 6 (some .int) false 7 0 0 (fun b => (some (.int b.1), sh, P, b.2)) 0 0 sh P σ1 134 [(0, .ref (h0 + t)), (1, .int x1), (2, .int y2), (3, .int x3), (4, .int x4)] [] (k134 y2 σ1)) : ∀ (n : Nat) (x2 : Int32) (x5 : Int32) (σ : St_), Tj l D cA h0 ad RX11 cX11_who 6 (some .int) false 7 0 0 (fun b => (some (.int b.1), sh, P, b.2)) 0 0 sh P σ 94 [(0, .ref (h0 + t)), (1, .int x1), (2, .int x2), (3, .int x3), (4, .int x4), (5, .int x5)] [] (mX11_who_L94 t tw dr x1 x3 x4 k134 n x2 x5 σ) := by
  intro n
  induction n with
  | zero => intros; exact tj_none
  | succ n ih =>
    intro x2 x5 σ
    rw [mX11_who_L94]
    refine tj_iload (q := 96) dX11_who_94 rfl (pl := 5) rfl ?_
    refine tj_aload_n (q := 97) dX11_who_96 rfl (i := 0) rfl (pl := 0) rfl ?_
    refine tj_getR (q := 100) (hT).s (hT).p_list fok_11_12 wl_RX11_75 dX11_who_97 rfl ?_
    refine tj_getI (q := 103) ((hT).o_list).s fok_9_4 wl_RX11_227 dX11_who_100 rfl ?_
    refine tj_icmp_ge (tgt := 134) (q := 106) dX11_who_103 (by decide) rfl ?_ ?_
    · refine tj_lv [0, 1, 2, 3, 4] rfl ?_
      exact hk134 x2 σ
    · refine tj_aload_n (q := 107) dX11_who_106 rfl (i := 0) rfl (pl := 0) rfl ?_
      refine tj_iload_n (q := 108) dX11_who_107 rfl (i := 3) rfl (pl := 3) rfl ?_
      refine tj_iload (q := 110) dX11_who_108 rfl (pl := 5) rfl ?_
      refine tj_callZp (q := 113) (kj_V (As := [.int x3, .int x5]) (rest := []) (t := t) wi_RX11_319 (hT).s rfl (rX11_leadsToNow t tw dr x3 x5 (hT)) rfl (Nat.le_of_ble_eq_true rfl) ⟨Nat.le_of_ble_eq_true rfl, Nat.le_of_ble_eq_true rfl⟩ (Nat.le_of_ble_eq_true rfl) dX11_who_110) rfl (fun r8 => ?_)
      refine tj_bnd (fun k11 => ∀ (j9 : Int32) (σ10 : St_), Tj l D cA h0 ad RX11 cX11_who 6 (some .int) false 7 0 0 (fun b => (some (.int b.1), sh, P, b.2)) 0 0 sh P σ10 128 [(0, .ref (h0 + t)), (1, .int x1), (2, .int j9), (3, .int x3), (4, .int x4), (5, .int x5)] [] (k11 j9 σ10)) ?_ (fun k11 hk12 => ?_)
      · intro j9 σ10
        refine tj_iinc (q := 131) (v := x5 + 1) dX11_who_128 rfl (pl := 5) rfl rfl (by decide) rfl ?_
        refine tj_goto (q := 94) dX11_who_131 (by decide) ?_
        refine tj_lv [1, 2, 3, 4, 5, 0] rfl ?_
        exact ih j9 (x5 + 1) σ10
      · refine tj_bz (tgt := 128) (q := 116) dX11_who_113 (by decide) rfl ?_ ?_
        · refine tj_aload_n (q := 117) dX11_who_116 rfl (i := 0) rfl (pl := 0) rfl ?_
          refine tj_iload_n (q := 118) dX11_who_117 rfl (i := 3) rfl (pl := 3) rfl ?_
          refine tj_iload (q := 120) dX11_who_118 rfl (pl := 4) rfl ?_
          refine tj_iload (q := 122) dX11_who_120 rfl (pl := 5) rfl ?_
          refine tj_callV (q := 125) (kj_V (As := [.int x3, .int x4, .int x5]) (rest := []) (t := t) wi_RX11_322 (hT).s rfl (rX11_layDoer t tw dr x3 x4 x5 (hT)) rfl (Nat.le_of_ble_eq_true rfl) ⟨Nat.le_of_ble_eq_true rfl, Nat.le_of_ble_eq_true rfl⟩ (Nat.le_of_ble_eq_true rfl) dX11_who_122) rfl (fun σ13 => ?_)
          refine tj_iinc (q := 128) (v := x2 + 1) dX11_who_125 rfl (pl := 2) rfl rfl (by decide) rfl ?_
          refine tj_lv [1, 2, 0, 3, 4, 5] rfl ?_
          exact hk12 (x2 + 1) σ13
        · exact hk12 x2 σ

set_option maxHeartbeats 4000000 in
theorem tmX11_who_L33 (t : Nat) (tw : Nat) (dr : Nat) (hT : LY11 sh P t tw dr) (x1 : Int32) (x3 : Int32) (k140 : Int32 → St_ → Option (Int32 × St_)) (hk140 : ∀ (y2 : Int32) (σ1 : St_), Tj l D cA h0 ad RX11 cX11_who 6 (some .int) false 7 0 0 (fun b => (some (.int b.1), sh, P, b.2)) 0 0 sh P σ1 140 [(0, .ref (h0 + t)), (1, .int x1), (2, .int y2), (3, .int x3)] [] (k140 y2 σ1)) : ∀ (n : Nat) (x2 : Int32) (x4 : Int32) (σ : St_), Tj l D cA h0 ad RX11 cX11_who 6 (some .int) false 7 0 0 (fun b => (some (.int b.1), sh, P, b.2)) 0 0 sh P σ 33 [(0, .ref (h0 + t)), (1, .int x1), (2, .int x2), (3, .int x3), (4, .int x4)] [] (mX11_who_L33 t tw dr x1 x3 k140 n x2 x4 σ) := by
  intro n
  induction n with
  | zero => intros; exact tj_none
  | succ n ih =>
    intro x2 x4 σ
    rw [mX11_who_L33]
    refine tj_iload (q := 35) dX11_who_33 rfl (pl := 4) rfl ?_
    refine tj_aload_n (q := 36) dX11_who_35 rfl (i := 0) rfl (pl := 0) rfl ?_
    refine tj_getR (q := 39) (hT).s (hT).p_town fok_11_2 wl_RX11_26 dX11_who_36 rfl ?_
    refine tj_getI (q := 42) ((hT).o_town).s fok_1_0 wl_RX11_210 dX11_who_39 rfl ?_
    refine tj_icmp_ge (tgt := 140) (q := 45) dX11_who_42 (by decide) rfl ?_ ?_
    · refine tj_lv [0, 1, 2, 3] rfl ?_
      exact hk140 x2 σ
    · refine tj_aload_n (q := 46) dX11_who_45 rfl (i := 0) rfl (pl := 0) rfl ?_
      refine tj_getR (q := 49) (hT).s (hT).p_trial fok_11_15 wl_RX11_93 dX11_who_46 rfl ?_
      refine tj_aload_n (q := 50) dX11_who_49 rfl (i := 0) rfl (pl := 0) rfl ?_
      refine tj_getR (q := 53) (hT).s (hT).p_boxes fok_11_6 wl_RX11_47 dX11_who_50 rfl ?_
      refine tj_iload_n (q := 54) dX11_who_53 rfl (i := 1) rfl (pl := 1) rfl ?_
      refine tj_aaload (q := 55) (j := t + 224 + 3 * x1.toNatClampNeg) (hT).s_boxes (fun hg3 => ((hT).e_boxes _ (bin_lt hg3)).1) dX11_who_54 rfl (fun hg3 => ?_)
      refine tj_callV (q := 58) (kj_V (As := [.ref (h0 + (t + 224 + 3 * x1.toNatClampNeg))]) (rest := []) (t := (t + 221)) wi_RX11_307 ((hT).o_trial).s rfl (rX8_copy (t + 221) (t + 224 + 3 * x1.toNatClampNeg) ((hT).o_trial) (((hT).e_boxes _ (bin_lt hg3)).2)) rfl (Nat.le_of_ble_eq_true rfl) ⟨Nat.le_of_ble_eq_true rfl, Nat.le_of_ble_eq_true rfl⟩ (Nat.le_of_ble_eq_true rfl) dX11_who_55) rfl (fun σ4 => ?_)
      refine tj_aload_n (q := 59) dX11_who_58 rfl (i := 0) rfl (pl := 0) rfl ?_
      refine tj_getR (q := 62) (hT).s (hT).p_trial fok_11_15 wl_RX11_93 dX11_who_59 rfl ?_
      refine tj_iconst (q := 63) (v := 0) dX11_who_62 rfl (by decide) ?_
      refine tj_putI (q := 66) ((hT).o_trial).s fok_8_4 tok_8 fpk_8_4 wl_RX11_165 dX11_who_63 rfl (fun σ5 => ?_)
      refine tj_aload_n (q := 67) dX11_who_66 rfl (i := 0) rfl (pl := 0) rfl ?_
      refine tj_getR (q := 70) (hT).s (hT).p_trial fok_11_15 wl_RX11_93 dX11_who_67 rfl ?_
      refine tj_iload (q := 72) dX11_who_70 rfl (pl := 4) rfl ?_
      refine tj_putI (q := 75) ((hT).o_trial).s fok_8_3 tok_8 fpk_8_3 wl_RX11_189 dX11_who_72 rfl (fun σ6 => ?_)
      refine tj_aload_n (q := 76) dX11_who_75 rfl (i := 0) rfl (pl := 0) rfl ?_
      refine tj_getR (q := 79) (hT).s (hT).p_list fok_11_12 wl_RX11_75 dX11_who_76 rfl ?_
      refine tj_aload_n (q := 80) dX11_who_79 rfl (i := 0) rfl (pl := 0) rfl ?_
      refine tj_getR (q := 83) (hT).s (hT).p_town fok_11_2 wl_RX11_26 dX11_who_80 rfl ?_
      refine tj_aload_n (q := 84) dX11_who_83 rfl (i := 0) rfl (pl := 0) rfl ?_
      refine tj_getR (q := 87) (hT).s (hT).p_trial fok_11_15 wl_RX11_93 dX11_who_84 rfl ?_
      refine tj_iload_n (q := 88) dX11_who_87 rfl (i := 3) rfl (pl := 3) rfl ?_
      refine tj_callV (q := 91) (kj_V (As := [.ref (h0 + tw), .ref (h0 + (t + 221)), .int x3]) (rest := []) (t := (t + 183)) wi_RX11_223 ((hT).o_list).s rfl (rX9_gather (t + 183) tw (t + 221) x3 ((hT).o_list) ((hT).o_town) ((hT).o_trial)) rfl (Nat.le_of_ble_eq_true rfl) ⟨Nat.le_of_ble_eq_true rfl, Nat.le_of_ble_eq_true rfl⟩ (Nat.le_of_ble_eq_true rfl) dX11_who_88) rfl (fun σ7 => ?_)
      refine tj_iconst (q := 92) (v := 0) dX11_who_91 rfl (by decide) ?_
      refine tj_istore (q := 94) dX11_who_92 rfl (by decide) rfl ?_
      refine tj_lv [1, 2, 3, 4, 5, 0] rfl ?_
      refine tmX11_who_L94 t tw dr hT x1 x3 x4 _ ?_ FU x2 (0 : Int32) σ7
      · intro y14 σ15
        refine tj_iinc (q := 137) (v := x4 + 1) dX11_who_134 rfl (pl := 4) rfl rfl (by decide) rfl ?_
        refine tj_goto (q := 33) dX11_who_137 (by decide) ?_
        refine tj_lv [1, 2, 3, 4, 0] rfl ?_
        exact ih y14 (x4 + 1) σ15

set_option maxHeartbeats 4000000 in
theorem tmX11_who_L19 (t : Nat) (tw : Nat) (dr : Nat) (hT : LY11 sh P t tw dr) (x1 : Int32) : ∀ (n : Nat) (x2 : Int32) (x3 : Int32) (σ : St_), Tj l D cA h0 ad RX11 cX11_who 6 (some .int) false 7 0 0 (fun b => (some (.int b.1), sh, P, b.2)) 0 0 sh P σ 19 [(0, .ref (h0 + t)), (1, .int x1), (2, .int x2), (3, .int x3)] [] (mX11_who_L19 t tw dr x1 n x2 x3 σ) := by
  intro n
  induction n with
  | zero => intros; exact tj_none
  | succ n ih =>
    intro x2 x3 σ
    rw [mX11_who_L19]
    refine tj_iload_n (q := 20) dX11_who_19 rfl (i := 3) rfl (pl := 3) rfl ?_
    refine tj_aload_n (q := 21) dX11_who_20 rfl (i := 0) rfl (pl := 0) rfl ?_
    refine tj_getR (q := 24) (hT).s (hT).p_town fok_11_2 wl_RX11_26 dX11_who_21 rfl ?_
    refine tj_getI (q := 27) ((hT).o_town).s fok_1_4 wl_RX11_276 dX11_who_24 rfl ?_
    refine tj_icmp_ge (tgt := 146) (q := 30) dX11_who_27 (by decide) rfl ?_ ?_
    · refine tj_iload_n (q := 147) dX11_who_146 rfl (i := 2) rfl (pl := 2) rfl ?_
      exact tj_iret rfl rfl (Nat.le_of_ble_eq_true rfl) (Nat.le_of_ble_eq_true rfl) dX11_who_147
    · refine tj_iconst (q := 31) (v := 0) dX11_who_30 rfl (by decide) ?_
      refine tj_istore (q := 33) dX11_who_31 rfl (by decide) rfl ?_
      refine tj_lv [1, 2, 3, 4, 0] rfl ?_
      refine tmX11_who_L33 t tw dr hT x1 x3 _ ?_ FU x2 (0 : Int32) σ
      · intro y16 σ17
        refine tj_iinc (q := 143) (v := x3 + 1) dX11_who_140 rfl (pl := 3) rfl rfl (by decide) rfl ?_
        refine tj_goto (q := 19) dX11_who_143 (by decide) ?_
        refine tj_lv [1, 2, 3, 0] rfl ?_
        exact ih y16 (x3 + 1) σ17

set_option maxHeartbeats 4000000 in
theorem rX11_who (t : Nat) (tw : Nat) (dr : Nat) (p1 : Int32) (hT : LY11 sh P t tw dr) : Rj l D cA h0 ad yX11_who cX11_who 6 (some .int) false 7 0 0 (fun b => (some (.int b.1), sh, P, b.2)) [.ref (h0 + t), .int p1] sh P σ (mX11_who t tw dr p1 σ) := by
  rw [mX11_who]
  refine Rj.of (by decide) (fun h => by cases h) (Nat.le_of_ble_eq_true rfl) ?_
  refine tj_lv0 (lv' := [(0, .ref (h0 + t)), (1, .int p1)]) rfl ?_
  refine tj_aload_n (q := 1) dX11_who_0 rfl (i := 0) rfl (pl := 0) rfl ?_
  refine tj_iconst (q := 2) (v := 0) dX11_who_1 rfl (by decide) ?_
  refine tj_putI (q := 5) (hT).s fok_11_9 tok_11 fpk_11_9 wl_RX11_59 dX11_who_2 rfl (fun σ1 => ?_)
  refine tj_aload_n (q := 6) dX11_who_5 rfl (i := 0) rfl (pl := 0) rfl ?_
  refine tj_iload_n (q := 7) dX11_who_6 rfl (i := 1) rfl (pl := 1) rfl ?_
  refine tj_callZp (q := 10) (kj_V (As := [.int p1]) (rest := []) (t := t) wi_RX11_316 (hT).s rfl (rX11_isFilled t tw dr p1 (hT)) rfl (Nat.le_of_ble_eq_true rfl) ⟨Nat.le_of_ble_eq_true rfl, Nat.le_of_ble_eq_true rfl⟩ (Nat.le_of_ble_eq_true rfl) dX11_who_7) rfl (fun r2 => ?_)
  refine tj_bnz (tgt := 15) (q := 13) dX11_who_10 (by decide) rfl ?_ ?_
  · refine tj_iconst (q := 16) (v := 0) dX11_who_15 rfl (by decide) ?_
    refine tj_istore_n (q := 17) dX11_who_16 rfl (i := 2) rfl (by decide) rfl ?_
    refine tj_iconst (q := 18) (v := 0) dX11_who_17 rfl (by decide) ?_
    refine tj_istore_n (q := 19) dX11_who_18 rfl (i := 3) rfl (by decide) rfl ?_
    refine tj_lv [2, 3, 1, 0] rfl ?_
    exact tmX11_who_L19 t tw dr hT p1 FU (0 : Int32) (0 : Int32) σ1
  · refine tj_iconst (q := 14) (v := (-1)) dX11_who_13 rfl (by decide) ?_
    exact tj_iret rfl rfl (Nat.le_of_ble_eq_true rfl) (Nat.le_of_ble_eq_true rfl) dX11_who_14

theorem dX11_lies_0 : decode cX11_lies 0 = .ok (.iload_n 1, 1) := by decide +kernel
theorem dX11_lies_1 : decode cX11_lies 1 = .ok (.ifCond .lt 20, 3) := by decide +kernel
theorem dX11_lies_4 : decode cX11_lies 4 = .ok (.iload_n 1, 1) := by decide +kernel
theorem dX11_lies_5 : decode cX11_lies 5 = .ok (.aload_n 0, 1) := by decide +kernel
theorem dX11_lies_6 : decode cX11_lies 6 = .ok (.getfield 59, 3) := by decide +kernel
theorem dX11_lies_9 : decode cX11_lies 9 = .ok (.if_icmp .ge 12, 3) := by decide +kernel
theorem dX11_lies_12 : decode cX11_lies 12 = .ok (.aload_n 0, 1) := by decide +kernel
theorem dX11_lies_13 : decode cX11_lies 13 = .ok (.getfield 55, 3) := by decide +kernel
theorem dX11_lies_16 : decode cX11_lies 16 = .ok (.iload_n 1, 1) := by decide +kernel
theorem dX11_lies_17 : decode cX11_lies 17 = .ok (.iaload, 1) := by decide +kernel
theorem dX11_lies_18 : decode cX11_lies 18 = .ok (.goto 5, 3) := by decide +kernel
theorem dX11_lies_21 : decode cX11_lies 21 = .ok (.ldc 228, 2) := by decide +kernel
theorem dX11_lies_23 : decode cX11_lies 23 = .ok (.ireturn, 1) := by decide +kernel
def mX11_lies (t : Nat) (tw : Nat) (dr : Nat) (p1 : Int32) (σ : St_) : Option Int32 :=
 (if p1 < 0 then
 (some (-1000000 : Int32))
 else (if (σ.1 t 9) ≤ p1 then
 (some (-1000000 : Int32))
 else (if bin p1 30 = true then bnd (σ.1 (t + 173) p1.toNatClampNeg) fun v1 =>
 (some v1)
 else none)))
set_option maxHeartbeats 4000000 in
theorem rX11_lies (t : Nat) (tw : Nat) (dr : Nat) (p1 : Int32) (hT : LY11 sh P t tw dr) : Rj l D cA h0 ad yX11_lies cX11_lies 2 (some .int) false 2 0 0 (fun b => (some (.int b), sh, P, σ)) [.ref (h0 + t), .int p1] sh P σ (mX11_lies t tw dr p1 σ) := by
  rw [mX11_lies]
  refine Rj.of (by decide) (fun h => by cases h) (Nat.le_of_ble_eq_true rfl) ?_
  refine tj_lv0 (lv' := [(0, .ref (h0 + t)), (1, .int p1)]) rfl ?_
  refine tj_iload_n (q := 1) dX11_lies_0 rfl (i := 1) rfl (pl := 1) rfl ?_
  refine tj_if_lt (tgt := 21) (q := 4) dX11_lies_1 (by decide) rfl ?_ ?_
  · refine tj_ldc (q := 23) (v := (-1000000)) dX11_lies_21 rfl wc_RX11_228 ?_
    exact tj_iret rfl rfl (Nat.le_of_ble_eq_true rfl) (Nat.le_of_ble_eq_true rfl) dX11_lies_23
  · refine tj_iload_n (q := 5) dX11_lies_4 rfl (i := 1) rfl (pl := 1) rfl ?_
    refine tj_aload_n (q := 6) dX11_lies_5 rfl (i := 0) rfl (pl := 0) rfl ?_
    refine tj_getI (q := 9) (hT).s fok_11_9 wl_RX11_59 dX11_lies_6 rfl ?_
    refine tj_icmp_ge (tgt := 21) (q := 12) dX11_lies_9 (by decide) rfl ?_ ?_
    · refine tj_ldc (q := 23) (v := (-1000000)) dX11_lies_21 rfl wc_RX11_228 ?_
      exact tj_iret rfl rfl (Nat.le_of_ble_eq_true rfl) (Nat.le_of_ble_eq_true rfl) dX11_lies_23
    · refine tj_aload_n (q := 13) dX11_lies_12 rfl (i := 0) rfl (pl := 0) rfl ?_
      refine tj_getR (q := 16) (hT).s (hT).p_laid fok_11_8 wl_RX11_55 dX11_lies_13 rfl ?_
      refine tj_iload_n (q := 17) dX11_lies_16 rfl (i := 1) rfl (pl := 1) rfl ?_
      refine tj_iaload (q := 18) (hT).s_laid dX11_lies_17 rfl ?_
      refine tj_topI (fun v1 => ?_)
      refine tj_goto (q := 23) dX11_lies_18 (by decide) ?_
      exact tj_iret rfl rfl (Nat.le_of_ble_eq_true rfl) (Nat.le_of_ble_eq_true rfl) dX11_lies_23

theorem dX11_report_0 : decode cX11_report 0 = .ok (.aload_n 0, 1) := by decide +kernel
theorem dX11_report_1 : decode cX11_report 1 = .ok (.iload_n 1, 1) := by decide +kernel
theorem dX11_report_2 : decode cX11_report 2 = .ok (.invokevirtual 174, 3) := by decide +kernel
theorem dX11_report_5 : decode cX11_report 5 = .ok (.ifCond .eq 41, 3) := by decide +kernel
theorem dX11_report_8 : decode cX11_report 8 = .ok (.aload_n 0, 1) := by decide +kernel
theorem dX11_report_9 : decode cX11_report 9 = .ok (.iload_n 2, 1) := by decide +kernel
theorem dX11_report_10 : decode cX11_report 10 = .ok (.invokevirtual 131, 3) := by decide +kernel
theorem dX11_report_13 : decode cX11_report 13 = .ok (.ifCond .eq 33, 3) := by decide +kernel
theorem dX11_report_16 : decode cX11_report 16 = .ok (.aload_n 0, 1) := by decide +kernel
theorem dX11_report_17 : decode cX11_report 17 = .ok (.iload_n 3, 1) := by decide +kernel
theorem dX11_report_18 : decode cX11_report 18 = .ok (.invokevirtual 131, 3) := by decide +kernel
theorem dX11_report_21 : decode cX11_report 21 = .ok (.ifCond .eq 25, 3) := by decide +kernel
theorem dX11_report_24 : decode cX11_report 24 = .ok (.iload_n 2, 1) := by decide +kernel
theorem dX11_report_25 : decode cX11_report 25 = .ok (.iload_n 3, 1) := by decide +kernel
theorem dX11_report_26 : decode cX11_report 26 = .ok (.if_icmp .eq 20, 3) := by decide +kernel
theorem dX11_report_29 : decode cX11_report 29 = .ok (.iload 4, 2) := by decide +kernel
theorem dX11_report_31 : decode cX11_report 31 = .ok (.ifCond .lt 15, 3) := by decide +kernel
theorem dX11_report_34 : decode cX11_report 34 = .ok (.iload 4, 2) := by decide +kernel
theorem dX11_report_36 : decode cX11_report 36 = .ok (.aload_n 0, 1) := by decide +kernel
theorem dX11_report_37 : decode cX11_report 37 = .ok (.getfield 26, 3) := by decide +kernel
theorem dX11_report_40 : decode cX11_report 40 = .ok (.getfield 210, 3) := by decide +kernel
theorem dX11_report_43 : decode cX11_report 43 = .ok (.if_icmp .lt 5, 3) := by decide +kernel
theorem dX11_report_46 : decode cX11_report 46 = .ok (.iconst (-1), 1) := by decide +kernel
theorem dX11_report_47 : decode cX11_report 47 = .ok (.ireturn, 1) := by decide +kernel
theorem dX11_report_48 : decode cX11_report 48 = .ok (.aload_n 0, 1) := by decide +kernel
theorem dX11_report_49 : decode cX11_report 49 = .ok (.getfield 65, 3) := by decide +kernel
theorem dX11_report_52 : decode cX11_report 52 = .ok (.iload_n 1, 1) := by decide +kernel
theorem dX11_report_53 : decode cX11_report 53 = .ok (.iload_n 2, 1) := by decide +kernel
theorem dX11_report_54 : decode cX11_report 54 = .ok (.iload_n 3, 1) := by decide +kernel
theorem dX11_report_55 : decode cX11_report 55 = .ok (.iload 4, 2) := by decide +kernel
theorem dX11_report_57 : decode cX11_report 57 = .ok (.iload 5, 2) := by decide +kernel
theorem dX11_report_59 : decode cX11_report 59 = .ok (.aload_n 0, 1) := by decide +kernel
theorem dX11_report_60 : decode cX11_report 60 = .ok (.getfield 69, 3) := by decide +kernel
theorem dX11_report_63 : decode cX11_report 63 = .ok (.invokevirtual 326, 3) := by decide +kernel
theorem dX11_report_66 : decode cX11_report 66 = .ok (.ireturn, 1) := by decide +kernel
theorem wl_RX11_65 : Cond.fieldLink RX11 65 (TX11 10).1 (TX11 10).2.1 (TX11 10).2.2.1 ∈ TB := tbm 623 (by decide +kernel) (by decide +kernel)
theorem wl_RX11_69 : Cond.fieldLink RX11 69 (TX11 11).1 (TX11 11).2.1 (TX11 11).2.2.1 ∈ TB := tbm 624 (by decide +kernel) (by decide +kernel)
theorem wm_X5_add : Cond.instanceMethod yX5_add ∈ TB ∧ Cond.selects yX5_add.cls yX5_add yX5_add ∈ TB ∧ Cond.initialized yX5_add.cls ∈ TB ∧ Cond.code yX5_add cX5_add 7 (some .int) ∈ TB ∧ (yX5_add.cls ≠ "java/lang/invoke/MethodHandle" ∧ yX5_add.cls ≠ "java/lang/invoke/VarHandle" ∧ (parseMethodDescriptor yX5_add.desc).map (fun d => d.parameters.length) = some 6) ∧ 7 ≤ 21 := ⟨tbm 1345 (by decide +kernel) (by decide +kernel), tbm 1346 (by decide +kernel) (by decide +kernel), tbm 142 (by decide +kernel) (by decide +kernel), tbm 1347 (by decide +kernel) (by decide +kernel), by decide +kernel, by decide⟩
theorem wi_RX11_326 : Iv RX11 326 yX5_add cX5_add 7 (some .int) 6 := ⟨tbm 1344 (by decide +kernel) (by decide +kernel), wm_X5_add⟩
def mX11_report (t : Nat) (tw : Nat) (dr : Nat) (p1 : Int32) (p2 : Int32) (p3 : Int32) (p4 : Int32) (p5 : Bool) (σ : St_) : Option (Int32 × St_) :=
 ((mX11_isHouse t tw dr p1 σ).bind fun r1 =>
 (if r1 = true then
 ((mX11_isThing t tw dr p2 σ).bind fun r2 =>
 (if r2 = true then
 ((mX11_isThing t tw dr p3 σ).bind fun r3 =>
 (if r3 = true then
 (if p2 = p3 then
 (some ((-1 : Int32), σ))
 else (if p4 < 0 then
 (some ((-1 : Int32), σ))
 else (if p4 < (σ.1 tw 0) then
 ((mX5_add (t + 174) p1 p2 p3 p4 p5 (σ.1 t 11) σ).bind fun r4 =>
 (some (r4.1, r4.2)))
 else (some ((-1 : Int32), σ)))))
 else (some ((-1 : Int32), σ))))
 else (some ((-1 : Int32), σ))))
 else (some ((-1 : Int32), σ))))
set_option maxHeartbeats 4000000 in
theorem rX11_report (t : Nat) (tw : Nat) (dr : Nat) (p1 : Int32) (p2 : Int32) (p3 : Int32) (p4 : Int32) (p5 : Bool) (hT : LY11 sh P t tw dr) : Rj l D cA h0 ad yX11_report cX11_report 6 (some .int) false 3 0 0 (fun b => (some (.int b.1), sh, P, b.2)) [.ref (h0 + t), .int p1, .int p2, .int p3, .int p4, .int (b2i p5)] sh P σ (mX11_report t tw dr p1 p2 p3 p4 p5 σ) := by
  rw [mX11_report]
  refine Rj.of (by decide) (fun h => by cases h) (Nat.le_of_ble_eq_true rfl) ?_
  refine tj_lv0 (lv' := [(0, .ref (h0 + t)), (1, .int p1), (2, .int p2), (3, .int p3), (4, .int p4), (5, .int (b2i p5))]) rfl ?_
  refine tj_aload_n (q := 1) dX11_report_0 rfl (i := 0) rfl (pl := 0) rfl ?_
  refine tj_iload_n (q := 2) dX11_report_1 rfl (i := 1) rfl (pl := 1) rfl ?_
  refine tj_callZp (q := 5) (kj_V (As := [.int p1]) (rest := []) (t := t) wi_RX11_174 (hT).s rfl (rX11_isHouse t tw dr p1 (hT)) rfl (Nat.le_of_ble_eq_true rfl) ⟨Nat.le_of_ble_eq_true rfl, Nat.le_of_ble_eq_true rfl⟩ (Nat.le_of_ble_eq_true rfl) dX11_report_2) rfl (fun r1 => ?_)
  refine tj_bz (tgt := 46) (q := 8) dX11_report_5 (by decide) rfl ?_ ?_
  · refine tj_aload_n (q := 9) dX11_report_8 rfl (i := 0) rfl (pl := 0) rfl ?_
    refine tj_iload_n (q := 10) dX11_report_9 rfl (i := 2) rfl (pl := 2) rfl ?_
    refine tj_callZp (q := 13) (kj_V (As := [.int p2]) (rest := []) (t := t) wi_RX11_131 (hT).s rfl (rX11_isThing t tw dr p2 (hT)) rfl (Nat.le_of_ble_eq_true rfl) ⟨Nat.le_of_ble_eq_true rfl, Nat.le_of_ble_eq_true rfl⟩ (Nat.le_of_ble_eq_true rfl) dX11_report_10) rfl (fun r2 => ?_)
    refine tj_bz (tgt := 46) (q := 16) dX11_report_13 (by decide) rfl ?_ ?_
    · refine tj_aload_n (q := 17) dX11_report_16 rfl (i := 0) rfl (pl := 0) rfl ?_
      refine tj_iload_n (q := 18) dX11_report_17 rfl (i := 3) rfl (pl := 3) rfl ?_
      refine tj_callZp (q := 21) (kj_V (As := [.int p3]) (rest := []) (t := t) wi_RX11_131 (hT).s rfl (rX11_isThing t tw dr p3 (hT)) rfl (Nat.le_of_ble_eq_true rfl) ⟨Nat.le_of_ble_eq_true rfl, Nat.le_of_ble_eq_true rfl⟩ (Nat.le_of_ble_eq_true rfl) dX11_report_18) rfl (fun r3 => ?_)
      refine tj_bz (tgt := 46) (q := 24) dX11_report_21 (by decide) rfl ?_ ?_
      · refine tj_iload_n (q := 25) dX11_report_24 rfl (i := 2) rfl (pl := 2) rfl ?_
        refine tj_iload_n (q := 26) dX11_report_25 rfl (i := 3) rfl (pl := 3) rfl ?_
        refine tj_icmp_eq (tgt := 46) (q := 29) dX11_report_26 (by decide) rfl ?_ ?_
        · refine tj_iconst (q := 47) (v := (-1)) dX11_report_46 rfl (by decide) ?_
          exact tj_iret rfl rfl (Nat.le_of_ble_eq_true rfl) (Nat.le_of_ble_eq_true rfl) dX11_report_47
        · refine tj_iload (q := 31) dX11_report_29 rfl (pl := 4) rfl ?_
          refine tj_if_lt (tgt := 46) (q := 34) dX11_report_31 (by decide) rfl ?_ ?_
          · refine tj_iconst (q := 47) (v := (-1)) dX11_report_46 rfl (by decide) ?_
            exact tj_iret rfl rfl (Nat.le_of_ble_eq_true rfl) (Nat.le_of_ble_eq_true rfl) dX11_report_47
          · refine tj_iload (q := 36) dX11_report_34 rfl (pl := 4) rfl ?_
            refine tj_aload_n (q := 37) dX11_report_36 rfl (i := 0) rfl (pl := 0) rfl ?_
            refine tj_getR (q := 40) (hT).s (hT).p_town fok_11_2 wl_RX11_26 dX11_report_37 rfl ?_
            refine tj_getI (q := 43) ((hT).o_town).s fok_1_0 wl_RX11_210 dX11_report_40 rfl ?_
            refine tj_icmp_lt (tgt := 48) (q := 46) dX11_report_43 (by decide) rfl ?_ ?_
            · refine tj_aload_n (q := 49) dX11_report_48 rfl (i := 0) rfl (pl := 0) rfl ?_
              refine tj_getR (q := 52) (hT).s (hT).p_reports fok_11_10 wl_RX11_65 dX11_report_49 rfl ?_
              refine tj_iload_n (q := 53) dX11_report_52 rfl (i := 1) rfl (pl := 1) rfl ?_
              refine tj_iload_n (q := 54) dX11_report_53 rfl (i := 2) rfl (pl := 2) rfl ?_
              refine tj_iload_n (q := 55) dX11_report_54 rfl (i := 3) rfl (pl := 3) rfl ?_
              refine tj_iload (q := 57) dX11_report_55 rfl (pl := 4) rfl ?_
              refine tj_iload (q := 59) dX11_report_57 rfl (pl := 5) rfl ?_
              refine tj_aload_n (q := 60) dX11_report_59 rfl (i := 0) rfl (pl := 0) rfl ?_
              refine tj_getI (q := 63) (hT).s fok_11_11 wl_RX11_69 dX11_report_60 rfl ?_
              refine tj_callI (q := 66) (kj_V (As := [.int p1, .int p2, .int p3, .int p4, .int (b2i p5), .int (σ.1 t 11)]) (rest := []) (t := (t + 174)) wi_RX11_326 ((hT).o_reports).s rfl (rX5_add (t + 174) p1 p2 p3 p4 p5 (σ.1 t 11) ((hT).o_reports)) rfl (Nat.le_of_ble_eq_true rfl) ⟨Nat.le_of_ble_eq_true rfl, Nat.le_of_ble_eq_true rfl⟩ (Nat.le_of_ble_eq_true rfl) dX11_report_63) rfl (fun r4 => ?_)
              exact tj_iret rfl rfl (Nat.le_of_ble_eq_true rfl) (Nat.le_of_ble_eq_true rfl) dX11_report_66
            · refine tj_iconst (q := 47) (v := (-1)) dX11_report_46 rfl (by decide) ?_
              exact tj_iret rfl rfl (Nat.le_of_ble_eq_true rfl) (Nat.le_of_ble_eq_true rfl) dX11_report_47
      · refine tj_iconst (q := 47) (v := (-1)) dX11_report_46 rfl (by decide) ?_
        exact tj_iret rfl rfl (Nat.le_of_ble_eq_true rfl) (Nat.le_of_ble_eq_true rfl) dX11_report_47
    · refine tj_iconst (q := 47) (v := (-1)) dX11_report_46 rfl (by decide) ?_
      exact tj_iret rfl rfl (Nat.le_of_ble_eq_true rfl) (Nat.le_of_ble_eq_true rfl) dX11_report_47
  · refine tj_iconst (q := 47) (v := (-1)) dX11_report_46 rfl (by decide) ?_
    exact tj_iret rfl rfl (Nat.le_of_ble_eq_true rfl) (Nat.le_of_ble_eq_true rfl) dX11_report_47

theorem dX11_untell_0 : decode cX11_untell 0 = .ok (.aload_n 0, 1) := by decide +kernel
theorem dX11_untell_1 : decode cX11_untell 1 = .ok (.getfield 65, 3) := by decide +kernel
theorem dX11_untell_4 : decode cX11_untell 4 = .ok (.iload_n 1, 1) := by decide +kernel
theorem dX11_untell_5 : decode cX11_untell 5 = .ok (.aload_n 0, 1) := by decide +kernel
theorem dX11_untell_6 : decode cX11_untell 6 = .ok (.getfield 69, 3) := by decide +kernel
theorem dX11_untell_9 : decode cX11_untell 9 = .ok (.invokevirtual 329, 3) := by decide +kernel
theorem dX11_untell_12 : decode cX11_untell 12 = .ok (.ireturn, 1) := by decide +kernel
theorem wm_X5_takeBack : Cond.instanceMethod yX5_takeBack ∈ TB ∧ Cond.selects yX5_takeBack.cls yX5_takeBack yX5_takeBack ∈ TB ∧ Cond.initialized yX5_takeBack.cls ∈ TB ∧ Cond.code yX5_takeBack cX5_takeBack 3 (some .boolean) ∈ TB ∧ (yX5_takeBack.cls ≠ "java/lang/invoke/MethodHandle" ∧ yX5_takeBack.cls ≠ "java/lang/invoke/VarHandle" ∧ (parseMethodDescriptor yX5_takeBack.desc).map (fun d => d.parameters.length) = some 2) ∧ 3 ≤ 21 := ⟨tbm 1353 (by decide +kernel) (by decide +kernel), tbm 1354 (by decide +kernel) (by decide +kernel), tbm 142 (by decide +kernel) (by decide +kernel), tbm 1355 (by decide +kernel) (by decide +kernel), by decide +kernel, by decide⟩
theorem wi_RX11_329 : Iv RX11 329 yX5_takeBack cX5_takeBack 3 (some .boolean) 2 := ⟨tbm 1352 (by decide +kernel) (by decide +kernel), wm_X5_takeBack⟩
def mX11_untell (t : Nat) (tw : Nat) (dr : Nat) (p1 : Int32) (σ : St_) : Option (Bool × St_) :=
 ((mX5_takeBack (t + 174) p1 (σ.1 t 11) σ).bind fun r1 =>
 (some (r1.1, r1.2)))
set_option maxHeartbeats 4000000 in
theorem rX11_untell (t : Nat) (tw : Nat) (dr : Nat) (p1 : Int32) (hT : LY11 sh P t tw dr) : Rj l D cA h0 ad yX11_untell cX11_untell 2 (some .boolean) false 3 0 0 (fun b => (some (.int (b2i b.1)), sh, P, b.2)) [.ref (h0 + t), .int p1] sh P σ (mX11_untell t tw dr p1 σ) := by
  rw [mX11_untell]
  refine Rj.of (by decide) (fun h => by cases h) (Nat.le_of_ble_eq_true rfl) ?_
  refine tj_lv0 (lv' := [(0, .ref (h0 + t)), (1, .int p1)]) rfl ?_
  refine tj_aload_n (q := 1) dX11_untell_0 rfl (i := 0) rfl (pl := 0) rfl ?_
  refine tj_getR (q := 4) (hT).s (hT).p_reports fok_11_10 wl_RX11_65 dX11_untell_1 rfl ?_
  refine tj_iload_n (q := 5) dX11_untell_4 rfl (i := 1) rfl (pl := 1) rfl ?_
  refine tj_aload_n (q := 6) dX11_untell_5 rfl (i := 0) rfl (pl := 0) rfl ?_
  refine tj_getI (q := 9) (hT).s fok_11_11 wl_RX11_69 dX11_untell_6 rfl ?_
  refine tj_callZ (q := 12) (kj_V (As := [.int p1, .int (σ.1 t 11)]) (rest := []) (t := (t + 174)) wi_RX11_329 ((hT).o_reports).s rfl (rX5_takeBack (t + 174) p1 (σ.1 t 11) ((hT).o_reports)) rfl (Nat.le_of_ble_eq_true rfl) ⟨Nat.le_of_ble_eq_true rfl, Nat.le_of_ble_eq_true rfl⟩ (Nat.le_of_ble_eq_true rfl) dX11_untell_9) rfl (fun r1 => ?_)
  exact tj_zret rfl (nar_b2i _) rfl (Nat.le_of_ble_eq_true rfl) (Nat.le_of_ble_eq_true rfl) dX11_untell_12

theorem dX11_later_0 : decode cX11_later 0 = .ok (.iload_n 1, 1) := by decide +kernel
theorem dX11_later_1 : decode cX11_later 1 = .ok (.ifCond .lt 22, 3) := by decide +kernel
theorem dX11_later_4 : decode cX11_later 4 = .ok (.iload_n 1, 1) := by decide +kernel
theorem dX11_later_5 : decode cX11_later 5 = .ok (.sipush 1000, 3) := by decide +kernel
theorem dX11_later_8 : decode cX11_later 8 = .ok (.if_icmp .gt 15, 3) := by decide +kernel
theorem dX11_later_11 : decode cX11_later 11 = .ok (.aload_n 0, 1) := by decide +kernel
theorem dX11_later_12 : decode cX11_later 12 = .ok (.getfield 69, 3) := by decide +kernel
theorem dX11_later_15 : decode cX11_later 15 = .ok (.iload_n 1, 1) := by decide +kernel
theorem dX11_later_16 : decode cX11_later 16 = .ok (.iadd, 1) := by decide +kernel
theorem dX11_later_17 : decode cX11_later 17 = .ok (.ldc_w 332, 3) := by decide +kernel
theorem dX11_later_20 : decode cX11_later 20 = .ok (.if_icmp .le 5, 3) := by decide +kernel
theorem dX11_later_23 : decode cX11_later 23 = .ok (.iconst (-1), 1) := by decide +kernel
theorem dX11_later_24 : decode cX11_later 24 = .ok (.ireturn, 1) := by decide +kernel
theorem dX11_later_25 : decode cX11_later 25 = .ok (.aload_n 0, 1) := by decide +kernel
theorem dX11_later_26 : decode cX11_later 26 = .ok (.dup, 1) := by decide +kernel
theorem dX11_later_27 : decode cX11_later 27 = .ok (.getfield 69, 3) := by decide +kernel
theorem dX11_later_30 : decode cX11_later 30 = .ok (.iload_n 1, 1) := by decide +kernel
theorem dX11_later_31 : decode cX11_later 31 = .ok (.iadd, 1) := by decide +kernel
theorem dX11_later_32 : decode cX11_later 32 = .ok (.putfield 69, 3) := by decide +kernel
theorem dX11_later_35 : decode cX11_later 35 = .ok (.aload_n 0, 1) := by decide +kernel
theorem dX11_later_36 : decode cX11_later 36 = .ok (.getfield 69, 3) := by decide +kernel
theorem dX11_later_39 : decode cX11_later 39 = .ok (.ireturn, 1) := by decide +kernel
theorem wc_RX11_332 : Cond.constant RX11 332 100000 ∈ TB := tbm 1360 (by decide +kernel) (by decide +kernel)
def mX11_later (t : Nat) (tw : Nat) (dr : Nat) (p1 : Int32) (σ : St_) : Option (Int32 × St_) :=
 (if p1 < 0 then
 (some ((-1 : Int32), σ))
 else (if (1000 : Int32) < p1 then
 (some ((-1 : Int32), σ))
 else (if ((σ.1 t 11) + p1) ≤ (100000 : Int32) then
 (bnd (sI σ t 11 ((σ.1 t 11) + p1)) fun σ1 =>
 (some ((σ1.1 t 11), σ1)))
 else (some ((-1 : Int32), σ)))))
set_option maxHeartbeats 4000000 in
theorem rX11_later (t : Nat) (tw : Nat) (dr : Nat) (p1 : Int32) (hT : LY11 sh P t tw dr) : Rj l D cA h0 ad yX11_later cX11_later 2 (some .int) false 2 0 0 (fun b => (some (.int b.1), sh, P, b.2)) [.ref (h0 + t), .int p1] sh P σ (mX11_later t tw dr p1 σ) := by
  rw [mX11_later]
  refine Rj.of (by decide) (fun h => by cases h) (Nat.le_of_ble_eq_true rfl) ?_
  refine tj_lv0 (lv' := [(0, .ref (h0 + t)), (1, .int p1)]) rfl ?_
  refine tj_iload_n (q := 1) dX11_later_0 rfl (i := 1) rfl (pl := 1) rfl ?_
  refine tj_if_lt (tgt := 23) (q := 4) dX11_later_1 (by decide) rfl ?_ ?_
  · refine tj_iconst (q := 24) (v := (-1)) dX11_later_23 rfl (by decide) ?_
    exact tj_iret rfl rfl (Nat.le_of_ble_eq_true rfl) (Nat.le_of_ble_eq_true rfl) dX11_later_24
  · refine tj_iload_n (q := 5) dX11_later_4 rfl (i := 1) rfl (pl := 1) rfl ?_
    refine tj_sipush (q := 8) (v := 1000) dX11_later_5 rfl (by decide) ?_
    refine tj_icmp_gt (tgt := 23) (q := 11) dX11_later_8 (by decide) rfl ?_ ?_
    · refine tj_iconst (q := 24) (v := (-1)) dX11_later_23 rfl (by decide) ?_
      exact tj_iret rfl rfl (Nat.le_of_ble_eq_true rfl) (Nat.le_of_ble_eq_true rfl) dX11_later_24
    · refine tj_aload_n (q := 12) dX11_later_11 rfl (i := 0) rfl (pl := 0) rfl ?_
      refine tj_getI (q := 15) (hT).s fok_11_11 wl_RX11_69 dX11_later_12 rfl ?_
      refine tj_iload_n (q := 16) dX11_later_15 rfl (i := 1) rfl (pl := 1) rfl ?_
      refine tj_iadd (q := 17) dX11_later_16 rfl ?_
      refine tj_ldcw (q := 20) (v := 100000) dX11_later_17 rfl wc_RX11_332 ?_
      refine tj_icmp_le (tgt := 25) (q := 23) dX11_later_20 (by decide) rfl ?_ ?_
      · refine tj_aload_n (q := 26) dX11_later_25 rfl (i := 0) rfl (pl := 0) rfl ?_
        refine tj_dup (q := 27) dX11_later_26 rfl rfl ?_
        refine tj_getI (q := 30) (hT).s fok_11_11 wl_RX11_69 dX11_later_27 rfl ?_
        refine tj_iload_n (q := 31) dX11_later_30 rfl (i := 1) rfl (pl := 1) rfl ?_
        refine tj_iadd (q := 32) dX11_later_31 rfl ?_
        refine tj_putI (q := 35) (hT).s fok_11_11 tok_11 fpk_11_11 wl_RX11_69 dX11_later_32 rfl (fun σ1 => ?_)
        refine tj_aload_n (q := 36) dX11_later_35 rfl (i := 0) rfl (pl := 0) rfl ?_
        refine tj_getI (q := 39) (hT).s fok_11_11 wl_RX11_69 dX11_later_36 rfl ?_
        exact tj_iret rfl rfl (Nat.le_of_ble_eq_true rfl) (Nat.le_of_ble_eq_true rfl) dX11_later_39
      · refine tj_iconst (q := 24) (v := (-1)) dX11_later_23 rfl (by decide) ?_
        exact tj_iret rfl rfl (Nat.le_of_ble_eq_true rfl) (Nat.le_of_ble_eq_true rfl) dX11_later_24

theorem dX11_span_0 : decode cX11_span 0 = .ok (.aload_n 0, 1) := by decide +kernel
theorem dX11_span_1 : decode cX11_span 1 = .ok (.iload_n 1, 1) := by decide +kernel
theorem dX11_span_2 : decode cX11_span 2 = .ok (.invokevirtual 174, 3) := by decide +kernel
theorem dX11_span_5 : decode cX11_span 5 = .ok (.ifCond .eq 20, 3) := by decide +kernel
theorem dX11_span_8 : decode cX11_span 8 = .ok (.aload_n 0, 1) := by decide +kernel
theorem dX11_span_9 : decode cX11_span 9 = .ok (.iload_n 2, 1) := by decide +kernel
theorem dX11_span_10 : decode cX11_span 10 = .ok (.invokevirtual 131, 3) := by decide +kernel
theorem dX11_span_13 : decode cX11_span 13 = .ok (.ifCond .eq 12, 3) := by decide +kernel
theorem dX11_span_16 : decode cX11_span 16 = .ok (.iload_n 3, 1) := by decide +kernel
theorem dX11_span_17 : decode cX11_span 17 = .ok (.ifCond .lt 8, 3) := by decide +kernel
theorem dX11_span_20 : decode cX11_span 20 = .ok (.iload_n 3, 1) := by decide +kernel
theorem dX11_span_21 : decode cX11_span 21 = .ok (.iconst 2, 1) := by decide +kernel
theorem dX11_span_22 : decode cX11_span 22 = .ok (.if_icmp .le 6, 3) := by decide +kernel
theorem dX11_span_25 : decode cX11_span 25 = .ok (.bipush (-2), 2) := by decide +kernel
theorem dX11_span_27 : decode cX11_span 27 = .ok (.ireturn, 1) := by decide +kernel
theorem dX11_span_28 : decode cX11_span 28 = .ok (.aload_n 0, 1) := by decide +kernel
theorem dX11_span_29 : decode cX11_span 29 = .ok (.getfield 65, 3) := by decide +kernel
theorem dX11_span_32 : decode cX11_span 32 = .ok (.aload_n 0, 1) := by decide +kernel
theorem dX11_span_33 : decode cX11_span 33 = .ok (.getfield 26, 3) := by decide +kernel
theorem dX11_span_36 : decode cX11_span 36 = .ok (.iload_n 1, 1) := by decide +kernel
theorem dX11_span_37 : decode cX11_span 37 = .ok (.iload_n 2, 1) := by decide +kernel
theorem dX11_span_38 : decode cX11_span 38 = .ok (.iload 4, 2) := by decide +kernel
theorem dX11_span_40 : decode cX11_span 40 = .ok (.invokevirtual 333, 3) := by decide +kernel
theorem dX11_span_43 : decode cX11_span 43 = .ok (.iload_n 3, 1) := by decide +kernel
theorem dX11_span_44 : decode cX11_span 44 = .ok (.ifCond .ne 11, 3) := by decide +kernel
theorem dX11_span_47 : decode cX11_span 47 = .ok (.aload_n 0, 1) := by decide +kernel
theorem dX11_span_48 : decode cX11_span 48 = .ok (.getfield 65, 3) := by decide +kernel
theorem dX11_span_51 : decode cX11_span 51 = .ok (.getfield 337, 3) := by decide +kernel
theorem dX11_span_54 : decode cX11_span 54 = .ok (.ireturn, 1) := by decide +kernel
theorem dX11_span_55 : decode cX11_span 55 = .ok (.iload_n 3, 1) := by decide +kernel
theorem dX11_span_56 : decode cX11_span 56 = .ok (.iconst 1, 1) := by decide +kernel
theorem dX11_span_57 : decode cX11_span 57 = .ok (.if_icmp .ne 13, 3) := by decide +kernel
theorem dX11_span_60 : decode cX11_span 60 = .ok (.aload_n 0, 1) := by decide +kernel
theorem dX11_span_61 : decode cX11_span 61 = .ok (.getfield 65, 3) := by decide +kernel
theorem dX11_span_64 : decode cX11_span 64 = .ok (.getfield 340, 3) := by decide +kernel
theorem dX11_span_67 : decode cX11_span 67 = .ok (.goto 10, 3) := by decide +kernel
theorem dX11_span_70 : decode cX11_span 70 = .ok (.aload_n 0, 1) := by decide +kernel
theorem dX11_span_71 : decode cX11_span 71 = .ok (.getfield 65, 3) := by decide +kernel
theorem dX11_span_74 : decode cX11_span 74 = .ok (.getfield 343, 3) := by decide +kernel
theorem dX11_span_77 : decode cX11_span 77 = .ok (.ireturn, 1) := by decide +kernel
theorem wm_X5_fit : Cond.instanceMethod yX5_fit ∈ TB ∧ Cond.selects yX5_fit.cls yX5_fit yX5_fit ∈ TB ∧ Cond.initialized yX5_fit.cls ∈ TB ∧ Cond.code yX5_fit cX5_fit 6 none ∈ TB ∧ (yX5_fit.cls ≠ "java/lang/invoke/MethodHandle" ∧ yX5_fit.cls ≠ "java/lang/invoke/VarHandle" ∧ (parseMethodDescriptor yX5_fit.desc).map (fun d => d.parameters.length) = some 4) ∧ 6 ≤ 21 := ⟨tbm 1366 (by decide +kernel) (by decide +kernel), tbm 1367 (by decide +kernel) (by decide +kernel), tbm 142 (by decide +kernel) (by decide +kernel), tbm 1368 (by decide +kernel) (by decide +kernel), by decide +kernel, by decide⟩
theorem wi_RX11_333 : Iv RX11 333 yX5_fit cX5_fit 6 none 4 := ⟨tbm 1365 (by decide +kernel) (by decide +kernel), wm_X5_fit⟩
theorem wl_RX11_337 : Cond.fieldLink RX11 337 (TX5 9).1 (TX5 9).2.1 (TX5 9).2.2.1 ∈ TB := tbm 449 (by decide +kernel) (by decide +kernel)
theorem wl_RX11_340 : Cond.fieldLink RX11 340 (TX5 10).1 (TX5 10).2.1 (TX5 10).2.2.1 ∈ TB := tbm 451 (by decide +kernel) (by decide +kernel)
theorem wl_RX11_343 : Cond.fieldLink RX11 343 (TX5 11).1 (TX5 11).2.1 (TX5 11).2.2.1 ∈ TB := tbm 453 (by decide +kernel) (by decide +kernel)
def mX11_span (t : Nat) (tw : Nat) (dr : Nat) (p1 : Int32) (p2 : Int32) (p3 : Int32) (p4 : Int32) (σ : St_) : Option (Int32 × St_) :=
 ((mX11_isHouse t tw dr p1 σ).bind fun r1 =>
 (if r1 = true then
 ((mX11_isThing t tw dr p2 σ).bind fun r2 =>
 (if r2 = true then
 (if p3 < 0 then
 (some ((-2 : Int32), σ))
 else (if p3 ≤ (2 : Int32) then
 ((mX5_fit (t + 174) tw p1 p2 p4 σ).bind fun σ3 =>
 (if p3 = 0 then
 (some ((σ3.1 (t + 174) 9), σ3))
 else (if p3 = (1 : Int32) then
 (some ((σ3.1 (t + 174) 10), σ3))
 else (some ((σ3.1 (t + 174) 11), σ3)))))
 else (some ((-2 : Int32), σ))))
 else (some ((-2 : Int32), σ))))
 else (some ((-2 : Int32), σ))))
set_option maxHeartbeats 4000000 in
theorem rX11_span (t : Nat) (tw : Nat) (dr : Nat) (p1 : Int32) (p2 : Int32) (p3 : Int32) (p4 : Int32) (hT : LY11 sh P t tw dr) : Rj l D cA h0 ad yX11_span cX11_span 5 (some .int) false 7 0 0 (fun b => (some (.int b.1), sh, P, b.2)) [.ref (h0 + t), .int p1, .int p2, .int p3, .int p4] sh P σ (mX11_span t tw dr p1 p2 p3 p4 σ) := by
  rw [mX11_span]
  refine Rj.of (by decide) (fun h => by cases h) (Nat.le_of_ble_eq_true rfl) ?_
  refine tj_lv0 (lv' := [(0, .ref (h0 + t)), (1, .int p1), (2, .int p2), (3, .int p3), (4, .int p4)]) rfl ?_
  refine tj_aload_n (q := 1) dX11_span_0 rfl (i := 0) rfl (pl := 0) rfl ?_
  refine tj_iload_n (q := 2) dX11_span_1 rfl (i := 1) rfl (pl := 1) rfl ?_
  refine tj_callZp (q := 5) (kj_V (As := [.int p1]) (rest := []) (t := t) wi_RX11_174 (hT).s rfl (rX11_isHouse t tw dr p1 (hT)) rfl (Nat.le_of_ble_eq_true rfl) ⟨Nat.le_of_ble_eq_true rfl, Nat.le_of_ble_eq_true rfl⟩ (Nat.le_of_ble_eq_true rfl) dX11_span_2) rfl (fun r1 => ?_)
  refine tj_bz (tgt := 25) (q := 8) dX11_span_5 (by decide) rfl ?_ ?_
  · refine tj_aload_n (q := 9) dX11_span_8 rfl (i := 0) rfl (pl := 0) rfl ?_
    refine tj_iload_n (q := 10) dX11_span_9 rfl (i := 2) rfl (pl := 2) rfl ?_
    refine tj_callZp (q := 13) (kj_V (As := [.int p2]) (rest := []) (t := t) wi_RX11_131 (hT).s rfl (rX11_isThing t tw dr p2 (hT)) rfl (Nat.le_of_ble_eq_true rfl) ⟨Nat.le_of_ble_eq_true rfl, Nat.le_of_ble_eq_true rfl⟩ (Nat.le_of_ble_eq_true rfl) dX11_span_10) rfl (fun r2 => ?_)
    refine tj_bz (tgt := 25) (q := 16) dX11_span_13 (by decide) rfl ?_ ?_
    · refine tj_iload_n (q := 17) dX11_span_16 rfl (i := 3) rfl (pl := 3) rfl ?_
      refine tj_if_lt (tgt := 25) (q := 20) dX11_span_17 (by decide) rfl ?_ ?_
      · refine tj_bipush (q := 27) (v := (-2)) dX11_span_25 rfl (by decide) ?_
        exact tj_iret rfl rfl (Nat.le_of_ble_eq_true rfl) (Nat.le_of_ble_eq_true rfl) dX11_span_27
      · refine tj_iload_n (q := 21) dX11_span_20 rfl (i := 3) rfl (pl := 3) rfl ?_
        refine tj_iconst (q := 22) (v := 2) dX11_span_21 rfl (by decide) ?_
        refine tj_icmp_le (tgt := 28) (q := 25) dX11_span_22 (by decide) rfl ?_ ?_
        · refine tj_aload_n (q := 29) dX11_span_28 rfl (i := 0) rfl (pl := 0) rfl ?_
          refine tj_getR (q := 32) (hT).s (hT).p_reports fok_11_10 wl_RX11_65 dX11_span_29 rfl ?_
          refine tj_aload_n (q := 33) dX11_span_32 rfl (i := 0) rfl (pl := 0) rfl ?_
          refine tj_getR (q := 36) (hT).s (hT).p_town fok_11_2 wl_RX11_26 dX11_span_33 rfl ?_
          refine tj_iload_n (q := 37) dX11_span_36 rfl (i := 1) rfl (pl := 1) rfl ?_
          refine tj_iload_n (q := 38) dX11_span_37 rfl (i := 2) rfl (pl := 2) rfl ?_
          refine tj_iload (q := 40) dX11_span_38 rfl (pl := 4) rfl ?_
          refine tj_callV (q := 43) (kj_V (As := [.ref (h0 + tw), .int p1, .int p2, .int p4]) (rest := []) (t := (t + 174)) wi_RX11_333 ((hT).o_reports).s rfl (rX5_fit (t + 174) tw p1 p2 p4 ((hT).o_reports) ((hT).o_town)) rfl (Nat.le_of_ble_eq_true rfl) ⟨Nat.le_of_ble_eq_true rfl, Nat.le_of_ble_eq_true rfl⟩ (Nat.le_of_ble_eq_true rfl) dX11_span_40) rfl (fun σ3 => ?_)
          refine tj_iload_n (q := 44) dX11_span_43 rfl (i := 3) rfl (pl := 3) rfl ?_
          refine tj_if_ne (tgt := 55) (q := 47) dX11_span_44 (by decide) rfl ?_ ?_
          · refine tj_aload_n (q := 48) dX11_span_47 rfl (i := 0) rfl (pl := 0) rfl ?_
            refine tj_getR (q := 51) (hT).s (hT).p_reports fok_11_10 wl_RX11_65 dX11_span_48 rfl ?_
            refine tj_getI (q := 54) ((hT).o_reports).s fok_5_9 wl_RX11_337 dX11_span_51 rfl ?_
            exact tj_iret rfl rfl (Nat.le_of_ble_eq_true rfl) (Nat.le_of_ble_eq_true rfl) dX11_span_54
          · refine tj_iload_n (q := 56) dX11_span_55 rfl (i := 3) rfl (pl := 3) rfl ?_
            refine tj_iconst (q := 57) (v := 1) dX11_span_56 rfl (by decide) ?_
            refine tj_icmp_ne (tgt := 70) (q := 60) dX11_span_57 (by decide) rfl ?_ ?_
            · refine tj_aload_n (q := 61) dX11_span_60 rfl (i := 0) rfl (pl := 0) rfl ?_
              refine tj_getR (q := 64) (hT).s (hT).p_reports fok_11_10 wl_RX11_65 dX11_span_61 rfl ?_
              refine tj_getI (q := 67) ((hT).o_reports).s fok_5_10 wl_RX11_340 dX11_span_64 rfl ?_
              refine tj_goto (q := 77) dX11_span_67 (by decide) ?_
              exact tj_iret rfl rfl (Nat.le_of_ble_eq_true rfl) (Nat.le_of_ble_eq_true rfl) dX11_span_77
            · refine tj_aload_n (q := 71) dX11_span_70 rfl (i := 0) rfl (pl := 0) rfl ?_
              refine tj_getR (q := 74) (hT).s (hT).p_reports fok_11_10 wl_RX11_65 dX11_span_71 rfl ?_
              refine tj_getI (q := 77) ((hT).o_reports).s fok_5_11 wl_RX11_343 dX11_span_74 rfl ?_
              exact tj_iret rfl rfl (Nat.le_of_ble_eq_true rfl) (Nat.le_of_ble_eq_true rfl) dX11_span_77
        · refine tj_bipush (q := 27) (v := (-2)) dX11_span_25 rfl (by decide) ?_
          exact tj_iret rfl rfl (Nat.le_of_ble_eq_true rfl) (Nat.le_of_ble_eq_true rfl) dX11_span_27
    · refine tj_bipush (q := 27) (v := (-2)) dX11_span_25 rfl (by decide) ?_
      exact tj_iret rfl rfl (Nat.le_of_ble_eq_true rfl) (Nat.le_of_ble_eq_true rfl) dX11_span_27
  · refine tj_bipush (q := 27) (v := (-2)) dX11_span_25 rfl (by decide) ?_
    exact tj_iret rfl rfl (Nat.le_of_ble_eq_true rfl) (Nat.le_of_ble_eq_true rfl) dX11_span_27

theorem dX11_ask_0 : decode cX11_ask 0 = .ok (.aload_n 0, 1) := by decide +kernel
theorem dX11_ask_1 : decode cX11_ask 1 = .ok (.iload_n 1, 1) := by decide +kernel
theorem dX11_ask_2 : decode cX11_ask 2 = .ok (.invokevirtual 174, 3) := by decide +kernel
theorem dX11_ask_5 : decode cX11_ask 5 = .ok (.ifCond .eq 20, 3) := by decide +kernel
theorem dX11_ask_8 : decode cX11_ask 8 = .ok (.aload_n 0, 1) := by decide +kernel
theorem dX11_ask_9 : decode cX11_ask 9 = .ok (.iload_n 2, 1) := by decide +kernel
theorem dX11_ask_10 : decode cX11_ask 10 = .ok (.invokevirtual 131, 3) := by decide +kernel
theorem dX11_ask_13 : decode cX11_ask 13 = .ok (.ifCond .eq 12, 3) := by decide +kernel
theorem dX11_ask_16 : decode cX11_ask 16 = .ok (.iload_n 3, 1) := by decide +kernel
theorem dX11_ask_17 : decode cX11_ask 17 = .ok (.ifCond .lt 8, 3) := by decide +kernel
theorem dX11_ask_20 : decode cX11_ask 20 = .ok (.iload_n 3, 1) := by decide +kernel
theorem dX11_ask_21 : decode cX11_ask 21 = .ok (.iconst 1, 1) := by decide +kernel
theorem dX11_ask_22 : decode cX11_ask 22 = .ok (.if_icmp .le 6, 3) := by decide +kernel
theorem dX11_ask_25 : decode cX11_ask 25 = .ok (.bipush (-2), 2) := by decide +kernel
theorem dX11_ask_27 : decode cX11_ask 27 = .ok (.ireturn, 1) := by decide +kernel
theorem dX11_ask_28 : decode cX11_ask 28 = .ok (.aload_n 0, 1) := by decide +kernel
theorem dX11_ask_29 : decode cX11_ask 29 = .ok (.getfield 65, 3) := by decide +kernel
theorem dX11_ask_32 : decode cX11_ask 32 = .ok (.aload_n 0, 1) := by decide +kernel
theorem dX11_ask_33 : decode cX11_ask 33 = .ok (.getfield 26, 3) := by decide +kernel
theorem dX11_ask_36 : decode cX11_ask 36 = .ok (.iload_n 1, 1) := by decide +kernel
theorem dX11_ask_37 : decode cX11_ask 37 = .ok (.iload_n 2, 1) := by decide +kernel
theorem dX11_ask_38 : decode cX11_ask 38 = .ok (.iload 4, 2) := by decide +kernel
theorem dX11_ask_40 : decode cX11_ask 40 = .ok (.invokevirtual 333, 3) := by decide +kernel
theorem dX11_ask_43 : decode cX11_ask 43 = .ok (.aload_n 0, 1) := by decide +kernel
theorem dX11_ask_44 : decode cX11_ask 44 = .ok (.getfield 65, 3) := by decide +kernel
theorem dX11_ask_47 : decode cX11_ask 47 = .ok (.getfield 337, 3) := by decide +kernel
theorem dX11_ask_50 : decode cX11_ask 50 = .ok (.ifCond .eq 14, 3) := by decide +kernel
theorem dX11_ask_53 : decode cX11_ask 53 = .ok (.aload_n 0, 1) := by decide +kernel
theorem dX11_ask_54 : decode cX11_ask 54 = .ok (.getfield 26, 3) := by decide +kernel
theorem dX11_ask_57 : decode cX11_ask 57 = .ok (.getfield 122, 3) := by decide +kernel
theorem dX11_ask_60 : decode cX11_ask 60 = .ok (.iconst 2, 1) := by decide +kernel
theorem dX11_ask_61 : decode cX11_ask 61 = .ok (.if_icmp .ge 5, 3) := by decide +kernel
theorem dX11_ask_64 : decode cX11_ask 64 = .ok (.iconst (-1), 1) := by decide +kernel
theorem dX11_ask_65 : decode cX11_ask 65 = .ok (.ireturn, 1) := by decide +kernel
theorem dX11_ask_66 : decode cX11_ask 66 = .ok (.aload_n 0, 1) := by decide +kernel
theorem dX11_ask_67 : decode cX11_ask 67 = .ok (.getfield 65, 3) := by decide +kernel
theorem dX11_ask_70 : decode cX11_ask 70 = .ok (.aload_n 0, 1) := by decide +kernel
theorem dX11_ask_71 : decode cX11_ask 71 = .ok (.getfield 26, 3) := by decide +kernel
theorem dX11_ask_74 : decode cX11_ask 74 = .ok (.iload_n 1, 1) := by decide +kernel
theorem dX11_ask_75 : decode cX11_ask 75 = .ok (.iload_n 2, 1) := by decide +kernel
theorem dX11_ask_76 : decode cX11_ask 76 = .ok (.invokevirtual 346, 3) := by decide +kernel
theorem dX11_ask_79 : decode cX11_ask 79 = .ok (.iload_n 3, 1) := by decide +kernel
theorem dX11_ask_80 : decode cX11_ask 80 = .ok (.ifCond .ne 24, 3) := by decide +kernel
theorem dX11_ask_83 : decode cX11_ask 83 = .ok (.bipush 10, 2) := by decide +kernel
theorem dX11_ask_85 : decode cX11_ask 85 = .ok (.aload_n 0, 1) := by decide +kernel
theorem dX11_ask_86 : decode cX11_ask 86 = .ok (.getfield 65, 3) := by decide +kernel
theorem dX11_ask_89 : decode cX11_ask 89 = .ok (.getfield 350, 3) := by decide +kernel
theorem dX11_ask_92 : decode cX11_ask 92 = .ok (.imul, 1) := by decide +kernel
theorem dX11_ask_93 : decode cX11_ask 93 = .ok (.aload_n 0, 1) := by decide +kernel
theorem dX11_ask_94 : decode cX11_ask 94 = .ok (.getfield 65, 3) := by decide +kernel
theorem dX11_ask_97 : decode cX11_ask 97 = .ok (.getfield 353, 3) := by decide +kernel
theorem dX11_ask_100 : decode cX11_ask 100 = .ok (.iadd, 1) := by decide +kernel
theorem dX11_ask_101 : decode cX11_ask 101 = .ok (.goto 10, 3) := by decide +kernel
theorem dX11_ask_104 : decode cX11_ask 104 = .ok (.aload_n 0, 1) := by decide +kernel
theorem dX11_ask_105 : decode cX11_ask 105 = .ok (.getfield 65, 3) := by decide +kernel
theorem dX11_ask_108 : decode cX11_ask 108 = .ok (.getfield 356, 3) := by decide +kernel
theorem dX11_ask_111 : decode cX11_ask 111 = .ok (.ireturn, 1) := by decide +kernel
theorem wm_X5_findQuestion : Cond.instanceMethod yX5_findQuestion ∈ TB ∧ Cond.selects yX5_findQuestion.cls yX5_findQuestion yX5_findQuestion ∈ TB ∧ Cond.initialized yX5_findQuestion.cls ∈ TB ∧ Cond.code yX5_findQuestion cX5_findQuestion 7 none ∈ TB ∧ (yX5_findQuestion.cls ≠ "java/lang/invoke/MethodHandle" ∧ yX5_findQuestion.cls ≠ "java/lang/invoke/VarHandle" ∧ (parseMethodDescriptor yX5_findQuestion.desc).map (fun d => d.parameters.length) = some 3) ∧ 7 ≤ 21 := ⟨tbm 1385 (by decide +kernel) (by decide +kernel), tbm 1386 (by decide +kernel) (by decide +kernel), tbm 142 (by decide +kernel) (by decide +kernel), tbm 1387 (by decide +kernel) (by decide +kernel), by decide +kernel, by decide⟩
theorem wi_RX11_346 : Iv RX11 346 yX5_findQuestion cX5_findQuestion 7 none 3 := ⟨tbm 1384 (by decide +kernel) (by decide +kernel), wm_X5_findQuestion⟩
theorem wl_RX11_350 : Cond.fieldLink RX11 350 (TX5 12).1 (TX5 12).2.1 (TX5 12).2.2.1 ∈ TB := tbm 455 (by decide +kernel) (by decide +kernel)
theorem wl_RX11_353 : Cond.fieldLink RX11 353 (TX5 13).1 (TX5 13).2.1 (TX5 13).2.2.1 ∈ TB := tbm 457 (by decide +kernel) (by decide +kernel)
theorem wl_RX11_356 : Cond.fieldLink RX11 356 (TX5 14).1 (TX5 14).2.1 (TX5 14).2.2.1 ∈ TB := tbm 459 (by decide +kernel) (by decide +kernel)
def mX11_ask (t : Nat) (tw : Nat) (dr : Nat) (p1 : Int32) (p2 : Int32) (p3 : Int32) (p4 : Int32) (σ : St_) : Option (Int32 × St_) :=
 ((mX11_isHouse t tw dr p1 σ).bind fun r1 =>
 (if r1 = true then
 ((mX11_isThing t tw dr p2 σ).bind fun r2 =>
 (if r2 = true then
 (if p3 < 0 then
 (some ((-2 : Int32), σ))
 else (if p3 ≤ (1 : Int32) then
 ((mX5_fit (t + 174) tw p1 p2 p4 σ).bind fun σ3 =>
 (if (σ3.1 (t + 174) 9) = 0 then
 (some ((-1 : Int32), σ3))
 else (if (2 : Int32) ≤ (σ3.1 tw 2) then
 ((mX5_findQuestion (t + 174) tw p1 p2 σ3).bind fun σ4 =>
 (if p3 = 0 then
 (some ((((10 : Int32) * (σ4.1 (t + 174) 12)) + (σ4.1 (t + 174) 13)), σ4))
 else (some ((σ4.1 (t + 174) 14), σ4))))
 else (some ((-1 : Int32), σ3)))))
 else (some ((-2 : Int32), σ))))
 else (some ((-2 : Int32), σ))))
 else (some ((-2 : Int32), σ))))
set_option maxHeartbeats 4000000 in
theorem rX11_ask (t : Nat) (tw : Nat) (dr : Nat) (p1 : Int32) (p2 : Int32) (p3 : Int32) (p4 : Int32) (hT : LY11 sh P t tw dr) : Rj l D cA h0 ad yX11_ask cX11_ask 5 (some .int) false 7 0 0 (fun b => (some (.int b.1), sh, P, b.2)) [.ref (h0 + t), .int p1, .int p2, .int p3, .int p4] sh P σ (mX11_ask t tw dr p1 p2 p3 p4 σ) := by
  rw [mX11_ask]
  refine Rj.of (by decide) (fun h => by cases h) (Nat.le_of_ble_eq_true rfl) ?_
  refine tj_lv0 (lv' := [(0, .ref (h0 + t)), (1, .int p1), (2, .int p2), (3, .int p3), (4, .int p4)]) rfl ?_
  refine tj_aload_n (q := 1) dX11_ask_0 rfl (i := 0) rfl (pl := 0) rfl ?_
  refine tj_iload_n (q := 2) dX11_ask_1 rfl (i := 1) rfl (pl := 1) rfl ?_
  refine tj_callZp (q := 5) (kj_V (As := [.int p1]) (rest := []) (t := t) wi_RX11_174 (hT).s rfl (rX11_isHouse t tw dr p1 (hT)) rfl (Nat.le_of_ble_eq_true rfl) ⟨Nat.le_of_ble_eq_true rfl, Nat.le_of_ble_eq_true rfl⟩ (Nat.le_of_ble_eq_true rfl) dX11_ask_2) rfl (fun r1 => ?_)
  refine tj_bz (tgt := 25) (q := 8) dX11_ask_5 (by decide) rfl ?_ ?_
  · refine tj_aload_n (q := 9) dX11_ask_8 rfl (i := 0) rfl (pl := 0) rfl ?_
    refine tj_iload_n (q := 10) dX11_ask_9 rfl (i := 2) rfl (pl := 2) rfl ?_
    refine tj_callZp (q := 13) (kj_V (As := [.int p2]) (rest := []) (t := t) wi_RX11_131 (hT).s rfl (rX11_isThing t tw dr p2 (hT)) rfl (Nat.le_of_ble_eq_true rfl) ⟨Nat.le_of_ble_eq_true rfl, Nat.le_of_ble_eq_true rfl⟩ (Nat.le_of_ble_eq_true rfl) dX11_ask_10) rfl (fun r2 => ?_)
    refine tj_bz (tgt := 25) (q := 16) dX11_ask_13 (by decide) rfl ?_ ?_
    · refine tj_iload_n (q := 17) dX11_ask_16 rfl (i := 3) rfl (pl := 3) rfl ?_
      refine tj_if_lt (tgt := 25) (q := 20) dX11_ask_17 (by decide) rfl ?_ ?_
      · refine tj_bipush (q := 27) (v := (-2)) dX11_ask_25 rfl (by decide) ?_
        exact tj_iret rfl rfl (Nat.le_of_ble_eq_true rfl) (Nat.le_of_ble_eq_true rfl) dX11_ask_27
      · refine tj_iload_n (q := 21) dX11_ask_20 rfl (i := 3) rfl (pl := 3) rfl ?_
        refine tj_iconst (q := 22) (v := 1) dX11_ask_21 rfl (by decide) ?_
        refine tj_icmp_le (tgt := 28) (q := 25) dX11_ask_22 (by decide) rfl ?_ ?_
        · refine tj_aload_n (q := 29) dX11_ask_28 rfl (i := 0) rfl (pl := 0) rfl ?_
          refine tj_getR (q := 32) (hT).s (hT).p_reports fok_11_10 wl_RX11_65 dX11_ask_29 rfl ?_
          refine tj_aload_n (q := 33) dX11_ask_32 rfl (i := 0) rfl (pl := 0) rfl ?_
          refine tj_getR (q := 36) (hT).s (hT).p_town fok_11_2 wl_RX11_26 dX11_ask_33 rfl ?_
          refine tj_iload_n (q := 37) dX11_ask_36 rfl (i := 1) rfl (pl := 1) rfl ?_
          refine tj_iload_n (q := 38) dX11_ask_37 rfl (i := 2) rfl (pl := 2) rfl ?_
          refine tj_iload (q := 40) dX11_ask_38 rfl (pl := 4) rfl ?_
          refine tj_callV (q := 43) (kj_V (As := [.ref (h0 + tw), .int p1, .int p2, .int p4]) (rest := []) (t := (t + 174)) wi_RX11_333 ((hT).o_reports).s rfl (rX5_fit (t + 174) tw p1 p2 p4 ((hT).o_reports) ((hT).o_town)) rfl (Nat.le_of_ble_eq_true rfl) ⟨Nat.le_of_ble_eq_true rfl, Nat.le_of_ble_eq_true rfl⟩ (Nat.le_of_ble_eq_true rfl) dX11_ask_40) rfl (fun σ3 => ?_)
          refine tj_aload_n (q := 44) dX11_ask_43 rfl (i := 0) rfl (pl := 0) rfl ?_
          refine tj_getR (q := 47) (hT).s (hT).p_reports fok_11_10 wl_RX11_65 dX11_ask_44 rfl ?_
          refine tj_getI (q := 50) ((hT).o_reports).s fok_5_9 wl_RX11_337 dX11_ask_47 rfl ?_
          refine tj_if_eq (tgt := 64) (q := 53) dX11_ask_50 (by decide) rfl ?_ ?_
          · refine tj_iconst (q := 65) (v := (-1)) dX11_ask_64 rfl (by decide) ?_
            exact tj_iret rfl rfl (Nat.le_of_ble_eq_true rfl) (Nat.le_of_ble_eq_true rfl) dX11_ask_65
          · refine tj_aload_n (q := 54) dX11_ask_53 rfl (i := 0) rfl (pl := 0) rfl ?_
            refine tj_getR (q := 57) (hT).s (hT).p_town fok_11_2 wl_RX11_26 dX11_ask_54 rfl ?_
            refine tj_getI (q := 60) ((hT).o_town).s fok_1_2 wl_RX11_122 dX11_ask_57 rfl ?_
            refine tj_iconst (q := 61) (v := 2) dX11_ask_60 rfl (by decide) ?_
            refine tj_icmp_ge (tgt := 66) (q := 64) dX11_ask_61 (by decide) rfl ?_ ?_
            · refine tj_aload_n (q := 67) dX11_ask_66 rfl (i := 0) rfl (pl := 0) rfl ?_
              refine tj_getR (q := 70) (hT).s (hT).p_reports fok_11_10 wl_RX11_65 dX11_ask_67 rfl ?_
              refine tj_aload_n (q := 71) dX11_ask_70 rfl (i := 0) rfl (pl := 0) rfl ?_
              refine tj_getR (q := 74) (hT).s (hT).p_town fok_11_2 wl_RX11_26 dX11_ask_71 rfl ?_
              refine tj_iload_n (q := 75) dX11_ask_74 rfl (i := 1) rfl (pl := 1) rfl ?_
              refine tj_iload_n (q := 76) dX11_ask_75 rfl (i := 2) rfl (pl := 2) rfl ?_
              refine tj_callV (q := 79) (kj_V (As := [.ref (h0 + tw), .int p1, .int p2]) (rest := []) (t := (t + 174)) wi_RX11_346 ((hT).o_reports).s rfl (rX5_findQuestion (t + 174) tw p1 p2 ((hT).o_reports) ((hT).o_town)) rfl (Nat.le_of_ble_eq_true rfl) ⟨Nat.le_of_ble_eq_true rfl, Nat.le_of_ble_eq_true rfl⟩ (Nat.le_of_ble_eq_true rfl) dX11_ask_76) rfl (fun σ4 => ?_)
              refine tj_iload_n (q := 80) dX11_ask_79 rfl (i := 3) rfl (pl := 3) rfl ?_
              refine tj_if_ne (tgt := 104) (q := 83) dX11_ask_80 (by decide) rfl ?_ ?_
              · refine tj_bipush (q := 85) (v := 10) dX11_ask_83 rfl (by decide) ?_
                refine tj_aload_n (q := 86) dX11_ask_85 rfl (i := 0) rfl (pl := 0) rfl ?_
                refine tj_getR (q := 89) (hT).s (hT).p_reports fok_11_10 wl_RX11_65 dX11_ask_86 rfl ?_
                refine tj_getI (q := 92) ((hT).o_reports).s fok_5_12 wl_RX11_350 dX11_ask_89 rfl ?_
                refine tj_imul (q := 93) dX11_ask_92 rfl ?_
                refine tj_aload_n (q := 94) dX11_ask_93 rfl (i := 0) rfl (pl := 0) rfl ?_
                refine tj_getR (q := 97) (hT).s (hT).p_reports fok_11_10 wl_RX11_65 dX11_ask_94 rfl ?_
                refine tj_getI (q := 100) ((hT).o_reports).s fok_5_13 wl_RX11_353 dX11_ask_97 rfl ?_
                refine tj_iadd (q := 101) dX11_ask_100 rfl ?_
                refine tj_goto (q := 111) dX11_ask_101 (by decide) ?_
                exact tj_iret rfl rfl (Nat.le_of_ble_eq_true rfl) (Nat.le_of_ble_eq_true rfl) dX11_ask_111
              · refine tj_aload_n (q := 105) dX11_ask_104 rfl (i := 0) rfl (pl := 0) rfl ?_
                refine tj_getR (q := 108) (hT).s (hT).p_reports fok_11_10 wl_RX11_65 dX11_ask_105 rfl ?_
                refine tj_getI (q := 111) ((hT).o_reports).s fok_5_14 wl_RX11_356 dX11_ask_108 rfl ?_
                exact tj_iret rfl rfl (Nat.le_of_ble_eq_true rfl) (Nat.le_of_ble_eq_true rfl) dX11_ask_111
            · refine tj_iconst (q := 65) (v := (-1)) dX11_ask_64 rfl (by decide) ?_
              exact tj_iret rfl rfl (Nat.le_of_ble_eq_true rfl) (Nat.le_of_ble_eq_true rfl) dX11_ask_65
        · refine tj_bipush (q := 27) (v := (-2)) dX11_ask_25 rfl (by decide) ?_
          exact tj_iret rfl rfl (Nat.le_of_ble_eq_true rfl) (Nat.le_of_ble_eq_true rfl) dX11_ask_27
    · refine tj_bipush (q := 27) (v := (-2)) dX11_ask_25 rfl (by decide) ?_
      exact tj_iret rfl rfl (Nat.le_of_ble_eq_true rfl) (Nat.le_of_ble_eq_true rfl) dX11_ask_27
  · refine tj_bipush (q := 27) (v := (-2)) dX11_ask_25 rfl (by decide) ?_
    exact tj_iret rfl rfl (Nat.le_of_ble_eq_true rfl) (Nat.le_of_ble_eq_true rfl) dX11_ask_27

theorem dX11_image_0 : decode cX11_image 0 = .ok (.iload_n 1, 1) := by decide +kernel
theorem dX11_image_1 : decode cX11_image 1 = .ok (.ifCond .lt 8, 3) := by decide +kernel
theorem dX11_image_4 : decode cX11_image 4 = .ok (.iload_n 1, 1) := by decide +kernel
theorem dX11_image_5 : decode cX11_image 5 = .ok (.iconst 3, 1) := by decide +kernel
theorem dX11_image_6 : decode cX11_image 6 = .ok (.if_icmp .lt 5, 3) := by decide +kernel
theorem dX11_image_9 : decode cX11_image 9 = .ok (.iconst (-1), 1) := by decide +kernel
theorem dX11_image_10 : decode cX11_image 10 = .ok (.ireturn, 1) := by decide +kernel
theorem dX11_image_11 : decode cX11_image 11 = .ok (.aload_n 0, 1) := by decide +kernel
theorem dX11_image_12 : decode cX11_image 12 = .ok (.getfield 47, 3) := by decide +kernel
theorem dX11_image_15 : decode cX11_image 15 = .ok (.iload_n 1, 1) := by decide +kernel
theorem dX11_image_16 : decode cX11_image 16 = .ok (.aaload, 1) := by decide +kernel
theorem dX11_image_17 : decode cX11_image 17 = .ok (.aload_n 0, 1) := by decide +kernel
theorem dX11_image_18 : decode cX11_image 18 = .ok (.getfield 36, 3) := by decide +kernel
theorem dX11_image_21 : decode cX11_image 21 = .ok (.invokevirtual 307, 3) := by decide +kernel
theorem dX11_image_24 : decode cX11_image 24 = .ok (.aload_n 0, 1) := by decide +kernel
theorem dX11_image_25 : decode cX11_image 25 = .ok (.dup, 1) := by decide +kernel
theorem dX11_image_26 : decode cX11_image 26 = .ok (.getfield 51, 3) := by decide +kernel
theorem dX11_image_29 : decode cX11_image 29 = .ok (.iconst 1, 1) := by decide +kernel
theorem dX11_image_30 : decode cX11_image 30 = .ok (.iload_n 1, 1) := by decide +kernel
theorem dX11_image_31 : decode cX11_image 31 = .ok (.ishl, 1) := by decide +kernel
theorem dX11_image_32 : decode cX11_image 32 = .ok (.ior, 1) := by decide +kernel
theorem dX11_image_33 : decode cX11_image 33 = .ok (.putfield 51, 3) := by decide +kernel
theorem dX11_image_36 : decode cX11_image 36 = .ok (.aload_n 0, 1) := by decide +kernel
theorem dX11_image_37 : decode cX11_image 37 = .ok (.getfield 36, 3) := by decide +kernel
theorem dX11_image_40 : decode cX11_image 40 = .ok (.getfield 203, 3) := by decide +kernel
theorem dX11_image_43 : decode cX11_image 43 = .ok (.ireturn, 1) := by decide +kernel
def mX11_image (t : Nat) (tw : Nat) (dr : Nat) (p1 : Int32) (σ : St_) : Option (Int32 × St_) :=
 (if p1 < 0 then
 (some ((-1 : Int32), σ))
 else (if p1 < (3 : Int32) then
 (if bin p1 3 = true then
 ((mX8_copy (t + 224 + 3 * p1.toNatClampNeg) (t + 44) σ).bind fun σ2 =>
 (bnd (sI σ2 t 7 ((σ2.1 t 7) ||| ((1 : Int32) <<< (p1 &&& 31)))) fun σ3 =>
 (some ((σ3.1 (t + 44) 2), σ3))))
 else none)
 else (some ((-1 : Int32), σ))))
set_option maxHeartbeats 4000000 in
theorem rX11_image (t : Nat) (tw : Nat) (dr : Nat) (p1 : Int32) (hT : LY11 sh P t tw dr) : Rj l D cA h0 ad yX11_image cX11_image 2 (some .int) false 3 0 0 (fun b => (some (.int b.1), sh, P, b.2)) [.ref (h0 + t), .int p1] sh P σ (mX11_image t tw dr p1 σ) := by
  rw [mX11_image]
  refine Rj.of (by decide) (fun h => by cases h) (Nat.le_of_ble_eq_true rfl) ?_
  refine tj_lv0 (lv' := [(0, .ref (h0 + t)), (1, .int p1)]) rfl ?_
  refine tj_iload_n (q := 1) dX11_image_0 rfl (i := 1) rfl (pl := 1) rfl ?_
  refine tj_if_lt (tgt := 9) (q := 4) dX11_image_1 (by decide) rfl ?_ ?_
  · refine tj_iconst (q := 10) (v := (-1)) dX11_image_9 rfl (by decide) ?_
    exact tj_iret rfl rfl (Nat.le_of_ble_eq_true rfl) (Nat.le_of_ble_eq_true rfl) dX11_image_10
  · refine tj_iload_n (q := 5) dX11_image_4 rfl (i := 1) rfl (pl := 1) rfl ?_
    refine tj_iconst (q := 6) (v := 3) dX11_image_5 rfl (by decide) ?_
    refine tj_icmp_lt (tgt := 11) (q := 9) dX11_image_6 (by decide) rfl ?_ ?_
    · refine tj_aload_n (q := 12) dX11_image_11 rfl (i := 0) rfl (pl := 0) rfl ?_
      refine tj_getR (q := 15) (hT).s (hT).p_boxes fok_11_6 wl_RX11_47 dX11_image_12 rfl ?_
      refine tj_iload_n (q := 16) dX11_image_15 rfl (i := 1) rfl (pl := 1) rfl ?_
      refine tj_aaload (q := 17) (j := t + 224 + 3 * p1.toNatClampNeg) (hT).s_boxes (fun hg1 => ((hT).e_boxes _ (bin_lt hg1)).1) dX11_image_16 rfl (fun hg1 => ?_)
      refine tj_aload_n (q := 18) dX11_image_17 rfl (i := 0) rfl (pl := 0) rfl ?_
      refine tj_getR (q := 21) (hT).s (hT).p_now fok_11_4 wl_RX11_36 dX11_image_18 rfl ?_
      refine tj_callV (q := 24) (kj_V (As := [.ref (h0 + (t + 44))]) (rest := []) (t := (t + 224 + 3 * p1.toNatClampNeg)) wi_RX11_307 (((hT).e_boxes _ (bin_lt hg1)).2).s rfl (rX8_copy (t + 224 + 3 * p1.toNatClampNeg) (t + 44) (((hT).e_boxes _ (bin_lt hg1)).2) ((hT).o_now)) rfl (Nat.le_of_ble_eq_true rfl) ⟨Nat.le_of_ble_eq_true rfl, Nat.le_of_ble_eq_true rfl⟩ (Nat.le_of_ble_eq_true rfl) dX11_image_21) rfl (fun σ2 => ?_)
      refine tj_aload_n (q := 25) dX11_image_24 rfl (i := 0) rfl (pl := 0) rfl ?_
      refine tj_dup (q := 26) dX11_image_25 rfl rfl ?_
      refine tj_getI (q := 29) (hT).s fok_11_7 wl_RX11_51 dX11_image_26 rfl ?_
      refine tj_iconst (q := 30) (v := 1) dX11_image_29 rfl (by decide) ?_
      refine tj_iload_n (q := 31) dX11_image_30 rfl (i := 1) rfl (pl := 1) rfl ?_
      refine tj_ishl (q := 32) dX11_image_31 rfl ?_
      refine tj_ior (q := 33) dX11_image_32 rfl ?_
      refine tj_putI (q := 36) (hT).s fok_11_7 tok_11 fpk_11_7 wl_RX11_51 dX11_image_33 rfl (fun σ3 => ?_)
      refine tj_aload_n (q := 37) dX11_image_36 rfl (i := 0) rfl (pl := 0) rfl ?_
      refine tj_getR (q := 40) (hT).s (hT).p_now fok_11_4 wl_RX11_36 dX11_image_37 rfl ?_
      refine tj_getI (q := 43) ((hT).o_now).s fok_8_2 wl_RX11_203 dX11_image_40 rfl ?_
      exact tj_iret rfl rfl (Nat.le_of_ble_eq_true rfl) (Nat.le_of_ble_eq_true rfl) dX11_image_43
    · refine tj_iconst (q := 10) (v := (-1)) dX11_image_9 rfl (by decide) ?_
      exact tj_iret rfl rfl (Nat.le_of_ble_eq_true rfl) (Nat.le_of_ble_eq_true rfl) dX11_image_10

theorem dX11_back_0 : decode cX11_back 0 = .ok (.aload_n 0, 1) := by decide +kernel
theorem dX11_back_1 : decode cX11_back 1 = .ok (.iload_n 1, 1) := by decide +kernel
theorem dX11_back_2 : decode cX11_back 2 = .ok (.invokevirtual 316, 3) := by decide +kernel
theorem dX11_back_5 : decode cX11_back 5 = .ok (.ifCond .ne 5, 3) := by decide +kernel
theorem dX11_back_8 : decode cX11_back 8 = .ok (.iconst (-1), 1) := by decide +kernel
theorem dX11_back_9 : decode cX11_back 9 = .ok (.ireturn, 1) := by decide +kernel
theorem dX11_back_10 : decode cX11_back 10 = .ok (.aload_n 0, 1) := by decide +kernel
theorem dX11_back_11 : decode cX11_back 11 = .ok (.getfield 36, 3) := by decide +kernel
theorem dX11_back_14 : decode cX11_back 14 = .ok (.aload_n 0, 1) := by decide +kernel
theorem dX11_back_15 : decode cX11_back 15 = .ok (.getfield 47, 3) := by decide +kernel
theorem dX11_back_18 : decode cX11_back 18 = .ok (.iload_n 1, 1) := by decide +kernel
theorem dX11_back_19 : decode cX11_back 19 = .ok (.aaload, 1) := by decide +kernel
theorem dX11_back_20 : decode cX11_back 20 = .ok (.invokevirtual 307, 3) := by decide +kernel
theorem dX11_back_23 : decode cX11_back 23 = .ok (.aload_n 0, 1) := by decide +kernel
theorem dX11_back_24 : decode cX11_back 24 = .ok (.getfield 43, 3) := by decide +kernel
theorem dX11_back_27 : decode cX11_back 27 = .ok (.aload_n 0, 1) := by decide +kernel
theorem dX11_back_28 : decode cX11_back 28 = .ok (.getfield 36, 3) := by decide +kernel
theorem dX11_back_31 : decode cX11_back 31 = .ok (.invokevirtual 116, 3) := by decide +kernel
theorem dX11_back_34 : decode cX11_back 34 = .ok (.aload_n 0, 1) := by decide +kernel
theorem dX11_back_35 : decode cX11_back 35 = .ok (.getfield 36, 3) := by decide +kernel
theorem dX11_back_38 : decode cX11_back 38 = .ok (.getfield 203, 3) := by decide +kernel
theorem dX11_back_41 : decode cX11_back 41 = .ok (.ireturn, 1) := by decide +kernel
theorem wm_X0_begin : Cond.instanceMethod yX0_begin ∈ TB ∧ Cond.selects yX0_begin.cls yX0_begin yX0_begin ∈ TB ∧ Cond.initialized yX0_begin.cls ∈ TB ∧ Cond.code yX0_begin cX0_begin 2 none ∈ TB ∧ (yX0_begin.cls ≠ "java/lang/invoke/MethodHandle" ∧ yX0_begin.cls ≠ "java/lang/invoke/VarHandle" ∧ (parseMethodDescriptor yX0_begin.desc).map (fun d => d.parameters.length) = some 1) ∧ 2 ≤ 21 := ⟨tbm 1008 (by decide +kernel) (by decide +kernel), tbm 1009 (by decide +kernel) (by decide +kernel), tbm 141 (by decide +kernel) (by decide +kernel), tbm 1010 (by decide +kernel) (by decide +kernel), by decide +kernel, by decide⟩
theorem wi_RX11_116 : Iv RX11 116 yX0_begin cX0_begin 2 none 1 := ⟨tbm 1007 (by decide +kernel) (by decide +kernel), wm_X0_begin⟩
def mX11_back (t : Nat) (tw : Nat) (dr : Nat) (p1 : Int32) (σ : St_) : Option (Int32 × St_) :=
 ((mX11_isFilled t tw dr p1 σ).bind fun r1 =>
 (if r1 = true then
 (if bin p1 3 = true then
 ((mX8_copy (t + 44) (t + 224 + 3 * p1.toNatClampNeg) σ).bind fun σ3 =>
 ((mX0_begin (t + 47) (t + 44) σ3).bind fun σ4 =>
 (some ((σ4.1 (t + 44) 2), σ4))))
 else none)
 else (some ((-1 : Int32), σ))))
set_option maxHeartbeats 4000000 in
theorem rX11_back (t : Nat) (tw : Nat) (dr : Nat) (p1 : Int32) (hT : LY11 sh P t tw dr) : Rj l D cA h0 ad yX11_back cX11_back 2 (some .int) false 4 0 0 (fun b => (some (.int b.1), sh, P, b.2)) [.ref (h0 + t), .int p1] sh P σ (mX11_back t tw dr p1 σ) := by
  rw [mX11_back]
  refine Rj.of (by decide) (fun h => by cases h) (Nat.le_of_ble_eq_true rfl) ?_
  refine tj_lv0 (lv' := [(0, .ref (h0 + t)), (1, .int p1)]) rfl ?_
  refine tj_aload_n (q := 1) dX11_back_0 rfl (i := 0) rfl (pl := 0) rfl ?_
  refine tj_iload_n (q := 2) dX11_back_1 rfl (i := 1) rfl (pl := 1) rfl ?_
  refine tj_callZp (q := 5) (kj_V (As := [.int p1]) (rest := []) (t := t) wi_RX11_316 (hT).s rfl (rX11_isFilled t tw dr p1 (hT)) rfl (Nat.le_of_ble_eq_true rfl) ⟨Nat.le_of_ble_eq_true rfl, Nat.le_of_ble_eq_true rfl⟩ (Nat.le_of_ble_eq_true rfl) dX11_back_2) rfl (fun r1 => ?_)
  refine tj_bnz (tgt := 10) (q := 8) dX11_back_5 (by decide) rfl ?_ ?_
  · refine tj_aload_n (q := 11) dX11_back_10 rfl (i := 0) rfl (pl := 0) rfl ?_
    refine tj_getR (q := 14) (hT).s (hT).p_now fok_11_4 wl_RX11_36 dX11_back_11 rfl ?_
    refine tj_aload_n (q := 15) dX11_back_14 rfl (i := 0) rfl (pl := 0) rfl ?_
    refine tj_getR (q := 18) (hT).s (hT).p_boxes fok_11_6 wl_RX11_47 dX11_back_15 rfl ?_
    refine tj_iload_n (q := 19) dX11_back_18 rfl (i := 1) rfl (pl := 1) rfl ?_
    refine tj_aaload (q := 20) (j := t + 224 + 3 * p1.toNatClampNeg) (hT).s_boxes (fun hg2 => ((hT).e_boxes _ (bin_lt hg2)).1) dX11_back_19 rfl (fun hg2 => ?_)
    refine tj_callV (q := 23) (kj_V (As := [.ref (h0 + (t + 224 + 3 * p1.toNatClampNeg))]) (rest := []) (t := (t + 44)) wi_RX11_307 ((hT).o_now).s rfl (rX8_copy (t + 44) (t + 224 + 3 * p1.toNatClampNeg) ((hT).o_now) (((hT).e_boxes _ (bin_lt hg2)).2)) rfl (Nat.le_of_ble_eq_true rfl) ⟨Nat.le_of_ble_eq_true rfl, Nat.le_of_ble_eq_true rfl⟩ (Nat.le_of_ble_eq_true rfl) dX11_back_20) rfl (fun σ3 => ?_)
    refine tj_aload_n (q := 24) dX11_back_23 rfl (i := 0) rfl (pl := 0) rfl ?_
    refine tj_getR (q := 27) (hT).s (hT).p_acts fok_11_5 wl_RX11_43 dX11_back_24 rfl ?_
    refine tj_aload_n (q := 28) dX11_back_27 rfl (i := 0) rfl (pl := 0) rfl ?_
    refine tj_getR (q := 31) (hT).s (hT).p_now fok_11_4 wl_RX11_36 dX11_back_28 rfl ?_
    refine tj_callV (q := 34) (kj_V (As := [.ref (h0 + (t + 44))]) (rest := []) (t := (t + 47)) wi_RX11_116 ((hT).o_acts).s rfl (rX0_begin (t + 47) (t + 44) ((hT).o_acts) ((hT).o_now)) rfl (Nat.le_of_ble_eq_true rfl) ⟨Nat.le_of_ble_eq_true rfl, Nat.le_of_ble_eq_true rfl⟩ (Nat.le_of_ble_eq_true rfl) dX11_back_31) rfl (fun σ4 => ?_)
    refine tj_aload_n (q := 35) dX11_back_34 rfl (i := 0) rfl (pl := 0) rfl ?_
    refine tj_getR (q := 38) (hT).s (hT).p_now fok_11_4 wl_RX11_36 dX11_back_35 rfl ?_
    refine tj_getI (q := 41) ((hT).o_now).s fok_8_2 wl_RX11_203 dX11_back_38 rfl ?_
    exact tj_iret rfl rfl (Nat.le_of_ble_eq_true rfl) (Nat.le_of_ble_eq_true rfl) dX11_back_41
  · refine tj_iconst (q := 9) (v := (-1)) dX11_back_8 rfl (by decide) ?_
    exact tj_iret rfl rfl (Nat.le_of_ble_eq_true rfl) (Nat.le_of_ble_eq_true rfl) dX11_back_9

theorem dX11_about_0 : decode cX11_about 0 = .ok (.iload_n 1, 1) := by decide +kernel
theorem dX11_about_1 : decode cX11_about 1 = .ok (.tableswitch 212 0 15 #[79, 87, 95, 103, 111, 119, 127, 135, 143, 151, 159, 175, 183, 188, 196, 207], 79) := by decide +kernel
theorem dX11_about_80 : decode cX11_about 80 = .ok (.aload_n 0, 1) := by decide +kernel
theorem dX11_about_81 : decode cX11_about 81 = .ok (.getfield 26, 3) := by decide +kernel
theorem dX11_about_84 : decode cX11_about 84 = .ok (.getfield 122, 3) := by decide +kernel
theorem dX11_about_87 : decode cX11_about 87 = .ok (.ireturn, 1) := by decide +kernel
theorem dX11_about_88 : decode cX11_about 88 = .ok (.aload_n 0, 1) := by decide +kernel
theorem dX11_about_89 : decode cX11_about 89 = .ok (.getfield 26, 3) := by decide +kernel
theorem dX11_about_92 : decode cX11_about 92 = .ok (.getfield 359, 3) := by decide +kernel
theorem dX11_about_95 : decode cX11_about 95 = .ok (.ireturn, 1) := by decide +kernel
theorem dX11_about_96 : decode cX11_about 96 = .ok (.aload_n 0, 1) := by decide +kernel
theorem dX11_about_97 : decode cX11_about 97 = .ok (.getfield 26, 3) := by decide +kernel
theorem dX11_about_100 : decode cX11_about 100 = .ok (.getfield 276, 3) := by decide +kernel
theorem dX11_about_103 : decode cX11_about 103 = .ok (.ireturn, 1) := by decide +kernel
theorem dX11_about_104 : decode cX11_about 104 = .ok (.aload_n 0, 1) := by decide +kernel
theorem dX11_about_105 : decode cX11_about 105 = .ok (.getfield 26, 3) := by decide +kernel
theorem dX11_about_108 : decode cX11_about 108 = .ok (.getfield 362, 3) := by decide +kernel
theorem dX11_about_111 : decode cX11_about 111 = .ok (.ireturn, 1) := by decide +kernel
theorem dX11_about_112 : decode cX11_about 112 = .ok (.aload_n 0, 1) := by decide +kernel
theorem dX11_about_113 : decode cX11_about 113 = .ok (.getfield 36, 3) := by decide +kernel
theorem dX11_about_116 : decode cX11_about 116 = .ok (.getfield 203, 3) := by decide +kernel
theorem dX11_about_119 : decode cX11_about 119 = .ok (.ireturn, 1) := by decide +kernel
theorem dX11_about_120 : decode cX11_about 120 = .ok (.aload_n 0, 1) := by decide +kernel
theorem dX11_about_121 : decode cX11_about 121 = .ok (.getfield 36, 3) := by decide +kernel
theorem dX11_about_124 : decode cX11_about 124 = .ok (.getfield 189, 3) := by decide +kernel
theorem dX11_about_127 : decode cX11_about 127 = .ok (.ireturn, 1) := by decide +kernel
theorem dX11_about_128 : decode cX11_about 128 = .ok (.aload_n 0, 1) := by decide +kernel
theorem dX11_about_129 : decode cX11_about 129 = .ok (.getfield 26, 3) := by decide +kernel
theorem dX11_about_132 : decode cX11_about 132 = .ok (.getfield 210, 3) := by decide +kernel
theorem dX11_about_135 : decode cX11_about 135 = .ok (.ireturn, 1) := by decide +kernel
theorem dX11_about_136 : decode cX11_about 136 = .ok (.aload_n 0, 1) := by decide +kernel
theorem dX11_about_137 : decode cX11_about 137 = .ok (.getfield 36, 3) := by decide +kernel
theorem dX11_about_140 : decode cX11_about 140 = .ok (.getfield 165, 3) := by decide +kernel
theorem dX11_about_143 : decode cX11_about 143 = .ok (.ireturn, 1) := by decide +kernel
theorem dX11_about_144 : decode cX11_about 144 = .ok (.aload_n 0, 1) := by decide +kernel
theorem dX11_about_145 : decode cX11_about 145 = .ok (.getfield 36, 3) := by decide +kernel
theorem dX11_about_148 : decode cX11_about 148 = .ok (.invokevirtual 365, 3) := by decide +kernel
theorem dX11_about_151 : decode cX11_about 151 = .ok (.ireturn, 1) := by decide +kernel
theorem dX11_about_152 : decode cX11_about 152 = .ok (.aload_n 0, 1) := by decide +kernel
theorem dX11_about_153 : decode cX11_about 153 = .ok (.getfield 43, 3) := by decide +kernel
theorem dX11_about_156 : decode cX11_about 156 = .ok (.getfield 368, 3) := by decide +kernel
theorem dX11_about_159 : decode cX11_about 159 = .ok (.ireturn, 1) := by decide +kernel
theorem dX11_about_160 : decode cX11_about 160 = .ok (.aload_n 0, 1) := by decide +kernel
theorem dX11_about_161 : decode cX11_about 161 = .ok (.getfield 43, 3) := by decide +kernel
theorem dX11_about_164 : decode cX11_about 164 = .ok (.getfield 371, 3) := by decide +kernel
theorem dX11_about_167 : decode cX11_about 167 = .ok (.aload_n 0, 1) := by decide +kernel
theorem dX11_about_168 : decode cX11_about 168 = .ok (.getfield 43, 3) := by decide +kernel
theorem dX11_about_171 : decode cX11_about 171 = .ok (.getfield 368, 3) := by decide +kernel
theorem dX11_about_174 : decode cX11_about 174 = .ok (.isub, 1) := by decide +kernel
theorem dX11_about_175 : decode cX11_about 175 = .ok (.ireturn, 1) := by decide +kernel
theorem dX11_about_176 : decode cX11_about 176 = .ok (.aload_n 0, 1) := by decide +kernel
theorem dX11_about_177 : decode cX11_about 177 = .ok (.getfield 65, 3) := by decide +kernel
theorem dX11_about_180 : decode cX11_about 180 = .ok (.getfield 119, 3) := by decide +kernel
theorem dX11_about_183 : decode cX11_about 183 = .ok (.ireturn, 1) := by decide +kernel
theorem dX11_about_184 : decode cX11_about 184 = .ok (.aload_n 0, 1) := by decide +kernel
theorem dX11_about_185 : decode cX11_about 185 = .ok (.getfield 69, 3) := by decide +kernel
theorem dX11_about_188 : decode cX11_about 188 = .ok (.ireturn, 1) := by decide +kernel
theorem dX11_about_189 : decode cX11_about 189 = .ok (.aload_n 0, 1) := by decide +kernel
theorem dX11_about_190 : decode cX11_about 190 = .ok (.getfield 20, 3) := by decide +kernel
theorem dX11_about_193 : decode cX11_about 193 = .ok (.getfield 96, 3) := by decide +kernel
theorem dX11_about_196 : decode cX11_about 196 = .ok (.ireturn, 1) := by decide +kernel
theorem dX11_about_197 : decode cX11_about 197 = .ok (.aload_n 0, 1) := by decide +kernel
theorem dX11_about_198 : decode cX11_about 198 = .ok (.getfield 26, 3) := by decide +kernel
theorem dX11_about_201 : decode cX11_about 201 = .ok (.getfield 372, 3) := by decide +kernel
theorem dX11_about_204 : decode cX11_about 204 = .ok (.getfield 376, 3) := by decide +kernel
theorem dX11_about_207 : decode cX11_about 207 = .ok (.ireturn, 1) := by decide +kernel
theorem dX11_about_208 : decode cX11_about 208 = .ok (.aload_n 0, 1) := by decide +kernel
theorem dX11_about_209 : decode cX11_about 209 = .ok (.getfield 59, 3) := by decide +kernel
theorem dX11_about_212 : decode cX11_about 212 = .ok (.ireturn, 1) := by decide +kernel
theorem dX11_about_213 : decode cX11_about 213 = .ok (.iconst (-1), 1) := by decide +kernel
theorem dX11_about_214 : decode cX11_about 214 = .ok (.ireturn, 1) := by decide +kernel
theorem wl_RX11_362 : Cond.fieldLink RX11 362 (TX1 1).1 (TX1 1).2.1 (TX1 1).2.2.1 ∈ TB := tbm 295 (by decide +kernel) (by decide +kernel)
theorem wm_X8_crimesInAll : Cond.instanceMethod yX8_crimesInAll ∈ TB ∧ Cond.selects yX8_crimesInAll.cls yX8_crimesInAll yX8_crimesInAll ∈ TB ∧ Cond.initialized yX8_crimesInAll.cls ∈ TB ∧ Cond.code yX8_crimesInAll cX8_crimesInAll 3 (some .int) ∈ TB ∧ (yX8_crimesInAll.cls ≠ "java/lang/invoke/MethodHandle" ∧ yX8_crimesInAll.cls ≠ "java/lang/invoke/VarHandle" ∧ (parseMethodDescriptor yX8_crimesInAll.desc).map (fun d => d.parameters.length) = some 0) ∧ 3 ≤ 21 := ⟨tbm 1406 (by decide +kernel) (by decide +kernel), tbm 1407 (by decide +kernel) (by decide +kernel), tbm 140 (by decide +kernel) (by decide +kernel), tbm 1408 (by decide +kernel) (by decide +kernel), by decide +kernel, by decide⟩
theorem wi_RX11_365 : Iv RX11 365 yX8_crimesInAll cX8_crimesInAll 3 (some .int) 0 := ⟨tbm 1405 (by decide +kernel) (by decide +kernel), wm_X8_crimesInAll⟩
theorem wl_RX11_368 : Cond.fieldLink RX11 368 (TX0 3).1 (TX0 3).2.1 (TX0 3).2.2.1 ∈ TB := tbm 422 (by decide +kernel) (by decide +kernel)
theorem wl_RX11_371 : Cond.fieldLink RX11 371 (TX0 2).1 (TX0 2).2.1 (TX0 2).2.2.1 ∈ TB := tbm 420 (by decide +kernel) (by decide +kernel)
theorem wl_RX11_119 : Cond.fieldLink RX11 119 (TX5 7).1 (TX5 7).2.1 (TX5 7).2.2.1 ∈ TB := tbm 446 (by decide +kernel) (by decide +kernel)
theorem wl_RX11_372 : Cond.fieldLink RX11 372 (TX1 15).1 (TX1 15).2.1 (TX1 15).2.2.1 ∈ TB := tbm 339 (by decide +kernel) (by decide +kernel)
theorem wl_RX11_376 : Cond.fieldLink RX11 376 (TX3 5).1 (TX3 5).2.1 (TX3 5).2.2.1 ∈ TB := tbm 274 (by decide +kernel) (by decide +kernel)
def mX11_about (t : Nat) (tw : Nat) (dr : Nat) (p1 : Int32) (σ : St_) : Option Int32 :=
 (if p1 = 0 then (some (σ.1 tw 2))
 else (if p1 = 1 then (some (σ.1 tw 3))
 else (if p1 = 2 then (some (σ.1 tw 4))
 else (if p1 = 3 then (some (σ.1 tw 1))
 else (if p1 = 4 then (some (σ.1 (t + 44) 2))
 else (if p1 = 5 then (some (σ.1 (t + 44) 3))
 else (if p1 = 6 then (some (σ.1 tw 0))
 else (if p1 = 7 then (some (σ.1 (t + 44) 4))
 else (if p1 = 8 then ((mX8_crimesInAll (t + 44) σ).bind fun r10 =>
 (some r10))
 else (if p1 = 9 then (some (σ.1 (t + 47) 3))
 else (if p1 = 10 then (some ((σ.1 (t + 47) 2) - (σ.1 (t + 47) 3)))
 else (if p1 = 11 then (some (σ.1 (t + 174) 7))
 else (if p1 = 12 then (some (σ.1 t 11))
 else (if p1 = 13 then (some (σ.1 (t + 3) 1))
 else (if p1 = 14 then (some (σ.1 (tw + 11) 5))
 else (if p1 = 15 then (some (σ.1 t 9))
 else (some (-1 : Int32))))))))))))))))))
set_option maxHeartbeats 4000000 in
theorem rX11_about (t : Nat) (tw : Nat) (dr : Nat) (p1 : Int32) (hT : LY11 sh P t tw dr) : Rj l D cA h0 ad yX11_about cX11_about 2 (some .int) false 3 0 0 (fun b => (some (.int b), sh, P, σ)) [.ref (h0 + t), .int p1] sh P σ (mX11_about t tw dr p1 σ) := by
  rw [mX11_about]
  refine Rj.of (by decide) (fun h => by cases h) (Nat.le_of_ble_eq_true rfl) ?_
  refine tj_lv0 (lv' := [(0, .ref (h0 + t)), (1, .int p1)]) rfl ?_
  refine tj_iload_n (q := 1) dX11_about_0 rfl (i := 1) rfl (pl := 1) rfl ?_
  refine tj_caseI (fun hc1 => ?_) (fun hc1 => ?_)
  · refine tj_tin (tgt := 80) (k := 0) (off := 79) dX11_about_1 hc1 (by decide) (by decide) (by decide) (by decide) ?_
    refine tj_aload_n (q := 81) dX11_about_80 rfl (i := 0) rfl (pl := 0) rfl ?_
    refine tj_getR (q := 84) (hT).s (hT).p_town fok_11_2 wl_RX11_26 dX11_about_81 rfl ?_
    refine tj_getI (q := 87) ((hT).o_town).s fok_1_2 wl_RX11_122 dX11_about_84 rfl ?_
    exact tj_iret rfl rfl (Nat.le_of_ble_eq_true rfl) (Nat.le_of_ble_eq_true rfl) dX11_about_87
  · refine tj_caseI (fun hc2 => ?_) (fun hc2 => ?_)
    · refine tj_tin (tgt := 88) (k := 1) (off := 87) dX11_about_1 hc2 (by decide) (by decide) (by decide) (by decide) ?_
      refine tj_aload_n (q := 89) dX11_about_88 rfl (i := 0) rfl (pl := 0) rfl ?_
      refine tj_getR (q := 92) (hT).s (hT).p_town fok_11_2 wl_RX11_26 dX11_about_89 rfl ?_
      refine tj_getI (q := 95) ((hT).o_town).s fok_1_3 wl_RX11_359 dX11_about_92 rfl ?_
      exact tj_iret rfl rfl (Nat.le_of_ble_eq_true rfl) (Nat.le_of_ble_eq_true rfl) dX11_about_95
    · refine tj_caseI (fun hc3 => ?_) (fun hc3 => ?_)
      · refine tj_tin (tgt := 96) (k := 2) (off := 95) dX11_about_1 hc3 (by decide) (by decide) (by decide) (by decide) ?_
        refine tj_aload_n (q := 97) dX11_about_96 rfl (i := 0) rfl (pl := 0) rfl ?_
        refine tj_getR (q := 100) (hT).s (hT).p_town fok_11_2 wl_RX11_26 dX11_about_97 rfl ?_
        refine tj_getI (q := 103) ((hT).o_town).s fok_1_4 wl_RX11_276 dX11_about_100 rfl ?_
        exact tj_iret rfl rfl (Nat.le_of_ble_eq_true rfl) (Nat.le_of_ble_eq_true rfl) dX11_about_103
      · refine tj_caseI (fun hc4 => ?_) (fun hc4 => ?_)
        · refine tj_tin (tgt := 104) (k := 3) (off := 103) dX11_about_1 hc4 (by decide) (by decide) (by decide) (by decide) ?_
          refine tj_aload_n (q := 105) dX11_about_104 rfl (i := 0) rfl (pl := 0) rfl ?_
          refine tj_getR (q := 108) (hT).s (hT).p_town fok_11_2 wl_RX11_26 dX11_about_105 rfl ?_
          refine tj_getI (q := 111) ((hT).o_town).s fok_1_1 wl_RX11_362 dX11_about_108 rfl ?_
          exact tj_iret rfl rfl (Nat.le_of_ble_eq_true rfl) (Nat.le_of_ble_eq_true rfl) dX11_about_111
        · refine tj_caseI (fun hc5 => ?_) (fun hc5 => ?_)
          · refine tj_tin (tgt := 112) (k := 4) (off := 111) dX11_about_1 hc5 (by decide) (by decide) (by decide) (by decide) ?_
            refine tj_aload_n (q := 113) dX11_about_112 rfl (i := 0) rfl (pl := 0) rfl ?_
            refine tj_getR (q := 116) (hT).s (hT).p_now fok_11_4 wl_RX11_36 dX11_about_113 rfl ?_
            refine tj_getI (q := 119) ((hT).o_now).s fok_8_2 wl_RX11_203 dX11_about_116 rfl ?_
            exact tj_iret rfl rfl (Nat.le_of_ble_eq_true rfl) (Nat.le_of_ble_eq_true rfl) dX11_about_119
          · refine tj_caseI (fun hc6 => ?_) (fun hc6 => ?_)
            · refine tj_tin (tgt := 120) (k := 5) (off := 119) dX11_about_1 hc6 (by decide) (by decide) (by decide) (by decide) ?_
              refine tj_aload_n (q := 121) dX11_about_120 rfl (i := 0) rfl (pl := 0) rfl ?_
              refine tj_getR (q := 124) (hT).s (hT).p_now fok_11_4 wl_RX11_36 dX11_about_121 rfl ?_
              refine tj_getI (q := 127) ((hT).o_now).s fok_8_3 wl_RX11_189 dX11_about_124 rfl ?_
              exact tj_iret rfl rfl (Nat.le_of_ble_eq_true rfl) (Nat.le_of_ble_eq_true rfl) dX11_about_127
            · refine tj_caseI (fun hc7 => ?_) (fun hc7 => ?_)
              · refine tj_tin (tgt := 128) (k := 6) (off := 127) dX11_about_1 hc7 (by decide) (by decide) (by decide) (by decide) ?_
                refine tj_aload_n (q := 129) dX11_about_128 rfl (i := 0) rfl (pl := 0) rfl ?_
                refine tj_getR (q := 132) (hT).s (hT).p_town fok_11_2 wl_RX11_26 dX11_about_129 rfl ?_
                refine tj_getI (q := 135) ((hT).o_town).s fok_1_0 wl_RX11_210 dX11_about_132 rfl ?_
                exact tj_iret rfl rfl (Nat.le_of_ble_eq_true rfl) (Nat.le_of_ble_eq_true rfl) dX11_about_135
              · refine tj_caseI (fun hc8 => ?_) (fun hc8 => ?_)
                · refine tj_tin (tgt := 136) (k := 7) (off := 135) dX11_about_1 hc8 (by decide) (by decide) (by decide) (by decide) ?_
                  refine tj_aload_n (q := 137) dX11_about_136 rfl (i := 0) rfl (pl := 0) rfl ?_
                  refine tj_getR (q := 140) (hT).s (hT).p_now fok_11_4 wl_RX11_36 dX11_about_137 rfl ?_
                  refine tj_getI (q := 143) ((hT).o_now).s fok_8_4 wl_RX11_165 dX11_about_140 rfl ?_
                  exact tj_iret rfl rfl (Nat.le_of_ble_eq_true rfl) (Nat.le_of_ble_eq_true rfl) dX11_about_143
                · refine tj_caseI (fun hc9 => ?_) (fun hc9 => ?_)
                  · refine tj_tin (tgt := 144) (k := 8) (off := 143) dX11_about_1 hc9 (by decide) (by decide) (by decide) (by decide) ?_
                    refine tj_aload_n (q := 145) dX11_about_144 rfl (i := 0) rfl (pl := 0) rfl ?_
                    refine tj_getR (q := 148) (hT).s (hT).p_now fok_11_4 wl_RX11_36 dX11_about_145 rfl ?_
                    refine tj_callIp (q := 151) (kj_V (As := []) (rest := []) (t := (t + 44)) wi_RX11_365 ((hT).o_now).s rfl (rX8_crimesInAll (t + 44) ((hT).o_now)) rfl (Nat.le_of_ble_eq_true rfl) ⟨Nat.le_of_ble_eq_true rfl, Nat.le_of_ble_eq_true rfl⟩ (Nat.le_of_ble_eq_true rfl) dX11_about_148) rfl (fun r10 => ?_)
                    exact tj_iret rfl rfl (Nat.le_of_ble_eq_true rfl) (Nat.le_of_ble_eq_true rfl) dX11_about_151
                  · refine tj_caseI (fun hc11 => ?_) (fun hc11 => ?_)
                    · refine tj_tin (tgt := 152) (k := 9) (off := 151) dX11_about_1 hc11 (by decide) (by decide) (by decide) (by decide) ?_
                      refine tj_aload_n (q := 153) dX11_about_152 rfl (i := 0) rfl (pl := 0) rfl ?_
                      refine tj_getR (q := 156) (hT).s (hT).p_acts fok_11_5 wl_RX11_43 dX11_about_153 rfl ?_
                      refine tj_getI (q := 159) ((hT).o_acts).s fok_0_3 wl_RX11_368 dX11_about_156 rfl ?_
                      exact tj_iret rfl rfl (Nat.le_of_ble_eq_true rfl) (Nat.le_of_ble_eq_true rfl) dX11_about_159
                    · refine tj_caseI (fun hc12 => ?_) (fun hc12 => ?_)
                      · refine tj_tin (tgt := 160) (k := 10) (off := 159) dX11_about_1 hc12 (by decide) (by decide) (by decide) (by decide) ?_
                        refine tj_aload_n (q := 161) dX11_about_160 rfl (i := 0) rfl (pl := 0) rfl ?_
                        refine tj_getR (q := 164) (hT).s (hT).p_acts fok_11_5 wl_RX11_43 dX11_about_161 rfl ?_
                        refine tj_getI (q := 167) ((hT).o_acts).s fok_0_2 wl_RX11_371 dX11_about_164 rfl ?_
                        refine tj_aload_n (q := 168) dX11_about_167 rfl (i := 0) rfl (pl := 0) rfl ?_
                        refine tj_getR (q := 171) (hT).s (hT).p_acts fok_11_5 wl_RX11_43 dX11_about_168 rfl ?_
                        refine tj_getI (q := 174) ((hT).o_acts).s fok_0_3 wl_RX11_368 dX11_about_171 rfl ?_
                        refine tj_isub (q := 175) dX11_about_174 rfl ?_
                        exact tj_iret rfl rfl (Nat.le_of_ble_eq_true rfl) (Nat.le_of_ble_eq_true rfl) dX11_about_175
                      · refine tj_caseI (fun hc13 => ?_) (fun hc13 => ?_)
                        · refine tj_tin (tgt := 176) (k := 11) (off := 175) dX11_about_1 hc13 (by decide) (by decide) (by decide) (by decide) ?_
                          refine tj_aload_n (q := 177) dX11_about_176 rfl (i := 0) rfl (pl := 0) rfl ?_
                          refine tj_getR (q := 180) (hT).s (hT).p_reports fok_11_10 wl_RX11_65 dX11_about_177 rfl ?_
                          refine tj_getI (q := 183) ((hT).o_reports).s fok_5_7 wl_RX11_119 dX11_about_180 rfl ?_
                          exact tj_iret rfl rfl (Nat.le_of_ble_eq_true rfl) (Nat.le_of_ble_eq_true rfl) dX11_about_183
                        · refine tj_caseI (fun hc14 => ?_) (fun hc14 => ?_)
                          · refine tj_tin (tgt := 184) (k := 12) (off := 183) dX11_about_1 hc14 (by decide) (by decide) (by decide) (by decide) ?_
                            refine tj_aload_n (q := 185) dX11_about_184 rfl (i := 0) rfl (pl := 0) rfl ?_
                            refine tj_getI (q := 188) (hT).s fok_11_11 wl_RX11_69 dX11_about_185 rfl ?_
                            exact tj_iret rfl rfl (Nat.le_of_ble_eq_true rfl) (Nat.le_of_ble_eq_true rfl) dX11_about_188
                          · refine tj_caseI (fun hc15 => ?_) (fun hc15 => ?_)
                            · refine tj_tin (tgt := 189) (k := 13) (off := 188) dX11_about_1 hc15 (by decide) (by decide) (by decide) (by decide) ?_
                              refine tj_aload_n (q := 190) dX11_about_189 rfl (i := 0) rfl (pl := 0) rfl ?_
                              refine tj_getR (q := 193) (hT).s (hT).p_tape fok_11_1 wl_RX11_20 dX11_about_190 rfl ?_
                              refine tj_getI (q := 196) ((hT).o_tape).s fok_10_1 wl_RX11_96 dX11_about_193 rfl ?_
                              exact tj_iret rfl rfl (Nat.le_of_ble_eq_true rfl) (Nat.le_of_ble_eq_true rfl) dX11_about_196
                            · refine tj_caseI (fun hc16 => ?_) (fun hc16 => ?_)
                              · refine tj_tin (tgt := 197) (k := 14) (off := 196) dX11_about_1 hc16 (by decide) (by decide) (by decide) (by decide) ?_
                                refine tj_aload_n (q := 198) dX11_about_197 rfl (i := 0) rfl (pl := 0) rfl ?_
                                refine tj_getR (q := 201) (hT).s (hT).p_town fok_11_2 wl_RX11_26 dX11_about_198 rfl ?_
                                refine tj_getR (q := 204) ((hT).o_town).s ((hT).o_town).p_law fok_1_15 wl_RX11_372 dX11_about_201 rfl ?_
                                refine tj_getI (q := 207) (((hT).o_town).o_law).s fok_3_5 wl_RX11_376 dX11_about_204 rfl ?_
                                exact tj_iret rfl rfl (Nat.le_of_ble_eq_true rfl) (Nat.le_of_ble_eq_true rfl) dX11_about_207
                              · refine tj_caseI (fun hc17 => ?_) (fun hc17 => ?_)
                                · refine tj_tin (tgt := 208) (k := 15) (off := 207) dX11_about_1 hc17 (by decide) (by decide) (by decide) (by decide) ?_
                                  refine tj_aload_n (q := 209) dX11_about_208 rfl (i := 0) rfl (pl := 0) rfl ?_
                                  refine tj_getI (q := 212) (hT).s fok_11_9 wl_RX11_59 dX11_about_209 rfl ?_
                                  exact tj_iret rfl rfl (Nat.le_of_ble_eq_true rfl) (Nat.le_of_ble_eq_true rfl) dX11_about_212
                                · refine tj_dflt (tgt := 213) ?_ (fun hD18 => ?_)
                                  · refine tj_iconst (q := 214) (v := (-1)) dX11_about_213 rfl (by decide) ?_
                                    exact tj_iret rfl rfl (Nat.le_of_ble_eq_true rfl) (Nat.le_of_ble_eq_true rfl) dX11_about_214
                                  · exact tj_tout (tgt := 213) dX11_about_1 (by have e0 := lv_neT (a := 0) hc1 (by decide); have e1 := lv_neT (a := 1) hc2 (by decide); have e2 := lv_neT (a := 2) hc3 (by decide); have e3 := lv_neT (a := 3) hc4 (by decide); have e4 := lv_neT (a := 4) hc5 (by decide); have e5 := lv_neT (a := 5) hc6 (by decide); have e6 := lv_neT (a := 6) hc7 (by decide); have e7 := lv_neT (a := 7) hc8 (by decide); have e8 := lv_neT (a := 8) hc9 (by decide); have e9 := lv_neT (a := 9) hc11 (by decide); have e10 := lv_neT (a := 10) hc12 (by decide); have e11 := lv_neT (a := 11) hc13 (by decide); have e12 := lv_neT (a := 12) hc14 (by decide); have e13 := lv_neT (a := 13) hc15 (by decide); have e14 := lv_neT (a := 14) hc16 (by decide); have e15 := lv_neT (a := 15) hc17 (by decide); omega) (by decide) hD18

end
