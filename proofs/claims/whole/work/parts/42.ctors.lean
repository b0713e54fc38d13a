section
variable {l : Launch} {D : va_G} {cA : Nat → ClassId} {h0 : Nat} {ad : Ad_} {sh : Sh_} {P : Px_} {σ : St_}
theorem dX0_init_0 : decode cX0_init 0 = .ok (.aload_n 0, 1) := by decide +kernel
theorem dX0_init_1 : decode cX0_init 1 = .ok (.invokespecial 1, 3) := by decide +kernel
theorem dX0_init_4 : decode cX0_init 4 = .ok (.aload_n 0, 1) := by decide +kernel
theorem dX0_init_5 : decode cX0_init 5 = .ok (.bipush 41, 2) := by decide +kernel
theorem dX0_init_7 : decode cX0_init 7 = .ok (.anewarray 9, 3) := by decide +kernel
theorem dX0_init_10 : decode cX0_init 10 = .ok (.putfield 11, 3) := by decide +kernel
theorem dX0_init_13 : decode cX0_init 13 = .ok (.aload_n 0, 1) := by decide +kernel
theorem dX0_init_14 : decode cX0_init 14 = .ok (.iconst 0, 1) := by decide +kernel
theorem dX0_init_15 : decode cX0_init 15 = .ok (.putfield 15, 3) := by decide +kernel
theorem dX0_init_18 : decode cX0_init 18 = .ok (.aload_n 0, 1) := by decide +kernel
theorem dX0_init_19 : decode cX0_init 19 = .ok (.iconst 0, 1) := by decide +kernel
theorem dX0_init_20 : decode cX0_init 20 = .ok (.putfield 19, 3) := by decide +kernel
theorem dX0_init_23 : decode cX0_init 23 = .ok (.aload_n 0, 1) := by decide +kernel
theorem dX0_init_24 : decode cX0_init 24 = .ok (.iconst 0, 1) := by decide +kernel
theorem dX0_init_25 : decode cX0_init 25 = .ok (.putfield 22, 3) := by decide +kernel
theorem dX0_init_28 : decode cX0_init 28 = .ok (.iconst 0, 1) := by decide +kernel
theorem dX0_init_29 : decode cX0_init 29 = .ok (.istore_n 1, 1) := by decide +kernel
theorem dX0_init_30 : decode cX0_init 30 = .ok (.iload_n 1, 1) := by decide +kernel
theorem dX0_init_31 : decode cX0_init 31 = .ok (.bipush 40, 2) := by decide +kernel
theorem dX0_init_33 : decode cX0_init 33 = .ok (.if_icmp .gt 22, 3) := by decide +kernel
theorem dX0_init_36 : decode cX0_init 36 = .ok (.aload_n 0, 1) := by decide +kernel
theorem dX0_init_37 : decode cX0_init 37 = .ok (.getfield 11, 3) := by decide +kernel
theorem dX0_init_40 : decode cX0_init 40 = .ok (.iload_n 1, 1) := by decide +kernel
theorem dX0_init_41 : decode cX0_init 41 = .ok (.new 9, 3) := by decide +kernel
theorem dX0_init_44 : decode cX0_init 44 = .ok (.dup, 1) := by decide +kernel
theorem dX0_init_45 : decode cX0_init 45 = .ok (.invokespecial 25, 3) := by decide +kernel
theorem dX0_init_48 : decode cX0_init 48 = .ok (.aastore, 1) := by decide +kernel
theorem dX0_init_49 : decode cX0_init 49 = .ok (.iinc 1 1, 3) := by decide +kernel
theorem dX0_init_52 : decode cX0_init 52 = .ok (.goto (-22), 3) := by decide +kernel
theorem dX0_init_55 : decode cX0_init 55 = .ok (.return_, 1) := by decide +kernel
theorem wo_RX0_1 : Cond.methodLink RX0 1 objectInit ∈ TB := tbm 413 (by decide +kernel) (by decide +kernel)
theorem wn_RX0_9 : Cond.classLink RX0 9 RX8 ∈ TB := tbm 414 (by decide +kernel) (by decide +kernel)
theorem fpf_0_0 : Fpk TX0 0 true (.array (.object "BetterThieves$State")) := ⟨rfl, by decide +kernel⟩
theorem wk_RX0_25 : Ic RX0 25 yX8_init cX8_init 1 := ⟨Or.inr ⟨"BetterThieves", by decide +kernel⟩, tbm 376 (by decide +kernel) (by decide +kernel), tbm 140 (by decide +kernel) (by decide +kernel), tbm 377 (by decide +kernel) (by decide +kernel), rfl, by decide +kernel, by decide⟩
def cE0 (ρ : Rh_) : Rh_ :=
 (pR (cE8 169 (nwR (pR (cE8 166 (nwR (pR (cE8 163 (nwR (pR (cE8 160 (nwR (pR (cE8 157 (nwR (pR (cE8 154 (nwR (pR (cE8 151 (nwR (pR (cE8 148 (nwR (pR (cE8 145 (nwR (pR (cE8 142 (nwR (pR (cE8 139 (nwR (pR (cE8 136 (nwR (pR (cE8 133 (nwR (pR (cE8 130 (nwR (pR (cE8 127 (nwR (pR (cE8 124 (nwR (pR (cE8 121 (nwR (pR (cE8 118 (nwR (pR (cE8 115 (nwR (pR (cE8 112 (nwR (pR (cE8 109 (nwR (pR (cE8 106 (nwR (pR (cE8 103 (nwR (pR (cE8 100 (nwR (pR (cE8 97 (nwR (pR (cE8 94 (nwR (pR (cE8 91 (nwR (pR (cE8 88 (nwR (pR (cE8 85 (nwR (pR (cE8 82 (nwR (pR (cE8 79 (nwR (pR (cE8 76 (nwR (pR (cE8 73 (nwR (pR (cE8 70 (nwR (pR (cE8 67 (nwR (pR (cE8 64 (nwR (pR (cE8 61 (nwR (pR (cE8 58 (nwR (pR (cE8 55 (nwR (pR (cE8 52 (nwR (pR (cE8 49 (nwR (pI (pI (pI (pR (nwR ρ 48) 47 0 48) 47 1 (0 : Int32)) 47 2 (0 : Int32)) 47 3 (0 : Int32)) 49)) 48 0 49) 52)) 48 1 52) 55)) 48 2 55) 58)) 48 3 58) 61)) 48 4 61) 64)) 48 5 64) 67)) 48 6 67) 70)) 48 7 70) 73)) 48 8 73) 76)) 48 9 76) 79)) 48 10 79) 82)) 48 11 82) 85)) 48 12 85) 88)) 48 13 88) 91)) 48 14 91) 94)) 48 15 94) 97)) 48 16 97) 100)) 48 17 100) 103)) 48 18 103) 106)) 48 19 106) 109)) 48 20 109) 112)) 48 21 112) 115)) 48 22 115) 118)) 48 23 118) 121)) 48 24 121) 124)) 48 25 124) 127)) 48 26 127) 130)) 48 27 130) 133)) 48 28 133) 136)) 48 29 136) 139)) 48 30 139) 142)) 48 31 142) 145)) 48 32 145) 148)) 48 33 148) 151)) 48 34 151) 154)) 48 35 154) 157)) 48 36 157) 160)) 48 37 160) 163)) 48 38 163) 166)) 48 39 166) 169)) 48 40 169)
set_option maxHeartbeats 4000000 in
set_option maxRecDepth 20000 in
theorem k0 (ρ : Rh_) : Rj l D cA h0 ad yX0_init cX0_init 2 none true 3 124 779 (fun _ : Unit => (none, SHL.take 172, (cE0 ρ).1, (cE0 ρ).2)) [.ref (h0 + 47)] (SHL.take 48) ρ.1 ρ.2 (some ()) := by
  refine Rj.of (by decide) (fun _ => rfl) (Nat.le_of_ble_eq_true rfl) ?_
  refine tj_lv0 (lv' := [(0, .ref (h0 + 47))]) rfl ?_
  refine tj_aload_n (q := 1) dX0_init_0 rfl (i := 0) rfl (pl := 0) rfl ?_
  refine c_obj (q := 4) wo_RX0_1 wo_i wo_c dX0_init_1 rfl (Nat.le_of_ble_eq_true rfl) (Nat.le_of_ble_eq_true rfl) ?_
  refine tj_aload_n (q := 5) dX0_init_4 rfl (i := 0) rfl (pl := 0) rfl ?_
  refine tj_bipush (q := 7) (v := 41) dX0_init_5 rfl (by decide) ?_
  refine c_anew (q := 10) (N := 41) (by decide) (by decide) shl_48 wn_RX0_9 (Nat.le_of_ble_eq_true rfl) (Nat.le_of_ble_eq_true rfl) dX0_init_7 rfl ?_
  refine c_putF (q := 13) (j := 48) (tk_at (i := 47) shl_47 (by decide)) fok_0_0 tok_0 fpf_0_0 wl_RX0_11 dX0_init_10 rfl rfl rfl rfl ?_
  refine tj_aload_n (q := 14) dX0_init_13 rfl (i := 0) rfl (pl := 0) rfl ?_
  refine tj_iconst (q := 15) (v := 0) dX0_init_14 rfl (by decide) ?_
  refine c_putI (q := 18) (tk_at (i := 47) shl_47 (by decide)) fok_0_1 tok_0 fpk_0_1 wl_RX0_15 dX0_init_15 rfl rfl rfl ?_
  refine tj_aload_n (q := 19) dX0_init_18 rfl (i := 0) rfl (pl := 0) rfl ?_
  refine tj_iconst (q := 20) (v := 0) dX0_init_19 rfl (by decide) ?_
  refine c_putI (q := 23) (tk_at (i := 47) shl_47 (by decide)) fok_0_2 tok_0 fpk_0_2 wl_RX0_19 dX0_init_20 rfl rfl rfl ?_
  refine tj_aload_n (q := 24) dX0_init_23 rfl (i := 0) rfl (pl := 0) rfl ?_
  refine tj_iconst (q := 25) (v := 0) dX0_init_24 rfl (by decide) ?_
  refine c_putI (q := 28) (tk_at (i := 47) shl_47 (by decide)) fok_0_3 tok_0 fpk_0_3 wl_RX0_22 dX0_init_25 rfl rfl rfl ?_
  refine tj_iconst (q := 29) (v := 0) dX0_init_28 rfl (by decide) ?_
  refine tj_istore_n (q := 30) dX0_init_29 rfl (i := 1) rfl (by decide) rfl ?_
  refine tj_iload_n (q := 31) dX0_init_30 rfl (i := 1) rfl (pl := 0) rfl ?_
  refine tj_bipush (q := 33) (v := 40) dX0_init_31 rfl (by decide) ?_
  refine c_gtN (tgt := 55) (q := 36) (by decide) dX0_init_33 (by decide) rfl ?_
  refine tj_aload_n (q := 37) dX0_init_36 rfl (i := 0) rfl (pl := 1) rfl ?_
  refine tj_getR (q := 40) (j := 48) (tk_at (i := 47) shl_47 (by decide)) rfl fok_0_0 wl_RX0_11 dX0_init_37 rfl ?_
  refine tj_iload_n (q := 41) dX0_init_40 rfl (i := 1) rfl (pl := 0) rfl ?_
  refine c_new (q := 44) (ci := 8) rfl iX8 tok_8 dok_8 rfl shl_49 wn_RX0_9 wn2_8 wn3_8 (Nat.le_of_ble_eq_true rfl) (Nat.le_of_ble_eq_true rfl) dX0_init_41 rfl ?_
  refine tj_dup (q := 45) dX0_init_44 rfl rfl ?_
  refine c_call (q := 48) wk_RX0_25 (k8 49 _ shl_49 shl_50 shl_51) (Nat.le_of_ble_eq_true rfl) ⟨(Nat.le_of_ble_eq_true rfl), (Nat.le_of_ble_eq_true rfl)⟩ (Nat.le_of_ble_eq_true rfl) dX0_init_45 rfl ?_
  refine c_aast (q := 49) (k := 0) (N := 41) (v := 49) (t := 48) (tk_at (i := 48) shl_48 (by decide)) (tk_at (i := 49) shl_49 (by decide)) (by decide) (by decide) (by decide) dX0_init_48 rfl ?_
  refine tj_iinc (q := 52) (v := 1) dX0_init_49 rfl (pl := 0) rfl (by decide) (by decide) rfl ?_
  refine tj_goto (q := 30) dX0_init_52 (by decide) ?_
  refine tj_iload_n (q := 31) dX0_init_30 rfl (i := 1) rfl (pl := 0) rfl ?_
  refine tj_bipush (q := 33) (v := 40) dX0_init_31 rfl (by decide) ?_
  refine c_gtN (tgt := 55) (q := 36) (by decide) dX0_init_33 (by decide) rfl ?_
  refine tj_aload_n (q := 37) dX0_init_36 rfl (i := 0) rfl (pl := 1) rfl ?_
  refine tj_getR (q := 40) (j := 48) (tk_at (i := 47) shl_47 (by decide)) rfl fok_0_0 wl_RX0_11 dX0_init_37 rfl ?_
  refine tj_iload_n (q := 41) dX0_init_40 rfl (i := 1) rfl (pl := 0) rfl ?_
  refine c_new (q := 44) (ci := 8) rfl iX8 tok_8 dok_8 rfl shl_52 wn_RX0_9 wn2_8 wn3_8 (Nat.le_of_ble_eq_true rfl) (Nat.le_of_ble_eq_true rfl) dX0_init_41 rfl ?_
  refine tj_dup (q := 45) dX0_init_44 rfl rfl ?_
  refine c_call (q := 48) wk_RX0_25 (k8 52 _ shl_52 shl_53 shl_54) (Nat.le_of_ble_eq_true rfl) ⟨(Nat.le_of_ble_eq_true rfl), (Nat.le_of_ble_eq_true rfl)⟩ (Nat.le_of_ble_eq_true rfl) dX0_init_45 rfl ?_
  refine c_aast (q := 49) (k := 1) (N := 41) (v := 52) (t := 48) (tk_at (i := 48) shl_48 (by decide)) (tk_at (i := 52) shl_52 (by decide)) (by decide) (by decide) (by decide) dX0_init_48 rfl ?_
  refine tj_iinc (q := 52) (v := 2) dX0_init_49 rfl (pl := 0) rfl (by decide) (by decide) rfl ?_
  refine tj_goto (q := 30) dX0_init_52 (by decide) ?_
  refine tj_iload_n (q := 31) dX0_init_30 rfl (i := 1) rfl (pl := 0) rfl ?_
  refine tj_bipush (q := 33) (v := 40) dX0_init_31 rfl (by decide) ?_
  refine c_gtN (tgt := 55) (q := 36) (by decide) dX0_init_33 (by decide) rfl ?_
  refine tj_aload_n (q := 37) dX0_init_36 rfl (i := 0) rfl (pl := 1) rfl ?_
  refine tj_getR (q := 40) (j := 48) (tk_at (i := 47) shl_47 (by decide)) rfl fok_0_0 wl_RX0_11 dX0_init_37 rfl ?_
  refine tj_iload_n (q := 41) dX0_init_40 rfl (i := 1) rfl (pl := 0) rfl ?_
  refine c_new (q := 44) (ci := 8) rfl iX8 tok_8 dok_8 rfl shl_55 wn_RX0_9 wn2_8 wn3_8 (Nat.le_of_ble_eq_true rfl) (Nat.le_of_ble_eq_true rfl) dX0_init_41 rfl ?_
  refine tj_dup (q := 45) dX0_init_44 rfl rfl ?_
  refine c_call (q := 48) wk_RX0_25 (k8 55 _ shl_55 shl_56 shl_57) (Nat.le_of_ble_eq_true rfl) ⟨(Nat.le_of_ble_eq_true rfl), (Nat.le_of_ble_eq_true rfl)⟩ (Nat.le_of_ble_eq_true rfl) dX0_init_45 rfl ?_
  refine c_aast (q := 49) (k := 2) (N := 41) (v := 55) (t := 48) (tk_at (i := 48) shl_48 (by decide)) (tk_at (i := 55) shl_55 (by decide)) (by decide) (by decide) (by decide) dX0_init_48 rfl ?_
  refine tj_iinc (q := 52) (v := 3) dX0_init_49 rfl (pl := 0) rfl (by decide) (by decide) rfl ?_
  refine tj_goto (q := 30) dX0_init_52 (by decide) ?_
  refine tj_iload_n (q := 31) dX0_init_30 rfl (i := 1) rfl (pl := 0) rfl ?_
  refine tj_bipush (q := 33) (v := 40) dX0_init_31 rfl (by decide) ?_
  refine c_gtN (tgt := 55) (q := 36) (by decide) dX0_init_33 (by decide) rfl ?_
  refine tj_aload_n (q := 37) dX0_init_36 rfl (i := 0) rfl (pl := 1) rfl ?_
  refine tj_getR (q := 40) (j := 48) (tk_at (i := 47) shl_47 (by decide)) rfl fok_0_0 wl_RX0_11 dX0_init_37 rfl ?_
  refine tj_iload_n (q := 41) dX0_init_40 rfl (i := 1) rfl (pl := 0) rfl ?_
  refine c_new (q := 44) (ci := 8) rfl iX8 tok_8 dok_8 rfl shl_58 wn_RX0_9 wn2_8 wn3_8 (Nat.le_of_ble_eq_true rfl) (Nat.le_of_ble_eq_true rfl) dX0_init_41 rfl ?_
  refine tj_dup (q := 45) dX0_init_44 rfl rfl ?_
  refine c_call (q := 48) wk_RX0_25 (k8 58 _ shl_58 shl_59 shl_60) (Nat.le_of_ble_eq_true rfl) ⟨(Nat.le_of_ble_eq_true rfl), (Nat.le_of_ble_eq_true rfl)⟩ (Nat.le_of_ble_eq_true rfl) dX0_init_45 rfl ?_
  refine c_aast (q := 49) (k := 3) (N := 41) (v := 58) (t := 48) (tk_at (i := 48) shl_48 (by decide)) (tk_at (i := 58) shl_58 (by decide)) (by decide) (by decide) (by decide) dX0_init_48 rfl ?_
  refine tj_iinc (q := 52) (v := 4) dX0_init_49 rfl (pl := 0) rfl (by decide) (by decide) rfl ?_
  refine tj_goto (q := 30) dX0_init_52 (by decide) ?_
  refine tj_iload_n (q := 31) dX0_init_30 rfl (i := 1) rfl (pl := 0) rfl ?_
  refine tj_bipush (q := 33) (v := 40) dX0_init_31 rfl (by decide) ?_
  refine c_gtN (tgt := 55) (q := 36) (by decide) dX0_init_33 (by decide) rfl ?_
  refine tj_aload_n (q := 37) dX0_init_36 rfl (i := 0) rfl (pl := 1) rfl ?_
  refine tj_getR (q := 40) (j := 48) (tk_at (i := 47) shl_47 (by decide)) rfl fok_0_0 wl_RX0_11 dX0_init_37 rfl ?_
  refine tj_iload_n (q := 41) dX0_init_40 rfl (i := 1) rfl (pl := 0) rfl ?_
  refine c_new (q := 44) (ci := 8) rfl iX8 tok_8 dok_8 rfl shl_61 wn_RX0_9 wn2_8 wn3_8 (Nat.le_of_ble_eq_true rfl) (Nat.le_of_ble_eq_true rfl) dX0_init_41 rfl ?_
  refine tj_dup (q := 45) dX0_init_44 rfl rfl ?_
  refine c_call (q := 48) wk_RX0_25 (k8 61 _ shl_61 shl_62 shl_63) (Nat.le_of_ble_eq_true rfl) ⟨(Nat.le_of_ble_eq_true rfl), (Nat.le_of_ble_eq_true rfl)⟩ (Nat.le_of_ble_eq_true rfl) dX0_init_45 rfl ?_
  refine c_aast (q := 49) (k := 4) (N := 41) (v := 61) (t := 48) (tk_at (i := 48) shl_48 (by decide)) (tk_at (i := 61) shl_61 (by decide)) (by decide) (by decide) (by decide) dX0_init_48 rfl ?_
  refine tj_iinc (q := 52) (v := 5) dX0_init_49 rfl (pl := 0) rfl (by decide) (by decide) rfl ?_
  refine tj_goto (q := 30) dX0_init_52 (by decide) ?_
  refine tj_iload_n (q := 31) dX0_init_30 rfl (i := 1) rfl (pl := 0) rfl ?_
  refine tj_bipush (q := 33) (v := 40) dX0_init_31 rfl (by decide) ?_
  refine c_gtN (tgt := 55) (q := 36) (by decide) dX0_init_33 (by decide) rfl ?_
  refine tj_aload_n (q := 37) dX0_init_36 rfl (i := 0) rfl (pl := 1) rfl ?_
  refine tj_getR (q := 40) (j := 48) (tk_at (i := 47) shl_47 (by decide)) rfl fok_0_0 wl_RX0_11 dX0_init_37 rfl ?_
  refine tj_iload_n (q := 41) dX0_init_40 rfl (i := 1) rfl (pl := 0) rfl ?_
  refine c_new (q := 44) (ci := 8) rfl iX8 tok_8 dok_8 rfl shl_64 wn_RX0_9 wn2_8 wn3_8 (Nat.le_of_ble_eq_true rfl) (Nat.le_of_ble_eq_true rfl) dX0_init_41 rfl ?_
  refine tj_dup (q := 45) dX0_init_44 rfl rfl ?_
  refine c_call (q := 48) wk_RX0_25 (k8 64 _ shl_64 shl_65 shl_66) (Nat.le_of_ble_eq_true rfl) ⟨(Nat.le_of_ble_eq_true rfl), (Nat.le_of_ble_eq_true rfl)⟩ (Nat.le_of_ble_eq_true rfl) dX0_init_45 rfl ?_
  refine c_aast (q := 49) (k := 5) (N := 41) (v := 64) (t := 48) (tk_at (i := 48) shl_48 (by decide)) (tk_at (i := 64) shl_64 (by decide)) (by decide) (by decide) (by decide) dX0_init_48 rfl ?_
  refine tj_iinc (q := 52) (v := 6) dX0_init_49 rfl (pl := 0) rfl (by decide) (by decide) rfl ?_
  refine tj_goto (q := 30) dX0_init_52 (by decide) ?_
  refine tj_iload_n (q := 31) dX0_init_30 rfl (i := 1) rfl (pl := 0) rfl ?_
  refine tj_bipush (q := 33) (v := 40) dX0_init_31 rfl (by decide) ?_
  refine c_gtN (tgt := 55) (q := 36) (by decide) dX0_init_33 (by decide) rfl ?_
  refine tj_aload_n (q := 37) dX0_init_36 rfl (i := 0) rfl (pl := 1) rfl ?_
  refine tj_getR (q := 40) (j := 48) (tk_at (i := 47) shl_47 (by decide)) rfl fok_0_0 wl_RX0_11 dX0_init_37 rfl ?_
  refine tj_iload_n (q := 41) dX0_init_40 rfl (i := 1) rfl (pl := 0) rfl ?_
  refine c_new (q := 44) (ci := 8) rfl iX8 tok_8 dok_8 rfl shl_67 wn_RX0_9 wn2_8 wn3_8 (Nat.le_of_ble_eq_true rfl) (Nat.le_of_ble_eq_true rfl) dX0_init_41 rfl ?_
  refine tj_dup (q := 45) dX0_init_44 rfl rfl ?_
  refine c_call (q := 48) wk_RX0_25 (k8 67 _ shl_67 shl_68 shl_69) (Nat.le_of_ble_eq_true rfl) ⟨(Nat.le_of_ble_eq_true rfl), (Nat.le_of_ble_eq_true rfl)⟩ (Nat.le_of_ble_eq_true rfl) dX0_init_45 rfl ?_
  refine c_aast (q := 49) (k := 6) (N := 41) (v := 67) (t := 48) (tk_at (i := 48) shl_48 (by decide)) (tk_at (i := 67) shl_67 (by decide)) (by decide) (by decide) (by decide) dX0_init_48 rfl ?_
  refine tj_iinc (q := 52) (v := 7) dX0_init_49 rfl (pl := 0) rfl (by decide) (by decide) rfl ?_
  refine tj_goto (q := 30) dX0_init_52 (by decide) ?_
  refine tj_iload_n (q := 31) dX0_init_30 rfl (i := 1) rfl (pl := 0) rfl ?_
  refine tj_bipush (q := 33) (v := 40) dX0_init_31 rfl (by decide) ?_
  refine c_gtN (tgt := 55) (q := 36) (by decide) dX0_init_33 (by decide) rfl ?_
  refine tj_aload_n (q := 37) dX0_init_36 rfl (i := 0) rfl (pl := 1) rfl ?_
  refine tj_getR (q := 40) (j := 48) (tk_at (i := 47) shl_47 (by decide)) rfl fok_0_0 wl_RX0_11 dX0_init_37 rfl ?_
  refine tj_iload_n (q := 41) dX0_init_40 rfl (i := 1) rfl (pl := 0) rfl ?_
  refine c_new (q := 44) (ci := 8) rfl iX8 tok_8 dok_8 rfl shl_70 wn_RX0_9 wn2_8 wn3_8 (Nat.le_of_ble_eq_true rfl) (Nat.le_of_ble_eq_true rfl) dX0_init_41 rfl ?_
  refine tj_dup (q := 45) dX0_init_44 rfl rfl ?_
  refine c_call (q := 48) wk_RX0_25 (k8 70 _ shl_70 shl_71 shl_72) (Nat.le_of_ble_eq_true rfl) ⟨(Nat.le_of_ble_eq_true rfl), (Nat.le_of_ble_eq_true rfl)⟩ (Nat.le_of_ble_eq_true rfl) dX0_init_45 rfl ?_
  refine c_aast (q := 49) (k := 7) (N := 41) (v := 70) (t := 48) (tk_at (i := 48) shl_48 (by decide)) (tk_at (i := 70) shl_70 (by decide)) (by decide) (by decide) (by decide) dX0_init_48 rfl ?_
  refine tj_iinc (q := 52) (v := 8) dX0_init_49 rfl (pl := 0) rfl (by decide) (by decide) rfl ?_
  refine tj_goto (q := 30) dX0_init_52 (by decide) ?_
  refine tj_iload_n (q := 31) dX0_init_30 rfl (i := 1) rfl (pl := 0) rfl ?_
  refine tj_bipush (q := 33) (v := 40) dX0_init_31 rfl (by decide) ?_
  refine c_gtN (tgt := 55) (q := 36) (by decide) dX0_init_33 (by decide) rfl ?_
  refine tj_aload_n (q := 37) dX0_init_36 rfl (i := 0) rfl (pl := 1) rfl ?_
  refine tj_getR (q := 40) (j := 48) (tk_at (i := 47) shl_47 (by decide)) rfl fok_0_0 wl_RX0_11 dX0_init_37 rfl ?_
  refine tj_iload_n (q := 41) dX0_init_40 rfl (i := 1) rfl (pl := 0) rfl ?_
  refine c_new (q := 44) (ci := 8) rfl iX8 tok_8 dok_8 rfl shl_73 wn_RX0_9 wn2_8 wn3_8 (Nat.le_of_ble_eq_true rfl) (Nat.le_of_ble_eq_true rfl) dX0_init_41 rfl ?_
  refine tj_dup (q := 45) dX0_init_44 rfl rfl ?_
  refine c_call (q := 48) wk_RX0_25 (k8 73 _ shl_73 shl_74 shl_75) (Nat.le_of_ble_eq_true rfl) ⟨(Nat.le_of_ble_eq_true rfl), (Nat.le_of_ble_eq_true rfl)⟩ (Nat.le_of_ble_eq_true rfl) dX0_init_45 rfl ?_
  refine c_aast (q := 49) (k := 8) (N := 41) (v := 73) (t := 48) (tk_at (i := 48) shl_48 (by decide)) (tk_at (i := 73) shl_73 (by decide)) (by decide) (by decide) (by decide) dX0_init_48 rfl ?_
  refine tj_iinc (q := 52) (v := 9) dX0_init_49 rfl (pl := 0) rfl (by decide) (by decide) rfl ?_
  refine tj_goto (q := 30) dX0_init_52 (by decide) ?_
  refine tj_iload_n (q := 31) dX0_init_30 rfl (i := 1) rfl (pl := 0) rfl ?_
  refine tj_bipush (q := 33) (v := 40) dX0_init_31 rfl (by decide) ?_
  refine c_gtN (tgt := 55) (q := 36) (by decide) dX0_init_33 (by decide) rfl ?_
  refine tj_aload_n (q := 37) dX0_init_36 rfl (i := 0) rfl (pl := 1) rfl ?_
  refine tj_getR (q := 40) (j := 48) (tk_at (i := 47) shl_47 (by decide)) rfl fok_0_0 wl_RX0_11 dX0_init_37 rfl ?_
  refine tj_iload_n (q := 41) dX0_init_40 rfl (i := 1) rfl (pl := 0) rfl ?_
  refine c_new (q := 44) (ci := 8) rfl iX8 tok_8 dok_8 rfl shl_76 wn_RX0_9 wn2_8 wn3_8 (Nat.le_of_ble_eq_true rfl) (Nat.le_of_ble_eq_true rfl) dX0_init_41 rfl ?_
  refine tj_dup (q := 45) dX0_init_44 rfl rfl ?_
  refine c_call (q := 48) wk_RX0_25 (k8 76 _ shl_76 shl_77 shl_78) (Nat.le_of_ble_eq_true rfl) ⟨(Nat.le_of_ble_eq_true rfl), (Nat.le_of_ble_eq_true rfl)⟩ (Nat.le_of_ble_eq_true rfl) dX0_init_45 rfl ?_
  refine c_aast (q := 49) (k := 9) (N := 41) (v := 76) (t := 48) (tk_at (i := 48) shl_48 (by decide)) (tk_at (i := 76) shl_76 (by decide)) (by decide) (by decide) (by decide) dX0_init_48 rfl ?_
  refine tj_iinc (q := 52) (v := 10) dX0_init_49 rfl (pl := 0) rfl (by decide) (by decide) rfl ?_
  refine tj_goto (q := 30) dX0_init_52 (by decide) ?_
  refine tj_iload_n (q := 31) dX0_init_30 rfl (i := 1) rfl (pl := 0) rfl ?_
  refine tj_bipush (q := 33) (v := 40) dX0_init_31 rfl (by decide) ?_
  refine c_gtN (tgt := 55) (q := 36) (by decide) dX0_init_33 (by decide) rfl ?_
  refine tj_aload_n (q := 37) dX0_init_36 rfl (i := 0) rfl (pl := 1) rfl ?_
  refine tj_getR (q := 40) (j := 48) (tk_at (i := 47) shl_47 (by decide)) rfl fok_0_0 wl_RX0_11 dX0_init_37 rfl ?_
  refine tj_iload_n (q := 41) dX0_init_40 rfl (i := 1) rfl (pl := 0) rfl ?_
  refine c_new (q := 44) (ci := 8) rfl iX8 tok_8 dok_8 rfl shl_79 wn_RX0_9 wn2_8 wn3_8 (Nat.le_of_ble_eq_true rfl) (Nat.le_of_ble_eq_true rfl) dX0_init_41 rfl ?_
  refine tj_dup (q := 45) dX0_init_44 rfl rfl ?_
  refine c_call (q := 48) wk_RX0_25 (k8 79 _ shl_79 shl_80 shl_81) (Nat.le_of_ble_eq_true rfl) ⟨(Nat.le_of_ble_eq_true rfl), (Nat.le_of_ble_eq_true rfl)⟩ (Nat.le_of_ble_eq_true rfl) dX0_init_45 rfl ?_
  refine c_aast (q := 49) (k := 10) (N := 41) (v := 79) (t := 48) (tk_at (i := 48) shl_48 (by decide)) (tk_at (i := 79) shl_79 (by decide)) (by decide) (by decide) (by decide) dX0_init_48 rfl ?_
  refine tj_iinc (q := 52) (v := 11) dX0_init_49 rfl (pl := 0) rfl (by decide) (by decide) rfl ?_
  refine tj_goto (q := 30) dX0_init_52 (by decide) ?_
  refine tj_iload_n (q := 31) dX0_init_30 rfl (i := 1) rfl (pl := 0) rfl ?_
  refine tj_bipush (q := 33) (v := 40) dX0_init_31 rfl (by decide) ?_
  refine c_gtN (tgt := 55) (q := 36) (by decide) dX0_init_33 (by decide) rfl ?_
  refine tj_aload_n (q := 37) dX0_init_36 rfl (i := 0) rfl (pl := 1) rfl ?_
  refine tj_getR (q := 40) (j := 48) (tk_at (i := 47) shl_47 (by decide)) rfl fok_0_0 wl_RX0_11 dX0_init_37 rfl ?_
  refine tj_iload_n (q := 41) dX0_init_40 rfl (i := 1) rfl (pl := 0) rfl ?_
  refine c_new (q := 44) (ci := 8) rfl iX8 tok_8 dok_8 rfl shl_82 wn_RX0_9 wn2_8 wn3_8 (Nat.le_of_ble_eq_true rfl) (Nat.le_of_ble_eq_true rfl) dX0_init_41 rfl ?_
  refine tj_dup (q := 45) dX0_init_44 rfl rfl ?_
  refine c_call (q := 48) wk_RX0_25 (k8 82 _ shl_82 shl_83 shl_84) (Nat.le_of_ble_eq_true rfl) ⟨(Nat.le_of_ble_eq_true rfl), (Nat.le_of_ble_eq_true rfl)⟩ (Nat.le_of_ble_eq_true rfl) dX0_init_45 rfl ?_
  refine c_aast (q := 49) (k := 11) (N := 41) (v := 82) (t := 48) (tk_at (i := 48) shl_48 (by decide)) (tk_at (i := 82) shl_82 (by decide)) (by decide) (by decide) (by decide) dX0_init_48 rfl ?_
  refine tj_iinc (q := 52) (v := 12) dX0_init_49 rfl (pl := 0) rfl (by decide) (by decide) rfl ?_
  refine tj_goto (q := 30) dX0_init_52 (by decide) ?_
  refine tj_iload_n (q := 31) dX0_init_30 rfl (i := 1) rfl (pl := 0) rfl ?_
  refine tj_bipush (q := 33) (v := 40) dX0_init_31 rfl (by decide) ?_
  refine c_gtN (tgt := 55) (q := 36) (by decide) dX0_init_33 (by decide) rfl ?_
  refine tj_aload_n (q := 37) dX0_init_36 rfl (i := 0) rfl (pl := 1) rfl ?_
  refine tj_getR (q := 40) (j := 48) (tk_at (i := 47) shl_47 (by decide)) rfl fok_0_0 wl_RX0_11 dX0_init_37 rfl ?_
  refine tj_iload_n (q := 41) dX0_init_40 rfl (i := 1) rfl (pl := 0) rfl ?_
  refine c_new (q := 44) (ci := 8) rfl iX8 tok_8 dok_8 rfl shl_85 wn_RX0_9 wn2_8 wn3_8 (Nat.le_of_ble_eq_true rfl) (Nat.le_of_ble_eq_true rfl) dX0_init_41 rfl ?_
  refine tj_dup (q := 45) dX0_init_44 rfl rfl ?_
  refine c_call (q := 48) wk_RX0_25 (k8 85 _ shl_85 shl_86 shl_87) (Nat.le_of_ble_eq_true rfl) ⟨(Nat.le_of_ble_eq_true rfl), (Nat.le_of_ble_eq_true rfl)⟩ (Nat.le_of_ble_eq_true rfl) dX0_init_45 rfl ?_
  refine c_aast (q := 49) (k := 12) (N := 41) (v := 85) (t := 48) (tk_at (i := 48) shl_48 (by decide)) (tk_at (i := 85) shl_85 (by decide)) (by decide) (by decide) (by decide) dX0_init_48 rfl ?_
  refine tj_iinc (q := 52) (v := 13) dX0_init_49 rfl (pl := 0) rfl (by decide) (by decide) rfl ?_
  refine tj_goto (q := 30) dX0_init_52 (by decide) ?_
  refine tj_iload_n (q := 31) dX0_init_30 rfl (i := 1) rfl (pl := 0) rfl ?_
  refine tj_bipush (q := 33) (v := 40) dX0_init_31 rfl (by decide) ?_
  refine c_gtN (tgt := 55) (q := 36) (by decide) dX0_init_33 (by decide) rfl ?_
  refine tj_aload_n (q := 37) dX0_init_36 rfl (i := 0) rfl (pl := 1) rfl ?_
  refine tj_getR (q := 40) (j := 48) (tk_at (i := 47) shl_47 (by decide)) rfl fok_0_0 wl_RX0_11 dX0_init_37 rfl ?_
  refine tj_iload_n (q := 41) dX0_init_40 rfl (i := 1) rfl (pl := 0) rfl ?_
  refine c_new (q := 44) (ci := 8) rfl iX8 tok_8 dok_8 rfl shl_88 wn_RX0_9 wn2_8 wn3_8 (Nat.le_of_ble_eq_true rfl) (Nat.le_of_ble_eq_true rfl) dX0_init_41 rfl ?_
  refine tj_dup (q := 45) dX0_init_44 rfl rfl ?_
  refine c_call (q := 48) wk_RX0_25 (k8 88 _ shl_88 shl_89 shl_90) (Nat.le_of_ble_eq_true rfl) ⟨(Nat.le_of_ble_eq_true rfl), (Nat.le_of_ble_eq_true rfl)⟩ (Nat.le_of_ble_eq_true rfl) dX0_init_45 rfl ?_
  refine c_aast (q := 49) (k := 13) (N := 41) (v := 88) (t := 48) (tk_at (i := 48) shl_48 (by decide)) (tk_at (i := 88) shl_88 (by decide)) (by decide) (by decide) (by decide) dX0_init_48 rfl ?_
  refine tj_iinc (q := 52) (v := 14) dX0_init_49 rfl (pl := 0) rfl (by decide) (by decide) rfl ?_
  refine tj_goto (q := 30) dX0_init_52 (by decide) ?_
  refine tj_iload_n (q := 31) dX0_init_30 rfl (i := 1) rfl (pl := 0) rfl ?_
  refine tj_bipush (q := 33) (v := 40) dX0_init_31 rfl (by decide) ?_
  refine c_gtN (tgt := 55) (q := 36) (by decide) dX0_init_33 (by decide) rfl ?_
  refine tj_aload_n (q := 37) dX0_init_36 rfl (i := 0) rfl (pl := 1) rfl ?_
  refine tj_getR (q := 40) (j := 48) (tk_at (i := 47) shl_47 (by decide)) rfl fok_0_0 wl_RX0_11 dX0_init_37 rfl ?_
  refine tj_iload_n (q := 41) dX0_init_40 rfl (i := 1) rfl (pl := 0) rfl ?_
  refine c_new (q := 44) (ci := 8) rfl iX8 tok_8 dok_8 rfl shl_91 wn_RX0_9 wn2_8 wn3_8 (Nat.le_of_ble_eq_true rfl) (Nat.le_of_ble_eq_true rfl) dX0_init_41 rfl ?_
  refine tj_dup (q := 45) dX0_init_44 rfl rfl ?_
  refine c_call (q := 48) wk_RX0_25 (k8 91 _ shl_91 shl_92 shl_93) (Nat.le_of_ble_eq_true rfl) ⟨(Nat.le_of_ble_eq_true rfl), (Nat.le_of_ble_eq_true rfl)⟩ (Nat.le_of_ble_eq_true rfl) dX0_init_45 rfl ?_
  refine c_aast (q := 49) (k := 14) (N := 41) (v := 91) (t := 48) (tk_at (i := 48) shl_48 (by decide)) (tk_at (i := 91) shl_91 (by decide)) (by decide) (by decide) (by decide) dX0_init_48 rfl ?_
  refine tj_iinc (q := 52) (v := 15) dX0_init_49 rfl (pl := 0) rfl (by decide) (by decide) rfl ?_
  refine tj_goto (q := 30) dX0_init_52 (by decide) ?_
  refine tj_iload_n (q := 31) dX0_init_30 rfl (i := 1) rfl (pl := 0) rfl ?_
  refine tj_bipush (q := 33) (v := 40) dX0_init_31 rfl (by decide) ?_
  refine c_gtN (tgt := 55) (q := 36) (by decide) dX0_init_33 (by decide) rfl ?_
  refine tj_aload_n (q := 37) dX0_init_36 rfl (i := 0) rfl (pl := 1) rfl ?_
  refine tj_getR (q := 40) (j := 48) (tk_at (i := 47) shl_47 (by decide)) rfl fok_0_0 wl_RX0_11 dX0_init_37 rfl ?_
  refine tj_iload_n (q := 41) dX0_init_40 rfl (i := 1) rfl (pl := 0) rfl ?_
  refine c_new (q := 44) (ci := 8) rfl iX8 tok_8 dok_8 rfl shl_94 wn_RX0_9 wn2_8 wn3_8 (Nat.le_of_ble_eq_true rfl) (Nat.le_of_ble_eq_true rfl) dX0_init_41 rfl ?_
  refine tj_dup (q := 45) dX0_init_44 rfl rfl ?_
  refine c_call (q := 48) wk_RX0_25 (k8 94 _ shl_94 shl_95 shl_96) (Nat.le_of_ble_eq_true rfl) ⟨(Nat.le_of_ble_eq_true rfl), (Nat.le_of_ble_eq_true rfl)⟩ (Nat.le_of_ble_eq_true rfl) dX0_init_45 rfl ?_
  refine c_aast (q := 49) (k := 15) (N := 41) (v := 94) (t := 48) (tk_at (i := 48) shl_48 (by decide)) (tk_at (i := 94) shl_94 (by decide)) (by decide) (by decide) (by decide) dX0_init_48 rfl ?_
  refine tj_iinc (q := 52) (v := 16) dX0_init_49 rfl (pl := 0) rfl (by decide) (by decide) rfl ?_
  refine tj_goto (q := 30) dX0_init_52 (by decide) ?_
  refine tj_iload_n (q := 31) dX0_init_30 rfl (i := 1) rfl (pl := 0) rfl ?_
  refine tj_bipush (q := 33) (v := 40) dX0_init_31 rfl (by decide) ?_
  refine c_gtN (tgt := 55) (q := 36) (by decide) dX0_init_33 (by decide) rfl ?_
  refine tj_aload_n (q := 37) dX0_init_36 rfl (i := 0) rfl (pl := 1) rfl ?_
  refine tj_getR (q := 40) (j := 48) (tk_at (i := 47) shl_47 (by decide)) rfl fok_0_0 wl_RX0_11 dX0_init_37 rfl ?_
  refine tj_iload_n (q := 41) dX0_init_40 rfl (i := 1) rfl (pl := 0) rfl ?_
  refine c_new (q := 44) (ci := 8) rfl iX8 tok_8 dok_8 rfl shl_97 wn_RX0_9 wn2_8 wn3_8 (Nat.le_of_ble_eq_true rfl) (Nat.le_of_ble_eq_true rfl) dX0_init_41 rfl ?_
  refine tj_dup (q := 45) dX0_init_44 rfl rfl ?_
  refine c_call (q := 48) wk_RX0_25 (k8 97 _ shl_97 shl_98 shl_99) (Nat.le_of_ble_eq_true rfl) ⟨(Nat.le_of_ble_eq_true rfl), (Nat.le_of_ble_eq_true rfl)⟩ (Nat.le_of_ble_eq_true rfl) dX0_init_45 rfl ?_
  refine c_aast (q := 49) (k := 16) (N := 41) (v := 97) (t := 48) (tk_at (i := 48) shl_48 (by decide)) (tk_at (i := 97) shl_97 (by decide)) (by decide) (by decide) (by decide) dX0_init_48 rfl ?_
  refine tj_iinc (q := 52) (v := 17) dX0_init_49 rfl (pl := 0) rfl (by decide) (by decide) rfl ?_
  refine tj_goto (q := 30) dX0_init_52 (by decide) ?_
  refine tj_iload_n (q := 31) dX0_init_30 rfl (i := 1) rfl (pl := 0) rfl ?_
  refine tj_bipush (q := 33) (v := 40) dX0_init_31 rfl (by decide) ?_
  refine c_gtN (tgt := 55) (q := 36) (by decide) dX0_init_33 (by decide) rfl ?_
  refine tj_aload_n (q := 37) dX0_init_36 rfl (i := 0) rfl (pl := 1) rfl ?_
  refine tj_getR (q := 40) (j := 48) (tk_at (i := 47) shl_47 (by decide)) rfl fok_0_0 wl_RX0_11 dX0_init_37 rfl ?_
  refine tj_iload_n (q := 41) dX0_init_40 rfl (i := 1) rfl (pl := 0) rfl ?_
  refine c_new (q := 44) (ci := 8) rfl iX8 tok_8 dok_8 rfl shl_100 wn_RX0_9 wn2_8 wn3_8 (Nat.le_of_ble_eq_true rfl) (Nat.le_of_ble_eq_true rfl) dX0_init_41 rfl ?_
  refine tj_dup (q := 45) dX0_init_44 rfl rfl ?_
  refine c_call (q := 48) wk_RX0_25 (k8 100 _ shl_100 shl_101 shl_102) (Nat.le_of_ble_eq_true rfl) ⟨(Nat.le_of_ble_eq_true rfl), (Nat.le_of_ble_eq_true rfl)⟩ (Nat.le_of_ble_eq_true rfl) dX0_init_45 rfl ?_
  refine c_aast (q := 49) (k := 17) (N := 41) (v := 100) (t := 48) (tk_at (i := 48) shl_48 (by decide)) (tk_at (i := 100) shl_100 (by decide)) (by decide) (by decide) (by decide) dX0_init_48 rfl ?_
  refine tj_iinc (q := 52) (v := 18) dX0_init_49 rfl (pl := 0) rfl (by decide) (by decide) rfl ?_
  refine tj_goto (q := 30) dX0_init_52 (by decide) ?_
  refine tj_iload_n (q := 31) dX0_init_30 rfl (i := 1) rfl (pl := 0) rfl ?_
  refine tj_bipush (q := 33) (v := 40) dX0_init_31 rfl (by decide) ?_
  refine c_gtN (tgt := 55) (q := 36) (by decide) dX0_init_33 (by decide) rfl ?_
  refine tj_aload_n (q := 37) dX0_init_36 rfl (i := 0) rfl (pl := 1) rfl ?_
  refine tj_getR (q := 40) (j := 48) (tk_at (i := 47) shl_47 (by decide)) rfl fok_0_0 wl_RX0_11 dX0_init_37 rfl ?_
  refine tj_iload_n (q := 41) dX0_init_40 rfl (i := 1) rfl (pl := 0) rfl ?_
  refine c_new (q := 44) (ci := 8) rfl iX8 tok_8 dok_8 rfl shl_103 wn_RX0_9 wn2_8 wn3_8 (Nat.le_of_ble_eq_true rfl) (Nat.le_of_ble_eq_true rfl) dX0_init_41 rfl ?_
  refine tj_dup (q := 45) dX0_init_44 rfl rfl ?_
  refine c_call (q := 48) wk_RX0_25 (k8 103 _ shl_103 shl_104 shl_105) (Nat.le_of_ble_eq_true rfl) ⟨(Nat.le_of_ble_eq_true rfl), (Nat.le_of_ble_eq_true rfl)⟩ (Nat.le_of_ble_eq_true rfl) dX0_init_45 rfl ?_
  refine c_aast (q := 49) (k := 18) (N := 41) (v := 103) (t := 48) (tk_at (i := 48) shl_48 (by decide)) (tk_at (i := 103) shl_103 (by decide)) (by decide) (by decide) (by decide) dX0_init_48 rfl ?_
  refine tj_iinc (q := 52) (v := 19) dX0_init_49 rfl (pl := 0) rfl (by decide) (by decide) rfl ?_
  refine tj_goto (q := 30) dX0_init_52 (by decide) ?_
  refine tj_iload_n (q := 31) dX0_init_30 rfl (i := 1) rfl (pl := 0) rfl ?_
  refine tj_bipush (q := 33) (v := 40) dX0_init_31 rfl (by decide) ?_
  refine c_gtN (tgt := 55) (q := 36) (by decide) dX0_init_33 (by decide) rfl ?_
  refine tj_aload_n (q := 37) dX0_init_36 rfl (i := 0) rfl (pl := 1) rfl ?_
  refine tj_getR (q := 40) (j := 48) (tk_at (i := 47) shl_47 (by decide)) rfl fok_0_0 wl_RX0_11 dX0_init_37 rfl ?_
  refine tj_iload_n (q := 41) dX0_init_40 rfl (i := 1) rfl (pl := 0) rfl ?_
  refine c_new (q := 44) (ci := 8) rfl iX8 tok_8 dok_8 rfl shl_106 wn_RX0_9 wn2_8 wn3_8 (Nat.le_of_ble_eq_true rfl) (Nat.le_of_ble_eq_true rfl) dX0_init_41 rfl ?_
  refine tj_dup (q := 45) dX0_init_44 rfl rfl ?_
  refine c_call (q := 48) wk_RX0_25 (k8 106 _ shl_106 shl_107 shl_108) (Nat.le_of_ble_eq_true rfl) ⟨(Nat.le_of_ble_eq_true rfl), (Nat.le_of_ble_eq_true rfl)⟩ (Nat.le_of_ble_eq_true rfl) dX0_init_45 rfl ?_
  refine c_aast (q := 49) (k := 19) (N := 41) (v := 106) (t := 48) (tk_at (i := 48) shl_48 (by decide)) (tk_at (i := 106) shl_106 (by decide)) (by decide) (by decide) (by decide) dX0_init_48 rfl ?_
  refine tj_iinc (q := 52) (v := 20) dX0_init_49 rfl (pl := 0) rfl (by decide) (by decide) rfl ?_
  refine tj_goto (q := 30) dX0_init_52 (by decide) ?_
  refine tj_iload_n (q := 31) dX0_init_30 rfl (i := 1) rfl (pl := 0) rfl ?_
  refine tj_bipush (q := 33) (v := 40) dX0_init_31 rfl (by decide) ?_
  refine c_gtN (tgt := 55) (q := 36) (by decide) dX0_init_33 (by decide) rfl ?_
  refine tj_aload_n (q := 37) dX0_init_36 rfl (i := 0) rfl (pl := 1) rfl ?_
  refine tj_getR (q := 40) (j := 48) (tk_at (i := 47) shl_47 (by decide)) rfl fok_0_0 wl_RX0_11 dX0_init_37 rfl ?_
  refine tj_iload_n (q := 41) dX0_init_40 rfl (i := 1) rfl (pl := 0) rfl ?_
  refine c_new (q := 44) (ci := 8) rfl iX8 tok_8 dok_8 rfl shl_109 wn_RX0_9 wn2_8 wn3_8 (Nat.le_of_ble_eq_true rfl) (Nat.le_of_ble_eq_true rfl) dX0_init_41 rfl ?_
  refine tj_dup (q := 45) dX0_init_44 rfl rfl ?_
  refine c_call (q := 48) wk_RX0_25 (k8 109 _ shl_109 shl_110 shl_111) (Nat.le_of_ble_eq_true rfl) ⟨(Nat.le_of_ble_eq_true rfl), (Nat.le_of_ble_eq_true rfl)⟩ (Nat.le_of_ble_eq_true rfl) dX0_init_45 rfl ?_
  refine c_aast (q := 49) (k := 20) (N := 41) (v := 109) (t := 48) (tk_at (i := 48) shl_48 (by decide)) (tk_at (i := 109) shl_109 (by decide)) (by decide) (by decide) (by decide) dX0_init_48 rfl ?_
  refine tj_iinc (q := 52) (v := 21) dX0_init_49 rfl (pl := 0) rfl (by decide) (by decide) rfl ?_
  refine tj_goto (q := 30) dX0_init_52 (by decide) ?_
  refine tj_iload_n (q := 31) dX0_init_30 rfl (i := 1) rfl (pl := 0) rfl ?_
  refine tj_bipush (q := 33) (v := 40) dX0_init_31 rfl (by decide) ?_
  refine c_gtN (tgt := 55) (q := 36) (by decide) dX0_init_33 (by decide) rfl ?_
  refine tj_aload_n (q := 37) dX0_init_36 rfl (i := 0) rfl (pl := 1) rfl ?_
  refine tj_getR (q := 40) (j := 48) (tk_at (i := 47) shl_47 (by decide)) rfl fok_0_0 wl_RX0_11 dX0_init_37 rfl ?_
  refine tj_iload_n (q := 41) dX0_init_40 rfl (i := 1) rfl (pl := 0) rfl ?_
  refine c_new (q := 44) (ci := 8) rfl iX8 tok_8 dok_8 rfl shl_112 wn_RX0_9 wn2_8 wn3_8 (Nat.le_of_ble_eq_true rfl) (Nat.le_of_ble_eq_true rfl) dX0_init_41 rfl ?_
  refine tj_dup (q := 45) dX0_init_44 rfl rfl ?_
  refine c_call (q := 48) wk_RX0_25 (k8 112 _ shl_112 shl_113 shl_114) (Nat.le_of_ble_eq_true rfl) ⟨(Nat.le_of_ble_eq_true rfl), (Nat.le_of_ble_eq_true rfl)⟩ (Nat.le_of_ble_eq_true rfl) dX0_init_45 rfl ?_
  refine c_aast (q := 49) (k := 21) (N := 41) (v := 112) (t := 48) (tk_at (i := 48) shl_48 (by decide)) (tk_at (i := 112) shl_112 (by decide)) (by decide) (by decide) (by decide) dX0_init_48 rfl ?_
  refine tj_iinc (q := 52) (v := 22) dX0_init_49 rfl (pl := 0) rfl (by decide) (by decide) rfl ?_
  refine tj_goto (q := 30) dX0_init_52 (by decide) ?_
  refine tj_iload_n (q := 31) dX0_init_30 rfl (i := 1) rfl (pl := 0) rfl ?_
  refine tj_bipush (q := 33) (v := 40) dX0_init_31 rfl (by decide) ?_
  refine c_gtN (tgt := 55) (q := 36) (by decide) dX0_init_33 (by decide) rfl ?_
  refine tj_aload_n (q := 37) dX0_init_36 rfl (i := 0) rfl (pl := 1) rfl ?_
  refine tj_getR (q := 40) (j := 48) (tk_at (i := 47) shl_47 (by decide)) rfl fok_0_0 wl_RX0_11 dX0_init_37 rfl ?_
  refine tj_iload_n (q := 41) dX0_init_40 rfl (i := 1) rfl (pl := 0) rfl ?_
  refine c_new (q := 44) (ci := 8) rfl iX8 tok_8 dok_8 rfl shl_115 wn_RX0_9 wn2_8 wn3_8 (Nat.le_of_ble_eq_true rfl) (Nat.le_of_ble_eq_true rfl) dX0_init_41 rfl ?_
  refine tj_dup (q := 45) dX0_init_44 rfl rfl ?_
  refine c_call (q := 48) wk_RX0_25 (k8 115 _ shl_115 shl_116 shl_117) (Nat.le_of_ble_eq_true rfl) ⟨(Nat.le_of_ble_eq_true rfl), (Nat.le_of_ble_eq_true rfl)⟩ (Nat.le_of_ble_eq_true rfl) dX0_init_45 rfl ?_
  refine c_aast (q := 49) (k := 22) (N := 41) (v := 115) (t := 48) (tk_at (i := 48) shl_48 (by decide)) (tk_at (i := 115) shl_115 (by decide)) (by decide) (by decide) (by decide) dX0_init_48 rfl ?_
  refine tj_iinc (q := 52) (v := 23) dX0_init_49 rfl (pl := 0) rfl (by decide) (by decide) rfl ?_
  refine tj_goto (q := 30) dX0_init_52 (by decide) ?_
  refine tj_iload_n (q := 31) dX0_init_30 rfl (i := 1) rfl (pl := 0) rfl ?_
  refine tj_bipush (q := 33) (v := 40) dX0_init_31 rfl (by decide) ?_
  refine c_gtN (tgt := 55) (q := 36) (by decide) dX0_init_33 (by decide) rfl ?_
  refine tj_aload_n (q := 37) dX0_init_36 rfl (i := 0) rfl (pl := 1) rfl ?_
  refine tj_getR (q := 40) (j := 48) (tk_at (i := 47) shl_47 (by decide)) rfl fok_0_0 wl_RX0_11 dX0_init_37 rfl ?_
  refine tj_iload_n (q := 41) dX0_init_40 rfl (i := 1) rfl (pl := 0) rfl ?_
  refine c_new (q := 44) (ci := 8) rfl iX8 tok_8 dok_8 rfl shl_118 wn_RX0_9 wn2_8 wn3_8 (Nat.le_of_ble_eq_true rfl) (Nat.le_of_ble_eq_true rfl) dX0_init_41 rfl ?_
  refine tj_dup (q := 45) dX0_init_44 rfl rfl ?_
  refine c_call (q := 48) wk_RX0_25 (k8 118 _ shl_118 shl_119 shl_120) (Nat.le_of_ble_eq_true rfl) ⟨(Nat.le_of_ble_eq_true rfl), (Nat.le_of_ble_eq_true rfl)⟩ (Nat.le_of_ble_eq_true rfl) dX0_init_45 rfl ?_
  refine c_aast (q := 49) (k := 23) (N := 41) (v := 118) (t := 48) (tk_at (i := 48) shl_48 (by decide)) (tk_at (i := 118) shl_118 (by decide)) (by decide) (by decide) (by decide) dX0_init_48 rfl ?_
  refine tj_iinc (q := 52) (v := 24) dX0_init_49 rfl (pl := 0) rfl (by decide) (by decide) rfl ?_
  refine tj_goto (q := 30) dX0_init_52 (by decide) ?_
  refine tj_iload_n (q := 31) dX0_init_30 rfl (i := 1) rfl (pl := 0) rfl ?_
  refine tj_bipush (q := 33) (v := 40) dX0_init_31 rfl (by decide) ?_
  refine c_gtN (tgt := 55) (q := 36) (by decide) dX0_init_33 (by decide) rfl ?_
  refine tj_aload_n (q := 37) dX0_init_36 rfl (i := 0) rfl (pl := 1) rfl ?_
  refine tj_getR (q := 40) (j := 48) (tk_at (i := 47) shl_47 (by decide)) rfl fok_0_0 wl_RX0_11 dX0_init_37 rfl ?_
  refine tj_iload_n (q := 41) dX0_init_40 rfl (i := 1) rfl (pl := 0) rfl ?_
  refine c_new (q := 44) (ci := 8) rfl iX8 tok_8 dok_8 rfl shl_121 wn_RX0_9 wn2_8 wn3_8 (Nat.le_of_ble_eq_true rfl) (Nat.le_of_ble_eq_true rfl) dX0_init_41 rfl ?_
  refine tj_dup (q := 45) dX0_init_44 rfl rfl ?_
  refine c_call (q := 48) wk_RX0_25 (k8 121 _ shl_121 shl_122 shl_123) (Nat.le_of_ble_eq_true rfl) ⟨(Nat.le_of_ble_eq_true rfl), (Nat.le_of_ble_eq_true rfl)⟩ (Nat.le_of_ble_eq_true rfl) dX0_init_45 rfl ?_
  refine c_aast (q := 49) (k := 24) (N := 41) (v := 121) (t := 48) (tk_at (i := 48) shl_48 (by decide)) (tk_at (i := 121) shl_121 (by decide)) (by decide) (by decide) (by decide) dX0_init_48 rfl ?_
  refine tj_iinc (q := 52) (v := 25) dX0_init_49 rfl (pl := 0) rfl (by decide) (by decide) rfl ?_
  refine tj_goto (q := 30) dX0_init_52 (by decide) ?_
  refine tj_iload_n (q := 31) dX0_init_30 rfl (i := 1) rfl (pl := 0) rfl ?_
  refine tj_bipush (q := 33) (v := 40) dX0_init_31 rfl (by decide) ?_
  refine c_gtN (tgt := 55) (q := 36) (by decide) dX0_init_33 (by decide) rfl ?_
  refine tj_aload_n (q := 37) dX0_init_36 rfl (i := 0) rfl (pl := 1) rfl ?_
  refine tj_getR (q := 40) (j := 48) (tk_at (i := 47) shl_47 (by decide)) rfl fok_0_0 wl_RX0_11 dX0_init_37 rfl ?_
  refine tj_iload_n (q := 41) dX0_init_40 rfl (i := 1) rfl (pl := 0) rfl ?_
  refine c_new (q := 44) (ci := 8) rfl iX8 tok_8 dok_8 rfl shl_124 wn_RX0_9 wn2_8 wn3_8 (Nat.le_of_ble_eq_true rfl) (Nat.le_of_ble_eq_true rfl) dX0_init_41 rfl ?_
  refine tj_dup (q := 45) dX0_init_44 rfl rfl ?_
  refine c_call (q := 48) wk_RX0_25 (k8 124 _ shl_124 shl_125 shl_126) (Nat.le_of_ble_eq_true rfl) ⟨(Nat.le_of_ble_eq_true rfl), (Nat.le_of_ble_eq_true rfl)⟩ (Nat.le_of_ble_eq_true rfl) dX0_init_45 rfl ?_
  refine c_aast (q := 49) (k := 25) (N := 41) (v := 124) (t := 48) (tk_at (i := 48) shl_48 (by decide)) (tk_at (i := 124) shl_124 (by decide)) (by decide) (by decide) (by decide) dX0_init_48 rfl ?_
  refine tj_iinc (q := 52) (v := 26) dX0_init_49 rfl (pl := 0) rfl (by decide) (by decide) rfl ?_
  refine tj_goto (q := 30) dX0_init_52 (by decide) ?_
  refine tj_iload_n (q := 31) dX0_init_30 rfl (i := 1) rfl (pl := 0) rfl ?_
  refine tj_bipush (q := 33) (v := 40) dX0_init_31 rfl (by decide) ?_
  refine c_gtN (tgt := 55) (q := 36) (by decide) dX0_init_33 (by decide) rfl ?_
  refine tj_aload_n (q := 37) dX0_init_36 rfl (i := 0) rfl (pl := 1) rfl ?_
  refine tj_getR (q := 40) (j := 48) (tk_at (i := 47) shl_47 (by decide)) rfl fok_0_0 wl_RX0_11 dX0_init_37 rfl ?_
  refine tj_iload_n (q := 41) dX0_init_40 rfl (i := 1) rfl (pl := 0) rfl ?_
  refine c_new (q := 44) (ci := 8) rfl iX8 tok_8 dok_8 rfl shl_127 wn_RX0_9 wn2_8 wn3_8 (Nat.le_of_ble_eq_true rfl) (Nat.le_of_ble_eq_true rfl) dX0_init_41 rfl ?_
  refine tj_dup (q := 45) dX0_init_44 rfl rfl ?_
  refine c_call (q := 48) wk_RX0_25 (k8 127 _ shl_127 shl_128 shl_129) (Nat.le_of_ble_eq_true rfl) ⟨(Nat.le_of_ble_eq_true rfl), (Nat.le_of_ble_eq_true rfl)⟩ (Nat.le_of_ble_eq_true rfl) dX0_init_45 rfl ?_
  refine c_aast (q := 49) (k := 26) (N := 41) (v := 127) (t := 48) (tk_at (i := 48) shl_48 (by decide)) (tk_at (i := 127) shl_127 (by decide)) (by decide) (by decide) (by decide) dX0_init_48 rfl ?_
  refine tj_iinc (q := 52) (v := 27) dX0_init_49 rfl (pl := 0) rfl (by decide) (by decide) rfl ?_
  refine tj_goto (q := 30) dX0_init_52 (by decide) ?_
  refine tj_iload_n (q := 31) dX0_init_30 rfl (i := 1) rfl (pl := 0) rfl ?_
  refine tj_bipush (q := 33) (v := 40) dX0_init_31 rfl (by decide) ?_
  refine c_gtN (tgt := 55) (q := 36) (by decide) dX0_init_33 (by decide) rfl ?_
  refine tj_aload_n (q := 37) dX0_init_36 rfl (i := 0) rfl (pl := 1) rfl ?_
  refine tj_getR (q := 40) (j := 48) (tk_at (i := 47) shl_47 (by decide)) rfl fok_0_0 wl_RX0_11 dX0_init_37 rfl ?_
  refine tj_iload_n (q := 41) dX0_init_40 rfl (i := 1) rfl (pl := 0) rfl ?_
  refine c_new (q := 44) (ci := 8) rfl iX8 tok_8 dok_8 rfl shl_130 wn_RX0_9 wn2_8 wn3_8 (Nat.le_of_ble_eq_true rfl) (Nat.le_of_ble_eq_true rfl) dX0_init_41 rfl ?_
  refine tj_dup (q := 45) dX0_init_44 rfl rfl ?_
  refine c_call (q := 48) wk_RX0_25 (k8 130 _ shl_130 shl_131 shl_132) (Nat.le_of_ble_eq_true rfl) ⟨(Nat.le_of_ble_eq_true rfl), (Nat.le_of_ble_eq_true rfl)⟩ (Nat.le_of_ble_eq_true rfl) dX0_init_45 rfl ?_
  refine c_aast (q := 49) (k := 27) (N := 41) (v := 130) (t := 48) (tk_at (i := 48) shl_48 (by decide)) (tk_at (i := 130) shl_130 (by decide)) (by decide) (by decide) (by decide) dX0_init_48 rfl ?_
  refine tj_iinc (q := 52) (v := 28) dX0_init_49 rfl (pl := 0) rfl (by decide) (by decide) rfl ?_
  refine tj_goto (q := 30) dX0_init_52 (by decide) ?_
  refine tj_iload_n (q := 31) dX0_init_30 rfl (i := 1) rfl (pl := 0) rfl ?_
  refine tj_bipush (q := 33) (v := 40) dX0_init_31 rfl (by decide) ?_
  refine c_gtN (tgt := 55) (q := 36) (by decide) dX0_init_33 (by decide) rfl ?_
  refine tj_aload_n (q := 37) dX0_init_36 rfl (i := 0) rfl (pl := 1) rfl ?_
  refine tj_getR (q := 40) (j := 48) (tk_at (i := 47) shl_47 (by decide)) rfl fok_0_0 wl_RX0_11 dX0_init_37 rfl ?_
  refine tj_iload_n (q := 41) dX0_init_40 rfl (i := 1) rfl (pl := 0) rfl ?_
  refine c_new (q := 44) (ci := 8) rfl iX8 tok_8 dok_8 rfl shl_133 wn_RX0_9 wn2_8 wn3_8 (Nat.le_of_ble_eq_true rfl) (Nat.le_of_ble_eq_true rfl) dX0_init_41 rfl ?_
  refine tj_dup (q := 45) dX0_init_44 rfl rfl ?_
  refine c_call (q := 48) wk_RX0_25 (k8 133 _ shl_133 shl_134 shl_135) (Nat.le_of_ble_eq_true rfl) ⟨(Nat.le_of_ble_eq_true rfl), (Nat.le_of_ble_eq_true rfl)⟩ (Nat.le_of_ble_eq_true rfl) dX0_init_45 rfl ?_
  refine c_aast (q := 49) (k := 28) (N := 41) (v := 133) (t := 48) (tk_at (i := 48) shl_48 (by decide)) (tk_at (i := 133) shl_133 (by decide)) (by decide) (by decide) (by decide) dX0_init_48 rfl ?_
  refine tj_iinc (q := 52) (v := 29) dX0_init_49 rfl (pl := 0) rfl (by decide) (by decide) rfl ?_
  refine tj_goto (q := 30) dX0_init_52 (by decide) ?_
  refine tj_iload_n (q := 31) dX0_init_30 rfl (i := 1) rfl (pl := 0) rfl ?_
  refine tj_bipush (q := 33) (v := 40) dX0_init_31 rfl (by decide) ?_
  refine c_gtN (tgt := 55) (q := 36) (by decide) dX0_init_33 (by decide) rfl ?_
  refine tj_aload_n (q := 37) dX0_init_36 rfl (i := 0) rfl (pl := 1) rfl ?_
  refine tj_getR (q := 40) (j := 48) (tk_at (i := 47) shl_47 (by decide)) rfl fok_0_0 wl_RX0_11 dX0_init_37 rfl ?_
  refine tj_iload_n (q := 41) dX0_init_40 rfl (i := 1) rfl (pl := 0) rfl ?_
  refine c_new (q := 44) (ci := 8) rfl iX8 tok_8 dok_8 rfl shl_136 wn_RX0_9 wn2_8 wn3_8 (Nat.le_of_ble_eq_true rfl) (Nat.le_of_ble_eq_true rfl) dX0_init_41 rfl ?_
  refine tj_dup (q := 45) dX0_init_44 rfl rfl ?_
  refine c_call (q := 48) wk_RX0_25 (k8 136 _ shl_136 shl_137 shl_138) (Nat.le_of_ble_eq_true rfl) ⟨(Nat.le_of_ble_eq_true rfl), (Nat.le_of_ble_eq_true rfl)⟩ (Nat.le_of_ble_eq_true rfl) dX0_init_45 rfl ?_
  refine c_aast (q := 49) (k := 29) (N := 41) (v := 136) (t := 48) (tk_at (i := 48) shl_48 (by decide)) (tk_at (i := 136) shl_136 (by decide)) (by decide) (by decide) (by decide) dX0_init_48 rfl ?_
  refine tj_iinc (q := 52) (v := 30) dX0_init_49 rfl (pl := 0) rfl (by decide) (by decide) rfl ?_
  refine tj_goto (q := 30) dX0_init_52 (by decide) ?_
  refine tj_iload_n (q := 31) dX0_init_30 rfl (i := 1) rfl (pl := 0) rfl ?_
  refine tj_bipush (q := 33) (v := 40) dX0_init_31 rfl (by decide) ?_
  refine c_gtN (tgt := 55) (q := 36) (by decide) dX0_init_33 (by decide) rfl ?_
  refine tj_aload_n (q := 37) dX0_init_36 rfl (i := 0) rfl (pl := 1) rfl ?_
  refine tj_getR (q := 40) (j := 48) (tk_at (i := 47) shl_47 (by decide)) rfl fok_0_0 wl_RX0_11 dX0_init_37 rfl ?_
  refine tj_iload_n (q := 41) dX0_init_40 rfl (i := 1) rfl (pl := 0) rfl ?_
  refine c_new (q := 44) (ci := 8) rfl iX8 tok_8 dok_8 rfl shl_139 wn_RX0_9 wn2_8 wn3_8 (Nat.le_of_ble_eq_true rfl) (Nat.le_of_ble_eq_true rfl) dX0_init_41 rfl ?_
  refine tj_dup (q := 45) dX0_init_44 rfl rfl ?_
  refine c_call (q := 48) wk_RX0_25 (k8 139 _ shl_139 shl_140 shl_141) (Nat.le_of_ble_eq_true rfl) ⟨(Nat.le_of_ble_eq_true rfl), (Nat.le_of_ble_eq_true rfl)⟩ (Nat.le_of_ble_eq_true rfl) dX0_init_45 rfl ?_
  refine c_aast (q := 49) (k := 30) (N := 41) (v := 139) (t := 48) (tk_at (i := 48) shl_48 (by decide)) (tk_at (i := 139) shl_139 (by decide)) (by decide) (by decide) (by decide) dX0_init_48 rfl ?_
  refine tj_iinc (q := 52) (v := 31) dX0_init_49 rfl (pl := 0) rfl (by decide) (by decide) rfl ?_
  refine tj_goto (q := 30) dX0_init_52 (by decide) ?_
  refine tj_iload_n (q := 31) dX0_init_30 rfl (i := 1) rfl (pl := 0) rfl ?_
  refine tj_bipush (q := 33) (v := 40) dX0_init_31 rfl (by decide) ?_
  refine c_gtN (tgt := 55) (q := 36) (by decide) dX0_init_33 (by decide) rfl ?_
  refine tj_aload_n (q := 37) dX0_init_36 rfl (i := 0) rfl (pl := 1) rfl ?_
  refine tj_getR (q := 40) (j := 48) (tk_at (i := 47) shl_47 (by decide)) rfl fok_0_0 wl_RX0_11 dX0_init_37 rfl ?_
  refine tj_iload_n (q := 41) dX0_init_40 rfl (i := 1) rfl (pl := 0) rfl ?_
  refine c_new (q := 44) (ci := 8) rfl iX8 tok_8 dok_8 rfl shl_142 wn_RX0_9 wn2_8 wn3_8 (Nat.le_of_ble_eq_true rfl) (Nat.le_of_ble_eq_true rfl) dX0_init_41 rfl ?_
  refine tj_dup (q := 45) dX0_init_44 rfl rfl ?_
  refine c_call (q := 48) wk_RX0_25 (k8 142 _ shl_142 shl_143 shl_144) (Nat.le_of_ble_eq_true rfl) ⟨(Nat.le_of_ble_eq_true rfl), (Nat.le_of_ble_eq_true rfl)⟩ (Nat.le_of_ble_eq_true rfl) dX0_init_45 rfl ?_
  refine c_aast (q := 49) (k := 31) (N := 41) (v := 142) (t := 48) (tk_at (i := 48) shl_48 (by decide)) (tk_at (i := 142) shl_142 (by decide)) (by decide) (by decide) (by decide) dX0_init_48 rfl ?_
  refine tj_iinc (q := 52) (v := 32) dX0_init_49 rfl (pl := 0) rfl (by decide) (by decide) rfl ?_
  refine tj_goto (q := 30) dX0_init_52 (by decide) ?_
  refine tj_iload_n (q := 31) dX0_init_30 rfl (i := 1) rfl (pl := 0) rfl ?_
  refine tj_bipush (q := 33) (v := 40) dX0_init_31 rfl (by decide) ?_
  refine c_gtN (tgt := 55) (q := 36) (by decide) dX0_init_33 (by decide) rfl ?_
  refine tj_aload_n (q := 37) dX0_init_36 rfl (i := 0) rfl (pl := 1) rfl ?_
  refine tj_getR (q := 40) (j := 48) (tk_at (i := 47) shl_47 (by decide)) rfl fok_0_0 wl_RX0_11 dX0_init_37 rfl ?_
  refine tj_iload_n (q := 41) dX0_init_40 rfl (i := 1) rfl (pl := 0) rfl ?_
  refine c_new (q := 44) (ci := 8) rfl iX8 tok_8 dok_8 rfl shl_145 wn_RX0_9 wn2_8 wn3_8 (Nat.le_of_ble_eq_true rfl) (Nat.le_of_ble_eq_true rfl) dX0_init_41 rfl ?_
  refine tj_dup (q := 45) dX0_init_44 rfl rfl ?_
  refine c_call (q := 48) wk_RX0_25 (k8 145 _ shl_145 shl_146 shl_147) (Nat.le_of_ble_eq_true rfl) ⟨(Nat.le_of_ble_eq_true rfl), (Nat.le_of_ble_eq_true rfl)⟩ (Nat.le_of_ble_eq_true rfl) dX0_init_45 rfl ?_
  refine c_aast (q := 49) (k := 32) (N := 41) (v := 145) (t := 48) (tk_at (i := 48) shl_48 (by decide)) (tk_at (i := 145) shl_145 (by decide)) (by decide) (by decide) (by decide) dX0_init_48 rfl ?_
  refine tj_iinc (q := 52) (v := 33) dX0_init_49 rfl (pl := 0) rfl (by decide) (by decide) rfl ?_
  refine tj_goto (q := 30) dX0_init_52 (by decide) ?_
  refine tj_iload_n (q := 31) dX0_init_30 rfl (i := 1) rfl (pl := 0) rfl ?_
  refine tj_bipush (q := 33) (v := 40) dX0_init_31 rfl (by decide) ?_
  refine c_gtN (tgt := 55) (q := 36) (by decide) dX0_init_33 (by decide) rfl ?_
  refine tj_aload_n (q := 37) dX0_init_36 rfl (i := 0) rfl (pl := 1) rfl ?_
  refine tj_getR (q := 40) (j := 48) (tk_at (i := 47) shl_47 (by decide)) rfl fok_0_0 wl_RX0_11 dX0_init_37 rfl ?_
  refine tj_iload_n (q := 41) dX0_init_40 rfl (i := 1) rfl (pl := 0) rfl ?_
  refine c_new (q := 44) (ci := 8) rfl iX8 tok_8 dok_8 rfl shl_148 wn_RX0_9 wn2_8 wn3_8 (Nat.le_of_ble_eq_true rfl) (Nat.le_of_ble_eq_true rfl) dX0_init_41 rfl ?_
  refine tj_dup (q := 45) dX0_init_44 rfl rfl ?_
  refine c_call (q := 48) wk_RX0_25 (k8 148 _ shl_148 shl_149 shl_150) (Nat.le_of_ble_eq_true rfl) ⟨(Nat.le_of_ble_eq_true rfl), (Nat.le_of_ble_eq_true rfl)⟩ (Nat.le_of_ble_eq_true rfl) dX0_init_45 rfl ?_
  refine c_aast (q := 49) (k := 33) (N := 41) (v := 148) (t := 48) (tk_at (i := 48) shl_48 (by decide)) (tk_at (i := 148) shl_148 (by decide)) (by decide) (by decide) (by decide) dX0_init_48 rfl ?_
  refine tj_iinc (q := 52) (v := 34) dX0_init_49 rfl (pl := 0) rfl (by decide) (by decide) rfl ?_
  refine tj_goto (q := 30) dX0_init_52 (by decide) ?_
  refine tj_iload_n (q := 31) dX0_init_30 rfl (i := 1) rfl (pl := 0) rfl ?_
  refine tj_bipush (q := 33) (v := 40) dX0_init_31 rfl (by decide) ?_
  refine c_gtN (tgt := 55) (q := 36) (by decide) dX0_init_33 (by decide) rfl ?_
  refine tj_aload_n (q := 37) dX0_init_36 rfl (i := 0) rfl (pl := 1) rfl ?_
  refine tj_getR (q := 40) (j := 48) (tk_at (i := 47) shl_47 (by decide)) rfl fok_0_0 wl_RX0_11 dX0_init_37 rfl ?_
  refine tj_iload_n (q := 41) dX0_init_40 rfl (i := 1) rfl (pl := 0) rfl ?_
  refine c_new (q := 44) (ci := 8) rfl iX8 tok_8 dok_8 rfl shl_151 wn_RX0_9 wn2_8 wn3_8 (Nat.le_of_ble_eq_true rfl) (Nat.le_of_ble_eq_true rfl) dX0_init_41 rfl ?_
  refine tj_dup (q := 45) dX0_init_44 rfl rfl ?_
  refine c_call (q := 48) wk_RX0_25 (k8 151 _ shl_151 shl_152 shl_153) (Nat.le_of_ble_eq_true rfl) ⟨(Nat.le_of_ble_eq_true rfl), (Nat.le_of_ble_eq_true rfl)⟩ (Nat.le_of_ble_eq_true rfl) dX0_init_45 rfl ?_
  refine c_aast (q := 49) (k := 34) (N := 41) (v := 151) (t := 48) (tk_at (i := 48) shl_48 (by decide)) (tk_at (i := 151) shl_151 (by decide)) (by decide) (by decide) (by decide) dX0_init_48 rfl ?_
  refine tj_iinc (q := 52) (v := 35) dX0_init_49 rfl (pl := 0) rfl (by decide) (by decide) rfl ?_
  refine tj_goto (q := 30) dX0_init_52 (by decide) ?_
  refine tj_iload_n (q := 31) dX0_init_30 rfl (i := 1) rfl (pl := 0) rfl ?_
  refine tj_bipush (q := 33) (v := 40) dX0_init_31 rfl (by decide) ?_
  refine c_gtN (tgt := 55) (q := 36) (by decide) dX0_init_33 (by decide) rfl ?_
  refine tj_aload_n (q := 37) dX0_init_36 rfl (i := 0) rfl (pl := 1) rfl ?_
  refine tj_getR (q := 40) (j := 48) (tk_at (i := 47) shl_47 (by decide)) rfl fok_0_0 wl_RX0_11 dX0_init_37 rfl ?_
  refine tj_iload_n (q := 41) dX0_init_40 rfl (i := 1) rfl (pl := 0) rfl ?_
  refine c_new (q := 44) (ci := 8) rfl iX8 tok_8 dok_8 rfl shl_154 wn_RX0_9 wn2_8 wn3_8 (Nat.le_of_ble_eq_true rfl) (Nat.le_of_ble_eq_true rfl) dX0_init_41 rfl ?_
  refine tj_dup (q := 45) dX0_init_44 rfl rfl ?_
  refine c_call (q := 48) wk_RX0_25 (k8 154 _ shl_154 shl_155 shl_156) (Nat.le_of_ble_eq_true rfl) ⟨(Nat.le_of_ble_eq_true rfl), (Nat.le_of_ble_eq_true rfl)⟩ (Nat.le_of_ble_eq_true rfl) dX0_init_45 rfl ?_
  refine c_aast (q := 49) (k := 35) (N := 41) (v := 154) (t := 48) (tk_at (i := 48) shl_48 (by decide)) (tk_at (i := 154) shl_154 (by decide)) (by decide) (by decide) (by decide) dX0_init_48 rfl ?_
  refine tj_iinc (q := 52) (v := 36) dX0_init_49 rfl (pl := 0) rfl (by decide) (by decide) rfl ?_
  refine tj_goto (q := 30) dX0_init_52 (by decide) ?_
  refine tj_iload_n (q := 31) dX0_init_30 rfl (i := 1) rfl (pl := 0) rfl ?_
  refine tj_bipush (q := 33) (v := 40) dX0_init_31 rfl (by decide) ?_
  refine c_gtN (tgt := 55) (q := 36) (by decide) dX0_init_33 (by decide) rfl ?_
  refine tj_aload_n (q := 37) dX0_init_36 rfl (i := 0) rfl (pl := 1) rfl ?_
  refine tj_getR (q := 40) (j := 48) (tk_at (i := 47) shl_47 (by decide)) rfl fok_0_0 wl_RX0_11 dX0_init_37 rfl ?_
  refine tj_iload_n (q := 41) dX0_init_40 rfl (i := 1) rfl (pl := 0) rfl ?_
  refine c_new (q := 44) (ci := 8) rfl iX8 tok_8 dok_8 rfl shl_157 wn_RX0_9 wn2_8 wn3_8 (Nat.le_of_ble_eq_true rfl) (Nat.le_of_ble_eq_true rfl) dX0_init_41 rfl ?_
  refine tj_dup (q := 45) dX0_init_44 rfl rfl ?_
  refine c_call (q := 48) wk_RX0_25 (k8 157 _ shl_157 shl_158 shl_159) (Nat.le_of_ble_eq_true rfl) ⟨(Nat.le_of_ble_eq_true rfl), (Nat.le_of_ble_eq_true rfl)⟩ (Nat.le_of_ble_eq_true rfl) dX0_init_45 rfl ?_
  refine c_aast (q := 49) (k := 36) (N := 41) (v := 157) (t := 48) (tk_at (i := 48) shl_48 (by decide)) (tk_at (i := 157) shl_157 (by decide)) (by decide) (by decide) (by decide) dX0_init_48 rfl ?_
  refine tj_iinc (q := 52) (v := 37) dX0_init_49 rfl (pl := 0) rfl (by decide) (by decide) rfl ?_
  refine tj_goto (q := 30) dX0_init_52 (by decide) ?_
  refine tj_iload_n (q := 31) dX0_init_30 rfl (i := 1) rfl (pl := 0) rfl ?_
  refine tj_bipush (q := 33) (v := 40) dX0_init_31 rfl (by decide) ?_
  refine c_gtN (tgt := 55) (q := 36) (by decide) dX0_init_33 (by decide) rfl ?_
  refine tj_aload_n (q := 37) dX0_init_36 rfl (i := 0) rfl (pl := 1) rfl ?_
  refine tj_getR (q := 40) (j := 48) (tk_at (i := 47) shl_47 (by decide)) rfl fok_0_0 wl_RX0_11 dX0_init_37 rfl ?_
  refine tj_iload_n (q := 41) dX0_init_40 rfl (i := 1) rfl (pl := 0) rfl ?_
  refine c_new (q := 44) (ci := 8) rfl iX8 tok_8 dok_8 rfl shl_160 wn_RX0_9 wn2_8 wn3_8 (Nat.le_of_ble_eq_true rfl) (Nat.le_of_ble_eq_true rfl) dX0_init_41 rfl ?_
  refine tj_dup (q := 45) dX0_init_44 rfl rfl ?_
  refine c_call (q := 48) wk_RX0_25 (k8 160 _ shl_160 shl_161 shl_162) (Nat.le_of_ble_eq_true rfl) ⟨(Nat.le_of_ble_eq_true rfl), (Nat.le_of_ble_eq_true rfl)⟩ (Nat.le_of_ble_eq_true rfl) dX0_init_45 rfl ?_
  refine c_aast (q := 49) (k := 37) (N := 41) (v := 160) (t := 48) (tk_at (i := 48) shl_48 (by decide)) (tk_at (i := 160) shl_160 (by decide)) (by decide) (by decide) (by decide) dX0_init_48 rfl ?_
  refine tj_iinc (q := 52) (v := 38) dX0_init_49 rfl (pl := 0) rfl (by decide) (by decide) rfl ?_
  refine tj_goto (q := 30) dX0_init_52 (by decide) ?_
  refine tj_iload_n (q := 31) dX0_init_30 rfl (i := 1) rfl (pl := 0) rfl ?_
  refine tj_bipush (q := 33) (v := 40) dX0_init_31 rfl (by decide) ?_
  refine c_gtN (tgt := 55) (q := 36) (by decide) dX0_init_33 (by decide) rfl ?_
  refine tj_aload_n (q := 37) dX0_init_36 rfl (i := 0) rfl (pl := 1) rfl ?_
  refine tj_getR (q := 40) (j := 48) (tk_at (i := 47) shl_47 (by decide)) rfl fok_0_0 wl_RX0_11 dX0_init_37 rfl ?_
  refine tj_iload_n (q := 41) dX0_init_40 rfl (i := 1) rfl (pl := 0) rfl ?_
  refine c_new (q := 44) (ci := 8) rfl iX8 tok_8 dok_8 rfl shl_163 wn_RX0_9 wn2_8 wn3_8 (Nat.le_of_ble_eq_true rfl) (Nat.le_of_ble_eq_true rfl) dX0_init_41 rfl ?_
  refine tj_dup (q := 45) dX0_init_44 rfl rfl ?_
  refine c_call (q := 48) wk_RX0_25 (k8 163 _ shl_163 shl_164 shl_165) (Nat.le_of_ble_eq_true rfl) ⟨(Nat.le_of_ble_eq_true rfl), (Nat.le_of_ble_eq_true rfl)⟩ (Nat.le_of_ble_eq_true rfl) dX0_init_45 rfl ?_
  refine c_aast (q := 49) (k := 38) (N := 41) (v := 163) (t := 48) (tk_at (i := 48) shl_48 (by decide)) (tk_at (i := 163) shl_163 (by decide)) (by decide) (by decide) (by decide) dX0_init_48 rfl ?_
  refine tj_iinc (q := 52) (v := 39) dX0_init_49 rfl (pl := 0) rfl (by decide) (by decide) rfl ?_
  refine tj_goto (q := 30) dX0_init_52 (by decide) ?_
  refine tj_iload_n (q := 31) dX0_init_30 rfl (i := 1) rfl (pl := 0) rfl ?_
  refine tj_bipush (q := 33) (v := 40) dX0_init_31 rfl (by decide) ?_
  refine c_gtN (tgt := 55) (q := 36) (by decide) dX0_init_33 (by decide) rfl ?_
  refine tj_aload_n (q := 37) dX0_init_36 rfl (i := 0) rfl (pl := 1) rfl ?_
  refine tj_getR (q := 40) (j := 48) (tk_at (i := 47) shl_47 (by decide)) rfl fok_0_0 wl_RX0_11 dX0_init_37 rfl ?_
  refine tj_iload_n (q := 41) dX0_init_40 rfl (i := 1) rfl (pl := 0) rfl ?_
  refine c_new (q := 44) (ci := 8) rfl iX8 tok_8 dok_8 rfl shl_166 wn_RX0_9 wn2_8 wn3_8 (Nat.le_of_ble_eq_true rfl) (Nat.le_of_ble_eq_true rfl) dX0_init_41 rfl ?_
  refine tj_dup (q := 45) dX0_init_44 rfl rfl ?_
  refine c_call (q := 48) wk_RX0_25 (k8 166 _ shl_166 shl_167 shl_168) (Nat.le_of_ble_eq_true rfl) ⟨(Nat.le_of_ble_eq_true rfl), (Nat.le_of_ble_eq_true rfl)⟩ (Nat.le_of_ble_eq_true rfl) dX0_init_45 rfl ?_
  refine c_aast (q := 49) (k := 39) (N := 41) (v := 166) (t := 48) (tk_at (i := 48) shl_48 (by decide)) (tk_at (i := 166) shl_166 (by decide)) (by decide) (by decide) (by decide) dX0_init_48 rfl ?_
  refine tj_iinc (q := 52) (v := 40) dX0_init_49 rfl (pl := 0) rfl (by decide) (by decide) rfl ?_
  refine tj_goto (q := 30) dX0_init_52 (by decide) ?_
  refine tj_iload_n (q := 31) dX0_init_30 rfl (i := 1) rfl (pl := 0) rfl ?_
  refine tj_bipush (q := 33) (v := 40) dX0_init_31 rfl (by decide) ?_
  refine c_gtN (tgt := 55) (q := 36) (by decide) dX0_init_33 (by decide) rfl ?_
  refine tj_aload_n (q := 37) dX0_init_36 rfl (i := 0) rfl (pl := 1) rfl ?_
  refine tj_getR (q := 40) (j := 48) (tk_at (i := 47) shl_47 (by decide)) rfl fok_0_0 wl_RX0_11 dX0_init_37 rfl ?_
  refine tj_iload_n (q := 41) dX0_init_40 rfl (i := 1) rfl (pl := 0) rfl ?_
  refine c_new (q := 44) (ci := 8) rfl iX8 tok_8 dok_8 rfl shl_169 wn_RX0_9 wn2_8 wn3_8 (Nat.le_of_ble_eq_true rfl) (Nat.le_of_ble_eq_true rfl) dX0_init_41 rfl ?_
  refine tj_dup (q := 45) dX0_init_44 rfl rfl ?_
  refine c_call (q := 48) wk_RX0_25 (k8 169 _ shl_169 shl_170 shl_171) (Nat.le_of_ble_eq_true rfl) ⟨(Nat.le_of_ble_eq_true rfl), (Nat.le_of_ble_eq_true rfl)⟩ (Nat.le_of_ble_eq_true rfl) dX0_init_45 rfl ?_
  refine c_aast (q := 49) (k := 40) (N := 41) (v := 169) (t := 48) (tk_at (i := 48) shl_48 (by decide)) (tk_at (i := 169) shl_169 (by decide)) (by decide) (by decide) (by decide) dX0_init_48 rfl ?_
  refine tj_iinc (q := 52) (v := 41) dX0_init_49 rfl (pl := 0) rfl (by decide) (by decide) rfl ?_
  refine tj_goto (q := 30) dX0_init_52 (by decide) ?_
  refine tj_iload_n (q := 31) dX0_init_30 rfl (i := 1) rfl (pl := 0) rfl ?_
  refine tj_bipush (q := 33) (v := 40) dX0_init_31 rfl (by decide) ?_
  refine c_gtY (tgt := 55) (by decide) dX0_init_33 (by decide) ?_
  exact tj_vret rfl rfl (Nat.le_of_ble_eq_true rfl) (Nat.le_of_ble_eq_true rfl) dX0_init_55

theorem dX11_init_0 : decode cX11_init 0 = .ok (.aload_n 0, 1) := by decide +kernel
theorem dX11_init_1 : decode cX11_init 1 = .ok (.invokespecial 1, 3) := by decide +kernel
theorem dX11_init_4 : decode cX11_init 4 = .ok (.aload_n 0, 1) := by decide +kernel
theorem dX11_init_5 : decode cX11_init 5 = .ok (.new 7, 3) := by decide +kernel
theorem dX11_init_8 : decode cX11_init 8 = .ok (.dup, 1) := by decide +kernel
theorem dX11_init_9 : decode cX11_init 9 = .ok (.invokespecial 9, 3) := by decide +kernel
theorem dX11_init_12 : decode cX11_init 12 = .ok (.putfield 10, 3) := by decide +kernel
theorem dX11_init_15 : decode cX11_init 15 = .ok (.aload_n 0, 1) := by decide +kernel
theorem dX11_init_16 : decode cX11_init 16 = .ok (.aload_n 0, 1) := by decide +kernel
theorem dX11_init_17 : decode cX11_init 17 = .ok (.getfield 10, 3) := by decide +kernel
theorem dX11_init_20 : decode cX11_init 20 = .ok (.getfield 16, 3) := by decide +kernel
theorem dX11_init_23 : decode cX11_init 23 = .ok (.putfield 20, 3) := by decide +kernel
theorem dX11_init_26 : decode cX11_init 26 = .ok (.aload_n 0, 1) := by decide +kernel
theorem dX11_init_27 : decode cX11_init 27 = .ok (.new 23, 3) := by decide +kernel
theorem dX11_init_30 : decode cX11_init 30 = .ok (.dup, 1) := by decide +kernel
theorem dX11_init_31 : decode cX11_init 31 = .ok (.invokespecial 25, 3) := by decide +kernel
theorem dX11_init_34 : decode cX11_init 34 = .ok (.putfield 26, 3) := by decide +kernel
theorem dX11_init_37 : decode cX11_init 37 = .ok (.aload_n 0, 1) := by decide +kernel
theorem dX11_init_38 : decode cX11_init 38 = .ok (.new 23, 3) := by decide +kernel
theorem dX11_init_41 : decode cX11_init 41 = .ok (.dup, 1) := by decide +kernel
theorem dX11_init_42 : decode cX11_init 42 = .ok (.invokespecial 25, 3) := by decide +kernel
theorem dX11_init_45 : decode cX11_init 45 = .ok (.putfield 30, 3) := by decide +kernel
theorem dX11_init_48 : decode cX11_init 48 = .ok (.aload_n 0, 1) := by decide +kernel
theorem dX11_init_49 : decode cX11_init 49 = .ok (.new 33, 3) := by decide +kernel
theorem dX11_init_52 : decode cX11_init 52 = .ok (.dup, 1) := by decide +kernel
theorem dX11_init_53 : decode cX11_init 53 = .ok (.invokespecial 35, 3) := by decide +kernel
theorem dX11_init_56 : decode cX11_init 56 = .ok (.putfield 36, 3) := by decide +kernel
theorem dX11_init_59 : decode cX11_init 59 = .ok (.aload_n 0, 1) := by decide +kernel
theorem dX11_init_60 : decode cX11_init 60 = .ok (.new 40, 3) := by decide +kernel
theorem dX11_init_63 : decode cX11_init 63 = .ok (.dup, 1) := by decide +kernel
theorem dX11_init_64 : decode cX11_init 64 = .ok (.invokespecial 42, 3) := by decide +kernel
theorem dX11_init_67 : decode cX11_init 67 = .ok (.putfield 43, 3) := by decide +kernel
theorem dX11_init_70 : decode cX11_init 70 = .ok (.aload_n 0, 1) := by decide +kernel
theorem dX11_init_71 : decode cX11_init 71 = .ok (.iconst 3, 1) := by decide +kernel
theorem dX11_init_72 : decode cX11_init 72 = .ok (.anewarray 33, 3) := by decide +kernel
theorem dX11_init_75 : decode cX11_init 75 = .ok (.putfield 47, 3) := by decide +kernel
theorem dX11_init_78 : decode cX11_init 78 = .ok (.aload_n 0, 1) := by decide +kernel
theorem dX11_init_79 : decode cX11_init 79 = .ok (.iconst 0, 1) := by decide +kernel
theorem dX11_init_80 : decode cX11_init 80 = .ok (.putfield 51, 3) := by decide +kernel
theorem dX11_init_83 : decode cX11_init 83 = .ok (.aload_n 0, 1) := by decide +kernel
theorem dX11_init_84 : decode cX11_init 84 = .ok (.bipush 30, 2) := by decide +kernel
theorem dX11_init_86 : decode cX11_init 86 = .ok (.newarray .int, 2) := by decide +kernel
theorem dX11_init_88 : decode cX11_init 88 = .ok (.putfield 55, 3) := by decide +kernel
theorem dX11_init_91 : decode cX11_init 91 = .ok (.aload_n 0, 1) := by decide +kernel
theorem dX11_init_92 : decode cX11_init 92 = .ok (.iconst 0, 1) := by decide +kernel
theorem dX11_init_93 : decode cX11_init 93 = .ok (.putfield 59, 3) := by decide +kernel
theorem dX11_init_96 : decode cX11_init 96 = .ok (.aload_n 0, 1) := by decide +kernel
theorem dX11_init_97 : decode cX11_init 97 = .ok (.new 62, 3) := by decide +kernel
theorem dX11_init_100 : decode cX11_init 100 = .ok (.dup, 1) := by decide +kernel
theorem dX11_init_101 : decode cX11_init 101 = .ok (.invokespecial 64, 3) := by decide +kernel
theorem dX11_init_104 : decode cX11_init 104 = .ok (.putfield 65, 3) := by decide +kernel
theorem dX11_init_107 : decode cX11_init 107 = .ok (.aload_n 0, 1) := by decide +kernel
theorem dX11_init_108 : decode cX11_init 108 = .ok (.iconst 0, 1) := by decide +kernel
theorem dX11_init_109 : decode cX11_init 109 = .ok (.putfield 69, 3) := by decide +kernel
theorem dX11_init_112 : decode cX11_init 112 = .ok (.aload_n 0, 1) := by decide +kernel
theorem dX11_init_113 : decode cX11_init 113 = .ok (.new 72, 3) := by decide +kernel
theorem dX11_init_116 : decode cX11_init 116 = .ok (.dup, 1) := by decide +kernel
theorem dX11_init_117 : decode cX11_init 117 = .ok (.invokespecial 74, 3) := by decide +kernel
theorem dX11_init_120 : decode cX11_init 120 = .ok (.putfield 75, 3) := by decide +kernel
theorem dX11_init_123 : decode cX11_init 123 = .ok (.aload_n 0, 1) := by decide +kernel
theorem dX11_init_124 : decode cX11_init 124 = .ok (.new 79, 3) := by decide +kernel
theorem dX11_init_127 : decode cX11_init 127 = .ok (.dup, 1) := by decide +kernel
theorem dX11_init_128 : decode cX11_init 128 = .ok (.invokespecial 81, 3) := by decide +kernel
theorem dX11_init_131 : decode cX11_init 131 = .ok (.putfield 82, 3) := by decide +kernel
theorem dX11_init_134 : decode cX11_init 134 = .ok (.aload_n 0, 1) := by decide +kernel
theorem dX11_init_135 : decode cX11_init 135 = .ok (.new 86, 3) := by decide +kernel
theorem dX11_init_138 : decode cX11_init 138 = .ok (.dup, 1) := by decide +kernel
theorem dX11_init_139 : decode cX11_init 139 = .ok (.invokespecial 88, 3) := by decide +kernel
theorem dX11_init_142 : decode cX11_init 142 = .ok (.putfield 89, 3) := by decide +kernel
theorem dX11_init_145 : decode cX11_init 145 = .ok (.aload_n 0, 1) := by decide +kernel
theorem dX11_init_146 : decode cX11_init 146 = .ok (.new 33, 3) := by decide +kernel
theorem dX11_init_149 : decode cX11_init 149 = .ok (.dup, 1) := by decide +kernel
theorem dX11_init_150 : decode cX11_init 150 = .ok (.invokespecial 35, 3) := by decide +kernel
theorem dX11_init_153 : decode cX11_init 153 = .ok (.putfield 93, 3) := by decide +kernel
theorem dX11_init_156 : decode cX11_init 156 = .ok (.iconst 0, 1) := by decide +kernel
theorem dX11_init_157 : decode cX11_init 157 = .ok (.istore_n 1, 1) := by decide +kernel
theorem dX11_init_158 : decode cX11_init 158 = .ok (.iload_n 1, 1) := by decide +kernel
theorem dX11_init_159 : decode cX11_init 159 = .ok (.iconst 3, 1) := by decide +kernel
theorem dX11_init_160 : decode cX11_init 160 = .ok (.if_icmp .ge 22, 3) := by decide +kernel
theorem dX11_init_163 : decode cX11_init 163 = .ok (.aload_n 0, 1) := by decide +kernel
theorem dX11_init_164 : decode cX11_init 164 = .ok (.getfield 47, 3) := by decide +kernel
theorem dX11_init_167 : decode cX11_init 167 = .ok (.iload_n 1, 1) := by decide +kernel
theorem dX11_init_168 : decode cX11_init 168 = .ok (.new 33, 3) := by decide +kernel
theorem dX11_init_171 : decode cX11_init 171 = .ok (.dup, 1) := by decide +kernel
theorem dX11_init_172 : decode cX11_init 172 = .ok (.invokespecial 35, 3) := by decide +kernel
theorem dX11_init_175 : decode cX11_init 175 = .ok (.aastore, 1) := by decide +kernel
theorem dX11_init_176 : decode cX11_init 176 = .ok (.iinc 1 1, 3) := by decide +kernel
theorem dX11_init_179 : decode cX11_init 179 = .ok (.goto (-21), 3) := by decide +kernel
theorem dX11_init_182 : decode cX11_init 182 = .ok (.return_, 1) := by decide +kernel
theorem wo_RX11_1 : Cond.methodLink RX11 1 objectInit ∈ TB := tbm 161 (by decide +kernel) (by decide +kernel)
theorem wn_RX11_7 : Cond.classLink RX11 7 RX4 ∈ TB := tbm 164 (by decide +kernel) (by decide +kernel)
theorem wn2_4 : Cond.instantiable RX4 10 ∈ TB := tbm 165 (by decide +kernel) (by decide +kernel)
theorem wn3_4 : Cond.initialized RX4 ∈ TB := tbm 135 (by decide +kernel) (by decide +kernel)
theorem wk_RX11_9 : Ic RX11 9 yX4_init cX4_init 1 := ⟨Or.inr ⟨"BetterThieves", by decide +kernel⟩, tbm 167 (by decide +kernel) (by decide +kernel), tbm 135 (by decide +kernel) (by decide +kernel), tbm 168 (by decide +kernel) (by decide +kernel), rfl, by decide +kernel, by decide⟩
theorem wl_RX11_10 : Cond.fieldLink RX11 10 (TX11 0).1 (TX11 0).2.1 (TX11 0).2.2.1 ∈ TB := tbm 613 (by decide +kernel) (by decide +kernel)
theorem fpf_11_0 : Fpk TX11 0 true (.object "BetterThieves$Reader") := ⟨rfl, by decide +kernel⟩
theorem wl_RX11_16 : Cond.fieldLink RX11 16 (TX4 1).1 (TX4 1).2.1 (TX4 1).2.2.1 ∈ TB := tbm 223 (by decide +kernel) (by decide +kernel)
theorem fpf_11_1 : Fpk TX11 1 true (.object "BetterThieves$Tokens") := ⟨rfl, by decide +kernel⟩
theorem wn_RX11_23 : Cond.classLink RX11 23 RX1 ∈ TB := tbm 254 (by decide +kernel) (by decide +kernel)
theorem wn2_1 : Cond.instantiable RX1 16 ∈ TB := tbm 255 (by decide +kernel) (by decide +kernel)
theorem wn3_1 : Cond.initialized RX1 ∈ TB := tbm 138 (by decide +kernel) (by decide +kernel)
theorem wk_RX11_25 : Ic RX11 25 yX1_init cX1_init 1 := ⟨Or.inr ⟨"BetterThieves", by decide +kernel⟩, tbm 257 (by decide +kernel) (by decide +kernel), tbm 138 (by decide +kernel) (by decide +kernel), tbm 258 (by decide +kernel) (by decide +kernel), rfl, by decide +kernel, by decide⟩
theorem wl_RX11_30 : Cond.fieldLink RX11 30 (TX11 3).1 (TX11 3).2.1 (TX11 3).2.2.1 ∈ TB := tbm 616 (by decide +kernel) (by decide +kernel)
theorem wn_RX11_33 : Cond.classLink RX11 33 RX8 ∈ TB := tbm 373 (by decide +kernel) (by decide +kernel)
theorem wk_RX11_35 : Ic RX11 35 yX8_init cX8_init 1 := ⟨Or.inr ⟨"BetterThieves", by decide +kernel⟩, tbm 376 (by decide +kernel) (by decide +kernel), tbm 140 (by decide +kernel) (by decide +kernel), tbm 377 (by decide +kernel) (by decide +kernel), rfl, by decide +kernel, by decide⟩
theorem fpf_11_4 : Fpk TX11 4 true (.object "BetterThieves$State") := ⟨rfl, by decide +kernel⟩
theorem wn_RX11_40 : Cond.classLink RX11 40 RX0 ∈ TB := tbm 408 (by decide +kernel) (by decide +kernel)
theorem wn2_0 : Cond.instantiable RX0 4 ∈ TB := tbm 409 (by decide +kernel) (by decide +kernel)
theorem wn3_0 : Cond.initialized RX0 ∈ TB := tbm 141 (by decide +kernel) (by decide +kernel)
theorem wk_RX11_42 : Ic RX11 42 yX0_init cX0_init 2 := ⟨Or.inl (tbm 410 (by decide +kernel) (by decide +kernel)), tbm 411 (by decide +kernel) (by decide +kernel), tbm 141 (by decide +kernel) (by decide +kernel), tbm 412 (by decide +kernel) (by decide +kernel), rfl, by decide +kernel, by decide⟩
theorem fpf_11_5 : Fpk TX11 5 true (.object "BetterThieves$Acts") := ⟨rfl, by decide +kernel⟩
theorem fpf_11_6 : Fpk TX11 6 true (.array (.object "BetterThieves$State")) := ⟨rfl, by decide +kernel⟩
theorem fpf_11_8 : Fpk TX11 8 true (.array .int) := ⟨rfl, by decide +kernel⟩
theorem wn_RX11_62 : Cond.classLink RX11 62 RX5 ∈ TB := tbm 432 (by decide +kernel) (by decide +kernel)
theorem wn2_5 : Cond.instantiable RX5 15 ∈ TB := tbm 433 (by decide +kernel) (by decide +kernel)
theorem wn3_5 : Cond.initialized RX5 ∈ TB := tbm 142 (by decide +kernel) (by decide +kernel)
theorem wk_RX11_64 : Ic RX11 64 yX5_init cX5_init 1 := ⟨Or.inr ⟨"BetterThieves", by decide +kernel⟩, tbm 435 (by decide +kernel) (by decide +kernel), tbm 142 (by decide +kernel) (by decide +kernel), tbm 436 (by decide +kernel) (by decide +kernel), rfl, by decide +kernel, by decide⟩
theorem fpf_11_10 : Fpk TX11 10 true (.object "BetterThieves$Reports") := ⟨rfl, by decide +kernel⟩
theorem wn_RX11_72 : Cond.classLink RX11 72 RX9 ∈ TB := tbm 492 (by decide +kernel) (by decide +kernel)
theorem wk_RX11_74 : Ic RX11 74 yX9_init cX9_init 1 := ⟨Or.inr ⟨"BetterThieves", by decide +kernel⟩, tbm 495 (by decide +kernel) (by decide +kernel), tbm 143 (by decide +kernel) (by decide +kernel), tbm 496 (by decide +kernel) (by decide +kernel), rfl, by decide +kernel, by decide⟩
theorem fpf_11_12 : Fpk TX11 12 true (.object "BetterThieves$Swaps") := ⟨rfl, by decide +kernel⟩
theorem wn_RX11_79 : Cond.classLink RX11 79 RX6 ∈ TB := tbm 545 (by decide +kernel) (by decide +kernel)
theorem wn2_6 : Cond.instantiable RX6 5 ∈ TB := tbm 546 (by decide +kernel) (by decide +kernel)
theorem wn3_6 : Cond.initialized RX6 ∈ TB := tbm 144 (by decide +kernel) (by decide +kernel)
theorem wk_RX11_81 : Ic RX11 81 yX6_init cX6_init 1 := ⟨Or.inr ⟨"BetterThieves", by decide +kernel⟩, tbm 548 (by decide +kernel) (by decide +kernel), tbm 144 (by decide +kernel) (by decide +kernel), tbm 549 (by decide +kernel) (by decide +kernel), rfl, by decide +kernel, by decide⟩
theorem fpf_11_13 : Fpk TX11 13 true (.object "BetterThieves$Rounds") := ⟨rfl, by decide +kernel⟩
theorem wn_RX11_86 : Cond.classLink RX11 86 RX7 ∈ TB := tbm 575 (by decide +kernel) (by decide +kernel)
theorem wn2_7 : Cond.instantiable RX7 9 ∈ TB := tbm 576 (by decide +kernel) (by decide +kernel)
theorem wn3_7 : Cond.initialized RX7 ∈ TB := tbm 145 (by decide +kernel) (by decide +kernel)
theorem wk_RX11_88 : Ic RX11 88 yX7_init cX7_init 1 := ⟨Or.inr ⟨"BetterThieves", by decide +kernel⟩, tbm 578 (by decide +kernel) (by decide +kernel), tbm 145 (by decide +kernel) (by decide +kernel), tbm 579 (by decide +kernel) (by decide +kernel), rfl, by decide +kernel, by decide⟩
theorem fpf_11_14 : Fpk TX11 14 true (.object "BetterThieves$Search") := ⟨rfl, by decide +kernel⟩
theorem fpf_11_15 : Fpk TX11 15 true (.object "BetterThieves$State") := ⟨rfl, by decide +kernel⟩
def cE11 (ρ : Rh_) : Rh_ :=
 (pR (cE8 230 (nwR (pR (cE8 227 (nwR (pR (cE8 224 (nwR (pR (cE8 221 (nwR (pR (cE7 (nwR (pR (cE6 (nwR (pR (cE9 183 (nwR (pI (pR (cE5 (nwR (pI (pR (nwR (pI (pR (nwR (pR (cE0 (nwR (pR (cE8 44 (nwR (pR (cE1 28 (nwR (pR (cE1 12 (nwR (pR (pR (cE4 (nwR ρ 1)) 0 0 1) 0 1 3) 12)) 0 2 12) 28)) 0 3 28) 44)) 0 4 44) 47)) 0 5 47) 172) 0 6 172) 0 7 (0 : Int32)) 173) 0 8 173) 0 9 (0 : Int32)) 174)) 0 10 174) 0 11 (0 : Int32)) 183)) 0 12 183) 192)) 0 13 192) 205)) 0 14 205) 221)) 0 15 221) 224)) 172 0 224) 227)) 172 1 227) 230)) 172 2 230)
set_option maxHeartbeats 4000000 in
set_option maxRecDepth 20000 in
theorem k11 (ρ : Rh_) : Rj l D cA h0 ad yX11_init cX11_init 2 none true 5 232 19836 (fun _ : Unit => (none, SHL.take 233, (cE11 ρ).1, (cE11 ρ).2)) [.ref (h0 + 0)] (SHL.take 1) ρ.1 ρ.2 (some ()) := by
  refine Rj.of (by decide) (fun _ => rfl) (Nat.le_of_ble_eq_true rfl) ?_
  refine tj_lv0 (lv' := [(0, .ref (h0 + 0))]) rfl ?_
  refine tj_aload_n (q := 1) dX11_init_0 rfl (i := 0) rfl (pl := 0) rfl ?_
  refine c_obj (q := 4) wo_RX11_1 wo_i wo_c dX11_init_1 rfl (Nat.le_of_ble_eq_true rfl) (Nat.le_of_ble_eq_true rfl) ?_
  refine tj_aload_n (q := 5) dX11_init_4 rfl (i := 0) rfl (pl := 0) rfl ?_
  refine c_new (q := 8) (ci := 4) rfl iX4 tok_4 dok_4 rfl shl_1 wn_RX11_7 wn2_4 wn3_4 (Nat.le_of_ble_eq_true rfl) (Nat.le_of_ble_eq_true rfl) dX11_init_5 rfl ?_
  refine tj_dup (q := 9) dX11_init_8 rfl rfl ?_
  refine c_call (q := 12) wk_RX11_9 (k4 _) (Nat.le_of_ble_eq_true rfl) ⟨(Nat.le_of_ble_eq_true rfl), (Nat.le_of_ble_eq_true rfl)⟩ (Nat.le_of_ble_eq_true rfl) dX11_init_9 rfl ?_
  refine c_putF (q := 15) (j := 1) (tk_at (i := 0) shl_0 (by decide)) fok_11_0 tok_11 fpf_11_0 wl_RX11_10 dX11_init_12 rfl rfl rfl rfl ?_
  refine tj_aload_n (q := 16) dX11_init_15 rfl (i := 0) rfl (pl := 0) rfl ?_
  refine tj_aload_n (q := 17) dX11_init_16 rfl (i := 0) rfl (pl := 0) rfl ?_
  refine tj_getR (q := 20) (j := 1) (tk_at (i := 0) shl_0 (by decide)) rfl fok_11_0 wl_RX11_10 dX11_init_17 rfl ?_
  refine tj_getR (q := 23) (j := 3) (tk_at (i := 1) shl_1 (by decide)) rfl fok_4_1 wl_RX11_16 dX11_init_20 rfl ?_
  refine c_putF (q := 26) (j := 3) (tk_at (i := 0) shl_0 (by decide)) fok_11_1 tok_11 fpf_11_1 wl_RX11_20 dX11_init_23 rfl rfl rfl rfl ?_
  refine tj_aload_n (q := 27) dX11_init_26 rfl (i := 0) rfl (pl := 0) rfl ?_
  refine c_new (q := 30) (ci := 1) rfl iX1 tok_1 dok_1 rfl shl_12 wn_RX11_23 wn2_1 wn3_1 (Nat.le_of_ble_eq_true rfl) (Nat.le_of_ble_eq_true rfl) dX11_init_27 rfl ?_
  refine tj_dup (q := 31) dX11_init_30 rfl rfl ?_
  refine c_call (q := 34) wk_RX11_25 (k1 12 _ shl_12 shl_13 shl_14 shl_15 shl_16 shl_17 shl_18 shl_19 shl_20 shl_21 shl_22 shl_23 shl_24 shl_25 shl_26 shl_27) (Nat.le_of_ble_eq_true rfl) ⟨(Nat.le_of_ble_eq_true rfl), (Nat.le_of_ble_eq_true rfl)⟩ (Nat.le_of_ble_eq_true rfl) dX11_init_31 rfl ?_
  refine c_putR (q := 37) (j := 12) (tk_at (i := 0) shl_0 (by decide)) fok_11_2 tok_11 fpk_11_2 wl_RX11_26 dX11_init_34 rfl rfl rfl ?_
  refine tj_aload_n (q := 38) dX11_init_37 rfl (i := 0) rfl (pl := 0) rfl ?_
  refine c_new (q := 41) (ci := 1) rfl iX1 tok_1 dok_1 rfl shl_28 wn_RX11_23 wn2_1 wn3_1 (Nat.le_of_ble_eq_true rfl) (Nat.le_of_ble_eq_true rfl) dX11_init_38 rfl ?_
  refine tj_dup (q := 42) dX11_init_41 rfl rfl ?_
  refine c_call (q := 45) wk_RX11_25 (k1 28 _ shl_28 shl_29 shl_30 shl_31 shl_32 shl_33 shl_34 shl_35 shl_36 shl_37 shl_38 shl_39 shl_40 shl_41 shl_42 shl_43) (Nat.le_of_ble_eq_true rfl) ⟨(Nat.le_of_ble_eq_true rfl), (Nat.le_of_ble_eq_true rfl)⟩ (Nat.le_of_ble_eq_true rfl) dX11_init_42 rfl ?_
  refine c_putR (q := 48) (j := 28) (tk_at (i := 0) shl_0 (by decide)) fok_11_3 tok_11 fpk_11_3 wl_RX11_30 dX11_init_45 rfl rfl rfl ?_
  refine tj_aload_n (q := 49) dX11_init_48 rfl (i := 0) rfl (pl := 0) rfl ?_
  refine c_new (q := 52) (ci := 8) rfl iX8 tok_8 dok_8 rfl shl_44 wn_RX11_33 wn2_8 wn3_8 (Nat.le_of_ble_eq_true rfl) (Nat.le_of_ble_eq_true rfl) dX11_init_49 rfl ?_
  refine tj_dup (q := 53) dX11_init_52 rfl rfl ?_
  refine c_call (q := 56) wk_RX11_35 (k8 44 _ shl_44 shl_45 shl_46) (Nat.le_of_ble_eq_true rfl) ⟨(Nat.le_of_ble_eq_true rfl), (Nat.le_of_ble_eq_true rfl)⟩ (Nat.le_of_ble_eq_true rfl) dX11_init_53 rfl ?_
  refine c_putF (q := 59) (j := 44) (tk_at (i := 0) shl_0 (by decide)) fok_11_4 tok_11 fpf_11_4 wl_RX11_36 dX11_init_56 rfl rfl rfl rfl ?_
  refine tj_aload_n (q := 60) dX11_init_59 rfl (i := 0) rfl (pl := 0) rfl ?_
  refine c_new (q := 63) (ci := 0) rfl iX0 tok_0 dok_0 rfl shl_47 wn_RX11_40 wn2_0 wn3_0 (Nat.le_of_ble_eq_true rfl) (Nat.le_of_ble_eq_true rfl) dX11_init_60 rfl ?_
  refine tj_dup (q := 64) dX11_init_63 rfl rfl ?_
  refine c_call (q := 67) wk_RX11_42 (k0 _) (Nat.le_of_ble_eq_true rfl) ⟨(Nat.le_of_ble_eq_true rfl), (Nat.le_of_ble_eq_true rfl)⟩ (Nat.le_of_ble_eq_true rfl) dX11_init_64 rfl ?_
  refine c_putF (q := 70) (j := 47) (tk_at (i := 0) shl_0 (by decide)) fok_11_5 tok_11 fpf_11_5 wl_RX11_43 dX11_init_67 rfl rfl rfl rfl ?_
  refine tj_aload_n (q := 71) dX11_init_70 rfl (i := 0) rfl (pl := 0) rfl ?_
  refine tj_iconst (q := 72) (v := 3) dX11_init_71 rfl (by decide) ?_
  refine c_anew (q := 75) (N := 3) (by decide) (by decide) shl_172 wn_RX11_33 (Nat.le_of_ble_eq_true rfl) (Nat.le_of_ble_eq_true rfl) dX11_init_72 rfl ?_
  refine c_putF (q := 78) (j := 172) (tk_at (i := 0) shl_0 (by decide)) fok_11_6 tok_11 fpf_11_6 wl_RX11_47 dX11_init_75 rfl rfl rfl rfl ?_
  refine tj_aload_n (q := 79) dX11_init_78 rfl (i := 0) rfl (pl := 0) rfl ?_
  refine tj_iconst (q := 80) (v := 0) dX11_init_79 rfl (by decide) ?_
  refine c_putI (q := 83) (tk_at (i := 0) shl_0 (by decide)) fok_11_7 tok_11 fpk_11_7 wl_RX11_51 dX11_init_80 rfl rfl rfl ?_
  refine tj_aload_n (q := 84) dX11_init_83 rfl (i := 0) rfl (pl := 0) rfl ?_
  refine tj_bipush (q := 86) (v := 30) dX11_init_84 rfl (by decide) ?_
  refine c_newaI (q := 88) (N := 30) (by decide) (by decide) shl_173 wa_int (Nat.le_of_ble_eq_true rfl) (Nat.le_of_ble_eq_true rfl) dX11_init_86 rfl ?_
  refine c_putF (q := 91) (j := 173) (tk_at (i := 0) shl_0 (by decide)) fok_11_8 tok_11 fpf_11_8 wl_RX11_55 dX11_init_88 rfl rfl rfl rfl ?_
  refine tj_aload_n (q := 92) dX11_init_91 rfl (i := 0) rfl (pl := 0) rfl ?_
  refine tj_iconst (q := 93) (v := 0) dX11_init_92 rfl (by decide) ?_
  refine c_putI (q := 96) (tk_at (i := 0) shl_0 (by decide)) fok_11_9 tok_11 fpk_11_9 wl_RX11_59 dX11_init_93 rfl rfl rfl ?_
  refine tj_aload_n (q := 97) dX11_init_96 rfl (i := 0) rfl (pl := 0) rfl ?_
  refine c_new (q := 100) (ci := 5) rfl iX5 tok_5 dok_5 rfl shl_174 wn_RX11_62 wn2_5 wn3_5 (Nat.le_of_ble_eq_true rfl) (Nat.le_of_ble_eq_true rfl) dX11_init_97 rfl ?_
  refine tj_dup (q := 101) dX11_init_100 rfl rfl ?_
  refine c_call (q := 104) wk_RX11_64 (k5 _) (Nat.le_of_ble_eq_true rfl) ⟨(Nat.le_of_ble_eq_true rfl), (Nat.le_of_ble_eq_true rfl)⟩ (Nat.le_of_ble_eq_true rfl) dX11_init_101 rfl ?_
  refine c_putF (q := 107) (j := 174) (tk_at (i := 0) shl_0 (by decide)) fok_11_10 tok_11 fpf_11_10 wl_RX11_65 dX11_init_104 rfl rfl rfl rfl ?_
  refine tj_aload_n (q := 108) dX11_init_107 rfl (i := 0) rfl (pl := 0) rfl ?_
  refine tj_iconst (q := 109) (v := 0) dX11_init_108 rfl (by decide) ?_
  refine c_putI (q := 112) (tk_at (i := 0) shl_0 (by decide)) fok_11_11 tok_11 fpk_11_11 wl_RX11_69 dX11_init_109 rfl rfl rfl ?_
  refine tj_aload_n (q := 113) dX11_init_112 rfl (i := 0) rfl (pl := 0) rfl ?_
  refine c_new (q := 116) (ci := 9) rfl iX9 tok_9 dok_9 rfl shl_183 wn_RX11_72 wn2_9 wn3_9 (Nat.le_of_ble_eq_true rfl) (Nat.le_of_ble_eq_true rfl) dX11_init_113 rfl ?_
  refine tj_dup (q := 117) dX11_init_116 rfl rfl ?_
  refine c_call (q := 120) wk_RX11_74 (k9 183 _ shl_183 shl_184 shl_185 shl_186 shl_187 shl_188 shl_189 shl_190 shl_191) (Nat.le_of_ble_eq_true rfl) ⟨(Nat.le_of_ble_eq_true rfl), (Nat.le_of_ble_eq_true rfl)⟩ (Nat.le_of_ble_eq_true rfl) dX11_init_117 rfl ?_
  refine c_putF (q := 123) (j := 183) (tk_at (i := 0) shl_0 (by decide)) fok_11_12 tok_11 fpf_11_12 wl_RX11_75 dX11_init_120 rfl rfl rfl rfl ?_
  refine tj_aload_n (q := 124) dX11_init_123 rfl (i := 0) rfl (pl := 0) rfl ?_
  refine c_new (q := 127) (ci := 6) rfl iX6 tok_6 dok_6 rfl shl_192 wn_RX11_79 wn2_6 wn3_6 (Nat.le_of_ble_eq_true rfl) (Nat.le_of_ble_eq_true rfl) dX11_init_124 rfl ?_
  refine tj_dup (q := 128) dX11_init_127 rfl rfl ?_
  refine c_call (q := 131) wk_RX11_81 (k6 _) (Nat.le_of_ble_eq_true rfl) ⟨(Nat.le_of_ble_eq_true rfl), (Nat.le_of_ble_eq_true rfl)⟩ (Nat.le_of_ble_eq_true rfl) dX11_init_128 rfl ?_
  refine c_putF (q := 134) (j := 192) (tk_at (i := 0) shl_0 (by decide)) fok_11_13 tok_11 fpf_11_13 wl_RX11_82 dX11_init_131 rfl rfl rfl rfl ?_
  refine tj_aload_n (q := 135) dX11_init_134 rfl (i := 0) rfl (pl := 0) rfl ?_
  refine c_new (q := 138) (ci := 7) rfl iX7 tok_7 dok_7 rfl shl_205 wn_RX11_86 wn2_7 wn3_7 (Nat.le_of_ble_eq_true rfl) (Nat.le_of_ble_eq_true rfl) dX11_init_135 rfl ?_
  refine tj_dup (q := 139) dX11_init_138 rfl rfl ?_
  refine c_call (q := 142) wk_RX11_88 (k7 _) (Nat.le_of_ble_eq_true rfl) ⟨(Nat.le_of_ble_eq_true rfl), (Nat.le_of_ble_eq_true rfl)⟩ (Nat.le_of_ble_eq_true rfl) dX11_init_139 rfl ?_
  refine c_putF (q := 145) (j := 205) (tk_at (i := 0) shl_0 (by decide)) fok_11_14 tok_11 fpf_11_14 wl_RX11_89 dX11_init_142 rfl rfl rfl rfl ?_
  refine tj_aload_n (q := 146) dX11_init_145 rfl (i := 0) rfl (pl := 0) rfl ?_
  refine c_new (q := 149) (ci := 8) rfl iX8 tok_8 dok_8 rfl shl_221 wn_RX11_33 wn2_8 wn3_8 (Nat.le_of_ble_eq_true rfl) (Nat.le_of_ble_eq_true rfl) dX11_init_146 rfl ?_
  refine tj_dup (q := 150) dX11_init_149 rfl rfl ?_
  refine c_call (q := 153) wk_RX11_35 (k8 221 _ shl_221 shl_222 shl_223) (Nat.le_of_ble_eq_true rfl) ⟨(Nat.le_of_ble_eq_true rfl), (Nat.le_of_ble_eq_true rfl)⟩ (Nat.le_of_ble_eq_true rfl) dX11_init_150 rfl ?_
  refine c_putF (q := 156) (j := 221) (tk_at (i := 0) shl_0 (by decide)) fok_11_15 tok_11 fpf_11_15 wl_RX11_93 dX11_init_153 rfl rfl rfl rfl ?_
  refine tj_iconst (q := 157) (v := 0) dX11_init_156 rfl (by decide) ?_
  refine tj_istore_n (q := 158) dX11_init_157 rfl (i := 1) rfl (by decide) rfl ?_
  refine tj_iload_n (q := 159) dX11_init_158 rfl (i := 1) rfl (pl := 0) rfl ?_
  refine tj_iconst (q := 160) (v := 3) dX11_init_159 rfl (by decide) ?_
  refine c_geN (tgt := 182) (q := 163) (by decide) dX11_init_160 (by decide) rfl ?_
  refine tj_aload_n (q := 164) dX11_init_163 rfl (i := 0) rfl (pl := 1) rfl ?_
  refine tj_getR (q := 167) (j := 172) (tk_at (i := 0) shl_0 (by decide)) rfl fok_11_6 wl_RX11_47 dX11_init_164 rfl ?_
  refine tj_iload_n (q := 168) dX11_init_167 rfl (i := 1) rfl (pl := 0) rfl ?_
  refine c_new (q := 171) (ci := 8) rfl iX8 tok_8 dok_8 rfl shl_224 wn_RX11_33 wn2_8 wn3_8 (Nat.le_of_ble_eq_true rfl) (Nat.le_of_ble_eq_true rfl) dX11_init_168 rfl ?_
  refine tj_dup (q := 172) dX11_init_171 rfl rfl ?_
  refine c_call (q := 175) wk_RX11_35 (k8 224 _ shl_224 shl_225 shl_226) (Nat.le_of_ble_eq_true rfl) ⟨(Nat.le_of_ble_eq_true rfl), (Nat.le_of_ble_eq_true rfl)⟩ (Nat.le_of_ble_eq_true rfl) dX11_init_172 rfl ?_
  refine c_aast (q := 176) (k := 0) (N := 3) (v := 224) (t := 172) (tk_at (i := 172) shl_172 (by decide)) (tk_at (i := 224) shl_224 (by decide)) (by decide) (by decide) (by decide) dX11_init_175 rfl ?_
  refine tj_iinc (q := 179) (v := 1) dX11_init_176 rfl (pl := 0) rfl (by decide) (by decide) rfl ?_
  refine tj_goto (q := 158) dX11_init_179 (by decide) ?_
  refine tj_iload_n (q := 159) dX11_init_158 rfl (i := 1) rfl (pl := 0) rfl ?_
  refine tj_iconst (q := 160) (v := 3) dX11_init_159 rfl (by decide) ?_
  refine c_geN (tgt := 182) (q := 163) (by decide) dX11_init_160 (by decide) rfl ?_
  refine tj_aload_n (q := 164) dX11_init_163 rfl (i := 0) rfl (pl := 1) rfl ?_
  refine tj_getR (q := 167) (j := 172) (tk_at (i := 0) shl_0 (by decide)) rfl fok_11_6 wl_RX11_47 dX11_init_164 rfl ?_
  refine tj_iload_n (q := 168) dX11_init_167 rfl (i := 1) rfl (pl := 0) rfl ?_
  refine c_new (q := 171) (ci := 8) rfl iX8 tok_8 dok_8 rfl shl_227 wn_RX11_33 wn2_8 wn3_8 (Nat.le_of_ble_eq_true rfl) (Nat.le_of_ble_eq_true rfl) dX11_init_168 rfl ?_
  refine tj_dup (q := 172) dX11_init_171 rfl rfl ?_
  refine c_call (q := 175) wk_RX11_35 (k8 227 _ shl_227 shl_228 shl_229) (Nat.le_of_ble_eq_true rfl) ⟨(Nat.le_of_ble_eq_true rfl), (Nat.le_of_ble_eq_true rfl)⟩ (Nat.le_of_ble_eq_true rfl) dX11_init_172 rfl ?_
  refine c_aast (q := 176) (k := 1) (N := 3) (v := 227) (t := 172) (tk_at (i := 172) shl_172 (by decide)) (tk_at (i := 227) shl_227 (by decide)) (by decide) (by decide) (by decide) dX11_init_175 rfl ?_
  refine tj_iinc (q := 179) (v := 2) dX11_init_176 rfl (pl := 0) rfl (by decide) (by decide) rfl ?_
  refine tj_goto (q := 158) dX11_init_179 (by decide) ?_
  refine tj_iload_n (q := 159) dX11_init_158 rfl (i := 1) rfl (pl := 0) rfl ?_
  refine tj_iconst (q := 160) (v := 3) dX11_init_159 rfl (by decide) ?_
  refine c_geN (tgt := 182) (q := 163) (by decide) dX11_init_160 (by decide) rfl ?_
  refine tj_aload_n (q := 164) dX11_init_163 rfl (i := 0) rfl (pl := 1) rfl ?_
  refine tj_getR (q := 167) (j := 172) (tk_at (i := 0) shl_0 (by decide)) rfl fok_11_6 wl_RX11_47 dX11_init_164 rfl ?_
  refine tj_iload_n (q := 168) dX11_init_167 rfl (i := 1) rfl (pl := 0) rfl ?_
  refine c_new (q := 171) (ci := 8) rfl iX8 tok_8 dok_8 rfl shl_230 wn_RX11_33 wn2_8 wn3_8 (Nat.le_of_ble_eq_true rfl) (Nat.le_of_ble_eq_true rfl) dX11_init_168 rfl ?_
  refine tj_dup (q := 172) dX11_init_171 rfl rfl ?_
  refine c_call (q := 175) wk_RX11_35 (k8 230 _ shl_230 shl_231 shl_232) (Nat.le_of_ble_eq_true rfl) ⟨(Nat.le_of_ble_eq_true rfl), (Nat.le_of_ble_eq_true rfl)⟩ (Nat.le_of_ble_eq_true rfl) dX11_init_172 rfl ?_
  refine c_aast (q := 176) (k := 2) (N := 3) (v := 230) (t := 172) (tk_at (i := 172) shl_172 (by decide)) (tk_at (i := 230) shl_230 (by decide)) (by decide) (by decide) (by decide) dX11_init_175 rfl ?_
  refine tj_iinc (q := 179) (v := 3) dX11_init_176 rfl (pl := 0) rfl (by decide) (by decide) rfl ?_
  refine tj_goto (q := 158) dX11_init_179 (by decide) ?_
  refine tj_iload_n (q := 159) dX11_init_158 rfl (i := 1) rfl (pl := 0) rfl ?_
  refine tj_iconst (q := 160) (v := 3) dX11_init_159 rfl (by decide) ?_
  refine c_geY (tgt := 182) (by decide) dX11_init_160 (by decide) ?_
  exact tj_vret rfl rfl (Nat.le_of_ble_eq_true rfl) (Nat.le_of_ble_eq_true rfl) dX11_init_182

end
