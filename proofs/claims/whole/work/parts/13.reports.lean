section
variable {l : Launch} {D : va_G} {cA : Nat → ClassId} {h0 : Nat} {ad : Ad_} {sh : Sh_} {P : Px_} {σ : St_}
theorem dX5_add_0 : decode cX5_add 0 = .ok (.aload_n 0, 1) := by decide +kernel
theorem dX5_add_1 : decode cX5_add 1 = .ok (.getfield 34, 3) := by decide +kernel
theorem dX5_add_4 : decode cX5_add 4 = .ok (.bipush 30, 2) := by decide +kernel
theorem dX5_add_6 : decode cX5_add 6 = .ok (.if_icmp .lt 5, 3) := by decide +kernel
theorem dX5_add_9 : decode cX5_add 9 = .ok (.iconst (-1), 1) := by decide +kernel
theorem dX5_add_10 : decode cX5_add 10 = .ok (.ireturn, 1) := by decide +kernel
theorem dX5_add_11 : decode cX5_add 11 = .ok (.aload_n 0, 1) := by decide +kernel
theorem dX5_add_12 : decode cX5_add 12 = .ok (.getfield 11, 3) := by decide +kernel
theorem dX5_add_15 : decode cX5_add 15 = .ok (.aload_n 0, 1) := by decide +kernel
theorem dX5_add_16 : decode cX5_add 16 = .ok (.getfield 34, 3) := by decide +kernel
theorem dX5_add_19 : decode cX5_add 19 = .ok (.iload_n 1, 1) := by decide +kernel
theorem dX5_add_20 : decode cX5_add 20 = .ok (.iastore, 1) := by decide +kernel
theorem dX5_add_21 : decode cX5_add 21 = .ok (.aload_n 0, 1) := by decide +kernel
theorem dX5_add_22 : decode cX5_add 22 = .ok (.getfield 15, 3) := by decide +kernel
theorem dX5_add_25 : decode cX5_add 25 = .ok (.aload_n 0, 1) := by decide +kernel
theorem dX5_add_26 : decode cX5_add 26 = .ok (.getfield 34, 3) := by decide +kernel
theorem dX5_add_29 : decode cX5_add 29 = .ok (.iload_n 2, 1) := by decide +kernel
theorem dX5_add_30 : decode cX5_add 30 = .ok (.iastore, 1) := by decide +kernel
theorem dX5_add_31 : decode cX5_add 31 = .ok (.aload_n 0, 1) := by decide +kernel
theorem dX5_add_32 : decode cX5_add 32 = .ok (.getfield 18, 3) := by decide +kernel
theorem dX5_add_35 : decode cX5_add 35 = .ok (.aload_n 0, 1) := by decide +kernel
theorem dX5_add_36 : decode cX5_add 36 = .ok (.getfield 34, 3) := by decide +kernel
theorem dX5_add_39 : decode cX5_add 39 = .ok (.iload_n 3, 1) := by decide +kernel
theorem dX5_add_40 : decode cX5_add 40 = .ok (.iastore, 1) := by decide +kernel
theorem dX5_add_41 : decode cX5_add 41 = .ok (.aload_n 0, 1) := by decide +kernel
theorem dX5_add_42 : decode cX5_add 42 = .ok (.getfield 21, 3) := by decide +kernel
theorem dX5_add_45 : decode cX5_add 45 = .ok (.aload_n 0, 1) := by decide +kernel
theorem dX5_add_46 : decode cX5_add 46 = .ok (.getfield 34, 3) := by decide +kernel
theorem dX5_add_49 : decode cX5_add 49 = .ok (.iload 4, 2) := by decide +kernel
theorem dX5_add_51 : decode cX5_add 51 = .ok (.iastore, 1) := by decide +kernel
theorem dX5_add_52 : decode cX5_add 52 = .ok (.aload_n 0, 1) := by decide +kernel
theorem dX5_add_53 : decode cX5_add 53 = .ok (.getfield 24, 3) := by decide +kernel
theorem dX5_add_56 : decode cX5_add 56 = .ok (.aload_n 0, 1) := by decide +kernel
theorem dX5_add_57 : decode cX5_add 57 = .ok (.getfield 34, 3) := by decide +kernel
theorem dX5_add_60 : decode cX5_add 60 = .ok (.iload 5, 2) := by decide +kernel
theorem dX5_add_62 : decode cX5_add 62 = .ok (.bastore, 1) := by decide +kernel
theorem dX5_add_63 : decode cX5_add 63 = .ok (.aload_n 0, 1) := by decide +kernel
theorem dX5_add_64 : decode cX5_add 64 = .ok (.getfield 28, 3) := by decide +kernel
theorem dX5_add_67 : decode cX5_add 67 = .ok (.aload_n 0, 1) := by decide +kernel
theorem dX5_add_68 : decode cX5_add 68 = .ok (.getfield 34, 3) := by decide +kernel
theorem dX5_add_71 : decode cX5_add 71 = .ok (.iload 6, 2) := by decide +kernel
theorem dX5_add_73 : decode cX5_add 73 = .ok (.iastore, 1) := by decide +kernel
theorem dX5_add_74 : decode cX5_add 74 = .ok (.aload_n 0, 1) := by decide +kernel
theorem dX5_add_75 : decode cX5_add 75 = .ok (.getfield 31, 3) := by decide +kernel
theorem dX5_add_78 : decode cX5_add 78 = .ok (.aload_n 0, 1) := by decide +kernel
theorem dX5_add_79 : decode cX5_add 79 = .ok (.getfield 34, 3) := by decide +kernel
theorem dX5_add_82 : decode cX5_add 82 = .ok (.iconst (-1), 1) := by decide +kernel
theorem dX5_add_83 : decode cX5_add 83 = .ok (.iastore, 1) := by decide +kernel
theorem dX5_add_84 : decode cX5_add 84 = .ok (.aload_n 0, 1) := by decide +kernel
theorem dX5_add_85 : decode cX5_add 85 = .ok (.dup, 1) := by decide +kernel
theorem dX5_add_86 : decode cX5_add 86 = .ok (.getfield 34, 3) := by decide +kernel
theorem dX5_add_89 : decode cX5_add 89 = .ok (.iconst 1, 1) := by decide +kernel
theorem dX5_add_90 : decode cX5_add 90 = .ok (.iadd, 1) := by decide +kernel
theorem dX5_add_91 : decode cX5_add 91 = .ok (.putfield 34, 3) := by decide +kernel
theorem dX5_add_94 : decode cX5_add 94 = .ok (.aload_n 0, 1) := by decide +kernel
theorem dX5_add_95 : decode cX5_add 95 = .ok (.getfield 34, 3) := by decide +kernel
theorem dX5_add_98 : decode cX5_add 98 = .ok (.iconst 1, 1) := by decide +kernel
theorem dX5_add_99 : decode cX5_add 99 = .ok (.isub, 1) := by decide +kernel
theorem dX5_add_100 : decode cX5_add 100 = .ok (.ireturn, 1) := by decide +kernel
theorem wl_RX5_34 : Cond.fieldLink RX5 34 (TX5 7).1 (TX5 7).2.1 (TX5 7).2.2.1 ∈ TB := tbm 445 (by decide +kernel) (by decide +kernel)
theorem wl_RX5_11 : Cond.fieldLink RX5 11 (TX5 0).1 (TX5 0).2.1 (TX5 0).2.2.1 ∈ TB := tbm 438 (by decide +kernel) (by decide +kernel)
theorem wl_RX5_15 : Cond.fieldLink RX5 15 (TX5 1).1 (TX5 1).2.1 (TX5 1).2.2.1 ∈ TB := tbm 439 (by decide +kernel) (by decide +kernel)
theorem wl_RX5_18 : Cond.fieldLink RX5 18 (TX5 2).1 (TX5 2).2.1 (TX5 2).2.2.1 ∈ TB := tbm 440 (by decide +kernel) (by decide +kernel)
theorem wl_RX5_21 : Cond.fieldLink RX5 21 (TX5 3).1 (TX5 3).2.1 (TX5 3).2.2.1 ∈ TB := tbm 441 (by decide +kernel) (by decide +kernel)
theorem wl_RX5_24 : Cond.fieldLink RX5 24 (TX5 4).1 (TX5 4).2.1 (TX5 4).2.2.1 ∈ TB := tbm 442 (by decide +kernel) (by decide +kernel)
theorem wl_RX5_28 : Cond.fieldLink RX5 28 (TX5 5).1 (TX5 5).2.1 (TX5 5).2.2.1 ∈ TB := tbm 443 (by decide +kernel) (by decide +kernel)
theorem wl_RX5_31 : Cond.fieldLink RX5 31 (TX5 6).1 (TX5 6).2.1 (TX5 6).2.2.1 ∈ TB := tbm 444 (by decide +kernel) (by decide +kernel)
def mX5_add (t : Nat) (p1 : Int32) (p2 : Int32) (p3 : Int32) (p4 : Int32) (p5 : Bool) (p6 : Int32) (σ : St_) : Option (Int32 × St_) :=
 (if (σ.1 t 7) < (30 : Int32) then
 (bnd (σ.1 t 7) fun v1 =>
 (if bin v1 30 = true then bnd (sI σ (t + 1) v1.toNatClampNeg p1) fun σ2 =>
 (bnd (σ2.1 t 7) fun v3 =>
 (if bin v3 30 = true then bnd (sI σ2 (t + 2) v3.toNatClampNeg p2) fun σ4 =>
 (bnd (σ4.1 t 7) fun v5 =>
 (if bin v5 30 = true then bnd (sI σ4 (t + 3) v5.toNatClampNeg p3) fun σ6 =>
 (bnd (σ6.1 t 7) fun v7 =>
 (if bin v7 30 = true then bnd (sI σ6 (t + 4) v7.toNatClampNeg p4) fun σ8 =>
 (bnd (σ8.1 t 7) fun v9 =>
 (if bin v9 30 = true then bnd (sI σ8 (t + 5) v9.toNatClampNeg (b2i p5)) fun σ10 =>
 (bnd (σ10.1 t 7) fun v11 =>
 (if bin v11 30 = true then bnd (sI σ10 (t + 6) v11.toNatClampNeg p6) fun σ12 =>
 (bnd (σ12.1 t 7) fun v13 =>
 (if bin v13 30 = true then bnd (sI σ12 (t + 7) v13.toNatClampNeg (-1 : Int32)) fun σ14 =>
 (bnd (sI σ14 t 7 ((σ14.1 t 7) + (1 : Int32))) fun σ15 =>
 (some (((σ15.1 t 7) - (1 : Int32)), σ15)))
 else none))
 else none))
 else none))
 else none))
 else none))
 else none))
 else none))
 else (some ((-1 : Int32), σ)))
set_option maxHeartbeats 4000000 in
theorem rX5_add (t : Nat) (p1 : Int32) (p2 : Int32) (p3 : Int32) (p4 : Int32) (p5 : Bool) (p6 : Int32) (hT : LY5 sh P t) : Rj l D cA h0 ad yX5_add cX5_add 7 (some .int) false 2 0 0 (fun b => (some (.int b.1), sh, P, b.2)) [.ref (h0 + t), .int p1, .int p2, .int p3, .int p4, .int (b2i p5), .int p6] sh P σ (mX5_add t p1 p2 p3 p4 p5 p6 σ) := by
  rw [mX5_add]
  refine Rj.of (by decide) (fun h => by cases h) (Nat.le_of_ble_eq_true rfl) ?_
  refine tj_lv0 (lv' := [(0, .ref (h0 + t)), (1, .int p1), (2, .int p2), (3, .int p3), (4, .int p4), (5, .int (b2i p5)), (6, .int p6)]) rfl ?_
  refine tj_aload_n (q := 1) dX5_add_0 rfl (i := 0) rfl (pl := 0) rfl ?_
  refine tj_getI (q := 4) (hT).s fok_5_7 wl_RX5_34 dX5_add_1 rfl ?_
  refine tj_bipush (q := 6) (v := 30) dX5_add_4 rfl (by decide) ?_
  refine tj_icmp_lt (tgt := 11) (q := 9) dX5_add_6 (by decide) rfl ?_ ?_
  · refine tj_aload_n (q := 12) dX5_add_11 rfl (i := 0) rfl (pl := 0) rfl ?_
    refine tj_getR (q := 15) (hT).s (hT).p_house fok_5_0 wl_RX5_11 dX5_add_12 rfl ?_
    refine tj_aload_n (q := 16) dX5_add_15 rfl (i := 0) rfl (pl := 0) rfl ?_
    refine tj_getI (q := 19) (hT).s fok_5_7 wl_RX5_34 dX5_add_16 rfl ?_
    refine tj_iload_n (q := 20) dX5_add_19 rfl (i := 1) rfl (pl := 1) rfl ?_
    refine tj_sndI (fun v1 => ?_)
    refine tj_iastore (q := 21) (hT).s_house dX5_add_20 rfl (fun σ2 => ?_)
    refine tj_aload_n (q := 22) dX5_add_21 rfl (i := 0) rfl (pl := 0) rfl ?_
    refine tj_getR (q := 25) (hT).s (hT).p_taken fok_5_1 wl_RX5_15 dX5_add_22 rfl ?_
    refine tj_aload_n (q := 26) dX5_add_25 rfl (i := 0) rfl (pl := 0) rfl ?_
    refine tj_getI (q := 29) (hT).s fok_5_7 wl_RX5_34 dX5_add_26 rfl ?_
    refine tj_iload_n (q := 30) dX5_add_29 rfl (i := 2) rfl (pl := 2) rfl ?_
    refine tj_sndI (fun v3 => ?_)
    refine tj_iastore (q := 31) (hT).s_taken dX5_add_30 rfl (fun σ4 => ?_)
    refine tj_aload_n (q := 32) dX5_add_31 rfl (i := 0) rfl (pl := 0) rfl ?_
    refine tj_getR (q := 35) (hT).s (hT).p_left fok_5_2 wl_RX5_18 dX5_add_32 rfl ?_
    refine tj_aload_n (q := 36) dX5_add_35 rfl (i := 0) rfl (pl := 0) rfl ?_
    refine tj_getI (q := 39) (hT).s fok_5_7 wl_RX5_34 dX5_add_36 rfl ?_
    refine tj_iload_n (q := 40) dX5_add_39 rfl (i := 3) rfl (pl := 3) rfl ?_
    refine tj_sndI (fun v5 => ?_)
    refine tj_iastore (q := 41) (hT).s_left dX5_add_40 rfl (fun σ6 => ?_)
    refine tj_aload_n (q := 42) dX5_add_41 rfl (i := 0) rfl (pl := 0) rfl ?_
    refine tj_getR (q := 45) (hT).s (hT).p_hour fok_5_3 wl_RX5_21 dX5_add_42 rfl ?_
    refine tj_aload_n (q := 46) dX5_add_45 rfl (i := 0) rfl (pl := 0) rfl ?_
    refine tj_getI (q := 49) (hT).s fok_5_7 wl_RX5_34 dX5_add_46 rfl ?_
    refine tj_iload (q := 51) dX5_add_49 rfl (pl := 4) rfl ?_
    refine tj_sndI (fun v7 => ?_)
    refine tj_iastore (q := 52) (hT).s_hour dX5_add_51 rfl (fun σ8 => ?_)
    refine tj_aload_n (q := 53) dX5_add_52 rfl (i := 0) rfl (pl := 0) rfl ?_
    refine tj_getR (q := 56) (hT).s (hT).p_lawful fok_5_4 wl_RX5_24 dX5_add_53 rfl ?_
    refine tj_aload_n (q := 57) dX5_add_56 rfl (i := 0) rfl (pl := 0) rfl ?_
    refine tj_getI (q := 60) (hT).s fok_5_7 wl_RX5_34 dX5_add_57 rfl ?_
    refine tj_iload (q := 62) dX5_add_60 rfl (pl := 5) rfl ?_
    refine tj_sndI (fun v9 => ?_)
    refine tj_zastore (x := p5) (q := 63) (hT).s_lawful dX5_add_62 rfl (fun σ10 => ?_)
    refine tj_aload_n (q := 64) dX5_add_63 rfl (i := 0) rfl (pl := 0) rfl ?_
    refine tj_getR (q := 67) (hT).s (hT).p_toldAt fok_5_5 wl_RX5_28 dX5_add_64 rfl ?_
    refine tj_aload_n (q := 68) dX5_add_67 rfl (i := 0) rfl (pl := 0) rfl ?_
    refine tj_getI (q := 71) (hT).s fok_5_7 wl_RX5_34 dX5_add_68 rfl ?_
    refine tj_iload (q := 73) dX5_add_71 rfl (pl := 6) rfl ?_
    refine tj_sndI (fun v11 => ?_)
    refine tj_iastore (q := 74) (hT).s_toldAt dX5_add_73 rfl (fun σ12 => ?_)
    refine tj_aload_n (q := 75) dX5_add_74 rfl (i := 0) rfl (pl := 0) rfl ?_
    refine tj_getR (q := 78) (hT).s (hT).p_untoldAt fok_5_6 wl_RX5_31 dX5_add_75 rfl ?_
    refine tj_aload_n (q := 79) dX5_add_78 rfl (i := 0) rfl (pl := 0) rfl ?_
    refine tj_getI (q := 82) (hT).s fok_5_7 wl_RX5_34 dX5_add_79 rfl ?_
    refine tj_iconst (q := 83) (v := (-1)) dX5_add_82 rfl (by decide) ?_
    refine tj_sndI (fun v13 => ?_)
    refine tj_iastore (q := 84) (hT).s_untoldAt dX5_add_83 rfl (fun σ14 => ?_)
    refine tj_aload_n (q := 85) dX5_add_84 rfl (i := 0) rfl (pl := 0) rfl ?_
    refine tj_dup (q := 86) dX5_add_85 rfl rfl ?_
    refine tj_getI (q := 89) (hT).s fok_5_7 wl_RX5_34 dX5_add_86 rfl ?_
    refine tj_iconst (q := 90) (v := 1) dX5_add_89 rfl (by decide) ?_
    refine tj_iadd (q := 91) dX5_add_90 rfl ?_
    refine tj_putI (q := 94) (hT).s fok_5_7 tok_5 fpk_5_7 wl_RX5_34 dX5_add_91 rfl (fun σ15 => ?_)
    refine tj_aload_n (q := 95) dX5_add_94 rfl (i := 0) rfl (pl := 0) rfl ?_
    refine tj_getI (q := 98) (hT).s fok_5_7 wl_RX5_34 dX5_add_95 rfl ?_
    refine tj_iconst (q := 99) (v := 1) dX5_add_98 rfl (by decide) ?_
    refine tj_isub (q := 100) dX5_add_99 rfl ?_
    exact tj_iret rfl rfl (Nat.le_of_ble_eq_true rfl) (Nat.le_of_ble_eq_true rfl) dX5_add_100
  · refine tj_iconst (q := 10) (v := (-1)) dX5_add_9 rfl (by decide) ?_
    exact tj_iret rfl rfl (Nat.le_of_ble_eq_true rfl) (Nat.le_of_ble_eq_true rfl) dX5_add_10

theorem dX5_takeBack_0 : decode cX5_takeBack 0 = .ok (.iload_n 1, 1) := by decide +kernel
theorem dX5_takeBack_1 : decode cX5_takeBack 1 = .ok (.ifCond .lt 21, 3) := by decide +kernel
theorem dX5_takeBack_4 : decode cX5_takeBack 4 = .ok (.iload_n 1, 1) := by decide +kernel
theorem dX5_takeBack_5 : decode cX5_takeBack 5 = .ok (.aload_n 0, 1) := by decide +kernel
theorem dX5_takeBack_6 : decode cX5_takeBack 6 = .ok (.getfield 34, 3) := by decide +kernel
theorem dX5_takeBack_9 : decode cX5_takeBack 9 = .ok (.if_icmp .ge 13, 3) := by decide +kernel
theorem dX5_takeBack_12 : decode cX5_takeBack 12 = .ok (.aload_n 0, 1) := by decide +kernel
theorem dX5_takeBack_13 : decode cX5_takeBack 13 = .ok (.getfield 31, 3) := by decide +kernel
theorem dX5_takeBack_16 : decode cX5_takeBack 16 = .ok (.iload_n 1, 1) := by decide +kernel
theorem dX5_takeBack_17 : decode cX5_takeBack 17 = .ok (.iaload, 1) := by decide +kernel
theorem dX5_takeBack_18 : decode cX5_takeBack 18 = .ok (.iconst (-1), 1) := by decide +kernel
theorem dX5_takeBack_19 : decode cX5_takeBack 19 = .ok (.if_icmp .eq 5, 3) := by decide +kernel
theorem dX5_takeBack_22 : decode cX5_takeBack 22 = .ok (.iconst 0, 1) := by decide +kernel
theorem dX5_takeBack_23 : decode cX5_takeBack 23 = .ok (.ireturn, 1) := by decide +kernel
theorem dX5_takeBack_24 : decode cX5_takeBack 24 = .ok (.aload_n 0, 1) := by decide +kernel
theorem dX5_takeBack_25 : decode cX5_takeBack 25 = .ok (.getfield 31, 3) := by decide +kernel
theorem dX5_takeBack_28 : decode cX5_takeBack 28 = .ok (.iload_n 1, 1) := by decide +kernel
theorem dX5_takeBack_29 : decode cX5_takeBack 29 = .ok (.iload_n 2, 1) := by decide +kernel
theorem dX5_takeBack_30 : decode cX5_takeBack 30 = .ok (.iastore, 1) := by decide +kernel
theorem dX5_takeBack_31 : decode cX5_takeBack 31 = .ok (.iconst 1, 1) := by decide +kernel
theorem dX5_takeBack_32 : decode cX5_takeBack 32 = .ok (.ireturn, 1) := by decide +kernel
def mX5_takeBack (t : Nat) (p1 : Int32) (p2 : Int32) (σ : St_) : Option (Bool × St_) :=
 (if p1 < 0 then
 (some (false, σ))
 else (if (σ.1 t 7) ≤ p1 then
 (some (false, σ))
 else (if bin p1 30 = true then bnd (σ.1 (t + 7) p1.toNatClampNeg) fun v1 =>
 (if v1 = (-1 : Int32) then
 (if bin p1 30 = true then bnd (sI σ (t + 7) p1.toNatClampNeg p2) fun σ2 =>
 (some (true, σ2))
 else none)
 else (some (false, σ)))
 else none)))
set_option maxHeartbeats 4000000 in
theorem rX5_takeBack (t : Nat) (p1 : Int32) (p2 : Int32) (hT : LY5 sh P t) : Rj l D cA h0 ad yX5_takeBack cX5_takeBack 3 (some .boolean) false 2 0 0 (fun b => (some (.int (b2i b.1)), sh, P, b.2)) [.ref (h0 + t), .int p1, .int p2] sh P σ (mX5_takeBack t p1 p2 σ) := by
  rw [mX5_takeBack]
  refine Rj.of (by decide) (fun h => by cases h) (Nat.le_of_ble_eq_true rfl) ?_
  refine tj_lv0 (lv' := [(0, .ref (h0 + t)), (1, .int p1), (2, .int p2)]) rfl ?_
  refine tj_iload_n (q := 1) dX5_takeBack_0 rfl (i := 1) rfl (pl := 1) rfl ?_
  refine tj_if_lt (tgt := 22) (q := 4) dX5_takeBack_1 (by decide) rfl ?_ ?_
  · refine tj_iconst (q := 23) (v := 0) dX5_takeBack_22 rfl (by decide) ?_
    exact tj_zret rfl (by decide) rfl (Nat.le_of_ble_eq_true rfl) (Nat.le_of_ble_eq_true rfl) dX5_takeBack_23
  · refine tj_iload_n (q := 5) dX5_takeBack_4 rfl (i := 1) rfl (pl := 1) rfl ?_
    refine tj_aload_n (q := 6) dX5_takeBack_5 rfl (i := 0) rfl (pl := 0) rfl ?_
    refine tj_getI (q := 9) (hT).s fok_5_7 wl_RX5_34 dX5_takeBack_6 rfl ?_
    refine tj_icmp_ge (tgt := 22) (q := 12) dX5_takeBack_9 (by decide) rfl ?_ ?_
    · refine tj_iconst (q := 23) (v := 0) dX5_takeBack_22 rfl (by decide) ?_
      exact tj_zret rfl (by decide) rfl (Nat.le_of_ble_eq_true rfl) (Nat.le_of_ble_eq_true rfl) dX5_takeBack_23
    · refine tj_aload_n (q := 13) dX5_takeBack_12 rfl (i := 0) rfl (pl := 0) rfl ?_
      refine tj_getR (q := 16) (hT).s (hT).p_untoldAt fok_5_6 wl_RX5_31 dX5_takeBack_13 rfl ?_
      refine tj_iload_n (q := 17) dX5_takeBack_16 rfl (i := 1) rfl (pl := 1) rfl ?_
      refine tj_iaload (q := 18) (hT).s_untoldAt dX5_takeBack_17 rfl ?_
      refine tj_topI (fun v1 => ?_)
      refine tj_iconst (q := 19) (v := (-1)) dX5_takeBack_18 rfl (by decide) ?_
      refine tj_icmp_eq (tgt := 24) (q := 22) dX5_takeBack_19 (by decide) rfl ?_ ?_
      · refine tj_aload_n (q := 25) dX5_takeBack_24 rfl (i := 0) rfl (pl := 0) rfl ?_
        refine tj_getR (q := 28) (hT).s (hT).p_untoldAt fok_5_6 wl_RX5_31 dX5_takeBack_25 rfl ?_
        refine tj_iload_n (q := 29) dX5_takeBack_28 rfl (i := 1) rfl (pl := 1) rfl ?_
        refine tj_iload_n (q := 30) dX5_takeBack_29 rfl (i := 2) rfl (pl := 2) rfl ?_
        refine tj_iastore (q := 31) (hT).s_untoldAt dX5_takeBack_30 rfl (fun σ2 => ?_)
        refine tj_iconst (q := 32) (v := 1) dX5_takeBack_31 rfl (by decide) ?_
        exact tj_zret rfl (by decide) rfl (Nat.le_of_ble_eq_true rfl) (Nat.le_of_ble_eq_true rfl) dX5_takeBack_32
      · refine tj_iconst (q := 23) (v := 0) dX5_takeBack_22 rfl (by decide) ?_
        exact tj_zret rfl (by decide) rfl (Nat.le_of_ble_eq_true rfl) (Nat.le_of_ble_eq_true rfl) dX5_takeBack_23

theorem dX5_isKnown_0 : decode cX5_isKnown 0 = .ok (.aload_n 0, 1) := by decide +kernel
theorem dX5_isKnown_1 : decode cX5_isKnown 1 = .ok (.getfield 28, 3) := by decide +kernel
theorem dX5_isKnown_4 : decode cX5_isKnown 4 = .ok (.iload_n 1, 1) := by decide +kernel
theorem dX5_isKnown_5 : decode cX5_isKnown 5 = .ok (.iaload, 1) := by decide +kernel
theorem dX5_isKnown_6 : decode cX5_isKnown 6 = .ok (.iload_n 2, 1) := by decide +kernel
theorem dX5_isKnown_7 : decode cX5_isKnown 7 = .ok (.if_icmp .gt 27, 3) := by decide +kernel
theorem dX5_isKnown_10 : decode cX5_isKnown 10 = .ok (.aload_n 0, 1) := by decide +kernel
theorem dX5_isKnown_11 : decode cX5_isKnown 11 = .ok (.getfield 31, 3) := by decide +kernel
theorem dX5_isKnown_14 : decode cX5_isKnown 14 = .ok (.iload_n 1, 1) := by decide +kernel
theorem dX5_isKnown_15 : decode cX5_isKnown 15 = .ok (.iaload, 1) := by decide +kernel
theorem dX5_isKnown_16 : decode cX5_isKnown 16 = .ok (.iconst (-1), 1) := by decide +kernel
theorem dX5_isKnown_17 : decode cX5_isKnown 17 = .ok (.if_icmp .eq 13, 3) := by decide +kernel
theorem dX5_isKnown_20 : decode cX5_isKnown 20 = .ok (.aload_n 0, 1) := by decide +kernel
theorem dX5_isKnown_21 : decode cX5_isKnown 21 = .ok (.getfield 31, 3) := by decide +kernel
theorem dX5_isKnown_24 : decode cX5_isKnown 24 = .ok (.iload_n 1, 1) := by decide +kernel
theorem dX5_isKnown_25 : decode cX5_isKnown 25 = .ok (.iaload, 1) := by decide +kernel
theorem dX5_isKnown_26 : decode cX5_isKnown 26 = .ok (.iload_n 2, 1) := by decide +kernel
theorem dX5_isKnown_27 : decode cX5_isKnown 27 = .ok (.if_icmp .le 7, 3) := by decide +kernel
theorem dX5_isKnown_30 : decode cX5_isKnown 30 = .ok (.iconst 1, 1) := by decide +kernel
theorem dX5_isKnown_31 : decode cX5_isKnown 31 = .ok (.goto 4, 3) := by decide +kernel
theorem dX5_isKnown_34 : decode cX5_isKnown 34 = .ok (.iconst 0, 1) := by decide +kernel
theorem dX5_isKnown_35 : decode cX5_isKnown 35 = .ok (.ireturn, 1) := by decide +kernel
def mX5_isKnown (t : Nat) (p1 : Int32) (p2 : Int32) (σ : St_) : Option Bool :=
 (if bin p1 30 = true then bnd (σ.1 (t + 6) p1.toNatClampNeg) fun v1 =>
 (if p2 < v1 then
 (some false)
 else (if bin p1 30 = true then bnd (σ.1 (t + 7) p1.toNatClampNeg) fun v2 =>
 (if v2 = (-1 : Int32) then
 (some true)
 else (if bin p1 30 = true then bnd (σ.1 (t + 7) p1.toNatClampNeg) fun v3 =>
 (if v3 ≤ p2 then
 (some false)
 else (some true))
 else none))
 else none))
 else none)
set_option maxHeartbeats 4000000 in
theorem rX5_isKnown (t : Nat) (p1 : Int32) (p2 : Int32) (hT : LY5 sh P t) : Rj l D cA h0 ad yX5_isKnown cX5_isKnown 3 (some .boolean) false 2 0 0 (fun b => (some (.int (b2i b)), sh, P, σ)) [.ref (h0 + t), .int p1, .int p2] sh P σ (mX5_isKnown t p1 p2 σ) := by
  rw [mX5_isKnown]
  refine Rj.of (by decide) (fun h => by cases h) (Nat.le_of_ble_eq_true rfl) ?_
  refine tj_lv0 (lv' := [(0, .ref (h0 + t)), (1, .int p1), (2, .int p2)]) rfl ?_
  refine tj_aload_n (q := 1) dX5_isKnown_0 rfl (i := 0) rfl (pl := 0) rfl ?_
  refine tj_getR (q := 4) (hT).s (hT).p_toldAt fok_5_5 wl_RX5_28 dX5_isKnown_1 rfl ?_
  refine tj_iload_n (q := 5) dX5_isKnown_4 rfl (i := 1) rfl (pl := 1) rfl ?_
  refine tj_iaload (q := 6) (hT).s_toldAt dX5_isKnown_5 rfl ?_
  refine tj_topI (fun v1 => ?_)
  refine tj_iload_n (q := 7) dX5_isKnown_6 rfl (i := 2) rfl (pl := 2) rfl ?_
  refine tj_icmp_gt (tgt := 34) (q := 10) dX5_isKnown_7 (by decide) rfl ?_ ?_
  · refine tj_iconst (q := 35) (v := 0) dX5_isKnown_34 rfl (by decide) ?_
    exact tj_zret rfl (by decide) rfl (Nat.le_of_ble_eq_true rfl) (Nat.le_of_ble_eq_true rfl) dX5_isKnown_35
  · refine tj_aload_n (q := 11) dX5_isKnown_10 rfl (i := 0) rfl (pl := 0) rfl ?_
    refine tj_getR (q := 14) (hT).s (hT).p_untoldAt fok_5_6 wl_RX5_31 dX5_isKnown_11 rfl ?_
    refine tj_iload_n (q := 15) dX5_isKnown_14 rfl (i := 1) rfl (pl := 1) rfl ?_
    refine tj_iaload (q := 16) (hT).s_untoldAt dX5_isKnown_15 rfl ?_
    refine tj_topI (fun v2 => ?_)
    refine tj_iconst (q := 17) (v := (-1)) dX5_isKnown_16 rfl (by decide) ?_
    refine tj_icmp_eq (tgt := 30) (q := 20) dX5_isKnown_17 (by decide) rfl ?_ ?_
    · refine tj_iconst (q := 31) (v := 1) dX5_isKnown_30 rfl (by decide) ?_
      refine tj_goto (q := 35) dX5_isKnown_31 (by decide) ?_
      exact tj_zret rfl (by decide) rfl (Nat.le_of_ble_eq_true rfl) (Nat.le_of_ble_eq_true rfl) dX5_isKnown_35
    · refine tj_aload_n (q := 21) dX5_isKnown_20 rfl (i := 0) rfl (pl := 0) rfl ?_
      refine tj_getR (q := 24) (hT).s (hT).p_untoldAt fok_5_6 wl_RX5_31 dX5_isKnown_21 rfl ?_
      refine tj_iload_n (q := 25) dX5_isKnown_24 rfl (i := 1) rfl (pl := 1) rfl ?_
      refine tj_iaload (q := 26) (hT).s_untoldAt dX5_isKnown_25 rfl ?_
      refine tj_topI (fun v3 => ?_)
      refine tj_iload_n (q := 27) dX5_isKnown_26 rfl (i := 2) rfl (pl := 2) rfl ?_
      refine tj_icmp_le (tgt := 34) (q := 30) dX5_isKnown_27 (by decide) rfl ?_ ?_
      · refine tj_iconst (q := 35) (v := 0) dX5_isKnown_34 rfl (by decide) ?_
        exact tj_zret rfl (by decide) rfl (Nat.le_of_ble_eq_true rfl) (Nat.le_of_ble_eq_true rfl) dX5_isKnown_35
      · refine tj_iconst (q := 31) (v := 1) dX5_isKnown_30 rfl (by decide) ?_
        refine tj_goto (q := 35) dX5_isKnown_31 (by decide) ?_
        exact tj_zret rfl (by decide) rfl (Nat.le_of_ble_eq_true rfl) (Nat.le_of_ble_eq_true rfl) dX5_isKnown_35

theorem dX5_allAreSo_0 : decode cX5_allAreSo 0 = .ok (.iconst 0, 1) := by decide +kernel
theorem dX5_allAreSo_1 : decode cX5_allAreSo 1 = .ok (.istore 4, 2) := by decide +kernel
theorem dX5_allAreSo_3 : decode cX5_allAreSo 3 = .ok (.iload 4, 2) := by decide +kernel
theorem dX5_allAreSo_5 : decode cX5_allAreSo 5 = .ok (.aload_n 0, 1) := by decide +kernel
theorem dX5_allAreSo_6 : decode cX5_allAreSo 6 = .ok (.getfield 34, 3) := by decide +kernel
theorem dX5_allAreSo_9 : decode cX5_allAreSo 9 = .ok (.if_icmp .ge 70, 3) := by decide +kernel
theorem dX5_allAreSo_12 : decode cX5_allAreSo 12 = .ok (.aload_n 0, 1) := by decide +kernel
theorem dX5_allAreSo_13 : decode cX5_allAreSo 13 = .ok (.getfield 11, 3) := by decide +kernel
theorem dX5_allAreSo_16 : decode cX5_allAreSo 16 = .ok (.iload 4, 2) := by decide +kernel
theorem dX5_allAreSo_18 : decode cX5_allAreSo 18 = .ok (.iaload, 1) := by decide +kernel
theorem dX5_allAreSo_19 : decode cX5_allAreSo 19 = .ok (.iload_n 2, 1) := by decide +kernel
theorem dX5_allAreSo_20 : decode cX5_allAreSo 20 = .ok (.if_icmp .ne 53, 3) := by decide +kernel
theorem dX5_allAreSo_23 : decode cX5_allAreSo 23 = .ok (.aload_n 0, 1) := by decide +kernel
theorem dX5_allAreSo_24 : decode cX5_allAreSo 24 = .ok (.iload 4, 2) := by decide +kernel
theorem dX5_allAreSo_26 : decode cX5_allAreSo 26 = .ok (.iload_n 3, 1) := by decide +kernel
theorem dX5_allAreSo_27 : decode cX5_allAreSo 27 = .ok (.invokevirtual 73, 3) := by decide +kernel
theorem dX5_allAreSo_30 : decode cX5_allAreSo 30 = .ok (.ifCond .eq 43, 3) := by decide +kernel
theorem dX5_allAreSo_33 : decode cX5_allAreSo 33 = .ok (.aload_n 1, 1) := by decide +kernel
theorem dX5_allAreSo_34 : decode cX5_allAreSo 34 = .ok (.iload_n 2, 1) := by decide +kernel
theorem dX5_allAreSo_35 : decode cX5_allAreSo 35 = .ok (.aload_n 0, 1) := by decide +kernel
theorem dX5_allAreSo_36 : decode cX5_allAreSo 36 = .ok (.getfield 15, 3) := by decide +kernel
theorem dX5_allAreSo_39 : decode cX5_allAreSo 39 = .ok (.iload 4, 2) := by decide +kernel
theorem dX5_allAreSo_41 : decode cX5_allAreSo 41 = .ok (.iaload, 1) := by decide +kernel
theorem dX5_allAreSo_42 : decode cX5_allAreSo 42 = .ok (.aload_n 0, 1) := by decide +kernel
theorem dX5_allAreSo_43 : decode cX5_allAreSo 43 = .ok (.getfield 18, 3) := by decide +kernel
theorem dX5_allAreSo_46 : decode cX5_allAreSo 46 = .ok (.iload 4, 2) := by decide +kernel
theorem dX5_allAreSo_48 : decode cX5_allAreSo 48 = .ok (.iaload, 1) := by decide +kernel
theorem dX5_allAreSo_49 : decode cX5_allAreSo 49 = .ok (.iconst (-1), 1) := by decide +kernel
theorem dX5_allAreSo_50 : decode cX5_allAreSo 50 = .ok (.aload_n 0, 1) := by decide +kernel
theorem dX5_allAreSo_51 : decode cX5_allAreSo 51 = .ok (.getfield 21, 3) := by decide +kernel
theorem dX5_allAreSo_54 : decode cX5_allAreSo 54 = .ok (.iload 4, 2) := by decide +kernel
theorem dX5_allAreSo_56 : decode cX5_allAreSo 56 = .ok (.iaload, 1) := by decide +kernel
theorem dX5_allAreSo_57 : decode cX5_allAreSo 57 = .ok (.iconst 0, 1) := by decide +kernel
theorem dX5_allAreSo_58 : decode cX5_allAreSo 58 = .ok (.invokevirtual 77, 3) := by decide +kernel
theorem dX5_allAreSo_61 : decode cX5_allAreSo 61 = .ok (.aload_n 0, 1) := by decide +kernel
theorem dX5_allAreSo_62 : decode cX5_allAreSo 62 = .ok (.getfield 24, 3) := by decide +kernel
theorem dX5_allAreSo_65 : decode cX5_allAreSo 65 = .ok (.iload 4, 2) := by decide +kernel
theorem dX5_allAreSo_67 : decode cX5_allAreSo 67 = .ok (.baload, 1) := by decide +kernel
theorem dX5_allAreSo_68 : decode cX5_allAreSo 68 = .ok (.if_icmp .eq 5, 3) := by decide +kernel
theorem dX5_allAreSo_71 : decode cX5_allAreSo 71 = .ok (.iconst 0, 1) := by decide +kernel
theorem dX5_allAreSo_72 : decode cX5_allAreSo 72 = .ok (.ireturn, 1) := by decide +kernel
theorem dX5_allAreSo_73 : decode cX5_allAreSo 73 = .ok (.iinc 4 1, 3) := by decide +kernel
theorem dX5_allAreSo_76 : decode cX5_allAreSo 76 = .ok (.goto (-73), 3) := by decide +kernel
theorem dX5_allAreSo_79 : decode cX5_allAreSo 79 = .ok (.iconst 1, 1) := by decide +kernel
theorem dX5_allAreSo_80 : decode cX5_allAreSo 80 = .ok (.ireturn, 1) := by decide +kernel
theorem wm_X5_isKnown : Cond.instanceMethod yX5_isKnown ∈ TB ∧ Cond.selects yX5_isKnown.cls yX5_isKnown yX5_isKnown ∈ TB ∧ Cond.initialized yX5_isKnown.cls ∈ TB ∧ Cond.code yX5_isKnown cX5_isKnown 3 (some .boolean) ∈ TB ∧ (yX5_isKnown.cls ≠ "java/lang/invoke/MethodHandle" ∧ yX5_isKnown.cls ≠ "java/lang/invoke/VarHandle" ∧ (parseMethodDescriptor yX5_isKnown.desc).map (fun d => d.parameters.length) = some 2) ∧ 3 ≤ 21 := ⟨tbm 1376 (by decide +kernel) (by decide +kernel), tbm 53 (by decide +kernel) (by decide +kernel), tbm 142 (by decide +kernel) (by decide +kernel), tbm 1377 (by decide +kernel) (by decide +kernel), by decide +kernel, by decide⟩
theorem wi_RX5_73 : Iv RX5 73 yX5_isKnown cX5_isKnown 3 (some .boolean) 2 := ⟨tbm 1374 (by decide +kernel) (by decide +kernel), wm_X5_isKnown⟩
theorem wi_RX5_77 : Iv RX5 77 yX1_isLawfulFor cX1_isLawfulFor 11 (some .boolean) 6 := ⟨tbm 1378 (by decide +kernel) (by decide +kernel), wm_X1_isLawfulFor⟩
def mX5_allAreSo_L3 (t : Nat) (p1 : Nat) (x2 : Int32) (x3 : Int32) : Nat → Int32 → St_ → Option (Bool × St_)
  | 0, _, _ => none
  | n + 1, x4, σ => (if (σ.1 t 7) ≤ x4 then
 (some (true, σ))
 else (if bin x4 30 = true then bnd (σ.1 (t + 1) x4.toNatClampNeg) fun v1 =>
 (bnd (fun (σ2 : St_) => (mX5_allAreSo_L3 t p1 x2 x3 n (x4 + 1) σ2)) fun k3 =>
 (if v1 = x2 then
 ((mX5_isKnown t x4 x3 σ).bind fun r5 =>
 (if r5 = true then
 (if bin x4 30 = true then bnd (σ.1 (t + 2) x4.toNatClampNeg) fun v6 =>
 (if bin x4 30 = true then bnd (σ.1 (t + 3) x4.toNatClampNeg) fun v7 =>
 (if bin x4 30 = true then bnd (σ.1 (t + 4) x4.toNatClampNeg) fun v8 =>
 ((mX1_isLawfulFor p1 x2 v6 v7 (-1 : Int32) v8 (0 : Int32) σ).bind fun r9 =>
 (if bin x4 30 = true then if isB (r9.2.1 (t + 5) x4.toNatClampNeg) = true then bnd (r9.2.1 (t + 5) x4.toNatClampNeg == 1) fun v10 =>
 (if (b2i r9.1) = (b2i v10) then
 (k3 r9.2)
 else (some (false, r9.2)))
 else none else none))
 else none)
 else none)
 else none)
 else (k3 σ)))
 else (k3 σ)))
 else none))
def mX5_allAreSo (t : Nat) (p1 : Nat) (p2 : Int32) (p3 : Int32) (σ : St_) : Option (Bool × St_) :=
 (mX5_allAreSo_L3 t p1 p2 p3 FU (0 : Int32) σ)
set_option maxHeartbeats 4000000 in
theorem tmX5_allAreSo_L3 (t : Nat) (p1 : Nat) (hT : LY5 sh P t) (hp1 : LY1 sh P p1) (x2 : Int32) (x3 : Int32) : ∀ (n : Nat) (x4 : Int32) (σ : St_), Tj l D cA h0 ad RX5 cX5_allAreSo 5 (some .boolean) false 5 0 0 (fun b => (some (.int (b2i b.1)), sh, P, b.2)) 0 0 sh P σ 3 [(0, .ref (h0 + t)), (1, .ref (h0 + p1)), (2, .int x2), (3, .int x3), (4, .int x4)] [] (mX5_allAreSo_L3 t p1 x2 x3 n x4 σ) := by
  intro n
  induction n with
  | zero => intros; exact tj_none
  | succ n ih =>
    intro x4 σ
    rw [mX5_allAreSo_L3]
    refine tj_iload (q := 5) dX5_allAreSo_3 rfl (pl := 4) rfl ?_
    refine tj_aload_n (q := 6) dX5_allAreSo_5 rfl (i := 0) rfl (pl := 0) rfl ?_
    refine tj_getI (q := 9) (hT).s fok_5_7 wl_RX5_34 dX5_allAreSo_6 rfl ?_
    refine tj_icmp_ge (tgt := 79) (q := 12) dX5_allAreSo_9 (by decide) rfl ?_ ?_
    · refine tj_iconst (q := 80) (v := 1) dX5_allAreSo_79 rfl (by decide) ?_
      exact tj_zret rfl (by decide) rfl (Nat.le_of_ble_eq_true rfl) (Nat.le_of_ble_eq_true rfl) dX5_allAreSo_80
    · refine tj_aload_n (q := 13) dX5_allAreSo_12 rfl (i := 0) rfl (pl := 0) rfl ?_
      refine tj_getR (q := 16) (hT).s (hT).p_house fok_5_0 wl_RX5_11 dX5_allAreSo_13 rfl ?_
      refine tj_iload (q := 18) dX5_allAreSo_16 rfl (pl := 4) rfl ?_
      refine tj_iaload (q := 19) (hT).s_house dX5_allAreSo_18 rfl ?_
      refine tj_topI (fun v1 => ?_)
      refine tj_iload_n (q := 20) dX5_allAreSo_19 rfl (i := 2) rfl (pl := 2) rfl ?_
      refine tj_bnd (fun k3 => ∀ (σ2 : St_), Tj l D cA h0 ad RX5 cX5_allAreSo 5 (some .boolean) false 5 0 0 (fun b => (some (.int (b2i b.1)), sh, P, b.2)) 0 0 sh P σ2 73 [(0, .ref (h0 + t)), (1, .ref (h0 + p1)), (2, .int x2), (3, .int x3), (4, .int x4)] [] (k3 σ2)) ?_ (fun k3 hk4 => ?_)
      · intro σ2
        refine tj_iinc (q := 76) (v := x4 + 1) dX5_allAreSo_73 rfl (pl := 4) rfl rfl (by decide) rfl ?_
        refine tj_goto (q := 3) dX5_allAreSo_76 (by decide) ?_
        refine tj_lv [1, 2, 3, 4, 0] rfl ?_
        exact ih (x4 + 1) σ2
      · refine tj_icmp_ne (tgt := 73) (q := 23) dX5_allAreSo_20 (by decide) rfl ?_ ?_
        · refine tj_aload_n (q := 24) dX5_allAreSo_23 rfl (i := 0) rfl (pl := 0) rfl ?_
          refine tj_iload (q := 26) dX5_allAreSo_24 rfl (pl := 4) rfl ?_
          refine tj_iload_n (q := 27) dX5_allAreSo_26 rfl (i := 3) rfl (pl := 3) rfl ?_
          refine tj_callZp (q := 30) (kj_V (As := [.int x4, .int x3]) (rest := []) (t := t) wi_RX5_73 (hT).s rfl (rX5_isKnown t x4 x3 (hT)) rfl (Nat.le_of_ble_eq_true rfl) ⟨Nat.le_of_ble_eq_true rfl, Nat.le_of_ble_eq_true rfl⟩ (Nat.le_of_ble_eq_true rfl) dX5_allAreSo_27) rfl (fun r5 => ?_)
          refine tj_bz (tgt := 73) (q := 33) dX5_allAreSo_30 (by decide) rfl ?_ ?_
          · refine tj_aload_n (q := 34) dX5_allAreSo_33 rfl (i := 1) rfl (pl := 1) rfl ?_
            refine tj_iload_n (q := 35) dX5_allAreSo_34 rfl (i := 2) rfl (pl := 2) rfl ?_
            refine tj_aload_n (q := 36) dX5_allAreSo_35 rfl (i := 0) rfl (pl := 0) rfl ?_
            refine tj_getR (q := 39) (hT).s (hT).p_taken fok_5_1 wl_RX5_15 dX5_allAreSo_36 rfl ?_
            refine tj_iload (q := 41) dX5_allAreSo_39 rfl (pl := 4) rfl ?_
            refine tj_iaload (q := 42) (hT).s_taken dX5_allAreSo_41 rfl ?_
            refine tj_topI (fun v6 => ?_)
            refine tj_aload_n (q := 43) dX5_allAreSo_42 rfl (i := 0) rfl (pl := 0) rfl ?_
            refine tj_getR (q := 46) (hT).s (hT).p_left fok_5_2 wl_RX5_18 dX5_allAreSo_43 rfl ?_
            refine tj_iload (q := 48) dX5_allAreSo_46 rfl (pl := 4) rfl ?_
            refine tj_iaload (q := 49) (hT).s_left dX5_allAreSo_48 rfl ?_
            refine tj_topI (fun v7 => ?_)
            refine tj_iconst (q := 50) (v := (-1)) dX5_allAreSo_49 rfl (by decide) ?_
            refine tj_aload_n (q := 51) dX5_allAreSo_50 rfl (i := 0) rfl (pl := 0) rfl ?_
            refine tj_getR (q := 54) (hT).s (hT).p_hour fok_5_3 wl_RX5_21 dX5_allAreSo_51 rfl ?_
            refine tj_iload (q := 56) dX5_allAreSo_54 rfl (pl := 4) rfl ?_
            refine tj_iaload (q := 57) (hT).s_hour dX5_allAreSo_56 rfl ?_
            refine tj_topI (fun v8 => ?_)
            refine tj_iconst (q := 58) (v := 0) dX5_allAreSo_57 rfl (by decide) ?_
            refine tj_callZ (q := 61) (kj_V (As := [.int x2, .int v6, .int v7, .int (-1 : Int32), .int v8, .int (0 : Int32)]) (rest := []) (t := p1) wi_RX5_77 (hp1).s rfl (rX1_isLawfulFor p1 x2 v6 v7 (-1 : Int32) v8 (0 : Int32) (hp1)) rfl (Nat.le_of_ble_eq_true rfl) ⟨Nat.le_of_ble_eq_true rfl, Nat.le_of_ble_eq_true rfl⟩ (Nat.le_of_ble_eq_true rfl) dX5_allAreSo_58) rfl (fun r9 => ?_)
            refine tj_aload_n (q := 62) dX5_allAreSo_61 rfl (i := 0) rfl (pl := 0) rfl ?_
            refine tj_getR (q := 65) (hT).s (hT).p_lawful fok_5_4 wl_RX5_24 dX5_allAreSo_62 rfl ?_
            refine tj_iload (q := 67) dX5_allAreSo_65 rfl (pl := 4) rfl ?_
            refine tj_zaloadB (q := 68) (hT).s_lawful dX5_allAreSo_67 rfl (fun v10 => ?_)
            refine tj_icmp_eq (tgt := 73) (q := 71) dX5_allAreSo_68 (by decide) rfl ?_ ?_
            · exact hk4 r9.2
            · refine tj_iconst (q := 72) (v := 0) dX5_allAreSo_71 rfl (by decide) ?_
              exact tj_zret rfl (by decide) rfl (Nat.le_of_ble_eq_true rfl) (Nat.le_of_ble_eq_true rfl) dX5_allAreSo_72
          · exact hk4 σ
        · exact hk4 σ

set_option maxHeartbeats 4000000 in
theorem rX5_allAreSo (t : Nat) (p1 : Nat) (p2 : Int32) (p3 : Int32) (hT : LY5 sh P t) (hp1 : LY1 sh P p1) : Rj l D cA h0 ad yX5_allAreSo cX5_allAreSo 5 (some .boolean) false 5 0 0 (fun b => (some (.int (b2i b.1)), sh, P, b.2)) [.ref (h0 + t), .ref (h0 + p1), .int p2, .int p3] sh P σ (mX5_allAreSo t p1 p2 p3 σ) := by
  rw [mX5_allAreSo]
  refine Rj.of (by decide) (fun h => by cases h) (Nat.le_of_ble_eq_true rfl) ?_
  refine tj_lv0 (lv' := [(0, .ref (h0 + t)), (1, .ref (h0 + p1)), (2, .int p2), (3, .int p3)]) rfl ?_
  refine tj_iconst (q := 1) (v := 0) dX5_allAreSo_0 rfl (by decide) ?_
  refine tj_istore (q := 3) dX5_allAreSo_1 rfl (by decide) rfl ?_
  refine tj_lv [1, 2, 3, 4, 0] rfl ?_
  exact tmX5_allAreSo_L3 t p1 hT hp1 p2 p3 FU (0 : Int32) σ

theorem dX5_fit_0 : decode cX5_fit 0 = .ok (.aload_n 0, 1) := by decide +kernel
theorem dX5_fit_1 : decode cX5_fit 1 = .ok (.iconst 0, 1) := by decide +kernel
theorem dX5_fit_2 : decode cX5_fit 2 = .ok (.putfield 41, 3) := by decide +kernel
theorem dX5_fit_5 : decode cX5_fit 5 = .ok (.aload_n 0, 1) := by decide +kernel
theorem dX5_fit_6 : decode cX5_fit 6 = .ok (.iconst (-1), 1) := by decide +kernel
theorem dX5_fit_7 : decode cX5_fit 7 = .ok (.putfield 44, 3) := by decide +kernel
theorem dX5_fit_10 : decode cX5_fit 10 = .ok (.aload_n 0, 1) := by decide +kernel
theorem dX5_fit_11 : decode cX5_fit 11 = .ok (.iconst (-1), 1) := by decide +kernel
theorem dX5_fit_12 : decode cX5_fit 12 = .ok (.putfield 47, 3) := by decide +kernel
theorem dX5_fit_15 : decode cX5_fit 15 = .ok (.iconst 0, 1) := by decide +kernel
theorem dX5_fit_16 : decode cX5_fit 16 = .ok (.istore 5, 2) := by decide +kernel
theorem dX5_fit_18 : decode cX5_fit 18 = .ok (.iload 5, 2) := by decide +kernel
theorem dX5_fit_20 : decode cX5_fit 20 = .ok (.bipush 100, 2) := by decide +kernel
theorem dX5_fit_22 : decode cX5_fit 22 = .ok (.if_icmp .ge 72, 3) := by decide +kernel
theorem dX5_fit_25 : decode cX5_fit 25 = .ok (.aload_n 1, 1) := by decide +kernel
theorem dX5_fit_26 : decode cX5_fit 26 = .ok (.iload_n 2, 1) := by decide +kernel
theorem dX5_fit_27 : decode cX5_fit 27 = .ok (.iload_n 3, 1) := by decide +kernel
theorem dX5_fit_28 : decode cX5_fit 28 = .ok (.iload 5, 2) := by decide +kernel
theorem dX5_fit_30 : decode cX5_fit 30 = .ok (.invokevirtual 59, 3) := by decide +kernel
theorem dX5_fit_33 : decode cX5_fit 33 = .ok (.aload_n 0, 1) := by decide +kernel
theorem dX5_fit_34 : decode cX5_fit 34 = .ok (.getfield 38, 3) := by decide +kernel
theorem dX5_fit_37 : decode cX5_fit 37 = .ok (.iload 5, 2) := by decide +kernel
theorem dX5_fit_39 : decode cX5_fit 39 = .ok (.aload_n 0, 1) := by decide +kernel
theorem dX5_fit_40 : decode cX5_fit 40 = .ok (.aload_n 1, 1) := by decide +kernel
theorem dX5_fit_41 : decode cX5_fit 41 = .ok (.iload_n 2, 1) := by decide +kernel
theorem dX5_fit_42 : decode cX5_fit 42 = .ok (.iload 4, 2) := by decide +kernel
theorem dX5_fit_44 : decode cX5_fit 44 = .ok (.invokevirtual 65, 3) := by decide +kernel
theorem dX5_fit_47 : decode cX5_fit 47 = .ok (.bastore, 1) := by decide +kernel
theorem dX5_fit_48 : decode cX5_fit 48 = .ok (.aload_n 0, 1) := by decide +kernel
theorem dX5_fit_49 : decode cX5_fit 49 = .ok (.getfield 38, 3) := by decide +kernel
theorem dX5_fit_52 : decode cX5_fit 52 = .ok (.iload 5, 2) := by decide +kernel
theorem dX5_fit_54 : decode cX5_fit 54 = .ok (.baload, 1) := by decide +kernel
theorem dX5_fit_55 : decode cX5_fit 55 = .ok (.ifCond .eq 33, 3) := by decide +kernel
theorem dX5_fit_58 : decode cX5_fit 58 = .ok (.aload_n 0, 1) := by decide +kernel
theorem dX5_fit_59 : decode cX5_fit 59 = .ok (.dup, 1) := by decide +kernel
theorem dX5_fit_60 : decode cX5_fit 60 = .ok (.getfield 41, 3) := by decide +kernel
theorem dX5_fit_63 : decode cX5_fit 63 = .ok (.iconst 1, 1) := by decide +kernel
theorem dX5_fit_64 : decode cX5_fit 64 = .ok (.iadd, 1) := by decide +kernel
theorem dX5_fit_65 : decode cX5_fit 65 = .ok (.putfield 41, 3) := by decide +kernel
theorem dX5_fit_68 : decode cX5_fit 68 = .ok (.aload_n 0, 1) := by decide +kernel
theorem dX5_fit_69 : decode cX5_fit 69 = .ok (.iload 5, 2) := by decide +kernel
theorem dX5_fit_71 : decode cX5_fit 71 = .ok (.putfield 47, 3) := by decide +kernel
theorem dX5_fit_74 : decode cX5_fit 74 = .ok (.aload_n 0, 1) := by decide +kernel
theorem dX5_fit_75 : decode cX5_fit 75 = .ok (.getfield 44, 3) := by decide +kernel
theorem dX5_fit_78 : decode cX5_fit 78 = .ok (.iconst (-1), 1) := by decide +kernel
theorem dX5_fit_79 : decode cX5_fit 79 = .ok (.if_icmp .ne 9, 3) := by decide +kernel
theorem dX5_fit_82 : decode cX5_fit 82 = .ok (.aload_n 0, 1) := by decide +kernel
theorem dX5_fit_83 : decode cX5_fit 83 = .ok (.iload 5, 2) := by decide +kernel
theorem dX5_fit_85 : decode cX5_fit 85 = .ok (.putfield 44, 3) := by decide +kernel
theorem dX5_fit_88 : decode cX5_fit 88 = .ok (.iinc 5 1, 3) := by decide +kernel
theorem dX5_fit_91 : decode cX5_fit 91 = .ok (.goto (-73), 3) := by decide +kernel
theorem dX5_fit_94 : decode cX5_fit 94 = .ok (.aload_n 1, 1) := by decide +kernel
theorem dX5_fit_95 : decode cX5_fit 95 = .ok (.iload_n 2, 1) := by decide +kernel
theorem dX5_fit_96 : decode cX5_fit 96 = .ok (.iload_n 3, 1) := by decide +kernel
theorem dX5_fit_97 : decode cX5_fit 97 = .ok (.invokevirtual 69, 3) := by decide +kernel
theorem dX5_fit_100 : decode cX5_fit 100 = .ok (.return_, 1) := by decide +kernel
theorem wl_RX5_41 : Cond.fieldLink RX5 41 (TX5 9).1 (TX5 9).2.1 (TX5 9).2.2.1 ∈ TB := tbm 448 (by decide +kernel) (by decide +kernel)
theorem wl_RX5_44 : Cond.fieldLink RX5 44 (TX5 10).1 (TX5 10).2.1 (TX5 10).2.2.1 ∈ TB := tbm 450 (by decide +kernel) (by decide +kernel)
theorem wl_RX5_47 : Cond.fieldLink RX5 47 (TX5 11).1 (TX5 11).2.1 (TX5 11).2.2.1 ∈ TB := tbm 452 (by decide +kernel) (by decide +kernel)
theorem wi_RX5_59 : Iv RX5 59 yX1_say cX1_say 4 none 3 := ⟨tbm 1369 (by decide +kernel) (by decide +kernel), wm_X1_say⟩
theorem wl_RX5_38 : Cond.fieldLink RX5 38 (TX5 8).1 (TX5 8).2.1 (TX5 8).2.2.1 ∈ TB := tbm 447 (by decide +kernel) (by decide +kernel)
theorem wm_X5_allAreSo : Cond.instanceMethod yX5_allAreSo ∈ TB ∧ Cond.selects yX5_allAreSo.cls yX5_allAreSo yX5_allAreSo ∈ TB ∧ Cond.initialized yX5_allAreSo.cls ∈ TB ∧ Cond.code yX5_allAreSo cX5_allAreSo 5 (some .boolean) ∈ TB ∧ (yX5_allAreSo.cls ≠ "java/lang/invoke/MethodHandle" ∧ yX5_allAreSo.cls ≠ "java/lang/invoke/VarHandle" ∧ (parseMethodDescriptor yX5_allAreSo.desc).map (fun d => d.parameters.length) = some 3) ∧ 5 ≤ 21 := ⟨tbm 1372 (by decide +kernel) (by decide +kernel), tbm 52 (by decide +kernel) (by decide +kernel), tbm 142 (by decide +kernel) (by decide +kernel), tbm 1373 (by decide +kernel) (by decide +kernel), by decide +kernel, by decide⟩
theorem wi_RX5_65 : Iv RX5 65 yX5_allAreSo cX5_allAreSo 5 (some .boolean) 3 := ⟨tbm 1370 (by decide +kernel) (by decide +kernel), wm_X5_allAreSo⟩
theorem wi_RX5_69 : Iv RX5 69 yX1_sayTruth cX1_sayTruth 3 none 2 := ⟨tbm 1379 (by decide +kernel) (by decide +kernel), wm_X1_sayTruth⟩
def mX5_fit_L18 (t : Nat) (p1 : Nat) (x2 : Int32) (x3 : Int32) (x4 : Int32) (k94 : St_ → Option St_) : Nat → Int32 → St_ → Option St_
  | 0, _, _ => none
  | n + 1, x5, σ => (if (100 : Int32) ≤ x5 then
 (k94 σ)
 else ((mX1_say p1 x2 x3 x5 σ).bind fun σ4 =>
 ((mX5_allAreSo t p1 x2 x4 σ4).bind fun r5 =>
 (if bin x5 100 = true then bnd (sI r5.2 (t + 8) x5.toNatClampNeg (b2i r5.1)) fun σ6 =>
 (if bin x5 100 = true then if isB (σ6.1 (t + 8) x5.toNatClampNeg) = true then bnd (σ6.1 (t + 8) x5.toNatClampNeg == 1) fun v7 =>
 (bnd (fun (σ8 : St_) => (mX5_fit_L18 t p1 x2 x3 x4 k94 n (x5 + 1) σ8)) fun k9 =>
 (if v7 = true then
 (bnd (sI σ6 t 9 ((σ6.1 t 9) + (1 : Int32))) fun σ11 =>
 (bnd (sI σ11 t 11 x5) fun σ12 =>
 (if (σ12.1 t 10) = (-1 : Int32) then
 (bnd (sI σ12 t 10 x5) fun σ13 =>
 (k9 σ13))
 else (k9 σ12))))
 else (k9 σ6)))
 else none else none)
 else none))))
def mX5_fit (t : Nat) (p1 : Nat) (p2 : Int32) (p3 : Int32) (p4 : Int32) (σ : St_) : Option St_ :=
 (bnd (sI σ t 9 (0 : Int32)) fun σ1 =>
 (bnd (sI σ1 t 10 (-1 : Int32)) fun σ2 =>
 (bnd (sI σ2 t 11 (-1 : Int32)) fun σ3 =>
 (mX5_fit_L18 t p1 p2 p3 p4
 (fun (σ14 : St_) => ((mX1_sayTruth p1 p2 p3 σ14).bind fun σ15 =>
 (some σ15))) FU (0 : Int32) σ3))))
set_option maxHeartbeats 4000000 in
theorem tmX5_fit_L18 (t : Nat) (p1 : Nat) (hT : LY5 sh P t) (hp1 : LY1 sh P p1) (x2 : Int32) (x3 : Int32) (x4 : Int32) (k94 : St_ → Option St_) (hk94 : ∀ (σ1 : St_), Tj l D cA h0 ad RX5 cX5_fit 6 none false 6 0 0 (fun b => (none, sh, P, b)) 0 0 sh P σ1 94 [(1, .ref (h0 + p1)), (2, .int x2), (3, .int x3)] [] (k94 σ1)) : ∀ (n : Nat) (x5 : Int32) (σ : St_), Tj l D cA h0 ad RX5 cX5_fit 6 none false 6 0 0 (fun b => (none, sh, P, b)) 0 0 sh P σ 18 [(0, .ref (h0 + t)), (1, .ref (h0 + p1)), (2, .int x2), (3, .int x3), (4, .int x4), (5, .int x5)] [] (mX5_fit_L18 t p1 x2 x3 x4 k94 n x5 σ) := by
  intro n
  induction n with
  | zero => intros; exact tj_none
  | succ n ih =>
    intro x5 σ
    rw [mX5_fit_L18]
    refine tj_iload (q := 20) dX5_fit_18 rfl (pl := 5) rfl ?_
    refine tj_bipush (q := 22) (v := 100) dX5_fit_20 rfl (by decide) ?_
    refine tj_icmp_ge (tgt := 94) (q := 25) dX5_fit_22 (by decide) rfl ?_ ?_
    · refine tj_lv [1, 2, 3] rfl ?_
      exact hk94 σ
    · refine tj_aload_n (q := 26) dX5_fit_25 rfl (i := 1) rfl (pl := 1) rfl ?_
      refine tj_iload_n (q := 27) dX5_fit_26 rfl (i := 2) rfl (pl := 2) rfl ?_
      refine tj_iload_n (q := 28) dX5_fit_27 rfl (i := 3) rfl (pl := 3) rfl ?_
      refine tj_iload (q := 30) dX5_fit_28 rfl (pl := 5) rfl ?_
      refine tj_callV (q := 33) (kj_V (As := [.int x2, .int x3, .int x5]) (rest := []) (t := p1) wi_RX5_59 (hp1).s rfl (rX1_say p1 x2 x3 x5 (hp1)) rfl (Nat.le_of_ble_eq_true rfl) ⟨Nat.le_of_ble_eq_true rfl, Nat.le_of_ble_eq_true rfl⟩ (Nat.le_of_ble_eq_true rfl) dX5_fit_30) rfl (fun σ4 => ?_)
      refine tj_aload_n (q := 34) dX5_fit_33 rfl (i := 0) rfl (pl := 0) rfl ?_
      refine tj_getR (q := 37) (hT).s (hT).p_fits fok_5_8 wl_RX5_38 dX5_fit_34 rfl ?_
      refine tj_iload (q := 39) dX5_fit_37 rfl (pl := 5) rfl ?_
      refine tj_aload_n (q := 40) dX5_fit_39 rfl (i := 0) rfl (pl := 0) rfl ?_
      refine tj_aload_n (q := 41) dX5_fit_40 rfl (i := 1) rfl (pl := 1) rfl ?_
      refine tj_iload_n (q := 42) dX5_fit_41 rfl (i := 2) rfl (pl := 2) rfl ?_
      refine tj_iload (q := 44) dX5_fit_42 rfl (pl := 4) rfl ?_
      refine tj_callZ (q := 47) (kj_V (As := [.ref (h0 + p1), .int x2, .int x4]) (rest := [.int x5, .ref (h0 + (t + 8))]) (t := t) wi_RX5_65 (hT).s rfl (rX5_allAreSo t p1 x2 x4 (hT) (hp1)) rfl (Nat.le_of_ble_eq_true rfl) ⟨Nat.le_of_ble_eq_true rfl, Nat.le_of_ble_eq_true rfl⟩ (Nat.le_of_ble_eq_true rfl) dX5_fit_44) rfl (fun r5 => ?_)
      refine tj_zastore (x := r5.1) (q := 48) (hT).s_fits dX5_fit_47 rfl (fun σ6 => ?_)
      refine tj_aload_n (q := 49) dX5_fit_48 rfl (i := 0) rfl (pl := 0) rfl ?_
      refine tj_getR (q := 52) (hT).s (hT).p_fits fok_5_8 wl_RX5_38 dX5_fit_49 rfl ?_
      refine tj_iload (q := 54) dX5_fit_52 rfl (pl := 5) rfl ?_
      refine tj_zaloadB (q := 55) (hT).s_fits dX5_fit_54 rfl (fun v7 => ?_)
      refine tj_bnd (fun k9 => ∀ (σ8 : St_), Tj l D cA h0 ad RX5 cX5_fit 6 none false 6 0 0 (fun b => (none, sh, P, b)) 0 0 sh P σ8 88 [(0, .ref (h0 + t)), (1, .ref (h0 + p1)), (2, .int x2), (3, .int x3), (4, .int x4), (5, .int x5)] [] (k9 σ8)) ?_ (fun k9 hk10 => ?_)
      · intro σ8
        refine tj_iinc (q := 91) (v := x5 + 1) dX5_fit_88 rfl (pl := 5) rfl rfl (by decide) rfl ?_
        refine tj_goto (q := 18) dX5_fit_91 (by decide) ?_
        refine tj_lv [1, 2, 3, 4, 5, 0] rfl ?_
        exact ih (x5 + 1) σ8
      · refine tj_bz (tgt := 88) (q := 58) dX5_fit_55 (by decide) rfl ?_ ?_
        · refine tj_aload_n (q := 59) dX5_fit_58 rfl (i := 0) rfl (pl := 0) rfl ?_
          refine tj_dup (q := 60) dX5_fit_59 rfl rfl ?_
          refine tj_getI (q := 63) (hT).s fok_5_9 wl_RX5_41 dX5_fit_60 rfl ?_
          refine tj_iconst (q := 64) (v := 1) dX5_fit_63 rfl (by decide) ?_
          refine tj_iadd (q := 65) dX5_fit_64 rfl ?_
          refine tj_putI (q := 68) (hT).s fok_5_9 tok_5 fpk_5_9 wl_RX5_41 dX5_fit_65 rfl (fun σ11 => ?_)
          refine tj_aload_n (q := 69) dX5_fit_68 rfl (i := 0) rfl (pl := 0) rfl ?_
          refine tj_iload (q := 71) dX5_fit_69 rfl (pl := 5) rfl ?_
          refine tj_putI (q := 74) (hT).s fok_5_11 tok_5 fpk_5_11 wl_RX5_47 dX5_fit_71 rfl (fun σ12 => ?_)
          refine tj_aload_n (q := 75) dX5_fit_74 rfl (i := 0) rfl (pl := 0) rfl ?_
          refine tj_getI (q := 78) (hT).s fok_5_10 wl_RX5_44 dX5_fit_75 rfl ?_
          refine tj_iconst (q := 79) (v := (-1)) dX5_fit_78 rfl (by decide) ?_
          refine tj_icmp_ne (tgt := 88) (q := 82) dX5_fit_79 (by decide) rfl ?_ ?_
          · refine tj_aload_n (q := 83) dX5_fit_82 rfl (i := 0) rfl (pl := 0) rfl ?_
            refine tj_iload (q := 85) dX5_fit_83 rfl (pl := 5) rfl ?_
            refine tj_putI (q := 88) (hT).s fok_5_10 tok_5 fpk_5_10 wl_RX5_44 dX5_fit_85 rfl (fun σ13 => ?_)
            exact hk10 σ13
          · exact hk10 σ12
        · exact hk10 σ6

set_option maxHeartbeats 4000000 in
theorem rX5_fit (t : Nat) (p1 : Nat) (p2 : Int32) (p3 : Int32) (p4 : Int32) (hT : LY5 sh P t) (hp1 : LY1 sh P p1) : Rj l D cA h0 ad yX5_fit cX5_fit 6 none false 6 0 0 (fun b => (none, sh, P, b)) [.ref (h0 + t), .ref (h0 + p1), .int p2, .int p3, .int p4] sh P σ (mX5_fit t p1 p2 p3 p4 σ) := by
  rw [mX5_fit]
  refine Rj.of (by decide) (fun h => by cases h) (Nat.le_of_ble_eq_true rfl) ?_
  refine tj_lv0 (lv' := [(0, .ref (h0 + t)), (1, .ref (h0 + p1)), (2, .int p2), (3, .int p3), (4, .int p4)]) rfl ?_
  refine tj_aload_n (q := 1) dX5_fit_0 rfl (i := 0) rfl (pl := 0) rfl ?_
  refine tj_iconst (q := 2) (v := 0) dX5_fit_1 rfl (by decide) ?_
  refine tj_putI (q := 5) (hT).s fok_5_9 tok_5 fpk_5_9 wl_RX5_41 dX5_fit_2 rfl (fun σ1 => ?_)
  refine tj_aload_n (q := 6) dX5_fit_5 rfl (i := 0) rfl (pl := 0) rfl ?_
  refine tj_iconst (q := 7) (v := (-1)) dX5_fit_6 rfl (by decide) ?_
  refine tj_putI (q := 10) (hT).s fok_5_10 tok_5 fpk_5_10 wl_RX5_44 dX5_fit_7 rfl (fun σ2 => ?_)
  refine tj_aload_n (q := 11) dX5_fit_10 rfl (i := 0) rfl (pl := 0) rfl ?_
  refine tj_iconst (q := 12) (v := (-1)) dX5_fit_11 rfl (by decide) ?_
  refine tj_putI (q := 15) (hT).s fok_5_11 tok_5 fpk_5_11 wl_RX5_47 dX5_fit_12 rfl (fun σ3 => ?_)
  refine tj_iconst (q := 16) (v := 0) dX5_fit_15 rfl (by decide) ?_
  refine tj_istore (q := 18) dX5_fit_16 rfl (by decide) rfl ?_
  refine tj_lv [1, 2, 3, 4, 5, 0] rfl ?_
  refine tmX5_fit_L18 t p1 hT hp1 p2 p3 p4 _ ?_ FU (0 : Int32) σ3
  · intro σ14
    refine tj_aload_n (q := 95) dX5_fit_94 rfl (i := 1) rfl (pl := 0) rfl ?_
    refine tj_iload_n (q := 96) dX5_fit_95 rfl (i := 2) rfl (pl := 1) rfl ?_
    refine tj_iload_n (q := 97) dX5_fit_96 rfl (i := 3) rfl (pl := 2) rfl ?_
    refine tj_callV (q := 100) (kj_V (As := [.int p2, .int p3]) (rest := []) (t := p1) wi_RX5_69 (hp1).s rfl (rX1_sayTruth p1 p2 p3 (hp1)) rfl (Nat.le_of_ble_eq_true rfl) ⟨Nat.le_of_ble_eq_true rfl, Nat.le_of_ble_eq_true rfl⟩ (Nat.le_of_ble_eq_true rfl) dX5_fit_97) rfl (fun σ15 => ?_)
    exact tj_vret rfl rfl (Nat.le_of_ble_eq_true rfl) (Nat.le_of_ble_eq_true rfl) dX5_fit_100

theorem dX5_mostLeft_0 : decode cX5_mostLeft 0 = .ok (.iload 4, 2) := by decide +kernel
theorem dX5_mostLeft_2 : decode cX5_mostLeft 2 = .ok (.iload_n 3, 1) := by decide +kernel
theorem dX5_mostLeft_3 : decode cX5_mostLeft 3 = .ok (.if_icmp .eq 14, 3) := by decide +kernel
theorem dX5_mostLeft_6 : decode cX5_mostLeft 6 = .ok (.iload 5, 2) := by decide +kernel
theorem dX5_mostLeft_8 : decode cX5_mostLeft 8 = .ok (.iload_n 3, 1) := by decide +kernel
theorem dX5_mostLeft_9 : decode cX5_mostLeft 9 = .ok (.if_icmp .eq 8, 3) := by decide +kernel
theorem dX5_mostLeft_12 : decode cX5_mostLeft 12 = .ok (.aload_n 0, 1) := by decide +kernel
theorem dX5_mostLeft_13 : decode cX5_mostLeft 13 = .ok (.getfield 41, 3) := by decide +kernel
theorem dX5_mostLeft_16 : decode cX5_mostLeft 16 = .ok (.ireturn, 1) := by decide +kernel
theorem dX5_mostLeft_17 : decode cX5_mostLeft 17 = .ok (.iconst 0, 1) := by decide +kernel
theorem dX5_mostLeft_18 : decode cX5_mostLeft 18 = .ok (.istore 6, 2) := by decide +kernel
theorem dX5_mostLeft_20 : decode cX5_mostLeft 20 = .ok (.iconst 0, 1) := by decide +kernel
theorem dX5_mostLeft_21 : decode cX5_mostLeft 21 = .ok (.istore 7, 2) := by decide +kernel
theorem dX5_mostLeft_23 : decode cX5_mostLeft 23 = .ok (.iload 7, 2) := by decide +kernel
theorem dX5_mostLeft_25 : decode cX5_mostLeft 25 = .ok (.bipush 100, 2) := by decide +kernel
theorem dX5_mostLeft_27 : decode cX5_mostLeft 27 = .ok (.if_icmp .ge 52, 3) := by decide +kernel
theorem dX5_mostLeft_30 : decode cX5_mostLeft 30 = .ok (.aload_n 0, 1) := by decide +kernel
theorem dX5_mostLeft_31 : decode cX5_mostLeft 31 = .ok (.getfield 38, 3) := by decide +kernel
theorem dX5_mostLeft_34 : decode cX5_mostLeft 34 = .ok (.iload 7, 2) := by decide +kernel
theorem dX5_mostLeft_36 : decode cX5_mostLeft 36 = .ok (.baload, 1) := by decide +kernel
theorem dX5_mostLeft_37 : decode cX5_mostLeft 37 = .ok (.ifCond .eq 36, 3) := by decide +kernel
theorem dX5_mostLeft_40 : decode cX5_mostLeft 40 = .ok (.aload_n 1, 1) := by decide +kernel
theorem dX5_mostLeft_41 : decode cX5_mostLeft 41 = .ok (.iload_n 2, 1) := by decide +kernel
theorem dX5_mostLeft_42 : decode cX5_mostLeft 42 = .ok (.iload_n 3, 1) := by decide +kernel
theorem dX5_mostLeft_43 : decode cX5_mostLeft 43 = .ok (.iload 7, 2) := by decide +kernel
theorem dX5_mostLeft_45 : decode cX5_mostLeft 45 = .ok (.invokevirtual 59, 3) := by decide +kernel
theorem dX5_mostLeft_48 : decode cX5_mostLeft 48 = .ok (.iload 6, 2) := by decide +kernel
theorem dX5_mostLeft_50 : decode cX5_mostLeft 50 = .ok (.aload_n 1, 1) := by decide +kernel
theorem dX5_mostLeft_51 : decode cX5_mostLeft 51 = .ok (.iload_n 2, 1) := by decide +kernel
theorem dX5_mostLeft_52 : decode cX5_mostLeft 52 = .ok (.iload 4, 2) := by decide +kernel
theorem dX5_mostLeft_54 : decode cX5_mostLeft 54 = .ok (.iload 5, 2) := by decide +kernel
theorem dX5_mostLeft_56 : decode cX5_mostLeft 56 = .ok (.iconst (-1), 1) := by decide +kernel
theorem dX5_mostLeft_57 : decode cX5_mostLeft 57 = .ok (.iconst 0, 1) := by decide +kernel
theorem dX5_mostLeft_58 : decode cX5_mostLeft 58 = .ok (.iconst 0, 1) := by decide +kernel
theorem dX5_mostLeft_59 : decode cX5_mostLeft 59 = .ok (.invokevirtual 77, 3) := by decide +kernel
theorem dX5_mostLeft_62 : decode cX5_mostLeft 62 = .ok (.ifCond .eq 7, 3) := by decide +kernel
theorem dX5_mostLeft_65 : decode cX5_mostLeft 65 = .ok (.iconst 1, 1) := by decide +kernel
theorem dX5_mostLeft_66 : decode cX5_mostLeft 66 = .ok (.goto 4, 3) := by decide +kernel
theorem dX5_mostLeft_69 : decode cX5_mostLeft 69 = .ok (.iconst 0, 1) := by decide +kernel
theorem dX5_mostLeft_70 : decode cX5_mostLeft 70 = .ok (.iadd, 1) := by decide +kernel
theorem dX5_mostLeft_71 : decode cX5_mostLeft 71 = .ok (.istore 6, 2) := by decide +kernel
theorem dX5_mostLeft_73 : decode cX5_mostLeft 73 = .ok (.iinc 7 1, 3) := by decide +kernel
theorem dX5_mostLeft_76 : decode cX5_mostLeft 76 = .ok (.goto (-53), 3) := by decide +kernel
theorem dX5_mostLeft_79 : decode cX5_mostLeft 79 = .ok (.aload_n 1, 1) := by decide +kernel
theorem dX5_mostLeft_80 : decode cX5_mostLeft 80 = .ok (.iload_n 2, 1) := by decide +kernel
theorem dX5_mostLeft_81 : decode cX5_mostLeft 81 = .ok (.iload_n 3, 1) := by decide +kernel
theorem dX5_mostLeft_82 : decode cX5_mostLeft 82 = .ok (.invokevirtual 69, 3) := by decide +kernel
theorem dX5_mostLeft_85 : decode cX5_mostLeft 85 = .ok (.iload 6, 2) := by decide +kernel
theorem dX5_mostLeft_87 : decode cX5_mostLeft 87 = .ok (.aload_n 0, 1) := by decide +kernel
theorem dX5_mostLeft_88 : decode cX5_mostLeft 88 = .ok (.getfield 41, 3) := by decide +kernel
theorem dX5_mostLeft_91 : decode cX5_mostLeft 91 = .ok (.iload 6, 2) := by decide +kernel
theorem dX5_mostLeft_93 : decode cX5_mostLeft 93 = .ok (.isub, 1) := by decide +kernel
theorem dX5_mostLeft_94 : decode cX5_mostLeft 94 = .ok (.invokestatic 88, 3) := by decide +kernel
theorem dX5_mostLeft_97 : decode cX5_mostLeft 97 = .ok (.ireturn, 1) := by decide +kernel
theorem wj_RX5_88 : Is RX5 88 Lib.Math.max.name Lib.Math.max.code 2 (some .int) 2 := ⟨tbm 1392 (by decide +kernel) (by decide +kernel), tbm 780 (by decide +kernel) (by decide +kernel), tbm 151 (by decide +kernel) (by decide +kernel), tbm 781 (by decide +kernel) (by decide +kernel), by decide +kernel, by decide⟩
def mX5_mostLeft_L23 (t : Nat) (p1 : Nat) (x2 : Int32) (x3 : Int32) (x4 : Int32) (x5 : Int32) (k79 : Int32 → St_ → Option (Int32 × St_)) : Nat → Int32 → Int32 → St_ → Option (Int32 × St_)
  | 0, _, _, _ => none
  | n + 1, x6, x7, σ => (if (100 : Int32) ≤ x7 then
 (k79 x6 σ)
 else (if bin x7 100 = true then if isB (σ.1 (t + 8) x7.toNatClampNeg) = true then bnd (σ.1 (t + 8) x7.toNatClampNeg == 1) fun v3 =>
 (bnd (fun (j4 : Int32) (σ5 : St_) => (mX5_mostLeft_L23 t p1 x2 x3 x4 x5 k79 n j4 (x7 + 1) σ5)) fun k6 =>
 (if v3 = true then
 ((mX1_say p1 x2 x3 x7 σ).bind fun σ8 =>
 ((mX1_isLawfulFor p1 x2 x4 x5 (-1 : Int32) (0 : Int32) (0 : Int32) σ8).bind fun r9 =>
 (bnd (fun (j10 : Bool) => (bnd (x6 + (b2i j10)) fun v13 =>
 (k6 v13 r9.2))) fun k11 =>
 (if r9.1 = true then
 (k11 true)
 else (k11 false)))))
 else (k6 x6 σ)))
 else none else none))
def mX5_mostLeft (t : Nat) (p1 : Nat) (p2 : Int32) (p3 : Int32) (p4 : Int32) (p5 : Int32) (σ : St_) : Option (Int32 × St_) :=
 (bnd (mX5_mostLeft_L23 t p1 p2 p3 p4 p5
 (fun (y14 : Int32) (σ15 : St_) => ((mX1_sayTruth p1 p2 p3 σ15).bind fun σ16 =>
 (bnd (if y14 < ((σ16.1 t 9) - y14) then ((σ16.1 t 9) - y14) else y14) fun v17 =>
 (some (v17, σ16))))) FU (0 : Int32) (0 : Int32) σ) fun k1 =>
 (if p4 = p3 then
 (k1)
 else (if p5 = p3 then
 (k1)
 else (some ((σ.1 t 9), σ)))))
set_option maxHeartbeats 4000000 in
theorem tmX5_mostLeft_L23 (t : Nat) (p1 : Nat) (hT : LY5 sh P t) (hp1 : LY1 sh P p1) (x2 : Int32) (x3 : Int32) (x4 : Int32) (x5 : Int32) (k79 : Int32 → St_ → Option (Int32 × St_)) (hk79 : ∀ (y6 : Int32) (σ1 : St_), Tj l D cA h0 ad RX5 cX5_mostLeft 8 (some .int) false 5 0 0 (fun b => (some (.int b.1), sh, P, b.2)) 0 0 sh P σ1 79 [(0, .ref (h0 + t)), (1, .ref (h0 + p1)), (2, .int x2), (3, .int x3), (6, .int y6)] [] (k79 y6 σ1)) : ∀ (n : Nat) (x6 : Int32) (x7 : Int32) (σ : St_), Tj l D cA h0 ad RX5 cX5_mostLeft 8 (some .int) false 5 0 0 (fun b => (some (.int b.1), sh, P, b.2)) 0 0 sh P σ 23 [(0, .ref (h0 + t)), (1, .ref (h0 + p1)), (2, .int x2), (3, .int x3), (4, .int x4), (5, .int x5), (6, .int x6), (7, .int x7)] [] (mX5_mostLeft_L23 t p1 x2 x3 x4 x5 k79 n x6 x7 σ) := by
  intro n
  induction n with
  | zero => intros; exact tj_none
  | succ n ih =>
    intro x6 x7 σ
    rw [mX5_mostLeft_L23]
    refine tj_iload (q := 25) dX5_mostLeft_23 rfl (pl := 7) rfl ?_
    refine tj_bipush (q := 27) (v := 100) dX5_mostLeft_25 rfl (by decide) ?_
    refine tj_icmp_ge (tgt := 79) (q := 30) dX5_mostLeft_27 (by decide) rfl ?_ ?_
    · refine tj_lv [0, 1, 2, 3, 6] rfl ?_
      exact hk79 x6 σ
    · refine tj_aload_n (q := 31) dX5_mostLeft_30 rfl (i := 0) rfl (pl := 0) rfl ?_
      refine tj_getR (q := 34) (hT).s (hT).p_fits fok_5_8 wl_RX5_38 dX5_mostLeft_31 rfl ?_
      refine tj_iload (q := 36) dX5_mostLeft_34 rfl (pl := 7) rfl ?_
      refine tj_zaloadB (q := 37) (hT).s_fits dX5_mostLeft_36 rfl (fun v3 => ?_)
      refine tj_bnd (fun k6 => ∀ (j4 : Int32) (σ5 : St_), Tj l D cA h0 ad RX5 cX5_mostLeft 8 (some .int) false 5 0 0 (fun b => (some (.int b.1), sh, P, b.2)) 0 0 sh P σ5 73 [(0, .ref (h0 + t)), (1, .ref (h0 + p1)), (2, .int x2), (3, .int x3), (4, .int x4), (5, .int x5), (6, .int j4), (7, .int x7)] [] (k6 j4 σ5)) ?_ (fun k6 hk7 => ?_)
      · intro j4 σ5
        refine tj_iinc (q := 76) (v := x7 + 1) dX5_mostLeft_73 rfl (pl := 7) rfl rfl (by decide) rfl ?_
        refine tj_goto (q := 23) dX5_mostLeft_76 (by decide) ?_
        refine tj_lv [1, 2, 3, 4, 5, 6, 7, 0] rfl ?_
        exact ih j4 (x7 + 1) σ5
      · refine tj_bz (tgt := 73) (q := 40) dX5_mostLeft_37 (by decide) rfl ?_ ?_
        · refine tj_aload_n (q := 41) dX5_mostLeft_40 rfl (i := 1) rfl (pl := 1) rfl ?_
          refine tj_iload_n (q := 42) dX5_mostLeft_41 rfl (i := 2) rfl (pl := 2) rfl ?_
          refine tj_iload_n (q := 43) dX5_mostLeft_42 rfl (i := 3) rfl (pl := 3) rfl ?_
          refine tj_iload (q := 45) dX5_mostLeft_43 rfl (pl := 7) rfl ?_
          refine tj_callV (q := 48) (kj_V (As := [.int x2, .int x3, .int x7]) (rest := []) (t := p1) wi_RX5_59 (hp1).s rfl (rX1_say p1 x2 x3 x7 (hp1)) rfl (Nat.le_of_ble_eq_true rfl) ⟨Nat.le_of_ble_eq_true rfl, Nat.le_of_ble_eq_true rfl⟩ (Nat.le_of_ble_eq_true rfl) dX5_mostLeft_45) rfl (fun σ8 => ?_)
          refine tj_iload (q := 50) dX5_mostLeft_48 rfl (pl := 6) rfl ?_
          refine tj_aload_n (q := 51) dX5_mostLeft_50 rfl (i := 1) rfl (pl := 1) rfl ?_
          refine tj_iload_n (q := 52) dX5_mostLeft_51 rfl (i := 2) rfl (pl := 2) rfl ?_
          refine tj_iload (q := 54) dX5_mostLeft_52 rfl (pl := 4) rfl ?_
          refine tj_iload (q := 56) dX5_mostLeft_54 rfl (pl := 5) rfl ?_
          refine tj_iconst (q := 57) (v := (-1)) dX5_mostLeft_56 rfl (by decide) ?_
          refine tj_iconst (q := 58) (v := 0) dX5_mostLeft_57 rfl (by decide) ?_
          refine tj_iconst (q := 59) (v := 0) dX5_mostLeft_58 rfl (by decide) ?_
          refine tj_callZ (q := 62) (kj_V (As := [.int x2, .int x4, .int x5, .int (-1 : Int32), .int (0 : Int32), .int (0 : Int32)]) (rest := [.int x6]) (t := p1) wi_RX5_77 (hp1).s rfl (rX1_isLawfulFor p1 x2 x4 x5 (-1 : Int32) (0 : Int32) (0 : Int32) (hp1)) rfl (Nat.le_of_ble_eq_true rfl) ⟨Nat.le_of_ble_eq_true rfl, Nat.le_of_ble_eq_true rfl⟩ (Nat.le_of_ble_eq_true rfl) dX5_mostLeft_59) rfl (fun r9 => ?_)
          refine tj_bnd (fun k11 => ∀ (j10 : Bool), Tj l D cA h0 ad RX5 cX5_mostLeft 8 (some .int) false 5 0 0 (fun b => (some (.int b.1), sh, P, b.2)) 0 0 sh P r9.2 70 [(0, .ref (h0 + t)), (1, .ref (h0 + p1)), (2, .int x2), (3, .int x3), (4, .int x4), (5, .int x5), (7, .int x7)] [.int (b2i j10), .int x6] (k11 j10)) ?_ (fun k11 hk12 => ?_)
          · intro j10
            refine tj_iadd (q := 71) dX5_mostLeft_70 rfl ?_
            refine tj_topI (fun v13 => ?_)
            refine tj_istore (q := 73) dX5_mostLeft_71 rfl (by decide) rfl ?_
            refine tj_lv [1, 2, 3, 4, 5, 6, 0, 7] rfl ?_
            exact hk7 v13 r9.2
          · refine tj_bz (tgt := 69) (q := 65) dX5_mostLeft_62 (by decide) rfl ?_ ?_
            · refine tj_iconst (q := 66) (v := 1) dX5_mostLeft_65 rfl (by decide) ?_
              refine tj_goto (q := 70) dX5_mostLeft_66 (by decide) ?_
              refine tj_lv [0, 1, 2, 3, 4, 5, 7] rfl ?_
              exact hk12 true
            · refine tj_iconst (q := 70) (v := 0) dX5_mostLeft_69 rfl (by decide) ?_
              refine tj_lv [0, 1, 2, 3, 4, 5, 7] rfl ?_
              exact hk12 false
        · exact hk7 x6 σ

set_option maxHeartbeats 4000000 in
theorem rX5_mostLeft (t : Nat) (p1 : Nat) (p2 : Int32) (p3 : Int32) (p4 : Int32) (p5 : Int32) (hT : LY5 sh P t) (hp1 : LY1 sh P p1) : Rj l D cA h0 ad yX5_mostLeft cX5_mostLeft 8 (some .int) false 5 0 0 (fun b => (some (.int b.1), sh, P, b.2)) [.ref (h0 + t), .ref (h0 + p1), .int p2, .int p3, .int p4, .int p5] sh P σ (mX5_mostLeft t p1 p2 p3 p4 p5 σ) := by
  rw [mX5_mostLeft]
  refine Rj.of (by decide) (fun h => by cases h) (Nat.le_of_ble_eq_true rfl) ?_
  refine tj_lv0 (lv' := [(0, .ref (h0 + t)), (1, .ref (h0 + p1)), (2, .int p2), (3, .int p3), (4, .int p4), (5, .int p5)]) rfl ?_
  refine tj_iload (q := 2) dX5_mostLeft_0 rfl (pl := 4) rfl ?_
  refine tj_iload_n (q := 3) dX5_mostLeft_2 rfl (i := 3) rfl (pl := 3) rfl ?_
  refine tj_bnd (fun k1 => Tj l D cA h0 ad RX5 cX5_mostLeft 8 (some .int) false 5 0 0 (fun b => (some (.int b.1), sh, P, b.2)) 0 0 sh P σ 17 [(0, .ref (h0 + t)), (1, .ref (h0 + p1)), (2, .int p2), (3, .int p3), (4, .int p4), (5, .int p5)] [] k1) ?_ (fun k1 hk2 => ?_)
  · refine tj_iconst (q := 18) (v := 0) dX5_mostLeft_17 rfl (by decide) ?_
    refine tj_istore (q := 20) dX5_mostLeft_18 rfl (by decide) rfl ?_
    refine tj_iconst (q := 21) (v := 0) dX5_mostLeft_20 rfl (by decide) ?_
    refine tj_istore (q := 23) dX5_mostLeft_21 rfl (by decide) rfl ?_
    refine tj_lv [2, 3, 4, 5, 6, 7, 1, 0] rfl ?_
    refine tmX5_mostLeft_L23 t p1 hT hp1 p2 p3 p4 p5 _ ?_ FU (0 : Int32) (0 : Int32) σ
    · intro y14 σ15
      refine tj_aload_n (q := 80) dX5_mostLeft_79 rfl (i := 1) rfl (pl := 1) rfl ?_
      refine tj_iload_n (q := 81) dX5_mostLeft_80 rfl (i := 2) rfl (pl := 2) rfl ?_
      refine tj_iload_n (q := 82) dX5_mostLeft_81 rfl (i := 3) rfl (pl := 3) rfl ?_
      refine tj_callV (q := 85) (kj_V (As := [.int p2, .int p3]) (rest := []) (t := p1) wi_RX5_69 (hp1).s rfl (rX1_sayTruth p1 p2 p3 (hp1)) rfl (Nat.le_of_ble_eq_true rfl) ⟨Nat.le_of_ble_eq_true rfl, Nat.le_of_ble_eq_true rfl⟩ (Nat.le_of_ble_eq_true rfl) dX5_mostLeft_82) rfl (fun σ16 => ?_)
      refine tj_iload (q := 87) dX5_mostLeft_85 rfl (pl := 4) rfl ?_
      refine tj_aload_n (q := 88) dX5_mostLeft_87 rfl (i := 0) rfl (pl := 0) rfl ?_
      refine tj_getI (q := 91) (hT).s fok_5_9 wl_RX5_41 dX5_mostLeft_88 rfl ?_
      refine tj_iload (q := 93) dX5_mostLeft_91 rfl (pl := 4) rfl ?_
      refine tj_isub (q := 94) dX5_mostLeft_93 rfl ?_
      refine tj_max (q := 97) wj_RX5_88 dX5_mostLeft_94 rfl (Nat.le_of_ble_eq_true rfl) (Nat.le_of_ble_eq_true rfl) ?_
      refine tj_topI (fun v17 => ?_)
      exact tj_iret rfl rfl (Nat.le_of_ble_eq_true rfl) (Nat.le_of_ble_eq_true rfl) dX5_mostLeft_97
  · refine tj_icmp_eq (tgt := 17) (q := 6) dX5_mostLeft_3 (by decide) rfl ?_ ?_
    · exact hk2
    · refine tj_iload (q := 8) dX5_mostLeft_6 rfl (pl := 5) rfl ?_
      refine tj_iload_n (q := 9) dX5_mostLeft_8 rfl (i := 3) rfl (pl := 3) rfl ?_
      refine tj_icmp_eq (tgt := 17) (q := 12) dX5_mostLeft_9 (by decide) rfl ?_ ?_
      · exact hk2
      · refine tj_aload_n (q := 13) dX5_mostLeft_12 rfl (i := 0) rfl (pl := 0) rfl ?_
        refine tj_getI (q := 16) (hT).s fok_5_9 wl_RX5_41 dX5_mostLeft_13 rfl ?_
        exact tj_iret rfl rfl (Nat.le_of_ble_eq_true rfl) (Nat.le_of_ble_eq_true rfl) dX5_mostLeft_16

theorem dX5_findQuestion_0 : decode cX5_findQuestion 0 = .ok (.aload_n 0, 1) := by decide +kernel
theorem dX5_findQuestion_1 : decode cX5_findQuestion 1 = .ok (.iconst (-1), 1) := by decide +kernel
theorem dX5_findQuestion_2 : decode cX5_findQuestion 2 = .ok (.putfield 50, 3) := by decide +kernel
theorem dX5_findQuestion_5 : decode cX5_findQuestion 5 = .ok (.iconst 0, 1) := by decide +kernel
theorem dX5_findQuestion_6 : decode cX5_findQuestion 6 = .ok (.istore 4, 2) := by decide +kernel
theorem dX5_findQuestion_8 : decode cX5_findQuestion 8 = .ok (.iload 4, 2) := by decide +kernel
theorem dX5_findQuestion_10 : decode cX5_findQuestion 10 = .ok (.aload_n 1, 1) := by decide +kernel
theorem dX5_findQuestion_11 : decode cX5_findQuestion 11 = .ok (.getfield 81, 3) := by decide +kernel
theorem dX5_findQuestion_14 : decode cX5_findQuestion 14 = .ok (.if_icmp .ge 85, 3) := by decide +kernel
theorem dX5_findQuestion_17 : decode cX5_findQuestion 17 = .ok (.iconst 0, 1) := by decide +kernel
theorem dX5_findQuestion_18 : decode cX5_findQuestion 18 = .ok (.istore 5, 2) := by decide +kernel
theorem dX5_findQuestion_20 : decode cX5_findQuestion 20 = .ok (.iload 5, 2) := by decide +kernel
theorem dX5_findQuestion_22 : decode cX5_findQuestion 22 = .ok (.aload_n 1, 1) := by decide +kernel
theorem dX5_findQuestion_23 : decode cX5_findQuestion 23 = .ok (.getfield 81, 3) := by decide +kernel
theorem dX5_findQuestion_26 : decode cX5_findQuestion 26 = .ok (.if_icmp .ge 67, 3) := by decide +kernel
theorem dX5_findQuestion_29 : decode cX5_findQuestion 29 = .ok (.iload 4, 2) := by decide +kernel
theorem dX5_findQuestion_31 : decode cX5_findQuestion 31 = .ok (.iload 5, 2) := by decide +kernel
theorem dX5_findQuestion_33 : decode cX5_findQuestion 33 = .ok (.if_icmp .ne 6, 3) := by decide +kernel
theorem dX5_findQuestion_36 : decode cX5_findQuestion 36 = .ok (.goto 51, 3) := by decide +kernel
theorem dX5_findQuestion_39 : decode cX5_findQuestion 39 = .ok (.aload_n 0, 1) := by decide +kernel
theorem dX5_findQuestion_40 : decode cX5_findQuestion 40 = .ok (.aload_n 1, 1) := by decide +kernel
theorem dX5_findQuestion_41 : decode cX5_findQuestion 41 = .ok (.iload_n 2, 1) := by decide +kernel
theorem dX5_findQuestion_42 : decode cX5_findQuestion 42 = .ok (.iload_n 3, 1) := by decide +kernel
theorem dX5_findQuestion_43 : decode cX5_findQuestion 43 = .ok (.iload 4, 2) := by decide +kernel
theorem dX5_findQuestion_45 : decode cX5_findQuestion 45 = .ok (.iload 5, 2) := by decide +kernel
theorem dX5_findQuestion_47 : decode cX5_findQuestion 47 = .ok (.invokevirtual 84, 3) := by decide +kernel
theorem dX5_findQuestion_50 : decode cX5_findQuestion 50 = .ok (.istore 6, 2) := by decide +kernel
theorem dX5_findQuestion_52 : decode cX5_findQuestion 52 = .ok (.aload_n 0, 1) := by decide +kernel
theorem dX5_findQuestion_53 : decode cX5_findQuestion 53 = .ok (.getfield 50, 3) := by decide +kernel
theorem dX5_findQuestion_56 : decode cX5_findQuestion 56 = .ok (.iconst (-1), 1) := by decide +kernel
theorem dX5_findQuestion_57 : decode cX5_findQuestion 57 = .ok (.if_icmp .eq 12, 3) := by decide +kernel
theorem dX5_findQuestion_60 : decode cX5_findQuestion 60 = .ok (.iload 6, 2) := by decide +kernel
theorem dX5_findQuestion_62 : decode cX5_findQuestion 62 = .ok (.aload_n 0, 1) := by decide +kernel
theorem dX5_findQuestion_63 : decode cX5_findQuestion 63 = .ok (.getfield 56, 3) := by decide +kernel
theorem dX5_findQuestion_66 : decode cX5_findQuestion 66 = .ok (.if_icmp .ge 21, 3) := by decide +kernel
theorem dX5_findQuestion_69 : decode cX5_findQuestion 69 = .ok (.aload_n 0, 1) := by decide +kernel
theorem dX5_findQuestion_70 : decode cX5_findQuestion 70 = .ok (.iload 4, 2) := by decide +kernel
theorem dX5_findQuestion_72 : decode cX5_findQuestion 72 = .ok (.putfield 50, 3) := by decide +kernel
theorem dX5_findQuestion_75 : decode cX5_findQuestion 75 = .ok (.aload_n 0, 1) := by decide +kernel
theorem dX5_findQuestion_76 : decode cX5_findQuestion 76 = .ok (.iload 5, 2) := by decide +kernel
theorem dX5_findQuestion_78 : decode cX5_findQuestion 78 = .ok (.putfield 53, 3) := by decide +kernel
theorem dX5_findQuestion_81 : decode cX5_findQuestion 81 = .ok (.aload_n 0, 1) := by decide +kernel
theorem dX5_findQuestion_82 : decode cX5_findQuestion 82 = .ok (.iload 6, 2) := by decide +kernel
theorem dX5_findQuestion_84 : decode cX5_findQuestion 84 = .ok (.putfield 56, 3) := by decide +kernel
theorem dX5_findQuestion_87 : decode cX5_findQuestion 87 = .ok (.iinc 5 1, 3) := by decide +kernel
theorem dX5_findQuestion_90 : decode cX5_findQuestion 90 = .ok (.goto (-70), 3) := by decide +kernel
theorem dX5_findQuestion_93 : decode cX5_findQuestion 93 = .ok (.iinc 4 1, 3) := by decide +kernel
theorem dX5_findQuestion_96 : decode cX5_findQuestion 96 = .ok (.goto (-88), 3) := by decide +kernel
theorem dX5_findQuestion_99 : decode cX5_findQuestion 99 = .ok (.return_, 1) := by decide +kernel
theorem wl_RX5_50 : Cond.fieldLink RX5 50 (TX5 12).1 (TX5 12).2.1 (TX5 12).2.2.1 ∈ TB := tbm 454 (by decide +kernel) (by decide +kernel)
theorem wl_RX5_81 : Cond.fieldLink RX5 81 (TX1 2).1 (TX1 2).2.1 (TX1 2).2.2.1 ∈ TB := tbm 301 (by decide +kernel) (by decide +kernel)
theorem wm_X5_mostLeft : Cond.instanceMethod yX5_mostLeft ∈ TB ∧ Cond.selects yX5_mostLeft.cls yX5_mostLeft yX5_mostLeft ∈ TB ∧ Cond.initialized yX5_mostLeft.cls ∈ TB ∧ Cond.code yX5_mostLeft cX5_mostLeft 8 (some .int) ∈ TB ∧ (yX5_mostLeft.cls ≠ "java/lang/invoke/MethodHandle" ∧ yX5_mostLeft.cls ≠ "java/lang/invoke/VarHandle" ∧ (parseMethodDescriptor yX5_mostLeft.desc).map (fun d => d.parameters.length) = some 5) ∧ 8 ≤ 21 := ⟨tbm 1390 (by decide +kernel) (by decide +kernel), tbm 54 (by decide +kernel) (by decide +kernel), tbm 142 (by decide +kernel) (by decide +kernel), tbm 1391 (by decide +kernel) (by decide +kernel), by decide +kernel, by decide⟩
theorem wi_RX5_84 : Iv RX5 84 yX5_mostLeft cX5_mostLeft 8 (some .int) 5 := ⟨tbm 1388 (by decide +kernel) (by decide +kernel), wm_X5_mostLeft⟩
theorem wl_RX5_56 : Cond.fieldLink RX5 56 (TX5 14).1 (TX5 14).2.1 (TX5 14).2.2.1 ∈ TB := tbm 458 (by decide +kernel) (by decide +kernel)
theorem wl_RX5_53 : Cond.fieldLink RX5 53 (TX5 13).1 (TX5 13).2.1 (TX5 13).2.2.1 ∈ TB := tbm 456 (by decide +kernel) (by decide +kernel)
def mX5_findQuestion_L20 (t : Nat) (p1 : Nat) (x2 : Int32) (x3 : Int32) (x4 : Int32) (k93 : St_ → Option St_) : Nat → Int32 → St_ → Option St_
  | 0, _, _ => none
  | n + 1, x5, σ => (if (σ.1 p1 2) ≤ x5 then
 (k93 σ)
 else (bnd (fun (σ2 : St_) => (mX5_findQuestion_L20 t p1 x2 x3 x4 k93 n (x5 + 1) σ2)) fun k3 =>
 (if x4 = x5 then
 (k3 σ)
 else ((mX5_mostLeft t p1 x2 x3 x4 x5 σ).bind fun r5 =>
 (bnd (bnd (sI r5.2 t 12 x4) fun σ8 =>
 (bnd (sI σ8 t 13 x5) fun σ9 =>
 (bnd (sI σ9 t 14 r5.1) fun σ10 =>
 (k3 σ10)))) fun k6 =>
 (if (r5.2.1 t 12) = (-1 : Int32) then
 (k6)
 else (if (r5.2.1 t 14) ≤ r5.1 then
 (k3 r5.2)
 else (k6))))))))
def mX5_findQuestion_L8 (t : Nat) (p1 : Nat) (x2 : Int32) (x3 : Int32) : Nat → Int32 → St_ → Option St_
  | 0, _, _ => none
  | n + 1, x4, σ => (if (σ.1 p1 2) ≤ x4 then
 (some σ)
 else (mX5_findQuestion_L20 t p1 x2 x3 x4
 (fun (σ11 : St_) => (mX5_findQuestion_L8 t p1 x2 x3 n (x4 + 1) σ11)) FU (0 : Int32) σ))
def mX5_findQuestion (t : Nat) (p1 : Nat) (p2 : Int32) (p3 : Int32) (σ : St_) : Option St_ :=
 (bnd (sI σ t 12 (-1 : Int32)) fun σ1 =>
 (mX5_findQuestion_L8 t p1 p2 p3 FU (0 : Int32) σ1))
set_option maxHeartbeats 4000000 in
theorem tmX5_findQuestion_L20 (t : Nat) (p1 : Nat) (hT : LY5 sh P t) (hp1 : LY1 sh P p1) (x2 : Int32) (x3 : Int32) (x4 : Int32) (k93 : St_ → Option St_) (hk93 : ∀ (σ1 : St_), Tj l D cA h0 ad RX5 cX5_findQuestion 7 none false 6 0 0 (fun b => (none, sh, P, b)) 0 0 sh P σ1 93 [(0, .ref (h0 + t)), (1, .ref (h0 + p1)), (2, .int x2), (3, .int x3), (4, .int x4)] [] (k93 σ1)) : ∀ (n : Nat) (x5 : Int32) (σ : St_), Tj l D cA h0 ad RX5 cX5_findQuestion 7 none false 6 0 0 (fun b => (none, sh, P, b)) 0 0 sh P σ 20 [(0, .ref (h0 + t)), (1, .ref (h0 + p1)), (2, .int x2), (3, .int x3), (4, .int x4), (5, .int x5)] [] (mX5_findQuestion_L20 t p1 x2 x3 x4 k93 n x5 σ) := by
  intro n
  induction n with
  | zero => intros; exact tj_none
  | succ n ih =>
    intro x5 σ
    rw [mX5_findQuestion_L20]
    refine tj_iload (q := 22) dX5_findQuestion_20 rfl (pl := 5) rfl ?_
    refine tj_aload_n (q := 23) dX5_findQuestion_22 rfl (i := 1) rfl (pl := 1) rfl ?_
    refine tj_getI (q := 26) (hp1).s fok_1_2 wl_RX5_81 dX5_findQuestion_23 rfl ?_
    refine tj_icmp_ge (tgt := 93) (q := 29) dX5_findQuestion_26 (by decide) rfl ?_ ?_
    · refine tj_lv [0, 1, 2, 3, 4] rfl ?_
      exact hk93 σ
    · refine tj_iload (q := 31) dX5_findQuestion_29 rfl (pl := 4) rfl ?_
      refine tj_iload (q := 33) dX5_findQuestion_31 rfl (pl := 5) rfl ?_
      refine tj_bnd (fun k3 => ∀ (σ2 : St_), Tj l D cA h0 ad RX5 cX5_findQuestion 7 none false 6 0 0 (fun b => (none, sh, P, b)) 0 0 sh P σ2 87 [(0, .ref (h0 + t)), (1, .ref (h0 + p1)), (2, .int x2), (3, .int x3), (4, .int x4), (5, .int x5)] [] (k3 σ2)) ?_ (fun k3 hk4 => ?_)
      · intro σ2
        refine tj_iinc (q := 90) (v := x5 + 1) dX5_findQuestion_87 rfl (pl := 5) rfl rfl (by decide) rfl ?_
        refine tj_goto (q := 20) dX5_findQuestion_90 (by decide) ?_
        refine tj_lv [1, 2, 3, 4, 5, 0] rfl ?_
        exact ih (x5 + 1) σ2
      · refine tj_icmp_ne (tgt := 39) (q := 36) dX5_findQuestion_33 (by decide) rfl ?_ ?_
        · refine tj_goto (q := 87) dX5_findQuestion_36 (by decide) ?_
          exact hk4 σ
        · refine tj_aload_n (q := 40) dX5_findQuestion_39 rfl (i := 0) rfl (pl := 0) rfl ?_
          refine tj_aload_n (q := 41) dX5_findQuestion_40 rfl (i := 1) rfl (pl := 1) rfl ?_
          refine tj_iload_n (q := 42) dX5_findQuestion_41 rfl (i := 2) rfl (pl := 2) rfl ?_
          refine tj_iload_n (q := 43) dX5_findQuestion_42 rfl (i := 3) rfl (pl := 3) rfl ?_
          refine tj_iload (q := 45) dX5_findQuestion_43 rfl (pl := 4) rfl ?_
          refine tj_iload (q := 47) dX5_findQuestion_45 rfl (pl := 5) rfl ?_
          refine tj_callI (q := 50) (kj_V (As := [.ref (h0 + p1), .int x2, .int x3, .int x4, .int x5]) (rest := []) (t := t) wi_RX5_84 (hT).s rfl (rX5_mostLeft t p1 x2 x3 x4 x5 (hT) (hp1)) rfl (Nat.le_of_ble_eq_true rfl) ⟨Nat.le_of_ble_eq_true rfl, Nat.le_of_ble_eq_true rfl⟩ (Nat.le_of_ble_eq_true rfl) dX5_findQuestion_47) rfl (fun r5 => ?_)
          refine tj_istore (q := 52) dX5_findQuestion_50 rfl (by decide) rfl ?_
          refine tj_aload_n (q := 53) dX5_findQuestion_52 rfl (i := 0) rfl (pl := 1) rfl ?_
          refine tj_getI (q := 56) (hT).s fok_5_12 wl_RX5_50 dX5_findQuestion_53 rfl ?_
          refine tj_iconst (q := 57) (v := (-1)) dX5_findQuestion_56 rfl (by decide) ?_
          refine tj_bnd (fun k6 => Tj l D cA h0 ad RX5 cX5_findQuestion 7 none false 6 0 0 (fun b => (none, sh, P, b)) 0 0 sh P r5.2 69 [(0, .ref (h0 + t)), (1, .ref (h0 + p1)), (2, .int x2), (3, .int x3), (4, .int x4), (5, .int x5), (6, .int r5.1)] [] k6) ?_ (fun k6 hk7 => ?_)
          · refine tj_aload_n (q := 70) dX5_findQuestion_69 rfl (i := 0) rfl (pl := 0) rfl ?_
            refine tj_iload (q := 72) dX5_findQuestion_70 rfl (pl := 4) rfl ?_
            refine tj_putI (q := 75) (hT).s fok_5_12 tok_5 fpk_5_12 wl_RX5_50 dX5_findQuestion_72 rfl (fun σ8 => ?_)
            refine tj_aload_n (q := 76) dX5_findQuestion_75 rfl (i := 0) rfl (pl := 0) rfl ?_
            refine tj_iload (q := 78) dX5_findQuestion_76 rfl (pl := 5) rfl ?_
            refine tj_putI (q := 81) (hT).s fok_5_13 tok_5 fpk_5_13 wl_RX5_53 dX5_findQuestion_78 rfl (fun σ9 => ?_)
            refine tj_aload_n (q := 82) dX5_findQuestion_81 rfl (i := 0) rfl (pl := 0) rfl ?_
            refine tj_iload (q := 84) dX5_findQuestion_82 rfl (pl := 6) rfl ?_
            refine tj_putI (q := 87) (hT).s fok_5_14 tok_5 fpk_5_14 wl_RX5_56 dX5_findQuestion_84 rfl (fun σ10 => ?_)
            refine tj_lv [0, 1, 2, 3, 4, 5] rfl ?_
            exact hk4 σ10
          · refine tj_icmp_eq (tgt := 69) (q := 60) dX5_findQuestion_57 (by decide) rfl ?_ ?_
            · refine tj_lv [1, 2, 3, 4, 5, 6, 0] rfl ?_
              exact hk7
            · refine tj_iload (q := 62) dX5_findQuestion_60 rfl (pl := 0) rfl ?_
              refine tj_aload_n (q := 63) dX5_findQuestion_62 rfl (i := 0) rfl (pl := 1) rfl ?_
              refine tj_getI (q := 66) (hT).s fok_5_14 wl_RX5_56 dX5_findQuestion_63 rfl ?_
              refine tj_icmp_ge (tgt := 87) (q := 69) dX5_findQuestion_66 (by decide) rfl ?_ ?_
              · refine tj_lv [1, 2, 3, 4, 5, 6] rfl ?_
                exact hk4 r5.2
              · refine tj_lv [1, 2, 3, 4, 5, 6, 0] rfl ?_
                exact hk7

set_option maxHeartbeats 4000000 in
theorem tmX5_findQuestion_L8 (t : Nat) (p1 : Nat) (hT : LY5 sh P t) (hp1 : LY1 sh P p1) (x2 : Int32) (x3 : Int32) : ∀ (n : Nat) (x4 : Int32) (σ : St_), Tj l D cA h0 ad RX5 cX5_findQuestion 7 none false 6 0 0 (fun b => (none, sh, P, b)) 0 0 sh P σ 8 [(0, .ref (h0 + t)), (1, .ref (h0 + p1)), (2, .int x2), (3, .int x3), (4, .int x4)] [] (mX5_findQuestion_L8 t p1 x2 x3 n x4 σ) := by
  intro n
  induction n with
  | zero => intros; exact tj_none
  | succ n ih =>
    intro x4 σ
    rw [mX5_findQuestion_L8]
    refine tj_iload (q := 10) dX5_findQuestion_8 rfl (pl := 4) rfl ?_
    refine tj_aload_n (q := 11) dX5_findQuestion_10 rfl (i := 1) rfl (pl := 1) rfl ?_
    refine tj_getI (q := 14) (hp1).s fok_1_2 wl_RX5_81 dX5_findQuestion_11 rfl ?_
    refine tj_icmp_ge (tgt := 99) (q := 17) dX5_findQuestion_14 (by decide) rfl ?_ ?_
    · exact tj_vret rfl rfl (Nat.le_of_ble_eq_true rfl) (Nat.le_of_ble_eq_true rfl) dX5_findQuestion_99
    · refine tj_iconst (q := 18) (v := 0) dX5_findQuestion_17 rfl (by decide) ?_
      refine tj_istore (q := 20) dX5_findQuestion_18 rfl (by decide) rfl ?_
      refine tj_lv [1, 2, 3, 4, 5, 0] rfl ?_
      refine tmX5_findQuestion_L20 t p1 hT hp1 x2 x3 x4 _ ?_ FU (0 : Int32) σ
      · intro σ11
        refine tj_iinc (q := 96) (v := x4 + 1) dX5_findQuestion_93 rfl (pl := 4) rfl rfl (by decide) rfl ?_
        refine tj_goto (q := 8) dX5_findQuestion_96 (by decide) ?_
        refine tj_lv [1, 2, 3, 4, 0] rfl ?_
        exact ih (x4 + 1) σ11

set_option maxHeartbeats 4000000 in
theorem rX5_findQuestion (t : Nat) (p1 : Nat) (p2 : Int32) (p3 : Int32) (hT : LY5 sh P t) (hp1 : LY1 sh P p1) : Rj l D cA h0 ad yX5_findQuestion cX5_findQuestion 7 none false 6 0 0 (fun b => (none, sh, P, b)) [.ref (h0 + t), .ref (h0 + p1), .int p2, .int p3] sh P σ (mX5_findQuestion t p1 p2 p3 σ) := by
  rw [mX5_findQuestion]
  refine Rj.of (by decide) (fun h => by cases h) (Nat.le_of_ble_eq_true rfl) ?_
  refine tj_lv0 (lv' := [(0, .ref (h0 + t)), (1, .ref (h0 + p1)), (2, .int p2), (3, .int p3)]) rfl ?_
  refine tj_aload_n (q := 1) dX5_findQuestion_0 rfl (i := 0) rfl (pl := 0) rfl ?_
  refine tj_iconst (q := 2) (v := (-1)) dX5_findQuestion_1 rfl (by decide) ?_
  refine tj_putI (q := 5) (hT).s fok_5_12 tok_5 fpk_5_12 wl_RX5_50 dX5_findQuestion_2 rfl (fun σ1 => ?_)
  refine tj_iconst (q := 6) (v := 0) dX5_findQuestion_5 rfl (by decide) ?_
  refine tj_istore (q := 8) dX5_findQuestion_6 rfl (by decide) rfl ?_
  refine tj_lv [1, 2, 3, 4, 0] rfl ?_
  exact tmX5_findQuestion_L8 t p1 hT hp1 p2 p3 FU (0 : Int32) σ1

end
