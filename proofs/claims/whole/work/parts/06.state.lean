section
variable {l : Launch} {D : va_G} {cA : Nat → ClassId} {h0 : Nat} {ad : Ad_} {sh : Sh_} {P : Px_} {σ : St_}
theorem dJ6_bitCount_0f7a4_0 : decode cJ6_bitCount_0f7a4 0 = .ok (.iload_n 0, 1) := by decide +kernel
theorem dJ6_bitCount_0f7a4_1 : decode cJ6_bitCount_0f7a4 1 = .ok (.iload_n 0, 1) := by decide +kernel
theorem dJ6_bitCount_0f7a4_2 : decode cJ6_bitCount_0f7a4 2 = .ok (.iconst 1, 1) := by decide +kernel
theorem dJ6_bitCount_0f7a4_3 : decode cJ6_bitCount_0f7a4 3 = .ok (.iushr, 1) := by decide +kernel
theorem dJ6_bitCount_0f7a4_4 : decode cJ6_bitCount_0f7a4 4 = .ok (.ldc_w 265, 3) := by decide +kernel
theorem dJ6_bitCount_0f7a4_7 : decode cJ6_bitCount_0f7a4 7 = .ok (.iand, 1) := by decide +kernel
theorem dJ6_bitCount_0f7a4_8 : decode cJ6_bitCount_0f7a4 8 = .ok (.isub, 1) := by decide +kernel
theorem dJ6_bitCount_0f7a4_9 : decode cJ6_bitCount_0f7a4 9 = .ok (.istore_n 0, 1) := by decide +kernel
theorem dJ6_bitCount_0f7a4_10 : decode cJ6_bitCount_0f7a4 10 = .ok (.iload_n 0, 1) := by decide +kernel
theorem dJ6_bitCount_0f7a4_11 : decode cJ6_bitCount_0f7a4 11 = .ok (.ldc_w 266, 3) := by decide +kernel
theorem dJ6_bitCount_0f7a4_14 : decode cJ6_bitCount_0f7a4 14 = .ok (.iand, 1) := by decide +kernel
theorem dJ6_bitCount_0f7a4_15 : decode cJ6_bitCount_0f7a4 15 = .ok (.iload_n 0, 1) := by decide +kernel
theorem dJ6_bitCount_0f7a4_16 : decode cJ6_bitCount_0f7a4 16 = .ok (.iconst 2, 1) := by decide +kernel
theorem dJ6_bitCount_0f7a4_17 : decode cJ6_bitCount_0f7a4 17 = .ok (.iushr, 1) := by decide +kernel
theorem dJ6_bitCount_0f7a4_18 : decode cJ6_bitCount_0f7a4 18 = .ok (.ldc_w 266, 3) := by decide +kernel
theorem dJ6_bitCount_0f7a4_21 : decode cJ6_bitCount_0f7a4 21 = .ok (.iand, 1) := by decide +kernel
theorem dJ6_bitCount_0f7a4_22 : decode cJ6_bitCount_0f7a4 22 = .ok (.iadd, 1) := by decide +kernel
theorem dJ6_bitCount_0f7a4_23 : decode cJ6_bitCount_0f7a4 23 = .ok (.istore_n 0, 1) := by decide +kernel
theorem dJ6_bitCount_0f7a4_24 : decode cJ6_bitCount_0f7a4 24 = .ok (.iload_n 0, 1) := by decide +kernel
theorem dJ6_bitCount_0f7a4_25 : decode cJ6_bitCount_0f7a4 25 = .ok (.iload_n 0, 1) := by decide +kernel
theorem dJ6_bitCount_0f7a4_26 : decode cJ6_bitCount_0f7a4 26 = .ok (.iconst 4, 1) := by decide +kernel
theorem dJ6_bitCount_0f7a4_27 : decode cJ6_bitCount_0f7a4 27 = .ok (.iushr, 1) := by decide +kernel
theorem dJ6_bitCount_0f7a4_28 : decode cJ6_bitCount_0f7a4 28 = .ok (.iadd, 1) := by decide +kernel
theorem dJ6_bitCount_0f7a4_29 : decode cJ6_bitCount_0f7a4 29 = .ok (.ldc_w 267, 3) := by decide +kernel
theorem dJ6_bitCount_0f7a4_32 : decode cJ6_bitCount_0f7a4 32 = .ok (.iand, 1) := by decide +kernel
theorem dJ6_bitCount_0f7a4_33 : decode cJ6_bitCount_0f7a4 33 = .ok (.istore_n 0, 1) := by decide +kernel
theorem dJ6_bitCount_0f7a4_34 : decode cJ6_bitCount_0f7a4 34 = .ok (.iload_n 0, 1) := by decide +kernel
theorem dJ6_bitCount_0f7a4_35 : decode cJ6_bitCount_0f7a4 35 = .ok (.iload_n 0, 1) := by decide +kernel
theorem dJ6_bitCount_0f7a4_36 : decode cJ6_bitCount_0f7a4 36 = .ok (.bipush 8, 2) := by decide +kernel
theorem dJ6_bitCount_0f7a4_38 : decode cJ6_bitCount_0f7a4 38 = .ok (.iushr, 1) := by decide +kernel
theorem dJ6_bitCount_0f7a4_39 : decode cJ6_bitCount_0f7a4 39 = .ok (.iadd, 1) := by decide +kernel
theorem dJ6_bitCount_0f7a4_40 : decode cJ6_bitCount_0f7a4 40 = .ok (.istore_n 0, 1) := by decide +kernel
theorem dJ6_bitCount_0f7a4_41 : decode cJ6_bitCount_0f7a4 41 = .ok (.iload_n 0, 1) := by decide +kernel
theorem dJ6_bitCount_0f7a4_42 : decode cJ6_bitCount_0f7a4 42 = .ok (.iload_n 0, 1) := by decide +kernel
theorem dJ6_bitCount_0f7a4_43 : decode cJ6_bitCount_0f7a4 43 = .ok (.bipush 16, 2) := by decide +kernel
theorem dJ6_bitCount_0f7a4_45 : decode cJ6_bitCount_0f7a4 45 = .ok (.iushr, 1) := by decide +kernel
theorem dJ6_bitCount_0f7a4_46 : decode cJ6_bitCount_0f7a4 46 = .ok (.iadd, 1) := by decide +kernel
theorem dJ6_bitCount_0f7a4_47 : decode cJ6_bitCount_0f7a4 47 = .ok (.istore_n 0, 1) := by decide +kernel
theorem dJ6_bitCount_0f7a4_48 : decode cJ6_bitCount_0f7a4 48 = .ok (.iload_n 0, 1) := by decide +kernel
theorem dJ6_bitCount_0f7a4_49 : decode cJ6_bitCount_0f7a4 49 = .ok (.bipush 63, 2) := by decide +kernel
theorem dJ6_bitCount_0f7a4_51 : decode cJ6_bitCount_0f7a4 51 = .ok (.iand, 1) := by decide +kernel
theorem dJ6_bitCount_0f7a4_52 : decode cJ6_bitCount_0f7a4 52 = .ok (.ireturn, 1) := by decide +kernel
theorem wc_RJ6_265 : Cond.constant RJ6 265 1431655765 ∈ TB := tbm 1096 (by decide +kernel) (by decide +kernel)
theorem wc_RJ6_266 : Cond.constant RJ6 266 858993459 ∈ TB := tbm 1097 (by decide +kernel) (by decide +kernel)
theorem wc_RJ6_267 : Cond.constant RJ6 267 252645135 ∈ TB := tbm 1098 (by decide +kernel) (by decide +kernel)
def mJ6_bitCount_0f7a4 (p1 : Int32) (σ : St_) : Option Int32 :=
 (bnd (p1 - (((p1.toUInt32 >>> ((1 : Int32).toUInt32 &&& Int32.toUInt32 31)).toInt32) &&& (1431655765 : Int32))) fun v1 =>
 (bnd ((v1 &&& (858993459 : Int32)) + (((v1.toUInt32 >>> ((2 : Int32).toUInt32 &&& Int32.toUInt32 31)).toInt32) &&& (858993459 : Int32))) fun v2 =>
 (bnd ((v2 + ((v2.toUInt32 >>> ((4 : Int32).toUInt32 &&& Int32.toUInt32 31)).toInt32)) &&& (252645135 : Int32)) fun v3 =>
 (bnd (v3 + ((v3.toUInt32 >>> ((8 : Int32).toUInt32 &&& Int32.toUInt32 31)).toInt32)) fun v4 =>
 (bnd (v4 + ((v4.toUInt32 >>> ((16 : Int32).toUInt32 &&& Int32.toUInt32 31)).toInt32)) fun v5 =>
 (some (v5 &&& (63 : Int32))))))))
set_option maxHeartbeats 4000000 in
theorem rJ6_bitCount_0f7a4 (p1 : Int32)  : Rj l D cA h0 ad yJ6_bitCount_0f7a4 cJ6_bitCount_0f7a4 1 (some .int) false 2 0 0 (fun b => (some (.int b), sh, P, σ)) [.int p1] sh P σ (mJ6_bitCount_0f7a4 p1 σ) := by
  rw [mJ6_bitCount_0f7a4]
  refine Rj.of (by decide) (fun h => by cases h) (Nat.le_of_ble_eq_true rfl) ?_
  refine tj_lv0 (lv' := [(0, .int p1)]) rfl ?_
  refine tj_iload_n (q := 1) dJ6_bitCount_0f7a4_0 rfl (i := 0) rfl (pl := 0) rfl ?_
  refine tj_iload_n (q := 2) dJ6_bitCount_0f7a4_1 rfl (i := 0) rfl (pl := 0) rfl ?_
  refine tj_iconst (q := 3) (v := 1) dJ6_bitCount_0f7a4_2 rfl (by decide) ?_
  refine tj_iushr (q := 4) dJ6_bitCount_0f7a4_3 rfl ?_
  refine tj_ldcw (q := 7) (v := 1431655765) dJ6_bitCount_0f7a4_4 rfl wc_RJ6_265 ?_
  refine tj_iand (q := 8) dJ6_bitCount_0f7a4_7 rfl ?_
  refine tj_isub (q := 9) dJ6_bitCount_0f7a4_8 rfl ?_
  refine tj_topI (fun v1 => ?_)
  refine tj_istore_n (q := 10) dJ6_bitCount_0f7a4_9 rfl (i := 0) rfl (by decide) rfl ?_
  refine tj_iload_n (q := 11) dJ6_bitCount_0f7a4_10 rfl (i := 0) rfl (pl := 0) rfl ?_
  refine tj_ldcw (q := 14) (v := 858993459) dJ6_bitCount_0f7a4_11 rfl wc_RJ6_266 ?_
  refine tj_iand (q := 15) dJ6_bitCount_0f7a4_14 rfl ?_
  refine tj_iload_n (q := 16) dJ6_bitCount_0f7a4_15 rfl (i := 0) rfl (pl := 0) rfl ?_
  refine tj_iconst (q := 17) (v := 2) dJ6_bitCount_0f7a4_16 rfl (by decide) ?_
  refine tj_iushr (q := 18) dJ6_bitCount_0f7a4_17 rfl ?_
  refine tj_ldcw (q := 21) (v := 858993459) dJ6_bitCount_0f7a4_18 rfl wc_RJ6_266 ?_
  refine tj_iand (q := 22) dJ6_bitCount_0f7a4_21 rfl ?_
  refine tj_iadd (q := 23) dJ6_bitCount_0f7a4_22 rfl ?_
  refine tj_topI (fun v2 => ?_)
  refine tj_istore_n (q := 24) dJ6_bitCount_0f7a4_23 rfl (i := 0) rfl (by decide) rfl ?_
  refine tj_iload_n (q := 25) dJ6_bitCount_0f7a4_24 rfl (i := 0) rfl (pl := 0) rfl ?_
  refine tj_iload_n (q := 26) dJ6_bitCount_0f7a4_25 rfl (i := 0) rfl (pl := 0) rfl ?_
  refine tj_iconst (q := 27) (v := 4) dJ6_bitCount_0f7a4_26 rfl (by decide) ?_
  refine tj_iushr (q := 28) dJ6_bitCount_0f7a4_27 rfl ?_
  refine tj_iadd (q := 29) dJ6_bitCount_0f7a4_28 rfl ?_
  refine tj_ldcw (q := 32) (v := 252645135) dJ6_bitCount_0f7a4_29 rfl wc_RJ6_267 ?_
  refine tj_iand (q := 33) dJ6_bitCount_0f7a4_32 rfl ?_
  refine tj_topI (fun v3 => ?_)
  refine tj_istore_n (q := 34) dJ6_bitCount_0f7a4_33 rfl (i := 0) rfl (by decide) rfl ?_
  refine tj_iload_n (q := 35) dJ6_bitCount_0f7a4_34 rfl (i := 0) rfl (pl := 0) rfl ?_
  refine tj_iload_n (q := 36) dJ6_bitCount_0f7a4_35 rfl (i := 0) rfl (pl := 0) rfl ?_
  refine tj_bipush (q := 38) (v := 8) dJ6_bitCount_0f7a4_36 rfl (by decide) ?_
  refine tj_iushr (q := 39) dJ6_bitCount_0f7a4_38 rfl ?_
  refine tj_iadd (q := 40) dJ6_bitCount_0f7a4_39 rfl ?_
  refine tj_topI (fun v4 => ?_)
  refine tj_istore_n (q := 41) dJ6_bitCount_0f7a4_40 rfl (i := 0) rfl (by decide) rfl ?_
  refine tj_iload_n (q := 42) dJ6_bitCount_0f7a4_41 rfl (i := 0) rfl (pl := 0) rfl ?_
  refine tj_iload_n (q := 43) dJ6_bitCount_0f7a4_42 rfl (i := 0) rfl (pl := 0) rfl ?_
  refine tj_bipush (q := 45) (v := 16) dJ6_bitCount_0f7a4_43 rfl (by decide) ?_
  refine tj_iushr (q := 46) dJ6_bitCount_0f7a4_45 rfl ?_
  refine tj_iadd (q := 47) dJ6_bitCount_0f7a4_46 rfl ?_
  refine tj_topI (fun v5 => ?_)
  refine tj_istore_n (q := 48) dJ6_bitCount_0f7a4_47 rfl (i := 0) rfl (by decide) rfl ?_
  refine tj_iload_n (q := 49) dJ6_bitCount_0f7a4_48 rfl (i := 0) rfl (pl := 0) rfl ?_
  refine tj_bipush (q := 51) (v := 63) dJ6_bitCount_0f7a4_49 rfl (by decide) ?_
  refine tj_iand (q := 52) dJ6_bitCount_0f7a4_51 rfl ?_
  exact tj_iret rfl rfl (Nat.le_of_ble_eq_true rfl) (Nat.le_of_ble_eq_true rfl) dJ6_bitCount_0f7a4_52

theorem dJ6_numberOfTrailingZeros_0f7a4_0 : decode cJ6_numberOfTrailingZeros_0f7a4 0 = .ok (.iload_n 0, 1) := by decide +kernel
theorem dJ6_numberOfTrailingZeros_0f7a4_1 : decode cJ6_numberOfTrailingZeros_0f7a4 1 = .ok (.iconst (-1), 1) := by decide +kernel
theorem dJ6_numberOfTrailingZeros_0f7a4_2 : decode cJ6_numberOfTrailingZeros_0f7a4 2 = .ok (.ixor, 1) := by decide +kernel
theorem dJ6_numberOfTrailingZeros_0f7a4_3 : decode cJ6_numberOfTrailingZeros_0f7a4 3 = .ok (.iload_n 0, 1) := by decide +kernel
theorem dJ6_numberOfTrailingZeros_0f7a4_4 : decode cJ6_numberOfTrailingZeros_0f7a4 4 = .ok (.iconst 1, 1) := by decide +kernel
theorem dJ6_numberOfTrailingZeros_0f7a4_5 : decode cJ6_numberOfTrailingZeros_0f7a4 5 = .ok (.isub, 1) := by decide +kernel
theorem dJ6_numberOfTrailingZeros_0f7a4_6 : decode cJ6_numberOfTrailingZeros_0f7a4 6 = .ok (.iand, 1) := by decide +kernel
theorem dJ6_numberOfTrailingZeros_0f7a4_7 : decode cJ6_numberOfTrailingZeros_0f7a4 7 = .ok (.istore_n 0, 1) := by decide +kernel
theorem dJ6_numberOfTrailingZeros_0f7a4_8 : decode cJ6_numberOfTrailingZeros_0f7a4 8 = .ok (.iload_n 0, 1) := by decide +kernel
theorem dJ6_numberOfTrailingZeros_0f7a4_9 : decode cJ6_numberOfTrailingZeros_0f7a4 9 = .ok (.ifCond .gt 8, 3) := by decide +kernel
theorem dJ6_numberOfTrailingZeros_0f7a4_12 : decode cJ6_numberOfTrailingZeros_0f7a4 12 = .ok (.iload_n 0, 1) := by decide +kernel
theorem dJ6_numberOfTrailingZeros_0f7a4_13 : decode cJ6_numberOfTrailingZeros_0f7a4 13 = .ok (.bipush 32, 2) := by decide +kernel
theorem dJ6_numberOfTrailingZeros_0f7a4_15 : decode cJ6_numberOfTrailingZeros_0f7a4 15 = .ok (.iand, 1) := by decide +kernel
theorem dJ6_numberOfTrailingZeros_0f7a4_16 : decode cJ6_numberOfTrailingZeros_0f7a4 16 = .ok (.ireturn, 1) := by decide +kernel
theorem dJ6_numberOfTrailingZeros_0f7a4_17 : decode cJ6_numberOfTrailingZeros_0f7a4 17 = .ok (.iconst 1, 1) := by decide +kernel
theorem dJ6_numberOfTrailingZeros_0f7a4_18 : decode cJ6_numberOfTrailingZeros_0f7a4 18 = .ok (.istore_n 1, 1) := by decide +kernel
theorem dJ6_numberOfTrailingZeros_0f7a4_19 : decode cJ6_numberOfTrailingZeros_0f7a4 19 = .ok (.iload_n 0, 1) := by decide +kernel
theorem dJ6_numberOfTrailingZeros_0f7a4_20 : decode cJ6_numberOfTrailingZeros_0f7a4 20 = .ok (.ldc_w 264, 3) := by decide +kernel
theorem dJ6_numberOfTrailingZeros_0f7a4_23 : decode cJ6_numberOfTrailingZeros_0f7a4 23 = .ok (.if_icmp .le 11, 3) := by decide +kernel
theorem dJ6_numberOfTrailingZeros_0f7a4_26 : decode cJ6_numberOfTrailingZeros_0f7a4 26 = .ok (.iinc 1 16, 3) := by decide +kernel
theorem dJ6_numberOfTrailingZeros_0f7a4_29 : decode cJ6_numberOfTrailingZeros_0f7a4 29 = .ok (.iload_n 0, 1) := by decide +kernel
theorem dJ6_numberOfTrailingZeros_0f7a4_30 : decode cJ6_numberOfTrailingZeros_0f7a4 30 = .ok (.bipush 16, 2) := by decide +kernel
theorem dJ6_numberOfTrailingZeros_0f7a4_32 : decode cJ6_numberOfTrailingZeros_0f7a4 32 = .ok (.iushr, 1) := by decide +kernel
theorem dJ6_numberOfTrailingZeros_0f7a4_33 : decode cJ6_numberOfTrailingZeros_0f7a4 33 = .ok (.istore_n 0, 1) := by decide +kernel
theorem dJ6_numberOfTrailingZeros_0f7a4_34 : decode cJ6_numberOfTrailingZeros_0f7a4 34 = .ok (.iload_n 0, 1) := by decide +kernel
theorem dJ6_numberOfTrailingZeros_0f7a4_35 : decode cJ6_numberOfTrailingZeros_0f7a4 35 = .ok (.sipush 256, 3) := by decide +kernel
theorem dJ6_numberOfTrailingZeros_0f7a4_38 : decode cJ6_numberOfTrailingZeros_0f7a4 38 = .ok (.if_icmp .le 11, 3) := by decide +kernel
theorem dJ6_numberOfTrailingZeros_0f7a4_41 : decode cJ6_numberOfTrailingZeros_0f7a4 41 = .ok (.iinc 1 8, 3) := by decide +kernel
theorem dJ6_numberOfTrailingZeros_0f7a4_44 : decode cJ6_numberOfTrailingZeros_0f7a4 44 = .ok (.iload_n 0, 1) := by decide +kernel
theorem dJ6_numberOfTrailingZeros_0f7a4_45 : decode cJ6_numberOfTrailingZeros_0f7a4 45 = .ok (.bipush 8, 2) := by decide +kernel
theorem dJ6_numberOfTrailingZeros_0f7a4_47 : decode cJ6_numberOfTrailingZeros_0f7a4 47 = .ok (.iushr, 1) := by decide +kernel
theorem dJ6_numberOfTrailingZeros_0f7a4_48 : decode cJ6_numberOfTrailingZeros_0f7a4 48 = .ok (.istore_n 0, 1) := by decide +kernel
theorem dJ6_numberOfTrailingZeros_0f7a4_49 : decode cJ6_numberOfTrailingZeros_0f7a4 49 = .ok (.iload_n 0, 1) := by decide +kernel
theorem dJ6_numberOfTrailingZeros_0f7a4_50 : decode cJ6_numberOfTrailingZeros_0f7a4 50 = .ok (.bipush 16, 2) := by decide +kernel
theorem dJ6_numberOfTrailingZeros_0f7a4_52 : decode cJ6_numberOfTrailingZeros_0f7a4 52 = .ok (.if_icmp .le 10, 3) := by decide +kernel
theorem dJ6_numberOfTrailingZeros_0f7a4_55 : decode cJ6_numberOfTrailingZeros_0f7a4 55 = .ok (.iinc 1 4, 3) := by decide +kernel
theorem dJ6_numberOfTrailingZeros_0f7a4_58 : decode cJ6_numberOfTrailingZeros_0f7a4 58 = .ok (.iload_n 0, 1) := by decide +kernel
theorem dJ6_numberOfTrailingZeros_0f7a4_59 : decode cJ6_numberOfTrailingZeros_0f7a4 59 = .ok (.iconst 4, 1) := by decide +kernel
theorem dJ6_numberOfTrailingZeros_0f7a4_60 : decode cJ6_numberOfTrailingZeros_0f7a4 60 = .ok (.iushr, 1) := by decide +kernel
theorem dJ6_numberOfTrailingZeros_0f7a4_61 : decode cJ6_numberOfTrailingZeros_0f7a4 61 = .ok (.istore_n 0, 1) := by decide +kernel
theorem dJ6_numberOfTrailingZeros_0f7a4_62 : decode cJ6_numberOfTrailingZeros_0f7a4 62 = .ok (.iload_n 0, 1) := by decide +kernel
theorem dJ6_numberOfTrailingZeros_0f7a4_63 : decode cJ6_numberOfTrailingZeros_0f7a4 63 = .ok (.iconst 4, 1) := by decide +kernel
theorem dJ6_numberOfTrailingZeros_0f7a4_64 : decode cJ6_numberOfTrailingZeros_0f7a4 64 = .ok (.if_icmp .le 10, 3) := by decide +kernel
theorem dJ6_numberOfTrailingZeros_0f7a4_67 : decode cJ6_numberOfTrailingZeros_0f7a4 67 = .ok (.iinc 1 2, 3) := by decide +kernel
theorem dJ6_numberOfTrailingZeros_0f7a4_70 : decode cJ6_numberOfTrailingZeros_0f7a4 70 = .ok (.iload_n 0, 1) := by decide +kernel
theorem dJ6_numberOfTrailingZeros_0f7a4_71 : decode cJ6_numberOfTrailingZeros_0f7a4 71 = .ok (.iconst 2, 1) := by decide +kernel
theorem dJ6_numberOfTrailingZeros_0f7a4_72 : decode cJ6_numberOfTrailingZeros_0f7a4 72 = .ok (.iushr, 1) := by decide +kernel
theorem dJ6_numberOfTrailingZeros_0f7a4_73 : decode cJ6_numberOfTrailingZeros_0f7a4 73 = .ok (.istore_n 0, 1) := by decide +kernel
theorem dJ6_numberOfTrailingZeros_0f7a4_74 : decode cJ6_numberOfTrailingZeros_0f7a4 74 = .ok (.iload_n 1, 1) := by decide +kernel
theorem dJ6_numberOfTrailingZeros_0f7a4_75 : decode cJ6_numberOfTrailingZeros_0f7a4 75 = .ok (.iload_n 0, 1) := by decide +kernel
theorem dJ6_numberOfTrailingZeros_0f7a4_76 : decode cJ6_numberOfTrailingZeros_0f7a4 76 = .ok (.iconst 1, 1) := by decide +kernel
theorem dJ6_numberOfTrailingZeros_0f7a4_77 : decode cJ6_numberOfTrailingZeros_0f7a4 77 = .ok (.iushr, 1) := by decide +kernel
theorem dJ6_numberOfTrailingZeros_0f7a4_78 : decode cJ6_numberOfTrailingZeros_0f7a4 78 = .ok (.iadd, 1) := by decide +kernel
theorem dJ6_numberOfTrailingZeros_0f7a4_79 : decode cJ6_numberOfTrailingZeros_0f7a4 79 = .ok (.ireturn, 1) := by decide +kernel
theorem wc_RJ6_264 : Cond.constant RJ6 264 65536 ∈ TB := tbm 1248 (by decide +kernel) (by decide +kernel)
def mJ6_numberOfTrailingZeros_0f7a4 (p1 : Int32) (σ : St_) : Option Int32 :=
 (bnd ((p1 ^^^ (-1 : Int32)) &&& (p1 - (1 : Int32))) fun v1 =>
 (if 0 < v1 then
 (bnd (fun (j2 : Int32) (j3 : Int32) => (bnd (fun (j6 : Int32) (j7 : Int32) => (bnd (fun (j10 : Int32) (j11 : Int32) => (if j10 ≤ (4 : Int32) then
 (some (j11 + ((j10.toUInt32 >>> ((1 : Int32).toUInt32 &&& Int32.toUInt32 31)).toInt32)))
 else (bnd ((j10.toUInt32 >>> ((2 : Int32).toUInt32 &&& Int32.toUInt32 31)).toInt32) fun v14 =>
 (some ((j11 + 2) + ((v14.toUInt32 >>> ((1 : Int32).toUInt32 &&& Int32.toUInt32 31)).toInt32)))))) fun k12 =>
 (if j6 ≤ (16 : Int32) then
 (k12 j6 j7)
 else (bnd ((j6.toUInt32 >>> ((4 : Int32).toUInt32 &&& Int32.toUInt32 31)).toInt32) fun v15 =>
 (k12 v15 (j7 + 4)))))) fun k8 =>
 (if j2 ≤ (256 : Int32) then
 (k8 j2 j3)
 else (bnd ((j2.toUInt32 >>> ((8 : Int32).toUInt32 &&& Int32.toUInt32 31)).toInt32) fun v16 =>
 (k8 v16 (j3 + 8)))))) fun k4 =>
 (if v1 ≤ (65536 : Int32) then
 (k4 v1 (1 : Int32))
 else (bnd ((v1.toUInt32 >>> ((16 : Int32).toUInt32 &&& Int32.toUInt32 31)).toInt32) fun v17 =>
 (k4 v17 ((1 : Int32) + 16)))))
 else (some (v1 &&& (32 : Int32)))))
set_option maxHeartbeats 4000000 in
theorem rJ6_numberOfTrailingZeros_0f7a4 (p1 : Int32)  : Rj l D cA h0 ad yJ6_numberOfTrailingZeros_0f7a4 cJ6_numberOfTrailingZeros_0f7a4 2 (some .int) false 2 0 0 (fun b => (some (.int b), sh, P, σ)) [.int p1] sh P σ (mJ6_numberOfTrailingZeros_0f7a4 p1 σ) := by
  rw [mJ6_numberOfTrailingZeros_0f7a4]
  refine Rj.of (by decide) (fun h => by cases h) (Nat.le_of_ble_eq_true rfl) ?_
  refine tj_lv0 (lv' := [(0, .int p1)]) rfl ?_
  refine tj_iload_n (q := 1) dJ6_numberOfTrailingZeros_0f7a4_0 rfl (i := 0) rfl (pl := 0) rfl ?_
  refine tj_iconst (q := 2) (v := (-1)) dJ6_numberOfTrailingZeros_0f7a4_1 rfl (by decide) ?_
  refine tj_ixor (q := 3) dJ6_numberOfTrailingZeros_0f7a4_2 rfl ?_
  refine tj_iload_n (q := 4) dJ6_numberOfTrailingZeros_0f7a4_3 rfl (i := 0) rfl (pl := 0) rfl ?_
  refine tj_iconst (q := 5) (v := 1) dJ6_numberOfTrailingZeros_0f7a4_4 rfl (by decide) ?_
  refine tj_isub (q := 6) dJ6_numberOfTrailingZeros_0f7a4_5 rfl ?_
  refine tj_iand (q := 7) dJ6_numberOfTrailingZeros_0f7a4_6 rfl ?_
  refine tj_topI (fun v1 => ?_)
  refine tj_istore_n (q := 8) dJ6_numberOfTrailingZeros_0f7a4_7 rfl (i := 0) rfl (by decide) rfl ?_
  refine tj_iload_n (q := 9) dJ6_numberOfTrailingZeros_0f7a4_8 rfl (i := 0) rfl (pl := 0) rfl ?_
  refine tj_if_gt (tgt := 17) (q := 12) dJ6_numberOfTrailingZeros_0f7a4_9 (by decide) rfl ?_ ?_
  · refine tj_iconst (q := 18) (v := 1) dJ6_numberOfTrailingZeros_0f7a4_17 rfl (by decide) ?_
    refine tj_istore_n (q := 19) dJ6_numberOfTrailingZeros_0f7a4_18 rfl (i := 1) rfl (by decide) rfl ?_
    refine tj_iload_n (q := 20) dJ6_numberOfTrailingZeros_0f7a4_19 rfl (i := 0) rfl (pl := 1) rfl ?_
    refine tj_ldcw (q := 23) (v := 65536) dJ6_numberOfTrailingZeros_0f7a4_20 rfl wc_RJ6_264 ?_
    refine tj_bnd (fun k4 => ∀ (j2 : Int32) (j3 : Int32), Tj l D cA h0 ad RJ6 cJ6_numberOfTrailingZeros_0f7a4 2 (some .int) false 2 0 0 (fun b => (some (.int b), sh, P, σ)) 0 0 sh P σ 34 [(0, .int j2), (1, .int j3)] [] (k4 j2 j3)) ?_ (fun k4 hk5 => ?_)
    · intro j2 j3
      refine tj_iload_n (q := 35) dJ6_numberOfTrailingZeros_0f7a4_34 rfl (i := 0) rfl (pl := 0) rfl ?_
      refine tj_sipush (q := 38) (v := 256) dJ6_numberOfTrailingZeros_0f7a4_35 rfl (by decide) ?_
      refine tj_bnd (fun k8 => ∀ (j6 : Int32) (j7 : Int32), Tj l D cA h0 ad RJ6 cJ6_numberOfTrailingZeros_0f7a4 2 (some .int) false 2 0 0 (fun b => (some (.int b), sh, P, σ)) 0 0 sh P σ 49 [(0, .int j6), (1, .int j7)] [] (k8 j6 j7)) ?_ (fun k8 hk9 => ?_)
      · intro j6 j7
        refine tj_iload_n (q := 50) dJ6_numberOfTrailingZeros_0f7a4_49 rfl (i := 0) rfl (pl := 0) rfl ?_
        refine tj_bipush (q := 52) (v := 16) dJ6_numberOfTrailingZeros_0f7a4_50 rfl (by decide) ?_
        refine tj_bnd (fun k12 => ∀ (j10 : Int32) (j11 : Int32), Tj l D cA h0 ad RJ6 cJ6_numberOfTrailingZeros_0f7a4 2 (some .int) false 2 0 0 (fun b => (some (.int b), sh, P, σ)) 0 0 sh P σ 62 [(0, .int j10), (1, .int j11)] [] (k12 j10 j11)) ?_ (fun k12 hk13 => ?_)
        · intro j10 j11
          refine tj_iload_n (q := 63) dJ6_numberOfTrailingZeros_0f7a4_62 rfl (i := 0) rfl (pl := 0) rfl ?_
          refine tj_iconst (q := 64) (v := 4) dJ6_numberOfTrailingZeros_0f7a4_63 rfl (by decide) ?_
          refine tj_icmp_le (tgt := 74) (q := 67) dJ6_numberOfTrailingZeros_0f7a4_64 (by decide) rfl ?_ ?_
          · refine tj_iload_n (q := 75) dJ6_numberOfTrailingZeros_0f7a4_74 rfl (i := 1) rfl (pl := 1) rfl ?_
            refine tj_iload_n (q := 76) dJ6_numberOfTrailingZeros_0f7a4_75 rfl (i := 0) rfl (pl := 0) rfl ?_
            refine tj_iconst (q := 77) (v := 1) dJ6_numberOfTrailingZeros_0f7a4_76 rfl (by decide) ?_
            refine tj_iushr (q := 78) dJ6_numberOfTrailingZeros_0f7a4_77 rfl ?_
            refine tj_iadd (q := 79) dJ6_numberOfTrailingZeros_0f7a4_78 rfl ?_
            exact tj_iret rfl rfl (Nat.le_of_ble_eq_true rfl) (Nat.le_of_ble_eq_true rfl) dJ6_numberOfTrailingZeros_0f7a4_79
          · refine tj_iinc (q := 70) (v := j11 + 2) dJ6_numberOfTrailingZeros_0f7a4_67 rfl (pl := 1) rfl rfl (by decide) rfl ?_
            refine tj_iload_n (q := 71) dJ6_numberOfTrailingZeros_0f7a4_70 rfl (i := 0) rfl (pl := 1) rfl ?_
            refine tj_iconst (q := 72) (v := 2) dJ6_numberOfTrailingZeros_0f7a4_71 rfl (by decide) ?_
            refine tj_iushr (q := 73) dJ6_numberOfTrailingZeros_0f7a4_72 rfl ?_
            refine tj_topI (fun v14 => ?_)
            refine tj_istore_n (q := 74) dJ6_numberOfTrailingZeros_0f7a4_73 rfl (i := 0) rfl (by decide) rfl ?_
            refine tj_iload_n (q := 75) dJ6_numberOfTrailingZeros_0f7a4_74 rfl (i := 1) rfl (pl := 1) rfl ?_
            refine tj_iload_n (q := 76) dJ6_numberOfTrailingZeros_0f7a4_75 rfl (i := 0) rfl (pl := 0) rfl ?_
            refine tj_iconst (q := 77) (v := 1) dJ6_numberOfTrailingZeros_0f7a4_76 rfl (by decide) ?_
            refine tj_iushr (q := 78) dJ6_numberOfTrailingZeros_0f7a4_77 rfl ?_
            refine tj_iadd (q := 79) dJ6_numberOfTrailingZeros_0f7a4_78 rfl ?_
            exact tj_iret rfl rfl (Nat.le_of_ble_eq_true rfl) (Nat.le_of_ble_eq_true rfl) dJ6_numberOfTrailingZeros_0f7a4_79
        · refine tj_icmp_le (tgt := 62) (q := 55) dJ6_numberOfTrailingZeros_0f7a4_52 (by decide) rfl ?_ ?_
          · exact hk13 j6 j7
          · refine tj_iinc (q := 58) (v := j7 + 4) dJ6_numberOfTrailingZeros_0f7a4_55 rfl (pl := 1) rfl rfl (by decide) rfl ?_
            refine tj_iload_n (q := 59) dJ6_numberOfTrailingZeros_0f7a4_58 rfl (i := 0) rfl (pl := 1) rfl ?_
            refine tj_iconst (q := 60) (v := 4) dJ6_numberOfTrailingZeros_0f7a4_59 rfl (by decide) ?_
            refine tj_iushr (q := 61) dJ6_numberOfTrailingZeros_0f7a4_60 rfl ?_
            refine tj_topI (fun v15 => ?_)
            refine tj_istore_n (q := 62) dJ6_numberOfTrailingZeros_0f7a4_61 rfl (i := 0) rfl (by decide) rfl ?_
            exact hk13 v15 (j7 + 4)
      · refine tj_icmp_le (tgt := 49) (q := 41) dJ6_numberOfTrailingZeros_0f7a4_38 (by decide) rfl ?_ ?_
        · exact hk9 j2 j3
        · refine tj_iinc (q := 44) (v := j3 + 8) dJ6_numberOfTrailingZeros_0f7a4_41 rfl (pl := 1) rfl rfl (by decide) rfl ?_
          refine tj_iload_n (q := 45) dJ6_numberOfTrailingZeros_0f7a4_44 rfl (i := 0) rfl (pl := 1) rfl ?_
          refine tj_bipush (q := 47) (v := 8) dJ6_numberOfTrailingZeros_0f7a4_45 rfl (by decide) ?_
          refine tj_iushr (q := 48) dJ6_numberOfTrailingZeros_0f7a4_47 rfl ?_
          refine tj_topI (fun v16 => ?_)
          refine tj_istore_n (q := 49) dJ6_numberOfTrailingZeros_0f7a4_48 rfl (i := 0) rfl (by decide) rfl ?_
          exact hk9 v16 (j3 + 8)
    · refine tj_icmp_le (tgt := 34) (q := 26) dJ6_numberOfTrailingZeros_0f7a4_23 (by decide) rfl ?_ ?_
      · refine tj_lv [1, 0] rfl ?_
        exact hk5 v1 (1 : Int32)
      · refine tj_iinc (q := 29) (v := (1 : Int32) + 16) dJ6_numberOfTrailingZeros_0f7a4_26 rfl (pl := 0) rfl rfl (by decide) rfl ?_
        refine tj_iload_n (q := 30) dJ6_numberOfTrailingZeros_0f7a4_29 rfl (i := 0) rfl (pl := 1) rfl ?_
        refine tj_bipush (q := 32) (v := 16) dJ6_numberOfTrailingZeros_0f7a4_30 rfl (by decide) ?_
        refine tj_iushr (q := 33) dJ6_numberOfTrailingZeros_0f7a4_32 rfl ?_
        refine tj_topI (fun v17 => ?_)
        refine tj_istore_n (q := 34) dJ6_numberOfTrailingZeros_0f7a4_33 rfl (i := 0) rfl (by decide) rfl ?_
        exact hk5 v17 ((1 : Int32) + 16)
  · refine tj_iload_n (q := 13) dJ6_numberOfTrailingZeros_0f7a4_12 rfl (i := 0) rfl (pl := 0) rfl ?_
    refine tj_bipush (q := 15) (v := 32) dJ6_numberOfTrailingZeros_0f7a4_13 rfl (by decide) ?_
    refine tj_iand (q := 16) dJ6_numberOfTrailingZeros_0f7a4_15 rfl ?_
    exact tj_iret rfl rfl (Nat.le_of_ble_eq_true rfl) (Nat.le_of_ble_eq_true rfl) dJ6_numberOfTrailingZeros_0f7a4_16

theorem dJ7_fill_53178_0 : decode cJ7_fill_53178 0 = .ok (.iconst 0, 1) := by decide +kernel
theorem dJ7_fill_53178_1 : decode cJ7_fill_53178 1 = .ok (.istore_n 2, 1) := by decide +kernel
theorem dJ7_fill_53178_2 : decode cJ7_fill_53178 2 = .ok (.aload_n 0, 1) := by decide +kernel
theorem dJ7_fill_53178_3 : decode cJ7_fill_53178 3 = .ok (.arraylength, 1) := by decide +kernel
theorem dJ7_fill_53178_4 : decode cJ7_fill_53178 4 = .ok (.istore_n 3, 1) := by decide +kernel
theorem dJ7_fill_53178_5 : decode cJ7_fill_53178 5 = .ok (.iload_n 2, 1) := by decide +kernel
theorem dJ7_fill_53178_6 : decode cJ7_fill_53178 6 = .ok (.iload_n 3, 1) := by decide +kernel
theorem dJ7_fill_53178_7 : decode cJ7_fill_53178 7 = .ok (.if_icmp .ge 13, 3) := by decide +kernel
theorem dJ7_fill_53178_10 : decode cJ7_fill_53178 10 = .ok (.aload_n 0, 1) := by decide +kernel
theorem dJ7_fill_53178_11 : decode cJ7_fill_53178 11 = .ok (.iload_n 2, 1) := by decide +kernel
theorem dJ7_fill_53178_12 : decode cJ7_fill_53178 12 = .ok (.iload_n 1, 1) := by decide +kernel
theorem dJ7_fill_53178_13 : decode cJ7_fill_53178 13 = .ok (.iastore, 1) := by decide +kernel
theorem dJ7_fill_53178_14 : decode cJ7_fill_53178 14 = .ok (.iinc 2 1, 3) := by decide +kernel
theorem dJ7_fill_53178_17 : decode cJ7_fill_53178 17 = .ok (.goto (-12), 3) := by decide +kernel
theorem dJ7_fill_53178_20 : decode cJ7_fill_53178 20 = .ok (.return_, 1) := by decide +kernel
def mJ7_fill_53178_L5 (p1 : Nat) (p1n : Nat) (x1 : Int32) (x3 : Int32) : Nat → Int32 → St_ → Option St_
  | 0, _, _ => none
  | n + 1, x2, σ => (if x3 ≤ x2 then
 (some σ)
 else (if bin x2 p1n = true then bnd (sI σ p1 x2.toNatClampNeg x1) fun σ2 =>
 (mJ7_fill_53178_L5 p1 p1n x1 x3 n (x2 + 1) σ2)
 else none))
def mJ7_fill_53178 (p1 : Nat) (p1n : Nat) (p2 : Int32) (σ : St_) : Option St_ :=
 (bnd (Int32.ofNat p1n) fun v1 =>
 (mJ7_fill_53178_L5 p1 p1n p2 v1 FU (0 : Int32) σ))
set_option maxHeartbeats 4000000 in
theorem tmJ7_fill_53178_L5 (p1 : Nat) (p1n : Nat) (hp1 : sh[p1]? = some (1, p1n)) (x1 : Int32) (x3 : Int32) : ∀ (n : Nat) (x2 : Int32) (σ : St_), Tj l D cA h0 ad RJ7 cJ7_fill_53178 4 none false 2 0 0 (fun b => (none, sh, P, b)) 0 0 sh P σ 5 [(0, .ref (h0 + p1)), (1, .int x1), (2, .int x2), (3, .int x3)] [] (mJ7_fill_53178_L5 p1 p1n x1 x3 n x2 σ) := by
  intro n
  induction n with
  | zero => intros; exact tj_none
  | succ n ih =>
    intro x2 σ
    rw [mJ7_fill_53178_L5]
    refine tj_iload_n (q := 6) dJ7_fill_53178_5 rfl (i := 2) rfl (pl := 2) rfl ?_
    refine tj_iload_n (q := 7) dJ7_fill_53178_6 rfl (i := 3) rfl (pl := 3) rfl ?_
    refine tj_icmp_ge (tgt := 20) (q := 10) dJ7_fill_53178_7 (by decide) rfl ?_ ?_
    · exact tj_vret rfl rfl (Nat.le_of_ble_eq_true rfl) (Nat.le_of_ble_eq_true rfl) dJ7_fill_53178_20
    · refine tj_aload_n (q := 11) dJ7_fill_53178_10 rfl (i := 0) rfl (pl := 0) rfl ?_
      refine tj_iload_n (q := 12) dJ7_fill_53178_11 rfl (i := 2) rfl (pl := 2) rfl ?_
      refine tj_iload_n (q := 13) dJ7_fill_53178_12 rfl (i := 1) rfl (pl := 1) rfl ?_
      refine tj_iastore (q := 14) hp1 dJ7_fill_53178_13 rfl (fun σ2 => ?_)
      refine tj_iinc (q := 17) (v := x2 + 1) dJ7_fill_53178_14 rfl (pl := 2) rfl rfl (by decide) rfl ?_
      refine tj_goto (q := 5) dJ7_fill_53178_17 (by decide) ?_
      refine tj_lv [1, 2, 0, 3] rfl ?_
      exact ih (x2 + 1) σ2

set_option maxHeartbeats 4000000 in
theorem rJ7_fill_53178 (p1 : Nat) (p1n : Nat) (p2 : Int32) (hp1 : sh[p1]? = some (1, p1n)) : Rj l D cA h0 ad yJ7_fill_53178 cJ7_fill_53178 4 none false 2 0 0 (fun b => (none, sh, P, b)) [.ref (h0 + p1), .int p2] sh P σ (mJ7_fill_53178 p1 p1n p2 σ) := by
  rw [mJ7_fill_53178]
  refine Rj.of (by decide) (fun h => by cases h) (Nat.le_of_ble_eq_true rfl) ?_
  refine tj_lv0 (lv' := [(0, .ref (h0 + p1)), (1, .int p2)]) rfl ?_
  refine tj_iconst (q := 1) (v := 0) dJ7_fill_53178_0 rfl (by decide) ?_
  refine tj_istore_n (q := 2) dJ7_fill_53178_1 rfl (i := 2) rfl (by decide) rfl ?_
  refine tj_aload_n (q := 3) dJ7_fill_53178_2 rfl (i := 0) rfl (pl := 1) rfl ?_
  refine tj_alen1 (q := 4) (v := Int32.ofNat p1n) hp1 rfl dJ7_fill_53178_3 rfl ?_
  refine tj_topI (fun v1 => ?_)
  refine tj_istore_n (q := 5) dJ7_fill_53178_4 rfl (i := 3) rfl (by decide) rfl ?_
  refine tj_lv [2, 3, 1, 0] rfl ?_
  exact tmJ7_fill_53178_L5 p1 p1n hp1 p2 v1 FU (0 : Int32) σ

theorem dX8_begin_0 : decode cX8_begin 0 = .ok (.aload_n 1, 1) := by decide +kernel
theorem dX8_begin_1 : decode cX8_begin 1 = .ok (.getfield 28, 3) := by decide +kernel
theorem dX8_begin_4 : decode cX8_begin 4 = .ok (.iconst 0, 1) := by decide +kernel
theorem dX8_begin_5 : decode cX8_begin 5 = .ok (.aload_n 0, 1) := by decide +kernel
theorem dX8_begin_6 : decode cX8_begin 6 = .ok (.getfield 9, 3) := by decide +kernel
theorem dX8_begin_9 : decode cX8_begin 9 = .ok (.iconst 0, 1) := by decide +kernel
theorem dX8_begin_10 : decode cX8_begin 10 = .ok (.bipush 9, 2) := by decide +kernel
theorem dX8_begin_12 : decode cX8_begin 12 = .ok (.invokestatic 31, 3) := by decide +kernel
theorem dX8_begin_15 : decode cX8_begin 15 = .ok (.aload_n 0, 1) := by decide +kernel
theorem dX8_begin_16 : decode cX8_begin 16 = .ok (.getfield 15, 3) := by decide +kernel
theorem dX8_begin_19 : decode cX8_begin 19 = .ok (.iconst 0, 1) := by decide +kernel
theorem dX8_begin_20 : decode cX8_begin 20 = .ok (.invokestatic 37, 3) := by decide +kernel
theorem dX8_begin_23 : decode cX8_begin 23 = .ok (.aload_n 0, 1) := by decide +kernel
theorem dX8_begin_24 : decode cX8_begin 24 = .ok (.iconst 0, 1) := by decide +kernel
theorem dX8_begin_25 : decode cX8_begin 25 = .ok (.putfield 18, 3) := by decide +kernel
theorem dX8_begin_28 : decode cX8_begin 28 = .ok (.aload_n 0, 1) := by decide +kernel
theorem dX8_begin_29 : decode cX8_begin 29 = .ok (.iconst 0, 1) := by decide +kernel
theorem dX8_begin_30 : decode cX8_begin 30 = .ok (.putfield 22, 3) := by decide +kernel
theorem dX8_begin_33 : decode cX8_begin 33 = .ok (.aload_n 0, 1) := by decide +kernel
theorem dX8_begin_34 : decode cX8_begin 34 = .ok (.iconst 0, 1) := by decide +kernel
theorem dX8_begin_35 : decode cX8_begin 35 = .ok (.putfield 25, 3) := by decide +kernel
theorem dX8_begin_38 : decode cX8_begin 38 = .ok (.return_, 1) := by decide +kernel
theorem wl_RX8_28 : Cond.fieldLink RX8 28 (TX1 14).1 (TX1 14).2.1 (TX1 14).2.2.1 ∈ TB := tbm 335 (by decide +kernel) (by decide +kernel)
theorem wl_RX8_9 : Cond.fieldLink RX8 9 (TX8 0).1 (TX8 0).2.1 (TX8 0).2.2.1 ∈ TB := tbm 379 (by decide +kernel) (by decide +kernel)
theorem wj_RX8_31 : Ijc RX8 31 := ⟨tbm 1005 (by decide +kernel) (by decide +kernel), tbm 1000 (by decide +kernel) (by decide +kernel), tbm 999 (by decide +kernel) (by decide +kernel), tbm 154 (by decide +kernel) (by decide +kernel)⟩
theorem wl_RX8_15 : Cond.fieldLink RX8 15 (TX8 1).1 (TX8 1).2.1 (TX8 1).2.2.1 ∈ TB := tbm 385 (by decide +kernel) (by decide +kernel)
theorem wm_J7_fill_53178 : Cond.static yJ7_fill_53178 ∈ TB ∧ Cond.initialized yJ7_fill_53178.cls ∈ TB ∧ Cond.code yJ7_fill_53178 cJ7_fill_53178 4 none ∈ TB ∧ (yJ7_fill_53178.cls ≠ "java/lang/invoke/MethodHandle" ∧ yJ7_fill_53178.cls ≠ "java/lang/invoke/VarHandle" ∧ (parseMethodDescriptor yJ7_fill_53178.desc).map (fun d => d.parameters.length) = some 2) ∧ 4 ≤ 21 := ⟨tbm 832 (by decide +kernel) (by decide +kernel), tbm 153 (by decide +kernel) (by decide +kernel), tbm 833 (by decide +kernel) (by decide +kernel), by decide +kernel, by decide⟩
theorem wi_RX8_37 : Is RX8 37 yJ7_fill_53178 cJ7_fill_53178 4 none 2 := ⟨tbm 1006 (by decide +kernel) (by decide +kernel), wm_J7_fill_53178⟩
theorem wl_RX8_18 : Cond.fieldLink RX8 18 (TX8 2).1 (TX8 2).2.1 (TX8 2).2.2.1 ∈ TB := tbm 387 (by decide +kernel) (by decide +kernel)
theorem wl_RX8_22 : Cond.fieldLink RX8 22 (TX8 3).1 (TX8 3).2.1 (TX8 3).2.2.1 ∈ TB := tbm 389 (by decide +kernel) (by decide +kernel)
theorem wl_RX8_25 : Cond.fieldLink RX8 25 (TX8 4).1 (TX8 4).2.1 (TX8 4).2.2.1 ∈ TB := tbm 393 (by decide +kernel) (by decide +kernel)
def mX8_begin (t : Nat) (p1 : Nat) (σ : St_) : Option St_ :=
 (if cpok (0 : Int32) (0 : Int32) (9 : Int32) 9 9 = true then bnd (cpI σ (p1 + 10) (t + 1) (0 : Int32) (0 : Int32) (9 : Int32)) fun σ1 =>
 ((mJ7_fill_53178 (t + 2) 4 (0 : Int32) σ1).bind fun σ2 =>
 (bnd (sI σ2 t 2 (0 : Int32)) fun σ3 =>
 (bnd (sI σ3 t 3 (0 : Int32)) fun σ4 =>
 (bnd (sI σ4 t 4 (0 : Int32)) fun σ5 =>
 (some σ5)))))
 else none)
set_option maxHeartbeats 4000000 in
theorem rX8_begin (t : Nat) (p1 : Nat) (hT : LY8 sh P t) (hp1 : LY1 sh P p1) : Rj l D cA h0 ad yX8_begin cX8_begin 2 none false 3 0 0 (fun b => (none, sh, P, b)) [.ref (h0 + t), .ref (h0 + p1)] sh P σ (mX8_begin t p1 σ) := by
  rw [mX8_begin]
  refine Rj.of (by decide) (fun h => by cases h) (Nat.le_of_ble_eq_true rfl) ?_
  refine tj_lv0 (lv' := [(0, .ref (h0 + t)), (1, .ref (h0 + p1))]) rfl ?_
  refine tj_aload_n (q := 1) dX8_begin_0 rfl (i := 1) rfl (pl := 1) rfl ?_
  refine tj_getR (q := 4) (hp1).s (hp1).p_held fok_1_14 wl_RX8_28 dX8_begin_1 rfl ?_
  refine tj_iconst (q := 5) (v := 0) dX8_begin_4 rfl (by decide) ?_
  refine tj_aload_n (q := 6) dX8_begin_5 rfl (i := 0) rfl (pl := 0) rfl ?_
  refine tj_getR (q := 9) (hT).s (hT).p_held fok_8_0 wl_RX8_9 dX8_begin_6 rfl ?_
  refine tj_iconst (q := 10) (v := 0) dX8_begin_9 rfl (by decide) ?_
  refine tj_bipush (q := 12) (v := 9) dX8_begin_10 rfl (by decide) ?_
  refine tj_copy (q := 15) (hp1).s_held (hT).s_held wj_RX8_31 dX8_begin_12 rfl (Nat.le_of_ble_eq_true rfl) (Nat.le_of_ble_eq_true rfl) (fun σ1 => ?_)
  refine tj_aload_n (q := 16) dX8_begin_15 rfl (i := 0) rfl (pl := 0) rfl ?_
  refine tj_getR (q := 19) (hT).s (hT).p_crimes fok_8_1 wl_RX8_15 dX8_begin_16 rfl ?_
  refine tj_iconst (q := 20) (v := 0) dX8_begin_19 rfl (by decide) ?_
  refine tj_callV (q := 23) (kj_S (As := [.ref (h0 + (t + 2)), .int (0 : Int32)]) (rest := []) wi_RX8_37 (rJ7_fill_53178 (t + 2) 4 (0 : Int32) ((hT).s_crimes)) rfl (Nat.le_of_ble_eq_true rfl) ⟨Nat.le_of_ble_eq_true rfl, Nat.le_of_ble_eq_true rfl⟩ (Nat.le_of_ble_eq_true rfl) dX8_begin_20) rfl (fun σ2 => ?_)
  refine tj_aload_n (q := 24) dX8_begin_23 rfl (i := 0) rfl (pl := 0) rfl ?_
  refine tj_iconst (q := 25) (v := 0) dX8_begin_24 rfl (by decide) ?_
  refine tj_putI (q := 28) (hT).s fok_8_2 tok_8 fpk_8_2 wl_RX8_18 dX8_begin_25 rfl (fun σ3 => ?_)
  refine tj_aload_n (q := 29) dX8_begin_28 rfl (i := 0) rfl (pl := 0) rfl ?_
  refine tj_iconst (q := 30) (v := 0) dX8_begin_29 rfl (by decide) ?_
  refine tj_putI (q := 33) (hT).s fok_8_3 tok_8 fpk_8_3 wl_RX8_22 dX8_begin_30 rfl (fun σ4 => ?_)
  refine tj_aload_n (q := 34) dX8_begin_33 rfl (i := 0) rfl (pl := 0) rfl ?_
  refine tj_iconst (q := 35) (v := 0) dX8_begin_34 rfl (by decide) ?_
  refine tj_putI (q := 38) (hT).s fok_8_4 tok_8 fpk_8_4 wl_RX8_25 dX8_begin_35 rfl (fun σ5 => ?_)
  exact tj_vret rfl rfl (Nat.le_of_ble_eq_true rfl) (Nat.le_of_ble_eq_true rfl) dX8_begin_38

theorem dX8_copy_0 : decode cX8_copy 0 = .ok (.aload_n 1, 1) := by decide +kernel
theorem dX8_copy_1 : decode cX8_copy 1 = .ok (.getfield 9, 3) := by decide +kernel
theorem dX8_copy_4 : decode cX8_copy 4 = .ok (.iconst 0, 1) := by decide +kernel
theorem dX8_copy_5 : decode cX8_copy 5 = .ok (.aload_n 0, 1) := by decide +kernel
theorem dX8_copy_6 : decode cX8_copy 6 = .ok (.getfield 9, 3) := by decide +kernel
theorem dX8_copy_9 : decode cX8_copy 9 = .ok (.iconst 0, 1) := by decide +kernel
theorem dX8_copy_10 : decode cX8_copy 10 = .ok (.bipush 9, 2) := by decide +kernel
theorem dX8_copy_12 : decode cX8_copy 12 = .ok (.invokestatic 31, 3) := by decide +kernel
theorem dX8_copy_15 : decode cX8_copy 15 = .ok (.aload_n 1, 1) := by decide +kernel
theorem dX8_copy_16 : decode cX8_copy 16 = .ok (.getfield 15, 3) := by decide +kernel
theorem dX8_copy_19 : decode cX8_copy 19 = .ok (.iconst 0, 1) := by decide +kernel
theorem dX8_copy_20 : decode cX8_copy 20 = .ok (.aload_n 0, 1) := by decide +kernel
theorem dX8_copy_21 : decode cX8_copy 21 = .ok (.getfield 15, 3) := by decide +kernel
theorem dX8_copy_24 : decode cX8_copy 24 = .ok (.iconst 0, 1) := by decide +kernel
theorem dX8_copy_25 : decode cX8_copy 25 = .ok (.iconst 4, 1) := by decide +kernel
theorem dX8_copy_26 : decode cX8_copy 26 = .ok (.invokestatic 31, 3) := by decide +kernel
theorem dX8_copy_29 : decode cX8_copy 29 = .ok (.aload_n 0, 1) := by decide +kernel
theorem dX8_copy_30 : decode cX8_copy 30 = .ok (.aload_n 1, 1) := by decide +kernel
theorem dX8_copy_31 : decode cX8_copy 31 = .ok (.getfield 18, 3) := by decide +kernel
theorem dX8_copy_34 : decode cX8_copy 34 = .ok (.putfield 18, 3) := by decide +kernel
theorem dX8_copy_37 : decode cX8_copy 37 = .ok (.aload_n 0, 1) := by decide +kernel
theorem dX8_copy_38 : decode cX8_copy 38 = .ok (.aload_n 1, 1) := by decide +kernel
theorem dX8_copy_39 : decode cX8_copy 39 = .ok (.getfield 22, 3) := by decide +kernel
theorem dX8_copy_42 : decode cX8_copy 42 = .ok (.putfield 22, 3) := by decide +kernel
theorem dX8_copy_45 : decode cX8_copy 45 = .ok (.aload_n 0, 1) := by decide +kernel
theorem dX8_copy_46 : decode cX8_copy 46 = .ok (.aload_n 1, 1) := by decide +kernel
theorem dX8_copy_47 : decode cX8_copy 47 = .ok (.getfield 25, 3) := by decide +kernel
theorem dX8_copy_50 : decode cX8_copy 50 = .ok (.putfield 25, 3) := by decide +kernel
theorem dX8_copy_53 : decode cX8_copy 53 = .ok (.return_, 1) := by decide +kernel
def mX8_copy (t : Nat) (p1 : Nat) (σ : St_) : Option St_ :=
 (if cpok (0 : Int32) (0 : Int32) (9 : Int32) 9 9 = true then bnd (cpI σ (p1 + 1) (t + 1) (0 : Int32) (0 : Int32) (9 : Int32)) fun σ1 =>
 (if cpok (0 : Int32) (0 : Int32) (4 : Int32) 4 4 = true then bnd (cpI σ1 (p1 + 2) (t + 2) (0 : Int32) (0 : Int32) (4 : Int32)) fun σ2 =>
 (bnd (sI σ2 t 2 (σ2.1 p1 2)) fun σ3 =>
 (bnd (sI σ3 t 3 (σ3.1 p1 3)) fun σ4 =>
 (bnd (sI σ4 t 4 (σ4.1 p1 4)) fun σ5 =>
 (some σ5))))
 else none)
 else none)
set_option maxHeartbeats 4000000 in
theorem rX8_copy (t : Nat) (p1 : Nat) (hT : LY8 sh P t) (hp1 : LY8 sh P p1) : Rj l D cA h0 ad yX8_copy cX8_copy 2 none false 2 0 0 (fun b => (none, sh, P, b)) [.ref (h0 + t), .ref (h0 + p1)] sh P σ (mX8_copy t p1 σ) := by
  rw [mX8_copy]
  refine Rj.of (by decide) (fun h => by cases h) (Nat.le_of_ble_eq_true rfl) ?_
  refine tj_lv0 (lv' := [(0, .ref (h0 + t)), (1, .ref (h0 + p1))]) rfl ?_
  refine tj_aload_n (q := 1) dX8_copy_0 rfl (i := 1) rfl (pl := 1) rfl ?_
  refine tj_getR (q := 4) (hp1).s (hp1).p_held fok_8_0 wl_RX8_9 dX8_copy_1 rfl ?_
  refine tj_iconst (q := 5) (v := 0) dX8_copy_4 rfl (by decide) ?_
  refine tj_aload_n (q := 6) dX8_copy_5 rfl (i := 0) rfl (pl := 0) rfl ?_
  refine tj_getR (q := 9) (hT).s (hT).p_held fok_8_0 wl_RX8_9 dX8_copy_6 rfl ?_
  refine tj_iconst (q := 10) (v := 0) dX8_copy_9 rfl (by decide) ?_
  refine tj_bipush (q := 12) (v := 9) dX8_copy_10 rfl (by decide) ?_
  refine tj_copy (q := 15) (hp1).s_held (hT).s_held wj_RX8_31 dX8_copy_12 rfl (Nat.le_of_ble_eq_true rfl) (Nat.le_of_ble_eq_true rfl) (fun σ1 => ?_)
  refine tj_aload_n (q := 16) dX8_copy_15 rfl (i := 1) rfl (pl := 1) rfl ?_
  refine tj_getR (q := 19) (hp1).s (hp1).p_crimes fok_8_1 wl_RX8_15 dX8_copy_16 rfl ?_
  refine tj_iconst (q := 20) (v := 0) dX8_copy_19 rfl (by decide) ?_
  refine tj_aload_n (q := 21) dX8_copy_20 rfl (i := 0) rfl (pl := 0) rfl ?_
  refine tj_getR (q := 24) (hT).s (hT).p_crimes fok_8_1 wl_RX8_15 dX8_copy_21 rfl ?_
  refine tj_iconst (q := 25) (v := 0) dX8_copy_24 rfl (by decide) ?_
  refine tj_iconst (q := 26) (v := 4) dX8_copy_25 rfl (by decide) ?_
  refine tj_copy (q := 29) (hp1).s_crimes (hT).s_crimes wj_RX8_31 dX8_copy_26 rfl (Nat.le_of_ble_eq_true rfl) (Nat.le_of_ble_eq_true rfl) (fun σ2 => ?_)
  refine tj_aload_n (q := 30) dX8_copy_29 rfl (i := 0) rfl (pl := 0) rfl ?_
  refine tj_aload_n (q := 31) dX8_copy_30 rfl (i := 1) rfl (pl := 1) rfl ?_
  refine tj_getI (q := 34) (hp1).s fok_8_2 wl_RX8_18 dX8_copy_31 rfl ?_
  refine tj_putI (q := 37) (hT).s fok_8_2 tok_8 fpk_8_2 wl_RX8_18 dX8_copy_34 rfl (fun σ3 => ?_)
  refine tj_aload_n (q := 38) dX8_copy_37 rfl (i := 0) rfl (pl := 0) rfl ?_
  refine tj_aload_n (q := 39) dX8_copy_38 rfl (i := 1) rfl (pl := 1) rfl ?_
  refine tj_getI (q := 42) (hp1).s fok_8_3 wl_RX8_22 dX8_copy_39 rfl ?_
  refine tj_putI (q := 45) (hT).s fok_8_3 tok_8 fpk_8_3 wl_RX8_22 dX8_copy_42 rfl (fun σ4 => ?_)
  refine tj_aload_n (q := 46) dX8_copy_45 rfl (i := 0) rfl (pl := 0) rfl ?_
  refine tj_aload_n (q := 47) dX8_copy_46 rfl (i := 1) rfl (pl := 1) rfl ?_
  refine tj_getI (q := 50) (hp1).s fok_8_4 wl_RX8_25 dX8_copy_47 rfl ?_
  refine tj_putI (q := 53) (hT).s fok_8_4 tok_8 fpk_8_4 wl_RX8_25 dX8_copy_50 rfl (fun σ5 => ?_)
  exact tj_vret rfl rfl (Nat.le_of_ble_eq_true rfl) (Nat.le_of_ble_eq_true rfl) dX8_copy_53

theorem dX8_holderOf_0 : decode cX8_holderOf 0 = .ok (.iconst 0, 1) := by decide +kernel
theorem dX8_holderOf_1 : decode cX8_holderOf 1 = .ok (.istore_n 2, 1) := by decide +kernel
theorem dX8_holderOf_2 : decode cX8_holderOf 2 = .ok (.iload_n 2, 1) := by decide +kernel
theorem dX8_holderOf_3 : decode cX8_holderOf 3 = .ok (.bipush 9, 2) := by decide +kernel
theorem dX8_holderOf_5 : decode cX8_holderOf 5 = .ok (.if_icmp .ge 24, 3) := by decide +kernel
theorem dX8_holderOf_8 : decode cX8_holderOf 8 = .ok (.aload_n 0, 1) := by decide +kernel
theorem dX8_holderOf_9 : decode cX8_holderOf 9 = .ok (.getfield 9, 3) := by decide +kernel
theorem dX8_holderOf_12 : decode cX8_holderOf 12 = .ok (.iload_n 2, 1) := by decide +kernel
theorem dX8_holderOf_13 : decode cX8_holderOf 13 = .ok (.iaload, 1) := by decide +kernel
theorem dX8_holderOf_14 : decode cX8_holderOf 14 = .ok (.iload_n 1, 1) := by decide +kernel
theorem dX8_holderOf_15 : decode cX8_holderOf 15 = .ok (.ishr, 1) := by decide +kernel
theorem dX8_holderOf_16 : decode cX8_holderOf 16 = .ok (.iconst 1, 1) := by decide +kernel
theorem dX8_holderOf_17 : decode cX8_holderOf 17 = .ok (.iand, 1) := by decide +kernel
theorem dX8_holderOf_18 : decode cX8_holderOf 18 = .ok (.ifCond .eq 5, 3) := by decide +kernel
theorem dX8_holderOf_21 : decode cX8_holderOf 21 = .ok (.iload_n 2, 1) := by decide +kernel
theorem dX8_holderOf_22 : decode cX8_holderOf 22 = .ok (.ireturn, 1) := by decide +kernel
theorem dX8_holderOf_23 : decode cX8_holderOf 23 = .ok (.iinc 2 1, 3) := by decide +kernel
theorem dX8_holderOf_26 : decode cX8_holderOf 26 = .ok (.goto (-24), 3) := by decide +kernel
theorem dX8_holderOf_29 : decode cX8_holderOf 29 = .ok (.iconst (-1), 1) := by decide +kernel
theorem dX8_holderOf_30 : decode cX8_holderOf 30 = .ok (.ireturn, 1) := by decide +kernel
def mX8_holderOf_L2 (t : Nat) (σ : St_) (x1 : Int32) : Nat → Int32 → Option Int32
  | 0, _ => none
  | n + 1, x2 => (if (9 : Int32) ≤ x2 then
 (some (-1 : Int32))
 else (if bin x2 9 = true then bnd (σ.1 (t + 1) x2.toNatClampNeg) fun v1 =>
 (if ((v1 >>> (x1 &&& 31)) &&& (1 : Int32)) = 0 then
 (mX8_holderOf_L2 t σ x1 n (x2 + 1))
 else (some x2))
 else none))
def mX8_holderOf (t : Nat) (p1 : Int32) (σ : St_) : Option Int32 :=
 (mX8_holderOf_L2 t σ p1 FU (0 : Int32))
set_option maxHeartbeats 4000000 in
theorem tmX8_holderOf_L2 (σ : St_) (t : Nat) (hT : LY8 sh P t) (x1 : Int32) : ∀ (n : Nat) (x2 : Int32), Tj l D cA h0 ad RX8 cX8_holderOf 3 (some .int) false 2 0 0 (fun b => (some (.int b), sh, P, σ)) 0 0 sh P σ 2 [(0, .ref (h0 + t)), (1, .int x1), (2, .int x2)] [] (mX8_holderOf_L2 t σ x1 n x2) := by
  intro n
  induction n with
  | zero => intros; exact tj_none
  | succ n ih =>
    intro x2
    rw [mX8_holderOf_L2]
    refine tj_iload_n (q := 3) dX8_holderOf_2 rfl (i := 2) rfl (pl := 2) rfl ?_
    refine tj_bipush (q := 5) (v := 9) dX8_holderOf_3 rfl (by decide) ?_
    refine tj_icmp_ge (tgt := 29) (q := 8) dX8_holderOf_5 (by decide) rfl ?_ ?_
    · refine tj_iconst (q := 30) (v := (-1)) dX8_holderOf_29 rfl (by decide) ?_
      exact tj_iret rfl rfl (Nat.le_of_ble_eq_true rfl) (Nat.le_of_ble_eq_true rfl) dX8_holderOf_30
    · refine tj_aload_n (q := 9) dX8_holderOf_8 rfl (i := 0) rfl (pl := 0) rfl ?_
      refine tj_getR (q := 12) (hT).s (hT).p_held fok_8_0 wl_RX8_9 dX8_holderOf_9 rfl ?_
      refine tj_iload_n (q := 13) dX8_holderOf_12 rfl (i := 2) rfl (pl := 2) rfl ?_
      refine tj_iaload (q := 14) (hT).s_held dX8_holderOf_13 rfl ?_
      refine tj_topI (fun v1 => ?_)
      refine tj_iload_n (q := 15) dX8_holderOf_14 rfl (i := 1) rfl (pl := 1) rfl ?_
      refine tj_ishr (q := 16) dX8_holderOf_15 rfl ?_
      refine tj_iconst (q := 17) (v := 1) dX8_holderOf_16 rfl (by decide) ?_
      refine tj_iand (q := 18) dX8_holderOf_17 rfl ?_
      refine tj_if_eq (tgt := 23) (q := 21) dX8_holderOf_18 (by decide) rfl ?_ ?_
      · refine tj_iinc (q := 26) (v := x2 + 1) dX8_holderOf_23 rfl (pl := 2) rfl rfl (by decide) rfl ?_
        refine tj_goto (q := 2) dX8_holderOf_26 (by decide) ?_
        refine tj_lv [1, 2, 0] rfl ?_
        exact ih (x2 + 1)
      · refine tj_iload_n (q := 22) dX8_holderOf_21 rfl (i := 2) rfl (pl := 2) rfl ?_
        exact tj_iret rfl rfl (Nat.le_of_ble_eq_true rfl) (Nat.le_of_ble_eq_true rfl) dX8_holderOf_22

set_option maxHeartbeats 4000000 in
theorem rX8_holderOf (t : Nat) (p1 : Int32) (hT : LY8 sh P t) : Rj l D cA h0 ad yX8_holderOf cX8_holderOf 3 (some .int) false 2 0 0 (fun b => (some (.int b), sh, P, σ)) [.ref (h0 + t), .int p1] sh P σ (mX8_holderOf t p1 σ) := by
  rw [mX8_holderOf]
  refine Rj.of (by decide) (fun h => by cases h) (Nat.le_of_ble_eq_true rfl) ?_
  refine tj_lv0 (lv' := [(0, .ref (h0 + t)), (1, .int p1)]) rfl ?_
  refine tj_iconst (q := 1) (v := 0) dX8_holderOf_0 rfl (by decide) ?_
  refine tj_istore_n (q := 2) dX8_holderOf_1 rfl (i := 2) rfl (by decide) rfl ?_
  refine tj_lv [1, 2, 0] rfl ?_
  exact tmX8_holderOf_L2 σ t hT p1 FU (0 : Int32)

theorem dX8_exchange_0 : decode cX8_exchange 0 = .ok (.aload_n 0, 1) := by decide +kernel
theorem dX8_exchange_1 : decode cX8_exchange 1 = .ok (.getfield 9, 3) := by decide +kernel
theorem dX8_exchange_4 : decode cX8_exchange 4 = .ok (.iload_n 2, 1) := by decide +kernel
theorem dX8_exchange_5 : decode cX8_exchange 5 = .ok (.aload_n 0, 1) := by decide +kernel
theorem dX8_exchange_6 : decode cX8_exchange 6 = .ok (.getfield 9, 3) := by decide +kernel
theorem dX8_exchange_9 : decode cX8_exchange 9 = .ok (.iload_n 2, 1) := by decide +kernel
theorem dX8_exchange_10 : decode cX8_exchange 10 = .ok (.iaload, 1) := by decide +kernel
theorem dX8_exchange_11 : decode cX8_exchange 11 = .ok (.iload_n 3, 1) := by decide +kernel
theorem dX8_exchange_12 : decode cX8_exchange 12 = .ok (.iconst (-1), 1) := by decide +kernel
theorem dX8_exchange_13 : decode cX8_exchange 13 = .ok (.ixor, 1) := by decide +kernel
theorem dX8_exchange_14 : decode cX8_exchange 14 = .ok (.iand, 1) := by decide +kernel
theorem dX8_exchange_15 : decode cX8_exchange 15 = .ok (.iload 4, 2) := by decide +kernel
theorem dX8_exchange_17 : decode cX8_exchange 17 = .ok (.ior, 1) := by decide +kernel
theorem dX8_exchange_18 : decode cX8_exchange 18 = .ok (.iastore, 1) := by decide +kernel
theorem dX8_exchange_19 : decode cX8_exchange 19 = .ok (.aload_n 0, 1) := by decide +kernel
theorem dX8_exchange_20 : decode cX8_exchange 20 = .ok (.getfield 9, 3) := by decide +kernel
theorem dX8_exchange_23 : decode cX8_exchange 23 = .ok (.iconst 5, 1) := by decide +kernel
theorem dX8_exchange_24 : decode cX8_exchange 24 = .ok (.iload_n 1, 1) := by decide +kernel
theorem dX8_exchange_25 : decode cX8_exchange 25 = .ok (.iadd, 1) := by decide +kernel
theorem dX8_exchange_26 : decode cX8_exchange 26 = .ok (.aload_n 0, 1) := by decide +kernel
theorem dX8_exchange_27 : decode cX8_exchange 27 = .ok (.getfield 9, 3) := by decide +kernel
theorem dX8_exchange_30 : decode cX8_exchange 30 = .ok (.iconst 5, 1) := by decide +kernel
theorem dX8_exchange_31 : decode cX8_exchange 31 = .ok (.iload_n 1, 1) := by decide +kernel
theorem dX8_exchange_32 : decode cX8_exchange 32 = .ok (.iadd, 1) := by decide +kernel
theorem dX8_exchange_33 : decode cX8_exchange 33 = .ok (.iaload, 1) := by decide +kernel
theorem dX8_exchange_34 : decode cX8_exchange 34 = .ok (.iload 4, 2) := by decide +kernel
theorem dX8_exchange_36 : decode cX8_exchange 36 = .ok (.iconst (-1), 1) := by decide +kernel
theorem dX8_exchange_37 : decode cX8_exchange 37 = .ok (.ixor, 1) := by decide +kernel
theorem dX8_exchange_38 : decode cX8_exchange 38 = .ok (.iand, 1) := by decide +kernel
theorem dX8_exchange_39 : decode cX8_exchange 39 = .ok (.iload_n 3, 1) := by decide +kernel
theorem dX8_exchange_40 : decode cX8_exchange 40 = .ok (.ior, 1) := by decide +kernel
theorem dX8_exchange_41 : decode cX8_exchange 41 = .ok (.iastore, 1) := by decide +kernel
theorem dX8_exchange_42 : decode cX8_exchange 42 = .ok (.return_, 1) := by decide +kernel
def mX8_exchange (t : Nat) (p1 : Int32) (p2 : Int32) (p3 : Int32) (p4 : Int32) (σ : St_) : Option St_ :=
 (if bin p2 9 = true then bnd (σ.1 (t + 1) p2.toNatClampNeg) fun v1 =>
 (if bin p2 9 = true then bnd (sI σ (t + 1) p2.toNatClampNeg ((v1 &&& (p3 ^^^ (-1 : Int32))) ||| p4)) fun σ2 =>
 (bnd ((5 : Int32) + p1) fun v3 =>
 (if bin v3 9 = true then bnd (σ2.1 (t + 1) v3.toNatClampNeg) fun v4 =>
 (bnd ((5 : Int32) + p1) fun v5 =>
 (if bin v5 9 = true then bnd (sI σ2 (t + 1) v5.toNatClampNeg ((v4 &&& (p4 ^^^ (-1 : Int32))) ||| p3)) fun σ6 =>
 (some σ6)
 else none))
 else none))
 else none)
 else none)
set_option maxHeartbeats 4000000 in
theorem rX8_exchange (t : Nat) (p1 : Int32) (p2 : Int32) (p3 : Int32) (p4 : Int32) (hT : LY8 sh P t) : Rj l D cA h0 ad yX8_exchange cX8_exchange 5 none false 2 0 0 (fun b => (none, sh, P, b)) [.ref (h0 + t), .int p1, .int p2, .int p3, .int p4] sh P σ (mX8_exchange t p1 p2 p3 p4 σ) := by
  rw [mX8_exchange]
  refine Rj.of (by decide) (fun h => by cases h) (Nat.le_of_ble_eq_true rfl) ?_
  refine tj_lv0 (lv' := [(0, .ref (h0 + t)), (1, .int p1), (2, .int p2), (3, .int p3), (4, .int p4)]) rfl ?_
  refine tj_aload_n (q := 1) dX8_exchange_0 rfl (i := 0) rfl (pl := 0) rfl ?_
  refine tj_getR (q := 4) (hT).s (hT).p_held fok_8_0 wl_RX8_9 dX8_exchange_1 rfl ?_
  refine tj_iload_n (q := 5) dX8_exchange_4 rfl (i := 2) rfl (pl := 2) rfl ?_
  refine tj_aload_n (q := 6) dX8_exchange_5 rfl (i := 0) rfl (pl := 0) rfl ?_
  refine tj_getR (q := 9) (hT).s (hT).p_held fok_8_0 wl_RX8_9 dX8_exchange_6 rfl ?_
  refine tj_iload_n (q := 10) dX8_exchange_9 rfl (i := 2) rfl (pl := 2) rfl ?_
  refine tj_iaload (q := 11) (hT).s_held dX8_exchange_10 rfl ?_
  refine tj_topI (fun v1 => ?_)
  refine tj_iload_n (q := 12) dX8_exchange_11 rfl (i := 3) rfl (pl := 3) rfl ?_
  refine tj_iconst (q := 13) (v := (-1)) dX8_exchange_12 rfl (by decide) ?_
  refine tj_ixor (q := 14) dX8_exchange_13 rfl ?_
  refine tj_iand (q := 15) dX8_exchange_14 rfl ?_
  refine tj_iload (q := 17) dX8_exchange_15 rfl (pl := 4) rfl ?_
  refine tj_ior (q := 18) dX8_exchange_17 rfl ?_
  refine tj_iastore (q := 19) (hT).s_held dX8_exchange_18 rfl (fun σ2 => ?_)
  refine tj_aload_n (q := 20) dX8_exchange_19 rfl (i := 0) rfl (pl := 0) rfl ?_
  refine tj_getR (q := 23) (hT).s (hT).p_held fok_8_0 wl_RX8_9 dX8_exchange_20 rfl ?_
  refine tj_iconst (q := 24) (v := 5) dX8_exchange_23 rfl (by decide) ?_
  refine tj_iload_n (q := 25) dX8_exchange_24 rfl (i := 1) rfl (pl := 1) rfl ?_
  refine tj_iadd (q := 26) dX8_exchange_25 rfl ?_
  refine tj_aload_n (q := 27) dX8_exchange_26 rfl (i := 0) rfl (pl := 0) rfl ?_
  refine tj_getR (q := 30) (hT).s (hT).p_held fok_8_0 wl_RX8_9 dX8_exchange_27 rfl ?_
  refine tj_iconst (q := 31) (v := 5) dX8_exchange_30 rfl (by decide) ?_
  refine tj_iload_n (q := 32) dX8_exchange_31 rfl (i := 1) rfl (pl := 1) rfl ?_
  refine tj_iadd (q := 33) dX8_exchange_32 rfl ?_
  refine tj_topI (fun v3 => ?_)
  refine tj_iaload (q := 34) (hT).s_held dX8_exchange_33 rfl ?_
  refine tj_topI (fun v4 => ?_)
  refine tj_iload (q := 36) dX8_exchange_34 rfl (pl := 4) rfl ?_
  refine tj_iconst (q := 37) (v := (-1)) dX8_exchange_36 rfl (by decide) ?_
  refine tj_ixor (q := 38) dX8_exchange_37 rfl ?_
  refine tj_iand (q := 39) dX8_exchange_38 rfl ?_
  refine tj_iload_n (q := 40) dX8_exchange_39 rfl (i := 3) rfl (pl := 3) rfl ?_
  refine tj_ior (q := 41) dX8_exchange_40 rfl ?_
  refine tj_sndI (fun v5 => ?_)
  refine tj_iastore (q := 42) (hT).s_held dX8_exchange_41 rfl (fun σ6 => ?_)
  exact tj_vret rfl rfl (Nat.le_of_ble_eq_true rfl) (Nat.le_of_ble_eq_true rfl) dX8_exchange_42

theorem dX8_passHour_0 : decode cX8_passHour 0 = .ok (.aload_n 0, 1) := by decide +kernel
theorem dX8_passHour_1 : decode cX8_passHour 1 = .ok (.dup, 1) := by decide +kernel
theorem dX8_passHour_2 : decode cX8_passHour 2 = .ok (.getfield 22, 3) := by decide +kernel
theorem dX8_passHour_5 : decode cX8_passHour 5 = .ok (.iconst 1, 1) := by decide +kernel
theorem dX8_passHour_6 : decode cX8_passHour 6 = .ok (.iadd, 1) := by decide +kernel
theorem dX8_passHour_7 : decode cX8_passHour 7 = .ok (.putfield 22, 3) := by decide +kernel
theorem dX8_passHour_10 : decode cX8_passHour 10 = .ok (.aload_n 0, 1) := by decide +kernel
theorem dX8_passHour_11 : decode cX8_passHour 11 = .ok (.getfield 22, 3) := by decide +kernel
theorem dX8_passHour_14 : decode cX8_passHour 14 = .ok (.iload_n 1, 1) := by decide +kernel
theorem dX8_passHour_15 : decode cX8_passHour 15 = .ok (.if_icmp .lt 23, 3) := by decide +kernel
theorem dX8_passHour_18 : decode cX8_passHour 18 = .ok (.aload_n 0, 1) := by decide +kernel
theorem dX8_passHour_19 : decode cX8_passHour 19 = .ok (.iconst 0, 1) := by decide +kernel
theorem dX8_passHour_20 : decode cX8_passHour 20 = .ok (.putfield 22, 3) := by decide +kernel
theorem dX8_passHour_23 : decode cX8_passHour 23 = .ok (.aload_n 0, 1) := by decide +kernel
theorem dX8_passHour_24 : decode cX8_passHour 24 = .ok (.dup, 1) := by decide +kernel
theorem dX8_passHour_25 : decode cX8_passHour 25 = .ok (.getfield 18, 3) := by decide +kernel
theorem dX8_passHour_28 : decode cX8_passHour 28 = .ok (.iconst 1, 1) := by decide +kernel
theorem dX8_passHour_29 : decode cX8_passHour 29 = .ok (.iadd, 1) := by decide +kernel
theorem dX8_passHour_30 : decode cX8_passHour 30 = .ok (.putfield 18, 3) := by decide +kernel
theorem dX8_passHour_33 : decode cX8_passHour 33 = .ok (.aload_n 0, 1) := by decide +kernel
theorem dX8_passHour_34 : decode cX8_passHour 34 = .ok (.iconst 0, 1) := by decide +kernel
theorem dX8_passHour_35 : decode cX8_passHour 35 = .ok (.putfield 25, 3) := by decide +kernel
theorem dX8_passHour_38 : decode cX8_passHour 38 = .ok (.return_, 1) := by decide +kernel
def mX8_passHour (t : Nat) (p1 : Int32) (σ : St_) : Option St_ :=
 (bnd (sI σ t 3 ((σ.1 t 3) + (1 : Int32))) fun σ1 =>
 (if (σ1.1 t 3) < p1 then
 (some σ1)
 else (bnd (sI σ1 t 3 (0 : Int32)) fun σ2 =>
 (bnd (sI σ2 t 2 ((σ2.1 t 2) + (1 : Int32))) fun σ3 =>
 (bnd (sI σ3 t 4 (0 : Int32)) fun σ4 =>
 (some σ4))))))
set_option maxHeartbeats 4000000 in
theorem rX8_passHour (t : Nat) (p1 : Int32) (hT : LY8 sh P t) : Rj l D cA h0 ad yX8_passHour cX8_passHour 2 none false 2 0 0 (fun b => (none, sh, P, b)) [.ref (h0 + t), .int p1] sh P σ (mX8_passHour t p1 σ) := by
  rw [mX8_passHour]
  refine Rj.of (by decide) (fun h => by cases h) (Nat.le_of_ble_eq_true rfl) ?_
  refine tj_lv0 (lv' := [(0, .ref (h0 + t)), (1, .int p1)]) rfl ?_
  refine tj_aload_n (q := 1) dX8_passHour_0 rfl (i := 0) rfl (pl := 0) rfl ?_
  refine tj_dup (q := 2) dX8_passHour_1 rfl rfl ?_
  refine tj_getI (q := 5) (hT).s fok_8_3 wl_RX8_22 dX8_passHour_2 rfl ?_
  refine tj_iconst (q := 6) (v := 1) dX8_passHour_5 rfl (by decide) ?_
  refine tj_iadd (q := 7) dX8_passHour_6 rfl ?_
  refine tj_putI (q := 10) (hT).s fok_8_3 tok_8 fpk_8_3 wl_RX8_22 dX8_passHour_7 rfl (fun σ1 => ?_)
  refine tj_aload_n (q := 11) dX8_passHour_10 rfl (i := 0) rfl (pl := 0) rfl ?_
  refine tj_getI (q := 14) (hT).s fok_8_3 wl_RX8_22 dX8_passHour_11 rfl ?_
  refine tj_iload_n (q := 15) dX8_passHour_14 rfl (i := 1) rfl (pl := 1) rfl ?_
  refine tj_icmp_lt (tgt := 38) (q := 18) dX8_passHour_15 (by decide) rfl ?_ ?_
  · exact tj_vret rfl rfl (Nat.le_of_ble_eq_true rfl) (Nat.le_of_ble_eq_true rfl) dX8_passHour_38
  · refine tj_aload_n (q := 19) dX8_passHour_18 rfl (i := 0) rfl (pl := 0) rfl ?_
    refine tj_iconst (q := 20) (v := 0) dX8_passHour_19 rfl (by decide) ?_
    refine tj_putI (q := 23) (hT).s fok_8_3 tok_8 fpk_8_3 wl_RX8_22 dX8_passHour_20 rfl (fun σ2 => ?_)
    refine tj_aload_n (q := 24) dX8_passHour_23 rfl (i := 0) rfl (pl := 0) rfl ?_
    refine tj_dup (q := 25) dX8_passHour_24 rfl rfl ?_
    refine tj_getI (q := 28) (hT).s fok_8_2 wl_RX8_18 dX8_passHour_25 rfl ?_
    refine tj_iconst (q := 29) (v := 1) dX8_passHour_28 rfl (by decide) ?_
    refine tj_iadd (q := 30) dX8_passHour_29 rfl ?_
    refine tj_putI (q := 33) (hT).s fok_8_2 tok_8 fpk_8_2 wl_RX8_18 dX8_passHour_30 rfl (fun σ3 => ?_)
    refine tj_aload_n (q := 34) dX8_passHour_33 rfl (i := 0) rfl (pl := 0) rfl ?_
    refine tj_iconst (q := 35) (v := 0) dX8_passHour_34 rfl (by decide) ?_
    refine tj_putI (q := 38) (hT).s fok_8_4 tok_8 fpk_8_4 wl_RX8_25 dX8_passHour_35 rfl (fun σ4 => ?_)
    exact tj_vret rfl rfl (Nat.le_of_ble_eq_true rfl) (Nat.le_of_ble_eq_true rfl) dX8_passHour_38

theorem dX8_crimesInAll_0 : decode cX8_crimesInAll 0 = .ok (.iconst 0, 1) := by decide +kernel
theorem dX8_crimesInAll_1 : decode cX8_crimesInAll 1 = .ok (.istore_n 1, 1) := by decide +kernel
theorem dX8_crimesInAll_2 : decode cX8_crimesInAll 2 = .ok (.iconst 0, 1) := by decide +kernel
theorem dX8_crimesInAll_3 : decode cX8_crimesInAll 3 = .ok (.istore_n 2, 1) := by decide +kernel
theorem dX8_crimesInAll_4 : decode cX8_crimesInAll 4 = .ok (.iload_n 2, 1) := by decide +kernel
theorem dX8_crimesInAll_5 : decode cX8_crimesInAll 5 = .ok (.iconst 4, 1) := by decide +kernel
theorem dX8_crimesInAll_6 : decode cX8_crimesInAll 6 = .ok (.if_icmp .ge 18, 3) := by decide +kernel
theorem dX8_crimesInAll_9 : decode cX8_crimesInAll 9 = .ok (.iload_n 1, 1) := by decide +kernel
theorem dX8_crimesInAll_10 : decode cX8_crimesInAll 10 = .ok (.aload_n 0, 1) := by decide +kernel
theorem dX8_crimesInAll_11 : decode cX8_crimesInAll 11 = .ok (.getfield 15, 3) := by decide +kernel
theorem dX8_crimesInAll_14 : decode cX8_crimesInAll 14 = .ok (.iload_n 2, 1) := by decide +kernel
theorem dX8_crimesInAll_15 : decode cX8_crimesInAll 15 = .ok (.iaload, 1) := by decide +kernel
theorem dX8_crimesInAll_16 : decode cX8_crimesInAll 16 = .ok (.iadd, 1) := by decide +kernel
theorem dX8_crimesInAll_17 : decode cX8_crimesInAll 17 = .ok (.istore_n 1, 1) := by decide +kernel
theorem dX8_crimesInAll_18 : decode cX8_crimesInAll 18 = .ok (.iinc 2 1, 3) := by decide +kernel
theorem dX8_crimesInAll_21 : decode cX8_crimesInAll 21 = .ok (.goto (-17), 3) := by decide +kernel
theorem dX8_crimesInAll_24 : decode cX8_crimesInAll 24 = .ok (.iload_n 1, 1) := by decide +kernel
theorem dX8_crimesInAll_25 : decode cX8_crimesInAll 25 = .ok (.ireturn, 1) := by decide +kernel
def mX8_crimesInAll_L4 (t : Nat) (σ : St_) : Nat → Int32 → Int32 → Option Int32
  | 0, _, _ => none
  | n + 1, x1, x2 => (if (4 : Int32) ≤ x2 then
 (some x1)
 else (if bin x2 4 = true then bnd (σ.1 (t + 2) x2.toNatClampNeg) fun v1 =>
 (bnd (x1 + v1) fun v2 =>
 (mX8_crimesInAll_L4 t σ n v2 (x2 + 1)))
 else none))
def mX8_crimesInAll (t : Nat) (σ : St_) : Option Int32 :=
 (mX8_crimesInAll_L4 t σ FU (0 : Int32) (0 : Int32))
set_option maxHeartbeats 4000000 in
theorem tmX8_crimesInAll_L4 (σ : St_) (t : Nat) (hT : LY8 sh P t) : ∀ (n : Nat) (x1 : Int32) (x2 : Int32), Tj l D cA h0 ad RX8 cX8_crimesInAll 3 (some .int) false 2 0 0 (fun b => (some (.int b), sh, P, σ)) 0 0 sh P σ 4 [(0, .ref (h0 + t)), (1, .int x1), (2, .int x2)] [] (mX8_crimesInAll_L4 t σ n x1 x2) := by
  intro n
  induction n with
  | zero => intros; exact tj_none
  | succ n ih =>
    intro x1 x2
    rw [mX8_crimesInAll_L4]
    refine tj_iload_n (q := 5) dX8_crimesInAll_4 rfl (i := 2) rfl (pl := 2) rfl ?_
    refine tj_iconst (q := 6) (v := 4) dX8_crimesInAll_5 rfl (by decide) ?_
    refine tj_icmp_ge (tgt := 24) (q := 9) dX8_crimesInAll_6 (by decide) rfl ?_ ?_
    · refine tj_iload_n (q := 25) dX8_crimesInAll_24 rfl (i := 1) rfl (pl := 1) rfl ?_
      exact tj_iret rfl rfl (Nat.le_of_ble_eq_true rfl) (Nat.le_of_ble_eq_true rfl) dX8_crimesInAll_25
    · refine tj_iload_n (q := 10) dX8_crimesInAll_9 rfl (i := 1) rfl (pl := 1) rfl ?_
      refine tj_aload_n (q := 11) dX8_crimesInAll_10 rfl (i := 0) rfl (pl := 0) rfl ?_
      refine tj_getR (q := 14) (hT).s (hT).p_crimes fok_8_1 wl_RX8_15 dX8_crimesInAll_11 rfl ?_
      refine tj_iload_n (q := 15) dX8_crimesInAll_14 rfl (i := 2) rfl (pl := 2) rfl ?_
      refine tj_iaload (q := 16) (hT).s_crimes dX8_crimesInAll_15 rfl ?_
      refine tj_topI (fun v1 => ?_)
      refine tj_iadd (q := 17) dX8_crimesInAll_16 rfl ?_
      refine tj_topI (fun v2 => ?_)
      refine tj_istore_n (q := 18) dX8_crimesInAll_17 rfl (i := 1) rfl (by decide) rfl ?_
      refine tj_iinc (q := 21) (v := x2 + 1) dX8_crimesInAll_18 rfl (pl := 2) rfl rfl (by decide) rfl ?_
      refine tj_goto (q := 4) dX8_crimesInAll_21 (by decide) ?_
      refine tj_lv [2, 1, 0] rfl ?_
      exact ih v2 (x2 + 1)

set_option maxHeartbeats 4000000 in
theorem rX8_crimesInAll (t : Nat) (hT : LY8 sh P t) : Rj l D cA h0 ad yX8_crimesInAll cX8_crimesInAll 3 (some .int) false 2 0 0 (fun b => (some (.int b), sh, P, σ)) [.ref (h0 + t)] sh P σ (mX8_crimesInAll t σ) := by
  rw [mX8_crimesInAll]
  refine Rj.of (by decide) (fun h => by cases h) (Nat.le_of_ble_eq_true rfl) ?_
  refine tj_lv0 (lv' := [(0, .ref (h0 + t))]) rfl ?_
  refine tj_iconst (q := 1) (v := 0) dX8_crimesInAll_0 rfl (by decide) ?_
  refine tj_istore_n (q := 2) dX8_crimesInAll_1 rfl (i := 1) rfl (by decide) rfl ?_
  refine tj_iconst (q := 3) (v := 0) dX8_crimesInAll_2 rfl (by decide) ?_
  refine tj_istore_n (q := 4) dX8_crimesInAll_3 rfl (i := 2) rfl (by decide) rfl ?_
  refine tj_lv [2, 1, 0] rfl ?_
  exact tmX8_crimesInAll_L4 σ t hT FU (0 : Int32) (0 : Int32)

end
