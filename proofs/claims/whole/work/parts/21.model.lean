section
variable {l : Launch} {D : va_G} {cA : Nat → ClassId} {h0 : Nat} {ad : Ad_} {sh : Sh_} {P : Px_} {σ : St_}
theorem dX12_sign_0 : decode cX12_sign 0 = .ok (.aload_n 0, 1) := by decide +kernel
theorem dX12_sign_1 : decode cX12_sign 1 = .ok (.ldc2_w 250, 3) := by decide +kernel
theorem dX12_sign_4 : decode cX12_sign 4 = .ok (.invokevirtual 260, 3) := by decide +kernel
theorem dX12_sign_7 : decode cX12_sign 7 = .ok (.ifCond .eq 6, 3) := by decide +kernel
theorem dX12_sign_10 : decode cX12_sign 10 = .ok (.bipush 38, 2) := by decide +kernel
theorem dX12_sign_12 : decode cX12_sign 12 = .ok (.ireturn, 1) := by decide +kernel
theorem dX12_sign_13 : decode cX12_sign 13 = .ok (.aload_n 0, 1) := by decide +kernel
theorem dX12_sign_14 : decode cX12_sign 14 = .ok (.ldc2_w 252, 3) := by decide +kernel
theorem dX12_sign_17 : decode cX12_sign 17 = .ok (.invokevirtual 260, 3) := by decide +kernel
theorem dX12_sign_20 : decode cX12_sign 20 = .ok (.ifCond .eq 6, 3) := by decide +kernel
theorem dX12_sign_23 : decode cX12_sign 23 = .ok (.bipush 124, 2) := by decide +kernel
theorem dX12_sign_25 : decode cX12_sign 25 = .ok (.ireturn, 1) := by decide +kernel
theorem dX12_sign_26 : decode cX12_sign 26 = .ok (.aload_n 0, 1) := by decide +kernel
theorem dX12_sign_27 : decode cX12_sign 27 = .ok (.getfield 190, 3) := by decide +kernel
theorem dX12_sign_30 : decode cX12_sign 30 = .ok (.bipush 60, 2) := by decide +kernel
theorem dX12_sign_32 : decode cX12_sign 32 = .ok (.if_icmp .eq 66, 3) := by decide +kernel
theorem dX12_sign_35 : decode cX12_sign 35 = .ok (.aload_n 0, 1) := by decide +kernel
theorem dX12_sign_36 : decode cX12_sign 36 = .ok (.getfield 190, 3) := by decide +kernel
theorem dX12_sign_39 : decode cX12_sign 39 = .ok (.bipush 62, 2) := by decide +kernel
theorem dX12_sign_41 : decode cX12_sign 41 = .ok (.if_icmp .eq 57, 3) := by decide +kernel
theorem dX12_sign_44 : decode cX12_sign 44 = .ok (.aload_n 0, 1) := by decide +kernel
theorem dX12_sign_45 : decode cX12_sign 45 = .ok (.getfield 190, 3) := by decide +kernel
theorem dX12_sign_48 : decode cX12_sign 48 = .ok (.bipush 61, 2) := by decide +kernel
theorem dX12_sign_50 : decode cX12_sign 50 = .ok (.if_icmp .eq 48, 3) := by decide +kernel
theorem dX12_sign_53 : decode cX12_sign 53 = .ok (.aload_n 0, 1) := by decide +kernel
theorem dX12_sign_54 : decode cX12_sign 54 = .ok (.getfield 190, 3) := by decide +kernel
theorem dX12_sign_57 : decode cX12_sign 57 = .ok (.bipush 43, 2) := by decide +kernel
theorem dX12_sign_59 : decode cX12_sign 59 = .ok (.if_icmp .eq 39, 3) := by decide +kernel
theorem dX12_sign_62 : decode cX12_sign 62 = .ok (.aload_n 0, 1) := by decide +kernel
theorem dX12_sign_63 : decode cX12_sign 63 = .ok (.getfield 190, 3) := by decide +kernel
theorem dX12_sign_66 : decode cX12_sign 66 = .ok (.bipush 45, 2) := by decide +kernel
theorem dX12_sign_68 : decode cX12_sign 68 = .ok (.if_icmp .eq 30, 3) := by decide +kernel
theorem dX12_sign_71 : decode cX12_sign 71 = .ok (.aload_n 0, 1) := by decide +kernel
theorem dX12_sign_72 : decode cX12_sign 72 = .ok (.getfield 190, 3) := by decide +kernel
theorem dX12_sign_75 : decode cX12_sign 75 = .ok (.bipush 42, 2) := by decide +kernel
theorem dX12_sign_77 : decode cX12_sign 77 = .ok (.if_icmp .eq 21, 3) := by decide +kernel
theorem dX12_sign_80 : decode cX12_sign 80 = .ok (.aload_n 0, 1) := by decide +kernel
theorem dX12_sign_81 : decode cX12_sign 81 = .ok (.getfield 190, 3) := by decide +kernel
theorem dX12_sign_84 : decode cX12_sign 84 = .ok (.bipush 47, 2) := by decide +kernel
theorem dX12_sign_86 : decode cX12_sign 86 = .ok (.if_icmp .eq 12, 3) := by decide +kernel
theorem dX12_sign_89 : decode cX12_sign 89 = .ok (.aload_n 0, 1) := by decide +kernel
theorem dX12_sign_90 : decode cX12_sign 90 = .ok (.getfield 190, 3) := by decide +kernel
theorem dX12_sign_93 : decode cX12_sign 93 = .ok (.bipush 37, 2) := by decide +kernel
theorem dX12_sign_95 : decode cX12_sign 95 = .ok (.if_icmp .ne 10, 3) := by decide +kernel
theorem dX12_sign_98 : decode cX12_sign 98 = .ok (.aload_n 0, 1) := by decide +kernel
theorem dX12_sign_99 : decode cX12_sign 99 = .ok (.getfield 190, 3) := by decide +kernel
theorem dX12_sign_102 : decode cX12_sign 102 = .ok (.goto 4, 3) := by decide +kernel
theorem dX12_sign_105 : decode cX12_sign 105 = .ok (.iconst 0, 1) := by decide +kernel
theorem dX12_sign_106 : decode cX12_sign 106 = .ok (.ireturn, 1) := by decide +kernel
def mX12_sign (t : Nat) (σ : St_) : Option Int32 :=
 ((mX12_isWord t (6385252 : Int64) σ).bind fun r1 =>
 (if r1 = true then
 (some (38 : Int32))
 else ((mX12_isWord t (28530 : Int64) σ).bind fun r2 =>
 (if r2 = true then
 (some (124 : Int32))
 else (if (σ.1 t 6) = (60 : Int32) then
 (some (σ.1 t 6))
 else (if (σ.1 t 6) = (62 : Int32) then
 (some (σ.1 t 6))
 else (if (σ.1 t 6) = (61 : Int32) then
 (some (σ.1 t 6))
 else (if (σ.1 t 6) = (43 : Int32) then
 (some (σ.1 t 6))
 else (if (σ.1 t 6) = (45 : Int32) then
 (some (σ.1 t 6))
 else (if (σ.1 t 6) = (42 : Int32) then
 (some (σ.1 t 6))
 else (if (σ.1 t 6) = (47 : Int32) then
 (some (σ.1 t 6))
 else (if (σ.1 t 6) = (37 : Int32) then
 (some (σ.1 t 6))
 else (some (0 : Int32))))))))))))))
set_option maxHeartbeats 4000000 in
theorem rX12_sign (t : Nat) (hT : LY12 sh P t) : Rj l D cA h0 ad yX12_sign cX12_sign 1 (some .int) false 3 0 0 (fun b => (some (.int b), sh, P, σ)) [.ref (h0 + t)] sh P σ (mX12_sign t σ) := by
  rw [mX12_sign]
  refine Rj.of (by decide) (fun h => by cases h) (Nat.le_of_ble_eq_true rfl) ?_
  refine tj_lv0 (lv' := [(0, .ref (h0 + t))]) rfl ?_
  refine tj_aload_n (q := 1) dX12_sign_0 rfl (i := 0) rfl (pl := 0) rfl ?_
  refine tj_ldc2 (q := 4) (v := 6385252) dX12_sign_1 rfl wc_RX12_250 ?_
  refine tj_callZp (q := 7) (kj_V (As := [.long (6385252 : Int64)]) (rest := []) (t := t) wi_RX12_260 (hT).s rfl (rX12_isWord t (6385252 : Int64) (hT)) rfl (Nat.le_of_ble_eq_true rfl) ⟨Nat.le_of_ble_eq_true rfl, Nat.le_of_ble_eq_true rfl⟩ (Nat.le_of_ble_eq_true rfl) dX12_sign_4) rfl (fun r1 => ?_)
  refine tj_bz (tgt := 13) (q := 10) dX12_sign_7 (by decide) rfl ?_ ?_
  · refine tj_bipush (q := 12) (v := 38) dX12_sign_10 rfl (by decide) ?_
    exact tj_iret rfl rfl (Nat.le_of_ble_eq_true rfl) (Nat.le_of_ble_eq_true rfl) dX12_sign_12
  · refine tj_aload_n (q := 14) dX12_sign_13 rfl (i := 0) rfl (pl := 0) rfl ?_
    refine tj_ldc2 (q := 17) (v := 28530) dX12_sign_14 rfl wc_RX12_252 ?_
    refine tj_callZp (q := 20) (kj_V (As := [.long (28530 : Int64)]) (rest := []) (t := t) wi_RX12_260 (hT).s rfl (rX12_isWord t (28530 : Int64) (hT)) rfl (Nat.le_of_ble_eq_true rfl) ⟨Nat.le_of_ble_eq_true rfl, Nat.le_of_ble_eq_true rfl⟩ (Nat.le_of_ble_eq_true rfl) dX12_sign_17) rfl (fun r2 => ?_)
    refine tj_bz (tgt := 26) (q := 23) dX12_sign_20 (by decide) rfl ?_ ?_
    · refine tj_bipush (q := 25) (v := 124) dX12_sign_23 rfl (by decide) ?_
      exact tj_iret rfl rfl (Nat.le_of_ble_eq_true rfl) (Nat.le_of_ble_eq_true rfl) dX12_sign_25
    · refine tj_aload_n (q := 27) dX12_sign_26 rfl (i := 0) rfl (pl := 0) rfl ?_
      refine tj_getI (q := 30) (hT).s fok_12_6 wl_RX12_190 dX12_sign_27 rfl ?_
      refine tj_bipush (q := 32) (v := 60) dX12_sign_30 rfl (by decide) ?_
      refine tj_icmp_eq (tgt := 98) (q := 35) dX12_sign_32 (by decide) rfl ?_ ?_
      · refine tj_aload_n (q := 99) dX12_sign_98 rfl (i := 0) rfl (pl := 0) rfl ?_
        refine tj_getI (q := 102) (hT).s fok_12_6 wl_RX12_190 dX12_sign_99 rfl ?_
        refine tj_goto (q := 106) dX12_sign_102 (by decide) ?_
        exact tj_iret rfl rfl (Nat.le_of_ble_eq_true rfl) (Nat.le_of_ble_eq_true rfl) dX12_sign_106
      · refine tj_aload_n (q := 36) dX12_sign_35 rfl (i := 0) rfl (pl := 0) rfl ?_
        refine tj_getI (q := 39) (hT).s fok_12_6 wl_RX12_190 dX12_sign_36 rfl ?_
        refine tj_bipush (q := 41) (v := 62) dX12_sign_39 rfl (by decide) ?_
        refine tj_icmp_eq (tgt := 98) (q := 44) dX12_sign_41 (by decide) rfl ?_ ?_
        · refine tj_aload_n (q := 99) dX12_sign_98 rfl (i := 0) rfl (pl := 0) rfl ?_
          refine tj_getI (q := 102) (hT).s fok_12_6 wl_RX12_190 dX12_sign_99 rfl ?_
          refine tj_goto (q := 106) dX12_sign_102 (by decide) ?_
          exact tj_iret rfl rfl (Nat.le_of_ble_eq_true rfl) (Nat.le_of_ble_eq_true rfl) dX12_sign_106
        · refine tj_aload_n (q := 45) dX12_sign_44 rfl (i := 0) rfl (pl := 0) rfl ?_
          refine tj_getI (q := 48) (hT).s fok_12_6 wl_RX12_190 dX12_sign_45 rfl ?_
          refine tj_bipush (q := 50) (v := 61) dX12_sign_48 rfl (by decide) ?_
          refine tj_icmp_eq (tgt := 98) (q := 53) dX12_sign_50 (by decide) rfl ?_ ?_
          · refine tj_aload_n (q := 99) dX12_sign_98 rfl (i := 0) rfl (pl := 0) rfl ?_
            refine tj_getI (q := 102) (hT).s fok_12_6 wl_RX12_190 dX12_sign_99 rfl ?_
            refine tj_goto (q := 106) dX12_sign_102 (by decide) ?_
            exact tj_iret rfl rfl (Nat.le_of_ble_eq_true rfl) (Nat.le_of_ble_eq_true rfl) dX12_sign_106
          · refine tj_aload_n (q := 54) dX12_sign_53 rfl (i := 0) rfl (pl := 0) rfl ?_
            refine tj_getI (q := 57) (hT).s fok_12_6 wl_RX12_190 dX12_sign_54 rfl ?_
            refine tj_bipush (q := 59) (v := 43) dX12_sign_57 rfl (by decide) ?_
            refine tj_icmp_eq (tgt := 98) (q := 62) dX12_sign_59 (by decide) rfl ?_ ?_
            · refine tj_aload_n (q := 99) dX12_sign_98 rfl (i := 0) rfl (pl := 0) rfl ?_
              refine tj_getI (q := 102) (hT).s fok_12_6 wl_RX12_190 dX12_sign_99 rfl ?_
              refine tj_goto (q := 106) dX12_sign_102 (by decide) ?_
              exact tj_iret rfl rfl (Nat.le_of_ble_eq_true rfl) (Nat.le_of_ble_eq_true rfl) dX12_sign_106
            · refine tj_aload_n (q := 63) dX12_sign_62 rfl (i := 0) rfl (pl := 0) rfl ?_
              refine tj_getI (q := 66) (hT).s fok_12_6 wl_RX12_190 dX12_sign_63 rfl ?_
              refine tj_bipush (q := 68) (v := 45) dX12_sign_66 rfl (by decide) ?_
              refine tj_icmp_eq (tgt := 98) (q := 71) dX12_sign_68 (by decide) rfl ?_ ?_
              · refine tj_aload_n (q := 99) dX12_sign_98 rfl (i := 0) rfl (pl := 0) rfl ?_
                refine tj_getI (q := 102) (hT).s fok_12_6 wl_RX12_190 dX12_sign_99 rfl ?_
                refine tj_goto (q := 106) dX12_sign_102 (by decide) ?_
                exact tj_iret rfl rfl (Nat.le_of_ble_eq_true rfl) (Nat.le_of_ble_eq_true rfl) dX12_sign_106
              · refine tj_aload_n (q := 72) dX12_sign_71 rfl (i := 0) rfl (pl := 0) rfl ?_
                refine tj_getI (q := 75) (hT).s fok_12_6 wl_RX12_190 dX12_sign_72 rfl ?_
                refine tj_bipush (q := 77) (v := 42) dX12_sign_75 rfl (by decide) ?_
                refine tj_icmp_eq (tgt := 98) (q := 80) dX12_sign_77 (by decide) rfl ?_ ?_
                · refine tj_aload_n (q := 99) dX12_sign_98 rfl (i := 0) rfl (pl := 0) rfl ?_
                  refine tj_getI (q := 102) (hT).s fok_12_6 wl_RX12_190 dX12_sign_99 rfl ?_
                  refine tj_goto (q := 106) dX12_sign_102 (by decide) ?_
                  exact tj_iret rfl rfl (Nat.le_of_ble_eq_true rfl) (Nat.le_of_ble_eq_true rfl) dX12_sign_106
                · refine tj_aload_n (q := 81) dX12_sign_80 rfl (i := 0) rfl (pl := 0) rfl ?_
                  refine tj_getI (q := 84) (hT).s fok_12_6 wl_RX12_190 dX12_sign_81 rfl ?_
                  refine tj_bipush (q := 86) (v := 47) dX12_sign_84 rfl (by decide) ?_
                  refine tj_icmp_eq (tgt := 98) (q := 89) dX12_sign_86 (by decide) rfl ?_ ?_
                  · refine tj_aload_n (q := 99) dX12_sign_98 rfl (i := 0) rfl (pl := 0) rfl ?_
                    refine tj_getI (q := 102) (hT).s fok_12_6 wl_RX12_190 dX12_sign_99 rfl ?_
                    refine tj_goto (q := 106) dX12_sign_102 (by decide) ?_
                    exact tj_iret rfl rfl (Nat.le_of_ble_eq_true rfl) (Nat.le_of_ble_eq_true rfl) dX12_sign_106
                  · refine tj_aload_n (q := 90) dX12_sign_89 rfl (i := 0) rfl (pl := 0) rfl ?_
                    refine tj_getI (q := 93) (hT).s fok_12_6 wl_RX12_190 dX12_sign_90 rfl ?_
                    refine tj_bipush (q := 95) (v := 37) dX12_sign_93 rfl (by decide) ?_
                    refine tj_icmp_ne (tgt := 105) (q := 98) dX12_sign_95 (by decide) rfl ?_ ?_
                    · refine tj_aload_n (q := 99) dX12_sign_98 rfl (i := 0) rfl (pl := 0) rfl ?_
                      refine tj_getI (q := 102) (hT).s fok_12_6 wl_RX12_190 dX12_sign_99 rfl ?_
                      refine tj_goto (q := 106) dX12_sign_102 (by decide) ?_
                      exact tj_iret rfl rfl (Nat.le_of_ble_eq_true rfl) (Nat.le_of_ble_eq_true rfl) dX12_sign_106
                    · refine tj_iconst (q := 106) (v := 0) dX12_sign_105 rfl (by decide) ?_
                      exact tj_iret rfl rfl (Nat.le_of_ble_eq_true rfl) (Nat.le_of_ble_eq_true rfl) dX12_sign_106

theorem dX12_hasBracket_0 : decode cX12_hasBracket 0 = .ok (.iconst 0, 1) := by decide +kernel
theorem dX12_hasBracket_1 : decode cX12_hasBracket 1 = .ok (.istore_n 1, 1) := by decide +kernel
theorem dX12_hasBracket_2 : decode cX12_hasBracket 2 = .ok (.iconst 0, 1) := by decide +kernel
theorem dX12_hasBracket_3 : decode cX12_hasBracket 3 = .ok (.istore_n 2, 1) := by decide +kernel
theorem dX12_hasBracket_4 : decode cX12_hasBracket 4 = .ok (.iload_n 2, 1) := by decide +kernel
theorem dX12_hasBracket_5 : decode cX12_hasBracket 5 = .ok (.aload_n 0, 1) := by decide +kernel
theorem dX12_hasBracket_6 : decode cX12_hasBracket 6 = .ok (.getfield 287, 3) := by decide +kernel
theorem dX12_hasBracket_9 : decode cX12_hasBracket 9 = .ok (.if_icmp .ge 30, 3) := by decide +kernel
theorem dX12_hasBracket_12 : decode cX12_hasBracket 12 = .ok (.iload_n 1, 1) := by decide +kernel
theorem dX12_hasBracket_13 : decode cX12_hasBracket 13 = .ok (.ifCond .ne 14, 3) := by decide +kernel
theorem dX12_hasBracket_16 : decode cX12_hasBracket 16 = .ok (.aload_n 0, 1) := by decide +kernel
theorem dX12_hasBracket_17 : decode cX12_hasBracket 17 = .ok (.getfield 36, 3) := by decide +kernel
theorem dX12_hasBracket_20 : decode cX12_hasBracket 20 = .ok (.iload_n 2, 1) := by decide +kernel
theorem dX12_hasBracket_21 : decode cX12_hasBracket 21 = .ok (.iaload, 1) := by decide +kernel
theorem dX12_hasBracket_22 : decode cX12_hasBracket 22 = .ok (.bipush 20, 2) := by decide +kernel
theorem dX12_hasBracket_24 : decode cX12_hasBracket 24 = .ok (.if_icmp .ne 7, 3) := by decide +kernel
theorem dX12_hasBracket_27 : decode cX12_hasBracket 27 = .ok (.iconst 1, 1) := by decide +kernel
theorem dX12_hasBracket_28 : decode cX12_hasBracket 28 = .ok (.goto 4, 3) := by decide +kernel
theorem dX12_hasBracket_31 : decode cX12_hasBracket 31 = .ok (.iconst 0, 1) := by decide +kernel
theorem dX12_hasBracket_32 : decode cX12_hasBracket 32 = .ok (.istore_n 1, 1) := by decide +kernel
theorem dX12_hasBracket_33 : decode cX12_hasBracket 33 = .ok (.iinc 2 1, 3) := by decide +kernel
theorem dX12_hasBracket_36 : decode cX12_hasBracket 36 = .ok (.goto (-32), 3) := by decide +kernel
theorem dX12_hasBracket_39 : decode cX12_hasBracket 39 = .ok (.iload_n 1, 1) := by decide +kernel
theorem dX12_hasBracket_40 : decode cX12_hasBracket 40 = .ok (.ireturn, 1) := by decide +kernel
def mX12_hasBracket_L4 (t : Nat) (σ : St_) : Nat → Bool → Int32 → Option Bool
  | 0, _, _ => none
  | n + 1, x1, x2 => (if (σ.1 t 21) ≤ x2 then
 (some x1)
 else (bnd (fun (j1 : Bool) => (mX12_hasBracket_L4 t σ n j1 (x2 + 1))) fun k2 =>
 (bnd (k2 true) fun k4 =>
 (if x1 = true then
 (k4)
 else (if bin x2 160 = true then bnd (σ.1 (t + 8) x2.toNatClampNeg) fun v6 =>
 (if v6 = (20 : Int32) then
 (k4)
 else (k2 false))
 else none)))))
def mX12_hasBracket (t : Nat) (σ : St_) : Option Bool :=
 (mX12_hasBracket_L4 t σ FU false (0 : Int32))
set_option maxHeartbeats 4000000 in
theorem tmX12_hasBracket_L4 (σ : St_) (t : Nat) (hT : LY12 sh P t) : ∀ (n : Nat) (x1 : Bool) (x2 : Int32), Tj l D cA h0 ad RX12 cX12_hasBracket 3 (some .boolean) false 2 0 0 (fun b => (some (.int (b2i b)), sh, P, σ)) 0 0 sh P σ 4 [(0, .ref (h0 + t)), (1, .int (b2i x1)), (2, .int x2)] [] (mX12_hasBracket_L4 t σ n x1 x2) := by
  intro n
  induction n with
  | zero => intros; exact tj_none
  | succ n ih =>
    intro x1 x2
    rw [mX12_hasBracket_L4]
    refine tj_iload_n (q := 5) dX12_hasBracket_4 rfl (i := 2) rfl (pl := 2) rfl ?_
    refine tj_aload_n (q := 6) dX12_hasBracket_5 rfl (i := 0) rfl (pl := 0) rfl ?_
    refine tj_getI (q := 9) (hT).s fok_12_21 wl_RX12_287 dX12_hasBracket_6 rfl ?_
    refine tj_icmp_ge (tgt := 39) (q := 12) dX12_hasBracket_9 (by decide) rfl ?_ ?_
    · refine tj_iload_n (q := 40) dX12_hasBracket_39 rfl (i := 1) rfl (pl := 1) rfl ?_
      exact tj_zret rfl (nar_b2i _) rfl (Nat.le_of_ble_eq_true rfl) (Nat.le_of_ble_eq_true rfl) dX12_hasBracket_40
    · refine tj_iload_n (q := 13) dX12_hasBracket_12 rfl (i := 1) rfl (pl := 1) rfl ?_
      refine tj_bnd (fun k2 => ∀ (j1 : Bool), Tj l D cA h0 ad RX12 cX12_hasBracket 3 (some .boolean) false 2 0 0 (fun b => (some (.int (b2i b)), sh, P, σ)) 0 0 sh P σ 32 [(0, .ref (h0 + t)), (2, .int x2)] [.int (b2i j1)] (k2 j1)) ?_ (fun k2 hk3 => ?_)
      · intro j1
        refine tj_istore_n (q := 33) dX12_hasBracket_32 rfl (i := 1) rfl (by decide) rfl ?_
        refine tj_iinc (q := 36) (v := x2 + 1) dX12_hasBracket_33 rfl (pl := 2) rfl rfl (by decide) rfl ?_
        refine tj_goto (q := 4) dX12_hasBracket_36 (by decide) ?_
        refine tj_lv [2, 1, 0] rfl ?_
        exact ih j1 (x2 + 1)
      · refine tj_bnd (fun k4 => Tj l D cA h0 ad RX12 cX12_hasBracket 3 (some .boolean) false 2 0 0 (fun b => (some (.int (b2i b)), sh, P, σ)) 0 0 sh P σ 27 [(0, .ref (h0 + t)), (2, .int x2)] [] k4) ?_ (fun k4 hk5 => ?_)
        · refine tj_iconst (q := 28) (v := 1) dX12_hasBracket_27 rfl (by decide) ?_
          refine tj_goto (q := 32) dX12_hasBracket_28 (by decide) ?_
          exact hk3 true
        · refine tj_bnz (tgt := 27) (q := 16) dX12_hasBracket_13 (by decide) rfl ?_ ?_
          · refine tj_lv [0, 2] rfl ?_
            exact hk5
          · refine tj_aload_n (q := 17) dX12_hasBracket_16 rfl (i := 0) rfl (pl := 0) rfl ?_
            refine tj_getR (q := 20) (hT).s (hT).p_open fok_12_17 wl_RX12_36 dX12_hasBracket_17 rfl ?_
            refine tj_iload_n (q := 21) dX12_hasBracket_20 rfl (i := 2) rfl (pl := 2) rfl ?_
            refine tj_iaload (q := 22) (hT).s_open dX12_hasBracket_21 rfl ?_
            refine tj_topI (fun v6 => ?_)
            refine tj_bipush (q := 24) (v := 20) dX12_hasBracket_22 rfl (by decide) ?_
            refine tj_icmp_ne (tgt := 31) (q := 27) dX12_hasBracket_24 (by decide) rfl ?_ ?_
            · refine tj_lv [0, 2] rfl ?_
              exact hk5
            · refine tj_iconst (q := 32) (v := 0) dX12_hasBracket_31 rfl (by decide) ?_
              refine tj_lv [0, 2] rfl ?_
              exact hk3 false

set_option maxHeartbeats 4000000 in
theorem rX12_hasBracket (t : Nat) (hT : LY12 sh P t) : Rj l D cA h0 ad yX12_hasBracket cX12_hasBracket 3 (some .boolean) false 2 0 0 (fun b => (some (.int (b2i b)), sh, P, σ)) [.ref (h0 + t)] sh P σ (mX12_hasBracket t σ) := by
  rw [mX12_hasBracket]
  refine Rj.of (by decide) (fun h => by cases h) (Nat.le_of_ble_eq_true rfl) ?_
  refine tj_lv0 (lv' := [(0, .ref (h0 + t))]) rfl ?_
  refine tj_iconst (q := 1) (v := 0) dX12_hasBracket_0 rfl (by decide) ?_
  refine tj_istore_n (q := 2) dX12_hasBracket_1 rfl (i := 1) rfl (by decide) rfl ?_
  refine tj_iconst (q := 3) (v := 0) dX12_hasBracket_2 rfl (by decide) ?_
  refine tj_istore_n (q := 4) dX12_hasBracket_3 rfl (i := 2) rfl (by decide) rfl ?_
  refine tj_lv [2, 1, 0] rfl ?_
  exact tmX12_hasBracket_L4 σ t hT FU false (0 : Int32)

theorem dX12_readLaw_0 : decode cX12_readLaw 0 = .ok (.aload_n 0, 1) := by decide +kernel
theorem dX12_readLaw_1 : decode cX12_readLaw 1 = .ok (.invokevirtual 267, 3) := by decide +kernel
theorem dX12_readLaw_4 : decode cX12_readLaw 4 = .ok (.aload_n 0, 1) := by decide +kernel
theorem dX12_readLaw_5 : decode cX12_readLaw 5 = .ok (.iconst 0, 1) := by decide +kernel
theorem dX12_readLaw_6 : decode cX12_readLaw 6 = .ok (.putfield 284, 3) := by decide +kernel
theorem dX12_readLaw_9 : decode cX12_readLaw 9 = .ok (.aload_n 0, 1) := by decide +kernel
theorem dX12_readLaw_10 : decode cX12_readLaw 10 = .ok (.iconst 0, 1) := by decide +kernel
theorem dX12_readLaw_11 : decode cX12_readLaw 11 = .ok (.putfield 287, 3) := by decide +kernel
theorem dX12_readLaw_14 : decode cX12_readLaw 14 = .ok (.aload_n 0, 1) := by decide +kernel
theorem dX12_readLaw_15 : decode cX12_readLaw 15 = .ok (.iconst 0, 1) := by decide +kernel
theorem dX12_readLaw_16 : decode cX12_readLaw 16 = .ok (.putfield 297, 3) := by decide +kernel
theorem dX12_readLaw_19 : decode cX12_readLaw 19 = .ok (.aload_n 0, 1) := by decide +kernel
theorem dX12_readLaw_20 : decode cX12_readLaw 20 = .ok (.iconst 0, 1) := by decide +kernel
theorem dX12_readLaw_21 : decode cX12_readLaw 21 = .ok (.putfield 303, 3) := by decide +kernel
theorem dX12_readLaw_24 : decode cX12_readLaw 24 = .ok (.aload_n 0, 1) := by decide +kernel
theorem dX12_readLaw_25 : decode cX12_readLaw 25 = .ok (.invokevirtual 322, 3) := by decide +kernel
theorem dX12_readLaw_28 : decode cX12_readLaw 28 = .ok (.iconst 1, 1) := by decide +kernel
theorem dX12_readLaw_29 : decode cX12_readLaw 29 = .ok (.istore_n 1, 1) := by decide +kernel
theorem dX12_readLaw_30 : decode cX12_readLaw 30 = .ok (.iload_n 1, 1) := by decide +kernel
theorem dX12_readLaw_31 : decode cX12_readLaw 31 = .ok (.ifCond .eq 126, 3) := by decide +kernel
theorem dX12_readLaw_34 : decode cX12_readLaw 34 = .ok (.aload_n 0, 1) := by decide +kernel
theorem dX12_readLaw_35 : decode cX12_readLaw 35 = .ok (.getfield 203, 3) := by decide +kernel
theorem dX12_readLaw_38 : decode cX12_readLaw 38 = .ok (.ifCond .ne 119, 3) := by decide +kernel
theorem dX12_readLaw_41 : decode cX12_readLaw 41 = .ok (.aload_n 0, 1) := by decide +kernel
theorem dX12_readLaw_42 : decode cX12_readLaw 42 = .ok (.invokevirtual 325, 3) := by decide +kernel
theorem dX12_readLaw_45 : decode cX12_readLaw 45 = .ok (.istore_n 2, 1) := by decide +kernel
theorem dX12_readLaw_46 : decode cX12_readLaw 46 = .ok (.aload_n 0, 1) := by decide +kernel
theorem dX12_readLaw_47 : decode cX12_readLaw 47 = .ok (.getfield 190, 3) := by decide +kernel
theorem dX12_readLaw_50 : decode cX12_readLaw 50 = .ok (.bipush 41, 2) := by decide +kernel
theorem dX12_readLaw_52 : decode cX12_readLaw 52 = .ok (.if_icmp .ne 42, 3) := by decide +kernel
theorem dX12_readLaw_55 : decode cX12_readLaw 55 = .ok (.aload_n 0, 1) := by decide +kernel
theorem dX12_readLaw_56 : decode cX12_readLaw 56 = .ok (.invokevirtual 328, 3) := by decide +kernel
theorem dX12_readLaw_59 : decode cX12_readLaw 59 = .ok (.ifCond .eq 35, 3) := by decide +kernel
theorem dX12_readLaw_62 : decode cX12_readLaw 62 = .ok (.aload_n 0, 1) := by decide +kernel
theorem dX12_readLaw_63 : decode cX12_readLaw 63 = .ok (.iconst 0, 1) := by decide +kernel
theorem dX12_readLaw_64 : decode cX12_readLaw 64 = .ok (.invokevirtual 331, 3) := by decide +kernel
theorem dX12_readLaw_67 : decode cX12_readLaw 67 = .ok (.aload_n 0, 1) := by decide +kernel
theorem dX12_readLaw_68 : decode cX12_readLaw 68 = .ok (.dup, 1) := by decide +kernel
theorem dX12_readLaw_69 : decode cX12_readLaw 69 = .ok (.getfield 287, 3) := by decide +kernel
theorem dX12_readLaw_72 : decode cX12_readLaw 72 = .ok (.iconst 1, 1) := by decide +kernel
theorem dX12_readLaw_73 : decode cX12_readLaw 73 = .ok (.isub, 1) := by decide +kernel
theorem dX12_readLaw_74 : decode cX12_readLaw 74 = .ok (.putfield 287, 3) := by decide +kernel
theorem dX12_readLaw_77 : decode cX12_readLaw 77 = .ok (.aload_n 0, 1) := by decide +kernel
theorem dX12_readLaw_78 : decode cX12_readLaw 78 = .ok (.dup, 1) := by decide +kernel
theorem dX12_readLaw_79 : decode cX12_readLaw 79 = .ok (.getfield 297, 3) := by decide +kernel
theorem dX12_readLaw_82 : decode cX12_readLaw 82 = .ok (.iconst 1, 1) := by decide +kernel
theorem dX12_readLaw_83 : decode cX12_readLaw 83 = .ok (.isub, 1) := by decide +kernel
theorem dX12_readLaw_84 : decode cX12_readLaw 84 = .ok (.putfield 297, 3) := by decide +kernel
theorem dX12_readLaw_87 : decode cX12_readLaw 87 = .ok (.aload_n 0, 1) := by decide +kernel
theorem dX12_readLaw_88 : decode cX12_readLaw 88 = .ok (.invokevirtual 267, 3) := by decide +kernel
theorem dX12_readLaw_91 : decode cX12_readLaw 91 = .ok (.goto 63, 3) := by decide +kernel
theorem dX12_readLaw_94 : decode cX12_readLaw 94 = .ok (.iload_n 2, 1) := by decide +kernel
theorem dX12_readLaw_95 : decode cX12_readLaw 95 = .ok (.ifCond .eq 57, 3) := by decide +kernel
theorem dX12_readLaw_98 : decode cX12_readLaw 98 = .ok (.iload_n 2, 1) := by decide +kernel
theorem dX12_readLaw_99 : decode cX12_readLaw 99 = .ok (.invokestatic 290, 3) := by decide +kernel
theorem dX12_readLaw_102 : decode cX12_readLaw 102 = .ok (.iconst 4, 1) := by decide +kernel
theorem dX12_readLaw_103 : decode cX12_readLaw 103 = .ok (.if_icmp .ne 10, 3) := by decide +kernel
theorem dX12_readLaw_106 : decode cX12_readLaw 106 = .ok (.aload_n 0, 1) := by decide +kernel
theorem dX12_readLaw_107 : decode cX12_readLaw 107 = .ok (.invokevirtual 334, 3) := by decide +kernel
theorem dX12_readLaw_110 : decode cX12_readLaw 110 = .ok (.ifCond .ne 42, 3) := by decide +kernel
theorem dX12_readLaw_113 : decode cX12_readLaw 113 = .ok (.aload_n 0, 1) := by decide +kernel
theorem dX12_readLaw_114 : decode cX12_readLaw 114 = .ok (.iload_n 2, 1) := by decide +kernel
theorem dX12_readLaw_115 : decode cX12_readLaw 115 = .ok (.invokestatic 290, 3) := by decide +kernel
theorem dX12_readLaw_118 : decode cX12_readLaw 118 = .ok (.invokevirtual 331, 3) := by decide +kernel
theorem dX12_readLaw_121 : decode cX12_readLaw 121 = .ok (.aload_n 0, 1) := by decide +kernel
theorem dX12_readLaw_122 : decode cX12_readLaw 122 = .ok (.getfield 36, 3) := by decide +kernel
theorem dX12_readLaw_125 : decode cX12_readLaw 125 = .ok (.aload_n 0, 1) := by decide +kernel
theorem dX12_readLaw_126 : decode cX12_readLaw 126 = .ok (.getfield 287, 3) := by decide +kernel
theorem dX12_readLaw_129 : decode cX12_readLaw 129 = .ok (.iload_n 2, 1) := by decide +kernel
theorem dX12_readLaw_130 : decode cX12_readLaw 130 = .ok (.iastore, 1) := by decide +kernel
theorem dX12_readLaw_131 : decode cX12_readLaw 131 = .ok (.aload_n 0, 1) := by decide +kernel
theorem dX12_readLaw_132 : decode cX12_readLaw 132 = .ok (.dup, 1) := by decide +kernel
theorem dX12_readLaw_133 : decode cX12_readLaw 133 = .ok (.getfield 287, 3) := by decide +kernel
theorem dX12_readLaw_136 : decode cX12_readLaw 136 = .ok (.iconst 1, 1) := by decide +kernel
theorem dX12_readLaw_137 : decode cX12_readLaw 137 = .ok (.iadd, 1) := by decide +kernel
theorem dX12_readLaw_138 : decode cX12_readLaw 138 = .ok (.putfield 287, 3) := by decide +kernel
theorem dX12_readLaw_141 : decode cX12_readLaw 141 = .ok (.aload_n 0, 1) := by decide +kernel
theorem dX12_readLaw_142 : decode cX12_readLaw 142 = .ok (.invokevirtual 267, 3) := by decide +kernel
theorem dX12_readLaw_145 : decode cX12_readLaw 145 = .ok (.aload_n 0, 1) := by decide +kernel
theorem dX12_readLaw_146 : decode cX12_readLaw 146 = .ok (.invokevirtual 322, 3) := by decide +kernel
theorem dX12_readLaw_149 : decode cX12_readLaw 149 = .ok (.goto 5, 3) := by decide +kernel
theorem dX12_readLaw_152 : decode cX12_readLaw 152 = .ok (.iconst 0, 1) := by decide +kernel
theorem dX12_readLaw_153 : decode cX12_readLaw 153 = .ok (.istore_n 1, 1) := by decide +kernel
theorem dX12_readLaw_154 : decode cX12_readLaw 154 = .ok (.goto (-124), 3) := by decide +kernel
theorem dX12_readLaw_157 : decode cX12_readLaw 157 = .ok (.aload_n 0, 1) := by decide +kernel
theorem dX12_readLaw_158 : decode cX12_readLaw 158 = .ok (.getfield 203, 3) := by decide +kernel
theorem dX12_readLaw_161 : decode cX12_readLaw 161 = .ok (.ifCond .ne 15, 3) := by decide +kernel
theorem dX12_readLaw_164 : decode cX12_readLaw 164 = .ok (.aload_n 0, 1) := by decide +kernel
theorem dX12_readLaw_165 : decode cX12_readLaw 165 = .ok (.invokevirtual 328, 3) := by decide +kernel
theorem dX12_readLaw_168 : decode cX12_readLaw 168 = .ok (.ifCond .eq 8, 3) := by decide +kernel
theorem dX12_readLaw_171 : decode cX12_readLaw 171 = .ok (.aload_n 0, 1) := by decide +kernel
theorem dX12_readLaw_172 : decode cX12_readLaw 172 = .ok (.iconst 2, 1) := by decide +kernel
theorem dX12_readLaw_173 : decode cX12_readLaw 173 = .ok (.invokevirtual 264, 3) := by decide +kernel
theorem dX12_readLaw_176 : decode cX12_readLaw 176 = .ok (.aload_n 0, 1) := by decide +kernel
theorem dX12_readLaw_177 : decode cX12_readLaw 177 = .ok (.getfield 203, 3) := by decide +kernel
theorem dX12_readLaw_180 : decode cX12_readLaw 180 = .ok (.ifCond .ne 8, 3) := by decide +kernel
theorem dX12_readLaw_183 : decode cX12_readLaw 183 = .ok (.aload_n 0, 1) := by decide +kernel
theorem dX12_readLaw_184 : decode cX12_readLaw 184 = .ok (.iconst 0, 1) := by decide +kernel
theorem dX12_readLaw_185 : decode cX12_readLaw 185 = .ok (.invokevirtual 331, 3) := by decide +kernel
theorem dX12_readLaw_188 : decode cX12_readLaw 188 = .ok (.return_, 1) := by decide +kernel
theorem wm_X12_unit : Cond.instanceMethod yX12_unit ∈ TB ∧ Cond.selects yX12_unit.cls yX12_unit yX12_unit ∈ TB ∧ Cond.initialized yX12_unit.cls ∈ TB ∧ Cond.code yX12_unit cX12_unit 3 none ∈ TB ∧ (yX12_unit.cls ≠ "java/lang/invoke/MethodHandle" ∧ yX12_unit.cls ≠ "java/lang/invoke/VarHandle" ∧ (parseMethodDescriptor yX12_unit.desc).map (fun d => d.parameters.length) = some 0) ∧ 3 ≤ 21 := ⟨tbm 1825 (by decide +kernel) (by decide +kernel), tbm 77 (by decide +kernel) (by decide +kernel), tbm 146 (by decide +kernel) (by decide +kernel), tbm 1826 (by decide +kernel) (by decide +kernel), by decide +kernel, by decide⟩
theorem wi_RX12_322 : Iv RX12 322 yX12_unit cX12_unit 3 none 0 := ⟨tbm 1823 (by decide +kernel) (by decide +kernel), wm_X12_unit⟩
theorem wm_X12_sign : Cond.instanceMethod yX12_sign ∈ TB ∧ Cond.selects yX12_sign.cls yX12_sign yX12_sign ∈ TB ∧ Cond.initialized yX12_sign.cls ∈ TB ∧ Cond.code yX12_sign cX12_sign 1 (some .int) ∈ TB ∧ (yX12_sign.cls ≠ "java/lang/invoke/MethodHandle" ∧ yX12_sign.cls ≠ "java/lang/invoke/VarHandle" ∧ (parseMethodDescriptor yX12_sign.desc).map (fun d => d.parameters.length) = some 0) ∧ 1 ≤ 21 := ⟨tbm 1856 (by decide +kernel) (by decide +kernel), tbm 84 (by decide +kernel) (by decide +kernel), tbm 146 (by decide +kernel) (by decide +kernel), tbm 1857 (by decide +kernel) (by decide +kernel), by decide +kernel, by decide⟩
theorem wi_RX12_325 : Iv RX12 325 yX12_sign cX12_sign 1 (some .int) 0 := ⟨tbm 1854 (by decide +kernel) (by decide +kernel), wm_X12_sign⟩
theorem wm_X12_hasBracket : Cond.instanceMethod yX12_hasBracket ∈ TB ∧ Cond.selects yX12_hasBracket.cls yX12_hasBracket yX12_hasBracket ∈ TB ∧ Cond.initialized yX12_hasBracket.cls ∈ TB ∧ Cond.code yX12_hasBracket cX12_hasBracket 3 (some .boolean) ∈ TB ∧ (yX12_hasBracket.cls ≠ "java/lang/invoke/MethodHandle" ∧ yX12_hasBracket.cls ≠ "java/lang/invoke/VarHandle" ∧ (parseMethodDescriptor yX12_hasBracket.desc).map (fun d => d.parameters.length) = some 0) ∧ 3 ≤ 21 := ⟨tbm 1860 (by decide +kernel) (by decide +kernel), tbm 85 (by decide +kernel) (by decide +kernel), tbm 146 (by decide +kernel) (by decide +kernel), tbm 1861 (by decide +kernel) (by decide +kernel), by decide +kernel, by decide⟩
theorem wi_RX12_328 : Iv RX12 328 yX12_hasBracket cX12_hasBracket 3 (some .boolean) 0 := ⟨tbm 1858 (by decide +kernel) (by decide +kernel), wm_X12_hasBracket⟩
theorem wm_X12_close : Cond.instanceMethod yX12_close ∈ TB ∧ Cond.selects yX12_close.cls yX12_close yX12_close ∈ TB ∧ Cond.initialized yX12_close.cls ∈ TB ∧ Cond.code yX12_close cX12_close 2 none ∈ TB ∧ (yX12_close.cls ≠ "java/lang/invoke/MethodHandle" ∧ yX12_close.cls ≠ "java/lang/invoke/VarHandle" ∧ (parseMethodDescriptor yX12_close.desc).map (fun d => d.parameters.length) = some 1) ∧ 2 ≤ 21 := ⟨tbm 1864 (by decide +kernel) (by decide +kernel), tbm 86 (by decide +kernel) (by decide +kernel), tbm 146 (by decide +kernel) (by decide +kernel), tbm 1865 (by decide +kernel) (by decide +kernel), by decide +kernel, by decide⟩
theorem wi_RX12_331 : Iv RX12 331 yX12_close cX12_close 2 none 1 := ⟨tbm 1862 (by decide +kernel) (by decide +kernel), wm_X12_close⟩
theorem wm_X12_hasRelation : Cond.instanceMethod yX12_hasRelation ∈ TB ∧ Cond.selects yX12_hasRelation.cls yX12_hasRelation yX12_hasRelation ∈ TB ∧ Cond.initialized yX12_hasRelation.cls ∈ TB ∧ Cond.code yX12_hasRelation cX12_hasRelation 2 (some .boolean) ∈ TB ∧ (yX12_hasRelation.cls ≠ "java/lang/invoke/MethodHandle" ∧ yX12_hasRelation.cls ≠ "java/lang/invoke/VarHandle" ∧ (parseMethodDescriptor yX12_hasRelation.desc).map (fun d => d.parameters.length) = some 0) ∧ 2 ≤ 21 := ⟨tbm 1868 (by decide +kernel) (by decide +kernel), tbm 87 (by decide +kernel) (by decide +kernel), tbm 146 (by decide +kernel) (by decide +kernel), tbm 1869 (by decide +kernel) (by decide +kernel), by decide +kernel, by decide⟩
theorem wi_RX12_334 : Iv RX12 334 yX12_hasRelation cX12_hasRelation 2 (some .boolean) 0 := ⟨tbm 1866 (by decide +kernel) (by decide +kernel), wm_X12_hasRelation⟩
def mX12_readLaw_L30 (t : Nat) (k157 : St_ → Option St_) : Nat → Bool → St_ → Option St_
  | 0, _, _ => none
  | n + 1, x1, σ => (if x1 = true then
 (if (σ.1 t 2) = 0 then
 ((mX12_sign t σ).bind fun r7 =>
 (bnd (fun (j8 : Bool) (σ9 : St_) => (mX12_readLaw_L30 t k157 n j8 σ9)) fun k10 =>
 (bnd (bnd (k10 false σ) fun k14 =>
 (if r7 = 0 then
 (k14)
 else ((mX12_tight r7 σ).bind fun r16 =>
 (bnd ((mX12_tight r7 σ).bind fun r19 =>
 ((mX12_close t r19 σ).bind fun σ20 =>
 (bnd (σ20.1 t 21) fun v21 =>
 (if bin v21 160 = true then bnd (sI σ20 (t + 8) v21.toNatClampNeg r7) fun σ22 =>
 (bnd (sI σ22 t 21 ((σ22.1 t 21) + (1 : Int32))) fun σ23 =>
 ((mX12_token t σ23).bind fun σ24 =>
 ((mX12_unit t σ24).bind fun σ25 =>
 (k10 x1 σ25))))
 else none)))) fun k17 =>
 (if r16 = (4 : Int32) then
 ((mX12_hasRelation t σ).bind fun r26 =>
 (if r26 = true then
 (k14)
 else (k17)))
 else (k17)))))) fun k12 =>
 (if (σ.1 t 6) = (41 : Int32) then
 ((mX12_hasBracket t σ).bind fun r27 =>
 (if r27 = true then
 ((mX12_close t (0 : Int32) σ).bind fun σ28 =>
 (bnd (sI σ28 t 21 ((σ28.1 t 21) - (1 : Int32))) fun σ29 =>
 (bnd (sI σ29 t 25 ((σ29.1 t 25) - (1 : Int32))) fun σ30 =>
 ((mX12_token t σ30).bind fun σ31 =>
 (k10 x1 σ31)))))
 else (k12)))
 else (k12)))))
 else (k157 σ))
 else (k157 σ))
def mX12_readLaw (t : Nat) (σ : St_) : Option St_ :=
 ((mX12_token t σ).bind fun σ1 =>
 (bnd (sI σ1 t 19 (0 : Int32)) fun σ2 =>
 (bnd (sI σ2 t 21 (0 : Int32)) fun σ3 =>
 (bnd (sI σ3 t 25 (0 : Int32)) fun σ4 =>
 (bnd (sI σ4 t 24 (0 : Int32)) fun σ5 =>
 ((mX12_unit t σ5).bind fun σ6 =>
 (mX12_readLaw_L30 t
 (fun (σ32 : St_) => (bnd (fun (σ33 : St_) => (if (σ33.1 t 2) = 0 then
 ((mX12_close t (0 : Int32) σ33).bind fun σ36 =>
 (some σ36))
 else (some σ33))) fun k34 =>
 (if (σ32.1 t 2) = 0 then
 ((mX12_hasBracket t σ32).bind fun r37 =>
 (if r37 = true then
 ((mX12_wrong t (2 : Int32) σ32).bind fun σ38 =>
 (k34 σ38))
 else (k34 σ32)))
 else (k34 σ32)))) FU true σ6)))))))
set_option maxHeartbeats 4000000 in
theorem tmX12_readLaw_L30 (t : Nat) (hT : LY12 sh P t) (k157 : St_ → Option St_) (hk157 : ∀ (σ1 : St_), Tj l D cA h0 ad RX12 cX12_readLaw 3 none false 6 0 0 (fun b => (none, sh, P, b)) 0 0 sh P σ1 157 [(0, .ref (h0 + t))] [] (k157 σ1)) : ∀ (n : Nat) (x1 : Bool) (σ : St_), Tj l D cA h0 ad RX12 cX12_readLaw 3 none false 6 0 0 (fun b => (none, sh, P, b)) 0 0 sh P σ 30 [(0, .ref (h0 + t)), (1, .int (b2i x1))] [] (mX12_readLaw_L30 t k157 n x1 σ) := by
  intro n
  induction n with
  | zero => intros; exact tj_none
  | succ n ih =>
    intro x1 σ
    rw [mX12_readLaw_L30]
    refine tj_iload_n (q := 31) dX12_readLaw_30 rfl (i := 1) rfl (pl := 1) rfl ?_
    refine tj_bz (tgt := 157) (q := 34) dX12_readLaw_31 (by decide) rfl ?_ ?_
    · refine tj_aload_n (q := 35) dX12_readLaw_34 rfl (i := 0) rfl (pl := 0) rfl ?_
      refine tj_getI (q := 38) (hT).s fok_12_2 wl_RX12_203 dX12_readLaw_35 rfl ?_
      refine tj_if_ne (tgt := 157) (q := 41) dX12_readLaw_38 (by decide) rfl ?_ ?_
      · refine tj_aload_n (q := 42) dX12_readLaw_41 rfl (i := 0) rfl (pl := 0) rfl ?_
        refine tj_callIp (q := 45) (kj_V (As := []) (rest := []) (t := t) wi_RX12_325 (hT).s rfl (rX12_sign t (hT)) rfl (Nat.le_of_ble_eq_true rfl) ⟨Nat.le_of_ble_eq_true rfl, Nat.le_of_ble_eq_true rfl⟩ (Nat.le_of_ble_eq_true rfl) dX12_readLaw_42) rfl (fun r7 => ?_)
        refine tj_istore_n (q := 46) dX12_readLaw_45 rfl (i := 2) rfl (by decide) rfl ?_
        refine tj_aload_n (q := 47) dX12_readLaw_46 rfl (i := 0) rfl (pl := 1) rfl ?_
        refine tj_getI (q := 50) (hT).s fok_12_6 wl_RX12_190 dX12_readLaw_47 rfl ?_
        refine tj_bipush (q := 52) (v := 41) dX12_readLaw_50 rfl (by decide) ?_
        refine tj_bnd (fun k10 => ∀ (j8 : Bool) (σ9 : St_), Tj l D cA h0 ad RX12 cX12_readLaw 3 none false 6 0 0 (fun b => (none, sh, P, b)) 0 0 sh P σ9 154 [(0, .ref (h0 + t)), (1, .int (b2i j8))] [] (k10 j8 σ9)) ?_ (fun k10 hk11 => ?_)
        · intro j8 σ9
          refine tj_goto (q := 30) dX12_readLaw_154 (by decide) ?_
          exact ih j8 σ9
        · refine tj_bnd (fun k12 => Tj l D cA h0 ad RX12 cX12_readLaw 3 none false 6 0 0 (fun b => (none, sh, P, b)) 0 0 sh P σ 94 [(0, .ref (h0 + t)), (1, .int (b2i x1)), (2, .int r7)] [] k12) ?_ (fun k12 hk13 => ?_)
          · refine tj_iload_n (q := 95) dX12_readLaw_94 rfl (i := 2) rfl (pl := 2) rfl ?_
            refine tj_bnd (fun k14 => Tj l D cA h0 ad RX12 cX12_readLaw 3 none false 6 0 0 (fun b => (none, sh, P, b)) 0 0 sh P σ 152 [(0, .ref (h0 + t))] [] k14) ?_ (fun k14 hk15 => ?_)
            · refine tj_iconst (q := 153) (v := 0) dX12_readLaw_152 rfl (by decide) ?_
              refine tj_istore_n (q := 154) dX12_readLaw_153 rfl (i := 1) rfl (by decide) rfl ?_
              refine tj_lv [1, 0] rfl ?_
              exact hk11 false σ
            · refine tj_if_eq (tgt := 152) (q := 98) dX12_readLaw_95 (by decide) rfl ?_ ?_
              · refine tj_lv [0] rfl ?_
                exact hk15
              · refine tj_iload_n (q := 99) dX12_readLaw_98 rfl (i := 2) rfl (pl := 2) rfl ?_
                refine tj_callIp (q := 102) (kj_S (As := [.int r7]) (rest := []) wi_RX12_290 (rX12_tight r7) rfl (Nat.le_of_ble_eq_true rfl) ⟨Nat.le_of_ble_eq_true rfl, Nat.le_of_ble_eq_true rfl⟩ (Nat.le_of_ble_eq_true rfl) dX12_readLaw_99) rfl (fun r16 => ?_)
                refine tj_iconst (q := 103) (v := 4) dX12_readLaw_102 rfl (by decide) ?_
                refine tj_bnd (fun k17 => Tj l D cA h0 ad RX12 cX12_readLaw 3 none false 6 0 0 (fun b => (none, sh, P, b)) 0 0 sh P σ 113 [(0, .ref (h0 + t)), (1, .int (b2i x1)), (2, .int r7)] [] k17) ?_ (fun k17 hk18 => ?_)
                · refine tj_aload_n (q := 114) dX12_readLaw_113 rfl (i := 0) rfl (pl := 0) rfl ?_
                  refine tj_iload_n (q := 115) dX12_readLaw_114 rfl (i := 2) rfl (pl := 2) rfl ?_
                  refine tj_callIp (q := 118) (kj_S (As := [.int r7]) (rest := [.ref (h0 + t)]) wi_RX12_290 (rX12_tight r7) rfl (Nat.le_of_ble_eq_true rfl) ⟨Nat.le_of_ble_eq_true rfl, Nat.le_of_ble_eq_true rfl⟩ (Nat.le_of_ble_eq_true rfl) dX12_readLaw_115) rfl (fun r19 => ?_)
                  refine tj_callV (q := 121) (kj_V (As := [.int r19]) (rest := []) (t := t) wi_RX12_331 (hT).s rfl (rX12_close t r19 (hT)) rfl (Nat.le_of_ble_eq_true rfl) ⟨Nat.le_of_ble_eq_true rfl, Nat.le_of_ble_eq_true rfl⟩ (Nat.le_of_ble_eq_true rfl) dX12_readLaw_118) rfl (fun σ20 => ?_)
                  refine tj_aload_n (q := 122) dX12_readLaw_121 rfl (i := 0) rfl (pl := 0) rfl ?_
                  refine tj_getR (q := 125) (hT).s (hT).p_open fok_12_17 wl_RX12_36 dX12_readLaw_122 rfl ?_
                  refine tj_aload_n (q := 126) dX12_readLaw_125 rfl (i := 0) rfl (pl := 0) rfl ?_
                  refine tj_getI (q := 129) (hT).s fok_12_21 wl_RX12_287 dX12_readLaw_126 rfl ?_
                  refine tj_iload_n (q := 130) dX12_readLaw_129 rfl (i := 2) rfl (pl := 2) rfl ?_
                  refine tj_sndI (fun v21 => ?_)
                  refine tj_iastore (q := 131) (hT).s_open dX12_readLaw_130 rfl (fun σ22 => ?_)
                  refine tj_aload_n (q := 132) dX12_readLaw_131 rfl (i := 0) rfl (pl := 0) rfl ?_
                  refine tj_dup (q := 133) dX12_readLaw_132 rfl rfl ?_
                  refine tj_getI (q := 136) (hT).s fok_12_21 wl_RX12_287 dX12_readLaw_133 rfl ?_
                  refine tj_iconst (q := 137) (v := 1) dX12_readLaw_136 rfl (by decide) ?_
                  refine tj_iadd (q := 138) dX12_readLaw_137 rfl ?_
                  refine tj_putI (q := 141) (hT).s fok_12_21 tok_12 fpk_12_21 wl_RX12_287 dX12_readLaw_138 rfl (fun σ23 => ?_)
                  refine tj_aload_n (q := 142) dX12_readLaw_141 rfl (i := 0) rfl (pl := 0) rfl ?_
                  refine tj_callV (q := 145) (kj_V (As := []) (rest := []) (t := t) wi_RX12_267 (hT).s rfl (rX12_token t (hT)) rfl (Nat.le_of_ble_eq_true rfl) ⟨Nat.le_of_ble_eq_true rfl, Nat.le_of_ble_eq_true rfl⟩ (Nat.le_of_ble_eq_true rfl) dX12_readLaw_142) rfl (fun σ24 => ?_)
                  refine tj_aload_n (q := 146) dX12_readLaw_145 rfl (i := 0) rfl (pl := 0) rfl ?_
                  refine tj_callV (q := 149) (kj_V (As := []) (rest := []) (t := t) wi_RX12_322 (hT).s rfl (rX12_unit t (hT)) rfl (Nat.le_of_ble_eq_true rfl) ⟨Nat.le_of_ble_eq_true rfl, Nat.le_of_ble_eq_true rfl⟩ (Nat.le_of_ble_eq_true rfl) dX12_readLaw_146) rfl (fun σ25 => ?_)
                  refine tj_goto (q := 154) dX12_readLaw_149 (by decide) ?_
                  refine tj_lv [0, 1] rfl ?_
                  exact hk11 x1 σ25
                · refine tj_icmp_ne (tgt := 113) (q := 106) dX12_readLaw_103 (by decide) rfl ?_ ?_
                  · refine tj_aload_n (q := 107) dX12_readLaw_106 rfl (i := 0) rfl (pl := 0) rfl ?_
                    refine tj_callZp (q := 110) (kj_V (As := []) (rest := []) (t := t) wi_RX12_334 (hT).s rfl (rX12_hasRelation t (hT)) rfl (Nat.le_of_ble_eq_true rfl) ⟨Nat.le_of_ble_eq_true rfl, Nat.le_of_ble_eq_true rfl⟩ (Nat.le_of_ble_eq_true rfl) dX12_readLaw_107) rfl (fun r26 => ?_)
                    refine tj_bnz (tgt := 152) (q := 113) dX12_readLaw_110 (by decide) rfl ?_ ?_
                    · refine tj_lv [0] rfl ?_
                      exact hk15
                    · exact hk18
                  · exact hk18
          · refine tj_icmp_ne (tgt := 94) (q := 55) dX12_readLaw_52 (by decide) rfl ?_ ?_
            · refine tj_aload_n (q := 56) dX12_readLaw_55 rfl (i := 0) rfl (pl := 1) rfl ?_
              refine tj_callZp (q := 59) (kj_V (As := []) (rest := []) (t := t) wi_RX12_328 (hT).s rfl (rX12_hasBracket t (hT)) rfl (Nat.le_of_ble_eq_true rfl) ⟨Nat.le_of_ble_eq_true rfl, Nat.le_of_ble_eq_true rfl⟩ (Nat.le_of_ble_eq_true rfl) dX12_readLaw_56) rfl (fun r27 => ?_)
              refine tj_bz (tgt := 94) (q := 62) dX12_readLaw_59 (by decide) rfl ?_ ?_
              · refine tj_aload_n (q := 63) dX12_readLaw_62 rfl (i := 0) rfl (pl := 1) rfl ?_
                refine tj_iconst (q := 64) (v := 0) dX12_readLaw_63 rfl (by decide) ?_
                refine tj_callV (q := 67) (kj_V (As := [.int (0 : Int32)]) (rest := []) (t := t) wi_RX12_331 (hT).s rfl (rX12_close t (0 : Int32) (hT)) rfl (Nat.le_of_ble_eq_true rfl) ⟨Nat.le_of_ble_eq_true rfl, Nat.le_of_ble_eq_true rfl⟩ (Nat.le_of_ble_eq_true rfl) dX12_readLaw_64) rfl (fun σ28 => ?_)
                refine tj_aload_n (q := 68) dX12_readLaw_67 rfl (i := 0) rfl (pl := 1) rfl ?_
                refine tj_dup (q := 69) dX12_readLaw_68 rfl rfl ?_
                refine tj_getI (q := 72) (hT).s fok_12_21 wl_RX12_287 dX12_readLaw_69 rfl ?_
                refine tj_iconst (q := 73) (v := 1) dX12_readLaw_72 rfl (by decide) ?_
                refine tj_isub (q := 74) dX12_readLaw_73 rfl ?_
                refine tj_putI (q := 77) (hT).s fok_12_21 tok_12 fpk_12_21 wl_RX12_287 dX12_readLaw_74 rfl (fun σ29 => ?_)
                refine tj_aload_n (q := 78) dX12_readLaw_77 rfl (i := 0) rfl (pl := 1) rfl ?_
                refine tj_dup (q := 79) dX12_readLaw_78 rfl rfl ?_
                refine tj_getI (q := 82) (hT).s fok_12_25 wl_RX12_297 dX12_readLaw_79 rfl ?_
                refine tj_iconst (q := 83) (v := 1) dX12_readLaw_82 rfl (by decide) ?_
                refine tj_isub (q := 84) dX12_readLaw_83 rfl ?_
                refine tj_putI (q := 87) (hT).s fok_12_25 tok_12 fpk_12_25 wl_RX12_297 dX12_readLaw_84 rfl (fun σ30 => ?_)
                refine tj_aload_n (q := 88) dX12_readLaw_87 rfl (i := 0) rfl (pl := 1) rfl ?_
                refine tj_callV (q := 91) (kj_V (As := []) (rest := []) (t := t) wi_RX12_267 (hT).s rfl (rX12_token t (hT)) rfl (Nat.le_of_ble_eq_true rfl) ⟨Nat.le_of_ble_eq_true rfl, Nat.le_of_ble_eq_true rfl⟩ (Nat.le_of_ble_eq_true rfl) dX12_readLaw_88) rfl (fun σ31 => ?_)
                refine tj_goto (q := 154) dX12_readLaw_91 (by decide) ?_
                refine tj_lv [1, 2] rfl ?_
                exact hk11 x1 σ31
              · refine tj_lv [1, 2, 0] rfl ?_
                exact hk13
            · refine tj_lv [1, 2, 0] rfl ?_
              exact hk13
      · refine tj_lv [0] rfl ?_
        exact hk157 σ
    · refine tj_lv [0] rfl ?_
      exact hk157 σ

set_option maxHeartbeats 4000000 in
theorem rX12_readLaw (t : Nat) (hT : LY12 sh P t) : Rj l D cA h0 ad yX12_readLaw cX12_readLaw 3 none false 6 0 0 (fun b => (none, sh, P, b)) [.ref (h0 + t)] sh P σ (mX12_readLaw t σ) := by
  rw [mX12_readLaw]
  refine Rj.of (by decide) (fun h => by cases h) (Nat.le_of_ble_eq_true rfl) ?_
  refine tj_lv0 (lv' := [(0, .ref (h0 + t))]) rfl ?_
  refine tj_aload_n (q := 1) dX12_readLaw_0 rfl (i := 0) rfl (pl := 0) rfl ?_
  refine tj_callV (q := 4) (kj_V (As := []) (rest := []) (t := t) wi_RX12_267 (hT).s rfl (rX12_token t (hT)) rfl (Nat.le_of_ble_eq_true rfl) ⟨Nat.le_of_ble_eq_true rfl, Nat.le_of_ble_eq_true rfl⟩ (Nat.le_of_ble_eq_true rfl) dX12_readLaw_1) rfl (fun σ1 => ?_)
  refine tj_aload_n (q := 5) dX12_readLaw_4 rfl (i := 0) rfl (pl := 0) rfl ?_
  refine tj_iconst (q := 6) (v := 0) dX12_readLaw_5 rfl (by decide) ?_
  refine tj_putI (q := 9) (hT).s fok_12_19 tok_12 fpk_12_19 wl_RX12_284 dX12_readLaw_6 rfl (fun σ2 => ?_)
  refine tj_aload_n (q := 10) dX12_readLaw_9 rfl (i := 0) rfl (pl := 0) rfl ?_
  refine tj_iconst (q := 11) (v := 0) dX12_readLaw_10 rfl (by decide) ?_
  refine tj_putI (q := 14) (hT).s fok_12_21 tok_12 fpk_12_21 wl_RX12_287 dX12_readLaw_11 rfl (fun σ3 => ?_)
  refine tj_aload_n (q := 15) dX12_readLaw_14 rfl (i := 0) rfl (pl := 0) rfl ?_
  refine tj_iconst (q := 16) (v := 0) dX12_readLaw_15 rfl (by decide) ?_
  refine tj_putI (q := 19) (hT).s fok_12_25 tok_12 fpk_12_25 wl_RX12_297 dX12_readLaw_16 rfl (fun σ4 => ?_)
  refine tj_aload_n (q := 20) dX12_readLaw_19 rfl (i := 0) rfl (pl := 0) rfl ?_
  refine tj_iconst (q := 21) (v := 0) dX12_readLaw_20 rfl (by decide) ?_
  refine tj_putI (q := 24) (hT).s fok_12_24 tok_12 fpk_12_24 wl_RX12_303 dX12_readLaw_21 rfl (fun σ5 => ?_)
  refine tj_aload_n (q := 25) dX12_readLaw_24 rfl (i := 0) rfl (pl := 0) rfl ?_
  refine tj_callV (q := 28) (kj_V (As := []) (rest := []) (t := t) wi_RX12_322 (hT).s rfl (rX12_unit t (hT)) rfl (Nat.le_of_ble_eq_true rfl) ⟨Nat.le_of_ble_eq_true rfl, Nat.le_of_ble_eq_true rfl⟩ (Nat.le_of_ble_eq_true rfl) dX12_readLaw_25) rfl (fun σ6 => ?_)
  refine tj_iconst (q := 29) (v := 1) dX12_readLaw_28 rfl (by decide) ?_
  refine tj_istore_n (q := 30) dX12_readLaw_29 rfl (i := 1) rfl (by decide) rfl ?_
  refine tj_lv [1, 0] rfl ?_
  refine tmX12_readLaw_L30 t hT _ ?_ FU true σ6
  · intro σ32
    refine tj_aload_n (q := 158) dX12_readLaw_157 rfl (i := 0) rfl (pl := 0) rfl ?_
    refine tj_getI (q := 161) (hT).s fok_12_2 wl_RX12_203 dX12_readLaw_158 rfl ?_
    refine tj_bnd (fun k34 => ∀ (σ33 : St_), Tj l D cA h0 ad RX12 cX12_readLaw 3 none false 6 0 0 (fun b => (none, sh, P, b)) 0 0 sh P σ33 176 [(0, .ref (h0 + t))] [] (k34 σ33)) ?_ (fun k34 hk35 => ?_)
    · intro σ33
      refine tj_aload_n (q := 177) dX12_readLaw_176 rfl (i := 0) rfl (pl := 0) rfl ?_
      refine tj_getI (q := 180) (hT).s fok_12_2 wl_RX12_203 dX12_readLaw_177 rfl ?_
      refine tj_if_ne (tgt := 188) (q := 183) dX12_readLaw_180 (by decide) rfl ?_ ?_
      · refine tj_aload_n (q := 184) dX12_readLaw_183 rfl (i := 0) rfl (pl := 0) rfl ?_
        refine tj_iconst (q := 185) (v := 0) dX12_readLaw_184 rfl (by decide) ?_
        refine tj_callV (q := 188) (kj_V (As := [.int (0 : Int32)]) (rest := []) (t := t) wi_RX12_331 (hT).s rfl (rX12_close t (0 : Int32) (hT)) rfl (Nat.le_of_ble_eq_true rfl) ⟨Nat.le_of_ble_eq_true rfl, Nat.le_of_ble_eq_true rfl⟩ (Nat.le_of_ble_eq_true rfl) dX12_readLaw_185) rfl (fun σ36 => ?_)
        exact tj_vret rfl rfl (Nat.le_of_ble_eq_true rfl) (Nat.le_of_ble_eq_true rfl) dX12_readLaw_188
      · exact tj_vret rfl rfl (Nat.le_of_ble_eq_true rfl) (Nat.le_of_ble_eq_true rfl) dX12_readLaw_188
    · refine tj_if_ne (tgt := 176) (q := 164) dX12_readLaw_161 (by decide) rfl ?_ ?_
      · refine tj_aload_n (q := 165) dX12_readLaw_164 rfl (i := 0) rfl (pl := 0) rfl ?_
        refine tj_callZp (q := 168) (kj_V (As := []) (rest := []) (t := t) wi_RX12_328 (hT).s rfl (rX12_hasBracket t (hT)) rfl (Nat.le_of_ble_eq_true rfl) ⟨Nat.le_of_ble_eq_true rfl, Nat.le_of_ble_eq_true rfl⟩ (Nat.le_of_ble_eq_true rfl) dX12_readLaw_165) rfl (fun r37 => ?_)
        refine tj_bz (tgt := 176) (q := 171) dX12_readLaw_168 (by decide) rfl ?_ ?_
        · refine tj_aload_n (q := 172) dX12_readLaw_171 rfl (i := 0) rfl (pl := 0) rfl ?_
          refine tj_iconst (q := 173) (v := 2) dX12_readLaw_172 rfl (by decide) ?_
          refine tj_callV (q := 176) (kj_V (As := [.int (2 : Int32)]) (rest := []) (t := t) wi_RX12_264 (hT).s rfl (rX12_wrong t (2 : Int32) (hT)) rfl (Nat.le_of_ble_eq_true rfl) ⟨Nat.le_of_ble_eq_true rfl, Nat.le_of_ble_eq_true rfl⟩ (Nat.le_of_ble_eq_true rfl) dX12_readLaw_173) rfl (fun σ38 => ?_)
          exact hk35 σ38
        · exact hk35 σ32
      · exact hk35 σ32

theorem dX12_truth_0 : decode cX12_truth 0 = .ok (.iload_n 0, 1) := by decide +kernel
theorem dX12_truth_1 : decode cX12_truth 1 = .ok (.ifCond .eq 7, 3) := by decide +kernel
theorem dX12_truth_4 : decode cX12_truth 4 = .ok (.iconst 1, 1) := by decide +kernel
theorem dX12_truth_5 : decode cX12_truth 5 = .ok (.goto 4, 3) := by decide +kernel
theorem dX12_truth_8 : decode cX12_truth 8 = .ok (.iconst 0, 1) := by decide +kernel
theorem dX12_truth_9 : decode cX12_truth 9 = .ok (.ireturn, 1) := by decide +kernel
def mX12_truth (p1 : Bool) (σ : St_) : Option Int32 :=
 (if p1 = true then
 (some (1 : Int32))
 else (some (0 : Int32)))
set_option maxHeartbeats 4000000 in
theorem rX12_truth (p1 : Bool)  : Rj l D cA h0 ad yX12_truth cX12_truth 1 (some .int) false 2 0 0 (fun b => (some (.int b), sh, P, σ)) [.int (b2i p1)] sh P σ (mX12_truth p1 σ) := by
  rw [mX12_truth]
  refine Rj.of (by decide) (fun h => by cases h) (Nat.le_of_ble_eq_true rfl) ?_
  refine tj_lv0 (lv' := [(0, .int (b2i p1))]) rfl ?_
  refine tj_iload_n (q := 1) dX12_truth_0 rfl (i := 0) rfl (pl := 0) rfl ?_
  refine tj_bz (tgt := 8) (q := 4) dX12_truth_1 (by decide) rfl ?_ ?_
  · refine tj_iconst (q := 5) (v := 1) dX12_truth_4 rfl (by decide) ?_
    refine tj_goto (q := 9) dX12_truth_5 (by decide) ?_
    exact tj_iret rfl rfl (Nat.le_of_ble_eq_true rfl) (Nat.le_of_ble_eq_true rfl) dX12_truth_9
  · refine tj_iconst (q := 9) (v := 0) dX12_truth_8 rfl (by decide) ?_
    exact tj_iret rfl rfl (Nat.le_of_ble_eq_true rfl) (Nat.le_of_ble_eq_true rfl) dX12_truth_9

theorem dX12_done_0 : decode cX12_done 0 = .ok (.iload_n 0, 1) := by decide +kernel
theorem dX12_done_1 : decode cX12_done 1 = .ok (.tableswitch 214 37 62 #[143, 197, 214, 214, 214, 127, 119, 214, 123, 214, 131, 214, 214, 214, 214, 214, 214, 214, 214, 214, 214, 214, 214, 155, 183, 169], 119) := by decide +kernel
theorem dX12_done_120 : decode cX12_done 120 = .ok (.iload_n 1, 1) := by decide +kernel
theorem dX12_done_121 : decode cX12_done 121 = .ok (.iload_n 2, 1) := by decide +kernel
theorem dX12_done_122 : decode cX12_done 122 = .ok (.iadd, 1) := by decide +kernel
theorem dX12_done_123 : decode cX12_done 123 = .ok (.ireturn, 1) := by decide +kernel
theorem dX12_done_124 : decode cX12_done 124 = .ok (.iload_n 1, 1) := by decide +kernel
theorem dX12_done_125 : decode cX12_done 125 = .ok (.iload_n 2, 1) := by decide +kernel
theorem dX12_done_126 : decode cX12_done 126 = .ok (.isub, 1) := by decide +kernel
theorem dX12_done_127 : decode cX12_done 127 = .ok (.ireturn, 1) := by decide +kernel
theorem dX12_done_128 : decode cX12_done 128 = .ok (.iload_n 1, 1) := by decide +kernel
theorem dX12_done_129 : decode cX12_done 129 = .ok (.iload_n 2, 1) := by decide +kernel
theorem dX12_done_130 : decode cX12_done 130 = .ok (.imul, 1) := by decide +kernel
theorem dX12_done_131 : decode cX12_done 131 = .ok (.ireturn, 1) := by decide +kernel
theorem dX12_done_132 : decode cX12_done 132 = .ok (.iload_n 2, 1) := by decide +kernel
theorem dX12_done_133 : decode cX12_done 133 = .ok (.ifCond .ne 7, 3) := by decide +kernel
theorem dX12_done_136 : decode cX12_done 136 = .ok (.iconst 0, 1) := by decide +kernel
theorem dX12_done_137 : decode cX12_done 137 = .ok (.goto 6, 3) := by decide +kernel
theorem dX12_done_140 : decode cX12_done 140 = .ok (.iload_n 1, 1) := by decide +kernel
theorem dX12_done_141 : decode cX12_done 141 = .ok (.iload_n 2, 1) := by decide +kernel
theorem dX12_done_142 : decode cX12_done 142 = .ok (.idiv, 1) := by decide +kernel
theorem dX12_done_143 : decode cX12_done 143 = .ok (.ireturn, 1) := by decide +kernel
theorem dX12_done_144 : decode cX12_done 144 = .ok (.iload_n 2, 1) := by decide +kernel
theorem dX12_done_145 : decode cX12_done 145 = .ok (.ifCond .ne 7, 3) := by decide +kernel
theorem dX12_done_148 : decode cX12_done 148 = .ok (.iconst 0, 1) := by decide +kernel
theorem dX12_done_149 : decode cX12_done 149 = .ok (.goto 6, 3) := by decide +kernel
theorem dX12_done_152 : decode cX12_done 152 = .ok (.iload_n 1, 1) := by decide +kernel
theorem dX12_done_153 : decode cX12_done 153 = .ok (.iload_n 2, 1) := by decide +kernel
theorem dX12_done_154 : decode cX12_done 154 = .ok (.irem, 1) := by decide +kernel
theorem dX12_done_155 : decode cX12_done 155 = .ok (.ireturn, 1) := by decide +kernel
theorem dX12_done_156 : decode cX12_done 156 = .ok (.iload_n 1, 1) := by decide +kernel
theorem dX12_done_157 : decode cX12_done 157 = .ok (.iload_n 2, 1) := by decide +kernel
theorem dX12_done_158 : decode cX12_done 158 = .ok (.if_icmp .ge 7, 3) := by decide +kernel
theorem dX12_done_161 : decode cX12_done 161 = .ok (.iconst 1, 1) := by decide +kernel
theorem dX12_done_162 : decode cX12_done 162 = .ok (.goto 4, 3) := by decide +kernel
theorem dX12_done_165 : decode cX12_done 165 = .ok (.iconst 0, 1) := by decide +kernel
theorem dX12_done_166 : decode cX12_done 166 = .ok (.invokestatic 337, 3) := by decide +kernel
theorem dX12_done_169 : decode cX12_done 169 = .ok (.ireturn, 1) := by decide +kernel
theorem dX12_done_170 : decode cX12_done 170 = .ok (.iload_n 1, 1) := by decide +kernel
theorem dX12_done_171 : decode cX12_done 171 = .ok (.iload_n 2, 1) := by decide +kernel
theorem dX12_done_172 : decode cX12_done 172 = .ok (.if_icmp .le 7, 3) := by decide +kernel
theorem dX12_done_175 : decode cX12_done 175 = .ok (.iconst 1, 1) := by decide +kernel
theorem dX12_done_176 : decode cX12_done 176 = .ok (.goto 4, 3) := by decide +kernel
theorem dX12_done_179 : decode cX12_done 179 = .ok (.iconst 0, 1) := by decide +kernel
theorem dX12_done_180 : decode cX12_done 180 = .ok (.invokestatic 337, 3) := by decide +kernel
theorem dX12_done_183 : decode cX12_done 183 = .ok (.ireturn, 1) := by decide +kernel
theorem dX12_done_184 : decode cX12_done 184 = .ok (.iload_n 1, 1) := by decide +kernel
theorem dX12_done_185 : decode cX12_done 185 = .ok (.iload_n 2, 1) := by decide +kernel
theorem dX12_done_186 : decode cX12_done 186 = .ok (.if_icmp .ne 7, 3) := by decide +kernel
theorem dX12_done_189 : decode cX12_done 189 = .ok (.iconst 1, 1) := by decide +kernel
theorem dX12_done_190 : decode cX12_done 190 = .ok (.goto 4, 3) := by decide +kernel
theorem dX12_done_193 : decode cX12_done 193 = .ok (.iconst 0, 1) := by decide +kernel
theorem dX12_done_194 : decode cX12_done 194 = .ok (.invokestatic 337, 3) := by decide +kernel
theorem dX12_done_197 : decode cX12_done 197 = .ok (.ireturn, 1) := by decide +kernel
theorem dX12_done_198 : decode cX12_done 198 = .ok (.iload_n 1, 1) := by decide +kernel
theorem dX12_done_199 : decode cX12_done 199 = .ok (.ifCond .eq 11, 3) := by decide +kernel
theorem dX12_done_202 : decode cX12_done 202 = .ok (.iload_n 2, 1) := by decide +kernel
theorem dX12_done_203 : decode cX12_done 203 = .ok (.ifCond .eq 7, 3) := by decide +kernel
theorem dX12_done_206 : decode cX12_done 206 = .ok (.iconst 1, 1) := by decide +kernel
theorem dX12_done_207 : decode cX12_done 207 = .ok (.goto 4, 3) := by decide +kernel
theorem dX12_done_210 : decode cX12_done 210 = .ok (.iconst 0, 1) := by decide +kernel
theorem dX12_done_211 : decode cX12_done 211 = .ok (.invokestatic 337, 3) := by decide +kernel
theorem dX12_done_214 : decode cX12_done 214 = .ok (.ireturn, 1) := by decide +kernel
theorem dX12_done_215 : decode cX12_done 215 = .ok (.iload_n 1, 1) := by decide +kernel
theorem dX12_done_216 : decode cX12_done 216 = .ok (.ifCond .ne 7, 3) := by decide +kernel
theorem dX12_done_219 : decode cX12_done 219 = .ok (.iload_n 2, 1) := by decide +kernel
theorem dX12_done_220 : decode cX12_done 220 = .ok (.ifCond .eq 7, 3) := by decide +kernel
theorem dX12_done_223 : decode cX12_done 223 = .ok (.iconst 1, 1) := by decide +kernel
theorem dX12_done_224 : decode cX12_done 224 = .ok (.goto 4, 3) := by decide +kernel
theorem dX12_done_227 : decode cX12_done 227 = .ok (.iconst 0, 1) := by decide +kernel
theorem dX12_done_228 : decode cX12_done 228 = .ok (.invokestatic 337, 3) := by decide +kernel
theorem dX12_done_231 : decode cX12_done 231 = .ok (.ireturn, 1) := by decide +kernel
theorem wm_X12_truth : Cond.static yX12_truth ∈ TB ∧ Cond.initialized yX12_truth.cls ∈ TB ∧ Cond.code yX12_truth cX12_truth 1 (some .int) ∈ TB ∧ (yX12_truth.cls ≠ "java/lang/invoke/MethodHandle" ∧ yX12_truth.cls ≠ "java/lang/invoke/VarHandle" ∧ (parseMethodDescriptor yX12_truth.desc).map (fun d => d.parameters.length) = some 1) ∧ 1 ≤ 21 := ⟨tbm 1976 (by decide +kernel) (by decide +kernel), tbm 146 (by decide +kernel) (by decide +kernel), tbm 1977 (by decide +kernel) (by decide +kernel), by decide +kernel, by decide⟩
theorem wi_RX12_337 : Is RX12 337 yX12_truth cX12_truth 1 (some .int) 1 := ⟨tbm 1975 (by decide +kernel) (by decide +kernel), wm_X12_truth⟩
def mX12_done (p1 : Int32) (p2 : Int32) (p3 : Int32) (σ : St_) : Option Int32 :=
 (if p1 = 37 then (if p3 = 0 then
 (some (0 : Int32))
 else (if p3 = 0 then none else
 (some (p2 - p2 / p3 * p3))))
 else (if p1 = 38 then (bnd (fun (j4 : Bool) => ((mX12_truth j4 σ).bind fun r7 =>
 (some r7))) fun k5 =>
 (bnd (k5 false) fun k8 =>
 (if p2 = 0 then
 (k8)
 else (if p3 = 0 then
 (k8)
 else (k5 true)))))
 else (if p1 = 42 then (some (p2 * p3))
 else (if p1 = 43 then (some (p2 + p3))
 else (if p1 = 45 then (some (p2 - p3))
 else (if p1 = 47 then (if p3 = 0 then
 (some (0 : Int32))
 else (if p3 = 0 then none else
 (some (p2 / p3))))
 else (if p1 = 60 then (bnd (fun (j16 : Bool) => ((mX12_truth j16 σ).bind fun r19 =>
 (some r19))) fun k17 =>
 (if p3 ≤ p2 then
 (k17 false)
 else (k17 true)))
 else (if p1 = 61 then (bnd (fun (j21 : Bool) => ((mX12_truth j21 σ).bind fun r24 =>
 (some r24))) fun k22 =>
 (if p2 = p3 then
 (k22 true)
 else (k22 false)))
 else (if p1 = 62 then (bnd (fun (j26 : Bool) => ((mX12_truth j26 σ).bind fun r29 =>
 (some r29))) fun k27 =>
 (if p2 ≤ p3 then
 (k27 false)
 else (k27 true)))
 else (bnd (fun (j30 : Bool) => ((mX12_truth j30 σ).bind fun r33 =>
 (some r33))) fun k31 =>
 (bnd (k31 true) fun k34 =>
 (if p2 = 0 then
 (if p3 = 0 then
 (k31 false)
 else (k34))
 else (k34)))))))))))))
set_option maxHeartbeats 4000000 in
theorem rX12_done (p1 : Int32) (p2 : Int32) (p3 : Int32)  : Rj l D cA h0 ad yX12_done cX12_done 3 (some .int) false 3 0 0 (fun b => (some (.int b), sh, P, σ)) [.int p1, .int p2, .int p3] sh P σ (mX12_done p1 p2 p3 σ) := by
  rw [mX12_done]
  refine Rj.of (by decide) (fun h => by cases h) (Nat.le_of_ble_eq_true rfl) ?_
  refine tj_lv0 (lv' := [(0, .int p1), (1, .int p2), (2, .int p3)]) rfl ?_
  refine tj_iload_n (q := 1) dX12_done_0 rfl (i := 0) rfl (pl := 0) rfl ?_
  refine tj_caseI (fun hc1 => ?_) (fun hc1 => ?_)
  · refine tj_tin (tgt := 144) (k := 37) (off := 143) dX12_done_1 hc1 (by decide) (by decide) (by decide) (by decide) ?_
    refine tj_iload_n (q := 145) dX12_done_144 rfl (i := 2) rfl (pl := 2) rfl ?_
    refine tj_if_ne (tgt := 152) (q := 148) dX12_done_145 (by decide) rfl ?_ ?_
    · refine tj_iconst (q := 149) (v := 0) dX12_done_148 rfl (by decide) ?_
      refine tj_goto (q := 155) dX12_done_149 (by decide) ?_
      exact tj_iret rfl rfl (Nat.le_of_ble_eq_true rfl) (Nat.le_of_ble_eq_true rfl) dX12_done_155
    · refine tj_iload_n (q := 153) dX12_done_152 rfl (i := 1) rfl (pl := 1) rfl ?_
      refine tj_iload_n (q := 154) dX12_done_153 rfl (i := 2) rfl (pl := 2) rfl ?_
      refine tj_gne (y := p3) (fun hn2 => ?_)
      refine tj_irem (q := 155) dX12_done_154 rfl hn2 ?_
      exact tj_iret rfl rfl (Nat.le_of_ble_eq_true rfl) (Nat.le_of_ble_eq_true rfl) dX12_done_155
  · refine tj_caseI (fun hc3 => ?_) (fun hc3 => ?_)
    · refine tj_tin (tgt := 198) (k := 38) (off := 197) dX12_done_1 hc3 (by decide) (by decide) (by decide) (by decide) ?_
      refine tj_iload_n (q := 199) dX12_done_198 rfl (i := 1) rfl (pl := 1) rfl ?_
      refine tj_bnd (fun k5 => ∀ (j4 : Bool), Tj l D cA h0 ad RX12 cX12_done 3 (some .int) false 3 0 0 (fun b => (some (.int b), sh, P, σ)) 0 0 sh P σ 211 [] [.int (b2i j4)] (k5 j4)) ?_ (fun k5 hk6 => ?_)
      · intro j4
        refine tj_callIp (q := 214) (kj_S (As := [.int (b2i j4)]) (rest := []) wi_RX12_337 (rX12_truth j4) rfl (Nat.le_of_ble_eq_true rfl) ⟨Nat.le_of_ble_eq_true rfl, Nat.le_of_ble_eq_true rfl⟩ (Nat.le_of_ble_eq_true rfl) dX12_done_211) rfl (fun r7 => ?_)
        exact tj_iret rfl rfl (Nat.le_of_ble_eq_true rfl) (Nat.le_of_ble_eq_true rfl) dX12_done_214
      · refine tj_bnd (fun k8 => Tj l D cA h0 ad RX12 cX12_done 3 (some .int) false 3 0 0 (fun b => (some (.int b), sh, P, σ)) 0 0 sh P σ 210 [] [] k8) ?_ (fun k8 hk9 => ?_)
        · refine tj_iconst (q := 211) (v := 0) dX12_done_210 rfl (by decide) ?_
          exact hk6 false
        · refine tj_if_eq (tgt := 210) (q := 202) dX12_done_199 (by decide) rfl ?_ ?_
          · refine tj_lv [] rfl ?_
            exact hk9
          · refine tj_iload_n (q := 203) dX12_done_202 rfl (i := 2) rfl (pl := 2) rfl ?_
            refine tj_if_eq (tgt := 210) (q := 206) dX12_done_203 (by decide) rfl ?_ ?_
            · refine tj_lv [] rfl ?_
              exact hk9
            · refine tj_iconst (q := 207) (v := 1) dX12_done_206 rfl (by decide) ?_
              refine tj_goto (q := 211) dX12_done_207 (by decide) ?_
              refine tj_lv [] rfl ?_
              exact hk6 true
    · refine tj_caseI (fun hc10 => ?_) (fun hc10 => ?_)
      · refine tj_tin (tgt := 128) (k := 42) (off := 127) dX12_done_1 hc10 (by decide) (by decide) (by decide) (by decide) ?_
        refine tj_iload_n (q := 129) dX12_done_128 rfl (i := 1) rfl (pl := 1) rfl ?_
        refine tj_iload_n (q := 130) dX12_done_129 rfl (i := 2) rfl (pl := 2) rfl ?_
        refine tj_imul (q := 131) dX12_done_130 rfl ?_
        exact tj_iret rfl rfl (Nat.le_of_ble_eq_true rfl) (Nat.le_of_ble_eq_true rfl) dX12_done_131
      · refine tj_caseI (fun hc11 => ?_) (fun hc11 => ?_)
        · refine tj_tin (tgt := 120) (k := 43) (off := 119) dX12_done_1 hc11 (by decide) (by decide) (by decide) (by decide) ?_
          refine tj_iload_n (q := 121) dX12_done_120 rfl (i := 1) rfl (pl := 1) rfl ?_
          refine tj_iload_n (q := 122) dX12_done_121 rfl (i := 2) rfl (pl := 2) rfl ?_
          refine tj_iadd (q := 123) dX12_done_122 rfl ?_
          exact tj_iret rfl rfl (Nat.le_of_ble_eq_true rfl) (Nat.le_of_ble_eq_true rfl) dX12_done_123
        · refine tj_caseI (fun hc12 => ?_) (fun hc12 => ?_)
          · refine tj_tin (tgt := 124) (k := 45) (off := 123) dX12_done_1 hc12 (by decide) (by decide) (by decide) (by decide) ?_
            refine tj_iload_n (q := 125) dX12_done_124 rfl (i := 1) rfl (pl := 1) rfl ?_
            refine tj_iload_n (q := 126) dX12_done_125 rfl (i := 2) rfl (pl := 2) rfl ?_
            refine tj_isub (q := 127) dX12_done_126 rfl ?_
            exact tj_iret rfl rfl (Nat.le_of_ble_eq_true rfl) (Nat.le_of_ble_eq_true rfl) dX12_done_127
          · refine tj_caseI (fun hc13 => ?_) (fun hc13 => ?_)
            · refine tj_tin (tgt := 132) (k := 47) (off := 131) dX12_done_1 hc13 (by decide) (by decide) (by decide) (by decide) ?_
              refine tj_iload_n (q := 133) dX12_done_132 rfl (i := 2) rfl (pl := 2) rfl ?_
              refine tj_if_ne (tgt := 140) (q := 136) dX12_done_133 (by decide) rfl ?_ ?_
              · refine tj_iconst (q := 137) (v := 0) dX12_done_136 rfl (by decide) ?_
                refine tj_goto (q := 143) dX12_done_137 (by decide) ?_
                exact tj_iret rfl rfl (Nat.le_of_ble_eq_true rfl) (Nat.le_of_ble_eq_true rfl) dX12_done_143
              · refine tj_iload_n (q := 141) dX12_done_140 rfl (i := 1) rfl (pl := 1) rfl ?_
                refine tj_iload_n (q := 142) dX12_done_141 rfl (i := 2) rfl (pl := 2) rfl ?_
                refine tj_gne (y := p3) (fun hn14 => ?_)
                refine tj_idiv (q := 143) dX12_done_142 rfl hn14 ?_
                exact tj_iret rfl rfl (Nat.le_of_ble_eq_true rfl) (Nat.le_of_ble_eq_true rfl) dX12_done_143
            · refine tj_caseI (fun hc15 => ?_) (fun hc15 => ?_)
              · refine tj_tin (tgt := 156) (k := 60) (off := 155) dX12_done_1 hc15 (by decide) (by decide) (by decide) (by decide) ?_
                refine tj_iload_n (q := 157) dX12_done_156 rfl (i := 1) rfl (pl := 1) rfl ?_
                refine tj_iload_n (q := 158) dX12_done_157 rfl (i := 2) rfl (pl := 2) rfl ?_
                refine tj_bnd (fun k17 => ∀ (j16 : Bool), Tj l D cA h0 ad RX12 cX12_done 3 (some .int) false 3 0 0 (fun b => (some (.int b), sh, P, σ)) 0 0 sh P σ 166 [] [.int (b2i j16)] (k17 j16)) ?_ (fun k17 hk18 => ?_)
                · intro j16
                  refine tj_callIp (q := 169) (kj_S (As := [.int (b2i j16)]) (rest := []) wi_RX12_337 (rX12_truth j16) rfl (Nat.le_of_ble_eq_true rfl) ⟨Nat.le_of_ble_eq_true rfl, Nat.le_of_ble_eq_true rfl⟩ (Nat.le_of_ble_eq_true rfl) dX12_done_166) rfl (fun r19 => ?_)
                  exact tj_iret rfl rfl (Nat.le_of_ble_eq_true rfl) (Nat.le_of_ble_eq_true rfl) dX12_done_169
                · refine tj_icmp_ge (tgt := 165) (q := 161) dX12_done_158 (by decide) rfl ?_ ?_
                  · refine tj_iconst (q := 166) (v := 0) dX12_done_165 rfl (by decide) ?_
                    refine tj_lv [] rfl ?_
                    exact hk18 false
                  · refine tj_iconst (q := 162) (v := 1) dX12_done_161 rfl (by decide) ?_
                    refine tj_goto (q := 166) dX12_done_162 (by decide) ?_
                    refine tj_lv [] rfl ?_
                    exact hk18 true
              · refine tj_caseI (fun hc20 => ?_) (fun hc20 => ?_)
                · refine tj_tin (tgt := 184) (k := 61) (off := 183) dX12_done_1 hc20 (by decide) (by decide) (by decide) (by decide) ?_
                  refine tj_iload_n (q := 185) dX12_done_184 rfl (i := 1) rfl (pl := 1) rfl ?_
                  refine tj_iload_n (q := 186) dX12_done_185 rfl (i := 2) rfl (pl := 2) rfl ?_
                  refine tj_bnd (fun k22 => ∀ (j21 : Bool), Tj l D cA h0 ad RX12 cX12_done 3 (some .int) false 3 0 0 (fun b => (some (.int b), sh, P, σ)) 0 0 sh P σ 194 [] [.int (b2i j21)] (k22 j21)) ?_ (fun k22 hk23 => ?_)
                  · intro j21
                    refine tj_callIp (q := 197) (kj_S (As := [.int (b2i j21)]) (rest := []) wi_RX12_337 (rX12_truth j21) rfl (Nat.le_of_ble_eq_true rfl) ⟨Nat.le_of_ble_eq_true rfl, Nat.le_of_ble_eq_true rfl⟩ (Nat.le_of_ble_eq_true rfl) dX12_done_194) rfl (fun r24 => ?_)
                    exact tj_iret rfl rfl (Nat.le_of_ble_eq_true rfl) (Nat.le_of_ble_eq_true rfl) dX12_done_197
                  · refine tj_icmp_ne (tgt := 193) (q := 189) dX12_done_186 (by decide) rfl ?_ ?_
                    · refine tj_iconst (q := 190) (v := 1) dX12_done_189 rfl (by decide) ?_
                      refine tj_goto (q := 194) dX12_done_190 (by decide) ?_
                      refine tj_lv [] rfl ?_
                      exact hk23 true
                    · refine tj_iconst (q := 194) (v := 0) dX12_done_193 rfl (by decide) ?_
                      refine tj_lv [] rfl ?_
                      exact hk23 false
                · refine tj_caseI (fun hc25 => ?_) (fun hc25 => ?_)
                  · refine tj_tin (tgt := 170) (k := 62) (off := 169) dX12_done_1 hc25 (by decide) (by decide) (by decide) (by decide) ?_
                    refine tj_iload_n (q := 171) dX12_done_170 rfl (i := 1) rfl (pl := 1) rfl ?_
                    refine tj_iload_n (q := 172) dX12_done_171 rfl (i := 2) rfl (pl := 2) rfl ?_
                    refine tj_bnd (fun k27 => ∀ (j26 : Bool), Tj l D cA h0 ad RX12 cX12_done 3 (some .int) false 3 0 0 (fun b => (some (.int b), sh, P, σ)) 0 0 sh P σ 180 [] [.int (b2i j26)] (k27 j26)) ?_ (fun k27 hk28 => ?_)
                    · intro j26
                      refine tj_callIp (q := 183) (kj_S (As := [.int (b2i j26)]) (rest := []) wi_RX12_337 (rX12_truth j26) rfl (Nat.le_of_ble_eq_true rfl) ⟨Nat.le_of_ble_eq_true rfl, Nat.le_of_ble_eq_true rfl⟩ (Nat.le_of_ble_eq_true rfl) dX12_done_180) rfl (fun r29 => ?_)
                      exact tj_iret rfl rfl (Nat.le_of_ble_eq_true rfl) (Nat.le_of_ble_eq_true rfl) dX12_done_183
                    · refine tj_icmp_le (tgt := 179) (q := 175) dX12_done_172 (by decide) rfl ?_ ?_
                      · refine tj_iconst (q := 180) (v := 0) dX12_done_179 rfl (by decide) ?_
                        refine tj_lv [] rfl ?_
                        exact hk28 false
                      · refine tj_iconst (q := 176) (v := 1) dX12_done_175 rfl (by decide) ?_
                        refine tj_goto (q := 180) dX12_done_176 (by decide) ?_
                        refine tj_lv [] rfl ?_
                        exact hk28 true
                  · refine tj_dflt (tgt := 215) ?_ (fun hD36 => ?_)
                    · refine tj_iload_n (q := 216) dX12_done_215 rfl (i := 1) rfl (pl := 1) rfl ?_
                      refine tj_bnd (fun k31 => ∀ (j30 : Bool), Tj l D cA h0 ad RX12 cX12_done 3 (some .int) false 3 0 0 (fun b => (some (.int b), sh, P, σ)) 0 0 sh P σ 228 [] [.int (b2i j30)] (k31 j30)) ?_ (fun k31 hk32 => ?_)
                      · intro j30
                        refine tj_callIp (q := 231) (kj_S (As := [.int (b2i j30)]) (rest := []) wi_RX12_337 (rX12_truth j30) rfl (Nat.le_of_ble_eq_true rfl) ⟨Nat.le_of_ble_eq_true rfl, Nat.le_of_ble_eq_true rfl⟩ (Nat.le_of_ble_eq_true rfl) dX12_done_228) rfl (fun r33 => ?_)
                        exact tj_iret rfl rfl (Nat.le_of_ble_eq_true rfl) (Nat.le_of_ble_eq_true rfl) dX12_done_231
                      · refine tj_bnd (fun k34 => Tj l D cA h0 ad RX12 cX12_done 3 (some .int) false 3 0 0 (fun b => (some (.int b), sh, P, σ)) 0 0 sh P σ 223 [] [] k34) ?_ (fun k34 hk35 => ?_)
                        · refine tj_iconst (q := 224) (v := 1) dX12_done_223 rfl (by decide) ?_
                          refine tj_goto (q := 228) dX12_done_224 (by decide) ?_
                          exact hk32 true
                        · refine tj_if_ne (tgt := 223) (q := 219) dX12_done_216 (by decide) rfl ?_ ?_
                          · refine tj_iload_n (q := 220) dX12_done_219 rfl (i := 2) rfl (pl := 2) rfl ?_
                            refine tj_if_eq (tgt := 227) (q := 223) dX12_done_220 (by decide) rfl ?_ ?_
                            · refine tj_iconst (q := 228) (v := 0) dX12_done_227 rfl (by decide) ?_
                              refine tj_lv [] rfl ?_
                              exact hk32 false
                            · refine tj_lv [] rfl ?_
                              exact hk35
                          · refine tj_lv [] rfl ?_
                            exact hk35
                    · refine tj_byI p1 39 (fun hc37 => tj_tin (tgt := 215) (k := 39) (off := 214) dX12_done_1 hc37 (by decide) (by decide) (by decide) (by decide) hD36) (fun hc37 => ?_)
                      refine tj_byI p1 40 (fun hc38 => tj_tin (tgt := 215) (k := 40) (off := 214) dX12_done_1 hc38 (by decide) (by decide) (by decide) (by decide) hD36) (fun hc38 => ?_)
                      refine tj_byI p1 41 (fun hc39 => tj_tin (tgt := 215) (k := 41) (off := 214) dX12_done_1 hc39 (by decide) (by decide) (by decide) (by decide) hD36) (fun hc39 => ?_)
                      refine tj_byI p1 44 (fun hc40 => tj_tin (tgt := 215) (k := 44) (off := 214) dX12_done_1 hc40 (by decide) (by decide) (by decide) (by decide) hD36) (fun hc40 => ?_)
                      refine tj_byI p1 46 (fun hc41 => tj_tin (tgt := 215) (k := 46) (off := 214) dX12_done_1 hc41 (by decide) (by decide) (by decide) (by decide) hD36) (fun hc41 => ?_)
                      refine tj_byI p1 48 (fun hc42 => tj_tin (tgt := 215) (k := 48) (off := 214) dX12_done_1 hc42 (by decide) (by decide) (by decide) (by decide) hD36) (fun hc42 => ?_)
                      refine tj_byI p1 49 (fun hc43 => tj_tin (tgt := 215) (k := 49) (off := 214) dX12_done_1 hc43 (by decide) (by decide) (by decide) (by decide) hD36) (fun hc43 => ?_)
                      refine tj_byI p1 50 (fun hc44 => tj_tin (tgt := 215) (k := 50) (off := 214) dX12_done_1 hc44 (by decide) (by decide) (by decide) (by decide) hD36) (fun hc44 => ?_)
                      refine tj_byI p1 51 (fun hc45 => tj_tin (tgt := 215) (k := 51) (off := 214) dX12_done_1 hc45 (by decide) (by decide) (by decide) (by decide) hD36) (fun hc45 => ?_)
                      refine tj_byI p1 52 (fun hc46 => tj_tin (tgt := 215) (k := 52) (off := 214) dX12_done_1 hc46 (by decide) (by decide) (by decide) (by decide) hD36) (fun hc46 => ?_)
                      refine tj_byI p1 53 (fun hc47 => tj_tin (tgt := 215) (k := 53) (off := 214) dX12_done_1 hc47 (by decide) (by decide) (by decide) (by decide) hD36) (fun hc47 => ?_)
                      refine tj_byI p1 54 (fun hc48 => tj_tin (tgt := 215) (k := 54) (off := 214) dX12_done_1 hc48 (by decide) (by decide) (by decide) (by decide) hD36) (fun hc48 => ?_)
                      refine tj_byI p1 55 (fun hc49 => tj_tin (tgt := 215) (k := 55) (off := 214) dX12_done_1 hc49 (by decide) (by decide) (by decide) (by decide) hD36) (fun hc49 => ?_)
                      refine tj_byI p1 56 (fun hc50 => tj_tin (tgt := 215) (k := 56) (off := 214) dX12_done_1 hc50 (by decide) (by decide) (by decide) (by decide) hD36) (fun hc50 => ?_)
                      refine tj_byI p1 57 (fun hc51 => tj_tin (tgt := 215) (k := 57) (off := 214) dX12_done_1 hc51 (by decide) (by decide) (by decide) (by decide) hD36) (fun hc51 => ?_)
                      refine tj_byI p1 58 (fun hc52 => tj_tin (tgt := 215) (k := 58) (off := 214) dX12_done_1 hc52 (by decide) (by decide) (by decide) (by decide) hD36) (fun hc52 => ?_)
                      refine tj_byI p1 59 (fun hc53 => tj_tin (tgt := 215) (k := 59) (off := 214) dX12_done_1 hc53 (by decide) (by decide) (by decide) (by decide) hD36) (fun hc53 => ?_)
                      exact tj_tout (tgt := 215) dX12_done_1 (by have e0 := lv_neT (a := 37) hc1 (by decide); have e1 := lv_neT (a := 38) hc3 (by decide); have e2 := lv_neT (a := 42) hc10 (by decide); have e3 := lv_neT (a := 43) hc11 (by decide); have e4 := lv_neT (a := 45) hc12 (by decide); have e5 := lv_neT (a := 47) hc13 (by decide); have e6 := lv_neT (a := 60) hc15 (by decide); have e7 := lv_neT (a := 61) hc20 (by decide); have e8 := lv_neT (a := 62) hc25 (by decide); have e9 := lv_neT (a := 39) hc37 (by decide); have e10 := lv_neT (a := 40) hc38 (by decide); have e11 := lv_neT (a := 41) hc39 (by decide); have e12 := lv_neT (a := 44) hc40 (by decide); have e13 := lv_neT (a := 46) hc41 (by decide); have e14 := lv_neT (a := 48) hc42 (by decide); have e15 := lv_neT (a := 49) hc43 (by decide); have e16 := lv_neT (a := 50) hc44 (by decide); have e17 := lv_neT (a := 51) hc45 (by decide); have e18 := lv_neT (a := 52) hc46 (by decide); have e19 := lv_neT (a := 53) hc47 (by decide); have e20 := lv_neT (a := 54) hc48 (by decide); have e21 := lv_neT (a := 55) hc49 (by decide); have e22 := lv_neT (a := 56) hc50 (by decide); have e23 := lv_neT (a := 57) hc51 (by decide); have e24 := lv_neT (a := 58) hc52 (by decide); have e25 := lv_neT (a := 59) hc53 (by decide); omega) (by decide) hD36

theorem dX12_worked_0 : decode cX12_worked 0 = .ok (.iconst 0, 1) := by decide +kernel
theorem dX12_worked_1 : decode cX12_worked 1 = .ok (.istore_n 1, 1) := by decide +kernel
theorem dX12_worked_2 : decode cX12_worked 2 = .ok (.iconst 0, 1) := by decide +kernel
theorem dX12_worked_3 : decode cX12_worked 3 = .ok (.istore_n 2, 1) := by decide +kernel
theorem dX12_worked_4 : decode cX12_worked 4 = .ok (.iload_n 2, 1) := by decide +kernel
theorem dX12_worked_5 : decode cX12_worked 5 = .ok (.aload_n 0, 1) := by decide +kernel
theorem dX12_worked_6 : decode cX12_worked 6 = .ok (.getfield 341, 3) := by decide +kernel
theorem dX12_worked_9 : decode cX12_worked 9 = .ok (.if_icmp .ge 143, 3) := by decide +kernel
theorem dX12_worked_12 : decode cX12_worked 12 = .ok (.aload_n 0, 1) := by decide +kernel
theorem dX12_worked_13 : decode cX12_worked 13 = .ok (.getfield 30, 3) := by decide +kernel
theorem dX12_worked_16 : decode cX12_worked 16 = .ok (.iload_n 2, 1) := by decide +kernel
theorem dX12_worked_17 : decode cX12_worked 17 = .ok (.iaload, 1) := by decide +kernel
theorem dX12_worked_18 : decode cX12_worked 18 = .ok (.ifCond .eq 13, 3) := by decide +kernel
theorem dX12_worked_21 : decode cX12_worked 21 = .ok (.aload_n 0, 1) := by decide +kernel
theorem dX12_worked_22 : decode cX12_worked 22 = .ok (.getfield 30, 3) := by decide +kernel
theorem dX12_worked_25 : decode cX12_worked 25 = .ok (.iload_n 2, 1) := by decide +kernel
theorem dX12_worked_26 : decode cX12_worked 26 = .ok (.iaload, 1) := by decide +kernel
theorem dX12_worked_27 : decode cX12_worked 27 = .ok (.iconst 1, 1) := by decide +kernel
theorem dX12_worked_28 : decode cX12_worked 28 = .ok (.if_icmp .ne 44, 3) := by decide +kernel
theorem dX12_worked_31 : decode cX12_worked 31 = .ok (.aload_n 0, 1) := by decide +kernel
theorem dX12_worked_32 : decode cX12_worked 32 = .ok (.getfield 39, 3) := by decide +kernel
theorem dX12_worked_35 : decode cX12_worked 35 = .ok (.iload_n 1, 1) := by decide +kernel
theorem dX12_worked_36 : decode cX12_worked 36 = .ok (.aload_n 0, 1) := by decide +kernel
theorem dX12_worked_37 : decode cX12_worked 37 = .ok (.getfield 30, 3) := by decide +kernel
theorem dX12_worked_40 : decode cX12_worked 40 = .ok (.iload_n 2, 1) := by decide +kernel
theorem dX12_worked_41 : decode cX12_worked 41 = .ok (.iaload, 1) := by decide +kernel
theorem dX12_worked_42 : decode cX12_worked 42 = .ok (.ifCond .ne 12, 3) := by decide +kernel
theorem dX12_worked_45 : decode cX12_worked 45 = .ok (.aload_n 0, 1) := by decide +kernel
theorem dX12_worked_46 : decode cX12_worked 46 = .ok (.getfield 33, 3) := by decide +kernel
theorem dX12_worked_49 : decode cX12_worked 49 = .ok (.iload_n 2, 1) := by decide +kernel
theorem dX12_worked_50 : decode cX12_worked 50 = .ok (.iaload, 1) := by decide +kernel
theorem dX12_worked_51 : decode cX12_worked 51 = .ok (.goto 14, 3) := by decide +kernel
theorem dX12_worked_54 : decode cX12_worked 54 = .ok (.aload_n 0, 1) := by decide +kernel
theorem dX12_worked_55 : decode cX12_worked 55 = .ok (.getfield 42, 3) := by decide +kernel
theorem dX12_worked_58 : decode cX12_worked 58 = .ok (.aload_n 0, 1) := by decide +kernel
theorem dX12_worked_59 : decode cX12_worked 59 = .ok (.getfield 33, 3) := by decide +kernel
theorem dX12_worked_62 : decode cX12_worked 62 = .ok (.iload_n 2, 1) := by decide +kernel
theorem dX12_worked_63 : decode cX12_worked 63 = .ok (.iaload, 1) := by decide +kernel
theorem dX12_worked_64 : decode cX12_worked 64 = .ok (.iaload, 1) := by decide +kernel
theorem dX12_worked_65 : decode cX12_worked 65 = .ok (.iastore, 1) := by decide +kernel
theorem dX12_worked_66 : decode cX12_worked 66 = .ok (.iinc 1 1, 3) := by decide +kernel
theorem dX12_worked_69 : decode cX12_worked 69 = .ok (.goto 77, 3) := by decide +kernel
theorem dX12_worked_72 : decode cX12_worked 72 = .ok (.aload_n 0, 1) := by decide +kernel
theorem dX12_worked_73 : decode cX12_worked 73 = .ok (.getfield 30, 3) := by decide +kernel
theorem dX12_worked_76 : decode cX12_worked 76 = .ok (.iload_n 2, 1) := by decide +kernel
theorem dX12_worked_77 : decode cX12_worked 77 = .ok (.iaload, 1) := by decide +kernel
theorem dX12_worked_78 : decode cX12_worked 78 = .ok (.iconst 2, 1) := by decide +kernel
theorem dX12_worked_79 : decode cX12_worked 79 = .ok (.if_icmp .ne 33, 3) := by decide +kernel
theorem dX12_worked_82 : decode cX12_worked 82 = .ok (.aload_n 0, 1) := by decide +kernel
theorem dX12_worked_83 : decode cX12_worked 83 = .ok (.getfield 39, 3) := by decide +kernel
theorem dX12_worked_86 : decode cX12_worked 86 = .ok (.iload_n 1, 1) := by decide +kernel
theorem dX12_worked_87 : decode cX12_worked 87 = .ok (.iconst 1, 1) := by decide +kernel
theorem dX12_worked_88 : decode cX12_worked 88 = .ok (.isub, 1) := by decide +kernel
theorem dX12_worked_89 : decode cX12_worked 89 = .ok (.aload_n 0, 1) := by decide +kernel
theorem dX12_worked_90 : decode cX12_worked 90 = .ok (.getfield 39, 3) := by decide +kernel
theorem dX12_worked_93 : decode cX12_worked 93 = .ok (.iload_n 1, 1) := by decide +kernel
theorem dX12_worked_94 : decode cX12_worked 94 = .ok (.iconst 1, 1) := by decide +kernel
theorem dX12_worked_95 : decode cX12_worked 95 = .ok (.isub, 1) := by decide +kernel
theorem dX12_worked_96 : decode cX12_worked 96 = .ok (.iaload, 1) := by decide +kernel
theorem dX12_worked_97 : decode cX12_worked 97 = .ok (.ifCond .ne 7, 3) := by decide +kernel
theorem dX12_worked_100 : decode cX12_worked 100 = .ok (.iconst 1, 1) := by decide +kernel
theorem dX12_worked_101 : decode cX12_worked 101 = .ok (.goto 4, 3) := by decide +kernel
theorem dX12_worked_104 : decode cX12_worked 104 = .ok (.iconst 0, 1) := by decide +kernel
theorem dX12_worked_105 : decode cX12_worked 105 = .ok (.invokestatic 337, 3) := by decide +kernel
theorem dX12_worked_108 : decode cX12_worked 108 = .ok (.iastore, 1) := by decide +kernel
theorem dX12_worked_109 : decode cX12_worked 109 = .ok (.goto 37, 3) := by decide +kernel
theorem dX12_worked_112 : decode cX12_worked 112 = .ok (.iinc 1 (-1), 3) := by decide +kernel
theorem dX12_worked_115 : decode cX12_worked 115 = .ok (.aload_n 0, 1) := by decide +kernel
theorem dX12_worked_116 : decode cX12_worked 116 = .ok (.getfield 39, 3) := by decide +kernel
theorem dX12_worked_119 : decode cX12_worked 119 = .ok (.iload_n 1, 1) := by decide +kernel
theorem dX12_worked_120 : decode cX12_worked 120 = .ok (.iconst 1, 1) := by decide +kernel
theorem dX12_worked_121 : decode cX12_worked 121 = .ok (.isub, 1) := by decide +kernel
theorem dX12_worked_122 : decode cX12_worked 122 = .ok (.aload_n 0, 1) := by decide +kernel
theorem dX12_worked_123 : decode cX12_worked 123 = .ok (.getfield 33, 3) := by decide +kernel
theorem dX12_worked_126 : decode cX12_worked 126 = .ok (.iload_n 2, 1) := by decide +kernel
theorem dX12_worked_127 : decode cX12_worked 127 = .ok (.iaload, 1) := by decide +kernel
theorem dX12_worked_128 : decode cX12_worked 128 = .ok (.aload_n 0, 1) := by decide +kernel
theorem dX12_worked_129 : decode cX12_worked 129 = .ok (.getfield 39, 3) := by decide +kernel
theorem dX12_worked_132 : decode cX12_worked 132 = .ok (.iload_n 1, 1) := by decide +kernel
theorem dX12_worked_133 : decode cX12_worked 133 = .ok (.iconst 1, 1) := by decide +kernel
theorem dX12_worked_134 : decode cX12_worked 134 = .ok (.isub, 1) := by decide +kernel
theorem dX12_worked_135 : decode cX12_worked 135 = .ok (.iaload, 1) := by decide +kernel
theorem dX12_worked_136 : decode cX12_worked 136 = .ok (.aload_n 0, 1) := by decide +kernel
theorem dX12_worked_137 : decode cX12_worked 137 = .ok (.getfield 39, 3) := by decide +kernel
theorem dX12_worked_140 : decode cX12_worked 140 = .ok (.iload_n 1, 1) := by decide +kernel
theorem dX12_worked_141 : decode cX12_worked 141 = .ok (.iaload, 1) := by decide +kernel
theorem dX12_worked_142 : decode cX12_worked 142 = .ok (.invokestatic 344, 3) := by decide +kernel
theorem dX12_worked_145 : decode cX12_worked 145 = .ok (.iastore, 1) := by decide +kernel
theorem dX12_worked_146 : decode cX12_worked 146 = .ok (.iinc 2 1, 3) := by decide +kernel
theorem dX12_worked_149 : decode cX12_worked 149 = .ok (.goto (-145), 3) := by decide +kernel
theorem dX12_worked_152 : decode cX12_worked 152 = .ok (.aload_n 0, 1) := by decide +kernel
theorem dX12_worked_153 : decode cX12_worked 153 = .ok (.getfield 39, 3) := by decide +kernel
theorem dX12_worked_156 : decode cX12_worked 156 = .ok (.iconst 0, 1) := by decide +kernel
theorem dX12_worked_157 : decode cX12_worked 157 = .ok (.iaload, 1) := by decide +kernel
theorem dX12_worked_158 : decode cX12_worked 158 = .ok (.ireturn, 1) := by decide +kernel
theorem wl_RX12_341 : Cond.fieldLink RX12 341 (TX12 20).1 (TX12 20).2.1 (TX12 20).2.2.1 ∈ TB := tbm 1435 (by decide +kernel) (by decide +kernel)
theorem wl_RX12_30 : Cond.fieldLink RX12 30 (TX12 15).1 (TX12 15).2.1 (TX12 15).2.2.1 ∈ TB := tbm 1430 (by decide +kernel) (by decide +kernel)
theorem wl_RX12_39 : Cond.fieldLink RX12 39 (TX12 18).1 (TX12 18).2.1 (TX12 18).2.2.1 ∈ TB := tbm 1433 (by decide +kernel) (by decide +kernel)
theorem wl_RX12_33 : Cond.fieldLink RX12 33 (TX12 16).1 (TX12 16).2.1 (TX12 16).2.2.1 ∈ TB := tbm 1431 (by decide +kernel) (by decide +kernel)
theorem wl_RX12_42 : Cond.fieldLink RX12 42 (TX12 26).1 (TX12 26).2.1 (TX12 26).2.2.1 ∈ TB := tbm 1441 (by decide +kernel) (by decide +kernel)
theorem wm_X12_done : Cond.static yX12_done ∈ TB ∧ Cond.initialized yX12_done.cls ∈ TB ∧ Cond.code yX12_done cX12_done 3 (some .int) ∈ TB ∧ (yX12_done.cls ≠ "java/lang/invoke/MethodHandle" ∧ yX12_done.cls ≠ "java/lang/invoke/VarHandle" ∧ (parseMethodDescriptor yX12_done.desc).map (fun d => d.parameters.length) = some 3) ∧ 3 ≤ 21 := ⟨tbm 1983 (by decide +kernel) (by decide +kernel), tbm 146 (by decide +kernel) (by decide +kernel), tbm 1984 (by decide +kernel) (by decide +kernel), by decide +kernel, by decide⟩
theorem wi_RX12_344 : Is RX12 344 yX12_done cX12_done 3 (some .int) 3 := ⟨tbm 1982 (by decide +kernel) (by decide +kernel), wm_X12_done⟩
def mX12_worked_L4 (t : Nat) : Nat → Int32 → Int32 → St_ → Option (Int32 × St_)
  | 0, _, _, _ => none
  | n + 1, x1, x2, σ => (if (σ.1 t 20) ≤ x2 then
 (if bin (0 : Int32) 64 = true then bnd (σ.1 (t + 9) (0 : Int32).toNatClampNeg) fun v1 =>
 (some (v1, σ))
 else none)
 else (if bin x2 320 = true then bnd (σ.1 (t + 6) x2.toNatClampNeg) fun v2 =>
 (bnd (fun (j3 : Int32) (σ4 : St_) => (mX12_worked_L4 t n j3 (x2 + 1) σ4)) fun k5 =>
 (bnd (if bin x2 320 = true then bnd (σ.1 (t + 6) x2.toNatClampNeg) fun v9 =>
 (bnd (fun (j10 : Int32) => (if bin x1 64 = true then bnd (sI σ (t + 9) x1.toNatClampNeg j10) fun σ13 =>
 (k5 (x1 + 1) σ13)
 else none)) fun k11 =>
 (if v9 = 0 then
 (if bin x2 320 = true then bnd (σ.1 (t + 7) x2.toNatClampNeg) fun v14 =>
 (k11 v14)
 else none)
 else (if bin x2 320 = true then bnd (σ.1 (t + 7) x2.toNatClampNeg) fun v15 =>
 (if bin v15 7 = true then bnd (σ.1 (t + 10) v15.toNatClampNeg) fun v16 =>
 (k11 v16)
 else none)
 else none)))
 else none) fun k7 =>
 (if v2 = 0 then
 (k7)
 else (if bin x2 320 = true then bnd (σ.1 (t + 6) x2.toNatClampNeg) fun v17 =>
 (if v17 = (1 : Int32) then
 (k7)
 else (if bin x2 320 = true then bnd (σ.1 (t + 6) x2.toNatClampNeg) fun v18 =>
 (if v18 = (2 : Int32) then
 (bnd (x1 - (1 : Int32)) fun v19 =>
 (if bin v19 64 = true then bnd (σ.1 (t + 9) v19.toNatClampNeg) fun v20 =>
 (bnd (fun (j21 : Bool) => ((mX12_truth j21 σ).bind fun r24 =>
 (bnd (x1 - (1 : Int32)) fun v25 =>
 (if bin v25 64 = true then bnd (sI σ (t + 9) v25.toNatClampNeg r24) fun σ26 =>
 (k5 x1 σ26)
 else none)))) fun k22 =>
 (if v20 = 0 then
 (k22 true)
 else (k22 false)))
 else none))
 else (if bin x2 320 = true then bnd (σ.1 (t + 7) x2.toNatClampNeg) fun v27 =>
 (bnd ((x1 + (-1)) - (1 : Int32)) fun v28 =>
 (if bin v28 64 = true then bnd (σ.1 (t + 9) v28.toNatClampNeg) fun v29 =>
 (bnd (x1 + (-1)) fun v30 =>
 (if bin v30 64 = true then bnd (σ.1 (t + 9) v30.toNatClampNeg) fun v31 =>
 ((mX12_done v27 v29 v31 σ).bind fun r32 =>
 (bnd ((x1 + (-1)) - (1 : Int32)) fun v33 =>
 (if bin v33 64 = true then bnd (sI σ (t + 9) v33.toNatClampNeg r32) fun σ34 =>
 (k5 (x1 + (-1)) σ34)
 else none)))
 else none))
 else none))
 else none))
 else none))
 else none))))
 else none))
def mX12_worked (t : Nat) (σ : St_) : Option (Int32 × St_) :=
 (mX12_worked_L4 t FU (0 : Int32) (0 : Int32) σ)
set_option maxHeartbeats 4000000 in
theorem tmX12_worked_L4 (t : Nat) (hT : LY12 sh P t) : ∀ (n : Nat) (x1 : Int32) (x2 : Int32) (σ : St_), Tj l D cA h0 ad RX12 cX12_worked 3 (some .int) false 4 0 0 (fun b => (some (.int b.1), sh, P, b.2)) 0 0 sh P σ 4 [(0, .ref (h0 + t)), (1, .int x1), (2, .int x2)] [] (mX12_worked_L4 t n x1 x2 σ) := by
  intro n
  induction n with
  | zero => intros; exact tj_none
  | succ n ih =>
    intro x1 x2 σ
    rw [mX12_worked_L4]
    refine tj_iload_n (q := 5) dX12_worked_4 rfl (i := 2) rfl (pl := 2) rfl ?_
    refine tj_aload_n (q := 6) dX12_worked_5 rfl (i := 0) rfl (pl := 0) rfl ?_
    refine tj_getI (q := 9) (hT).s fok_12_20 wl_RX12_341 dX12_worked_6 rfl ?_
    refine tj_icmp_ge (tgt := 152) (q := 12) dX12_worked_9 (by decide) rfl ?_ ?_
    · refine tj_aload_n (q := 153) dX12_worked_152 rfl (i := 0) rfl (pl := 0) rfl ?_
      refine tj_getR (q := 156) (hT).s (hT).p_values fok_12_18 wl_RX12_39 dX12_worked_153 rfl ?_
      refine tj_iconst (q := 157) (v := 0) dX12_worked_156 rfl (by decide) ?_
      refine tj_iaload (q := 158) (hT).s_values dX12_worked_157 rfl ?_
      refine tj_topI (fun v1 => ?_)
      exact tj_iret rfl rfl (Nat.le_of_ble_eq_true rfl) (Nat.le_of_ble_eq_true rfl) dX12_worked_158
    · refine tj_aload_n (q := 13) dX12_worked_12 rfl (i := 0) rfl (pl := 0) rfl ?_
      refine tj_getR (q := 16) (hT).s (hT).p_step fok_12_15 wl_RX12_30 dX12_worked_13 rfl ?_
      refine tj_iload_n (q := 17) dX12_worked_16 rfl (i := 2) rfl (pl := 2) rfl ?_
      refine tj_iaload (q := 18) (hT).s_step dX12_worked_17 rfl ?_
      refine tj_topI (fun v2 => ?_)
      refine tj_bnd (fun k5 => ∀ (j3 : Int32) (σ4 : St_), Tj l D cA h0 ad RX12 cX12_worked 3 (some .int) false 4 0 0 (fun b => (some (.int b.1), sh, P, b.2)) 0 0 sh P σ4 146 [(0, .ref (h0 + t)), (1, .int j3), (2, .int x2)] [] (k5 j3 σ4)) ?_ (fun k5 hk6 => ?_)
      · intro j3 σ4
        refine tj_iinc (q := 149) (v := x2 + 1) dX12_worked_146 rfl (pl := 2) rfl rfl (by decide) rfl ?_
        refine tj_goto (q := 4) dX12_worked_149 (by decide) ?_
        refine tj_lv [1, 2, 0] rfl ?_
        exact ih j3 (x2 + 1) σ4
      · refine tj_bnd (fun k7 => Tj l D cA h0 ad RX12 cX12_worked 3 (some .int) false 4 0 0 (fun b => (some (.int b.1), sh, P, b.2)) 0 0 sh P σ 31 [(0, .ref (h0 + t)), (1, .int x1), (2, .int x2)] [] k7) ?_ (fun k7 hk8 => ?_)
        · refine tj_aload_n (q := 32) dX12_worked_31 rfl (i := 0) rfl (pl := 0) rfl ?_
          refine tj_getR (q := 35) (hT).s (hT).p_values fok_12_18 wl_RX12_39 dX12_worked_32 rfl ?_
          refine tj_iload_n (q := 36) dX12_worked_35 rfl (i := 1) rfl (pl := 1) rfl ?_
          refine tj_aload_n (q := 37) dX12_worked_36 rfl (i := 0) rfl (pl := 0) rfl ?_
          refine tj_getR (q := 40) (hT).s (hT).p_step fok_12_15 wl_RX12_30 dX12_worked_37 rfl ?_
          refine tj_iload_n (q := 41) dX12_worked_40 rfl (i := 2) rfl (pl := 2) rfl ?_
          refine tj_iaload (q := 42) (hT).s_step dX12_worked_41 rfl ?_
          refine tj_topI (fun v9 => ?_)
          refine tj_bnd (fun k11 => ∀ (j10 : Int32), Tj l D cA h0 ad RX12 cX12_worked 3 (some .int) false 4 0 0 (fun b => (some (.int b.1), sh, P, b.2)) 0 0 sh P σ 65 [(0, .ref (h0 + t)), (1, .int x1), (2, .int x2)] [.int j10, .int x1, .ref (h0 + (t + 9))] (k11 j10)) ?_ (fun k11 hk12 => ?_)
          · intro j10
            refine tj_iastore (q := 66) (hT).s_values dX12_worked_65 rfl (fun σ13 => ?_)
            refine tj_iinc (q := 69) (v := x1 + 1) dX12_worked_66 rfl (pl := 1) rfl rfl (by decide) rfl ?_
            refine tj_goto (q := 146) dX12_worked_69 (by decide) ?_
            refine tj_lv [1, 0, 2] rfl ?_
            exact hk6 (x1 + 1) σ13
          · refine tj_if_ne (tgt := 54) (q := 45) dX12_worked_42 (by decide) rfl ?_ ?_
            · refine tj_aload_n (q := 46) dX12_worked_45 rfl (i := 0) rfl (pl := 0) rfl ?_
              refine tj_getR (q := 49) (hT).s (hT).p_arg fok_12_16 wl_RX12_33 dX12_worked_46 rfl ?_
              refine tj_iload_n (q := 50) dX12_worked_49 rfl (i := 2) rfl (pl := 2) rfl ?_
              refine tj_iaload (q := 51) (hT).s_arg dX12_worked_50 rfl ?_
              refine tj_topI (fun v14 => ?_)
              refine tj_goto (q := 65) dX12_worked_51 (by decide) ?_
              exact hk12 v14
            · refine tj_aload_n (q := 55) dX12_worked_54 rfl (i := 0) rfl (pl := 0) rfl ?_
              refine tj_getR (q := 58) (hT).s (hT).p_asks fok_12_26 wl_RX12_42 dX12_worked_55 rfl ?_
              refine tj_aload_n (q := 59) dX12_worked_58 rfl (i := 0) rfl (pl := 0) rfl ?_
              refine tj_getR (q := 62) (hT).s (hT).p_arg fok_12_16 wl_RX12_33 dX12_worked_59 rfl ?_
              refine tj_iload_n (q := 63) dX12_worked_62 rfl (i := 2) rfl (pl := 2) rfl ?_
              refine tj_iaload (q := 64) (hT).s_arg dX12_worked_63 rfl ?_
              refine tj_topI (fun v15 => ?_)
              refine tj_iaload (q := 65) (hT).s_asks dX12_worked_64 rfl ?_
              refine tj_topI (fun v16 => ?_)
              exact hk12 v16
        · refine tj_if_eq (tgt := 31) (q := 21) dX12_worked_18 (by decide) rfl ?_ ?_
          · exact hk8
          · refine tj_aload_n (q := 22) dX12_worked_21 rfl (i := 0) rfl (pl := 0) rfl ?_
            refine tj_getR (q := 25) (hT).s (hT).p_step fok_12_15 wl_RX12_30 dX12_worked_22 rfl ?_
            refine tj_iload_n (q := 26) dX12_worked_25 rfl (i := 2) rfl (pl := 2) rfl ?_
            refine tj_iaload (q := 27) (hT).s_step dX12_worked_26 rfl ?_
            refine tj_topI (fun v17 => ?_)
            refine tj_iconst (q := 28) (v := 1) dX12_worked_27 rfl (by decide) ?_
            refine tj_icmp_ne (tgt := 72) (q := 31) dX12_worked_28 (by decide) rfl ?_ ?_
            · exact hk8
            · refine tj_aload_n (q := 73) dX12_worked_72 rfl (i := 0) rfl (pl := 0) rfl ?_
              refine tj_getR (q := 76) (hT).s (hT).p_step fok_12_15 wl_RX12_30 dX12_worked_73 rfl ?_
              refine tj_iload_n (q := 77) dX12_worked_76 rfl (i := 2) rfl (pl := 2) rfl ?_
              refine tj_iaload (q := 78) (hT).s_step dX12_worked_77 rfl ?_
              refine tj_topI (fun v18 => ?_)
              refine tj_iconst (q := 79) (v := 2) dX12_worked_78 rfl (by decide) ?_
              refine tj_icmp_ne (tgt := 112) (q := 82) dX12_worked_79 (by decide) rfl ?_ ?_
              · refine tj_aload_n (q := 83) dX12_worked_82 rfl (i := 0) rfl (pl := 0) rfl ?_
                refine tj_getR (q := 86) (hT).s (hT).p_values fok_12_18 wl_RX12_39 dX12_worked_83 rfl ?_
                refine tj_iload_n (q := 87) dX12_worked_86 rfl (i := 1) rfl (pl := 1) rfl ?_
                refine tj_iconst (q := 88) (v := 1) dX12_worked_87 rfl (by decide) ?_
                refine tj_isub (q := 89) dX12_worked_88 rfl ?_
                refine tj_aload_n (q := 90) dX12_worked_89 rfl (i := 0) rfl (pl := 0) rfl ?_
                refine tj_getR (q := 93) (hT).s (hT).p_values fok_12_18 wl_RX12_39 dX12_worked_90 rfl ?_
                refine tj_iload_n (q := 94) dX12_worked_93 rfl (i := 1) rfl (pl := 1) rfl ?_
                refine tj_iconst (q := 95) (v := 1) dX12_worked_94 rfl (by decide) ?_
                refine tj_isub (q := 96) dX12_worked_95 rfl ?_
                refine tj_topI (fun v19 => ?_)
                refine tj_iaload (q := 97) (hT).s_values dX12_worked_96 rfl ?_
                refine tj_topI (fun v20 => ?_)
                refine tj_bnd (fun k22 => ∀ (j21 : Bool), Tj l D cA h0 ad RX12 cX12_worked 3 (some .int) false 4 0 0 (fun b => (some (.int b.1), sh, P, b.2)) 0 0 sh P σ 105 [(0, .ref (h0 + t)), (1, .int x1), (2, .int x2)] [.int (b2i j21), .int (x1 - (1 : Int32)), .ref (h0 + (t + 9))] (k22 j21)) ?_ (fun k22 hk23 => ?_)
                · intro j21
                  refine tj_callIp (q := 108) (kj_S (As := [.int (b2i j21)]) (rest := [.int (x1 - (1 : Int32)), .ref (h0 + (t + 9))]) wi_RX12_337 (rX12_truth j21) rfl (Nat.le_of_ble_eq_true rfl) ⟨Nat.le_of_ble_eq_true rfl, Nat.le_of_ble_eq_true rfl⟩ (Nat.le_of_ble_eq_true rfl) dX12_worked_105) rfl (fun r24 => ?_)
                  refine tj_sndI (fun v25 => ?_)
                  refine tj_iastore (q := 109) (hT).s_values dX12_worked_108 rfl (fun σ26 => ?_)
                  refine tj_goto (q := 146) dX12_worked_109 (by decide) ?_
                  exact hk6 x1 σ26
                · refine tj_if_ne (tgt := 104) (q := 100) dX12_worked_97 (by decide) rfl ?_ ?_
                  · refine tj_iconst (q := 101) (v := 1) dX12_worked_100 rfl (by decide) ?_
                    refine tj_goto (q := 105) dX12_worked_101 (by decide) ?_
                    exact hk23 true
                  · refine tj_iconst (q := 105) (v := 0) dX12_worked_104 rfl (by decide) ?_
                    exact hk23 false
              · refine tj_iinc (q := 115) (v := x1 + (-1)) dX12_worked_112 rfl (pl := 1) rfl rfl (by decide) rfl ?_
                refine tj_aload_n (q := 116) dX12_worked_115 rfl (i := 0) rfl (pl := 1) rfl ?_
                refine tj_getR (q := 119) (hT).s (hT).p_values fok_12_18 wl_RX12_39 dX12_worked_116 rfl ?_
                refine tj_iload_n (q := 120) dX12_worked_119 rfl (i := 1) rfl (pl := 0) rfl ?_
                refine tj_iconst (q := 121) (v := 1) dX12_worked_120 rfl (by decide) ?_
                refine tj_isub (q := 122) dX12_worked_121 rfl ?_
                refine tj_aload_n (q := 123) dX12_worked_122 rfl (i := 0) rfl (pl := 1) rfl ?_
                refine tj_getR (q := 126) (hT).s (hT).p_arg fok_12_16 wl_RX12_33 dX12_worked_123 rfl ?_
                refine tj_iload_n (q := 127) dX12_worked_126 rfl (i := 2) rfl (pl := 2) rfl ?_
                refine tj_iaload (q := 128) (hT).s_arg dX12_worked_127 rfl ?_
                refine tj_topI (fun v27 => ?_)
                refine tj_aload_n (q := 129) dX12_worked_128 rfl (i := 0) rfl (pl := 1) rfl ?_
                refine tj_getR (q := 132) (hT).s (hT).p_values fok_12_18 wl_RX12_39 dX12_worked_129 rfl ?_
                refine tj_iload_n (q := 133) dX12_worked_132 rfl (i := 1) rfl (pl := 0) rfl ?_
                refine tj_iconst (q := 134) (v := 1) dX12_worked_133 rfl (by decide) ?_
                refine tj_isub (q := 135) dX12_worked_134 rfl ?_
                refine tj_topI (fun v28 => ?_)
                refine tj_iaload (q := 136) (hT).s_values dX12_worked_135 rfl ?_
                refine tj_topI (fun v29 => ?_)
                refine tj_aload_n (q := 137) dX12_worked_136 rfl (i := 0) rfl (pl := 1) rfl ?_
                refine tj_getR (q := 140) (hT).s (hT).p_values fok_12_18 wl_RX12_39 dX12_worked_137 rfl ?_
                refine tj_iload_n (q := 141) dX12_worked_140 rfl (i := 1) rfl (pl := 0) rfl ?_
                refine tj_topI (fun v30 => ?_)
                refine tj_iaload (q := 142) (hT).s_values dX12_worked_141 rfl ?_
                refine tj_topI (fun v31 => ?_)
                refine tj_callIp (q := 145) (kj_S (As := [.int v27, .int v29, .int v31]) (rest := [.int ((x1 + (-1)) - (1 : Int32)), .ref (h0 + (t + 9))]) wi_RX12_344 (rX12_done v27 v29 v31) rfl (Nat.le_of_ble_eq_true rfl) ⟨Nat.le_of_ble_eq_true rfl, Nat.le_of_ble_eq_true rfl⟩ (Nat.le_of_ble_eq_true rfl) dX12_worked_142) rfl (fun r32 => ?_)
                refine tj_sndI (fun v33 => ?_)
                refine tj_iastore (q := 146) (hT).s_values dX12_worked_145 rfl (fun σ34 => ?_)
                refine tj_lv [1, 0, 2] rfl ?_
                exact hk6 (x1 + (-1)) σ34

set_option maxHeartbeats 4000000 in
theorem rX12_worked (t : Nat) (hT : LY12 sh P t) : Rj l D cA h0 ad yX12_worked cX12_worked 3 (some .int) false 4 0 0 (fun b => (some (.int b.1), sh, P, b.2)) [.ref (h0 + t)] sh P σ (mX12_worked t σ) := by
  rw [mX12_worked]
  refine Rj.of (by decide) (fun h => by cases h) (Nat.le_of_ble_eq_true rfl) ?_
  refine tj_lv0 (lv' := [(0, .ref (h0 + t))]) rfl ?_
  refine tj_iconst (q := 1) (v := 0) dX12_worked_0 rfl (by decide) ?_
  refine tj_istore_n (q := 2) dX12_worked_1 rfl (i := 1) rfl (by decide) rfl ?_
  refine tj_iconst (q := 3) (v := 0) dX12_worked_2 rfl (by decide) ?_
  refine tj_istore_n (q := 4) dX12_worked_3 rfl (i := 2) rfl (by decide) rfl ?_
  refine tj_lv [2, 1, 0] rfl ?_
  exact tmX12_worked_L4 t hT FU (0 : Int32) (0 : Int32) σ

theorem dX12_readKind_0 : decode cX12_readKind 0 = .ok (.aload_n 0, 1) := by decide +kernel
theorem dX12_readKind_1 : decode cX12_readKind 1 = .ok (.iconst 0, 1) := by decide +kernel
theorem dX12_readKind_2 : decode cX12_readKind 2 = .ok (.aload_n 0, 1) := by decide +kernel
theorem dX12_readKind_3 : decode cX12_readKind 3 = .ok (.getfield 348, 3) := by decide +kernel
theorem dX12_readKind_6 : decode cX12_readKind 6 = .ok (.invokevirtual 351, 3) := by decide +kernel
theorem dX12_readKind_9 : decode cX12_readKind 9 = .ok (.aload_n 0, 1) := by decide +kernel
theorem dX12_readKind_10 : decode cX12_readKind 10 = .ok (.getfield 203, 3) := by decide +kernel
theorem dX12_readKind_13 : decode cX12_readKind 13 = .ok (.ifCond .ne 13, 3) := by decide +kernel
theorem dX12_readKind_16 : decode cX12_readKind 16 = .ok (.aload_n 0, 1) := by decide +kernel
theorem dX12_readKind_17 : decode cX12_readKind 17 = .ok (.dup, 1) := by decide +kernel
theorem dX12_readKind_18 : decode cX12_readKind 18 = .ok (.getfield 348, 3) := by decide +kernel
theorem dX12_readKind_21 : decode cX12_readKind 21 = .ok (.iconst 1, 1) := by decide +kernel
theorem dX12_readKind_22 : decode cX12_readKind 22 = .ok (.iadd, 1) := by decide +kernel
theorem dX12_readKind_23 : decode cX12_readKind 23 = .ok (.putfield 348, 3) := by decide +kernel
theorem dX12_readKind_26 : decode cX12_readKind 26 = .ok (.return_, 1) := by decide +kernel
theorem wl_RX12_348 : Cond.fieldLink RX12 348 (TX12 45).1 (TX12 45).2.1 (TX12 45).2.2.1 ∈ TB := tbm 1460 (by decide +kernel) (by decide +kernel)
theorem wm_X12_newName : Cond.instanceMethod yX12_newName ∈ TB ∧ Cond.selects yX12_newName.cls yX12_newName yX12_newName ∈ TB ∧ Cond.initialized yX12_newName.cls ∈ TB ∧ Cond.code yX12_newName cX12_newName 3 none ∈ TB ∧ (yX12_newName.cls ≠ "java/lang/invoke/MethodHandle" ∧ yX12_newName.cls ≠ "java/lang/invoke/VarHandle" ∧ (parseMethodDescriptor yX12_newName.desc).map (fun d => d.parameters.length) = some 2) ∧ 3 ≤ 21 := ⟨tbm 1758 (by decide +kernel) (by decide +kernel), tbm 66 (by decide +kernel) (by decide +kernel), tbm 146 (by decide +kernel) (by decide +kernel), tbm 1759 (by decide +kernel) (by decide +kernel), by decide +kernel, by decide⟩
theorem wi_RX12_351 : Iv RX12 351 yX12_newName cX12_newName 3 none 2 := ⟨tbm 1756 (by decide +kernel) (by decide +kernel), wm_X12_newName⟩
def mX12_readKind (t : Nat) (σ : St_) : Option St_ :=
 ((mX12_newName t (0 : Int32) (σ.1 t 45) σ).bind fun σ1 =>
 (if (σ1.1 t 2) = 0 then
 (bnd (sI σ1 t 45 ((σ1.1 t 45) + (1 : Int32))) fun σ2 =>
 (some σ2))
 else (some σ1)))
set_option maxHeartbeats 4000000 in
theorem rX12_readKind (t : Nat) (hT : LY12 sh P t) : Rj l D cA h0 ad yX12_readKind cX12_readKind 1 none false 5 0 0 (fun b => (none, sh, P, b)) [.ref (h0 + t)] sh P σ (mX12_readKind t σ) := by
  rw [mX12_readKind]
  refine Rj.of (by decide) (fun h => by cases h) (Nat.le_of_ble_eq_true rfl) ?_
  refine tj_lv0 (lv' := [(0, .ref (h0 + t))]) rfl ?_
  refine tj_aload_n (q := 1) dX12_readKind_0 rfl (i := 0) rfl (pl := 0) rfl ?_
  refine tj_iconst (q := 2) (v := 0) dX12_readKind_1 rfl (by decide) ?_
  refine tj_aload_n (q := 3) dX12_readKind_2 rfl (i := 0) rfl (pl := 0) rfl ?_
  refine tj_getI (q := 6) (hT).s fok_12_45 wl_RX12_348 dX12_readKind_3 rfl ?_
  refine tj_callV (q := 9) (kj_V (As := [.int (0 : Int32), .int (σ.1 t 45)]) (rest := []) (t := t) wi_RX12_351 (hT).s rfl (rX12_newName t (0 : Int32) (σ.1 t 45) (hT)) rfl (Nat.le_of_ble_eq_true rfl) ⟨Nat.le_of_ble_eq_true rfl, Nat.le_of_ble_eq_true rfl⟩ (Nat.le_of_ble_eq_true rfl) dX12_readKind_6) rfl (fun σ1 => ?_)
  refine tj_aload_n (q := 10) dX12_readKind_9 rfl (i := 0) rfl (pl := 0) rfl ?_
  refine tj_getI (q := 13) (hT).s fok_12_2 wl_RX12_203 dX12_readKind_10 rfl ?_
  refine tj_if_ne (tgt := 26) (q := 16) dX12_readKind_13 (by decide) rfl ?_ ?_
  · refine tj_aload_n (q := 17) dX12_readKind_16 rfl (i := 0) rfl (pl := 0) rfl ?_
    refine tj_dup (q := 18) dX12_readKind_17 rfl rfl ?_
    refine tj_getI (q := 21) (hT).s fok_12_45 wl_RX12_348 dX12_readKind_18 rfl ?_
    refine tj_iconst (q := 22) (v := 1) dX12_readKind_21 rfl (by decide) ?_
    refine tj_iadd (q := 23) dX12_readKind_22 rfl ?_
    refine tj_putI (q := 26) (hT).s fok_12_45 tok_12 fpk_12_45 wl_RX12_348 dX12_readKind_23 rfl (fun σ2 => ?_)
    exact tj_vret rfl rfl (Nat.le_of_ble_eq_true rfl) (Nat.le_of_ble_eq_true rfl) dX12_readKind_26
  · exact tj_vret rfl rfl (Nat.le_of_ble_eq_true rfl) (Nat.le_of_ble_eq_true rfl) dX12_readKind_26

theorem dX12_readThing_0 : decode cX12_readThing 0 = .ok (.aload_n 0, 1) := by decide +kernel
theorem dX12_readThing_1 : decode cX12_readThing 1 = .ok (.bipush 6, 2) := by decide +kernel
theorem dX12_readThing_3 : decode cX12_readThing 3 = .ok (.aload_n 0, 1) := by decide +kernel
theorem dX12_readThing_4 : decode cX12_readThing 4 = .ok (.getfield 354, 3) := by decide +kernel
theorem dX12_readThing_7 : decode cX12_readThing 7 = .ok (.invokevirtual 351, 3) := by decide +kernel
theorem dX12_readThing_10 : decode cX12_readThing 10 = .ok (.aload_n 0, 1) := by decide +kernel
theorem dX12_readThing_11 : decode cX12_readThing 11 = .ok (.ldc2_w 210, 3) := by decide +kernel
theorem dX12_readThing_14 : decode cX12_readThing 14 = .ok (.invokevirtual 270, 3) := by decide +kernel
theorem dX12_readThing_17 : decode cX12_readThing 17 = .ok (.aload_n 0, 1) := by decide +kernel
theorem dX12_readThing_18 : decode cX12_readThing 18 = .ok (.getfield 354, 3) := by decide +kernel
theorem dX12_readThing_21 : decode cX12_readThing 21 = .ok (.istore_n 1, 1) := by decide +kernel
theorem dX12_readThing_22 : decode cX12_readThing 22 = .ok (.aload_n 0, 1) := by decide +kernel
theorem dX12_readThing_23 : decode cX12_readThing 23 = .ok (.getfield 45, 3) := by decide +kernel
theorem dX12_readThing_26 : decode cX12_readThing 26 = .ok (.iload_n 1, 1) := by decide +kernel
theorem dX12_readThing_27 : decode cX12_readThing 27 = .ok (.aload_n 0, 1) := by decide +kernel
theorem dX12_readThing_28 : decode cX12_readThing 28 = .ok (.iconst 0, 1) := by decide +kernel
theorem dX12_readThing_29 : decode cX12_readThing 29 = .ok (.aload_n 0, 1) := by decide +kernel
theorem dX12_readThing_30 : decode cX12_readThing 30 = .ok (.getfield 348, 3) := by decide +kernel
theorem dX12_readThing_33 : decode cX12_readThing 33 = .ok (.invokevirtual 357, 3) := by decide +kernel
theorem dX12_readThing_36 : decode cX12_readThing 36 = .ok (.iastore, 1) := by decide +kernel
theorem dX12_readThing_37 : decode cX12_readThing 37 = .ok (.aload_n 0, 1) := by decide +kernel
theorem dX12_readThing_38 : decode cX12_readThing 38 = .ok (.getfield 203, 3) := by decide +kernel
theorem dX12_readThing_41 : decode cX12_readThing 41 = .ok (.ifCond .ne 7, 3) := by decide +kernel
theorem dX12_readThing_44 : decode cX12_readThing 44 = .ok (.aload_n 0, 1) := by decide +kernel
theorem dX12_readThing_45 : decode cX12_readThing 45 = .ok (.invokevirtual 267, 3) := by decide +kernel
theorem dX12_readThing_48 : decode cX12_readThing 48 = .ok (.aload_n 0, 1) := by decide +kernel
theorem dX12_readThing_49 : decode cX12_readThing 49 = .ok (.getfield 48, 3) := by decide +kernel
theorem dX12_readThing_52 : decode cX12_readThing 52 = .ok (.iload_n 1, 1) := by decide +kernel
theorem dX12_readThing_53 : decode cX12_readThing 53 = .ok (.aload_n 0, 1) := by decide +kernel
theorem dX12_readThing_54 : decode cX12_readThing 54 = .ok (.ldc2_w 212, 3) := by decide +kernel
theorem dX12_readThing_57 : decode cX12_readThing 57 = .ok (.iconst 0, 1) := by decide +kernel
theorem dX12_readThing_58 : decode cX12_readThing 58 = .ok (.bipush 99, 2) := by decide +kernel
theorem dX12_readThing_60 : decode cX12_readThing 60 = .ok (.invokevirtual 360, 3) := by decide +kernel
theorem dX12_readThing_63 : decode cX12_readThing 63 = .ok (.iastore, 1) := by decide +kernel
theorem dX12_readThing_64 : decode cX12_readThing 64 = .ok (.aload_n 0, 1) := by decide +kernel
theorem dX12_readThing_65 : decode cX12_readThing 65 = .ok (.getfield 51, 3) := by decide +kernel
theorem dX12_readThing_68 : decode cX12_readThing 68 = .ok (.iload_n 1, 1) := by decide +kernel
theorem dX12_readThing_69 : decode cX12_readThing 69 = .ok (.aload_n 0, 1) := by decide +kernel
theorem dX12_readThing_70 : decode cX12_readThing 70 = .ok (.ldc2_w 214, 3) := by decide +kernel
theorem dX12_readThing_73 : decode cX12_readThing 73 = .ok (.iconst 0, 1) := by decide +kernel
theorem dX12_readThing_74 : decode cX12_readThing 74 = .ok (.bipush 99, 2) := by decide +kernel
theorem dX12_readThing_76 : decode cX12_readThing 76 = .ok (.invokevirtual 360, 3) := by decide +kernel
theorem dX12_readThing_79 : decode cX12_readThing 79 = .ok (.iastore, 1) := by decide +kernel
theorem dX12_readThing_80 : decode cX12_readThing 80 = .ok (.aload_n 0, 1) := by decide +kernel
theorem dX12_readThing_81 : decode cX12_readThing 81 = .ok (.getfield 54, 3) := by decide +kernel
theorem dX12_readThing_84 : decode cX12_readThing 84 = .ok (.iload_n 1, 1) := by decide +kernel
theorem dX12_readThing_85 : decode cX12_readThing 85 = .ok (.iconst (-1), 1) := by decide +kernel
theorem dX12_readThing_86 : decode cX12_readThing 86 = .ok (.iastore, 1) := by decide +kernel
theorem dX12_readThing_87 : decode cX12_readThing 87 = .ok (.iconst 0, 1) := by decide +kernel
theorem dX12_readThing_88 : decode cX12_readThing 88 = .ok (.istore_n 2, 1) := by decide +kernel
theorem dX12_readThing_89 : decode cX12_readThing 89 = .ok (.iload_n 2, 1) := by decide +kernel
theorem dX12_readThing_90 : decode cX12_readThing 90 = .ok (.bipush 9, 2) := by decide +kernel
theorem dX12_readThing_92 : decode cX12_readThing 92 = .ok (.if_icmp .ge 21, 3) := by decide +kernel
theorem dX12_readThing_95 : decode cX12_readThing 95 = .ok (.aload_n 0, 1) := by decide +kernel
theorem dX12_readThing_96 : decode cX12_readThing 96 = .ok (.getfield 69, 3) := by decide +kernel
theorem dX12_readThing_99 : decode cX12_readThing 99 = .ok (.bipush 9, 2) := by decide +kernel
theorem dX12_readThing_101 : decode cX12_readThing 101 = .ok (.iload_n 1, 1) := by decide +kernel
theorem dX12_readThing_102 : decode cX12_readThing 102 = .ok (.imul, 1) := by decide +kernel
theorem dX12_readThing_103 : decode cX12_readThing 103 = .ok (.iload_n 2, 1) := by decide +kernel
theorem dX12_readThing_104 : decode cX12_readThing 104 = .ok (.iadd, 1) := by decide +kernel
theorem dX12_readThing_105 : decode cX12_readThing 105 = .ok (.iconst (-1), 1) := by decide +kernel
theorem dX12_readThing_106 : decode cX12_readThing 106 = .ok (.iastore, 1) := by decide +kernel
theorem dX12_readThing_107 : decode cX12_readThing 107 = .ok (.iinc 2 1, 3) := by decide +kernel
theorem dX12_readThing_110 : decode cX12_readThing 110 = .ok (.goto (-21), 3) := by decide +kernel
theorem dX12_readThing_113 : decode cX12_readThing 113 = .ok (.aload_n 0, 1) := by decide +kernel
theorem dX12_readThing_114 : decode cX12_readThing 114 = .ok (.getfield 203, 3) := by decide +kernel
theorem dX12_readThing_117 : decode cX12_readThing 117 = .ok (.ifCond .ne 13, 3) := by decide +kernel
theorem dX12_readThing_120 : decode cX12_readThing 120 = .ok (.aload_n 0, 1) := by decide +kernel
theorem dX12_readThing_121 : decode cX12_readThing 121 = .ok (.dup, 1) := by decide +kernel
theorem dX12_readThing_122 : decode cX12_readThing 122 = .ok (.getfield 354, 3) := by decide +kernel
theorem dX12_readThing_125 : decode cX12_readThing 125 = .ok (.iconst 1, 1) := by decide +kernel
theorem dX12_readThing_126 : decode cX12_readThing 126 = .ok (.iadd, 1) := by decide +kernel
theorem dX12_readThing_127 : decode cX12_readThing 127 = .ok (.putfield 354, 3) := by decide +kernel
theorem dX12_readThing_130 : decode cX12_readThing 130 = .ok (.return_, 1) := by decide +kernel
theorem wl_RX12_354 : Cond.fieldLink RX12 354 (TX12 46).1 (TX12 46).2.1 (TX12 46).2.2.1 ∈ TB := tbm 1461 (by decide +kernel) (by decide +kernel)
theorem wl_RX12_45 : Cond.fieldLink RX12 45 (TX12 27).1 (TX12 27).2.1 (TX12 27).2.2.1 ∈ TB := tbm 1442 (by decide +kernel) (by decide +kernel)
theorem wm_X12_oldName : Cond.instanceMethod yX12_oldName ∈ TB ∧ Cond.selects yX12_oldName.cls yX12_oldName yX12_oldName ∈ TB ∧ Cond.initialized yX12_oldName.cls ∈ TB ∧ Cond.code yX12_oldName cX12_oldName 3 (some .int) ∈ TB ∧ (yX12_oldName.cls ≠ "java/lang/invoke/MethodHandle" ∧ yX12_oldName.cls ≠ "java/lang/invoke/VarHandle" ∧ (parseMethodDescriptor yX12_oldName.desc).map (fun d => d.parameters.length) = some 2) ∧ 3 ≤ 21 := ⟨tbm 1801 (by decide +kernel) (by decide +kernel), tbm 71 (by decide +kernel) (by decide +kernel), tbm 146 (by decide +kernel) (by decide +kernel), tbm 1802 (by decide +kernel) (by decide +kernel), by decide +kernel, by decide⟩
theorem wi_RX12_357 : Iv RX12 357 yX12_oldName cX12_oldName 3 (some .int) 2 := ⟨tbm 1799 (by decide +kernel) (by decide +kernel), wm_X12_oldName⟩
theorem wl_RX12_48 : Cond.fieldLink RX12 48 (TX12 28).1 (TX12 28).2.1 (TX12 28).2.2.1 ∈ TB := tbm 1443 (by decide +kernel) (by decide +kernel)
theorem wm_X12_told : Cond.instanceMethod yX12_told ∈ TB ∧ Cond.selects yX12_told.cls yX12_told yX12_told ∈ TB ∧ Cond.initialized yX12_told.cls ∈ TB ∧ Cond.code yX12_told cX12_told 5 (some .int) ∈ TB ∧ (yX12_told.cls ≠ "java/lang/invoke/MethodHandle" ∧ yX12_told.cls ≠ "java/lang/invoke/VarHandle" ∧ (parseMethodDescriptor yX12_told.desc).map (fun d => d.parameters.length) = some 3) ∧ 5 ≤ 21 := ⟨tbm 1737 (by decide +kernel) (by decide +kernel), tbm 61 (by decide +kernel) (by decide +kernel), tbm 146 (by decide +kernel) (by decide +kernel), tbm 1738 (by decide +kernel) (by decide +kernel), by decide +kernel, by decide⟩
theorem wi_RX12_360 : Iv RX12 360 yX12_told cX12_told 5 (some .int) 3 := ⟨tbm 1735 (by decide +kernel) (by decide +kernel), wm_X12_told⟩
theorem wl_RX12_51 : Cond.fieldLink RX12 51 (TX12 29).1 (TX12 29).2.1 (TX12 29).2.2.1 ∈ TB := tbm 1444 (by decide +kernel) (by decide +kernel)
theorem wl_RX12_54 : Cond.fieldLink RX12 54 (TX12 30).1 (TX12 30).2.1 (TX12 30).2.2.1 ∈ TB := tbm 1445 (by decide +kernel) (by decide +kernel)
theorem wl_RX12_69 : Cond.fieldLink RX12 69 (TX12 35).1 (TX12 35).2.1 (TX12 35).2.2.1 ∈ TB := tbm 1450 (by decide +kernel) (by decide +kernel)
def mX12_readThing_L89 (t : Nat) (x1 : Int32) (k113 : St_ → Option St_) : Nat → Int32 → St_ → Option St_
  | 0, _, _ => none
  | n + 1, x2, σ => (if (9 : Int32) ≤ x2 then
 (k113 σ)
 else (bnd (((9 : Int32) * x1) + x2) fun v14 =>
 (if bin v14 90 = true then bnd (sI σ (t + 19) v14.toNatClampNeg (-1 : Int32)) fun σ15 =>
 (mX12_readThing_L89 t x1 k113 n (x2 + 1) σ15)
 else none)))
def mX12_readThing (t : Nat) (σ : St_) : Option St_ :=
 ((mX12_newName t (6 : Int32) (σ.1 t 46) σ).bind fun σ1 =>
 ((mX12_want t (28518 : Int64) σ1).bind fun σ2 =>
 (bnd (σ2.1 t 46) fun v3 =>
 ((mX12_oldName t (0 : Int32) (σ2.1 t 45) σ2).bind fun r4 =>
 (if bin v3 10 = true then bnd (sI r4.2 (t + 11) v3.toNatClampNeg r4.1) fun σ5 =>
 (bnd (fun (σ6 : St_) => ((mX12_told t (131277443786868 : Int64) (0 : Int32) (99 : Int32) σ6).bind fun r9 =>
 (if bin v3 10 = true then bnd (sI r9.2 (t + 12) v3.toNatClampNeg r9.1) fun σ10 =>
 ((mX12_told t (512970880104 : Int64) (0 : Int32) (99 : Int32) σ10).bind fun r11 =>
 (if bin v3 10 = true then bnd (sI r11.2 (t + 13) v3.toNatClampNeg r11.1) fun σ12 =>
 (if bin v3 10 = true then bnd (sI σ12 (t + 14) v3.toNatClampNeg (-1 : Int32)) fun σ13 =>
 (mX12_readThing_L89 t v3
 (fun (σ16 : St_) => (if (σ16.1 t 2) = 0 then
 (bnd (sI σ16 t 46 ((σ16.1 t 46) + (1 : Int32))) fun σ17 =>
 (some σ17))
 else (some σ16))) FU (0 : Int32) σ13)
 else none)
 else none))
 else none))) fun k7 =>
 (if (σ5.1 t 2) = 0 then
 ((mX12_token t σ5).bind fun σ18 =>
 (k7 σ18))
 else (k7 σ5)))
 else none)))))
set_option maxHeartbeats 4000000 in
theorem tmX12_readThing_L89 (t : Nat) (hT : LY12 sh P t) (x1 : Int32) (k113 : St_ → Option St_) (hk113 : ∀ (σ1 : St_), Tj l D cA h0 ad RX12 cX12_readThing 3 none false 6 0 0 (fun b => (none, sh, P, b)) 0 0 sh P σ1 113 [(0, .ref (h0 + t))] [] (k113 σ1)) : ∀ (n : Nat) (x2 : Int32) (σ : St_), Tj l D cA h0 ad RX12 cX12_readThing 3 none false 6 0 0 (fun b => (none, sh, P, b)) 0 0 sh P σ 89 [(0, .ref (h0 + t)), (1, .int x1), (2, .int x2)] [] (mX12_readThing_L89 t x1 k113 n x2 σ) := by
  intro n
  induction n with
  | zero => intros; exact tj_none
  | succ n ih =>
    intro x2 σ
    rw [mX12_readThing_L89]
    refine tj_iload_n (q := 90) dX12_readThing_89 rfl (i := 2) rfl (pl := 2) rfl ?_
    refine tj_bipush (q := 92) (v := 9) dX12_readThing_90 rfl (by decide) ?_
    refine tj_icmp_ge (tgt := 113) (q := 95) dX12_readThing_92 (by decide) rfl ?_ ?_
    · refine tj_lv [0] rfl ?_
      exact hk113 σ
    · refine tj_aload_n (q := 96) dX12_readThing_95 rfl (i := 0) rfl (pl := 0) rfl ?_
      refine tj_getR (q := 99) (hT).s (hT).p_nDear fok_12_35 wl_RX12_69 dX12_readThing_96 rfl ?_
      refine tj_bipush (q := 101) (v := 9) dX12_readThing_99 rfl (by decide) ?_
      refine tj_iload_n (q := 102) dX12_readThing_101 rfl (i := 1) rfl (pl := 1) rfl ?_
      refine tj_imul (q := 103) dX12_readThing_102 rfl ?_
      refine tj_iload_n (q := 104) dX12_readThing_103 rfl (i := 2) rfl (pl := 2) rfl ?_
      refine tj_iadd (q := 105) dX12_readThing_104 rfl ?_
      refine tj_iconst (q := 106) (v := (-1)) dX12_readThing_105 rfl (by decide) ?_
      refine tj_sndI (fun v14 => ?_)
      refine tj_iastore (q := 107) (hT).s_nDear dX12_readThing_106 rfl (fun σ15 => ?_)
      refine tj_iinc (q := 110) (v := x2 + 1) dX12_readThing_107 rfl (pl := 2) rfl rfl (by decide) rfl ?_
      refine tj_goto (q := 89) dX12_readThing_110 (by decide) ?_
      refine tj_lv [1, 2, 0] rfl ?_
      exact ih (x2 + 1) σ15

set_option maxHeartbeats 4000000 in
theorem rX12_readThing (t : Nat) (hT : LY12 sh P t) : Rj l D cA h0 ad yX12_readThing cX12_readThing 3 none false 6 0 0 (fun b => (none, sh, P, b)) [.ref (h0 + t)] sh P σ (mX12_readThing t σ) := by
  rw [mX12_readThing]
  refine Rj.of (by decide) (fun h => by cases h) (Nat.le_of_ble_eq_true rfl) ?_
  refine tj_lv0 (lv' := [(0, .ref (h0 + t))]) rfl ?_
  refine tj_aload_n (q := 1) dX12_readThing_0 rfl (i := 0) rfl (pl := 0) rfl ?_
  refine tj_bipush (q := 3) (v := 6) dX12_readThing_1 rfl (by decide) ?_
  refine tj_aload_n (q := 4) dX12_readThing_3 rfl (i := 0) rfl (pl := 0) rfl ?_
  refine tj_getI (q := 7) (hT).s fok_12_46 wl_RX12_354 dX12_readThing_4 rfl ?_
  refine tj_callV (q := 10) (kj_V (As := [.int (6 : Int32), .int (σ.1 t 46)]) (rest := []) (t := t) wi_RX12_351 (hT).s rfl (rX12_newName t (6 : Int32) (σ.1 t 46) (hT)) rfl (Nat.le_of_ble_eq_true rfl) ⟨Nat.le_of_ble_eq_true rfl, Nat.le_of_ble_eq_true rfl⟩ (Nat.le_of_ble_eq_true rfl) dX12_readThing_7) rfl (fun σ1 => ?_)
  refine tj_aload_n (q := 11) dX12_readThing_10 rfl (i := 0) rfl (pl := 0) rfl ?_
  refine tj_ldc2 (q := 14) (v := 28518) dX12_readThing_11 rfl wc_RX12_210 ?_
  refine tj_callV (q := 17) (kj_V (As := [.long (28518 : Int64)]) (rest := []) (t := t) wi_RX12_270 (hT).s rfl (rX12_want t (28518 : Int64) (hT)) rfl (Nat.le_of_ble_eq_true rfl) ⟨Nat.le_of_ble_eq_true rfl, Nat.le_of_ble_eq_true rfl⟩ (Nat.le_of_ble_eq_true rfl) dX12_readThing_14) rfl (fun σ2 => ?_)
  refine tj_aload_n (q := 18) dX12_readThing_17 rfl (i := 0) rfl (pl := 0) rfl ?_
  refine tj_getI (q := 21) (hT).s fok_12_46 wl_RX12_354 dX12_readThing_18 rfl ?_
  refine tj_topI (fun v3 => ?_)
  refine tj_istore_n (q := 22) dX12_readThing_21 rfl (i := 1) rfl (by decide) rfl ?_
  refine tj_aload_n (q := 23) dX12_readThing_22 rfl (i := 0) rfl (pl := 1) rfl ?_
  refine tj_getR (q := 26) (hT).s (hT).p_nKindOf fok_12_27 wl_RX12_45 dX12_readThing_23 rfl ?_
  refine tj_iload_n (q := 27) dX12_readThing_26 rfl (i := 1) rfl (pl := 0) rfl ?_
  refine tj_aload_n (q := 28) dX12_readThing_27 rfl (i := 0) rfl (pl := 1) rfl ?_
  refine tj_iconst (q := 29) (v := 0) dX12_readThing_28 rfl (by decide) ?_
  refine tj_aload_n (q := 30) dX12_readThing_29 rfl (i := 0) rfl (pl := 1) rfl ?_
  refine tj_getI (q := 33) (hT).s fok_12_45 wl_RX12_348 dX12_readThing_30 rfl ?_
  refine tj_callI (q := 36) (kj_V (As := [.int (0 : Int32), .int (σ2.1 t 45)]) (rest := [.int v3, .ref (h0 + (t + 11))]) (t := t) wi_RX12_357 (hT).s rfl (rX12_oldName t (0 : Int32) (σ2.1 t 45) (hT)) rfl (Nat.le_of_ble_eq_true rfl) ⟨Nat.le_of_ble_eq_true rfl, Nat.le_of_ble_eq_true rfl⟩ (Nat.le_of_ble_eq_true rfl) dX12_readThing_33) rfl (fun r4 => ?_)
  refine tj_iastore (q := 37) (hT).s_nKindOf dX12_readThing_36 rfl (fun σ5 => ?_)
  refine tj_aload_n (q := 38) dX12_readThing_37 rfl (i := 0) rfl (pl := 1) rfl ?_
  refine tj_getI (q := 41) (hT).s fok_12_2 wl_RX12_203 dX12_readThing_38 rfl ?_
  refine tj_bnd (fun k7 => ∀ (σ6 : St_), Tj l D cA h0 ad RX12 cX12_readThing 3 none false 6 0 0 (fun b => (none, sh, P, b)) 0 0 sh P σ6 48 [(0, .ref (h0 + t)), (1, .int v3)] [] (k7 σ6)) ?_ (fun k7 hk8 => ?_)
  · intro σ6
    refine tj_aload_n (q := 49) dX12_readThing_48 rfl (i := 0) rfl (pl := 0) rfl ?_
    refine tj_getR (q := 52) (hT).s (hT).p_nWeight fok_12_28 wl_RX12_48 dX12_readThing_49 rfl ?_
    refine tj_iload_n (q := 53) dX12_readThing_52 rfl (i := 1) rfl (pl := 1) rfl ?_
    refine tj_aload_n (q := 54) dX12_readThing_53 rfl (i := 0) rfl (pl := 0) rfl ?_
    refine tj_ldc2 (q := 57) (v := 131277443786868) dX12_readThing_54 rfl wc_RX12_212 ?_
    refine tj_iconst (q := 58) (v := 0) dX12_readThing_57 rfl (by decide) ?_
    refine tj_bipush (q := 60) (v := 99) dX12_readThing_58 rfl (by decide) ?_
    refine tj_callI (q := 63) (kj_V (As := [.long (131277443786868 : Int64), .int (0 : Int32), .int (99 : Int32)]) (rest := [.int v3, .ref (h0 + (t + 12))]) (t := t) wi_RX12_360 (hT).s rfl (rX12_told t (131277443786868 : Int64) (0 : Int32) (99 : Int32) (hT)) rfl (Nat.le_of_ble_eq_true rfl) ⟨Nat.le_of_ble_eq_true rfl, Nat.le_of_ble_eq_true rfl⟩ (Nat.le_of_ble_eq_true rfl) dX12_readThing_60) rfl (fun r9 => ?_)
    refine tj_iastore (q := 64) (hT).s_nWeight dX12_readThing_63 rfl (fun σ10 => ?_)
    refine tj_aload_n (q := 65) dX12_readThing_64 rfl (i := 0) rfl (pl := 0) rfl ?_
    refine tj_getR (q := 68) (hT).s (hT).p_nWorth fok_12_29 wl_RX12_51 dX12_readThing_65 rfl ?_
    refine tj_iload_n (q := 69) dX12_readThing_68 rfl (i := 1) rfl (pl := 1) rfl ?_
    refine tj_aload_n (q := 70) dX12_readThing_69 rfl (i := 0) rfl (pl := 0) rfl ?_
    refine tj_ldc2 (q := 73) (v := 512970880104) dX12_readThing_70 rfl wc_RX12_214 ?_
    refine tj_iconst (q := 74) (v := 0) dX12_readThing_73 rfl (by decide) ?_
    refine tj_bipush (q := 76) (v := 99) dX12_readThing_74 rfl (by decide) ?_
    refine tj_callI (q := 79) (kj_V (As := [.long (512970880104 : Int64), .int (0 : Int32), .int (99 : Int32)]) (rest := [.int v3, .ref (h0 + (t + 13))]) (t := t) wi_RX12_360 (hT).s rfl (rX12_told t (512970880104 : Int64) (0 : Int32) (99 : Int32) (hT)) rfl (Nat.le_of_ble_eq_true rfl) ⟨Nat.le_of_ble_eq_true rfl, Nat.le_of_ble_eq_true rfl⟩ (Nat.le_of_ble_eq_true rfl) dX12_readThing_76) rfl (fun r11 => ?_)
    refine tj_iastore (q := 80) (hT).s_nWorth dX12_readThing_79 rfl (fun σ12 => ?_)
    refine tj_aload_n (q := 81) dX12_readThing_80 rfl (i := 0) rfl (pl := 0) rfl ?_
    refine tj_getR (q := 84) (hT).s (hT).p_nAt fok_12_30 wl_RX12_54 dX12_readThing_81 rfl ?_
    refine tj_iload_n (q := 85) dX12_readThing_84 rfl (i := 1) rfl (pl := 1) rfl ?_
    refine tj_iconst (q := 86) (v := (-1)) dX12_readThing_85 rfl (by decide) ?_
    refine tj_iastore (q := 87) (hT).s_nAt dX12_readThing_86 rfl (fun σ13 => ?_)
    refine tj_iconst (q := 88) (v := 0) dX12_readThing_87 rfl (by decide) ?_
    refine tj_istore_n (q := 89) dX12_readThing_88 rfl (i := 2) rfl (by decide) rfl ?_
    refine tj_lv [1, 2, 0] rfl ?_
    refine tmX12_readThing_L89 t hT v3 _ ?_ FU (0 : Int32) σ13
    · intro σ16
      refine tj_aload_n (q := 114) dX12_readThing_113 rfl (i := 0) rfl (pl := 0) rfl ?_
      refine tj_getI (q := 117) (hT).s fok_12_2 wl_RX12_203 dX12_readThing_114 rfl ?_
      refine tj_if_ne (tgt := 130) (q := 120) dX12_readThing_117 (by decide) rfl ?_ ?_
      · refine tj_aload_n (q := 121) dX12_readThing_120 rfl (i := 0) rfl (pl := 0) rfl ?_
        refine tj_dup (q := 122) dX12_readThing_121 rfl rfl ?_
        refine tj_getI (q := 125) (hT).s fok_12_46 wl_RX12_354 dX12_readThing_122 rfl ?_
        refine tj_iconst (q := 126) (v := 1) dX12_readThing_125 rfl (by decide) ?_
        refine tj_iadd (q := 127) dX12_readThing_126 rfl ?_
        refine tj_putI (q := 130) (hT).s fok_12_46 tok_12 fpk_12_46 wl_RX12_354 dX12_readThing_127 rfl (fun σ17 => ?_)
        exact tj_vret rfl rfl (Nat.le_of_ble_eq_true rfl) (Nat.le_of_ble_eq_true rfl) dX12_readThing_130
      · exact tj_vret rfl rfl (Nat.le_of_ble_eq_true rfl) (Nat.le_of_ble_eq_true rfl) dX12_readThing_130
  · refine tj_if_ne (tgt := 48) (q := 44) dX12_readThing_41 (by decide) rfl ?_ ?_
    · refine tj_aload_n (q := 45) dX12_readThing_44 rfl (i := 0) rfl (pl := 1) rfl ?_
      refine tj_callV (q := 48) (kj_V (As := []) (rest := []) (t := t) wi_RX12_267 (hT).s rfl (rX12_token t (hT)) rfl (Nat.le_of_ble_eq_true rfl) ⟨Nat.le_of_ble_eq_true rfl, Nat.le_of_ble_eq_true rfl⟩ (Nat.le_of_ble_eq_true rfl) dX12_readThing_45) rfl (fun σ18 => ?_)
      refine tj_lv [1, 0] rfl ?_
      exact hk8 σ18
    · refine tj_lv [1, 0] rfl ?_
      exact hk8 σ5

theorem dX12_readHas_0 : decode cX12_readHas 0 = .ok (.aload_n 0, 1) := by decide +kernel
theorem dX12_readHas_1 : decode cX12_readHas 1 = .ok (.getfield 203, 3) := by decide +kernel
theorem dX12_readHas_4 : decode cX12_readHas 4 = .ok (.ifCond .ne 72, 3) := by decide +kernel
theorem dX12_readHas_7 : decode cX12_readHas 7 = .ok (.aload_n 0, 1) := by decide +kernel
theorem dX12_readHas_8 : decode cX12_readHas 8 = .ok (.ldc2_w 222, 3) := by decide +kernel
theorem dX12_readHas_11 : decode cX12_readHas 11 = .ok (.invokevirtual 260, 3) := by decide +kernel
theorem dX12_readHas_14 : decode cX12_readHas 14 = .ok (.ifCond .eq 62, 3) := by decide +kernel
theorem dX12_readHas_17 : decode cX12_readHas 17 = .ok (.aload_n 0, 1) := by decide +kernel
theorem dX12_readHas_18 : decode cX12_readHas 18 = .ok (.invokevirtual 267, 3) := by decide +kernel
theorem dX12_readHas_21 : decode cX12_readHas 21 = .ok (.aload_n 0, 1) := by decide +kernel
theorem dX12_readHas_22 : decode cX12_readHas 22 = .ok (.bipush 6, 2) := by decide +kernel
theorem dX12_readHas_24 : decode cX12_readHas 24 = .ok (.aload_n 0, 1) := by decide +kernel
theorem dX12_readHas_25 : decode cX12_readHas 25 = .ok (.getfield 354, 3) := by decide +kernel
theorem dX12_readHas_28 : decode cX12_readHas 28 = .ok (.invokevirtual 357, 3) := by decide +kernel
theorem dX12_readHas_31 : decode cX12_readHas 31 = .ok (.istore_n 2, 1) := by decide +kernel
theorem dX12_readHas_32 : decode cX12_readHas 32 = .ok (.aload_n 0, 1) := by decide +kernel
theorem dX12_readHas_33 : decode cX12_readHas 33 = .ok (.getfield 203, 3) := by decide +kernel
theorem dX12_readHas_36 : decode cX12_readHas 36 = .ok (.ifCond .ne 18, 3) := by decide +kernel
theorem dX12_readHas_39 : decode cX12_readHas 39 = .ok (.aload_n 0, 1) := by decide +kernel
theorem dX12_readHas_40 : decode cX12_readHas 40 = .ok (.getfield 54, 3) := by decide +kernel
theorem dX12_readHas_43 : decode cX12_readHas 43 = .ok (.iload_n 2, 1) := by decide +kernel
theorem dX12_readHas_44 : decode cX12_readHas 44 = .ok (.iaload, 1) := by decide +kernel
theorem dX12_readHas_45 : decode cX12_readHas 45 = .ok (.iconst (-1), 1) := by decide +kernel
theorem dX12_readHas_46 : decode cX12_readHas 46 = .ok (.if_icmp .eq 8, 3) := by decide +kernel
theorem dX12_readHas_49 : decode cX12_readHas 49 = .ok (.aload_n 0, 1) := by decide +kernel
theorem dX12_readHas_50 : decode cX12_readHas 50 = .ok (.iconst 3, 1) := by decide +kernel
theorem dX12_readHas_51 : decode cX12_readHas 51 = .ok (.invokevirtual 264, 3) := by decide +kernel
theorem dX12_readHas_54 : decode cX12_readHas 54 = .ok (.aload_n 0, 1) := by decide +kernel
theorem dX12_readHas_55 : decode cX12_readHas 55 = .ok (.getfield 203, 3) := by decide +kernel
theorem dX12_readHas_58 : decode cX12_readHas 58 = .ok (.ifCond .le 4, 3) := by decide +kernel
theorem dX12_readHas_61 : decode cX12_readHas 61 = .ok (.return_, 1) := by decide +kernel
theorem dX12_readHas_62 : decode cX12_readHas 62 = .ok (.aload_n 0, 1) := by decide +kernel
theorem dX12_readHas_63 : decode cX12_readHas 63 = .ok (.getfield 54, 3) := by decide +kernel
theorem dX12_readHas_66 : decode cX12_readHas 66 = .ok (.iload_n 2, 1) := by decide +kernel
theorem dX12_readHas_67 : decode cX12_readHas 67 = .ok (.iload_n 1, 1) := by decide +kernel
theorem dX12_readHas_68 : decode cX12_readHas 68 = .ok (.iastore, 1) := by decide +kernel
theorem dX12_readHas_69 : decode cX12_readHas 69 = .ok (.aload_n 0, 1) := by decide +kernel
theorem dX12_readHas_70 : decode cX12_readHas 70 = .ok (.invokevirtual 267, 3) := by decide +kernel
theorem dX12_readHas_73 : decode cX12_readHas 73 = .ok (.goto (-73), 3) := by decide +kernel
theorem dX12_readHas_76 : decode cX12_readHas 76 = .ok (.return_, 1) := by decide +kernel
def mX12_readHas_L0 (t : Nat) (x1 : Int32) : Nat → St_ → Option St_
  | 0, _ => none
  | n + 1, σ => (if (σ.1 t 2) = 0 then
 ((mX12_isWord t (6840691 : Int64) σ).bind fun r1 =>
 (if r1 = true then
 ((mX12_token t σ).bind fun σ2 =>
 ((mX12_oldName t (6 : Int32) (σ2.1 t 46) σ2).bind fun r3 =>
 (bnd (fun (σ4 : St_) => (if (σ4.1 t 2) ≤ 0 then
 (if bin r3.1 10 = true then bnd (sI σ4 (t + 14) r3.1.toNatClampNeg x1) fun σ7 =>
 ((mX12_token t σ7).bind fun σ8 =>
 (mX12_readHas_L0 t x1 n σ8))
 else none)
 else (some σ4))) fun k5 =>
 (if (r3.2.1 t 2) = 0 then
 (if bin r3.1 10 = true then bnd (r3.2.1 (t + 14) r3.1.toNatClampNeg) fun v9 =>
 (if v9 = (-1 : Int32) then
 (k5 r3.2)
 else ((mX12_wrong t (3 : Int32) r3.2).bind fun σ10 =>
 (k5 σ10)))
 else none)
 else (k5 r3.2)))))
 else (some σ)))
 else (some σ))
def mX12_readHas (t : Nat) (p1 : Int32) (σ : St_) : Option St_ :=
 (mX12_readHas_L0 t p1 FU σ)
set_option maxHeartbeats 4000000 in
theorem tmX12_readHas_L0 (t : Nat) (hT : LY12 sh P t) (x1 : Int32) : ∀ (n : Nat) (σ : St_), Tj l D cA h0 ad RX12 cX12_readHas 3 none false 5 0 0 (fun b => (none, sh, P, b)) 0 0 sh P σ 0 [(0, .ref (h0 + t)), (1, .int x1)] [] (mX12_readHas_L0 t x1 n σ) := by
  intro n
  induction n with
  | zero => intros; exact tj_none
  | succ n ih =>
    intro σ
    rw [mX12_readHas_L0]
    refine tj_aload_n (q := 1) dX12_readHas_0 rfl (i := 0) rfl (pl := 0) rfl ?_
    refine tj_getI (q := 4) (hT).s fok_12_2 wl_RX12_203 dX12_readHas_1 rfl ?_
    refine tj_if_ne (tgt := 76) (q := 7) dX12_readHas_4 (by decide) rfl ?_ ?_
    · refine tj_aload_n (q := 8) dX12_readHas_7 rfl (i := 0) rfl (pl := 0) rfl ?_
      refine tj_ldc2 (q := 11) (v := 6840691) dX12_readHas_8 rfl wc_RX12_222 ?_
      refine tj_callZp (q := 14) (kj_V (As := [.long (6840691 : Int64)]) (rest := []) (t := t) wi_RX12_260 (hT).s rfl (rX12_isWord t (6840691 : Int64) (hT)) rfl (Nat.le_of_ble_eq_true rfl) ⟨Nat.le_of_ble_eq_true rfl, Nat.le_of_ble_eq_true rfl⟩ (Nat.le_of_ble_eq_true rfl) dX12_readHas_11) rfl (fun r1 => ?_)
      refine tj_bz (tgt := 76) (q := 17) dX12_readHas_14 (by decide) rfl ?_ ?_
      · refine tj_aload_n (q := 18) dX12_readHas_17 rfl (i := 0) rfl (pl := 0) rfl ?_
        refine tj_callV (q := 21) (kj_V (As := []) (rest := []) (t := t) wi_RX12_267 (hT).s rfl (rX12_token t (hT)) rfl (Nat.le_of_ble_eq_true rfl) ⟨Nat.le_of_ble_eq_true rfl, Nat.le_of_ble_eq_true rfl⟩ (Nat.le_of_ble_eq_true rfl) dX12_readHas_18) rfl (fun σ2 => ?_)
        refine tj_aload_n (q := 22) dX12_readHas_21 rfl (i := 0) rfl (pl := 0) rfl ?_
        refine tj_bipush (q := 24) (v := 6) dX12_readHas_22 rfl (by decide) ?_
        refine tj_aload_n (q := 25) dX12_readHas_24 rfl (i := 0) rfl (pl := 0) rfl ?_
        refine tj_getI (q := 28) (hT).s fok_12_46 wl_RX12_354 dX12_readHas_25 rfl ?_
        refine tj_callI (q := 31) (kj_V (As := [.int (6 : Int32), .int (σ2.1 t 46)]) (rest := []) (t := t) wi_RX12_357 (hT).s rfl (rX12_oldName t (6 : Int32) (σ2.1 t 46) (hT)) rfl (Nat.le_of_ble_eq_true rfl) ⟨Nat.le_of_ble_eq_true rfl, Nat.le_of_ble_eq_true rfl⟩ (Nat.le_of_ble_eq_true rfl) dX12_readHas_28) rfl (fun r3 => ?_)
        refine tj_istore_n (q := 32) dX12_readHas_31 rfl (i := 2) rfl (by decide) rfl ?_
        refine tj_aload_n (q := 33) dX12_readHas_32 rfl (i := 0) rfl (pl := 1) rfl ?_
        refine tj_getI (q := 36) (hT).s fok_12_2 wl_RX12_203 dX12_readHas_33 rfl ?_
        refine tj_bnd (fun k5 => ∀ (σ4 : St_), Tj l D cA h0 ad RX12 cX12_readHas 3 none false 5 0 0 (fun b => (none, sh, P, b)) 0 0 sh P σ4 54 [(0, .ref (h0 + t)), (1, .int x1), (2, .int r3.1)] [] (k5 σ4)) ?_ (fun k5 hk6 => ?_)
        · intro σ4
          refine tj_aload_n (q := 55) dX12_readHas_54 rfl (i := 0) rfl (pl := 0) rfl ?_
          refine tj_getI (q := 58) (hT).s fok_12_2 wl_RX12_203 dX12_readHas_55 rfl ?_
          refine tj_if_le (tgt := 62) (q := 61) dX12_readHas_58 (by decide) rfl ?_ ?_
          · refine tj_aload_n (q := 63) dX12_readHas_62 rfl (i := 0) rfl (pl := 0) rfl ?_
            refine tj_getR (q := 66) (hT).s (hT).p_nAt fok_12_30 wl_RX12_54 dX12_readHas_63 rfl ?_
            refine tj_iload_n (q := 67) dX12_readHas_66 rfl (i := 2) rfl (pl := 2) rfl ?_
            refine tj_iload_n (q := 68) dX12_readHas_67 rfl (i := 1) rfl (pl := 1) rfl ?_
            refine tj_iastore (q := 69) (hT).s_nAt dX12_readHas_68 rfl (fun σ7 => ?_)
            refine tj_aload_n (q := 70) dX12_readHas_69 rfl (i := 0) rfl (pl := 0) rfl ?_
            refine tj_callV (q := 73) (kj_V (As := []) (rest := []) (t := t) wi_RX12_267 (hT).s rfl (rX12_token t (hT)) rfl (Nat.le_of_ble_eq_true rfl) ⟨Nat.le_of_ble_eq_true rfl, Nat.le_of_ble_eq_true rfl⟩ (Nat.le_of_ble_eq_true rfl) dX12_readHas_70) rfl (fun σ8 => ?_)
            refine tj_goto (q := 0) dX12_readHas_73 (by decide) ?_
            refine tj_lv [0, 1] rfl ?_
            exact ih σ8
          · exact tj_vret rfl rfl (Nat.le_of_ble_eq_true rfl) (Nat.le_of_ble_eq_true rfl) dX12_readHas_61
        · refine tj_if_ne (tgt := 54) (q := 39) dX12_readHas_36 (by decide) rfl ?_ ?_
          · refine tj_aload_n (q := 40) dX12_readHas_39 rfl (i := 0) rfl (pl := 1) rfl ?_
            refine tj_getR (q := 43) (hT).s (hT).p_nAt fok_12_30 wl_RX12_54 dX12_readHas_40 rfl ?_
            refine tj_iload_n (q := 44) dX12_readHas_43 rfl (i := 2) rfl (pl := 0) rfl ?_
            refine tj_iaload (q := 45) (hT).s_nAt dX12_readHas_44 rfl ?_
            refine tj_topI (fun v9 => ?_)
            refine tj_iconst (q := 46) (v := (-1)) dX12_readHas_45 rfl (by decide) ?_
            refine tj_icmp_eq (tgt := 54) (q := 49) dX12_readHas_46 (by decide) rfl ?_ ?_
            · refine tj_lv [1, 2, 0] rfl ?_
              exact hk6 r3.2
            · refine tj_aload_n (q := 50) dX12_readHas_49 rfl (i := 0) rfl (pl := 1) rfl ?_
              refine tj_iconst (q := 51) (v := 3) dX12_readHas_50 rfl (by decide) ?_
              refine tj_callV (q := 54) (kj_V (As := [.int (3 : Int32)]) (rest := []) (t := t) wi_RX12_264 (hT).s rfl (rX12_wrong t (3 : Int32) (hT)) rfl (Nat.le_of_ble_eq_true rfl) ⟨Nat.le_of_ble_eq_true rfl, Nat.le_of_ble_eq_true rfl⟩ (Nat.le_of_ble_eq_true rfl) dX12_readHas_51) rfl (fun σ10 => ?_)
              refine tj_lv [1, 2, 0] rfl ?_
              exact hk6 σ10
          · refine tj_lv [1, 2, 0] rfl ?_
            exact hk6 r3.2
      · exact tj_vret rfl rfl (Nat.le_of_ble_eq_true rfl) (Nat.le_of_ble_eq_true rfl) dX12_readHas_76
    · exact tj_vret rfl rfl (Nat.le_of_ble_eq_true rfl) (Nat.le_of_ble_eq_true rfl) dX12_readHas_76

set_option maxHeartbeats 4000000 in
theorem rX12_readHas (t : Nat) (p1 : Int32) (hT : LY12 sh P t) : Rj l D cA h0 ad yX12_readHas cX12_readHas 3 none false 5 0 0 (fun b => (none, sh, P, b)) [.ref (h0 + t), .int p1] sh P σ (mX12_readHas t p1 σ) := by
  rw [mX12_readHas]
  refine Rj.of (by decide) (fun h => by cases h) (Nat.le_of_ble_eq_true rfl) ?_
  refine tj_lv0 (lv' := [(0, .ref (h0 + t)), (1, .int p1)]) rfl ?_
  exact tmX12_readHas_L0 t hT p1 FU σ

theorem dX12_readHouse_0 : decode cX12_readHouse 0 = .ok (.aload_n 0, 1) := by decide +kernel
theorem dX12_readHouse_1 : decode cX12_readHouse 1 = .ok (.bipush 16, 2) := by decide +kernel
theorem dX12_readHouse_3 : decode cX12_readHouse 3 = .ok (.aload_n 0, 1) := by decide +kernel
theorem dX12_readHouse_4 : decode cX12_readHouse 4 = .ok (.getfield 364, 3) := by decide +kernel
theorem dX12_readHouse_7 : decode cX12_readHouse 7 = .ok (.invokevirtual 351, 3) := by decide +kernel
theorem dX12_readHouse_10 : decode cX12_readHouse 10 = .ok (.aload_n 0, 1) := by decide +kernel
theorem dX12_readHouse_11 : decode cX12_readHouse 11 = .ok (.getfield 367, 3) := by decide +kernel
theorem dX12_readHouse_14 : decode cX12_readHouse 14 = .ok (.istore_n 1, 1) := by decide +kernel
theorem dX12_readHouse_15 : decode cX12_readHouse 15 = .ok (.aload_n 0, 1) := by decide +kernel
theorem dX12_readHouse_16 : decode cX12_readHouse 16 = .ok (.getfield 57, 3) := by decide +kernel
theorem dX12_readHouse_19 : decode cX12_readHouse 19 = .ok (.iload_n 1, 1) := by decide +kernel
theorem dX12_readHouse_20 : decode cX12_readHouse 20 = .ok (.aload_n 0, 1) := by decide +kernel
theorem dX12_readHouse_21 : decode cX12_readHouse 21 = .ok (.ldc2_w 218, 3) := by decide +kernel
theorem dX12_readHouse_24 : decode cX12_readHouse 24 = .ok (.iconst 0, 1) := by decide +kernel
theorem dX12_readHouse_25 : decode cX12_readHouse 25 = .ok (.bipush 9, 2) := by decide +kernel
theorem dX12_readHouse_27 : decode cX12_readHouse 27 = .ok (.invokevirtual 360, 3) := by decide +kernel
theorem dX12_readHouse_30 : decode cX12_readHouse 30 = .ok (.iastore, 1) := by decide +kernel
theorem dX12_readHouse_31 : decode cX12_readHouse 31 = .ok (.aload_n 0, 1) := by decide +kernel
theorem dX12_readHouse_32 : decode cX12_readHouse 32 = .ok (.getfield 60, 3) := by decide +kernel
theorem dX12_readHouse_35 : decode cX12_readHouse 35 = .ok (.iload_n 1, 1) := by decide +kernel
theorem dX12_readHouse_36 : decode cX12_readHouse 36 = .ok (.iconst 0, 1) := by decide +kernel
theorem dX12_readHouse_37 : decode cX12_readHouse 37 = .ok (.iastore, 1) := by decide +kernel
theorem dX12_readHouse_38 : decode cX12_readHouse 38 = .ok (.aload_n 0, 1) := by decide +kernel
theorem dX12_readHouse_39 : decode cX12_readHouse 39 = .ok (.getfield 203, 3) := by decide +kernel
theorem dX12_readHouse_42 : decode cX12_readHouse 42 = .ok (.ifCond .ne 83, 3) := by decide +kernel
theorem dX12_readHouse_45 : decode cX12_readHouse 45 = .ok (.aload_n 0, 1) := by decide +kernel
theorem dX12_readHouse_46 : decode cX12_readHouse 46 = .ok (.ldc2_w 220, 3) := by decide +kernel
theorem dX12_readHouse_49 : decode cX12_readHouse 49 = .ok (.invokevirtual 260, 3) := by decide +kernel
theorem dX12_readHouse_52 : decode cX12_readHouse 52 = .ok (.ifCond .eq 73, 3) := by decide +kernel
theorem dX12_readHouse_55 : decode cX12_readHouse 55 = .ok (.aload_n 0, 1) := by decide +kernel
theorem dX12_readHouse_56 : decode cX12_readHouse 56 = .ok (.invokevirtual 267, 3) := by decide +kernel
theorem dX12_readHouse_59 : decode cX12_readHouse 59 = .ok (.aload_n 0, 1) := by decide +kernel
theorem dX12_readHouse_60 : decode cX12_readHouse 60 = .ok (.getfield 190, 3) := by decide +kernel
theorem dX12_readHouse_63 : decode cX12_readHouse 63 = .ok (.iconst 2, 1) := by decide +kernel
theorem dX12_readHouse_64 : decode cX12_readHouse 64 = .ok (.if_icmp .ne 36, 3) := by decide +kernel
theorem dX12_readHouse_67 : decode cX12_readHouse 67 = .ok (.aload_n 0, 1) := by decide +kernel
theorem dX12_readHouse_68 : decode cX12_readHouse 68 = .ok (.getfield 187, 3) := by decide +kernel
theorem dX12_readHouse_71 : decode cX12_readHouse 71 = .ok (.aload_n 0, 1) := by decide +kernel
theorem dX12_readHouse_72 : decode cX12_readHouse 72 = .ok (.getfield 370, 3) := by decide +kernel
theorem dX12_readHouse_75 : decode cX12_readHouse 75 = .ok (.if_icmp .ge 25, 3) := by decide +kernel
theorem dX12_readHouse_78 : decode cX12_readHouse 78 = .ok (.aload_n 0, 1) := by decide +kernel
theorem dX12_readHouse_79 : decode cX12_readHouse 79 = .ok (.getfield 60, 3) := by decide +kernel
theorem dX12_readHouse_82 : decode cX12_readHouse 82 = .ok (.iload_n 1, 1) := by decide +kernel
theorem dX12_readHouse_83 : decode cX12_readHouse 83 = .ok (.iaload, 1) := by decide +kernel
theorem dX12_readHouse_84 : decode cX12_readHouse 84 = .ok (.aload_n 0, 1) := by decide +kernel
theorem dX12_readHouse_85 : decode cX12_readHouse 85 = .ok (.getfield 187, 3) := by decide +kernel
theorem dX12_readHouse_88 : decode cX12_readHouse 88 = .ok (.ishr, 1) := by decide +kernel
theorem dX12_readHouse_89 : decode cX12_readHouse 89 = .ok (.iconst 1, 1) := by decide +kernel
theorem dX12_readHouse_90 : decode cX12_readHouse 90 = .ok (.iand, 1) := by decide +kernel
theorem dX12_readHouse_91 : decode cX12_readHouse 91 = .ok (.iconst 1, 1) := by decide +kernel
theorem dX12_readHouse_92 : decode cX12_readHouse 92 = .ok (.if_icmp .ne 8, 3) := by decide +kernel
theorem dX12_readHouse_95 : decode cX12_readHouse 95 = .ok (.aload_n 0, 1) := by decide +kernel
theorem dX12_readHouse_96 : decode cX12_readHouse 96 = .ok (.iconst 3, 1) := by decide +kernel
theorem dX12_readHouse_97 : decode cX12_readHouse 97 = .ok (.invokevirtual 264, 3) := by decide +kernel
theorem dX12_readHouse_100 : decode cX12_readHouse 100 = .ok (.aload_n 0, 1) := by decide +kernel
theorem dX12_readHouse_101 : decode cX12_readHouse 101 = .ok (.getfield 60, 3) := by decide +kernel
theorem dX12_readHouse_104 : decode cX12_readHouse 104 = .ok (.iload_n 1, 1) := by decide +kernel
theorem dX12_readHouse_105 : decode cX12_readHouse 105 = .ok (.dup2, 1) := by decide +kernel
theorem dX12_readHouse_106 : decode cX12_readHouse 106 = .ok (.iaload, 1) := by decide +kernel
theorem dX12_readHouse_107 : decode cX12_readHouse 107 = .ok (.iconst 1, 1) := by decide +kernel
theorem dX12_readHouse_108 : decode cX12_readHouse 108 = .ok (.aload_n 0, 1) := by decide +kernel
theorem dX12_readHouse_109 : decode cX12_readHouse 109 = .ok (.iconst 0, 1) := by decide +kernel
theorem dX12_readHouse_110 : decode cX12_readHouse 110 = .ok (.aload_n 0, 1) := by decide +kernel
theorem dX12_readHouse_111 : decode cX12_readHouse 111 = .ok (.getfield 370, 3) := by decide +kernel
theorem dX12_readHouse_114 : decode cX12_readHouse 114 = .ok (.iconst 1, 1) := by decide +kernel
theorem dX12_readHouse_115 : decode cX12_readHouse 115 = .ok (.isub, 1) := by decide +kernel
theorem dX12_readHouse_116 : decode cX12_readHouse 116 = .ok (.invokevirtual 274, 3) := by decide +kernel
theorem dX12_readHouse_119 : decode cX12_readHouse 119 = .ok (.ishl, 1) := by decide +kernel
theorem dX12_readHouse_120 : decode cX12_readHouse 120 = .ok (.ior, 1) := by decide +kernel
theorem dX12_readHouse_121 : decode cX12_readHouse 121 = .ok (.iastore, 1) := by decide +kernel
theorem dX12_readHouse_122 : decode cX12_readHouse 122 = .ok (.goto (-84), 3) := by decide +kernel
theorem dX12_readHouse_125 : decode cX12_readHouse 125 = .ok (.aload_n 0, 1) := by decide +kernel
theorem dX12_readHouse_126 : decode cX12_readHouse 126 = .ok (.iload_n 1, 1) := by decide +kernel
theorem dX12_readHouse_127 : decode cX12_readHouse 127 = .ok (.invokevirtual 373, 3) := by decide +kernel
theorem dX12_readHouse_130 : decode cX12_readHouse 130 = .ok (.aload_n 0, 1) := by decide +kernel
theorem dX12_readHouse_131 : decode cX12_readHouse 131 = .ok (.getfield 203, 3) := by decide +kernel
theorem dX12_readHouse_134 : decode cX12_readHouse 134 = .ok (.ifCond .le 4, 3) := by decide +kernel
theorem dX12_readHouse_137 : decode cX12_readHouse 137 = .ok (.return_, 1) := by decide +kernel
theorem dX12_readHouse_138 : decode cX12_readHouse 138 = .ok (.aload_n 0, 1) := by decide +kernel
theorem dX12_readHouse_139 : decode cX12_readHouse 139 = .ok (.getfield 21, 3) := by decide +kernel
theorem dX12_readHouse_142 : decode cX12_readHouse 142 = .ok (.aload_n 0, 1) := by decide +kernel
theorem dX12_readHouse_143 : decode cX12_readHouse 143 = .ok (.getfield 364, 3) := by decide +kernel
theorem dX12_readHouse_146 : decode cX12_readHouse 146 = .ok (.iload_n 1, 1) := by decide +kernel
theorem dX12_readHouse_147 : decode cX12_readHouse 147 = .ok (.iastore, 1) := by decide +kernel
theorem dX12_readHouse_148 : decode cX12_readHouse 148 = .ok (.aload_n 0, 1) := by decide +kernel
theorem dX12_readHouse_149 : decode cX12_readHouse 149 = .ok (.dup, 1) := by decide +kernel
theorem dX12_readHouse_150 : decode cX12_readHouse 150 = .ok (.getfield 364, 3) := by decide +kernel
theorem dX12_readHouse_153 : decode cX12_readHouse 153 = .ok (.iconst 1, 1) := by decide +kernel
theorem dX12_readHouse_154 : decode cX12_readHouse 154 = .ok (.iadd, 1) := by decide +kernel
theorem dX12_readHouse_155 : decode cX12_readHouse 155 = .ok (.putfield 364, 3) := by decide +kernel
theorem dX12_readHouse_158 : decode cX12_readHouse 158 = .ok (.aload_n 0, 1) := by decide +kernel
theorem dX12_readHouse_159 : decode cX12_readHouse 159 = .ok (.dup, 1) := by decide +kernel
theorem dX12_readHouse_160 : decode cX12_readHouse 160 = .ok (.getfield 367, 3) := by decide +kernel
theorem dX12_readHouse_163 : decode cX12_readHouse 163 = .ok (.iconst 1, 1) := by decide +kernel
theorem dX12_readHouse_164 : decode cX12_readHouse 164 = .ok (.iadd, 1) := by decide +kernel
theorem dX12_readHouse_165 : decode cX12_readHouse 165 = .ok (.putfield 367, 3) := by decide +kernel
theorem dX12_readHouse_168 : decode cX12_readHouse 168 = .ok (.return_, 1) := by decide +kernel
theorem wl_RX12_364 : Cond.fieldLink RX12 364 (TX12 12).1 (TX12 12).2.1 (TX12 12).2.2.1 ∈ TB := tbm 1427 (by decide +kernel) (by decide +kernel)
theorem wl_RX12_367 : Cond.fieldLink RX12 367 (TX12 47).1 (TX12 47).2.1 (TX12 47).2.2.1 ∈ TB := tbm 1462 (by decide +kernel) (by decide +kernel)
theorem wl_RX12_57 : Cond.fieldLink RX12 57 (TX12 31).1 (TX12 31).2.1 (TX12 31).2.2.1 ∈ TB := tbm 1446 (by decide +kernel) (by decide +kernel)
theorem wl_RX12_60 : Cond.fieldLink RX12 60 (TX12 32).1 (TX12 32).2.1 (TX12 32).2.2.1 ∈ TB := tbm 1447 (by decide +kernel) (by decide +kernel)
theorem wl_RX12_370 : Cond.fieldLink RX12 370 (TX12 50).1 (TX12 50).2.1 (TX12 50).2.2.1 ∈ TB := tbm 1465 (by decide +kernel) (by decide +kernel)
theorem wm_X12_readHas : Cond.instanceMethod yX12_readHas ∈ TB ∧ Cond.selects yX12_readHas.cls yX12_readHas yX12_readHas ∈ TB ∧ Cond.initialized yX12_readHas.cls ∈ TB ∧ Cond.code yX12_readHas cX12_readHas 3 none ∈ TB ∧ (yX12_readHas.cls ≠ "java/lang/invoke/MethodHandle" ∧ yX12_readHas.cls ≠ "java/lang/invoke/VarHandle" ∧ (parseMethodDescriptor yX12_readHas.desc).map (fun d => d.parameters.length) = some 1) ∧ 3 ≤ 21 := ⟨tbm 1809 (by decide +kernel) (by decide +kernel), tbm 73 (by decide +kernel) (by decide +kernel), tbm 146 (by decide +kernel) (by decide +kernel), tbm 1810 (by decide +kernel) (by decide +kernel), by decide +kernel, by decide⟩
theorem wi_RX12_373 : Iv RX12 373 yX12_readHas cX12_readHas 3 none 1 := ⟨tbm 1807 (by decide +kernel) (by decide +kernel), wm_X12_readHas⟩
theorem wl_RX12_21 : Cond.fieldLink RX12 21 (TX12 11).1 (TX12 11).2.1 (TX12 11).2.2.1 ∈ TB := tbm 1426 (by decide +kernel) (by decide +kernel)
def mX12_readHouse_L38 (t : Nat) (x1 : Int32) (k125 : St_ → Option St_) : Nat → St_ → Option St_
  | 0, _ => none
  | n + 1, σ => (if (σ.1 t 2) = 0 then
 ((mX12_isWord t (512736125800 : Int64) σ).bind fun r6 =>
 (if r6 = true then
 ((mX12_token t σ).bind fun σ7 =>
 (bnd (fun (σ8 : St_) => (if bin x1 5 = true then bnd (σ8.1 (t + 16) x1.toNatClampNeg) fun v11 =>
 ((mX12_toldNumber t (0 : Int32) ((σ8.1 t 50) - (1 : Int32)) σ8).bind fun r12 =>
 (if bin x1 5 = true then bnd (sI r12.2 (t + 16) x1.toNatClampNeg (v11 ||| ((1 : Int32) <<< (r12.1 &&& 31)))) fun σ13 =>
 (mX12_readHouse_L38 t x1 k125 n σ13)
 else none))
 else none)) fun k9 =>
 (if (σ7.1 t 6) = (2 : Int32) then
 (if (σ7.1 t 50) ≤ (σ7.1 t 8) then
 (k9 σ7)
 else (if bin x1 5 = true then bnd (σ7.1 (t + 16) x1.toNatClampNeg) fun v14 =>
 (if ((v14 >>> ((σ7.1 t 8) &&& 31)) &&& (1 : Int32)) = (1 : Int32) then
 ((mX12_wrong t (3 : Int32) σ7).bind fun σ15 =>
 (k9 σ15))
 else (k9 σ7))
 else none))
 else (k9 σ7))))
 else (k125 σ)))
 else (k125 σ))
def mX12_readHouse (t : Nat) (σ : St_) : Option St_ :=
 ((mX12_newName t (16 : Int32) (σ.1 t 12) σ).bind fun σ1 =>
 (bnd (σ1.1 t 47) fun v2 =>
 ((mX12_told t (1819239275 : Int64) (0 : Int32) (9 : Int32) σ1).bind fun r3 =>
 (if bin v2 5 = true then bnd (sI r3.2 (t + 15) v2.toNatClampNeg r3.1) fun σ4 =>
 (if bin v2 5 = true then bnd (sI σ4 (t + 16) v2.toNatClampNeg (0 : Int32)) fun σ5 =>
 (mX12_readHouse_L38 t v2
 (fun (σ16 : St_) => ((mX12_readHas t v2 σ16).bind fun σ17 =>
 (if (σ17.1 t 2) ≤ 0 then
 (bnd (σ17.1 t 12) fun v18 =>
 (if bin v18 9 = true then bnd (sI σ17 (t + 3) v18.toNatClampNeg v2) fun σ19 =>
 (bnd (sI σ19 t 12 ((σ19.1 t 12) + (1 : Int32))) fun σ20 =>
 (bnd (sI σ20 t 47 ((σ20.1 t 47) + (1 : Int32))) fun σ21 =>
 (some σ21)))
 else none))
 else (some σ17)))) FU σ5)
 else none)
 else none))))
set_option maxHeartbeats 4000000 in
theorem tmX12_readHouse_L38 (t : Nat) (hT : LY12 sh P t) (x1 : Int32) (k125 : St_ → Option St_) (hk125 : ∀ (σ1 : St_), Tj l D cA h0 ad RX12 cX12_readHouse 2 none false 6 0 0 (fun b => (none, sh, P, b)) 0 0 sh P σ1 125 [(0, .ref (h0 + t)), (1, .int x1)] [] (k125 σ1)) : ∀ (n : Nat) (σ : St_), Tj l D cA h0 ad RX12 cX12_readHouse 2 none false 6 0 0 (fun b => (none, sh, P, b)) 0 0 sh P σ 38 [(0, .ref (h0 + t)), (1, .int x1)] [] (mX12_readHouse_L38 t x1 k125 n σ) := by
  intro n
  induction n with
  | zero => intros; exact tj_none
  | succ n ih =>
    intro σ
    rw [mX12_readHouse_L38]
    refine tj_aload_n (q := 39) dX12_readHouse_38 rfl (i := 0) rfl (pl := 0) rfl ?_
    refine tj_getI (q := 42) (hT).s fok_12_2 wl_RX12_203 dX12_readHouse_39 rfl ?_
    refine tj_if_ne (tgt := 125) (q := 45) dX12_readHouse_42 (by decide) rfl ?_ ?_
    · refine tj_aload_n (q := 46) dX12_readHouse_45 rfl (i := 0) rfl (pl := 0) rfl ?_
      refine tj_ldc2 (q := 49) (v := 512736125800) dX12_readHouse_46 rfl wc_RX12_220 ?_
      refine tj_callZp (q := 52) (kj_V (As := [.long (512736125800 : Int64)]) (rest := []) (t := t) wi_RX12_260 (hT).s rfl (rX12_isWord t (512736125800 : Int64) (hT)) rfl (Nat.le_of_ble_eq_true rfl) ⟨Nat.le_of_ble_eq_true rfl, Nat.le_of_ble_eq_true rfl⟩ (Nat.le_of_ble_eq_true rfl) dX12_readHouse_49) rfl (fun r6 => ?_)
      refine tj_bz (tgt := 125) (q := 55) dX12_readHouse_52 (by decide) rfl ?_ ?_
      · refine tj_aload_n (q := 56) dX12_readHouse_55 rfl (i := 0) rfl (pl := 0) rfl ?_
        refine tj_callV (q := 59) (kj_V (As := []) (rest := []) (t := t) wi_RX12_267 (hT).s rfl (rX12_token t (hT)) rfl (Nat.le_of_ble_eq_true rfl) ⟨Nat.le_of_ble_eq_true rfl, Nat.le_of_ble_eq_true rfl⟩ (Nat.le_of_ble_eq_true rfl) dX12_readHouse_56) rfl (fun σ7 => ?_)
        refine tj_aload_n (q := 60) dX12_readHouse_59 rfl (i := 0) rfl (pl := 0) rfl ?_
        refine tj_getI (q := 63) (hT).s fok_12_6 wl_RX12_190 dX12_readHouse_60 rfl ?_
        refine tj_iconst (q := 64) (v := 2) dX12_readHouse_63 rfl (by decide) ?_
        refine tj_bnd (fun k9 => ∀ (σ8 : St_), Tj l D cA h0 ad RX12 cX12_readHouse 2 none false 6 0 0 (fun b => (none, sh, P, b)) 0 0 sh P σ8 100 [(0, .ref (h0 + t)), (1, .int x1)] [] (k9 σ8)) ?_ (fun k9 hk10 => ?_)
        · intro σ8
          refine tj_aload_n (q := 101) dX12_readHouse_100 rfl (i := 0) rfl (pl := 0) rfl ?_
          refine tj_getR (q := 104) (hT).s (hT).p_nWatch fok_12_32 wl_RX12_60 dX12_readHouse_101 rfl ?_
          refine tj_iload_n (q := 105) dX12_readHouse_104 rfl (i := 1) rfl (pl := 1) rfl ?_
          refine tj_dup2 (q := 106) dX12_readHouse_105 rfl rfl rfl ?_
          refine tj_iaload (q := 107) (hT).s_nWatch dX12_readHouse_106 rfl ?_
          refine tj_topI (fun v11 => ?_)
          refine tj_iconst (q := 108) (v := 1) dX12_readHouse_107 rfl (by decide) ?_
          refine tj_aload_n (q := 109) dX12_readHouse_108 rfl (i := 0) rfl (pl := 0) rfl ?_
          refine tj_iconst (q := 110) (v := 0) dX12_readHouse_109 rfl (by decide) ?_
          refine tj_aload_n (q := 111) dX12_readHouse_110 rfl (i := 0) rfl (pl := 0) rfl ?_
          refine tj_getI (q := 114) (hT).s fok_12_50 wl_RX12_370 dX12_readHouse_111 rfl ?_
          refine tj_iconst (q := 115) (v := 1) dX12_readHouse_114 rfl (by decide) ?_
          refine tj_isub (q := 116) dX12_readHouse_115 rfl ?_
          refine tj_callI (q := 119) (kj_V (As := [.int (0 : Int32), .int ((σ8.1 t 50) - (1 : Int32))]) (rest := [.int (1 : Int32), .int v11, .int x1, .ref (h0 + (t + 16))]) (t := t) wi_RX12_274 (hT).s rfl (rX12_toldNumber t (0 : Int32) ((σ8.1 t 50) - (1 : Int32)) (hT)) rfl (Nat.le_of_ble_eq_true rfl) ⟨Nat.le_of_ble_eq_true rfl, Nat.le_of_ble_eq_true rfl⟩ (Nat.le_of_ble_eq_true rfl) dX12_readHouse_116) rfl (fun r12 => ?_)
          refine tj_ishl (q := 120) dX12_readHouse_119 rfl ?_
          refine tj_ior (q := 121) dX12_readHouse_120 rfl ?_
          refine tj_iastore (q := 122) (hT).s_nWatch dX12_readHouse_121 rfl (fun σ13 => ?_)
          refine tj_goto (q := 38) dX12_readHouse_122 (by decide) ?_
          exact ih σ13
        · refine tj_icmp_ne (tgt := 100) (q := 67) dX12_readHouse_64 (by decide) rfl ?_ ?_
          · refine tj_aload_n (q := 68) dX12_readHouse_67 rfl (i := 0) rfl (pl := 0) rfl ?_
            refine tj_getI (q := 71) (hT).s fok_12_8 wl_RX12_187 dX12_readHouse_68 rfl ?_
            refine tj_aload_n (q := 72) dX12_readHouse_71 rfl (i := 0) rfl (pl := 0) rfl ?_
            refine tj_getI (q := 75) (hT).s fok_12_50 wl_RX12_370 dX12_readHouse_72 rfl ?_
            refine tj_icmp_ge (tgt := 100) (q := 78) dX12_readHouse_75 (by decide) rfl ?_ ?_
            · exact hk10 σ7
            · refine tj_aload_n (q := 79) dX12_readHouse_78 rfl (i := 0) rfl (pl := 0) rfl ?_
              refine tj_getR (q := 82) (hT).s (hT).p_nWatch fok_12_32 wl_RX12_60 dX12_readHouse_79 rfl ?_
              refine tj_iload_n (q := 83) dX12_readHouse_82 rfl (i := 1) rfl (pl := 1) rfl ?_
              refine tj_iaload (q := 84) (hT).s_nWatch dX12_readHouse_83 rfl ?_
              refine tj_topI (fun v14 => ?_)
              refine tj_aload_n (q := 85) dX12_readHouse_84 rfl (i := 0) rfl (pl := 0) rfl ?_
              refine tj_getI (q := 88) (hT).s fok_12_8 wl_RX12_187 dX12_readHouse_85 rfl ?_
              refine tj_ishr (q := 89) dX12_readHouse_88 rfl ?_
              refine tj_iconst (q := 90) (v := 1) dX12_readHouse_89 rfl (by decide) ?_
              refine tj_iand (q := 91) dX12_readHouse_90 rfl ?_
              refine tj_iconst (q := 92) (v := 1) dX12_readHouse_91 rfl (by decide) ?_
              refine tj_icmp_ne (tgt := 100) (q := 95) dX12_readHouse_92 (by decide) rfl ?_ ?_
              · refine tj_aload_n (q := 96) dX12_readHouse_95 rfl (i := 0) rfl (pl := 0) rfl ?_
                refine tj_iconst (q := 97) (v := 3) dX12_readHouse_96 rfl (by decide) ?_
                refine tj_callV (q := 100) (kj_V (As := [.int (3 : Int32)]) (rest := []) (t := t) wi_RX12_264 (hT).s rfl (rX12_wrong t (3 : Int32) (hT)) rfl (Nat.le_of_ble_eq_true rfl) ⟨Nat.le_of_ble_eq_true rfl, Nat.le_of_ble_eq_true rfl⟩ (Nat.le_of_ble_eq_true rfl) dX12_readHouse_97) rfl (fun σ15 => ?_)
                exact hk10 σ15
              · exact hk10 σ7
          · exact hk10 σ7
      · exact hk125 σ
    · exact hk125 σ

set_option maxHeartbeats 4000000 in
theorem rX12_readHouse (t : Nat) (hT : LY12 sh P t) : Rj l D cA h0 ad yX12_readHouse cX12_readHouse 2 none false 6 0 0 (fun b => (none, sh, P, b)) [.ref (h0 + t)] sh P σ (mX12_readHouse t σ) := by
  rw [mX12_readHouse]
  refine Rj.of (by decide) (fun h => by cases h) (Nat.le_of_ble_eq_true rfl) ?_
  refine tj_lv0 (lv' := [(0, .ref (h0 + t))]) rfl ?_
  refine tj_aload_n (q := 1) dX12_readHouse_0 rfl (i := 0) rfl (pl := 0) rfl ?_
  refine tj_bipush (q := 3) (v := 16) dX12_readHouse_1 rfl (by decide) ?_
  refine tj_aload_n (q := 4) dX12_readHouse_3 rfl (i := 0) rfl (pl := 0) rfl ?_
  refine tj_getI (q := 7) (hT).s fok_12_12 wl_RX12_364 dX12_readHouse_4 rfl ?_
  refine tj_callV (q := 10) (kj_V (As := [.int (16 : Int32), .int (σ.1 t 12)]) (rest := []) (t := t) wi_RX12_351 (hT).s rfl (rX12_newName t (16 : Int32) (σ.1 t 12) (hT)) rfl (Nat.le_of_ble_eq_true rfl) ⟨Nat.le_of_ble_eq_true rfl, Nat.le_of_ble_eq_true rfl⟩ (Nat.le_of_ble_eq_true rfl) dX12_readHouse_7) rfl (fun σ1 => ?_)
  refine tj_aload_n (q := 11) dX12_readHouse_10 rfl (i := 0) rfl (pl := 0) rfl ?_
  refine tj_getI (q := 14) (hT).s fok_12_47 wl_RX12_367 dX12_readHouse_11 rfl ?_
  refine tj_topI (fun v2 => ?_)
  refine tj_istore_n (q := 15) dX12_readHouse_14 rfl (i := 1) rfl (by decide) rfl ?_
  refine tj_aload_n (q := 16) dX12_readHouse_15 rfl (i := 0) rfl (pl := 1) rfl ?_
  refine tj_getR (q := 19) (hT).s (hT).p_nLock fok_12_31 wl_RX12_57 dX12_readHouse_16 rfl ?_
  refine tj_iload_n (q := 20) dX12_readHouse_19 rfl (i := 1) rfl (pl := 0) rfl ?_
  refine tj_aload_n (q := 21) dX12_readHouse_20 rfl (i := 0) rfl (pl := 1) rfl ?_
  refine tj_ldc2 (q := 24) (v := 1819239275) dX12_readHouse_21 rfl wc_RX12_218 ?_
  refine tj_iconst (q := 25) (v := 0) dX12_readHouse_24 rfl (by decide) ?_
  refine tj_bipush (q := 27) (v := 9) dX12_readHouse_25 rfl (by decide) ?_
  refine tj_callI (q := 30) (kj_V (As := [.long (1819239275 : Int64), .int (0 : Int32), .int (9 : Int32)]) (rest := [.int v2, .ref (h0 + (t + 15))]) (t := t) wi_RX12_360 (hT).s rfl (rX12_told t (1819239275 : Int64) (0 : Int32) (9 : Int32) (hT)) rfl (Nat.le_of_ble_eq_true rfl) ⟨Nat.le_of_ble_eq_true rfl, Nat.le_of_ble_eq_true rfl⟩ (Nat.le_of_ble_eq_true rfl) dX12_readHouse_27) rfl (fun r3 => ?_)
  refine tj_iastore (q := 31) (hT).s_nLock dX12_readHouse_30 rfl (fun σ4 => ?_)
  refine tj_aload_n (q := 32) dX12_readHouse_31 rfl (i := 0) rfl (pl := 1) rfl ?_
  refine tj_getR (q := 35) (hT).s (hT).p_nWatch fok_12_32 wl_RX12_60 dX12_readHouse_32 rfl ?_
  refine tj_iload_n (q := 36) dX12_readHouse_35 rfl (i := 1) rfl (pl := 0) rfl ?_
  refine tj_iconst (q := 37) (v := 0) dX12_readHouse_36 rfl (by decide) ?_
  refine tj_iastore (q := 38) (hT).s_nWatch dX12_readHouse_37 rfl (fun σ5 => ?_)
  refine tj_lv [1, 0] rfl ?_
  refine tmX12_readHouse_L38 t hT v2 _ ?_ FU σ5
  · intro σ16
    refine tj_aload_n (q := 126) dX12_readHouse_125 rfl (i := 0) rfl (pl := 0) rfl ?_
    refine tj_iload_n (q := 127) dX12_readHouse_126 rfl (i := 1) rfl (pl := 1) rfl ?_
    refine tj_callV (q := 130) (kj_V (As := [.int v2]) (rest := []) (t := t) wi_RX12_373 (hT).s rfl (rX12_readHas t v2 (hT)) rfl (Nat.le_of_ble_eq_true rfl) ⟨Nat.le_of_ble_eq_true rfl, Nat.le_of_ble_eq_true rfl⟩ (Nat.le_of_ble_eq_true rfl) dX12_readHouse_127) rfl (fun σ17 => ?_)
    refine tj_aload_n (q := 131) dX12_readHouse_130 rfl (i := 0) rfl (pl := 0) rfl ?_
    refine tj_getI (q := 134) (hT).s fok_12_2 wl_RX12_203 dX12_readHouse_131 rfl ?_
    refine tj_if_le (tgt := 138) (q := 137) dX12_readHouse_134 (by decide) rfl ?_ ?_
    · refine tj_aload_n (q := 139) dX12_readHouse_138 rfl (i := 0) rfl (pl := 0) rfl ?_
      refine tj_getR (q := 142) (hT).s (hT).p_nHolder fok_12_11 wl_RX12_21 dX12_readHouse_139 rfl ?_
      refine tj_aload_n (q := 143) dX12_readHouse_142 rfl (i := 0) rfl (pl := 0) rfl ?_
      refine tj_getI (q := 146) (hT).s fok_12_12 wl_RX12_364 dX12_readHouse_143 rfl ?_
      refine tj_iload_n (q := 147) dX12_readHouse_146 rfl (i := 1) rfl (pl := 1) rfl ?_
      refine tj_sndI (fun v18 => ?_)
      refine tj_iastore (q := 148) (hT).s_nHolder dX12_readHouse_147 rfl (fun σ19 => ?_)
      refine tj_aload_n (q := 149) dX12_readHouse_148 rfl (i := 0) rfl (pl := 0) rfl ?_
      refine tj_dup (q := 150) dX12_readHouse_149 rfl rfl ?_
      refine tj_getI (q := 153) (hT).s fok_12_12 wl_RX12_364 dX12_readHouse_150 rfl ?_
      refine tj_iconst (q := 154) (v := 1) dX12_readHouse_153 rfl (by decide) ?_
      refine tj_iadd (q := 155) dX12_readHouse_154 rfl ?_
      refine tj_putI (q := 158) (hT).s fok_12_12 tok_12 fpk_12_12 wl_RX12_364 dX12_readHouse_155 rfl (fun σ20 => ?_)
      refine tj_aload_n (q := 159) dX12_readHouse_158 rfl (i := 0) rfl (pl := 0) rfl ?_
      refine tj_dup (q := 160) dX12_readHouse_159 rfl rfl ?_
      refine tj_getI (q := 163) (hT).s fok_12_47 wl_RX12_367 dX12_readHouse_160 rfl ?_
      refine tj_iconst (q := 164) (v := 1) dX12_readHouse_163 rfl (by decide) ?_
      refine tj_iadd (q := 165) dX12_readHouse_164 rfl ?_
      refine tj_putI (q := 168) (hT).s fok_12_47 tok_12 fpk_12_47 wl_RX12_367 dX12_readHouse_165 rfl (fun σ21 => ?_)
      exact tj_vret rfl rfl (Nat.le_of_ble_eq_true rfl) (Nat.le_of_ble_eq_true rfl) dX12_readHouse_168
    · exact tj_vret rfl rfl (Nat.le_of_ble_eq_true rfl) (Nat.le_of_ble_eq_true rfl) dX12_readHouse_137

theorem dX12_readThief_0 : decode cX12_readThief 0 = .ok (.aload_n 0, 1) := by decide +kernel
theorem dX12_readThief_1 : decode cX12_readThief 1 = .ok (.bipush 16, 2) := by decide +kernel
theorem dX12_readThief_3 : decode cX12_readThief 3 = .ok (.aload_n 0, 1) := by decide +kernel
theorem dX12_readThief_4 : decode cX12_readThief 4 = .ok (.getfield 364, 3) := by decide +kernel
theorem dX12_readThief_7 : decode cX12_readThief 7 = .ok (.invokevirtual 351, 3) := by decide +kernel
theorem dX12_readThief_10 : decode cX12_readThief 10 = .ok (.aload_n 0, 1) := by decide +kernel
theorem dX12_readThief_11 : decode cX12_readThief 11 = .ok (.getfield 376, 3) := by decide +kernel
theorem dX12_readThief_14 : decode cX12_readThief 14 = .ok (.istore_n 1, 1) := by decide +kernel
theorem dX12_readThief_15 : decode cX12_readThief 15 = .ok (.aload_n 0, 1) := by decide +kernel
theorem dX12_readThief_16 : decode cX12_readThief 16 = .ok (.getfield 63, 3) := by decide +kernel
theorem dX12_readThief_19 : decode cX12_readThief 19 = .ok (.iload_n 1, 1) := by decide +kernel
theorem dX12_readThief_20 : decode cX12_readThief 20 = .ok (.aload_n 0, 1) := by decide +kernel
theorem dX12_readThief_21 : decode cX12_readThief 21 = .ok (.ldc2_w 226, 3) := by decide +kernel
theorem dX12_readThief_24 : decode cX12_readThief 24 = .ok (.iconst 0, 1) := by decide +kernel
theorem dX12_readThief_25 : decode cX12_readThief 25 = .ok (.sipush 999, 3) := by decide +kernel
theorem dX12_readThief_28 : decode cX12_readThief 28 = .ok (.invokevirtual 360, 3) := by decide +kernel
theorem dX12_readThief_31 : decode cX12_readThief 31 = .ok (.iastore, 1) := by decide +kernel
theorem dX12_readThief_32 : decode cX12_readThief 32 = .ok (.aload_n 0, 1) := by decide +kernel
theorem dX12_readThief_33 : decode cX12_readThief 33 = .ok (.getfield 66, 3) := by decide +kernel
theorem dX12_readThief_36 : decode cX12_readThief 36 = .ok (.iload_n 1, 1) := by decide +kernel
theorem dX12_readThief_37 : decode cX12_readThief 37 = .ok (.aload_n 0, 1) := by decide +kernel
theorem dX12_readThief_38 : decode cX12_readThief 38 = .ok (.ldc2_w 228, 3) := by decide +kernel
theorem dX12_readThief_41 : decode cX12_readThief 41 = .ok (.iconst 0, 1) := by decide +kernel
theorem dX12_readThief_42 : decode cX12_readThief 42 = .ok (.bipush 9, 2) := by decide +kernel
theorem dX12_readThief_44 : decode cX12_readThief 44 = .ok (.invokevirtual 360, 3) := by decide +kernel
theorem dX12_readThief_47 : decode cX12_readThief 47 = .ok (.iastore, 1) := by decide +kernel
theorem dX12_readThief_48 : decode cX12_readThief 48 = .ok (.aload_n 0, 1) := by decide +kernel
theorem dX12_readThief_49 : decode cX12_readThief 49 = .ok (.bipush 10, 2) := by decide +kernel
theorem dX12_readThief_51 : decode cX12_readThief 51 = .ok (.iload_n 1, 1) := by decide +kernel
theorem dX12_readThief_52 : decode cX12_readThief 52 = .ok (.iadd, 1) := by decide +kernel
theorem dX12_readThief_53 : decode cX12_readThief 53 = .ok (.invokevirtual 373, 3) := by decide +kernel
theorem dX12_readThief_56 : decode cX12_readThief 56 = .ok (.aload_n 0, 1) := by decide +kernel
theorem dX12_readThief_57 : decode cX12_readThief 57 = .ok (.getfield 203, 3) := by decide +kernel
theorem dX12_readThief_60 : decode cX12_readThief 60 = .ok (.ifCond .le 4, 3) := by decide +kernel
theorem dX12_readThief_63 : decode cX12_readThief 63 = .ok (.return_, 1) := by decide +kernel
theorem dX12_readThief_64 : decode cX12_readThief 64 = .ok (.aload_n 0, 1) := by decide +kernel
theorem dX12_readThief_65 : decode cX12_readThief 65 = .ok (.getfield 21, 3) := by decide +kernel
theorem dX12_readThief_68 : decode cX12_readThief 68 = .ok (.aload_n 0, 1) := by decide +kernel
theorem dX12_readThief_69 : decode cX12_readThief 69 = .ok (.getfield 364, 3) := by decide +kernel
theorem dX12_readThief_72 : decode cX12_readThief 72 = .ok (.iconst 5, 1) := by decide +kernel
theorem dX12_readThief_73 : decode cX12_readThief 73 = .ok (.iload_n 1, 1) := by decide +kernel
theorem dX12_readThief_74 : decode cX12_readThief 74 = .ok (.iadd, 1) := by decide +kernel
theorem dX12_readThief_75 : decode cX12_readThief 75 = .ok (.iastore, 1) := by decide +kernel
theorem dX12_readThief_76 : decode cX12_readThief 76 = .ok (.aload_n 0, 1) := by decide +kernel
theorem dX12_readThief_77 : decode cX12_readThief 77 = .ok (.dup, 1) := by decide +kernel
theorem dX12_readThief_78 : decode cX12_readThief 78 = .ok (.getfield 364, 3) := by decide +kernel
theorem dX12_readThief_81 : decode cX12_readThief 81 = .ok (.iconst 1, 1) := by decide +kernel
theorem dX12_readThief_82 : decode cX12_readThief 82 = .ok (.iadd, 1) := by decide +kernel
theorem dX12_readThief_83 : decode cX12_readThief 83 = .ok (.putfield 364, 3) := by decide +kernel
theorem dX12_readThief_86 : decode cX12_readThief 86 = .ok (.aload_n 0, 1) := by decide +kernel
theorem dX12_readThief_87 : decode cX12_readThief 87 = .ok (.dup, 1) := by decide +kernel
theorem dX12_readThief_88 : decode cX12_readThief 88 = .ok (.getfield 376, 3) := by decide +kernel
theorem dX12_readThief_91 : decode cX12_readThief 91 = .ok (.iconst 1, 1) := by decide +kernel
theorem dX12_readThief_92 : decode cX12_readThief 92 = .ok (.iadd, 1) := by decide +kernel
theorem dX12_readThief_93 : decode cX12_readThief 93 = .ok (.putfield 376, 3) := by decide +kernel
theorem dX12_readThief_96 : decode cX12_readThief 96 = .ok (.return_, 1) := by decide +kernel
theorem wl_RX12_376 : Cond.fieldLink RX12 376 (TX12 48).1 (TX12 48).2.1 (TX12 48).2.2.1 ∈ TB := tbm 1463 (by decide +kernel) (by decide +kernel)
theorem wl_RX12_63 : Cond.fieldLink RX12 63 (TX12 33).1 (TX12 33).2.1 (TX12 33).2.2.1 ∈ TB := tbm 1448 (by decide +kernel) (by decide +kernel)
theorem wl_RX12_66 : Cond.fieldLink RX12 66 (TX12 34).1 (TX12 34).2.1 (TX12 34).2.2.1 ∈ TB := tbm 1449 (by decide +kernel) (by decide +kernel)
def mX12_readThief (t : Nat) (σ : St_) : Option St_ :=
 ((mX12_newName t (16 : Int32) (σ.1 t 12) σ).bind fun σ1 =>
 (bnd (σ1.1 t 48) fun v2 =>
 ((mX12_told t (1935762283 : Int64) (0 : Int32) (999 : Int32) σ1).bind fun r3 =>
 (if bin v2 4 = true then bnd (sI r3.2 (t + 17) v2.toNatClampNeg r3.1) fun σ4 =>
 ((mX12_told t (495723310188 : Int64) (0 : Int32) (9 : Int32) σ4).bind fun r5 =>
 (if bin v2 4 = true then bnd (sI r5.2 (t + 18) v2.toNatClampNeg r5.1) fun σ6 =>
 ((mX12_readHas t ((10 : Int32) + v2) σ6).bind fun σ7 =>
 (if (σ7.1 t 2) ≤ 0 then
 (bnd (σ7.1 t 12) fun v8 =>
 (if bin v8 9 = true then bnd (sI σ7 (t + 3) v8.toNatClampNeg ((5 : Int32) + v2)) fun σ9 =>
 (bnd (sI σ9 t 12 ((σ9.1 t 12) + (1 : Int32))) fun σ10 =>
 (bnd (sI σ10 t 48 ((σ10.1 t 48) + (1 : Int32))) fun σ11 =>
 (some σ11)))
 else none))
 else (some σ7)))
 else none))
 else none))))
set_option maxHeartbeats 4000000 in
theorem rX12_readThief (t : Nat) (hT : LY12 sh P t) : Rj l D cA h0 ad yX12_readThief cX12_readThief 2 none false 6 0 0 (fun b => (none, sh, P, b)) [.ref (h0 + t)] sh P σ (mX12_readThief t σ) := by
  rw [mX12_readThief]
  refine Rj.of (by decide) (fun h => by cases h) (Nat.le_of_ble_eq_true rfl) ?_
  refine tj_lv0 (lv' := [(0, .ref (h0 + t))]) rfl ?_
  refine tj_aload_n (q := 1) dX12_readThief_0 rfl (i := 0) rfl (pl := 0) rfl ?_
  refine tj_bipush (q := 3) (v := 16) dX12_readThief_1 rfl (by decide) ?_
  refine tj_aload_n (q := 4) dX12_readThief_3 rfl (i := 0) rfl (pl := 0) rfl ?_
  refine tj_getI (q := 7) (hT).s fok_12_12 wl_RX12_364 dX12_readThief_4 rfl ?_
  refine tj_callV (q := 10) (kj_V (As := [.int (16 : Int32), .int (σ.1 t 12)]) (rest := []) (t := t) wi_RX12_351 (hT).s rfl (rX12_newName t (16 : Int32) (σ.1 t 12) (hT)) rfl (Nat.le_of_ble_eq_true rfl) ⟨Nat.le_of_ble_eq_true rfl, Nat.le_of_ble_eq_true rfl⟩ (Nat.le_of_ble_eq_true rfl) dX12_readThief_7) rfl (fun σ1 => ?_)
  refine tj_aload_n (q := 11) dX12_readThief_10 rfl (i := 0) rfl (pl := 0) rfl ?_
  refine tj_getI (q := 14) (hT).s fok_12_48 wl_RX12_376 dX12_readThief_11 rfl ?_
  refine tj_topI (fun v2 => ?_)
  refine tj_istore_n (q := 15) dX12_readThief_14 rfl (i := 1) rfl (by decide) rfl ?_
  refine tj_aload_n (q := 16) dX12_readThief_15 rfl (i := 0) rfl (pl := 1) rfl ?_
  refine tj_getR (q := 19) (hT).s (hT).p_nSack fok_12_33 wl_RX12_63 dX12_readThief_16 rfl ?_
  refine tj_iload_n (q := 20) dX12_readThief_19 rfl (i := 1) rfl (pl := 0) rfl ?_
  refine tj_aload_n (q := 21) dX12_readThief_20 rfl (i := 0) rfl (pl := 1) rfl ?_
  refine tj_ldc2 (q := 24) (v := 1935762283) dX12_readThief_21 rfl wc_RX12_226 ?_
  refine tj_iconst (q := 25) (v := 0) dX12_readThief_24 rfl (by decide) ?_
  refine tj_sipush (q := 28) (v := 999) dX12_readThief_25 rfl (by decide) ?_
  refine tj_callI (q := 31) (kj_V (As := [.long (1935762283 : Int64), .int (0 : Int32), .int (999 : Int32)]) (rest := [.int v2, .ref (h0 + (t + 17))]) (t := t) wi_RX12_360 (hT).s rfl (rX12_told t (1935762283 : Int64) (0 : Int32) (999 : Int32) (hT)) rfl (Nat.le_of_ble_eq_true rfl) ⟨Nat.le_of_ble_eq_true rfl, Nat.le_of_ble_eq_true rfl⟩ (Nat.le_of_ble_eq_true rfl) dX12_readThief_28) rfl (fun r3 => ?_)
  refine tj_iastore (q := 32) (hT).s_nSack dX12_readThief_31 rfl (fun σ4 => ?_)
  refine tj_aload_n (q := 33) dX12_readThief_32 rfl (i := 0) rfl (pl := 1) rfl ?_
  refine tj_getR (q := 36) (hT).s (hT).p_nSkill fok_12_34 wl_RX12_66 dX12_readThief_33 rfl ?_
  refine tj_iload_n (q := 37) dX12_readThief_36 rfl (i := 1) rfl (pl := 0) rfl ?_
  refine tj_aload_n (q := 38) dX12_readThief_37 rfl (i := 0) rfl (pl := 1) rfl ?_
  refine tj_ldc2 (q := 41) (v := 495723310188) dX12_readThief_38 rfl wc_RX12_228 ?_
  refine tj_iconst (q := 42) (v := 0) dX12_readThief_41 rfl (by decide) ?_
  refine tj_bipush (q := 44) (v := 9) dX12_readThief_42 rfl (by decide) ?_
  refine tj_callI (q := 47) (kj_V (As := [.long (495723310188 : Int64), .int (0 : Int32), .int (9 : Int32)]) (rest := [.int v2, .ref (h0 + (t + 18))]) (t := t) wi_RX12_360 (hT).s rfl (rX12_told t (495723310188 : Int64) (0 : Int32) (9 : Int32) (hT)) rfl (Nat.le_of_ble_eq_true rfl) ⟨Nat.le_of_ble_eq_true rfl, Nat.le_of_ble_eq_true rfl⟩ (Nat.le_of_ble_eq_true rfl) dX12_readThief_44) rfl (fun r5 => ?_)
  refine tj_iastore (q := 48) (hT).s_nSkill dX12_readThief_47 rfl (fun σ6 => ?_)
  refine tj_aload_n (q := 49) dX12_readThief_48 rfl (i := 0) rfl (pl := 1) rfl ?_
  refine tj_bipush (q := 51) (v := 10) dX12_readThief_49 rfl (by decide) ?_
  refine tj_iload_n (q := 52) dX12_readThief_51 rfl (i := 1) rfl (pl := 0) rfl ?_
  refine tj_iadd (q := 53) dX12_readThief_52 rfl ?_
  refine tj_callV (q := 56) (kj_V (As := [.int ((10 : Int32) + v2)]) (rest := []) (t := t) wi_RX12_373 (hT).s rfl (rX12_readHas t ((10 : Int32) + v2) (hT)) rfl (Nat.le_of_ble_eq_true rfl) ⟨Nat.le_of_ble_eq_true rfl, Nat.le_of_ble_eq_true rfl⟩ (Nat.le_of_ble_eq_true rfl) dX12_readThief_53) rfl (fun σ7 => ?_)
  refine tj_aload_n (q := 57) dX12_readThief_56 rfl (i := 0) rfl (pl := 1) rfl ?_
  refine tj_getI (q := 60) (hT).s fok_12_2 wl_RX12_203 dX12_readThief_57 rfl ?_
  refine tj_if_le (tgt := 64) (q := 63) dX12_readThief_60 (by decide) rfl ?_ ?_
  · refine tj_aload_n (q := 65) dX12_readThief_64 rfl (i := 0) rfl (pl := 1) rfl ?_
    refine tj_getR (q := 68) (hT).s (hT).p_nHolder fok_12_11 wl_RX12_21 dX12_readThief_65 rfl ?_
    refine tj_aload_n (q := 69) dX12_readThief_68 rfl (i := 0) rfl (pl := 1) rfl ?_
    refine tj_getI (q := 72) (hT).s fok_12_12 wl_RX12_364 dX12_readThief_69 rfl ?_
    refine tj_iconst (q := 73) (v := 5) dX12_readThief_72 rfl (by decide) ?_
    refine tj_iload_n (q := 74) dX12_readThief_73 rfl (i := 1) rfl (pl := 0) rfl ?_
    refine tj_iadd (q := 75) dX12_readThief_74 rfl ?_
    refine tj_sndI (fun v8 => ?_)
    refine tj_iastore (q := 76) (hT).s_nHolder dX12_readThief_75 rfl (fun σ9 => ?_)
    refine tj_aload_n (q := 77) dX12_readThief_76 rfl (i := 0) rfl (pl := 1) rfl ?_
    refine tj_dup (q := 78) dX12_readThief_77 rfl rfl ?_
    refine tj_getI (q := 81) (hT).s fok_12_12 wl_RX12_364 dX12_readThief_78 rfl ?_
    refine tj_iconst (q := 82) (v := 1) dX12_readThief_81 rfl (by decide) ?_
    refine tj_iadd (q := 83) dX12_readThief_82 rfl ?_
    refine tj_putI (q := 86) (hT).s fok_12_12 tok_12 fpk_12_12 wl_RX12_364 dX12_readThief_83 rfl (fun σ10 => ?_)
    refine tj_aload_n (q := 87) dX12_readThief_86 rfl (i := 0) rfl (pl := 1) rfl ?_
    refine tj_dup (q := 88) dX12_readThief_87 rfl rfl ?_
    refine tj_getI (q := 91) (hT).s fok_12_48 wl_RX12_376 dX12_readThief_88 rfl ?_
    refine tj_iconst (q := 92) (v := 1) dX12_readThief_91 rfl (by decide) ?_
    refine tj_iadd (q := 93) dX12_readThief_92 rfl ?_
    refine tj_putI (q := 96) (hT).s fok_12_48 tok_12 fpk_12_48 wl_RX12_376 dX12_readThief_93 rfl (fun σ11 => ?_)
    exact tj_vret rfl rfl (Nat.le_of_ble_eq_true rfl) (Nat.le_of_ble_eq_true rfl) dX12_readThief_96
  · exact tj_vret rfl rfl (Nat.le_of_ble_eq_true rfl) (Nat.le_of_ble_eq_true rfl) dX12_readThief_63

theorem dX12_readDear_0 : decode cX12_readDear 0 = .ok (.aload_n 0, 1) := by decide +kernel
theorem dX12_readDear_1 : decode cX12_readDear 1 = .ok (.invokevirtual 267, 3) := by decide +kernel
theorem dX12_readDear_4 : decode cX12_readDear 4 = .ok (.aload_n 0, 1) := by decide +kernel
theorem dX12_readDear_5 : decode cX12_readDear 5 = .ok (.bipush 6, 2) := by decide +kernel
theorem dX12_readDear_7 : decode cX12_readDear 7 = .ok (.aload_n 0, 1) := by decide +kernel
theorem dX12_readDear_8 : decode cX12_readDear 8 = .ok (.getfield 354, 3) := by decide +kernel
theorem dX12_readDear_11 : decode cX12_readDear 11 = .ok (.invokevirtual 357, 3) := by decide +kernel
theorem dX12_readDear_14 : decode cX12_readDear 14 = .ok (.istore_n 1, 1) := by decide +kernel
theorem dX12_readDear_15 : decode cX12_readDear 15 = .ok (.aload_n 0, 1) := by decide +kernel
theorem dX12_readDear_16 : decode cX12_readDear 16 = .ok (.getfield 203, 3) := by decide +kernel
theorem dX12_readDear_19 : decode cX12_readDear 19 = .ok (.ifCond .ne 7, 3) := by decide +kernel
theorem dX12_readDear_22 : decode cX12_readDear 22 = .ok (.aload_n 0, 1) := by decide +kernel
theorem dX12_readDear_23 : decode cX12_readDear 23 = .ok (.invokevirtual 267, 3) := by decide +kernel
theorem dX12_readDear_26 : decode cX12_readDear 26 = .ok (.aload_n 0, 1) := by decide +kernel
theorem dX12_readDear_27 : decode cX12_readDear 27 = .ok (.ldc2_w 232, 3) := by decide +kernel
theorem dX12_readDear_30 : decode cX12_readDear 30 = .ok (.invokevirtual 270, 3) := by decide +kernel
theorem dX12_readDear_33 : decode cX12_readDear 33 = .ok (.aload_n 0, 1) := by decide +kernel
theorem dX12_readDear_34 : decode cX12_readDear 34 = .ok (.bipush 16, 2) := by decide +kernel
theorem dX12_readDear_36 : decode cX12_readDear 36 = .ok (.aload_n 0, 1) := by decide +kernel
theorem dX12_readDear_37 : decode cX12_readDear 37 = .ok (.getfield 364, 3) := by decide +kernel
theorem dX12_readDear_40 : decode cX12_readDear 40 = .ok (.invokevirtual 357, 3) := by decide +kernel
theorem dX12_readDear_43 : decode cX12_readDear 43 = .ok (.istore_n 2, 1) := by decide +kernel
theorem dX12_readDear_44 : decode cX12_readDear 44 = .ok (.aload_n 0, 1) := by decide +kernel
theorem dX12_readDear_45 : decode cX12_readDear 45 = .ok (.getfield 203, 3) := by decide +kernel
theorem dX12_readDear_48 : decode cX12_readDear 48 = .ok (.ifCond .le 4, 3) := by decide +kernel
theorem dX12_readDear_51 : decode cX12_readDear 51 = .ok (.return_, 1) := by decide +kernel
theorem dX12_readDear_52 : decode cX12_readDear 52 = .ok (.bipush 9, 2) := by decide +kernel
theorem dX12_readDear_54 : decode cX12_readDear 54 = .ok (.iload_n 1, 1) := by decide +kernel
theorem dX12_readDear_55 : decode cX12_readDear 55 = .ok (.imul, 1) := by decide +kernel
theorem dX12_readDear_56 : decode cX12_readDear 56 = .ok (.aload_n 0, 1) := by decide +kernel
theorem dX12_readDear_57 : decode cX12_readDear 57 = .ok (.getfield 21, 3) := by decide +kernel
theorem dX12_readDear_60 : decode cX12_readDear 60 = .ok (.iload_n 2, 1) := by decide +kernel
theorem dX12_readDear_61 : decode cX12_readDear 61 = .ok (.iaload, 1) := by decide +kernel
theorem dX12_readDear_62 : decode cX12_readDear 62 = .ok (.iadd, 1) := by decide +kernel
theorem dX12_readDear_63 : decode cX12_readDear 63 = .ok (.istore_n 3, 1) := by decide +kernel
theorem dX12_readDear_64 : decode cX12_readDear 64 = .ok (.aload_n 0, 1) := by decide +kernel
theorem dX12_readDear_65 : decode cX12_readDear 65 = .ok (.getfield 69, 3) := by decide +kernel
theorem dX12_readDear_68 : decode cX12_readDear 68 = .ok (.iload_n 3, 1) := by decide +kernel
theorem dX12_readDear_69 : decode cX12_readDear 69 = .ok (.iaload, 1) := by decide +kernel
theorem dX12_readDear_70 : decode cX12_readDear 70 = .ok (.iconst (-1), 1) := by decide +kernel
theorem dX12_readDear_71 : decode cX12_readDear 71 = .ok (.if_icmp .eq 8, 3) := by decide +kernel
theorem dX12_readDear_74 : decode cX12_readDear 74 = .ok (.aload_n 0, 1) := by decide +kernel
theorem dX12_readDear_75 : decode cX12_readDear 75 = .ok (.iconst 3, 1) := by decide +kernel
theorem dX12_readDear_76 : decode cX12_readDear 76 = .ok (.invokevirtual 264, 3) := by decide +kernel
theorem dX12_readDear_79 : decode cX12_readDear 79 = .ok (.aload_n 0, 1) := by decide +kernel
theorem dX12_readDear_80 : decode cX12_readDear 80 = .ok (.getfield 203, 3) := by decide +kernel
theorem dX12_readDear_83 : decode cX12_readDear 83 = .ok (.ifCond .ne 7, 3) := by decide +kernel
theorem dX12_readDear_86 : decode cX12_readDear 86 = .ok (.aload_n 0, 1) := by decide +kernel
theorem dX12_readDear_87 : decode cX12_readDear 87 = .ok (.invokevirtual 267, 3) := by decide +kernel
theorem dX12_readDear_90 : decode cX12_readDear 90 = .ok (.aload_n 0, 1) := by decide +kernel
theorem dX12_readDear_91 : decode cX12_readDear 91 = .ok (.getfield 69, 3) := by decide +kernel
theorem dX12_readDear_94 : decode cX12_readDear 94 = .ok (.iload_n 3, 1) := by decide +kernel
theorem dX12_readDear_95 : decode cX12_readDear 95 = .ok (.aload_n 0, 1) := by decide +kernel
theorem dX12_readDear_96 : decode cX12_readDear 96 = .ok (.iconst 0, 1) := by decide +kernel
theorem dX12_readDear_97 : decode cX12_readDear 97 = .ok (.bipush 99, 2) := by decide +kernel
theorem dX12_readDear_99 : decode cX12_readDear 99 = .ok (.invokevirtual 274, 3) := by decide +kernel
theorem dX12_readDear_102 : decode cX12_readDear 102 = .ok (.iastore, 1) := by decide +kernel
theorem dX12_readDear_103 : decode cX12_readDear 103 = .ok (.aload_n 0, 1) := by decide +kernel
theorem dX12_readDear_104 : decode cX12_readDear 104 = .ok (.dup, 1) := by decide +kernel
theorem dX12_readDear_105 : decode cX12_readDear 105 = .ok (.getfield 379, 3) := by decide +kernel
theorem dX12_readDear_108 : decode cX12_readDear 108 = .ok (.iconst 1, 1) := by decide +kernel
theorem dX12_readDear_109 : decode cX12_readDear 109 = .ok (.iadd, 1) := by decide +kernel
theorem dX12_readDear_110 : decode cX12_readDear 110 = .ok (.putfield 379, 3) := by decide +kernel
theorem dX12_readDear_113 : decode cX12_readDear 113 = .ok (.return_, 1) := by decide +kernel
theorem wl_RX12_379 : Cond.fieldLink RX12 379 (TX12 49).1 (TX12 49).2.1 (TX12 49).2.2.1 ∈ TB := tbm 1464 (by decide +kernel) (by decide +kernel)
def mX12_readDear (t : Nat) (σ : St_) : Option St_ :=
 ((mX12_token t σ).bind fun σ1 =>
 ((mX12_oldName t (6 : Int32) (σ1.1 t 46) σ1).bind fun r2 =>
 (bnd (fun (σ3 : St_) => ((mX12_want t (29807 : Int64) σ3).bind fun σ6 =>
 ((mX12_oldName t (16 : Int32) (σ6.1 t 12) σ6).bind fun r7 =>
 (if (r7.2.1 t 2) ≤ 0 then
 (if bin r7.1 9 = true then bnd (r7.2.1 (t + 3) r7.1.toNatClampNeg) fun v8 =>
 (bnd (((9 : Int32) * r2.1) + v8) fun v9 =>
 (if bin v9 90 = true then bnd (r7.2.1 (t + 19) v9.toNatClampNeg) fun v10 =>
 (bnd (fun (σ11 : St_) => (bnd (fun (σ14 : St_) => ((mX12_toldNumber t (0 : Int32) (99 : Int32) σ14).bind fun r17 =>
 (if bin v9 90 = true then bnd (sI r17.2 (t + 19) v9.toNatClampNeg r17.1) fun σ18 =>
 (bnd (sI σ18 t 49 ((σ18.1 t 49) + (1 : Int32))) fun σ19 =>
 (some σ19))
 else none))) fun k15 =>
 (if (σ11.1 t 2) = 0 then
 ((mX12_token t σ11).bind fun σ20 =>
 (k15 σ20))
 else (k15 σ11)))) fun k12 =>
 (if v10 = (-1 : Int32) then
 (k12 r7.2)
 else ((mX12_wrong t (3 : Int32) r7.2).bind fun σ21 =>
 (k12 σ21))))
 else none))
 else none)
 else (some r7.2))))) fun k4 =>
 (if (r2.2.1 t 2) = 0 then
 ((mX12_token t r2.2).bind fun σ22 =>
 (k4 σ22))
 else (k4 r2.2)))))
set_option maxHeartbeats 4000000 in
theorem rX12_readDear (t : Nat) (hT : LY12 sh P t) : Rj l D cA h0 ad yX12_readDear cX12_readDear 4 none false 5 0 0 (fun b => (none, sh, P, b)) [.ref (h0 + t)] sh P σ (mX12_readDear t σ) := by
  rw [mX12_readDear]
  refine Rj.of (by decide) (fun h => by cases h) (Nat.le_of_ble_eq_true rfl) ?_
  refine tj_lv0 (lv' := [(0, .ref (h0 + t))]) rfl ?_
  refine tj_aload_n (q := 1) dX12_readDear_0 rfl (i := 0) rfl (pl := 0) rfl ?_
  refine tj_callV (q := 4) (kj_V (As := []) (rest := []) (t := t) wi_RX12_267 (hT).s rfl (rX12_token t (hT)) rfl (Nat.le_of_ble_eq_true rfl) ⟨Nat.le_of_ble_eq_true rfl, Nat.le_of_ble_eq_true rfl⟩ (Nat.le_of_ble_eq_true rfl) dX12_readDear_1) rfl (fun σ1 => ?_)
  refine tj_aload_n (q := 5) dX12_readDear_4 rfl (i := 0) rfl (pl := 0) rfl ?_
  refine tj_bipush (q := 7) (v := 6) dX12_readDear_5 rfl (by decide) ?_
  refine tj_aload_n (q := 8) dX12_readDear_7 rfl (i := 0) rfl (pl := 0) rfl ?_
  refine tj_getI (q := 11) (hT).s fok_12_46 wl_RX12_354 dX12_readDear_8 rfl ?_
  refine tj_callI (q := 14) (kj_V (As := [.int (6 : Int32), .int (σ1.1 t 46)]) (rest := []) (t := t) wi_RX12_357 (hT).s rfl (rX12_oldName t (6 : Int32) (σ1.1 t 46) (hT)) rfl (Nat.le_of_ble_eq_true rfl) ⟨Nat.le_of_ble_eq_true rfl, Nat.le_of_ble_eq_true rfl⟩ (Nat.le_of_ble_eq_true rfl) dX12_readDear_11) rfl (fun r2 => ?_)
  refine tj_istore_n (q := 15) dX12_readDear_14 rfl (i := 1) rfl (by decide) rfl ?_
  refine tj_aload_n (q := 16) dX12_readDear_15 rfl (i := 0) rfl (pl := 1) rfl ?_
  refine tj_getI (q := 19) (hT).s fok_12_2 wl_RX12_203 dX12_readDear_16 rfl ?_
  refine tj_bnd (fun k4 => ∀ (σ3 : St_), Tj l D cA h0 ad RX12 cX12_readDear 4 none false 5 0 0 (fun b => (none, sh, P, b)) 0 0 sh P σ3 26 [(0, .ref (h0 + t)), (1, .int r2.1)] [] (k4 σ3)) ?_ (fun k4 hk5 => ?_)
  · intro σ3
    refine tj_aload_n (q := 27) dX12_readDear_26 rfl (i := 0) rfl (pl := 0) rfl ?_
    refine tj_ldc2 (q := 30) (v := 29807) dX12_readDear_27 rfl wc_RX12_232 ?_
    refine tj_callV (q := 33) (kj_V (As := [.long (29807 : Int64)]) (rest := []) (t := t) wi_RX12_270 (hT).s rfl (rX12_want t (29807 : Int64) (hT)) rfl (Nat.le_of_ble_eq_true rfl) ⟨Nat.le_of_ble_eq_true rfl, Nat.le_of_ble_eq_true rfl⟩ (Nat.le_of_ble_eq_true rfl) dX12_readDear_30) rfl (fun σ6 => ?_)
    refine tj_aload_n (q := 34) dX12_readDear_33 rfl (i := 0) rfl (pl := 0) rfl ?_
    refine tj_bipush (q := 36) (v := 16) dX12_readDear_34 rfl (by decide) ?_
    refine tj_aload_n (q := 37) dX12_readDear_36 rfl (i := 0) rfl (pl := 0) rfl ?_
    refine tj_getI (q := 40) (hT).s fok_12_12 wl_RX12_364 dX12_readDear_37 rfl ?_
    refine tj_callI (q := 43) (kj_V (As := [.int (16 : Int32), .int (σ6.1 t 12)]) (rest := []) (t := t) wi_RX12_357 (hT).s rfl (rX12_oldName t (16 : Int32) (σ6.1 t 12) (hT)) rfl (Nat.le_of_ble_eq_true rfl) ⟨Nat.le_of_ble_eq_true rfl, Nat.le_of_ble_eq_true rfl⟩ (Nat.le_of_ble_eq_true rfl) dX12_readDear_40) rfl (fun r7 => ?_)
    refine tj_istore_n (q := 44) dX12_readDear_43 rfl (i := 2) rfl (by decide) rfl ?_
    refine tj_aload_n (q := 45) dX12_readDear_44 rfl (i := 0) rfl (pl := 1) rfl ?_
    refine tj_getI (q := 48) (hT).s fok_12_2 wl_RX12_203 dX12_readDear_45 rfl ?_
    refine tj_if_le (tgt := 52) (q := 51) dX12_readDear_48 (by decide) rfl ?_ ?_
    · refine tj_bipush (q := 54) (v := 9) dX12_readDear_52 rfl (by decide) ?_
      refine tj_iload_n (q := 55) dX12_readDear_54 rfl (i := 1) rfl (pl := 2) rfl ?_
      refine tj_imul (q := 56) dX12_readDear_55 rfl ?_
      refine tj_aload_n (q := 57) dX12_readDear_56 rfl (i := 0) rfl (pl := 1) rfl ?_
      refine tj_getR (q := 60) (hT).s (hT).p_nHolder fok_12_11 wl_RX12_21 dX12_readDear_57 rfl ?_
      refine tj_iload_n (q := 61) dX12_readDear_60 rfl (i := 2) rfl (pl := 0) rfl ?_
      refine tj_iaload (q := 62) (hT).s_nHolder dX12_readDear_61 rfl ?_
      refine tj_topI (fun v8 => ?_)
      refine tj_iadd (q := 63) dX12_readDear_62 rfl ?_
      refine tj_topI (fun v9 => ?_)
      refine tj_istore_n (q := 64) dX12_readDear_63 rfl (i := 3) rfl (by decide) rfl ?_
      refine tj_aload_n (q := 65) dX12_readDear_64 rfl (i := 0) rfl (pl := 2) rfl ?_
      refine tj_getR (q := 68) (hT).s (hT).p_nDear fok_12_35 wl_RX12_69 dX12_readDear_65 rfl ?_
      refine tj_iload_n (q := 69) dX12_readDear_68 rfl (i := 3) rfl (pl := 0) rfl ?_
      refine tj_iaload (q := 70) (hT).s_nDear dX12_readDear_69 rfl ?_
      refine tj_topI (fun v10 => ?_)
      refine tj_iconst (q := 71) (v := (-1)) dX12_readDear_70 rfl (by decide) ?_
      refine tj_bnd (fun k12 => ∀ (σ11 : St_), Tj l D cA h0 ad RX12 cX12_readDear 4 none false 5 0 0 (fun b => (none, sh, P, b)) 0 0 sh P σ11 79 [(0, .ref (h0 + t)), (3, .int v9)] [] (k12 σ11)) ?_ (fun k12 hk13 => ?_)
      · intro σ11
        refine tj_aload_n (q := 80) dX12_readDear_79 rfl (i := 0) rfl (pl := 0) rfl ?_
        refine tj_getI (q := 83) (hT).s fok_12_2 wl_RX12_203 dX12_readDear_80 rfl ?_
        refine tj_bnd (fun k15 => ∀ (σ14 : St_), Tj l D cA h0 ad RX12 cX12_readDear 4 none false 5 0 0 (fun b => (none, sh, P, b)) 0 0 sh P σ14 90 [(0, .ref (h0 + t)), (3, .int v9)] [] (k15 σ14)) ?_ (fun k15 hk16 => ?_)
        · intro σ14
          refine tj_aload_n (q := 91) dX12_readDear_90 rfl (i := 0) rfl (pl := 0) rfl ?_
          refine tj_getR (q := 94) (hT).s (hT).p_nDear fok_12_35 wl_RX12_69 dX12_readDear_91 rfl ?_
          refine tj_iload_n (q := 95) dX12_readDear_94 rfl (i := 3) rfl (pl := 1) rfl ?_
          refine tj_aload_n (q := 96) dX12_readDear_95 rfl (i := 0) rfl (pl := 0) rfl ?_
          refine tj_iconst (q := 97) (v := 0) dX12_readDear_96 rfl (by decide) ?_
          refine tj_bipush (q := 99) (v := 99) dX12_readDear_97 rfl (by decide) ?_
          refine tj_callI (q := 102) (kj_V (As := [.int (0 : Int32), .int (99 : Int32)]) (rest := [.int v9, .ref (h0 + (t + 19))]) (t := t) wi_RX12_274 (hT).s rfl (rX12_toldNumber t (0 : Int32) (99 : Int32) (hT)) rfl (Nat.le_of_ble_eq_true rfl) ⟨Nat.le_of_ble_eq_true rfl, Nat.le_of_ble_eq_true rfl⟩ (Nat.le_of_ble_eq_true rfl) dX12_readDear_99) rfl (fun r17 => ?_)
          refine tj_iastore (q := 103) (hT).s_nDear dX12_readDear_102 rfl (fun σ18 => ?_)
          refine tj_aload_n (q := 104) dX12_readDear_103 rfl (i := 0) rfl (pl := 0) rfl ?_
          refine tj_dup (q := 105) dX12_readDear_104 rfl rfl ?_
          refine tj_getI (q := 108) (hT).s fok_12_49 wl_RX12_379 dX12_readDear_105 rfl ?_
          refine tj_iconst (q := 109) (v := 1) dX12_readDear_108 rfl (by decide) ?_
          refine tj_iadd (q := 110) dX12_readDear_109 rfl ?_
          refine tj_putI (q := 113) (hT).s fok_12_49 tok_12 fpk_12_49 wl_RX12_379 dX12_readDear_110 rfl (fun σ19 => ?_)
          exact tj_vret rfl rfl (Nat.le_of_ble_eq_true rfl) (Nat.le_of_ble_eq_true rfl) dX12_readDear_113
        · refine tj_if_ne (tgt := 90) (q := 86) dX12_readDear_83 (by decide) rfl ?_ ?_
          · refine tj_aload_n (q := 87) dX12_readDear_86 rfl (i := 0) rfl (pl := 0) rfl ?_
            refine tj_callV (q := 90) (kj_V (As := []) (rest := []) (t := t) wi_RX12_267 (hT).s rfl (rX12_token t (hT)) rfl (Nat.le_of_ble_eq_true rfl) ⟨Nat.le_of_ble_eq_true rfl, Nat.le_of_ble_eq_true rfl⟩ (Nat.le_of_ble_eq_true rfl) dX12_readDear_87) rfl (fun σ20 => ?_)
            exact hk16 σ20
          · exact hk16 σ11
      · refine tj_icmp_eq (tgt := 79) (q := 74) dX12_readDear_71 (by decide) rfl ?_ ?_
        · refine tj_lv [2, 0] rfl ?_
          exact hk13 r7.2
        · refine tj_aload_n (q := 75) dX12_readDear_74 rfl (i := 0) rfl (pl := 2) rfl ?_
          refine tj_iconst (q := 76) (v := 3) dX12_readDear_75 rfl (by decide) ?_
          refine tj_callV (q := 79) (kj_V (As := [.int (3 : Int32)]) (rest := []) (t := t) wi_RX12_264 (hT).s rfl (rX12_wrong t (3 : Int32) (hT)) rfl (Nat.le_of_ble_eq_true rfl) ⟨Nat.le_of_ble_eq_true rfl, Nat.le_of_ble_eq_true rfl⟩ (Nat.le_of_ble_eq_true rfl) dX12_readDear_76) rfl (fun σ21 => ?_)
          refine tj_lv [2, 0] rfl ?_
          exact hk13 σ21
    · exact tj_vret rfl rfl (Nat.le_of_ble_eq_true rfl) (Nat.le_of_ble_eq_true rfl) dX12_readDear_51
  · refine tj_if_ne (tgt := 26) (q := 22) dX12_readDear_19 (by decide) rfl ?_ ?_
    · refine tj_aload_n (q := 23) dX12_readDear_22 rfl (i := 0) rfl (pl := 1) rfl ?_
      refine tj_callV (q := 26) (kj_V (As := []) (rest := []) (t := t) wi_RX12_267 (hT).s rfl (rX12_token t (hT)) rfl (Nat.le_of_ble_eq_true rfl) ⟨Nat.le_of_ble_eq_true rfl, Nat.le_of_ble_eq_true rfl⟩ (Nat.le_of_ble_eq_true rfl) dX12_readDear_23) rfl (fun σ22 => ?_)
      refine tj_lv [1, 0] rfl ?_
      exact hk5 σ22
    · refine tj_lv [1, 0] rfl ?_
      exact hk5 r2.2

theorem dX12_readLine_0 : decode cX12_readLine 0 = .ok (.aload_n 0, 1) := by decide +kernel
theorem dX12_readLine_1 : decode cX12_readLine 1 = .ok (.ldc2_w 236, 3) := by decide +kernel
theorem dX12_readLine_4 : decode cX12_readLine 4 = .ok (.invokevirtual 260, 3) := by decide +kernel
theorem dX12_readLine_7 : decode cX12_readLine 7 = .ok (.ifCond .eq 39, 3) := by decide +kernel
theorem dX12_readLine_10 : decode cX12_readLine 10 = .ok (.aload_n 0, 1) := by decide +kernel
theorem dX12_readLine_11 : decode cX12_readLine 11 = .ok (.getfield 382, 3) := by decide +kernel
theorem dX12_readLine_14 : decode cX12_readLine 14 = .ok (.ifCond .ne 32, 3) := by decide +kernel
theorem dX12_readLine_17 : decode cX12_readLine 17 = .ok (.aload_n 0, 1) := by decide +kernel
theorem dX12_readLine_18 : decode cX12_readLine 18 = .ok (.getfield 386, 3) := by decide +kernel
theorem dX12_readLine_21 : decode cX12_readLine 21 = .ok (.ifCond .ne 25, 3) := by decide +kernel
theorem dX12_readLine_24 : decode cX12_readLine 24 = .ok (.aload_n 0, 1) := by decide +kernel
theorem dX12_readLine_25 : decode cX12_readLine 25 = .ok (.iconst 1, 1) := by decide +kernel
theorem dX12_readLine_26 : decode cX12_readLine 26 = .ok (.putfield 382, 3) := by decide +kernel
theorem dX12_readLine_29 : decode cX12_readLine 29 = .ok (.aload_n 0, 1) := by decide +kernel
theorem dX12_readLine_30 : decode cX12_readLine 30 = .ok (.aload_n 0, 1) := by decide +kernel
theorem dX12_readLine_31 : decode cX12_readLine 31 = .ok (.ldc2_w 236, 3) := by decide +kernel
theorem dX12_readLine_34 : decode cX12_readLine 34 = .ok (.iconst 1, 1) := by decide +kernel
theorem dX12_readLine_35 : decode cX12_readLine 35 = .ok (.bipush 9, 2) := by decide +kernel
theorem dX12_readLine_37 : decode cX12_readLine 37 = .ok (.invokevirtual 360, 3) := by decide +kernel
theorem dX12_readLine_40 : decode cX12_readLine 40 = .ok (.putfield 370, 3) := by decide +kernel
theorem dX12_readLine_43 : decode cX12_readLine 43 = .ok (.goto 165, 3) := by decide +kernel
theorem dX12_readLine_46 : decode cX12_readLine 46 = .ok (.aload_n 0, 1) := by decide +kernel
theorem dX12_readLine_47 : decode cX12_readLine 47 = .ok (.ldc2_w 206, 3) := by decide +kernel
theorem dX12_readLine_50 : decode cX12_readLine 50 = .ok (.invokevirtual 260, 3) := by decide +kernel
theorem dX12_readLine_53 : decode cX12_readLine 53 = .ok (.ifCond .eq 19, 3) := by decide +kernel
theorem dX12_readLine_56 : decode cX12_readLine 56 = .ok (.aload_n 0, 1) := by decide +kernel
theorem dX12_readLine_57 : decode cX12_readLine 57 = .ok (.getfield 348, 3) := by decide +kernel
theorem dX12_readLine_60 : decode cX12_readLine 60 = .ok (.bipush 6, 2) := by decide +kernel
theorem dX12_readLine_62 : decode cX12_readLine 62 = .ok (.if_icmp .ge 10, 3) := by decide +kernel
theorem dX12_readLine_65 : decode cX12_readLine 65 = .ok (.aload_n 0, 1) := by decide +kernel
theorem dX12_readLine_66 : decode cX12_readLine 66 = .ok (.invokevirtual 389, 3) := by decide +kernel
theorem dX12_readLine_69 : decode cX12_readLine 69 = .ok (.goto 139, 3) := by decide +kernel
theorem dX12_readLine_72 : decode cX12_readLine 72 = .ok (.aload_n 0, 1) := by decide +kernel
theorem dX12_readLine_73 : decode cX12_readLine 73 = .ok (.ldc2_w 208, 3) := by decide +kernel
theorem dX12_readLine_76 : decode cX12_readLine 76 = .ok (.invokevirtual 260, 3) := by decide +kernel
theorem dX12_readLine_79 : decode cX12_readLine 79 = .ok (.ifCond .eq 19, 3) := by decide +kernel
theorem dX12_readLine_82 : decode cX12_readLine 82 = .ok (.aload_n 0, 1) := by decide +kernel
theorem dX12_readLine_83 : decode cX12_readLine 83 = .ok (.getfield 354, 3) := by decide +kernel
theorem dX12_readLine_86 : decode cX12_readLine 86 = .ok (.bipush 10, 2) := by decide +kernel
theorem dX12_readLine_88 : decode cX12_readLine 88 = .ok (.if_icmp .ge 10, 3) := by decide +kernel
theorem dX12_readLine_91 : decode cX12_readLine 91 = .ok (.aload_n 0, 1) := by decide +kernel
theorem dX12_readLine_92 : decode cX12_readLine 92 = .ok (.invokevirtual 392, 3) := by decide +kernel
theorem dX12_readLine_95 : decode cX12_readLine 95 = .ok (.goto 113, 3) := by decide +kernel
theorem dX12_readLine_98 : decode cX12_readLine 98 = .ok (.aload_n 0, 1) := by decide +kernel
theorem dX12_readLine_99 : decode cX12_readLine 99 = .ok (.ldc2_w 216, 3) := by decide +kernel
theorem dX12_readLine_102 : decode cX12_readLine 102 = .ok (.invokevirtual 260, 3) := by decide +kernel
theorem dX12_readLine_105 : decode cX12_readLine 105 = .ok (.ifCond .eq 18, 3) := by decide +kernel
theorem dX12_readLine_108 : decode cX12_readLine 108 = .ok (.aload_n 0, 1) := by decide +kernel
theorem dX12_readLine_109 : decode cX12_readLine 109 = .ok (.getfield 367, 3) := by decide +kernel
theorem dX12_readLine_112 : decode cX12_readLine 112 = .ok (.iconst 5, 1) := by decide +kernel
theorem dX12_readLine_113 : decode cX12_readLine 113 = .ok (.if_icmp .ge 10, 3) := by decide +kernel
theorem dX12_readLine_116 : decode cX12_readLine 116 = .ok (.aload_n 0, 1) := by decide +kernel
theorem dX12_readLine_117 : decode cX12_readLine 117 = .ok (.invokevirtual 395, 3) := by decide +kernel
theorem dX12_readLine_120 : decode cX12_readLine 120 = .ok (.goto 88, 3) := by decide +kernel
theorem dX12_readLine_123 : decode cX12_readLine 123 = .ok (.aload_n 0, 1) := by decide +kernel
theorem dX12_readLine_124 : decode cX12_readLine 124 = .ok (.ldc2_w 224, 3) := by decide +kernel
theorem dX12_readLine_127 : decode cX12_readLine 127 = .ok (.invokevirtual 260, 3) := by decide +kernel
theorem dX12_readLine_130 : decode cX12_readLine 130 = .ok (.ifCond .eq 18, 3) := by decide +kernel
theorem dX12_readLine_133 : decode cX12_readLine 133 = .ok (.aload_n 0, 1) := by decide +kernel
theorem dX12_readLine_134 : decode cX12_readLine 134 = .ok (.getfield 376, 3) := by decide +kernel
theorem dX12_readLine_137 : decode cX12_readLine 137 = .ok (.iconst 4, 1) := by decide +kernel
theorem dX12_readLine_138 : decode cX12_readLine 138 = .ok (.if_icmp .ge 10, 3) := by decide +kernel
theorem dX12_readLine_141 : decode cX12_readLine 141 = .ok (.aload_n 0, 1) := by decide +kernel
theorem dX12_readLine_142 : decode cX12_readLine 142 = .ok (.invokevirtual 398, 3) := by decide +kernel
theorem dX12_readLine_145 : decode cX12_readLine 145 = .ok (.goto 63, 3) := by decide +kernel
theorem dX12_readLine_148 : decode cX12_readLine 148 = .ok (.aload_n 0, 1) := by decide +kernel
theorem dX12_readLine_149 : decode cX12_readLine 149 = .ok (.ldc2_w 230, 3) := by decide +kernel
theorem dX12_readLine_152 : decode cX12_readLine 152 = .ok (.invokevirtual 260, 3) := by decide +kernel
theorem dX12_readLine_155 : decode cX12_readLine 155 = .ok (.ifCond .eq 19, 3) := by decide +kernel
theorem dX12_readLine_158 : decode cX12_readLine 158 = .ok (.aload_n 0, 1) := by decide +kernel
theorem dX12_readLine_159 : decode cX12_readLine 159 = .ok (.getfield 379, 3) := by decide +kernel
theorem dX12_readLine_162 : decode cX12_readLine 162 = .ok (.bipush 20, 2) := by decide +kernel
theorem dX12_readLine_164 : decode cX12_readLine 164 = .ok (.if_icmp .ge 10, 3) := by decide +kernel
theorem dX12_readLine_167 : decode cX12_readLine 167 = .ok (.aload_n 0, 1) := by decide +kernel
theorem dX12_readLine_168 : decode cX12_readLine 168 = .ok (.invokevirtual 401, 3) := by decide +kernel
theorem dX12_readLine_171 : decode cX12_readLine 171 = .ok (.goto 37, 3) := by decide +kernel
theorem dX12_readLine_174 : decode cX12_readLine 174 = .ok (.aload_n 0, 1) := by decide +kernel
theorem dX12_readLine_175 : decode cX12_readLine 175 = .ok (.ldc2_w 234, 3) := by decide +kernel
theorem dX12_readLine_178 : decode cX12_readLine 178 = .ok (.invokevirtual 260, 3) := by decide +kernel
theorem dX12_readLine_181 : decode cX12_readLine 181 = .ok (.ifCond .eq 22, 3) := by decide +kernel
theorem dX12_readLine_184 : decode cX12_readLine 184 = .ok (.aload_n 0, 1) := by decide +kernel
theorem dX12_readLine_185 : decode cX12_readLine 185 = .ok (.getfield 404, 3) := by decide +kernel
theorem dX12_readLine_188 : decode cX12_readLine 188 = .ok (.ifCond .ne 15, 3) := by decide +kernel
theorem dX12_readLine_191 : decode cX12_readLine 191 = .ok (.aload_n 0, 1) := by decide +kernel
theorem dX12_readLine_192 : decode cX12_readLine 192 = .ok (.iconst 1, 1) := by decide +kernel
theorem dX12_readLine_193 : decode cX12_readLine 193 = .ok (.putfield 404, 3) := by decide +kernel
theorem dX12_readLine_196 : decode cX12_readLine 196 = .ok (.aload_n 0, 1) := by decide +kernel
theorem dX12_readLine_197 : decode cX12_readLine 197 = .ok (.invokevirtual 407, 3) := by decide +kernel
theorem dX12_readLine_200 : decode cX12_readLine 200 = .ok (.goto 8, 3) := by decide +kernel
theorem dX12_readLine_203 : decode cX12_readLine 203 = .ok (.aload_n 0, 1) := by decide +kernel
theorem dX12_readLine_204 : decode cX12_readLine 204 = .ok (.iconst 2, 1) := by decide +kernel
theorem dX12_readLine_205 : decode cX12_readLine 205 = .ok (.invokevirtual 264, 3) := by decide +kernel
theorem dX12_readLine_208 : decode cX12_readLine 208 = .ok (.aload_n 0, 1) := by decide +kernel
theorem dX12_readLine_209 : decode cX12_readLine 209 = .ok (.iconst 1, 1) := by decide +kernel
theorem dX12_readLine_210 : decode cX12_readLine 210 = .ok (.putfield 386, 3) := by decide +kernel
theorem dX12_readLine_213 : decode cX12_readLine 213 = .ok (.aload_n 0, 1) := by decide +kernel
theorem dX12_readLine_214 : decode cX12_readLine 214 = .ok (.getfield 203, 3) := by decide +kernel
theorem dX12_readLine_217 : decode cX12_readLine 217 = .ok (.ifCond .ne 17, 3) := by decide +kernel
theorem dX12_readLine_220 : decode cX12_readLine 220 = .ok (.aload_n 0, 1) := by decide +kernel
theorem dX12_readLine_221 : decode cX12_readLine 221 = .ok (.getfield 190, 3) := by decide +kernel
theorem dX12_readLine_224 : decode cX12_readLine 224 = .ok (.bipush 59, 2) := by decide +kernel
theorem dX12_readLine_226 : decode cX12_readLine 226 = .ok (.if_icmp .eq 8, 3) := by decide +kernel
theorem dX12_readLine_229 : decode cX12_readLine 229 = .ok (.aload_n 0, 1) := by decide +kernel
theorem dX12_readLine_230 : decode cX12_readLine 230 = .ok (.iconst 2, 1) := by decide +kernel
theorem dX12_readLine_231 : decode cX12_readLine 231 = .ok (.invokevirtual 264, 3) := by decide +kernel
theorem dX12_readLine_234 : decode cX12_readLine 234 = .ok (.aload_n 0, 1) := by decide +kernel
theorem dX12_readLine_235 : decode cX12_readLine 235 = .ok (.getfield 203, 3) := by decide +kernel
theorem dX12_readLine_238 : decode cX12_readLine 238 = .ok (.ifCond .ne 7, 3) := by decide +kernel
theorem dX12_readLine_241 : decode cX12_readLine 241 = .ok (.aload_n 0, 1) := by decide +kernel
theorem dX12_readLine_242 : decode cX12_readLine 242 = .ok (.invokevirtual 267, 3) := by decide +kernel
theorem dX12_readLine_245 : decode cX12_readLine 245 = .ok (.return_, 1) := by decide +kernel
theorem wl_RX12_382 : Cond.fieldLink RX12 382 (TX12 56).1 (TX12 56).2.1 (TX12 56).2.2.1 ∈ TB := tbm 1471 (by decide +kernel) (by decide +kernel)
theorem wl_RX12_386 : Cond.fieldLink RX12 386 (TX12 57).1 (TX12 57).2.1 (TX12 57).2.2.1 ∈ TB := tbm 1472 (by decide +kernel) (by decide +kernel)
theorem wm_X12_readKind : Cond.instanceMethod yX12_readKind ∈ TB ∧ Cond.selects yX12_readKind.cls yX12_readKind yX12_readKind ∈ TB ∧ Cond.initialized yX12_readKind.cls ∈ TB ∧ Cond.code yX12_readKind cX12_readKind 1 none ∈ TB ∧ (yX12_readKind.cls ≠ "java/lang/invoke/MethodHandle" ∧ yX12_readKind.cls ≠ "java/lang/invoke/VarHandle" ∧ (parseMethodDescriptor yX12_readKind.desc).map (fun d => d.parameters.length) = some 0) ∧ 1 ≤ 21 := ⟨tbm 1754 (by decide +kernel) (by decide +kernel), tbm 65 (by decide +kernel) (by decide +kernel), tbm 146 (by decide +kernel) (by decide +kernel), tbm 1755 (by decide +kernel) (by decide +kernel), by decide +kernel, by decide⟩
theorem wi_RX12_389 : Iv RX12 389 yX12_readKind cX12_readKind 1 none 0 := ⟨tbm 1752 (by decide +kernel) (by decide +kernel), wm_X12_readKind⟩
theorem wm_X12_readThing : Cond.instanceMethod yX12_readThing ∈ TB ∧ Cond.selects yX12_readThing.cls yX12_readThing yX12_readThing ∈ TB ∧ Cond.initialized yX12_readThing.cls ∈ TB ∧ Cond.code yX12_readThing cX12_readThing 3 none ∈ TB ∧ (yX12_readThing.cls ≠ "java/lang/invoke/MethodHandle" ∧ yX12_readThing.cls ≠ "java/lang/invoke/VarHandle" ∧ (parseMethodDescriptor yX12_readThing.desc).map (fun d => d.parameters.length) = some 0) ∧ 3 ≤ 21 := ⟨tbm 1797 (by decide +kernel) (by decide +kernel), tbm 70 (by decide +kernel) (by decide +kernel), tbm 146 (by decide +kernel) (by decide +kernel), tbm 1798 (by decide +kernel) (by decide +kernel), by decide +kernel, by decide⟩
theorem wi_RX12_392 : Iv RX12 392 yX12_readThing cX12_readThing 3 none 0 := ⟨tbm 1795 (by decide +kernel) (by decide +kernel), wm_X12_readThing⟩
theorem wm_X12_readHouse : Cond.instanceMethod yX12_readHouse ∈ TB ∧ Cond.selects yX12_readHouse.cls yX12_readHouse yX12_readHouse ∈ TB ∧ Cond.initialized yX12_readHouse.cls ∈ TB ∧ Cond.code yX12_readHouse cX12_readHouse 2 none ∈ TB ∧ (yX12_readHouse.cls ≠ "java/lang/invoke/MethodHandle" ∧ yX12_readHouse.cls ≠ "java/lang/invoke/VarHandle" ∧ (parseMethodDescriptor yX12_readHouse.desc).map (fun d => d.parameters.length) = some 0) ∧ 2 ≤ 21 := ⟨tbm 1805 (by decide +kernel) (by decide +kernel), tbm 72 (by decide +kernel) (by decide +kernel), tbm 146 (by decide +kernel) (by decide +kernel), tbm 1806 (by decide +kernel) (by decide +kernel), by decide +kernel, by decide⟩
theorem wi_RX12_395 : Iv RX12 395 yX12_readHouse cX12_readHouse 2 none 0 := ⟨tbm 1803 (by decide +kernel) (by decide +kernel), wm_X12_readHouse⟩
theorem wm_X12_readThief : Cond.instanceMethod yX12_readThief ∈ TB ∧ Cond.selects yX12_readThief.cls yX12_readThief yX12_readThief ∈ TB ∧ Cond.initialized yX12_readThief.cls ∈ TB ∧ Cond.code yX12_readThief cX12_readThief 2 none ∈ TB ∧ (yX12_readThief.cls ≠ "java/lang/invoke/MethodHandle" ∧ yX12_readThief.cls ≠ "java/lang/invoke/VarHandle" ∧ (parseMethodDescriptor yX12_readThief.desc).map (fun d => d.parameters.length) = some 0) ∧ 2 ≤ 21 := ⟨tbm 1813 (by decide +kernel) (by decide +kernel), tbm 74 (by decide +kernel) (by decide +kernel), tbm 146 (by decide +kernel) (by decide +kernel), tbm 1814 (by decide +kernel) (by decide +kernel), by decide +kernel, by decide⟩
theorem wi_RX12_398 : Iv RX12 398 yX12_readThief cX12_readThief 2 none 0 := ⟨tbm 1811 (by decide +kernel) (by decide +kernel), wm_X12_readThief⟩
theorem wm_X12_readDear : Cond.instanceMethod yX12_readDear ∈ TB ∧ Cond.selects yX12_readDear.cls yX12_readDear yX12_readDear ∈ TB ∧ Cond.initialized yX12_readDear.cls ∈ TB ∧ Cond.code yX12_readDear cX12_readDear 4 none ∈ TB ∧ (yX12_readDear.cls ≠ "java/lang/invoke/MethodHandle" ∧ yX12_readDear.cls ≠ "java/lang/invoke/VarHandle" ∧ (parseMethodDescriptor yX12_readDear.desc).map (fun d => d.parameters.length) = some 0) ∧ 4 ≤ 21 := ⟨tbm 1817 (by decide +kernel) (by decide +kernel), tbm 75 (by decide +kernel) (by decide +kernel), tbm 146 (by decide +kernel) (by decide +kernel), tbm 1818 (by decide +kernel) (by decide +kernel), by decide +kernel, by decide⟩
theorem wi_RX12_401 : Iv RX12 401 yX12_readDear cX12_readDear 4 none 0 := ⟨tbm 1815 (by decide +kernel) (by decide +kernel), wm_X12_readDear⟩
theorem wl_RX12_404 : Cond.fieldLink RX12 404 (TX12 58).1 (TX12 58).2.1 (TX12 58).2.2.1 ∈ TB := tbm 1473 (by decide +kernel) (by decide +kernel)
theorem wm_X12_readLaw : Cond.instanceMethod yX12_readLaw ∈ TB ∧ Cond.selects yX12_readLaw.cls yX12_readLaw yX12_readLaw ∈ TB ∧ Cond.initialized yX12_readLaw.cls ∈ TB ∧ Cond.code yX12_readLaw cX12_readLaw 3 none ∈ TB ∧ (yX12_readLaw.cls ≠ "java/lang/invoke/MethodHandle" ∧ yX12_readLaw.cls ≠ "java/lang/invoke/VarHandle" ∧ (parseMethodDescriptor yX12_readLaw.desc).map (fun d => d.parameters.length) = some 0) ∧ 3 ≤ 21 := ⟨tbm 1821 (by decide +kernel) (by decide +kernel), tbm 76 (by decide +kernel) (by decide +kernel), tbm 146 (by decide +kernel) (by decide +kernel), tbm 1822 (by decide +kernel) (by decide +kernel), by decide +kernel, by decide⟩
theorem wi_RX12_407 : Iv RX12 407 yX12_readLaw cX12_readLaw 3 none 0 := ⟨tbm 1819 (by decide +kernel) (by decide +kernel), wm_X12_readLaw⟩
def mX12_readLine (t : Nat) (σ : St_) : Option St_ :=
 ((mX12_isWord t (474214787188 : Int64) σ).bind fun r1 =>
 (bnd (fun (σ2 : St_) => (bnd (sI σ2 t 57 (b2i true)) fun σ5 =>
 (bnd (fun (σ6 : St_) => (if (σ6.1 t 2) = 0 then
 ((mX12_token t σ6).bind fun σ9 =>
 (some σ9))
 else (some σ6))) fun k7 =>
 (if (σ5.1 t 2) = 0 then
 (if (σ5.1 t 6) = (59 : Int32) then
 (k7 σ5)
 else ((mX12_wrong t (2 : Int32) σ5).bind fun σ10 =>
 (k7 σ10)))
 else (k7 σ5))))) fun k3 =>
 (bnd ((mX12_isWord t (1802071652 : Int64) σ).bind fun r13 =>
 (bnd ((mX12_isWord t (499967946343 : Int64) σ).bind fun r16 =>
 (bnd ((mX12_isWord t (448546567013 : Int64) σ).bind fun r19 =>
 (bnd ((mX12_isWord t (499967944038 : Int64) σ).bind fun r22 =>
 (bnd ((mX12_isWord t (1684365682 : Int64) σ).bind fun r25 =>
 (bnd ((mX12_isWord t (7102839 : Int64) σ).bind fun r28 =>
 (bnd ((mX12_wrong t (2 : Int32) σ).bind fun σ31 =>
 (k3 σ31)) fun k29 =>
 (if r28 = true then
 (if (σ.1 t 58) = 0 then
 (bnd (sI σ t 58 (b2i true)) fun σ32 =>
 ((mX12_readLaw t σ32).bind fun σ33 =>
 (k3 σ33)))
 else (k29))
 else (k29)))) fun k26 =>
 (if r25 = true then
 (if (20 : Int32) ≤ (σ.1 t 49) then
 (k26)
 else ((mX12_readDear t σ).bind fun σ34 =>
 (k3 σ34)))
 else (k26)))) fun k23 =>
 (if r22 = true then
 (if (4 : Int32) ≤ (σ.1 t 48) then
 (k23)
 else ((mX12_readThief t σ).bind fun σ35 =>
 (k3 σ35)))
 else (k23)))) fun k20 =>
 (if r19 = true then
 (if (5 : Int32) ≤ (σ.1 t 47) then
 (k20)
 else ((mX12_readHouse t σ).bind fun σ36 =>
 (k3 σ36)))
 else (k20)))) fun k17 =>
 (if r16 = true then
 (if (10 : Int32) ≤ (σ.1 t 46) then
 (k17)
 else ((mX12_readThing t σ).bind fun σ37 =>
 (k3 σ37)))
 else (k17)))) fun k14 =>
 (if r13 = true then
 (if (6 : Int32) ≤ (σ.1 t 45) then
 (k14)
 else ((mX12_readKind t σ).bind fun σ38 =>
 (k3 σ38)))
 else (k14)))) fun k11 =>
 (if r1 = true then
 (if (σ.1 t 56) = 0 then
 (if (σ.1 t 57) = 0 then
 (bnd (sI σ t 56 (b2i true)) fun σ39 =>
 ((mX12_told t (474214787188 : Int64) (1 : Int32) (9 : Int32) σ39).bind fun r40 =>
 (bnd (sI r40.2 t 50 r40.1) fun σ41 =>
 (k3 σ41))))
 else (k11))
 else (k11))
 else (k11)))))
set_option maxHeartbeats 4000000 in
theorem rX12_readLine (t : Nat) (hT : LY12 sh P t) : Rj l D cA h0 ad yX12_readLine cX12_readLine 1 none false 7 0 0 (fun b => (none, sh, P, b)) [.ref (h0 + t)] sh P σ (mX12_readLine t σ) := by
  rw [mX12_readLine]
  refine Rj.of (by decide) (fun h => by cases h) (Nat.le_of_ble_eq_true rfl) ?_
  refine tj_lv0 (lv' := [(0, .ref (h0 + t))]) rfl ?_
  refine tj_aload_n (q := 1) dX12_readLine_0 rfl (i := 0) rfl (pl := 0) rfl ?_
  refine tj_ldc2 (q := 4) (v := 474214787188) dX12_readLine_1 rfl wc_RX12_236 ?_
  refine tj_callZp (q := 7) (kj_V (As := [.long (474214787188 : Int64)]) (rest := []) (t := t) wi_RX12_260 (hT).s rfl (rX12_isWord t (474214787188 : Int64) (hT)) rfl (Nat.le_of_ble_eq_true rfl) ⟨Nat.le_of_ble_eq_true rfl, Nat.le_of_ble_eq_true rfl⟩ (Nat.le_of_ble_eq_true rfl) dX12_readLine_4) rfl (fun r1 => ?_)
  refine tj_bnd (fun k3 => ∀ (σ2 : St_), Tj l D cA h0 ad RX12 cX12_readLine 1 none false 7 0 0 (fun b => (none, sh, P, b)) 0 0 sh P σ2 208 [(0, .ref (h0 + t))] [] (k3 σ2)) ?_ (fun k3 hk4 => ?_)
  · intro σ2
    refine tj_aload_n (q := 209) dX12_readLine_208 rfl (i := 0) rfl (pl := 0) rfl ?_
    refine tj_iconst (q := 210) (v := 1) dX12_readLine_209 rfl (by decide) ?_
    refine tj_putZ (x := true) (q := 213) (hT).s fok_12_57 tok_12 fpk_12_57 wl_RX12_386 dX12_readLine_210 rfl (fun σ5 => ?_)
    refine tj_aload_n (q := 214) dX12_readLine_213 rfl (i := 0) rfl (pl := 0) rfl ?_
    refine tj_getI (q := 217) (hT).s fok_12_2 wl_RX12_203 dX12_readLine_214 rfl ?_
    refine tj_bnd (fun k7 => ∀ (σ6 : St_), Tj l D cA h0 ad RX12 cX12_readLine 1 none false 7 0 0 (fun b => (none, sh, P, b)) 0 0 sh P σ6 234 [(0, .ref (h0 + t))] [] (k7 σ6)) ?_ (fun k7 hk8 => ?_)
    · intro σ6
      refine tj_aload_n (q := 235) dX12_readLine_234 rfl (i := 0) rfl (pl := 0) rfl ?_
      refine tj_getI (q := 238) (hT).s fok_12_2 wl_RX12_203 dX12_readLine_235 rfl ?_
      refine tj_if_ne (tgt := 245) (q := 241) dX12_readLine_238 (by decide) rfl ?_ ?_
      · refine tj_aload_n (q := 242) dX12_readLine_241 rfl (i := 0) rfl (pl := 0) rfl ?_
        refine tj_callV (q := 245) (kj_V (As := []) (rest := []) (t := t) wi_RX12_267 (hT).s rfl (rX12_token t (hT)) rfl (Nat.le_of_ble_eq_true rfl) ⟨Nat.le_of_ble_eq_true rfl, Nat.le_of_ble_eq_true rfl⟩ (Nat.le_of_ble_eq_true rfl) dX12_readLine_242) rfl (fun σ9 => ?_)
        exact tj_vret rfl rfl (Nat.le_of_ble_eq_true rfl) (Nat.le_of_ble_eq_true rfl) dX12_readLine_245
      · exact tj_vret rfl rfl (Nat.le_of_ble_eq_true rfl) (Nat.le_of_ble_eq_true rfl) dX12_readLine_245
    · refine tj_if_ne (tgt := 234) (q := 220) dX12_readLine_217 (by decide) rfl ?_ ?_
      · refine tj_aload_n (q := 221) dX12_readLine_220 rfl (i := 0) rfl (pl := 0) rfl ?_
        refine tj_getI (q := 224) (hT).s fok_12_6 wl_RX12_190 dX12_readLine_221 rfl ?_
        refine tj_bipush (q := 226) (v := 59) dX12_readLine_224 rfl (by decide) ?_
        refine tj_icmp_eq (tgt := 234) (q := 229) dX12_readLine_226 (by decide) rfl ?_ ?_
        · exact hk8 σ5
        · refine tj_aload_n (q := 230) dX12_readLine_229 rfl (i := 0) rfl (pl := 0) rfl ?_
          refine tj_iconst (q := 231) (v := 2) dX12_readLine_230 rfl (by decide) ?_
          refine tj_callV (q := 234) (kj_V (As := [.int (2 : Int32)]) (rest := []) (t := t) wi_RX12_264 (hT).s rfl (rX12_wrong t (2 : Int32) (hT)) rfl (Nat.le_of_ble_eq_true rfl) ⟨Nat.le_of_ble_eq_true rfl, Nat.le_of_ble_eq_true rfl⟩ (Nat.le_of_ble_eq_true rfl) dX12_readLine_231) rfl (fun σ10 => ?_)
          exact hk8 σ10
      · exact hk8 σ5
  · refine tj_bnd (fun k11 => Tj l D cA h0 ad RX12 cX12_readLine 1 none false 7 0 0 (fun b => (none, sh, P, b)) 0 0 sh P σ 46 [(0, .ref (h0 + t))] [] k11) ?_ (fun k11 hk12 => ?_)
    · refine tj_aload_n (q := 47) dX12_readLine_46 rfl (i := 0) rfl (pl := 0) rfl ?_
      refine tj_ldc2 (q := 50) (v := 1802071652) dX12_readLine_47 rfl wc_RX12_206 ?_
      refine tj_callZp (q := 53) (kj_V (As := [.long (1802071652 : Int64)]) (rest := []) (t := t) wi_RX12_260 (hT).s rfl (rX12_isWord t (1802071652 : Int64) (hT)) rfl (Nat.le_of_ble_eq_true rfl) ⟨Nat.le_of_ble_eq_true rfl, Nat.le_of_ble_eq_true rfl⟩ (Nat.le_of_ble_eq_true rfl) dX12_readLine_50) rfl (fun r13 => ?_)
      refine tj_bnd (fun k14 => Tj l D cA h0 ad RX12 cX12_readLine 1 none false 7 0 0 (fun b => (none, sh, P, b)) 0 0 sh P σ 72 [(0, .ref (h0 + t))] [] k14) ?_ (fun k14 hk15 => ?_)
      · refine tj_aload_n (q := 73) dX12_readLine_72 rfl (i := 0) rfl (pl := 0) rfl ?_
        refine tj_ldc2 (q := 76) (v := 499967946343) dX12_readLine_73 rfl wc_RX12_208 ?_
        refine tj_callZp (q := 79) (kj_V (As := [.long (499967946343 : Int64)]) (rest := []) (t := t) wi_RX12_260 (hT).s rfl (rX12_isWord t (499967946343 : Int64) (hT)) rfl (Nat.le_of_ble_eq_true rfl) ⟨Nat.le_of_ble_eq_true rfl, Nat.le_of_ble_eq_true rfl⟩ (Nat.le_of_ble_eq_true rfl) dX12_readLine_76) rfl (fun r16 => ?_)
        refine tj_bnd (fun k17 => Tj l D cA h0 ad RX12 cX12_readLine 1 none false 7 0 0 (fun b => (none, sh, P, b)) 0 0 sh P σ 98 [(0, .ref (h0 + t))] [] k17) ?_ (fun k17 hk18 => ?_)
        · refine tj_aload_n (q := 99) dX12_readLine_98 rfl (i := 0) rfl (pl := 0) rfl ?_
          refine tj_ldc2 (q := 102) (v := 448546567013) dX12_readLine_99 rfl wc_RX12_216 ?_
          refine tj_callZp (q := 105) (kj_V (As := [.long (448546567013 : Int64)]) (rest := []) (t := t) wi_RX12_260 (hT).s rfl (rX12_isWord t (448546567013 : Int64) (hT)) rfl (Nat.le_of_ble_eq_true rfl) ⟨Nat.le_of_ble_eq_true rfl, Nat.le_of_ble_eq_true rfl⟩ (Nat.le_of_ble_eq_true rfl) dX12_readLine_102) rfl (fun r19 => ?_)
          refine tj_bnd (fun k20 => Tj l D cA h0 ad RX12 cX12_readLine 1 none false 7 0 0 (fun b => (none, sh, P, b)) 0 0 sh P σ 123 [(0, .ref (h0 + t))] [] k20) ?_ (fun k20 hk21 => ?_)
          · refine tj_aload_n (q := 124) dX12_readLine_123 rfl (i := 0) rfl (pl := 0) rfl ?_
            refine tj_ldc2 (q := 127) (v := 499967944038) dX12_readLine_124 rfl wc_RX12_224 ?_
            refine tj_callZp (q := 130) (kj_V (As := [.long (499967944038 : Int64)]) (rest := []) (t := t) wi_RX12_260 (hT).s rfl (rX12_isWord t (499967944038 : Int64) (hT)) rfl (Nat.le_of_ble_eq_true rfl) ⟨Nat.le_of_ble_eq_true rfl, Nat.le_of_ble_eq_true rfl⟩ (Nat.le_of_ble_eq_true rfl) dX12_readLine_127) rfl (fun r22 => ?_)
            refine tj_bnd (fun k23 => Tj l D cA h0 ad RX12 cX12_readLine 1 none false 7 0 0 (fun b => (none, sh, P, b)) 0 0 sh P σ 148 [(0, .ref (h0 + t))] [] k23) ?_ (fun k23 hk24 => ?_)
            · refine tj_aload_n (q := 149) dX12_readLine_148 rfl (i := 0) rfl (pl := 0) rfl ?_
              refine tj_ldc2 (q := 152) (v := 1684365682) dX12_readLine_149 rfl wc_RX12_230 ?_
              refine tj_callZp (q := 155) (kj_V (As := [.long (1684365682 : Int64)]) (rest := []) (t := t) wi_RX12_260 (hT).s rfl (rX12_isWord t (1684365682 : Int64) (hT)) rfl (Nat.le_of_ble_eq_true rfl) ⟨Nat.le_of_ble_eq_true rfl, Nat.le_of_ble_eq_true rfl⟩ (Nat.le_of_ble_eq_true rfl) dX12_readLine_152) rfl (fun r25 => ?_)
              refine tj_bnd (fun k26 => Tj l D cA h0 ad RX12 cX12_readLine 1 none false 7 0 0 (fun b => (none, sh, P, b)) 0 0 sh P σ 174 [(0, .ref (h0 + t))] [] k26) ?_ (fun k26 hk27 => ?_)
              · refine tj_aload_n (q := 175) dX12_readLine_174 rfl (i := 0) rfl (pl := 0) rfl ?_
                refine tj_ldc2 (q := 178) (v := 7102839) dX12_readLine_175 rfl wc_RX12_234 ?_
                refine tj_callZp (q := 181) (kj_V (As := [.long (7102839 : Int64)]) (rest := []) (t := t) wi_RX12_260 (hT).s rfl (rX12_isWord t (7102839 : Int64) (hT)) rfl (Nat.le_of_ble_eq_true rfl) ⟨Nat.le_of_ble_eq_true rfl, Nat.le_of_ble_eq_true rfl⟩ (Nat.le_of_ble_eq_true rfl) dX12_readLine_178) rfl (fun r28 => ?_)
                refine tj_bnd (fun k29 => Tj l D cA h0 ad RX12 cX12_readLine 1 none false 7 0 0 (fun b => (none, sh, P, b)) 0 0 sh P σ 203 [(0, .ref (h0 + t))] [] k29) ?_ (fun k29 hk30 => ?_)
                · refine tj_aload_n (q := 204) dX12_readLine_203 rfl (i := 0) rfl (pl := 0) rfl ?_
                  refine tj_iconst (q := 205) (v := 2) dX12_readLine_204 rfl (by decide) ?_
                  refine tj_callV (q := 208) (kj_V (As := [.int (2 : Int32)]) (rest := []) (t := t) wi_RX12_264 (hT).s rfl (rX12_wrong t (2 : Int32) (hT)) rfl (Nat.le_of_ble_eq_true rfl) ⟨Nat.le_of_ble_eq_true rfl, Nat.le_of_ble_eq_true rfl⟩ (Nat.le_of_ble_eq_true rfl) dX12_readLine_205) rfl (fun σ31 => ?_)
                  exact hk4 σ31
                · refine tj_bz (tgt := 203) (q := 184) dX12_readLine_181 (by decide) rfl ?_ ?_
                  · refine tj_aload_n (q := 185) dX12_readLine_184 rfl (i := 0) rfl (pl := 0) rfl ?_
                    refine tj_getI (q := 188) (hT).s fok_12_58 wl_RX12_404 dX12_readLine_185 rfl ?_
                    refine tj_if_ne (tgt := 203) (q := 191) dX12_readLine_188 (by decide) rfl ?_ ?_
                    · refine tj_aload_n (q := 192) dX12_readLine_191 rfl (i := 0) rfl (pl := 0) rfl ?_
                      refine tj_iconst (q := 193) (v := 1) dX12_readLine_192 rfl (by decide) ?_
                      refine tj_putZ (x := true) (q := 196) (hT).s fok_12_58 tok_12 fpk_12_58 wl_RX12_404 dX12_readLine_193 rfl (fun σ32 => ?_)
                      refine tj_aload_n (q := 197) dX12_readLine_196 rfl (i := 0) rfl (pl := 0) rfl ?_
                      refine tj_callV (q := 200) (kj_V (As := []) (rest := []) (t := t) wi_RX12_407 (hT).s rfl (rX12_readLaw t (hT)) rfl (Nat.le_of_ble_eq_true rfl) ⟨Nat.le_of_ble_eq_true rfl, Nat.le_of_ble_eq_true rfl⟩ (Nat.le_of_ble_eq_true rfl) dX12_readLine_197) rfl (fun σ33 => ?_)
                      refine tj_goto (q := 208) dX12_readLine_200 (by decide) ?_
                      exact hk4 σ33
                    · exact hk30
                  · exact hk30
              · refine tj_bz (tgt := 174) (q := 158) dX12_readLine_155 (by decide) rfl ?_ ?_
                · refine tj_aload_n (q := 159) dX12_readLine_158 rfl (i := 0) rfl (pl := 0) rfl ?_
                  refine tj_getI (q := 162) (hT).s fok_12_49 wl_RX12_379 dX12_readLine_159 rfl ?_
                  refine tj_bipush (q := 164) (v := 20) dX12_readLine_162 rfl (by decide) ?_
                  refine tj_icmp_ge (tgt := 174) (q := 167) dX12_readLine_164 (by decide) rfl ?_ ?_
                  · exact hk27
                  · refine tj_aload_n (q := 168) dX12_readLine_167 rfl (i := 0) rfl (pl := 0) rfl ?_
                    refine tj_callV (q := 171) (kj_V (As := []) (rest := []) (t := t) wi_RX12_401 (hT).s rfl (rX12_readDear t (hT)) rfl (Nat.le_of_ble_eq_true rfl) ⟨Nat.le_of_ble_eq_true rfl, Nat.le_of_ble_eq_true rfl⟩ (Nat.le_of_ble_eq_true rfl) dX12_readLine_168) rfl (fun σ34 => ?_)
                    refine tj_goto (q := 208) dX12_readLine_171 (by decide) ?_
                    exact hk4 σ34
                · exact hk27
            · refine tj_bz (tgt := 148) (q := 133) dX12_readLine_130 (by decide) rfl ?_ ?_
              · refine tj_aload_n (q := 134) dX12_readLine_133 rfl (i := 0) rfl (pl := 0) rfl ?_
                refine tj_getI (q := 137) (hT).s fok_12_48 wl_RX12_376 dX12_readLine_134 rfl ?_
                refine tj_iconst (q := 138) (v := 4) dX12_readLine_137 rfl (by decide) ?_
                refine tj_icmp_ge (tgt := 148) (q := 141) dX12_readLine_138 (by decide) rfl ?_ ?_
                · exact hk24
                · refine tj_aload_n (q := 142) dX12_readLine_141 rfl (i := 0) rfl (pl := 0) rfl ?_
                  refine tj_callV (q := 145) (kj_V (As := []) (rest := []) (t := t) wi_RX12_398 (hT).s rfl (rX12_readThief t (hT)) rfl (Nat.le_of_ble_eq_true rfl) ⟨Nat.le_of_ble_eq_true rfl, Nat.le_of_ble_eq_true rfl⟩ (Nat.le_of_ble_eq_true rfl) dX12_readLine_142) rfl (fun σ35 => ?_)
                  refine tj_goto (q := 208) dX12_readLine_145 (by decide) ?_
                  exact hk4 σ35
              · exact hk24
          · refine tj_bz (tgt := 123) (q := 108) dX12_readLine_105 (by decide) rfl ?_ ?_
            · refine tj_aload_n (q := 109) dX12_readLine_108 rfl (i := 0) rfl (pl := 0) rfl ?_
              refine tj_getI (q := 112) (hT).s fok_12_47 wl_RX12_367 dX12_readLine_109 rfl ?_
              refine tj_iconst (q := 113) (v := 5) dX12_readLine_112 rfl (by decide) ?_
              refine tj_icmp_ge (tgt := 123) (q := 116) dX12_readLine_113 (by decide) rfl ?_ ?_
              · exact hk21
              · refine tj_aload_n (q := 117) dX12_readLine_116 rfl (i := 0) rfl (pl := 0) rfl ?_
                refine tj_callV (q := 120) (kj_V (As := []) (rest := []) (t := t) wi_RX12_395 (hT).s rfl (rX12_readHouse t (hT)) rfl (Nat.le_of_ble_eq_true rfl) ⟨Nat.le_of_ble_eq_true rfl, Nat.le_of_ble_eq_true rfl⟩ (Nat.le_of_ble_eq_true rfl) dX12_readLine_117) rfl (fun σ36 => ?_)
                refine tj_goto (q := 208) dX12_readLine_120 (by decide) ?_
                exact hk4 σ36
            · exact hk21
        · refine tj_bz (tgt := 98) (q := 82) dX12_readLine_79 (by decide) rfl ?_ ?_
          · refine tj_aload_n (q := 83) dX12_readLine_82 rfl (i := 0) rfl (pl := 0) rfl ?_
            refine tj_getI (q := 86) (hT).s fok_12_46 wl_RX12_354 dX12_readLine_83 rfl ?_
            refine tj_bipush (q := 88) (v := 10) dX12_readLine_86 rfl (by decide) ?_
            refine tj_icmp_ge (tgt := 98) (q := 91) dX12_readLine_88 (by decide) rfl ?_ ?_
            · exact hk18
            · refine tj_aload_n (q := 92) dX12_readLine_91 rfl (i := 0) rfl (pl := 0) rfl ?_
              refine tj_callV (q := 95) (kj_V (As := []) (rest := []) (t := t) wi_RX12_392 (hT).s rfl (rX12_readThing t (hT)) rfl (Nat.le_of_ble_eq_true rfl) ⟨Nat.le_of_ble_eq_true rfl, Nat.le_of_ble_eq_true rfl⟩ (Nat.le_of_ble_eq_true rfl) dX12_readLine_92) rfl (fun σ37 => ?_)
              refine tj_goto (q := 208) dX12_readLine_95 (by decide) ?_
              exact hk4 σ37
          · exact hk18
      · refine tj_bz (tgt := 72) (q := 56) dX12_readLine_53 (by decide) rfl ?_ ?_
        · refine tj_aload_n (q := 57) dX12_readLine_56 rfl (i := 0) rfl (pl := 0) rfl ?_
          refine tj_getI (q := 60) (hT).s fok_12_45 wl_RX12_348 dX12_readLine_57 rfl ?_
          refine tj_bipush (q := 62) (v := 6) dX12_readLine_60 rfl (by decide) ?_
          refine tj_icmp_ge (tgt := 72) (q := 65) dX12_readLine_62 (by decide) rfl ?_ ?_
          · exact hk15
          · refine tj_aload_n (q := 66) dX12_readLine_65 rfl (i := 0) rfl (pl := 0) rfl ?_
            refine tj_callV (q := 69) (kj_V (As := []) (rest := []) (t := t) wi_RX12_389 (hT).s rfl (rX12_readKind t (hT)) rfl (Nat.le_of_ble_eq_true rfl) ⟨Nat.le_of_ble_eq_true rfl, Nat.le_of_ble_eq_true rfl⟩ (Nat.le_of_ble_eq_true rfl) dX12_readLine_66) rfl (fun σ38 => ?_)
            refine tj_goto (q := 208) dX12_readLine_69 (by decide) ?_
            exact hk4 σ38
        · exact hk15
    · refine tj_bz (tgt := 46) (q := 10) dX12_readLine_7 (by decide) rfl ?_ ?_
      · refine tj_aload_n (q := 11) dX12_readLine_10 rfl (i := 0) rfl (pl := 0) rfl ?_
        refine tj_getI (q := 14) (hT).s fok_12_56 wl_RX12_382 dX12_readLine_11 rfl ?_
        refine tj_if_ne (tgt := 46) (q := 17) dX12_readLine_14 (by decide) rfl ?_ ?_
        · refine tj_aload_n (q := 18) dX12_readLine_17 rfl (i := 0) rfl (pl := 0) rfl ?_
          refine tj_getI (q := 21) (hT).s fok_12_57 wl_RX12_386 dX12_readLine_18 rfl ?_
          refine tj_if_ne (tgt := 46) (q := 24) dX12_readLine_21 (by decide) rfl ?_ ?_
          · refine tj_aload_n (q := 25) dX12_readLine_24 rfl (i := 0) rfl (pl := 0) rfl ?_
            refine tj_iconst (q := 26) (v := 1) dX12_readLine_25 rfl (by decide) ?_
            refine tj_putZ (x := true) (q := 29) (hT).s fok_12_56 tok_12 fpk_12_56 wl_RX12_382 dX12_readLine_26 rfl (fun σ39 => ?_)
            refine tj_aload_n (q := 30) dX12_readLine_29 rfl (i := 0) rfl (pl := 0) rfl ?_
            refine tj_aload_n (q := 31) dX12_readLine_30 rfl (i := 0) rfl (pl := 0) rfl ?_
            refine tj_ldc2 (q := 34) (v := 474214787188) dX12_readLine_31 rfl wc_RX12_236 ?_
            refine tj_iconst (q := 35) (v := 1) dX12_readLine_34 rfl (by decide) ?_
            refine tj_bipush (q := 37) (v := 9) dX12_readLine_35 rfl (by decide) ?_
            refine tj_callI (q := 40) (kj_V (As := [.long (474214787188 : Int64), .int (1 : Int32), .int (9 : Int32)]) (rest := [.ref (h0 + t)]) (t := t) wi_RX12_360 (hT).s rfl (rX12_told t (474214787188 : Int64) (1 : Int32) (9 : Int32) (hT)) rfl (Nat.le_of_ble_eq_true rfl) ⟨Nat.le_of_ble_eq_true rfl, Nat.le_of_ble_eq_true rfl⟩ (Nat.le_of_ble_eq_true rfl) dX12_readLine_37) rfl (fun r40 => ?_)
            refine tj_putI (q := 43) (hT).s fok_12_50 tok_12 fpk_12_50 wl_RX12_370 dX12_readLine_40 rfl (fun σ41 => ?_)
            refine tj_goto (q := 208) dX12_readLine_43 (by decide) ?_
            exact hk4 σ41
          · exact hk12
        · exact hk12
      · exact hk12

theorem dX12_readAll_0 : decode cX12_readAll 0 = .ok (.aload_n 0, 1) := by decide +kernel
theorem dX12_readAll_1 : decode cX12_readAll 1 = .ok (.aload_n 0, 1) := by decide +kernel
theorem dX12_readAll_2 : decode cX12_readAll 2 = .ok (.getfield 163, 3) := by decide +kernel
theorem dX12_readAll_5 : decode cX12_readAll 5 = .ok (.putfield 173, 3) := by decide +kernel
theorem dX12_readAll_8 : decode cX12_readAll 8 = .ok (.aload_n 0, 1) := by decide +kernel
theorem dX12_readAll_9 : decode cX12_readAll 9 = .ok (.iconst 0, 1) := by decide +kernel
theorem dX12_readAll_10 : decode cX12_readAll 10 = .ok (.putfield 163, 3) := by decide +kernel
theorem dX12_readAll_13 : decode cX12_readAll 13 = .ok (.aload_n 0, 1) := by decide +kernel
theorem dX12_readAll_14 : decode cX12_readAll 14 = .ok (.iconst 0, 1) := by decide +kernel
theorem dX12_readAll_15 : decode cX12_readAll 15 = .ok (.putfield 170, 3) := by decide +kernel
theorem dX12_readAll_18 : decode cX12_readAll 18 = .ok (.aload_n 0, 1) := by decide +kernel
theorem dX12_readAll_19 : decode cX12_readAll 19 = .ok (.iconst 0, 1) := by decide +kernel
theorem dX12_readAll_20 : decode cX12_readAll 20 = .ok (.putfield 203, 3) := by decide +kernel
theorem dX12_readAll_23 : decode cX12_readAll 23 = .ok (.aload_n 0, 1) := by decide +kernel
theorem dX12_readAll_24 : decode cX12_readAll 24 = .ok (.iconst (-1), 1) := by decide +kernel
theorem dX12_readAll_25 : decode cX12_readAll 25 = .ok (.putfield 13, 3) := by decide +kernel
theorem dX12_readAll_28 : decode cX12_readAll 28 = .ok (.aload_n 0, 1) := by decide +kernel
theorem dX12_readAll_29 : decode cX12_readAll 29 = .ok (.iconst 0, 1) := by decide +kernel
theorem dX12_readAll_30 : decode cX12_readAll 30 = .ok (.putfield 348, 3) := by decide +kernel
theorem dX12_readAll_33 : decode cX12_readAll 33 = .ok (.aload_n 0, 1) := by decide +kernel
theorem dX12_readAll_34 : decode cX12_readAll 34 = .ok (.iconst 0, 1) := by decide +kernel
theorem dX12_readAll_35 : decode cX12_readAll 35 = .ok (.putfield 354, 3) := by decide +kernel
theorem dX12_readAll_38 : decode cX12_readAll 38 = .ok (.aload_n 0, 1) := by decide +kernel
theorem dX12_readAll_39 : decode cX12_readAll 39 = .ok (.iconst 0, 1) := by decide +kernel
theorem dX12_readAll_40 : decode cX12_readAll 40 = .ok (.putfield 367, 3) := by decide +kernel
theorem dX12_readAll_43 : decode cX12_readAll 43 = .ok (.aload_n 0, 1) := by decide +kernel
theorem dX12_readAll_44 : decode cX12_readAll 44 = .ok (.iconst 0, 1) := by decide +kernel
theorem dX12_readAll_45 : decode cX12_readAll 45 = .ok (.putfield 376, 3) := by decide +kernel
theorem dX12_readAll_48 : decode cX12_readAll 48 = .ok (.aload_n 0, 1) := by decide +kernel
theorem dX12_readAll_49 : decode cX12_readAll 49 = .ok (.iconst 0, 1) := by decide +kernel
theorem dX12_readAll_50 : decode cX12_readAll 50 = .ok (.putfield 364, 3) := by decide +kernel
theorem dX12_readAll_53 : decode cX12_readAll 53 = .ok (.aload_n 0, 1) := by decide +kernel
theorem dX12_readAll_54 : decode cX12_readAll 54 = .ok (.iconst 0, 1) := by decide +kernel
theorem dX12_readAll_55 : decode cX12_readAll 55 = .ok (.putfield 379, 3) := by decide +kernel
theorem dX12_readAll_58 : decode cX12_readAll 58 = .ok (.aload_n 0, 1) := by decide +kernel
theorem dX12_readAll_59 : decode cX12_readAll 59 = .ok (.bipush 6, 2) := by decide +kernel
theorem dX12_readAll_61 : decode cX12_readAll 61 = .ok (.putfield 370, 3) := by decide +kernel
theorem dX12_readAll_64 : decode cX12_readAll 64 = .ok (.aload_n 0, 1) := by decide +kernel
theorem dX12_readAll_65 : decode cX12_readAll 65 = .ok (.iconst 0, 1) := by decide +kernel
theorem dX12_readAll_66 : decode cX12_readAll 66 = .ok (.putfield 382, 3) := by decide +kernel
theorem dX12_readAll_69 : decode cX12_readAll 69 = .ok (.aload_n 0, 1) := by decide +kernel
theorem dX12_readAll_70 : decode cX12_readAll 70 = .ok (.iconst 0, 1) := by decide +kernel
theorem dX12_readAll_71 : decode cX12_readAll 71 = .ok (.putfield 386, 3) := by decide +kernel
theorem dX12_readAll_74 : decode cX12_readAll 74 = .ok (.aload_n 0, 1) := by decide +kernel
theorem dX12_readAll_75 : decode cX12_readAll 75 = .ok (.iconst 0, 1) := by decide +kernel
theorem dX12_readAll_76 : decode cX12_readAll 76 = .ok (.putfield 404, 3) := by decide +kernel
theorem dX12_readAll_79 : decode cX12_readAll 79 = .ok (.aload_n 0, 1) := by decide +kernel
theorem dX12_readAll_80 : decode cX12_readAll 80 = .ok (.iconst 0, 1) := by decide +kernel
theorem dX12_readAll_81 : decode cX12_readAll 81 = .ok (.putfield 300, 3) := by decide +kernel
theorem dX12_readAll_84 : decode cX12_readAll 84 = .ok (.aload_n 0, 1) := by decide +kernel
theorem dX12_readAll_85 : decode cX12_readAll 85 = .ok (.invokevirtual 267, 3) := by decide +kernel
theorem dX12_readAll_88 : decode cX12_readAll 88 = .ok (.aload_n 0, 1) := by decide +kernel
theorem dX12_readAll_89 : decode cX12_readAll 89 = .ok (.getfield 203, 3) := by decide +kernel
theorem dX12_readAll_92 : decode cX12_readAll 92 = .ok (.ifCond .ne 17, 3) := by decide +kernel
theorem dX12_readAll_95 : decode cX12_readAll 95 = .ok (.aload_n 0, 1) := by decide +kernel
theorem dX12_readAll_96 : decode cX12_readAll 96 = .ok (.getfield 190, 3) := by decide +kernel
theorem dX12_readAll_99 : decode cX12_readAll 99 = .ok (.ifCond .eq 10, 3) := by decide +kernel
theorem dX12_readAll_102 : decode cX12_readAll 102 = .ok (.aload_n 0, 1) := by decide +kernel
theorem dX12_readAll_103 : decode cX12_readAll 103 = .ok (.invokevirtual 410, 3) := by decide +kernel
theorem dX12_readAll_106 : decode cX12_readAll 106 = .ok (.goto (-18), 3) := by decide +kernel
theorem dX12_readAll_109 : decode cX12_readAll 109 = .ok (.return_, 1) := by decide +kernel
theorem wm_X12_readLine : Cond.instanceMethod yX12_readLine ∈ TB ∧ Cond.selects yX12_readLine.cls yX12_readLine yX12_readLine ∈ TB ∧ Cond.initialized yX12_readLine.cls ∈ TB ∧ Cond.code yX12_readLine cX12_readLine 1 none ∈ TB ∧ (yX12_readLine.cls ≠ "java/lang/invoke/MethodHandle" ∧ yX12_readLine.cls ≠ "java/lang/invoke/VarHandle" ∧ (parseMethodDescriptor yX12_readLine.desc).map (fun d => d.parameters.length) = some 0) ∧ 1 ≤ 21 := ⟨tbm 1728 (by decide +kernel) (by decide +kernel), tbm 59 (by decide +kernel) (by decide +kernel), tbm 146 (by decide +kernel) (by decide +kernel), tbm 1729 (by decide +kernel) (by decide +kernel), by decide +kernel, by decide⟩
theorem wi_RX12_410 : Iv RX12 410 yX12_readLine cX12_readLine 1 none 0 := ⟨tbm 1726 (by decide +kernel) (by decide +kernel), wm_X12_readLine⟩
def mX12_readAll_L88 (t : Nat) : Nat → St_ → Option St_
  | 0, _ => none
  | n + 1, σ => (if (σ.1 t 2) = 0 then
 (if (σ.1 t 6) = 0 then
 (some σ)
 else ((mX12_readLine t σ).bind fun σ18 =>
 (mX12_readAll_L88 t n σ18)))
 else (some σ))
def mX12_readAll (t : Nat) (σ : St_) : Option St_ :=
 (bnd (sI σ t 5 (σ.1 t 1)) fun σ1 =>
 (bnd (sI σ1 t 1 (0 : Int32)) fun σ2 =>
 (bnd (sI σ2 t 4 (0 : Int32)) fun σ3 =>
 (bnd (sI σ3 t 2 (0 : Int32)) fun σ4 =>
 (bnd (sI σ4 t 3 (-1 : Int32)) fun σ5 =>
 (bnd (sI σ5 t 45 (0 : Int32)) fun σ6 =>
 (bnd (sI σ6 t 46 (0 : Int32)) fun σ7 =>
 (bnd (sI σ7 t 47 (0 : Int32)) fun σ8 =>
 (bnd (sI σ8 t 48 (0 : Int32)) fun σ9 =>
 (bnd (sI σ9 t 12 (0 : Int32)) fun σ10 =>
 (bnd (sI σ10 t 49 (0 : Int32)) fun σ11 =>
 (bnd (sI σ11 t 50 (6 : Int32)) fun σ12 =>
 (bnd (sI σ12 t 56 (b2i false)) fun σ13 =>
 (bnd (sI σ13 t 57 (b2i false)) fun σ14 =>
 (bnd (sI σ14 t 58 (b2i false)) fun σ15 =>
 (bnd (sI σ15 t 22 (0 : Int32)) fun σ16 =>
 ((mX12_token t σ16).bind fun σ17 =>
 (mX12_readAll_L88 t FU σ17))))))))))))))))))
set_option maxHeartbeats 4000000 in
theorem tmX12_readAll_L88 (t : Nat) (hT : LY12 sh P t) : ∀ (n : Nat) (σ : St_), Tj l D cA h0 ad RX12 cX12_readAll 1 none false 8 0 0 (fun b => (none, sh, P, b)) 0 0 sh P σ 88 [(0, .ref (h0 + t))] [] (mX12_readAll_L88 t n σ) := by
  intro n
  induction n with
  | zero => intros; exact tj_none
  | succ n ih =>
    intro σ
    rw [mX12_readAll_L88]
    refine tj_aload_n (q := 89) dX12_readAll_88 rfl (i := 0) rfl (pl := 0) rfl ?_
    refine tj_getI (q := 92) (hT).s fok_12_2 wl_RX12_203 dX12_readAll_89 rfl ?_
    refine tj_if_ne (tgt := 109) (q := 95) dX12_readAll_92 (by decide) rfl ?_ ?_
    · refine tj_aload_n (q := 96) dX12_readAll_95 rfl (i := 0) rfl (pl := 0) rfl ?_
      refine tj_getI (q := 99) (hT).s fok_12_6 wl_RX12_190 dX12_readAll_96 rfl ?_
      refine tj_if_eq (tgt := 109) (q := 102) dX12_readAll_99 (by decide) rfl ?_ ?_
      · exact tj_vret rfl rfl (Nat.le_of_ble_eq_true rfl) (Nat.le_of_ble_eq_true rfl) dX12_readAll_109
      · refine tj_aload_n (q := 103) dX12_readAll_102 rfl (i := 0) rfl (pl := 0) rfl ?_
        refine tj_callV (q := 106) (kj_V (As := []) (rest := []) (t := t) wi_RX12_410 (hT).s rfl (rX12_readLine t (hT)) rfl (Nat.le_of_ble_eq_true rfl) ⟨Nat.le_of_ble_eq_true rfl, Nat.le_of_ble_eq_true rfl⟩ (Nat.le_of_ble_eq_true rfl) dX12_readAll_103) rfl (fun σ18 => ?_)
        refine tj_goto (q := 88) dX12_readAll_106 (by decide) ?_
        exact ih σ18
    · exact tj_vret rfl rfl (Nat.le_of_ble_eq_true rfl) (Nat.le_of_ble_eq_true rfl) dX12_readAll_109

set_option maxHeartbeats 4000000 in
theorem rX12_readAll (t : Nat) (hT : LY12 sh P t) : Rj l D cA h0 ad yX12_readAll cX12_readAll 1 none false 8 0 0 (fun b => (none, sh, P, b)) [.ref (h0 + t)] sh P σ (mX12_readAll t σ) := by
  rw [mX12_readAll]
  refine Rj.of (by decide) (fun h => by cases h) (Nat.le_of_ble_eq_true rfl) ?_
  refine tj_lv0 (lv' := [(0, .ref (h0 + t))]) rfl ?_
  refine tj_aload_n (q := 1) dX12_readAll_0 rfl (i := 0) rfl (pl := 0) rfl ?_
  refine tj_aload_n (q := 2) dX12_readAll_1 rfl (i := 0) rfl (pl := 0) rfl ?_
  refine tj_getI (q := 5) (hT).s fok_12_1 wl_RX12_163 dX12_readAll_2 rfl ?_
  refine tj_putI (q := 8) (hT).s fok_12_5 tok_12 fpk_12_5 wl_RX12_173 dX12_readAll_5 rfl (fun σ1 => ?_)
  refine tj_aload_n (q := 9) dX12_readAll_8 rfl (i := 0) rfl (pl := 0) rfl ?_
  refine tj_iconst (q := 10) (v := 0) dX12_readAll_9 rfl (by decide) ?_
  refine tj_putI (q := 13) (hT).s fok_12_1 tok_12 fpk_12_1 wl_RX12_163 dX12_readAll_10 rfl (fun σ2 => ?_)
  refine tj_aload_n (q := 14) dX12_readAll_13 rfl (i := 0) rfl (pl := 0) rfl ?_
  refine tj_iconst (q := 15) (v := 0) dX12_readAll_14 rfl (by decide) ?_
  refine tj_putI (q := 18) (hT).s fok_12_4 tok_12 fpk_12_4 wl_RX12_170 dX12_readAll_15 rfl (fun σ3 => ?_)
  refine tj_aload_n (q := 19) dX12_readAll_18 rfl (i := 0) rfl (pl := 0) rfl ?_
  refine tj_iconst (q := 20) (v := 0) dX12_readAll_19 rfl (by decide) ?_
  refine tj_putI (q := 23) (hT).s fok_12_2 tok_12 fpk_12_2 wl_RX12_203 dX12_readAll_20 rfl (fun σ4 => ?_)
  refine tj_aload_n (q := 24) dX12_readAll_23 rfl (i := 0) rfl (pl := 0) rfl ?_
  refine tj_iconst (q := 25) (v := (-1)) dX12_readAll_24 rfl (by decide) ?_
  refine tj_putI (q := 28) (hT).s fok_12_3 tok_12 fpk_12_3 wl_RX12_13 dX12_readAll_25 rfl (fun σ5 => ?_)
  refine tj_aload_n (q := 29) dX12_readAll_28 rfl (i := 0) rfl (pl := 0) rfl ?_
  refine tj_iconst (q := 30) (v := 0) dX12_readAll_29 rfl (by decide) ?_
  refine tj_putI (q := 33) (hT).s fok_12_45 tok_12 fpk_12_45 wl_RX12_348 dX12_readAll_30 rfl (fun σ6 => ?_)
  refine tj_aload_n (q := 34) dX12_readAll_33 rfl (i := 0) rfl (pl := 0) rfl ?_
  refine tj_iconst (q := 35) (v := 0) dX12_readAll_34 rfl (by decide) ?_
  refine tj_putI (q := 38) (hT).s fok_12_46 tok_12 fpk_12_46 wl_RX12_354 dX12_readAll_35 rfl (fun σ7 => ?_)
  refine tj_aload_n (q := 39) dX12_readAll_38 rfl (i := 0) rfl (pl := 0) rfl ?_
  refine tj_iconst (q := 40) (v := 0) dX12_readAll_39 rfl (by decide) ?_
  refine tj_putI (q := 43) (hT).s fok_12_47 tok_12 fpk_12_47 wl_RX12_367 dX12_readAll_40 rfl (fun σ8 => ?_)
  refine tj_aload_n (q := 44) dX12_readAll_43 rfl (i := 0) rfl (pl := 0) rfl ?_
  refine tj_iconst (q := 45) (v := 0) dX12_readAll_44 rfl (by decide) ?_
  refine tj_putI (q := 48) (hT).s fok_12_48 tok_12 fpk_12_48 wl_RX12_376 dX12_readAll_45 rfl (fun σ9 => ?_)
  refine tj_aload_n (q := 49) dX12_readAll_48 rfl (i := 0) rfl (pl := 0) rfl ?_
  refine tj_iconst (q := 50) (v := 0) dX12_readAll_49 rfl (by decide) ?_
  refine tj_putI (q := 53) (hT).s fok_12_12 tok_12 fpk_12_12 wl_RX12_364 dX12_readAll_50 rfl (fun σ10 => ?_)
  refine tj_aload_n (q := 54) dX12_readAll_53 rfl (i := 0) rfl (pl := 0) rfl ?_
  refine tj_iconst (q := 55) (v := 0) dX12_readAll_54 rfl (by decide) ?_
  refine tj_putI (q := 58) (hT).s fok_12_49 tok_12 fpk_12_49 wl_RX12_379 dX12_readAll_55 rfl (fun σ11 => ?_)
  refine tj_aload_n (q := 59) dX12_readAll_58 rfl (i := 0) rfl (pl := 0) rfl ?_
  refine tj_bipush (q := 61) (v := 6) dX12_readAll_59 rfl (by decide) ?_
  refine tj_putI (q := 64) (hT).s fok_12_50 tok_12 fpk_12_50 wl_RX12_370 dX12_readAll_61 rfl (fun σ12 => ?_)
  refine tj_aload_n (q := 65) dX12_readAll_64 rfl (i := 0) rfl (pl := 0) rfl ?_
  refine tj_iconst (q := 66) (v := 0) dX12_readAll_65 rfl (by decide) ?_
  refine tj_putZ (x := false) (q := 69) (hT).s fok_12_56 tok_12 fpk_12_56 wl_RX12_382 dX12_readAll_66 rfl (fun σ13 => ?_)
  refine tj_aload_n (q := 70) dX12_readAll_69 rfl (i := 0) rfl (pl := 0) rfl ?_
  refine tj_iconst (q := 71) (v := 0) dX12_readAll_70 rfl (by decide) ?_
  refine tj_putZ (x := false) (q := 74) (hT).s fok_12_57 tok_12 fpk_12_57 wl_RX12_386 dX12_readAll_71 rfl (fun σ14 => ?_)
  refine tj_aload_n (q := 75) dX12_readAll_74 rfl (i := 0) rfl (pl := 0) rfl ?_
  refine tj_iconst (q := 76) (v := 0) dX12_readAll_75 rfl (by decide) ?_
  refine tj_putZ (x := false) (q := 79) (hT).s fok_12_58 tok_12 fpk_12_58 wl_RX12_404 dX12_readAll_76 rfl (fun σ15 => ?_)
  refine tj_aload_n (q := 80) dX12_readAll_79 rfl (i := 0) rfl (pl := 0) rfl ?_
  refine tj_iconst (q := 81) (v := 0) dX12_readAll_80 rfl (by decide) ?_
  refine tj_putI (q := 84) (hT).s fok_12_22 tok_12 fpk_12_22 wl_RX12_300 dX12_readAll_81 rfl (fun σ16 => ?_)
  refine tj_aload_n (q := 85) dX12_readAll_84 rfl (i := 0) rfl (pl := 0) rfl ?_
  refine tj_callV (q := 88) (kj_V (As := []) (rest := []) (t := t) wi_RX12_267 (hT).s rfl (rX12_token t (hT)) rfl (Nat.le_of_ble_eq_true rfl) ⟨Nat.le_of_ble_eq_true rfl, Nat.le_of_ble_eq_true rfl⟩ (Nat.le_of_ble_eq_true rfl) dX12_readAll_85) rfl (fun σ17 => ?_)
  exact tmX12_readAll_L88 t hT FU σ17

end
