section
variable {l : Launch} {D : va_G} {cA : Nat → ClassId} {h0 : Nat} {ad : Ad_} {sh : Sh_} {P : Px_} {σ : St_}
theorem dX3_clear_0 : decode cX3_clear 0 = .ok (.aload_n 0, 1) := by decide +kernel
theorem dX3_clear_1 : decode cX3_clear 1 = .ok (.iconst 0, 1) := by decide +kernel
theorem dX3_clear_2 : decode cX3_clear 2 = .ok (.putfield 24, 3) := by decide +kernel
theorem dX3_clear_5 : decode cX3_clear 5 = .ok (.aload_n 0, 1) := by decide +kernel
theorem dX3_clear_6 : decode cX3_clear 6 = .ok (.iconst 0, 1) := by decide +kernel
theorem dX3_clear_7 : decode cX3_clear 7 = .ok (.putfield 28, 3) := by decide +kernel
theorem dX3_clear_10 : decode cX3_clear 10 = .ok (.return_, 1) := by decide +kernel
theorem wl_RX3_24 : Cond.fieldLink RX3 24 (TX3 4).1 (TX3 4).2.1 (TX3 4).2.2.1 ∈ TB := tbm 270 (by decide +kernel) (by decide +kernel)
theorem wl_RX3_28 : Cond.fieldLink RX3 28 (TX3 5).1 (TX3 5).2.1 (TX3 5).2.2.1 ∈ TB := tbm 272 (by decide +kernel) (by decide +kernel)
def mX3_clear (t : Nat) (σ : St_) : Option St_ :=
 (bnd (sI σ t 4 (0 : Int32)) fun σ1 =>
 (bnd (sI σ1 t 5 (0 : Int32)) fun σ2 =>
 (some σ2)))
set_option maxHeartbeats 4000000 in
theorem rX3_clear (t : Nat) (hT : LY3 sh P t) : Rj l D cA h0 ad yX3_clear cX3_clear 1 none false 2 0 0 (fun b => (none, sh, P, b)) [.ref (h0 + t)] sh P σ (mX3_clear t σ) := by
  rw [mX3_clear]
  refine Rj.of (by decide) (fun h => by cases h) (Nat.le_of_ble_eq_true rfl) ?_
  refine tj_lv0 (lv' := [(0, .ref (h0 + t))]) rfl ?_
  refine tj_aload_n (q := 1) dX3_clear_0 rfl (i := 0) rfl (pl := 0) rfl ?_
  refine tj_iconst (q := 2) (v := 0) dX3_clear_1 rfl (by decide) ?_
  refine tj_putI (q := 5) (hT).s fok_3_4 tok_3 fpk_3_4 wl_RX3_24 dX3_clear_2 rfl (fun σ1 => ?_)
  refine tj_aload_n (q := 6) dX3_clear_5 rfl (i := 0) rfl (pl := 0) rfl ?_
  refine tj_iconst (q := 7) (v := 0) dX3_clear_6 rfl (by decide) ?_
  refine tj_putI (q := 10) (hT).s fok_3_5 tok_3 fpk_3_5 wl_RX3_28 dX3_clear_7 rfl (fun σ2 => ?_)
  exact tj_vret rfl rfl (Nat.le_of_ble_eq_true rfl) (Nat.le_of_ble_eq_true rfl) dX3_clear_10

theorem dX3_put_0 : decode cX3_put 0 = .ok (.aload_n 0, 1) := by decide +kernel
theorem dX3_put_1 : decode cX3_put 1 = .ok (.getfield 24, 3) := by decide +kernel
theorem dX3_put_4 : decode cX3_put 4 = .ok (.sipush 300, 3) := by decide +kernel
theorem dX3_put_7 : decode cX3_put 7 = .ok (.if_icmp .ge 33, 3) := by decide +kernel
theorem dX3_put_10 : decode cX3_put 10 = .ok (.aload_n 0, 1) := by decide +kernel
theorem dX3_put_11 : decode cX3_put 11 = .ok (.getfield 11, 3) := by decide +kernel
theorem dX3_put_14 : decode cX3_put 14 = .ok (.aload_n 0, 1) := by decide +kernel
theorem dX3_put_15 : decode cX3_put 15 = .ok (.getfield 24, 3) := by decide +kernel
theorem dX3_put_18 : decode cX3_put 18 = .ok (.iload_n 1, 1) := by decide +kernel
theorem dX3_put_19 : decode cX3_put 19 = .ok (.iastore, 1) := by decide +kernel
theorem dX3_put_20 : decode cX3_put 20 = .ok (.aload_n 0, 1) := by decide +kernel
theorem dX3_put_21 : decode cX3_put 21 = .ok (.getfield 15, 3) := by decide +kernel
theorem dX3_put_24 : decode cX3_put 24 = .ok (.aload_n 0, 1) := by decide +kernel
theorem dX3_put_25 : decode cX3_put 25 = .ok (.getfield 24, 3) := by decide +kernel
theorem dX3_put_28 : decode cX3_put 28 = .ok (.iload_n 2, 1) := by decide +kernel
theorem dX3_put_29 : decode cX3_put 29 = .ok (.iastore, 1) := by decide +kernel
theorem dX3_put_30 : decode cX3_put 30 = .ok (.aload_n 0, 1) := by decide +kernel
theorem dX3_put_31 : decode cX3_put 31 = .ok (.dup, 1) := by decide +kernel
theorem dX3_put_32 : decode cX3_put 32 = .ok (.getfield 24, 3) := by decide +kernel
theorem dX3_put_35 : decode cX3_put 35 = .ok (.iconst 1, 1) := by decide +kernel
theorem dX3_put_36 : decode cX3_put 36 = .ok (.iadd, 1) := by decide +kernel
theorem dX3_put_37 : decode cX3_put 37 = .ok (.putfield 24, 3) := by decide +kernel
theorem dX3_put_40 : decode cX3_put 40 = .ok (.return_, 1) := by decide +kernel
theorem wl_RX3_11 : Cond.fieldLink RX3 11 (TX3 0).1 (TX3 0).2.1 (TX3 0).2.2.1 ∈ TB := tbm 266 (by decide +kernel) (by decide +kernel)
theorem wl_RX3_15 : Cond.fieldLink RX3 15 (TX3 1).1 (TX3 1).2.1 (TX3 1).2.2.1 ∈ TB := tbm 267 (by decide +kernel) (by decide +kernel)
def mX3_put (t : Nat) (p1 : Int32) (p2 : Int32) (σ : St_) : Option St_ :=
 (if (300 : Int32) ≤ (σ.1 t 4) then
 (some σ)
 else (bnd (σ.1 t 4) fun v1 =>
 (if bin v1 300 = true then bnd (sI σ (t + 1) v1.toNatClampNeg p1) fun σ2 =>
 (bnd (σ2.1 t 4) fun v3 =>
 (if bin v3 300 = true then bnd (sI σ2 (t + 2) v3.toNatClampNeg p2) fun σ4 =>
 (bnd (sI σ4 t 4 ((σ4.1 t 4) + (1 : Int32))) fun σ5 =>
 (some σ5))
 else none))
 else none)))
set_option maxHeartbeats 4000000 in
theorem rX3_put (t : Nat) (p1 : Int32) (p2 : Int32) (hT : LY3 sh P t) : Rj l D cA h0 ad yX3_put cX3_put 3 none false 2 0 0 (fun b => (none, sh, P, b)) [.ref (h0 + t), .int p1, .int p2] sh P σ (mX3_put t p1 p2 σ) := by
  rw [mX3_put]
  refine Rj.of (by decide) (fun h => by cases h) (Nat.le_of_ble_eq_true rfl) ?_
  refine tj_lv0 (lv' := [(0, .ref (h0 + t)), (1, .int p1), (2, .int p2)]) rfl ?_
  refine tj_aload_n (q := 1) dX3_put_0 rfl (i := 0) rfl (pl := 0) rfl ?_
  refine tj_getI (q := 4) (hT).s fok_3_4 wl_RX3_24 dX3_put_1 rfl ?_
  refine tj_sipush (q := 7) (v := 300) dX3_put_4 rfl (by decide) ?_
  refine tj_icmp_ge (tgt := 40) (q := 10) dX3_put_7 (by decide) rfl ?_ ?_
  · exact tj_vret rfl rfl (Nat.le_of_ble_eq_true rfl) (Nat.le_of_ble_eq_true rfl) dX3_put_40
  · refine tj_aload_n (q := 11) dX3_put_10 rfl (i := 0) rfl (pl := 0) rfl ?_
    refine tj_getR (q := 14) (hT).s (hT).p_step fok_3_0 wl_RX3_11 dX3_put_11 rfl ?_
    refine tj_aload_n (q := 15) dX3_put_14 rfl (i := 0) rfl (pl := 0) rfl ?_
    refine tj_getI (q := 18) (hT).s fok_3_4 wl_RX3_24 dX3_put_15 rfl ?_
    refine tj_iload_n (q := 19) dX3_put_18 rfl (i := 1) rfl (pl := 1) rfl ?_
    refine tj_sndI (fun v1 => ?_)
    refine tj_iastore (q := 20) (hT).s_step dX3_put_19 rfl (fun σ2 => ?_)
    refine tj_aload_n (q := 21) dX3_put_20 rfl (i := 0) rfl (pl := 0) rfl ?_
    refine tj_getR (q := 24) (hT).s (hT).p_argument fok_3_1 wl_RX3_15 dX3_put_21 rfl ?_
    refine tj_aload_n (q := 25) dX3_put_24 rfl (i := 0) rfl (pl := 0) rfl ?_
    refine tj_getI (q := 28) (hT).s fok_3_4 wl_RX3_24 dX3_put_25 rfl ?_
    refine tj_iload_n (q := 29) dX3_put_28 rfl (i := 2) rfl (pl := 2) rfl ?_
    refine tj_sndI (fun v3 => ?_)
    refine tj_iastore (q := 30) (hT).s_argument dX3_put_29 rfl (fun σ4 => ?_)
    refine tj_aload_n (q := 31) dX3_put_30 rfl (i := 0) rfl (pl := 0) rfl ?_
    refine tj_dup (q := 32) dX3_put_31 rfl rfl ?_
    refine tj_getI (q := 35) (hT).s fok_3_4 wl_RX3_24 dX3_put_32 rfl ?_
    refine tj_iconst (q := 36) (v := 1) dX3_put_35 rfl (by decide) ?_
    refine tj_iadd (q := 37) dX3_put_36 rfl ?_
    refine tj_putI (q := 40) (hT).s fok_3_4 tok_3 fpk_3_4 wl_RX3_24 dX3_put_37 rfl (fun σ5 => ?_)
    exact tj_vret rfl rfl (Nat.le_of_ble_eq_true rfl) (Nat.le_of_ble_eq_true rfl) dX3_put_40

theorem dX3_joined_0 : decode cX3_joined 0 = .ok (.iload_n 0, 1) := by decide +kernel
theorem dX3_joined_1 : decode cX3_joined 1 = .ok (.lookupswitch 168 #[(3, 83), (4, 97), (42, 152), (43, 144), (45, 148), (47, 156), (60, 111), (61, 133), (62, 122)], 83) := by decide +kernel
theorem dX3_joined_84 : decode cX3_joined 84 = .ok (.iload_n 1, 1) := by decide +kernel
theorem dX3_joined_85 : decode cX3_joined 85 = .ok (.ifCond .eq 11, 3) := by decide +kernel
theorem dX3_joined_88 : decode cX3_joined 88 = .ok (.iload_n 2, 1) := by decide +kernel
theorem dX3_joined_89 : decode cX3_joined 89 = .ok (.ifCond .eq 7, 3) := by decide +kernel
theorem dX3_joined_92 : decode cX3_joined 92 = .ok (.iconst 1, 1) := by decide +kernel
theorem dX3_joined_93 : decode cX3_joined 93 = .ok (.goto 4, 3) := by decide +kernel
theorem dX3_joined_96 : decode cX3_joined 96 = .ok (.iconst 0, 1) := by decide +kernel
theorem dX3_joined_97 : decode cX3_joined 97 = .ok (.ireturn, 1) := by decide +kernel
theorem dX3_joined_98 : decode cX3_joined 98 = .ok (.iload_n 1, 1) := by decide +kernel
theorem dX3_joined_99 : decode cX3_joined 99 = .ok (.ifCond .ne 7, 3) := by decide +kernel
theorem dX3_joined_102 : decode cX3_joined 102 = .ok (.iload_n 2, 1) := by decide +kernel
theorem dX3_joined_103 : decode cX3_joined 103 = .ok (.ifCond .eq 7, 3) := by decide +kernel
theorem dX3_joined_106 : decode cX3_joined 106 = .ok (.iconst 1, 1) := by decide +kernel
theorem dX3_joined_107 : decode cX3_joined 107 = .ok (.goto 4, 3) := by decide +kernel
theorem dX3_joined_110 : decode cX3_joined 110 = .ok (.iconst 0, 1) := by decide +kernel
theorem dX3_joined_111 : decode cX3_joined 111 = .ok (.ireturn, 1) := by decide +kernel
theorem dX3_joined_112 : decode cX3_joined 112 = .ok (.iload_n 1, 1) := by decide +kernel
theorem dX3_joined_113 : decode cX3_joined 113 = .ok (.iload_n 2, 1) := by decide +kernel
theorem dX3_joined_114 : decode cX3_joined 114 = .ok (.if_icmp .ge 7, 3) := by decide +kernel
theorem dX3_joined_117 : decode cX3_joined 117 = .ok (.iconst 1, 1) := by decide +kernel
theorem dX3_joined_118 : decode cX3_joined 118 = .ok (.goto 4, 3) := by decide +kernel
theorem dX3_joined_121 : decode cX3_joined 121 = .ok (.iconst 0, 1) := by decide +kernel
theorem dX3_joined_122 : decode cX3_joined 122 = .ok (.ireturn, 1) := by decide +kernel
theorem dX3_joined_123 : decode cX3_joined 123 = .ok (.iload_n 1, 1) := by decide +kernel
theorem dX3_joined_124 : decode cX3_joined 124 = .ok (.iload_n 2, 1) := by decide +kernel
theorem dX3_joined_125 : decode cX3_joined 125 = .ok (.if_icmp .le 7, 3) := by decide +kernel
theorem dX3_joined_128 : decode cX3_joined 128 = .ok (.iconst 1, 1) := by decide +kernel
theorem dX3_joined_129 : decode cX3_joined 129 = .ok (.goto 4, 3) := by decide +kernel
theorem dX3_joined_132 : decode cX3_joined 132 = .ok (.iconst 0, 1) := by decide +kernel
theorem dX3_joined_133 : decode cX3_joined 133 = .ok (.ireturn, 1) := by decide +kernel
theorem dX3_joined_134 : decode cX3_joined 134 = .ok (.iload_n 1, 1) := by decide +kernel
theorem dX3_joined_135 : decode cX3_joined 135 = .ok (.iload_n 2, 1) := by decide +kernel
theorem dX3_joined_136 : decode cX3_joined 136 = .ok (.if_icmp .ne 7, 3) := by decide +kernel
theorem dX3_joined_139 : decode cX3_joined 139 = .ok (.iconst 1, 1) := by decide +kernel
theorem dX3_joined_140 : decode cX3_joined 140 = .ok (.goto 4, 3) := by decide +kernel
theorem dX3_joined_143 : decode cX3_joined 143 = .ok (.iconst 0, 1) := by decide +kernel
theorem dX3_joined_144 : decode cX3_joined 144 = .ok (.ireturn, 1) := by decide +kernel
theorem dX3_joined_145 : decode cX3_joined 145 = .ok (.iload_n 1, 1) := by decide +kernel
theorem dX3_joined_146 : decode cX3_joined 146 = .ok (.iload_n 2, 1) := by decide +kernel
theorem dX3_joined_147 : decode cX3_joined 147 = .ok (.iadd, 1) := by decide +kernel
theorem dX3_joined_148 : decode cX3_joined 148 = .ok (.ireturn, 1) := by decide +kernel
theorem dX3_joined_149 : decode cX3_joined 149 = .ok (.iload_n 1, 1) := by decide +kernel
theorem dX3_joined_150 : decode cX3_joined 150 = .ok (.iload_n 2, 1) := by decide +kernel
theorem dX3_joined_151 : decode cX3_joined 151 = .ok (.isub, 1) := by decide +kernel
theorem dX3_joined_152 : decode cX3_joined 152 = .ok (.ireturn, 1) := by decide +kernel
theorem dX3_joined_153 : decode cX3_joined 153 = .ok (.iload_n 1, 1) := by decide +kernel
theorem dX3_joined_154 : decode cX3_joined 154 = .ok (.iload_n 2, 1) := by decide +kernel
theorem dX3_joined_155 : decode cX3_joined 155 = .ok (.imul, 1) := by decide +kernel
theorem dX3_joined_156 : decode cX3_joined 156 = .ok (.ireturn, 1) := by decide +kernel
theorem dX3_joined_157 : decode cX3_joined 157 = .ok (.iload_n 2, 1) := by decide +kernel
theorem dX3_joined_158 : decode cX3_joined 158 = .ok (.ifCond .ne 7, 3) := by decide +kernel
theorem dX3_joined_161 : decode cX3_joined 161 = .ok (.iconst 0, 1) := by decide +kernel
theorem dX3_joined_162 : decode cX3_joined 162 = .ok (.goto 6, 3) := by decide +kernel
theorem dX3_joined_165 : decode cX3_joined 165 = .ok (.iload_n 1, 1) := by decide +kernel
theorem dX3_joined_166 : decode cX3_joined 166 = .ok (.iload_n 2, 1) := by decide +kernel
theorem dX3_joined_167 : decode cX3_joined 167 = .ok (.idiv, 1) := by decide +kernel
theorem dX3_joined_168 : decode cX3_joined 168 = .ok (.ireturn, 1) := by decide +kernel
theorem dX3_joined_169 : decode cX3_joined 169 = .ok (.iload_n 2, 1) := by decide +kernel
theorem dX3_joined_170 : decode cX3_joined 170 = .ok (.ifCond .ne 7, 3) := by decide +kernel
theorem dX3_joined_173 : decode cX3_joined 173 = .ok (.iconst 0, 1) := by decide +kernel
theorem dX3_joined_174 : decode cX3_joined 174 = .ok (.goto 6, 3) := by decide +kernel
theorem dX3_joined_177 : decode cX3_joined 177 = .ok (.iload_n 1, 1) := by decide +kernel
theorem dX3_joined_178 : decode cX3_joined 178 = .ok (.iload_n 2, 1) := by decide +kernel
theorem dX3_joined_179 : decode cX3_joined 179 = .ok (.irem, 1) := by decide +kernel
theorem dX3_joined_180 : decode cX3_joined 180 = .ok (.ireturn, 1) := by decide +kernel
def mX3_joined (p1 : Int32) (p2 : Int32) (p3 : Int32) (σ : St_) : Option Int32 :=
 (if p1 = 3 then (if p2 = 0 then
 (some (0 : Int32))
 else (if p3 = 0 then
 (some (0 : Int32))
 else (some (1 : Int32))))
 else (if p1 = 4 then (if p2 = 0 then
 (if p3 = 0 then
 (some (0 : Int32))
 else (some (1 : Int32)))
 else (some (1 : Int32)))
 else (if p1 = 42 then (some (p2 * p3))
 else (if p1 = 43 then (some (p2 + p3))
 else (if p1 = 45 then (some (p2 - p3))
 else (if p1 = 47 then (if p3 = 0 then
 (some (0 : Int32))
 else (if p3 = 0 then none else
 (some (p2 / p3))))
 else (if p1 = 60 then (if p3 ≤ p2 then
 (some (0 : Int32))
 else (some (1 : Int32)))
 else (if p1 = 61 then (if p2 = p3 then
 (some (1 : Int32))
 else (some (0 : Int32)))
 else (if p1 = 62 then (if p2 ≤ p3 then
 (some (0 : Int32))
 else (some (1 : Int32)))
 else (if p3 = 0 then
 (some (0 : Int32))
 else (if p3 = 0 then none else
 (some (p2 - p2 / p3 * p3)))))))))))))
set_option maxHeartbeats 4000000 in
theorem rX3_joined (p1 : Int32) (p2 : Int32) (p3 : Int32)  : Rj l D cA h0 ad yX3_joined cX3_joined 3 (some .int) false 2 0 0 (fun b => (some (.int b), sh, P, σ)) [.int p1, .int p2, .int p3] sh P σ (mX3_joined p1 p2 p3 σ) := by
  rw [mX3_joined]
  refine Rj.of (by decide) (fun h => by cases h) (Nat.le_of_ble_eq_true rfl) ?_
  refine tj_lv0 (lv' := [(0, .int p1), (1, .int p2), (2, .int p3)]) rfl ?_
  refine tj_iload_n (q := 1) dX3_joined_0 rfl (i := 0) rfl (pl := 0) rfl ?_
  refine tj_caseI (fun hc1 => ?_) (fun hc1 => ?_)
  · refine tj_look (tgt := 84) (off := 83) dX3_joined_1 (by decide) (by rw [hc1]; first | done | decide) (by decide) ?_
    refine tj_iload_n (q := 85) dX3_joined_84 rfl (i := 1) rfl (pl := 1) rfl ?_
    refine tj_if_eq (tgt := 96) (q := 88) dX3_joined_85 (by decide) rfl ?_ ?_
    · refine tj_iconst (q := 97) (v := 0) dX3_joined_96 rfl (by decide) ?_
      exact tj_iret rfl rfl (Nat.le_of_ble_eq_true rfl) (Nat.le_of_ble_eq_true rfl) dX3_joined_97
    · refine tj_iload_n (q := 89) dX3_joined_88 rfl (i := 2) rfl (pl := 2) rfl ?_
      refine tj_if_eq (tgt := 96) (q := 92) dX3_joined_89 (by decide) rfl ?_ ?_
      · refine tj_iconst (q := 97) (v := 0) dX3_joined_96 rfl (by decide) ?_
        exact tj_iret rfl rfl (Nat.le_of_ble_eq_true rfl) (Nat.le_of_ble_eq_true rfl) dX3_joined_97
      · refine tj_iconst (q := 93) (v := 1) dX3_joined_92 rfl (by decide) ?_
        refine tj_goto (q := 97) dX3_joined_93 (by decide) ?_
        exact tj_iret rfl rfl (Nat.le_of_ble_eq_true rfl) (Nat.le_of_ble_eq_true rfl) dX3_joined_97
  · refine tj_caseI (fun hc2 => ?_) (fun hc2 => ?_)
    · refine tj_look (tgt := 98) (off := 97) dX3_joined_1 (by decide) (by rw [hc2]; first | done | decide) (by decide) ?_
      refine tj_iload_n (q := 99) dX3_joined_98 rfl (i := 1) rfl (pl := 1) rfl ?_
      refine tj_if_ne (tgt := 106) (q := 102) dX3_joined_99 (by decide) rfl ?_ ?_
      · refine tj_iload_n (q := 103) dX3_joined_102 rfl (i := 2) rfl (pl := 2) rfl ?_
        refine tj_if_eq (tgt := 110) (q := 106) dX3_joined_103 (by decide) rfl ?_ ?_
        · refine tj_iconst (q := 111) (v := 0) dX3_joined_110 rfl (by decide) ?_
          exact tj_iret rfl rfl (Nat.le_of_ble_eq_true rfl) (Nat.le_of_ble_eq_true rfl) dX3_joined_111
        · refine tj_iconst (q := 107) (v := 1) dX3_joined_106 rfl (by decide) ?_
          refine tj_goto (q := 111) dX3_joined_107 (by decide) ?_
          exact tj_iret rfl rfl (Nat.le_of_ble_eq_true rfl) (Nat.le_of_ble_eq_true rfl) dX3_joined_111
      · refine tj_iconst (q := 107) (v := 1) dX3_joined_106 rfl (by decide) ?_
        refine tj_goto (q := 111) dX3_joined_107 (by decide) ?_
        exact tj_iret rfl rfl (Nat.le_of_ble_eq_true rfl) (Nat.le_of_ble_eq_true rfl) dX3_joined_111
    · refine tj_caseI (fun hc3 => ?_) (fun hc3 => ?_)
      · refine tj_look (tgt := 153) (off := 152) dX3_joined_1 (by decide) (by rw [hc3]; first | done | decide) (by decide) ?_
        refine tj_iload_n (q := 154) dX3_joined_153 rfl (i := 1) rfl (pl := 1) rfl ?_
        refine tj_iload_n (q := 155) dX3_joined_154 rfl (i := 2) rfl (pl := 2) rfl ?_
        refine tj_imul (q := 156) dX3_joined_155 rfl ?_
        exact tj_iret rfl rfl (Nat.le_of_ble_eq_true rfl) (Nat.le_of_ble_eq_true rfl) dX3_joined_156
      · refine tj_caseI (fun hc4 => ?_) (fun hc4 => ?_)
        · refine tj_look (tgt := 145) (off := 144) dX3_joined_1 (by decide) (by rw [hc4]; first | done | decide) (by decide) ?_
          refine tj_iload_n (q := 146) dX3_joined_145 rfl (i := 1) rfl (pl := 1) rfl ?_
          refine tj_iload_n (q := 147) dX3_joined_146 rfl (i := 2) rfl (pl := 2) rfl ?_
          refine tj_iadd (q := 148) dX3_joined_147 rfl ?_
          exact tj_iret rfl rfl (Nat.le_of_ble_eq_true rfl) (Nat.le_of_ble_eq_true rfl) dX3_joined_148
        · refine tj_caseI (fun hc5 => ?_) (fun hc5 => ?_)
          · refine tj_look (tgt := 149) (off := 148) dX3_joined_1 (by decide) (by rw [hc5]; first | done | decide) (by decide) ?_
            refine tj_iload_n (q := 150) dX3_joined_149 rfl (i := 1) rfl (pl := 1) rfl ?_
            refine tj_iload_n (q := 151) dX3_joined_150 rfl (i := 2) rfl (pl := 2) rfl ?_
            refine tj_isub (q := 152) dX3_joined_151 rfl ?_
            exact tj_iret rfl rfl (Nat.le_of_ble_eq_true rfl) (Nat.le_of_ble_eq_true rfl) dX3_joined_152
          · refine tj_caseI (fun hc6 => ?_) (fun hc6 => ?_)
            · refine tj_look (tgt := 157) (off := 156) dX3_joined_1 (by decide) (by rw [hc6]; first | done | decide) (by decide) ?_
              refine tj_iload_n (q := 158) dX3_joined_157 rfl (i := 2) rfl (pl := 2) rfl ?_
              refine tj_if_ne (tgt := 165) (q := 161) dX3_joined_158 (by decide) rfl ?_ ?_
              · refine tj_iconst (q := 162) (v := 0) dX3_joined_161 rfl (by decide) ?_
                refine tj_goto (q := 168) dX3_joined_162 (by decide) ?_
                exact tj_iret rfl rfl (Nat.le_of_ble_eq_true rfl) (Nat.le_of_ble_eq_true rfl) dX3_joined_168
              · refine tj_iload_n (q := 166) dX3_joined_165 rfl (i := 1) rfl (pl := 1) rfl ?_
                refine tj_iload_n (q := 167) dX3_joined_166 rfl (i := 2) rfl (pl := 2) rfl ?_
                refine tj_gne (y := p3) (fun hn7 => ?_)
                refine tj_idiv (q := 168) dX3_joined_167 rfl hn7 ?_
                exact tj_iret rfl rfl (Nat.le_of_ble_eq_true rfl) (Nat.le_of_ble_eq_true rfl) dX3_joined_168
            · refine tj_caseI (fun hc8 => ?_) (fun hc8 => ?_)
              · refine tj_look (tgt := 112) (off := 111) dX3_joined_1 (by decide) (by rw [hc8]; first | done | decide) (by decide) ?_
                refine tj_iload_n (q := 113) dX3_joined_112 rfl (i := 1) rfl (pl := 1) rfl ?_
                refine tj_iload_n (q := 114) dX3_joined_113 rfl (i := 2) rfl (pl := 2) rfl ?_
                refine tj_icmp_ge (tgt := 121) (q := 117) dX3_joined_114 (by decide) rfl ?_ ?_
                · refine tj_iconst (q := 122) (v := 0) dX3_joined_121 rfl (by decide) ?_
                  exact tj_iret rfl rfl (Nat.le_of_ble_eq_true rfl) (Nat.le_of_ble_eq_true rfl) dX3_joined_122
                · refine tj_iconst (q := 118) (v := 1) dX3_joined_117 rfl (by decide) ?_
                  refine tj_goto (q := 122) dX3_joined_118 (by decide) ?_
                  exact tj_iret rfl rfl (Nat.le_of_ble_eq_true rfl) (Nat.le_of_ble_eq_true rfl) dX3_joined_122
              · refine tj_caseI (fun hc9 => ?_) (fun hc9 => ?_)
                · refine tj_look (tgt := 134) (off := 133) dX3_joined_1 (by decide) (by rw [hc9]; first | done | decide) (by decide) ?_
                  refine tj_iload_n (q := 135) dX3_joined_134 rfl (i := 1) rfl (pl := 1) rfl ?_
                  refine tj_iload_n (q := 136) dX3_joined_135 rfl (i := 2) rfl (pl := 2) rfl ?_
                  refine tj_icmp_ne (tgt := 143) (q := 139) dX3_joined_136 (by decide) rfl ?_ ?_
                  · refine tj_iconst (q := 140) (v := 1) dX3_joined_139 rfl (by decide) ?_
                    refine tj_goto (q := 144) dX3_joined_140 (by decide) ?_
                    exact tj_iret rfl rfl (Nat.le_of_ble_eq_true rfl) (Nat.le_of_ble_eq_true rfl) dX3_joined_144
                  · refine tj_iconst (q := 144) (v := 0) dX3_joined_143 rfl (by decide) ?_
                    exact tj_iret rfl rfl (Nat.le_of_ble_eq_true rfl) (Nat.le_of_ble_eq_true rfl) dX3_joined_144
                · refine tj_caseI (fun hc10 => ?_) (fun hc10 => ?_)
                  · refine tj_look (tgt := 123) (off := 122) dX3_joined_1 (by decide) (by rw [hc10]; first | done | decide) (by decide) ?_
                    refine tj_iload_n (q := 124) dX3_joined_123 rfl (i := 1) rfl (pl := 1) rfl ?_
                    refine tj_iload_n (q := 125) dX3_joined_124 rfl (i := 2) rfl (pl := 2) rfl ?_
                    refine tj_icmp_le (tgt := 132) (q := 128) dX3_joined_125 (by decide) rfl ?_ ?_
                    · refine tj_iconst (q := 133) (v := 0) dX3_joined_132 rfl (by decide) ?_
                      exact tj_iret rfl rfl (Nat.le_of_ble_eq_true rfl) (Nat.le_of_ble_eq_true rfl) dX3_joined_133
                    · refine tj_iconst (q := 129) (v := 1) dX3_joined_128 rfl (by decide) ?_
                      refine tj_goto (q := 133) dX3_joined_129 (by decide) ?_
                      exact tj_iret rfl rfl (Nat.le_of_ble_eq_true rfl) (Nat.le_of_ble_eq_true rfl) dX3_joined_133
                  · refine tj_look (tgt := 169) (off := 168) dX3_joined_1 (by decide) (by rw [show (#[(3, 83), (4, 97), (42, 152), (43, 144), (45, 148), (47, 156), (60, 111), (61, 133), (62, 122)] : Array (Int × Int)).toList = [(3, 83), (4, 97), (42, 152), (43, 144), (45, 148), (47, 156), (60, 111), (61, 133), (62, 122)] from rfl]; rw [lv_osw hc1 (by decide), lv_osw hc2 (by decide), lv_osw hc3 (by decide), lv_osw hc4 (by decide), lv_osw hc5 (by decide), lv_osw hc6 (by decide), lv_osw hc8 (by decide), lv_osw hc9 (by decide), lv_osw hc10 (by decide)]; first | done | rfl) (by decide) ?_
                    refine tj_iload_n (q := 170) dX3_joined_169 rfl (i := 2) rfl (pl := 2) rfl ?_
                    refine tj_if_ne (tgt := 177) (q := 173) dX3_joined_170 (by decide) rfl ?_ ?_
                    · refine tj_iconst (q := 174) (v := 0) dX3_joined_173 rfl (by decide) ?_
                      refine tj_goto (q := 180) dX3_joined_174 (by decide) ?_
                      exact tj_iret rfl rfl (Nat.le_of_ble_eq_true rfl) (Nat.le_of_ble_eq_true rfl) dX3_joined_180
                    · refine tj_iload_n (q := 178) dX3_joined_177 rfl (i := 1) rfl (pl := 1) rfl ?_
                      refine tj_iload_n (q := 179) dX3_joined_178 rfl (i := 2) rfl (pl := 2) rfl ?_
                      refine tj_gne (y := p3) (fun hn11 => ?_)
                      refine tj_irem (q := 180) dX3_joined_179 rfl hn11 ?_
                      exact tj_iret rfl rfl (Nat.le_of_ble_eq_true rfl) (Nat.le_of_ble_eq_true rfl) dX3_joined_180

theorem dX3_allows_0 : decode cX3_allows 0 = .ok (.aload_n 0, 1) := by decide +kernel
theorem dX3_allows_1 : decode cX3_allows 1 = .ok (.getfield 24, 3) := by decide +kernel
theorem dX3_allows_4 : decode cX3_allows 4 = .ok (.ifCond .ne 14, 3) := by decide +kernel
theorem dX3_allows_7 : decode cX3_allows 7 = .ok (.iload_n 2, 1) := by decide +kernel
theorem dX3_allows_8 : decode cX3_allows 8 = .ok (.iload_n 1, 1) := by decide +kernel
theorem dX3_allows_9 : decode cX3_allows 9 = .ok (.if_icmp .le 7, 3) := by decide +kernel
theorem dX3_allows_12 : decode cX3_allows 12 = .ok (.iconst 1, 1) := by decide +kernel
theorem dX3_allows_13 : decode cX3_allows 13 = .ok (.goto 4, 3) := by decide +kernel
theorem dX3_allows_16 : decode cX3_allows 16 = .ok (.iconst 0, 1) := by decide +kernel
theorem dX3_allows_17 : decode cX3_allows 17 = .ok (.ireturn, 1) := by decide +kernel
theorem dX3_allows_18 : decode cX3_allows 18 = .ok (.aload_n 0, 1) := by decide +kernel
theorem dX3_allows_19 : decode cX3_allows 19 = .ok (.getfield 21, 3) := by decide +kernel
theorem dX3_allows_22 : decode cX3_allows 22 = .ok (.iconst 0, 1) := by decide +kernel
theorem dX3_allows_23 : decode cX3_allows 23 = .ok (.iload_n 1, 1) := by decide +kernel
theorem dX3_allows_24 : decode cX3_allows 24 = .ok (.iastore, 1) := by decide +kernel
theorem dX3_allows_25 : decode cX3_allows 25 = .ok (.aload_n 0, 1) := by decide +kernel
theorem dX3_allows_26 : decode cX3_allows 26 = .ok (.getfield 21, 3) := by decide +kernel
theorem dX3_allows_29 : decode cX3_allows 29 = .ok (.iconst 1, 1) := by decide +kernel
theorem dX3_allows_30 : decode cX3_allows 30 = .ok (.iload_n 2, 1) := by decide +kernel
theorem dX3_allows_31 : decode cX3_allows 31 = .ok (.iastore, 1) := by decide +kernel
theorem dX3_allows_32 : decode cX3_allows 32 = .ok (.aload_n 0, 1) := by decide +kernel
theorem dX3_allows_33 : decode cX3_allows 33 = .ok (.getfield 21, 3) := by decide +kernel
theorem dX3_allows_36 : decode cX3_allows 36 = .ok (.iconst 2, 1) := by decide +kernel
theorem dX3_allows_37 : decode cX3_allows 37 = .ok (.iload_n 3, 1) := by decide +kernel
theorem dX3_allows_38 : decode cX3_allows 38 = .ok (.iastore, 1) := by decide +kernel
theorem dX3_allows_39 : decode cX3_allows 39 = .ok (.aload_n 0, 1) := by decide +kernel
theorem dX3_allows_40 : decode cX3_allows 40 = .ok (.getfield 21, 3) := by decide +kernel
theorem dX3_allows_43 : decode cX3_allows 43 = .ok (.iconst 3, 1) := by decide +kernel
theorem dX3_allows_44 : decode cX3_allows 44 = .ok (.iload 4, 2) := by decide +kernel
theorem dX3_allows_46 : decode cX3_allows 46 = .ok (.iastore, 1) := by decide +kernel
theorem dX3_allows_47 : decode cX3_allows 47 = .ok (.aload_n 0, 1) := by decide +kernel
theorem dX3_allows_48 : decode cX3_allows 48 = .ok (.getfield 21, 3) := by decide +kernel
theorem dX3_allows_51 : decode cX3_allows 51 = .ok (.iconst 4, 1) := by decide +kernel
theorem dX3_allows_52 : decode cX3_allows 52 = .ok (.iload 5, 2) := by decide +kernel
theorem dX3_allows_54 : decode cX3_allows 54 = .ok (.iastore, 1) := by decide +kernel
theorem dX3_allows_55 : decode cX3_allows 55 = .ok (.aload_n 0, 1) := by decide +kernel
theorem dX3_allows_56 : decode cX3_allows 56 = .ok (.getfield 21, 3) := by decide +kernel
theorem dX3_allows_59 : decode cX3_allows 59 = .ok (.iconst 5, 1) := by decide +kernel
theorem dX3_allows_60 : decode cX3_allows 60 = .ok (.iload 6, 2) := by decide +kernel
theorem dX3_allows_62 : decode cX3_allows 62 = .ok (.iastore, 1) := by decide +kernel
theorem dX3_allows_63 : decode cX3_allows 63 = .ok (.aload_n 0, 1) := by decide +kernel
theorem dX3_allows_64 : decode cX3_allows 64 = .ok (.getfield 21, 3) := by decide +kernel
theorem dX3_allows_67 : decode cX3_allows 67 = .ok (.bipush 6, 2) := by decide +kernel
theorem dX3_allows_69 : decode cX3_allows 69 = .ok (.iload 7, 2) := by decide +kernel
theorem dX3_allows_71 : decode cX3_allows 71 = .ok (.iastore, 1) := by decide +kernel
theorem dX3_allows_72 : decode cX3_allows 72 = .ok (.iconst 0, 1) := by decide +kernel
theorem dX3_allows_73 : decode cX3_allows 73 = .ok (.istore 8, 2) := by decide +kernel
theorem dX3_allows_75 : decode cX3_allows 75 = .ok (.iconst 0, 1) := by decide +kernel
theorem dX3_allows_76 : decode cX3_allows 76 = .ok (.istore 9, 2) := by decide +kernel
theorem dX3_allows_78 : decode cX3_allows 78 = .ok (.iload 9, 2) := by decide +kernel
theorem dX3_allows_80 : decode cX3_allows 80 = .ok (.aload_n 0, 1) := by decide +kernel
theorem dX3_allows_81 : decode cX3_allows 81 = .ok (.getfield 24, 3) := by decide +kernel
theorem dX3_allows_84 : decode cX3_allows 84 = .ok (.if_icmp .ge 158, 3) := by decide +kernel
theorem dX3_allows_87 : decode cX3_allows 87 = .ok (.aload_n 0, 1) := by decide +kernel
theorem dX3_allows_88 : decode cX3_allows 88 = .ok (.getfield 11, 3) := by decide +kernel
theorem dX3_allows_91 : decode cX3_allows 91 = .ok (.iload 9, 2) := by decide +kernel
theorem dX3_allows_93 : decode cX3_allows 93 = .ok (.iaload, 1) := by decide +kernel
theorem dX3_allows_94 : decode cX3_allows 94 = .ok (.istore 10, 2) := by decide +kernel
theorem dX3_allows_96 : decode cX3_allows 96 = .ok (.iload 10, 2) := by decide +kernel
theorem dX3_allows_98 : decode cX3_allows 98 = .ok (.ifCond .eq 9, 3) := by decide +kernel
theorem dX3_allows_101 : decode cX3_allows 101 = .ok (.iload 10, 2) := by decide +kernel
theorem dX3_allows_103 : decode cX3_allows 103 = .ok (.iconst 1, 1) := by decide +kernel
theorem dX3_allows_104 : decode cX3_allows 104 = .ok (.if_icmp .ne 52, 3) := by decide +kernel
theorem dX3_allows_107 : decode cX3_allows 107 = .ok (.iload 8, 2) := by decide +kernel
theorem dX3_allows_109 : decode cX3_allows 109 = .ok (.bipush 30, 2) := by decide +kernel
theorem dX3_allows_111 : decode cX3_allows 111 = .ok (.if_icmp .lt 5, 3) := by decide +kernel
theorem dX3_allows_114 : decode cX3_allows 114 = .ok (.iconst 0, 1) := by decide +kernel
theorem dX3_allows_115 : decode cX3_allows 115 = .ok (.ireturn, 1) := by decide +kernel
theorem dX3_allows_116 : decode cX3_allows 116 = .ok (.aload_n 0, 1) := by decide +kernel
theorem dX3_allows_117 : decode cX3_allows 117 = .ok (.getfield 18, 3) := by decide +kernel
theorem dX3_allows_120 : decode cX3_allows 120 = .ok (.iload 8, 2) := by decide +kernel
theorem dX3_allows_122 : decode cX3_allows 122 = .ok (.iload 10, 2) := by decide +kernel
theorem dX3_allows_124 : decode cX3_allows 124 = .ok (.ifCond .ne 13, 3) := by decide +kernel
theorem dX3_allows_127 : decode cX3_allows 127 = .ok (.aload_n 0, 1) := by decide +kernel
theorem dX3_allows_128 : decode cX3_allows 128 = .ok (.getfield 15, 3) := by decide +kernel
theorem dX3_allows_131 : decode cX3_allows 131 = .ok (.iload 9, 2) := by decide +kernel
theorem dX3_allows_133 : decode cX3_allows 133 = .ok (.iaload, 1) := by decide +kernel
theorem dX3_allows_134 : decode cX3_allows 134 = .ok (.goto 15, 3) := by decide +kernel
theorem dX3_allows_137 : decode cX3_allows 137 = .ok (.aload_n 0, 1) := by decide +kernel
theorem dX3_allows_138 : decode cX3_allows 138 = .ok (.getfield 21, 3) := by decide +kernel
theorem dX3_allows_141 : decode cX3_allows 141 = .ok (.aload_n 0, 1) := by decide +kernel
theorem dX3_allows_142 : decode cX3_allows 142 = .ok (.getfield 15, 3) := by decide +kernel
theorem dX3_allows_145 : decode cX3_allows 145 = .ok (.iload 9, 2) := by decide +kernel
theorem dX3_allows_147 : decode cX3_allows 147 = .ok (.iaload, 1) := by decide +kernel
theorem dX3_allows_148 : decode cX3_allows 148 = .ok (.iaload, 1) := by decide +kernel
theorem dX3_allows_149 : decode cX3_allows 149 = .ok (.iastore, 1) := by decide +kernel
theorem dX3_allows_150 : decode cX3_allows 150 = .ok (.iinc 8 1, 3) := by decide +kernel
theorem dX3_allows_153 : decode cX3_allows 153 = .ok (.goto 83, 3) := by decide +kernel
theorem dX3_allows_156 : decode cX3_allows 156 = .ok (.iload 8, 2) := by decide +kernel
theorem dX3_allows_158 : decode cX3_allows 158 = .ok (.iconst 1, 1) := by decide +kernel
theorem dX3_allows_159 : decode cX3_allows 159 = .ok (.if_icmp .lt 38, 3) := by decide +kernel
theorem dX3_allows_162 : decode cX3_allows 162 = .ok (.iload 10, 2) := by decide +kernel
theorem dX3_allows_164 : decode cX3_allows 164 = .ok (.iconst 2, 1) := by decide +kernel
theorem dX3_allows_165 : decode cX3_allows 165 = .ok (.if_icmp .ne 32, 3) := by decide +kernel
theorem dX3_allows_168 : decode cX3_allows 168 = .ok (.aload_n 0, 1) := by decide +kernel
theorem dX3_allows_169 : decode cX3_allows 169 = .ok (.getfield 18, 3) := by decide +kernel
theorem dX3_allows_172 : decode cX3_allows 172 = .ok (.iload 8, 2) := by decide +kernel
theorem dX3_allows_174 : decode cX3_allows 174 = .ok (.iconst 1, 1) := by decide +kernel
theorem dX3_allows_175 : decode cX3_allows 175 = .ok (.isub, 1) := by decide +kernel
theorem dX3_allows_176 : decode cX3_allows 176 = .ok (.aload_n 0, 1) := by decide +kernel
theorem dX3_allows_177 : decode cX3_allows 177 = .ok (.getfield 18, 3) := by decide +kernel
theorem dX3_allows_180 : decode cX3_allows 180 = .ok (.iload 8, 2) := by decide +kernel
theorem dX3_allows_182 : decode cX3_allows 182 = .ok (.iconst 1, 1) := by decide +kernel
theorem dX3_allows_183 : decode cX3_allows 183 = .ok (.isub, 1) := by decide +kernel
theorem dX3_allows_184 : decode cX3_allows 184 = .ok (.iaload, 1) := by decide +kernel
theorem dX3_allows_185 : decode cX3_allows 185 = .ok (.ifCond .ne 7, 3) := by decide +kernel
theorem dX3_allows_188 : decode cX3_allows 188 = .ok (.iconst 1, 1) := by decide +kernel
theorem dX3_allows_189 : decode cX3_allows 189 = .ok (.goto 4, 3) := by decide +kernel
theorem dX3_allows_192 : decode cX3_allows 192 = .ok (.iconst 0, 1) := by decide +kernel
theorem dX3_allows_193 : decode cX3_allows 193 = .ok (.iastore, 1) := by decide +kernel
theorem dX3_allows_194 : decode cX3_allows 194 = .ok (.goto 42, 3) := by decide +kernel
theorem dX3_allows_197 : decode cX3_allows 197 = .ok (.iload 8, 2) := by decide +kernel
theorem dX3_allows_199 : decode cX3_allows 199 = .ok (.iconst 2, 1) := by decide +kernel
theorem dX3_allows_200 : decode cX3_allows 200 = .ok (.if_icmp .lt 36, 3) := by decide +kernel
theorem dX3_allows_203 : decode cX3_allows 203 = .ok (.iinc 8 (-1), 3) := by decide +kernel
theorem dX3_allows_206 : decode cX3_allows 206 = .ok (.aload_n 0, 1) := by decide +kernel
theorem dX3_allows_207 : decode cX3_allows 207 = .ok (.getfield 18, 3) := by decide +kernel
theorem dX3_allows_210 : decode cX3_allows 210 = .ok (.iload 8, 2) := by decide +kernel
theorem dX3_allows_212 : decode cX3_allows 212 = .ok (.iconst 1, 1) := by decide +kernel
theorem dX3_allows_213 : decode cX3_allows 213 = .ok (.isub, 1) := by decide +kernel
theorem dX3_allows_214 : decode cX3_allows 214 = .ok (.iload 10, 2) := by decide +kernel
theorem dX3_allows_216 : decode cX3_allows 216 = .ok (.aload_n 0, 1) := by decide +kernel
theorem dX3_allows_217 : decode cX3_allows 217 = .ok (.getfield 18, 3) := by decide +kernel
theorem dX3_allows_220 : decode cX3_allows 220 = .ok (.iload 8, 2) := by decide +kernel
theorem dX3_allows_222 : decode cX3_allows 222 = .ok (.iconst 1, 1) := by decide +kernel
theorem dX3_allows_223 : decode cX3_allows 223 = .ok (.isub, 1) := by decide +kernel
theorem dX3_allows_224 : decode cX3_allows 224 = .ok (.iaload, 1) := by decide +kernel
theorem dX3_allows_225 : decode cX3_allows 225 = .ok (.aload_n 0, 1) := by decide +kernel
theorem dX3_allows_226 : decode cX3_allows 226 = .ok (.getfield 18, 3) := by decide +kernel
theorem dX3_allows_229 : decode cX3_allows 229 = .ok (.iload 8, 2) := by decide +kernel
theorem dX3_allows_231 : decode cX3_allows 231 = .ok (.iaload, 1) := by decide +kernel
theorem dX3_allows_232 : decode cX3_allows 232 = .ok (.invokestatic 31, 3) := by decide +kernel
theorem dX3_allows_235 : decode cX3_allows 235 = .ok (.iastore, 1) := by decide +kernel
theorem dX3_allows_236 : decode cX3_allows 236 = .ok (.iinc 9 1, 3) := by decide +kernel
theorem dX3_allows_239 : decode cX3_allows 239 = .ok (.goto (-161), 3) := by decide +kernel
theorem dX3_allows_242 : decode cX3_allows 242 = .ok (.aload_n 0, 1) := by decide +kernel
theorem dX3_allows_243 : decode cX3_allows 243 = .ok (.getfield 18, 3) := by decide +kernel
theorem dX3_allows_246 : decode cX3_allows 246 = .ok (.iconst 0, 1) := by decide +kernel
theorem dX3_allows_247 : decode cX3_allows 247 = .ok (.iaload, 1) := by decide +kernel
theorem dX3_allows_248 : decode cX3_allows 248 = .ok (.ifCond .eq 7, 3) := by decide +kernel
theorem dX3_allows_251 : decode cX3_allows 251 = .ok (.iconst 1, 1) := by decide +kernel
theorem dX3_allows_252 : decode cX3_allows 252 = .ok (.goto 4, 3) := by decide +kernel
theorem dX3_allows_255 : decode cX3_allows 255 = .ok (.iconst 0, 1) := by decide +kernel
theorem dX3_allows_256 : decode cX3_allows 256 = .ok (.ireturn, 1) := by decide +kernel
theorem wl_RX3_21 : Cond.fieldLink RX3 21 (TX3 3).1 (TX3 3).2.1 (TX3 3).2.2.1 ∈ TB := tbm 269 (by decide +kernel) (by decide +kernel)
theorem wl_RX3_18 : Cond.fieldLink RX3 18 (TX3 2).1 (TX3 2).2.1 (TX3 2).2.2.1 ∈ TB := tbm 268 (by decide +kernel) (by decide +kernel)
theorem wm_X3_joined : Cond.static yX3_joined ∈ TB ∧ Cond.initialized yX3_joined.cls ∈ TB ∧ Cond.code yX3_joined cX3_joined 3 (some .int) ∈ TB ∧ (yX3_joined.cls ≠ "java/lang/invoke/MethodHandle" ∧ yX3_joined.cls ≠ "java/lang/invoke/VarHandle" ∧ (parseMethodDescriptor yX3_joined.desc).map (fun d => d.parameters.length) = some 3) ∧ 3 ≤ 21 := ⟨tbm 1116 (by decide +kernel) (by decide +kernel), tbm 139 (by decide +kernel) (by decide +kernel), tbm 1117 (by decide +kernel) (by decide +kernel), by decide +kernel, by decide⟩
theorem wi_RX3_31 : Is RX3 31 yX3_joined cX3_joined 3 (some .int) 3 := ⟨tbm 1115 (by decide +kernel) (by decide +kernel), wm_X3_joined⟩
def mX3_allows_L78 (t : Nat) (k242 : St_ → Option (Bool × St_)) : Nat → Int32 → Int32 → St_ → Option (Bool × St_)
  | 0, _, _, _ => none
  | n + 1, x8, x9, σ => (if (σ.1 t 4) ≤ x9 then
 (k242 σ)
 else (if bin x9 300 = true then bnd (σ.1 (t + 1) x9.toNatClampNeg) fun v8 =>
 (bnd (fun (j9 : Int32) (σ10 : St_) => (mX3_allows_L78 t k242 n j9 (x9 + 1) σ10)) fun k11 =>
 (bnd (if x8 < (30 : Int32) then
 (bnd (fun (j15 : Int32) => (if bin x8 30 = true then bnd (sI σ (t + 3) x8.toNatClampNeg j15) fun σ18 =>
 (k11 (x8 + 1) σ18)
 else none)) fun k16 =>
 (if v8 = 0 then
 (if bin x9 300 = true then bnd (σ.1 (t + 2) x9.toNatClampNeg) fun v19 =>
 (k16 v19)
 else none)
 else (if bin x9 300 = true then bnd (σ.1 (t + 2) x9.toNatClampNeg) fun v20 =>
 (if bin v20 7 = true then bnd (σ.1 (t + 4) v20.toNatClampNeg) fun v21 =>
 (k16 v21)
 else none)
 else none)))
 else (some (false, σ))) fun k13 =>
 (if v8 = 0 then
 (k13)
 else (if v8 = (1 : Int32) then
 (k13)
 else (bnd (if x8 < (2 : Int32) then
 (k11 x8 σ)
 else (bnd ((x8 + (-1)) - (1 : Int32)) fun v24 =>
 (if bin v24 30 = true then bnd (σ.1 (t + 3) v24.toNatClampNeg) fun v25 =>
 (bnd (x8 + (-1)) fun v26 =>
 (if bin v26 30 = true then bnd (σ.1 (t + 3) v26.toNatClampNeg) fun v27 =>
 ((mX3_joined v8 v25 v27 σ).bind fun r28 =>
 (bnd ((x8 + (-1)) - (1 : Int32)) fun v29 =>
 (if bin v29 30 = true then bnd (sI σ (t + 3) v29.toNatClampNeg r28) fun σ30 =>
 (k11 (x8 + (-1)) σ30)
 else none)))
 else none))
 else none))) fun k22 =>
 (if x8 < (1 : Int32) then
 (k22)
 else (if v8 = (2 : Int32) then
 (bnd (x8 - (1 : Int32)) fun v31 =>
 (if bin v31 30 = true then bnd (σ.1 (t + 3) v31.toNatClampNeg) fun v32 =>
 (bnd (fun (j33 : Bool) => (bnd (x8 - (1 : Int32)) fun v36 =>
 (if bin v36 30 = true then bnd (sI σ (t + 3) v36.toNatClampNeg (b2i j33)) fun σ37 =>
 (k11 x8 σ37)
 else none))) fun k34 =>
 (if v32 = 0 then
 (k34 true)
 else (k34 false)))
 else none))
 else (k22))))))))
 else none))
def mX3_allows (t : Nat) (p1 : Int32) (p2 : Int32) (p3 : Int32) (p4 : Int32) (p5 : Int32) (p6 : Int32) (p7 : Int32) (σ : St_) : Option (Bool × St_) :=
 (if (σ.1 t 4) = 0 then
 (if p2 ≤ p1 then
 (some (false, σ))
 else (some (true, σ)))
 else (if bin (0 : Int32) 7 = true then bnd (sI σ (t + 4) (0 : Int32).toNatClampNeg p1) fun σ1 =>
 (if bin (1 : Int32) 7 = true then bnd (sI σ1 (t + 4) (1 : Int32).toNatClampNeg p2) fun σ2 =>
 (if bin (2 : Int32) 7 = true then bnd (sI σ2 (t + 4) (2 : Int32).toNatClampNeg p3) fun σ3 =>
 (if bin (3 : Int32) 7 = true then bnd (sI σ3 (t + 4) (3 : Int32).toNatClampNeg p4) fun σ4 =>
 (if bin (4 : Int32) 7 = true then bnd (sI σ4 (t + 4) (4 : Int32).toNatClampNeg p5) fun σ5 =>
 (if bin (5 : Int32) 7 = true then bnd (sI σ5 (t + 4) (5 : Int32).toNatClampNeg p6) fun σ6 =>
 (if bin (6 : Int32) 7 = true then bnd (sI σ6 (t + 4) (6 : Int32).toNatClampNeg p7) fun σ7 =>
 (mX3_allows_L78 t
 (fun (σ38 : St_) => (if bin (0 : Int32) 30 = true then bnd (σ38.1 (t + 3) (0 : Int32).toNatClampNeg) fun v39 =>
 (if v39 = 0 then
 (some (false, σ38))
 else (some (true, σ38)))
 else none)) FU (0 : Int32) (0 : Int32) σ7)
 else none)
 else none)
 else none)
 else none)
 else none)
 else none)
 else none))
set_option maxHeartbeats 4000000 in
theorem tmX3_allows_L78 (t : Nat) (hT : LY3 sh P t) (k242 : St_ → Option (Bool × St_)) (hk242 : ∀ (σ1 : St_), Tj l D cA h0 ad RX3 cX3_allows 11 (some .boolean) false 3 0 0 (fun b => (some (.int (b2i b.1)), sh, P, b.2)) 0 0 sh P σ1 242 [(0, .ref (h0 + t))] [] (k242 σ1)) : ∀ (n : Nat) (x8 : Int32) (x9 : Int32) (σ : St_), Tj l D cA h0 ad RX3 cX3_allows 11 (some .boolean) false 3 0 0 (fun b => (some (.int (b2i b.1)), sh, P, b.2)) 0 0 sh P σ 78 [(0, .ref (h0 + t)), (8, .int x8), (9, .int x9)] [] (mX3_allows_L78 t k242 n x8 x9 σ) := by
  intro n
  induction n with
  | zero => intros; exact tj_none
  | succ n ih =>
    intro x8 x9 σ
    rw [mX3_allows_L78]
    refine tj_iload (q := 80) dX3_allows_78 rfl (pl := 2) rfl ?_
    refine tj_aload_n (q := 81) dX3_allows_80 rfl (i := 0) rfl (pl := 0) rfl ?_
    refine tj_getI (q := 84) (hT).s fok_3_4 wl_RX3_24 dX3_allows_81 rfl ?_
    refine tj_icmp_ge (tgt := 242) (q := 87) dX3_allows_84 (by decide) rfl ?_ ?_
    · refine tj_lv [0] rfl ?_
      exact hk242 σ
    · refine tj_aload_n (q := 88) dX3_allows_87 rfl (i := 0) rfl (pl := 0) rfl ?_
      refine tj_getR (q := 91) (hT).s (hT).p_step fok_3_0 wl_RX3_11 dX3_allows_88 rfl ?_
      refine tj_iload (q := 93) dX3_allows_91 rfl (pl := 2) rfl ?_
      refine tj_iaload (q := 94) (hT).s_step dX3_allows_93 rfl ?_
      refine tj_topI (fun v8 => ?_)
      refine tj_istore (q := 96) dX3_allows_94 rfl (by decide) rfl ?_
      refine tj_iload (q := 98) dX3_allows_96 rfl (pl := 0) rfl ?_
      refine tj_bnd (fun k11 => ∀ (j9 : Int32) (σ10 : St_), Tj l D cA h0 ad RX3 cX3_allows 11 (some .boolean) false 3 0 0 (fun b => (some (.int (b2i b.1)), sh, P, b.2)) 0 0 sh P σ10 236 [(0, .ref (h0 + t)), (8, .int j9), (9, .int x9)] [] (k11 j9 σ10)) ?_ (fun k11 hk12 => ?_)
      · intro j9 σ10
        refine tj_iinc (q := 239) (v := x9 + 1) dX3_allows_236 rfl (pl := 2) rfl rfl (by decide) rfl ?_
        refine tj_goto (q := 78) dX3_allows_239 (by decide) ?_
        refine tj_lv [1, 2, 0] rfl ?_
        exact ih j9 (x9 + 1) σ10
      · refine tj_bnd (fun k13 => Tj l D cA h0 ad RX3 cX3_allows 11 (some .boolean) false 3 0 0 (fun b => (some (.int (b2i b.1)), sh, P, b.2)) 0 0 sh P σ 107 [(0, .ref (h0 + t)), (8, .int x8), (9, .int x9), (10, .int v8)] [] k13) ?_ (fun k13 hk14 => ?_)
        · refine tj_iload (q := 109) dX3_allows_107 rfl (pl := 1) rfl ?_
          refine tj_bipush (q := 111) (v := 30) dX3_allows_109 rfl (by decide) ?_
          refine tj_icmp_lt (tgt := 116) (q := 114) dX3_allows_111 (by decide) rfl ?_ ?_
          · refine tj_aload_n (q := 117) dX3_allows_116 rfl (i := 0) rfl (pl := 0) rfl ?_
            refine tj_getR (q := 120) (hT).s (hT).p_stack fok_3_2 wl_RX3_18 dX3_allows_117 rfl ?_
            refine tj_iload (q := 122) dX3_allows_120 rfl (pl := 1) rfl ?_
            refine tj_iload (q := 124) dX3_allows_122 rfl (pl := 3) rfl ?_
            refine tj_bnd (fun k16 => ∀ (j15 : Int32), Tj l D cA h0 ad RX3 cX3_allows 11 (some .boolean) false 3 0 0 (fun b => (some (.int (b2i b.1)), sh, P, b.2)) 0 0 sh P σ 149 [(0, .ref (h0 + t)), (8, .int x8), (9, .int x9)] [.int j15, .int x8, .ref (h0 + (t + 3))] (k16 j15)) ?_ (fun k16 hk17 => ?_)
            · intro j15
              refine tj_iastore (q := 150) (hT).s_stack dX3_allows_149 rfl (fun σ18 => ?_)
              refine tj_iinc (q := 153) (v := x8 + 1) dX3_allows_150 rfl (pl := 1) rfl rfl (by decide) rfl ?_
              refine tj_goto (q := 236) dX3_allows_153 (by decide) ?_
              refine tj_lv [1, 0, 2] rfl ?_
              exact hk12 (x8 + 1) σ18
            · refine tj_if_ne (tgt := 137) (q := 127) dX3_allows_124 (by decide) rfl ?_ ?_
              · refine tj_aload_n (q := 128) dX3_allows_127 rfl (i := 0) rfl (pl := 0) rfl ?_
                refine tj_getR (q := 131) (hT).s (hT).p_argument fok_3_1 wl_RX3_15 dX3_allows_128 rfl ?_
                refine tj_iload (q := 133) dX3_allows_131 rfl (pl := 2) rfl ?_
                refine tj_iaload (q := 134) (hT).s_argument dX3_allows_133 rfl ?_
                refine tj_topI (fun v19 => ?_)
                refine tj_goto (q := 149) dX3_allows_134 (by decide) ?_
                refine tj_lv [0, 1, 2] rfl ?_
                exact hk17 v19
              · refine tj_aload_n (q := 138) dX3_allows_137 rfl (i := 0) rfl (pl := 0) rfl ?_
                refine tj_getR (q := 141) (hT).s (hT).p_given fok_3_3 wl_RX3_21 dX3_allows_138 rfl ?_
                refine tj_aload_n (q := 142) dX3_allows_141 rfl (i := 0) rfl (pl := 0) rfl ?_
                refine tj_getR (q := 145) (hT).s (hT).p_argument fok_3_1 wl_RX3_15 dX3_allows_142 rfl ?_
                refine tj_iload (q := 147) dX3_allows_145 rfl (pl := 2) rfl ?_
                refine tj_iaload (q := 148) (hT).s_argument dX3_allows_147 rfl ?_
                refine tj_topI (fun v20 => ?_)
                refine tj_iaload (q := 149) (hT).s_given dX3_allows_148 rfl ?_
                refine tj_topI (fun v21 => ?_)
                refine tj_lv [0, 1, 2] rfl ?_
                exact hk17 v21
          · refine tj_iconst (q := 115) (v := 0) dX3_allows_114 rfl (by decide) ?_
            exact tj_zret rfl (by decide) rfl (Nat.le_of_ble_eq_true rfl) (Nat.le_of_ble_eq_true rfl) dX3_allows_115
        · refine tj_if_eq (tgt := 107) (q := 101) dX3_allows_98 (by decide) rfl ?_ ?_
          · refine tj_lv [1, 2, 3, 0] rfl ?_
            exact hk14
          · refine tj_iload (q := 103) dX3_allows_101 rfl (pl := 0) rfl ?_
            refine tj_iconst (q := 104) (v := 1) dX3_allows_103 rfl (by decide) ?_
            refine tj_icmp_ne (tgt := 156) (q := 107) dX3_allows_104 (by decide) rfl ?_ ?_
            · refine tj_lv [1, 2, 3, 0] rfl ?_
              exact hk14
            · refine tj_iload (q := 158) dX3_allows_156 rfl (pl := 2) rfl ?_
              refine tj_iconst (q := 159) (v := 1) dX3_allows_158 rfl (by decide) ?_
              refine tj_bnd (fun k22 => Tj l D cA h0 ad RX3 cX3_allows 11 (some .boolean) false 3 0 0 (fun b => (some (.int (b2i b.1)), sh, P, b.2)) 0 0 sh P σ 197 [(0, .ref (h0 + t)), (8, .int x8), (9, .int x9), (10, .int v8)] [] k22) ?_ (fun k22 hk23 => ?_)
              · refine tj_iload (q := 199) dX3_allows_197 rfl (pl := 1) rfl ?_
                refine tj_iconst (q := 200) (v := 2) dX3_allows_199 rfl (by decide) ?_
                refine tj_icmp_lt (tgt := 236) (q := 203) dX3_allows_200 (by decide) rfl ?_ ?_
                · refine tj_lv [0, 1, 2] rfl ?_
                  exact hk12 x8 σ
                · refine tj_iinc (q := 206) (v := x8 + (-1)) dX3_allows_203 rfl (pl := 1) rfl rfl (by decide) rfl ?_
                  refine tj_aload_n (q := 207) dX3_allows_206 rfl (i := 0) rfl (pl := 1) rfl ?_
                  refine tj_getR (q := 210) (hT).s (hT).p_stack fok_3_2 wl_RX3_18 dX3_allows_207 rfl ?_
                  refine tj_iload (q := 212) dX3_allows_210 rfl (pl := 0) rfl ?_
                  refine tj_iconst (q := 213) (v := 1) dX3_allows_212 rfl (by decide) ?_
                  refine tj_isub (q := 214) dX3_allows_213 rfl ?_
                  refine tj_iload (q := 216) dX3_allows_214 rfl (pl := 3) rfl ?_
                  refine tj_aload_n (q := 217) dX3_allows_216 rfl (i := 0) rfl (pl := 1) rfl ?_
                  refine tj_getR (q := 220) (hT).s (hT).p_stack fok_3_2 wl_RX3_18 dX3_allows_217 rfl ?_
                  refine tj_iload (q := 222) dX3_allows_220 rfl (pl := 0) rfl ?_
                  refine tj_iconst (q := 223) (v := 1) dX3_allows_222 rfl (by decide) ?_
                  refine tj_isub (q := 224) dX3_allows_223 rfl ?_
                  refine tj_topI (fun v24 => ?_)
                  refine tj_iaload (q := 225) (hT).s_stack dX3_allows_224 rfl ?_
                  refine tj_topI (fun v25 => ?_)
                  refine tj_aload_n (q := 226) dX3_allows_225 rfl (i := 0) rfl (pl := 1) rfl ?_
                  refine tj_getR (q := 229) (hT).s (hT).p_stack fok_3_2 wl_RX3_18 dX3_allows_226 rfl ?_
                  refine tj_iload (q := 231) dX3_allows_229 rfl (pl := 0) rfl ?_
                  refine tj_topI (fun v26 => ?_)
                  refine tj_iaload (q := 232) (hT).s_stack dX3_allows_231 rfl ?_
                  refine tj_topI (fun v27 => ?_)
                  refine tj_callIp (q := 235) (kj_S (As := [.int v8, .int v25, .int v27]) (rest := [.int ((x8 + (-1)) - (1 : Int32)), .ref (h0 + (t + 3))]) wi_RX3_31 (rX3_joined v8 v25 v27) rfl (Nat.le_of_ble_eq_true rfl) ⟨Nat.le_of_ble_eq_true rfl, Nat.le_of_ble_eq_true rfl⟩ (Nat.le_of_ble_eq_true rfl) dX3_allows_232) rfl (fun r28 => ?_)
                  refine tj_sndI (fun v29 => ?_)
                  refine tj_iastore (q := 236) (hT).s_stack dX3_allows_235 rfl (fun σ30 => ?_)
                  refine tj_lv [1, 0, 2] rfl ?_
                  exact hk12 (x8 + (-1)) σ30
              · refine tj_icmp_lt (tgt := 197) (q := 162) dX3_allows_159 (by decide) rfl ?_ ?_
                · refine tj_lv [1, 2, 3, 0] rfl ?_
                  exact hk23
                · refine tj_iload (q := 164) dX3_allows_162 rfl (pl := 0) rfl ?_
                  refine tj_iconst (q := 165) (v := 2) dX3_allows_164 rfl (by decide) ?_
                  refine tj_icmp_ne (tgt := 197) (q := 168) dX3_allows_165 (by decide) rfl ?_ ?_
                  · refine tj_aload_n (q := 169) dX3_allows_168 rfl (i := 0) rfl (pl := 1) rfl ?_
                    refine tj_getR (q := 172) (hT).s (hT).p_stack fok_3_2 wl_RX3_18 dX3_allows_169 rfl ?_
                    refine tj_iload (q := 174) dX3_allows_172 rfl (pl := 2) rfl ?_
                    refine tj_iconst (q := 175) (v := 1) dX3_allows_174 rfl (by decide) ?_
                    refine tj_isub (q := 176) dX3_allows_175 rfl ?_
                    refine tj_aload_n (q := 177) dX3_allows_176 rfl (i := 0) rfl (pl := 1) rfl ?_
                    refine tj_getR (q := 180) (hT).s (hT).p_stack fok_3_2 wl_RX3_18 dX3_allows_177 rfl ?_
                    refine tj_iload (q := 182) dX3_allows_180 rfl (pl := 2) rfl ?_
                    refine tj_iconst (q := 183) (v := 1) dX3_allows_182 rfl (by decide) ?_
                    refine tj_isub (q := 184) dX3_allows_183 rfl ?_
                    refine tj_topI (fun v31 => ?_)
                    refine tj_iaload (q := 185) (hT).s_stack dX3_allows_184 rfl ?_
                    refine tj_topI (fun v32 => ?_)
                    refine tj_bnd (fun k34 => ∀ (j33 : Bool), Tj l D cA h0 ad RX3 cX3_allows 11 (some .boolean) false 3 0 0 (fun b => (some (.int (b2i b.1)), sh, P, b.2)) 0 0 sh P σ 193 [(0, .ref (h0 + t)), (8, .int x8), (9, .int x9)] [.int (b2i j33), .int (x8 - (1 : Int32)), .ref (h0 + (t + 3))] (k34 j33)) ?_ (fun k34 hk35 => ?_)
                    · intro j33
                      refine tj_sndI (fun v36 => ?_)
                      refine tj_iastore (q := 194) (hT).s_stack dX3_allows_193 rfl (fun σ37 => ?_)
                      refine tj_goto (q := 236) dX3_allows_194 (by decide) ?_
                      exact hk12 x8 σ37
                    · refine tj_if_ne (tgt := 192) (q := 188) dX3_allows_185 (by decide) rfl ?_ ?_
                      · refine tj_iconst (q := 189) (v := 1) dX3_allows_188 rfl (by decide) ?_
                        refine tj_goto (q := 193) dX3_allows_189 (by decide) ?_
                        refine tj_lv [1, 2, 3] rfl ?_
                        exact hk35 true
                      · refine tj_iconst (q := 193) (v := 0) dX3_allows_192 rfl (by decide) ?_
                        refine tj_lv [1, 2, 3] rfl ?_
                        exact hk35 false
                  · refine tj_lv [1, 2, 3, 0] rfl ?_
                    exact hk23

set_option maxHeartbeats 4000000 in
theorem rX3_allows (t : Nat) (p1 : Int32) (p2 : Int32) (p3 : Int32) (p4 : Int32) (p5 : Int32) (p6 : Int32) (p7 : Int32) (hT : LY3 sh P t) : Rj l D cA h0 ad yX3_allows cX3_allows 11 (some .boolean) false 3 0 0 (fun b => (some (.int (b2i b.1)), sh, P, b.2)) [.ref (h0 + t), .int p1, .int p2, .int p3, .int p4, .int p5, .int p6, .int p7] sh P σ (mX3_allows t p1 p2 p3 p4 p5 p6 p7 σ) := by
  rw [mX3_allows]
  refine Rj.of (by decide) (fun h => by cases h) (Nat.le_of_ble_eq_true rfl) ?_
  refine tj_lv0 (lv' := [(0, .ref (h0 + t)), (1, .int p1), (2, .int p2), (3, .int p3), (4, .int p4), (5, .int p5), (6, .int p6), (7, .int p7)]) rfl ?_
  refine tj_aload_n (q := 1) dX3_allows_0 rfl (i := 0) rfl (pl := 0) rfl ?_
  refine tj_getI (q := 4) (hT).s fok_3_4 wl_RX3_24 dX3_allows_1 rfl ?_
  refine tj_if_ne (tgt := 18) (q := 7) dX3_allows_4 (by decide) rfl ?_ ?_
  · refine tj_iload_n (q := 8) dX3_allows_7 rfl (i := 2) rfl (pl := 2) rfl ?_
    refine tj_iload_n (q := 9) dX3_allows_8 rfl (i := 1) rfl (pl := 1) rfl ?_
    refine tj_icmp_le (tgt := 16) (q := 12) dX3_allows_9 (by decide) rfl ?_ ?_
    · refine tj_iconst (q := 17) (v := 0) dX3_allows_16 rfl (by decide) ?_
      exact tj_zret rfl (by decide) rfl (Nat.le_of_ble_eq_true rfl) (Nat.le_of_ble_eq_true rfl) dX3_allows_17
    · refine tj_iconst (q := 13) (v := 1) dX3_allows_12 rfl (by decide) ?_
      refine tj_goto (q := 17) dX3_allows_13 (by decide) ?_
      exact tj_zret rfl (by decide) rfl (Nat.le_of_ble_eq_true rfl) (Nat.le_of_ble_eq_true rfl) dX3_allows_17
  · refine tj_aload_n (q := 19) dX3_allows_18 rfl (i := 0) rfl (pl := 0) rfl ?_
    refine tj_getR (q := 22) (hT).s (hT).p_given fok_3_3 wl_RX3_21 dX3_allows_19 rfl ?_
    refine tj_iconst (q := 23) (v := 0) dX3_allows_22 rfl (by decide) ?_
    refine tj_iload_n (q := 24) dX3_allows_23 rfl (i := 1) rfl (pl := 1) rfl ?_
    refine tj_iastore (q := 25) (hT).s_given dX3_allows_24 rfl (fun σ1 => ?_)
    refine tj_aload_n (q := 26) dX3_allows_25 rfl (i := 0) rfl (pl := 0) rfl ?_
    refine tj_getR (q := 29) (hT).s (hT).p_given fok_3_3 wl_RX3_21 dX3_allows_26 rfl ?_
    refine tj_iconst (q := 30) (v := 1) dX3_allows_29 rfl (by decide) ?_
    refine tj_iload_n (q := 31) dX3_allows_30 rfl (i := 2) rfl (pl := 2) rfl ?_
    refine tj_iastore (q := 32) (hT).s_given dX3_allows_31 rfl (fun σ2 => ?_)
    refine tj_aload_n (q := 33) dX3_allows_32 rfl (i := 0) rfl (pl := 0) rfl ?_
    refine tj_getR (q := 36) (hT).s (hT).p_given fok_3_3 wl_RX3_21 dX3_allows_33 rfl ?_
    refine tj_iconst (q := 37) (v := 2) dX3_allows_36 rfl (by decide) ?_
    refine tj_iload_n (q := 38) dX3_allows_37 rfl (i := 3) rfl (pl := 3) rfl ?_
    refine tj_iastore (q := 39) (hT).s_given dX3_allows_38 rfl (fun σ3 => ?_)
    refine tj_aload_n (q := 40) dX3_allows_39 rfl (i := 0) rfl (pl := 0) rfl ?_
    refine tj_getR (q := 43) (hT).s (hT).p_given fok_3_3 wl_RX3_21 dX3_allows_40 rfl ?_
    refine tj_iconst (q := 44) (v := 3) dX3_allows_43 rfl (by decide) ?_
    refine tj_iload (q := 46) dX3_allows_44 rfl (pl := 4) rfl ?_
    refine tj_iastore (q := 47) (hT).s_given dX3_allows_46 rfl (fun σ4 => ?_)
    refine tj_aload_n (q := 48) dX3_allows_47 rfl (i := 0) rfl (pl := 0) rfl ?_
    refine tj_getR (q := 51) (hT).s (hT).p_given fok_3_3 wl_RX3_21 dX3_allows_48 rfl ?_
    refine tj_iconst (q := 52) (v := 4) dX3_allows_51 rfl (by decide) ?_
    refine tj_iload (q := 54) dX3_allows_52 rfl (pl := 5) rfl ?_
    refine tj_iastore (q := 55) (hT).s_given dX3_allows_54 rfl (fun σ5 => ?_)
    refine tj_aload_n (q := 56) dX3_allows_55 rfl (i := 0) rfl (pl := 0) rfl ?_
    refine tj_getR (q := 59) (hT).s (hT).p_given fok_3_3 wl_RX3_21 dX3_allows_56 rfl ?_
    refine tj_iconst (q := 60) (v := 5) dX3_allows_59 rfl (by decide) ?_
    refine tj_iload (q := 62) dX3_allows_60 rfl (pl := 6) rfl ?_
    refine tj_iastore (q := 63) (hT).s_given dX3_allows_62 rfl (fun σ6 => ?_)
    refine tj_aload_n (q := 64) dX3_allows_63 rfl (i := 0) rfl (pl := 0) rfl ?_
    refine tj_getR (q := 67) (hT).s (hT).p_given fok_3_3 wl_RX3_21 dX3_allows_64 rfl ?_
    refine tj_bipush (q := 69) (v := 6) dX3_allows_67 rfl (by decide) ?_
    refine tj_iload (q := 71) dX3_allows_69 rfl (pl := 7) rfl ?_
    refine tj_iastore (q := 72) (hT).s_given dX3_allows_71 rfl (fun σ7 => ?_)
    refine tj_iconst (q := 73) (v := 0) dX3_allows_72 rfl (by decide) ?_
    refine tj_istore (q := 75) dX3_allows_73 rfl (by decide) rfl ?_
    refine tj_iconst (q := 76) (v := 0) dX3_allows_75 rfl (by decide) ?_
    refine tj_istore (q := 78) dX3_allows_76 rfl (by decide) rfl ?_
    refine tj_lv [2, 1, 0] rfl ?_
    refine tmX3_allows_L78 t hT _ ?_ FU (0 : Int32) (0 : Int32) σ7
    · intro σ38
      refine tj_aload_n (q := 243) dX3_allows_242 rfl (i := 0) rfl (pl := 0) rfl ?_
      refine tj_getR (q := 246) (hT).s (hT).p_stack fok_3_2 wl_RX3_18 dX3_allows_243 rfl ?_
      refine tj_iconst (q := 247) (v := 0) dX3_allows_246 rfl (by decide) ?_
      refine tj_iaload (q := 248) (hT).s_stack dX3_allows_247 rfl ?_
      refine tj_topI (fun v39 => ?_)
      refine tj_if_eq (tgt := 255) (q := 251) dX3_allows_248 (by decide) rfl ?_ ?_
      · refine tj_iconst (q := 256) (v := 0) dX3_allows_255 rfl (by decide) ?_
        exact tj_zret rfl (by decide) rfl (Nat.le_of_ble_eq_true rfl) (Nat.le_of_ble_eq_true rfl) dX3_allows_256
      · refine tj_iconst (q := 252) (v := 1) dX3_allows_251 rfl (by decide) ?_
        refine tj_goto (q := 256) dX3_allows_252 (by decide) ?_
        exact tj_zret rfl (by decide) rfl (Nat.le_of_ble_eq_true rfl) (Nat.le_of_ble_eq_true rfl) dX3_allows_256

end
