section
variable {l : Launch} {D : va_G} {cA : Nat → ClassId} {h0 : Nat} {ad : Ad_} {sh : Sh_} {P : Px_} {σ : St_}
def swP (P : Px_) (t tw dr : Nat) : Px_ := up2 (up2 P t 2 (some dr)) t 3 (some tw)
def cityP (P : Px_) (t tw dr : Nat) : Bool → Px_
  | false => P
  | true => swP P t tw dr
theorem LY8.mv {P' : Px_} {x t : Nat} (h : LY8 sh P x) (h11 : sh[t]? = some (0, 11)) (hP : ∀ a, a ≠ t → P' a = P a) : LY8 sh P' x := by
  have hx : x ≠ t := fun e => by rw [← e, h.s] at h11; simp at h11
  exact ⟨h.s, by rw [hP x hx]; exact h.p_held, h.s_held, by rw [hP x hx]; exact h.p_crimes, h.s_crimes⟩
theorem LY3.mv {P' : Px_} {x t : Nat} (h : LY3 sh P x) (h11 : sh[t]? = some (0, 11)) (hP : ∀ a, a ≠ t → P' a = P a) : LY3 sh P' x := by
  have hx : x ≠ t := fun e => by rw [← e, h.s] at h11; simp at h11
  exact ⟨h.s, by rw [hP x hx]; exact h.p_step, h.s_step, by rw [hP x hx]; exact h.p_argument, h.s_argument, by rw [hP x hx]; exact h.p_stack, h.s_stack, by rw [hP x hx]; exact h.p_given, h.s_given⟩
theorem LY1.mv {P' : Px_} {x t : Nat} (h : LY1 sh P x) (h11 : sh[t]? = some (0, 11)) (hP : ∀ a, a ≠ t → P' a = P a) : LY1 sh P' x := by
  have hx : x ≠ t := fun e => by rw [← e, h.s] at h11; simp at h11
  exact ⟨h.s, by rw [hP x hx]; exact h.p_kindOf, h.s_kindOf, by rw [hP x hx]; exact h.p_weight, h.s_weight, by rw [hP x hx]; exact h.p_price, h.s_price, by rw [hP x hx]; exact h.p_lock, h.s_lock, by rw [hP x hx]; exact h.p_watch, h.s_watch, by rw [hP x hx]; exact h.p_sack, h.s_sack, by rw [hP x hx]; exact h.p_skill, h.s_skill, by rw [hP x hx]; exact h.p_value, h.s_value, by rw [hP x hx]; exact h.p_said, h.s_said, by rw [hP x hx]; exact h.p_held, h.s_held, by rw [hP x hx]; exact h.p_law, h.o_law.mv h11 hP⟩
theorem LY10.mv {P' : Px_} {x t : Nat} (h : LY10 sh P x) (h11 : sh[t]? = some (0, 11)) (hP : ∀ a, a ≠ t → P' a = P a) : LY10 sh P' x := by
  have hx : x ≠ t := fun e => by rw [← e, h.s] at h11; simp at h11
  exact ⟨h.s, by rw [hP x hx]; exact h.p_text, h.s_text, by rw [hP x hx]; exact h.p_starts, h.s_starts, by rw [hP x hx]; exact h.p_sorts, h.s_sorts, by rw [hP x hx]; exact h.p_values, h.s_values⟩
theorem LY2.mv {P' : Px_} {x t : Nat} (h : LY2 sh P x) (h11 : sh[t]? = some (0, 11)) (hP : ∀ a, a ≠ t → P' a = P a) : LY2 sh P' x := by
  have hx : x ≠ t := fun e => by rw [← e, h.s] at h11; simp at h11
  exact ⟨h.s, by rw [hP x hx]; exact h.p_tokens, h.o_tokens.mv h11 hP⟩
theorem LY4.mv {P' : Px_} {x t : Nat} (h : LY4 sh P x) (h11 : sh[t]? = some (0, 11)) (hP : ∀ a, a ≠ t → P' a = P a) : LY4 sh P' x := by
  have hx : x ≠ t := fun e => by rw [← e, h.s] at h11; simp at h11
  exact ⟨h.s, by rw [hP x hx]; exact h.p_formula, h.o_formula.mv h11 hP, by rw [hP x hx]; exact h.p_tokens, h.o_tokens.mv h11 hP, by rw [hP x hx]; exact h.p_kindNames, h.s_kindNames, by rw [hP x hx]; exact h.p_thingNames, h.s_thingNames, by rw [hP x hx]; exact h.p_holderNames, h.s_holderNames, by rw [hP x hx]; exact h.p_holderPlaces, h.s_holderPlaces⟩
theorem LY0.mv {P' : Px_} {x t : Nat} (h : LY0 sh P x) (h11 : sh[t]? = some (0, 11)) (hP : ∀ a, a ≠ t → P' a = P a) : LY0 sh P' x := by
  have hx : x ≠ t := fun e => by rw [← e, h.s] at h11; simp at h11
  exact ⟨h.s, by rw [hP x hx]; exact h.p_ring, h.s_ring, fun k hk => ⟨by rw [hP (x + 1) (fun e => by rw [← e, h.s_ring] at h11; simp at h11)]; exact (h.e_ring k hk).1, (h.e_ring k hk).2.mv h11 hP⟩⟩
theorem LY9.mv {P' : Px_} {x t : Nat} (h : LY9 sh P x) (h11 : sh[t]? = some (0, 11)) (hP : ∀ a, a ≠ t → P' a = P a) : LY9 sh P' x := by
  have hx : x ≠ t := fun e => by rw [← e, h.s] at h11; simp at h11
  exact ⟨h.s, by rw [hP x hx]; exact h.p_house, h.s_house, by rw [hP x hx]; exact h.p_thing, h.s_thing, by rw [hP x hx]; exact h.p_left, h.s_left, by rw [hP x hx]; exact h.p_gain, h.s_gain, by rw [hP x hx]; exact h.p_high, h.s_high, by rw [hP x hx]; exact h.p_low, h.s_low, by rw [hP x hx]; exact h.p_setWeight, h.s_setWeight, by rw [hP x hx]; exact h.p_setValue, h.s_setValue⟩
theorem LY6.mv {P' : Px_} {x t : Nat} (h : LY6 sh P x) (h11 : sh[t]? = some (0, 11)) (hP : ∀ a, a ≠ t → P' a = P a) : LY6 sh P' x := by
  have hx : x ≠ t := fun e => by rw [← e, h.s] at h11; simp at h11
  exact ⟨h.s, by rw [hP x hx]; exact h.p_list, h.o_list.mv h11 hP, by rw [hP x hx]; exact h.p_scene, h.o_scene.mv h11 hP⟩
theorem LY7.mv {P' : Px_} {x t : Nat} (h : LY7 sh P x) (h11 : sh[t]? = some (0, 11)) (hP : ∀ a, a ≠ t → P' a = P a) : LY7 sh P' x := by
  have hx : x ≠ t := fun e => by rw [← e, h.s] at h11; simp at h11
  exact ⟨h.s, by rw [hP x hx]; exact h.p_list, h.o_list.mv h11 hP, by rw [hP x hx]; exact h.p_scene, h.o_scene.mv h11 hP, by rw [hP x hx]; exact h.p_keys, h.s_keys, by rw [hP x hx]; exact h.p_from, h.s_from, by rw [hP x hx]; exact h.p_table, h.s_table⟩
theorem LY5.mv {P' : Px_} {x t : Nat} (h : LY5 sh P x) (h11 : sh[t]? = some (0, 11)) (hP : ∀ a, a ≠ t → P' a = P a) : LY5 sh P' x := by
  have hx : x ≠ t := fun e => by rw [← e, h.s] at h11; simp at h11
  exact ⟨h.s, by rw [hP x hx]; exact h.p_house, h.s_house, by rw [hP x hx]; exact h.p_taken, h.s_taken, by rw [hP x hx]; exact h.p_left, h.s_left, by rw [hP x hx]; exact h.p_hour, h.s_hour, by rw [hP x hx]; exact h.p_lawful, h.s_lawful, by rw [hP x hx]; exact h.p_toldAt, h.s_toldAt, by rw [hP x hx]; exact h.p_untoldAt, h.s_untoldAt, by rw [hP x hx]; exact h.p_fits, h.s_fits⟩
theorem LY11.sw {t tw dr : Nat} (h : LY11 sh P t tw dr) : LY11 sh (swP P t tw dr) t dr tw := by
  have hP : ∀ a, a ≠ t → swP P t tw dr a = P a := fun a ha => by simp [swP, up2, ha]
  exact ⟨h.s, by simpa [swP, up2] using h.p_reader, h.o_reader.mv h.s hP, by simpa [swP, up2] using h.p_tape, h.o_tape.mv h.s hP, by simpa [swP, up2] using h.p_now, h.o_now.mv h.s hP, by simpa [swP, up2] using h.p_acts, h.o_acts.mv h.s hP, by simpa [swP, up2] using h.p_boxes, h.s_boxes, fun k hk => ⟨by rw [hP (t + 172) (by omega)]; exact (h.e_boxes k hk).1, (h.e_boxes k hk).2.mv h.s hP⟩, by simpa [swP, up2] using h.p_laid, h.s_laid, by simpa [swP, up2] using h.p_reports, h.o_reports.mv h.s hP, by simpa [swP, up2] using h.p_list, h.o_list.mv h.s hP, by simpa [swP, up2] using h.p_rounds, h.o_rounds.mv h.s hP, by simpa [swP, up2] using h.p_search, h.o_search.mv h.s hP, by simpa [swP, up2] using h.p_trial, h.o_trial.mv h.s hP, by simp [swP, up2], h.o_draft.mv h.s hP, by simp [swP, up2], h.o_town.mv h.s hP⟩
theorem dX11_city_0 : decode cX11_city 0 = .ok (.aload_n 0, 1) := by decide +kernel
theorem dX11_city_1 : decode cX11_city 1 = .ok (.getfield 20, 3) := by decide +kernel
theorem dX11_city_4 : decode cX11_city 4 = .ok (.invokevirtual 105, 3) := by decide +kernel
theorem dX11_city_7 : decode cX11_city 7 = .ok (.aload_n 0, 1) := by decide +kernel
theorem dX11_city_8 : decode cX11_city 8 = .ok (.getfield 10, 3) := by decide +kernel
theorem dX11_city_11 : decode cX11_city 11 = .ok (.aload_n 0, 1) := by decide +kernel
theorem dX11_city_12 : decode cX11_city 12 = .ok (.getfield 30, 3) := by decide +kernel
theorem dX11_city_15 : decode cX11_city 15 = .ok (.invokevirtual 108, 3) := by decide +kernel
theorem dX11_city_18 : decode cX11_city 18 = .ok (.istore_n 1, 1) := by decide +kernel
theorem dX11_city_19 : decode cX11_city 19 = .ok (.aload_n 0, 1) := by decide +kernel
theorem dX11_city_20 : decode cX11_city 20 = .ok (.getfield 20, 3) := by decide +kernel
theorem dX11_city_23 : decode cX11_city 23 = .ok (.iconst 0, 1) := by decide +kernel
theorem dX11_city_24 : decode cX11_city 24 = .ok (.putfield 96, 3) := by decide +kernel
theorem dX11_city_27 : decode cX11_city 27 = .ok (.iload_n 1, 1) := by decide +kernel
theorem dX11_city_28 : decode cX11_city 28 = .ok (.ifCond .ne 5, 3) := by decide +kernel
theorem dX11_city_31 : decode cX11_city 31 = .ok (.iconst (-1), 1) := by decide +kernel
theorem dX11_city_32 : decode cX11_city 32 = .ok (.ireturn, 1) := by decide +kernel
theorem dX11_city_33 : decode cX11_city 33 = .ok (.aload_n 0, 1) := by decide +kernel
theorem dX11_city_34 : decode cX11_city 34 = .ok (.getfield 26, 3) := by decide +kernel
theorem dX11_city_37 : decode cX11_city 37 = .ok (.astore_n 2, 1) := by decide +kernel
theorem dX11_city_38 : decode cX11_city 38 = .ok (.aload_n 0, 1) := by decide +kernel
theorem dX11_city_39 : decode cX11_city 39 = .ok (.aload_n 0, 1) := by decide +kernel
theorem dX11_city_40 : decode cX11_city 40 = .ok (.getfield 30, 3) := by decide +kernel
theorem dX11_city_43 : decode cX11_city 43 = .ok (.putfield 26, 3) := by decide +kernel
theorem dX11_city_46 : decode cX11_city 46 = .ok (.aload_n 0, 1) := by decide +kernel
theorem dX11_city_47 : decode cX11_city 47 = .ok (.aload_n 2, 1) := by decide +kernel
theorem dX11_city_48 : decode cX11_city 48 = .ok (.putfield 30, 3) := by decide +kernel
theorem dX11_city_51 : decode cX11_city 51 = .ok (.aload_n 0, 1) := by decide +kernel
theorem dX11_city_52 : decode cX11_city 52 = .ok (.getfield 36, 3) := by decide +kernel
theorem dX11_city_55 : decode cX11_city 55 = .ok (.aload_n 0, 1) := by decide +kernel
theorem dX11_city_56 : decode cX11_city 56 = .ok (.getfield 26, 3) := by decide +kernel
theorem dX11_city_59 : decode cX11_city 59 = .ok (.invokevirtual 112, 3) := by decide +kernel
theorem dX11_city_62 : decode cX11_city 62 = .ok (.aload_n 0, 1) := by decide +kernel
theorem dX11_city_63 : decode cX11_city 63 = .ok (.getfield 43, 3) := by decide +kernel
theorem dX11_city_66 : decode cX11_city 66 = .ok (.aload_n 0, 1) := by decide +kernel
theorem dX11_city_67 : decode cX11_city 67 = .ok (.getfield 36, 3) := by decide +kernel
theorem dX11_city_70 : decode cX11_city 70 = .ok (.invokevirtual 116, 3) := by decide +kernel
theorem dX11_city_73 : decode cX11_city 73 = .ok (.aload_n 0, 1) := by decide +kernel
theorem dX11_city_74 : decode cX11_city 74 = .ok (.getfield 65, 3) := by decide +kernel
theorem dX11_city_77 : decode cX11_city 77 = .ok (.iconst 0, 1) := by decide +kernel
theorem dX11_city_78 : decode cX11_city 78 = .ok (.putfield 119, 3) := by decide +kernel
theorem dX11_city_81 : decode cX11_city 81 = .ok (.aload_n 0, 1) := by decide +kernel
theorem dX11_city_82 : decode cX11_city 82 = .ok (.iconst 0, 1) := by decide +kernel
theorem dX11_city_83 : decode cX11_city 83 = .ok (.putfield 59, 3) := by decide +kernel
theorem dX11_city_86 : decode cX11_city 86 = .ok (.aload_n 0, 1) := by decide +kernel
theorem dX11_city_87 : decode cX11_city 87 = .ok (.iconst 0, 1) := by decide +kernel
theorem dX11_city_88 : decode cX11_city 88 = .ok (.putfield 51, 3) := by decide +kernel
theorem dX11_city_91 : decode cX11_city 91 = .ok (.aload_n 0, 1) := by decide +kernel
theorem dX11_city_92 : decode cX11_city 92 = .ok (.getfield 26, 3) := by decide +kernel
theorem dX11_city_95 : decode cX11_city 95 = .ok (.getfield 122, 3) := by decide +kernel
theorem dX11_city_98 : decode cX11_city 98 = .ok (.ireturn, 1) := by decide +kernel
theorem wm_X10_split : Cond.instanceMethod yX10_split ∈ TB ∧ Cond.selects yX10_split.cls yX10_split yX10_split ∈ TB ∧ Cond.initialized yX10_split.cls ∈ TB ∧ Cond.code yX10_split cX10_split 3 none ∈ TB ∧ (yX10_split.cls ≠ "java/lang/invoke/MethodHandle" ∧ yX10_split.cls ≠ "java/lang/invoke/VarHandle" ∧ (parseMethodDescriptor yX10_split.desc).map (fun d => d.parameters.length) = some 0) ∧ 3 ≤ 21 := ⟨tbm 679 (by decide +kernel) (by decide +kernel), tbm 680 (by decide +kernel) (by decide +kernel), tbm 137 (by decide +kernel) (by decide +kernel), tbm 681 (by decide +kernel) (by decide +kernel), by decide +kernel, by decide⟩
theorem wi_RX11_105 : Iv RX11 105 yX10_split cX10_split 3 none 0 := ⟨tbm 678 (by decide +kernel) (by decide +kernel), wm_X10_split⟩
theorem wm_X4_read : Cond.instanceMethod yX4_read ∈ TB ∧ Cond.selects yX4_read.cls yX4_read yX4_read ∈ TB ∧ Cond.initialized yX4_read.cls ∈ TB ∧ Cond.code yX4_read cX4_read 3 (some .boolean) ∈ TB ∧ (yX4_read.cls ≠ "java/lang/invoke/MethodHandle" ∧ yX4_read.cls ≠ "java/lang/invoke/VarHandle" ∧ (parseMethodDescriptor yX4_read.desc).map (fun d => d.parameters.length) = some 1) ∧ 3 ≤ 21 := ⟨tbm 824 (by decide +kernel) (by decide +kernel), tbm 825 (by decide +kernel) (by decide +kernel), tbm 135 (by decide +kernel) (by decide +kernel), tbm 826 (by decide +kernel) (by decide +kernel), by decide +kernel, by decide⟩
theorem wi_RX11_108 : Iv RX11 108 yX4_read cX4_read 3 (some .boolean) 1 := ⟨tbm 823 (by decide +kernel) (by decide +kernel), wm_X4_read⟩
theorem wm_X8_begin : Cond.instanceMethod yX8_begin ∈ TB ∧ Cond.selects yX8_begin.cls yX8_begin yX8_begin ∈ TB ∧ Cond.initialized yX8_begin.cls ∈ TB ∧ Cond.code yX8_begin cX8_begin 2 none ∈ TB ∧ (yX8_begin.cls ≠ "java/lang/invoke/MethodHandle" ∧ yX8_begin.cls ≠ "java/lang/invoke/VarHandle" ∧ (parseMethodDescriptor yX8_begin.desc).map (fun d => d.parameters.length) = some 1) ∧ 2 ≤ 21 := ⟨tbm 1002 (by decide +kernel) (by decide +kernel), tbm 1003 (by decide +kernel) (by decide +kernel), tbm 140 (by decide +kernel) (by decide +kernel), tbm 1004 (by decide +kernel) (by decide +kernel), by decide +kernel, by decide⟩
theorem wi_RX11_112 : Iv RX11 112 yX8_begin cX8_begin 2 none 1 := ⟨tbm 1001 (by decide +kernel) (by decide +kernel), wm_X8_begin⟩
def mX11_city (t : Nat) (tw : Nat) (dr : Nat) (σ : St_) : Option (Int32 × St_ × Bool) :=
 ((mX10_split (t + 3) σ).bind fun σ1 =>
 ((mX4_read (t + 1) dr σ1).bind fun r2 =>
 (bnd (sI r2.2 (t + 3) 1 (0 : Int32)) fun σ3 =>
 (if r2.1 = true then
 ((mX8_begin (t + 44) dr σ3).bind fun σ6 =>
 ((mX0_begin (t + 47) (t + 44) σ6).bind fun σ7 =>
 (bnd (sI σ7 (t + 174) 7 (0 : Int32)) fun σ8 =>
 (bnd (sI σ8 t 9 (0 : Int32)) fun σ9 =>
 (bnd (sI σ9 t 7 (0 : Int32)) fun σ10 =>
 (some ((σ10.1 dr 2), σ10, true)))))))
 else (some ((-1 : Int32), σ3, false))))))
set_option maxHeartbeats 4000000 in
theorem rX11_city (t : Nat) (tw : Nat) (dr : Nat) (hT : LY11 sh P t tw dr) : Rj l D cA h0 ad yX11_city cX11_city 3 (some .int) false 120 0 0 (fun b => (some (.int b.1), sh, cityP P t tw dr b.2.2, b.2.1)) [.ref (h0 + t)] sh P σ (mX11_city t tw dr σ) := by
  rw [mX11_city]
  refine Rj.of (by decide) (fun h => by cases h) (Nat.le_of_ble_eq_true rfl) ?_
  have hT1 := hT.sw
  refine tj_lv0 (lv' := [(0, .ref (h0 + t))]) rfl ?_
  refine tj_aload_n (q := 1) dX11_city_0 rfl (i := 0) rfl (pl := 0) rfl ?_
  refine tj_getR (q := 4) (hT).s (hT).p_tape fok_11_1 wl_RX11_20 dX11_city_1 rfl ?_
  refine tj_callV (q := 7) (kj_V (As := []) (rest := []) (t := (t + 3)) wi_RX11_105 ((hT).o_tape).s rfl (rX10_split (t + 3) ((hT).o_tape)) rfl (Nat.le_of_ble_eq_true rfl) ⟨Nat.le_of_ble_eq_true rfl, Nat.le_of_ble_eq_true rfl⟩ (Nat.le_of_ble_eq_true rfl) dX11_city_4) rfl (fun σ1 => ?_)
  refine tj_aload_n (q := 8) dX11_city_7 rfl (i := 0) rfl (pl := 0) rfl ?_
  refine tj_getR (q := 11) (hT).s (hT).p_reader fok_11_0 wl_RX11_10 dX11_city_8 rfl ?_
  refine tj_aload_n (q := 12) dX11_city_11 rfl (i := 0) rfl (pl := 0) rfl ?_
  refine tj_getR (q := 15) (hT).s (hT).p_draft fok_11_3 wl_RX11_30 dX11_city_12 rfl ?_
  refine tj_callZ (q := 18) (kj_V (As := [.ref (h0 + dr)]) (rest := []) (t := (t + 1)) wi_RX11_108 ((hT).o_reader).s rfl (rX4_read (t + 1) dr ((hT).o_reader) ((hT).o_draft)) rfl (Nat.le_of_ble_eq_true rfl) ⟨Nat.le_of_ble_eq_true rfl, Nat.le_of_ble_eq_true rfl⟩ (Nat.le_of_ble_eq_true rfl) dX11_city_15) rfl (fun r2 => ?_)
  refine tj_istore_n (q := 19) dX11_city_18 rfl (i := 1) rfl (by decide) rfl ?_
  refine tj_aload_n (q := 20) dX11_city_19 rfl (i := 0) rfl (pl := 1) rfl ?_
  refine tj_getR (q := 23) (hT).s (hT).p_tape fok_11_1 wl_RX11_20 dX11_city_20 rfl ?_
  refine tj_iconst (q := 24) (v := 0) dX11_city_23 rfl (by decide) ?_
  refine tj_putI (q := 27) ((hT).o_tape).s fok_10_1 tok_10 fpk_10_1 wl_RX11_96 dX11_city_24 rfl (fun σ3 => ?_)
  refine tj_iload_n (q := 28) dX11_city_27 rfl (i := 1) rfl (pl := 0) rfl ?_
  refine tj_bnz (tgt := 33) (q := 31) dX11_city_28 (by decide) rfl ?_ ?_
  · refine tj_aload_n (q := 34) dX11_city_33 rfl (i := 0) rfl (pl := 1) rfl ?_
    refine tj_getR (q := 37) (hT).s (hT).p_town fok_11_2 wl_RX11_26 dX11_city_34 rfl ?_
    refine tj_astore_n (q := 38) dX11_city_37 rfl (i := 2) rfl (by decide) rfl ?_
    refine tj_aload_n (q := 39) dX11_city_38 rfl (i := 0) rfl (pl := 2) rfl ?_
    refine tj_aload_n (q := 40) dX11_city_39 rfl (i := 0) rfl (pl := 2) rfl ?_
    refine tj_getR (q := 43) (hT).s (hT).p_draft fok_11_3 wl_RX11_30 dX11_city_40 rfl ?_
    refine tj_putR (q := 46) (j := dr) (hT).s fok_11_2 tok_11 fpk_11_2 wl_RX11_26 dX11_city_43 rfl ?_
    refine tj_aload_n (q := 47) dX11_city_46 rfl (i := 0) rfl (pl := 2) rfl ?_
    refine tj_aload_n (q := 48) dX11_city_47 rfl (i := 2) rfl (pl := 0) rfl ?_
    refine tj_putR (q := 51) (j := tw) (hT).s fok_11_3 tok_11 fpk_11_3 wl_RX11_30 dX11_city_48 rfl ?_
    refine tj_P (P' := swP P t tw dr) rfl ?_
    refine tj_aload_n (q := 52) dX11_city_51 rfl (i := 0) rfl (pl := 2) rfl ?_
    refine tj_getR (q := 55) (hT1).s (hT1).p_now fok_11_4 wl_RX11_36 dX11_city_52 rfl ?_
    refine tj_aload_n (q := 56) dX11_city_55 rfl (i := 0) rfl (pl := 2) rfl ?_
    refine tj_getR (q := 59) (hT1).s (hT1).p_town fok_11_2 wl_RX11_26 dX11_city_56 rfl ?_
    refine tj_callV (q := 62) (kj_V (As := [.ref (h0 + dr)]) (rest := []) (t := (t + 44)) wi_RX11_112 ((hT1).o_now).s rfl (rX8_begin (t + 44) dr ((hT1).o_now) ((hT1).o_town)) rfl (Nat.le_of_ble_eq_true rfl) ⟨Nat.le_of_ble_eq_true rfl, Nat.le_of_ble_eq_true rfl⟩ (Nat.le_of_ble_eq_true rfl) dX11_city_59) rfl (fun σ6 => ?_)
    refine tj_aload_n (q := 63) dX11_city_62 rfl (i := 0) rfl (pl := 2) rfl ?_
    refine tj_getR (q := 66) (hT1).s (hT1).p_acts fok_11_5 wl_RX11_43 dX11_city_63 rfl ?_
    refine tj_aload_n (q := 67) dX11_city_66 rfl (i := 0) rfl (pl := 2) rfl ?_
    refine tj_getR (q := 70) (hT1).s (hT1).p_now fok_11_4 wl_RX11_36 dX11_city_67 rfl ?_
    refine tj_callV (q := 73) (kj_V (As := [.ref (h0 + (t + 44))]) (rest := []) (t := (t + 47)) wi_RX11_116 ((hT1).o_acts).s rfl (rX0_begin (t + 47) (t + 44) ((hT1).o_acts) ((hT1).o_now)) rfl (Nat.le_of_ble_eq_true rfl) ⟨Nat.le_of_ble_eq_true rfl, Nat.le_of_ble_eq_true rfl⟩ (Nat.le_of_ble_eq_true rfl) dX11_city_70) rfl (fun σ7 => ?_)
    refine tj_aload_n (q := 74) dX11_city_73 rfl (i := 0) rfl (pl := 2) rfl ?_
    refine tj_getR (q := 77) (hT1).s (hT1).p_reports fok_11_10 wl_RX11_65 dX11_city_74 rfl ?_
    refine tj_iconst (q := 78) (v := 0) dX11_city_77 rfl (by decide) ?_
    refine tj_putI (q := 81) ((hT1).o_reports).s fok_5_7 tok_5 fpk_5_7 wl_RX11_119 dX11_city_78 rfl (fun σ8 => ?_)
    refine tj_aload_n (q := 82) dX11_city_81 rfl (i := 0) rfl (pl := 2) rfl ?_
    refine tj_iconst (q := 83) (v := 0) dX11_city_82 rfl (by decide) ?_
    refine tj_putI (q := 86) (hT1).s fok_11_9 tok_11 fpk_11_9 wl_RX11_59 dX11_city_83 rfl (fun σ9 => ?_)
    refine tj_aload_n (q := 87) dX11_city_86 rfl (i := 0) rfl (pl := 2) rfl ?_
    refine tj_iconst (q := 88) (v := 0) dX11_city_87 rfl (by decide) ?_
    refine tj_putI (q := 91) (hT1).s fok_11_7 tok_11 fpk_11_7 wl_RX11_51 dX11_city_88 rfl (fun σ10 => ?_)
    refine tj_aload_n (q := 92) dX11_city_91 rfl (i := 0) rfl (pl := 2) rfl ?_
    refine tj_getR (q := 95) (hT1).s (hT1).p_town fok_11_2 wl_RX11_26 dX11_city_92 rfl ?_
    refine tj_getI (q := 98) ((hT1).o_town).s fok_1_2 wl_RX11_122 dX11_city_95 rfl ?_
    exact tj_iret rfl rfl (Nat.le_of_ble_eq_true rfl) (Nat.le_of_ble_eq_true rfl) dX11_city_98
  · refine tj_iconst (q := 32) (v := (-1)) dX11_city_31 rfl (by decide) ?_
    exact tj_iret rfl rfl (Nat.le_of_ble_eq_true rfl) (Nat.le_of_ble_eq_true rfl) dX11_city_32

end
