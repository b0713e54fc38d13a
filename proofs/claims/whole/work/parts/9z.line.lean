/-! a line and its end, both sides -/
section LINE
variable {σ σ' ρ ρ' : St_} {n i d nh nt x w : Nat} {T : Nat → Nat} {τ : Tkn} {KL TL HL : List (List Nat)}
/-- the reference's end of a line -/
def LK_ : St_ → Option St_ := (fun (σ2 : St_) => (bnd (sI σ2 233 57 (b2i true)) fun σ5 =>
 (bnd (fun (σ6 : St_) => (if (σ6.1 233 2) = 0 then
 ((mX12_token 233 σ6).bind fun σ9 =>
 (some σ9))
 else (some σ6))) fun k7 =>
 (if (σ5.1 233 2) = 0 then
 (if (σ5.1 233 6) = (59 : Int32) then
 (k7 σ5)
 else ((mX12_wrong 233 (2 : Int32) σ5).bind fun σ10 =>
 (k7 σ10)))
 else (k7 σ5)))))
theorem readLine_eq : mX12_readLine 233 ρ = 
 ((mX12_isWord 233 (474214787188 : Int64) ρ).bind fun r1 =>
 (bnd LK_ fun k3 =>
 (bnd ((mX12_isWord 233 (1802071652 : Int64) ρ).bind fun r13 =>
 (bnd ((mX12_isWord 233 (499967946343 : Int64) ρ).bind fun r16 =>
 (bnd ((mX12_isWord 233 (448546567013 : Int64) ρ).bind fun r19 =>
 (bnd ((mX12_isWord 233 (499967944038 : Int64) ρ).bind fun r22 =>
 (bnd ((mX12_isWord 233 (1684365682 : Int64) ρ).bind fun r25 =>
 (bnd ((mX12_isWord 233 (7102839 : Int64) ρ).bind fun r28 =>
 (bnd ((mX12_wrong 233 (2 : Int32) ρ).bind fun σ31 =>
 (k3 σ31)) fun k29 =>
 (if r28 = true then
 (if (ρ.1 233 58) = 0 then
 (bnd (sI ρ 233 58 (b2i true)) fun σ32 =>
 ((mX12_readLaw 233 σ32).bind fun σ33 =>
 (k3 σ33)))
 else (k29))
 else (k29)))) fun k26 =>
 (if r25 = true then
 (if (20 : Int32) ≤ (ρ.1 233 49) then
 (k26)
 else ((mX12_readDear 233 ρ).bind fun σ34 =>
 (k3 σ34)))
 else (k26)))) fun k23 =>
 (if r22 = true then
 (if (4 : Int32) ≤ (ρ.1 233 48) then
 (k23)
 else ((mX12_readThief 233 ρ).bind fun σ35 =>
 (k3 σ35)))
 else (k23)))) fun k20 =>
 (if r19 = true then
 (if (5 : Int32) ≤ (ρ.1 233 47) then
 (k20)
 else ((mX12_readHouse 233 ρ).bind fun σ36 =>
 (k3 σ36)))
 else (k20)))) fun k17 =>
 (if r16 = true then
 (if (10 : Int32) ≤ (ρ.1 233 46) then
 (k17)
 else ((mX12_readThing 233 ρ).bind fun σ37 =>
 (k3 σ37)))
 else (k17)))) fun k14 =>
 (if r13 = true then
 (if (6 : Int32) ≤ (ρ.1 233 45) then
 (k14)
 else ((mX12_readKind 233 ρ).bind fun σ38 =>
 (k3 σ38)))
 else (k14)))) fun k11 =>
 (if r1 = true then
 (if (ρ.1 233 56) = 0 then
 (if (ρ.1 233 57) = 0 then
 (bnd (sI ρ 233 56 (b2i true)) fun σ39 =>
 ((mX12_told 233 (474214787188 : Int64) (1 : Int32) (9 : Int32) σ39).bind fun r40 =>
 (bnd (sI r40.2 233 50 r40.1) fun σ41 =>
 (k3 σ41))))
 else (k11))
 else (k11))
 else (k11))))) := by
  unfold mX12_readLine LK_
  rfl
theorem lv1 {p q : Prop} [Decidable p] [Decidable q] (X Y : Option St_) : (bnd X fun k => if decide p = true then (if q then k else Y) else k) = if p ∧ ¬ q then Y else X := by
  rw [bnd_eq]
  by_cases hp : p
  · rw [decide_eq_true hp, if_pos rfl]
    by_cases hq : q
    · rw [if_pos hq, if_neg (fun h => h.2 hq)]
    · rw [if_neg hq, if_pos ⟨hp, hq⟩]
  · rw [decide_eq_false hp, if_neg (by simp), if_neg (fun h => hp h.1)]
theorem lv2 {p q : Prop} [Decidable p] [Decidable q] (X Y : Option St_) : (bnd X fun k => if decide p = true then (if q then Y else k) else k) = if p ∧ q then Y else X := by
  rw [bnd_eq]
  by_cases hp : p
  · rw [decide_eq_true hp, if_pos rfl]
    by_cases hq : q
    · rw [if_pos hq, if_pos ⟨hp, hq⟩]
    · rw [if_neg hq, if_neg (fun h => hq h.2)]
  · rw [decide_eq_false hp, if_neg (by simp), if_neg (fun h => hp h.1)]
theorem lv3 {p q q' : Prop} [Decidable p] [Decidable q] [Decidable q'] (X Y : Option St_) : (bnd X fun k => if decide p = true then (if q then (if q' then Y else k) else k) else k) = if p ∧ q ∧ q' then Y else X := by
  rw [bnd_eq]
  by_cases hp : p
  · rw [decide_eq_true hp, if_pos rfl]
    by_cases hq : q
    · rw [if_pos hq]
      by_cases hq' : q'
      · rw [if_pos hq', if_pos ⟨hp, hq, hq'⟩]
      · rw [if_neg hq', if_neg (fun h => hq' h.2.2)]
    · rw [if_neg hq, if_neg (fun h => hq h.2.1)]
  · rw [decide_eq_false hp, if_neg (by simp), if_neg (fun h => hp h.1)]
theorem r_line (h : AtR T n τ ρ) : mX12_readLine 233 ρ =
    if (τ.1 = 1 ∧ wnum τ.2.2.1 = some 6) ∧ ρ.1 233 56 = 0 ∧ ρ.1 233 57 = 0 then ((mX12_told 233 (474214787188 : Int64) (1 : Int32) (9 : Int32) (sI ρ 233 56 (b2i true))).bind fun r40 => LK_ (sI r40.2 233 50 r40.1))
    else if (τ.1 = 1 ∧ wnum τ.2.2.1 = some 0) ∧ ¬ (6 : Int32) ≤ ρ.1 233 45 then (mX12_readKind 233 ρ).bind fun s => LK_ s
    else if (τ.1 = 1 ∧ wnum τ.2.2.1 = some 1) ∧ ¬ (10 : Int32) ≤ ρ.1 233 46 then (mX12_readThing 233 ρ).bind fun s => LK_ s
    else if (τ.1 = 1 ∧ wnum τ.2.2.1 = some 2) ∧ ¬ (5 : Int32) ≤ ρ.1 233 47 then (mX12_readHouse 233 ρ).bind fun s => LK_ s
    else if (τ.1 = 1 ∧ wnum τ.2.2.1 = some 3) ∧ ¬ (4 : Int32) ≤ ρ.1 233 48 then (mX12_readThief 233 ρ).bind fun s => LK_ s
    else if (τ.1 = 1 ∧ wnum τ.2.2.1 = some 4) ∧ ¬ (20 : Int32) ≤ ρ.1 233 49 then (mX12_readDear 233 ρ).bind fun s => LK_ s
    else if (τ.1 = 1 ∧ wnum τ.2.2.1 = some 5) ∧ ρ.1 233 58 = 0 then (mX12_readLaw 233 (sI ρ 233 58 (b2i true))).bind fun s => LK_ s
    else (mX12_wrong 233 2 ρ).bind fun s => LK_ s := by
  obtain ⟨v0, v1, v2, v3, v4, v5, v6, -⟩ := rw6_vals
  have w0 : mX12_isWord 233 (1802071652 : Int64) ρ = some (decide (τ.1 = 1 ∧ wnum τ.2.2.1 = some 0)) := by rw [← v0]; exact r_isWord h (by omega)
  have w1 : mX12_isWord 233 (499967946343 : Int64) ρ = some (decide (τ.1 = 1 ∧ wnum τ.2.2.1 = some 1)) := by rw [← v1]; exact r_isWord h (by omega)
  have w2 : mX12_isWord 233 (448546567013 : Int64) ρ = some (decide (τ.1 = 1 ∧ wnum τ.2.2.1 = some 2)) := by rw [← v2]; exact r_isWord h (by omega)
  have w3 : mX12_isWord 233 (499967944038 : Int64) ρ = some (decide (τ.1 = 1 ∧ wnum τ.2.2.1 = some 3)) := by rw [← v3]; exact r_isWord h (by omega)
  have w4 : mX12_isWord 233 (1684365682 : Int64) ρ = some (decide (τ.1 = 1 ∧ wnum τ.2.2.1 = some 4)) := by rw [← v4]; exact r_isWord h (by omega)
  have w5 : mX12_isWord 233 (7102839 : Int64) ρ = some (decide (τ.1 = 1 ∧ wnum τ.2.2.1 = some 5)) := by rw [← v5]; exact r_isWord h (by omega)
  have w6 : mX12_isWord 233 (474214787188 : Int64) ρ = some (decide (τ.1 = 1 ∧ wnum τ.2.2.1 = some 6)) := by rw [← v6]; exact r_isWord h (by omega)
  rw [readLine_eq, w6, obs_eq, bnd_eq, lv3, w0, obs_eq, lv1, w1, obs_eq, lv1, w2, obs_eq, lv1, w3, obs_eq, lv1, w4, obs_eq, lv1, w5, obs_eq, lv2]
  simp only [bnd_eq]
theorem c_line (h : AtC T n i τ σ) (q : τ.1 = 1) (hw : wnum τ.2.2.1 = some w) (p1 : Int32) : mX4_readLine 1 p1 d σ =
    if w = 0 then (mX4_readKind 1 d σ).bind fun r => some (r.1, r.2)
    else if w = 1 then (mX4_readThing 1 d σ).bind fun r => some (r.1, r.2)
    else if w = 2 then (mX4_readHouse 1 d σ).bind fun r => some (r.1, r.2)
    else if w = 3 then (mX4_readThief 1 d σ).bind fun r => some (r.1, r.2)
    else if w = 4 then (mX4_readDear 1 d σ).bind fun r => some (r.1, r.2)
    else if w = 5 then (mX4_readLaw 1 d σ).bind fun r => some (r.1, r.2)
    else if w = 6 then (mX4_readNight 1 p1 d σ).bind fun r => some (r.1, r.2)
    else (mX10_refuse 3 σ).bind fun r => some (r.1, r.2) := by
  have wl := wnum_lt hw
  have s3 : mX10_isSort 3 (3 : Int32) σ = some (decide (cso τ = 3)) := c_isSort (s := 3) h (by omega)
  have st : ∀ (c : Nat) (X Y : Option (Bool × St_)), c < 25 → (if nI w = nI c then X else Y) = if w = c then X else Y := fun c X Y hc => by
    by_cases q : w = c
    · rw [if_pos (by rw [q]), if_pos q]
    · rw [if_neg (fun z => q ((nI_eq (by omega) (by omega)).mp z)), if_neg q]
  unfold mX4_readLine
  rw [show 1 + 2 = 3 from rfl, s3, obs_eq, decide_eq_true (cso_word.mpr ⟨q, by rw [hw]; rfl⟩), if_pos rfl, c_numW h q hw, obs_eq, ← st 0 _ _ (by omega), ← st 1 _ _ (by omega), ← st 2 _ _ (by omega), ← st 3 _ _ (by omega), ← st 4 _ _ (by omega), ← st 5 _ _ (by omega), ← st 6 _ _ (by omega)]
  rfl
theorem LnOk.wr {r : Option (Bool × St_)} {q : Option St_} (h : LnOk T n d i σ ρ r q) : LnOk T n d i σ ρ (r.bind fun r => some (r.1, r.2)) q := by
  obtain ⟨b, σ', ρ', h1, h2⟩ := h
  rw [h1, obs_eq]
  exact ⟨b, σ', ρ', rfl, h2⟩
theorem line_one (hd : 12 ≤ d) (h : Bo T n i τ σ ρ) (D : Dra d KL TL HL nh nt σ ρ) (hx : x < 1700) (h57 : ρ.1 233 57 = b2i (decide (0 < x))) (h56 : x = 0 → ρ.1 233 56 = 0) : ∃ q : Option St_, mX12_readLine 233 ρ = (q.bind fun s => LK_ s) ∧ LnOk T n d i σ ρ (mX4_readLine 1 (nI x) d σ) q := by
  obtain ⟨u1, u2, u3, u4, u5, u6, u7, u8⟩ := id D.2.1
  have t10 := D.1.2.1.2.2.2
  have k6 := D.1.1.2.2.2
  rw [r_line h.2.1]
  by_cases qw : τ.1 = 1 ∧ (wnum τ.2.2.1).isSome = true
  · obtain ⟨w, hw⟩ := Option.isSome_iff_exists.mp qw.2
    have wl := wnum_lt hw
    have hs := stop_1 qw.1
    have no : ∀ (j : Nat) (X : Prop), ¬ j = w → ¬ ((τ.1 = 1 ∧ wnum τ.2.2.1 = some j) ∧ X) := fun j X hj z => hj (by have := z.1.2; rw [hw] at this; injection this with this; exact this.symm)
    rw [c_line h.1 qw.1 hw]
    by_cases e6 : w = 6
    · subst e6
      rw [if_neg (show ¬ 6 = 0 by omega), if_neg (show ¬ 6 = 1 by omega), if_neg (show ¬ 6 = 2 by omega), if_neg (show ¬ 6 = 3 by omega), if_neg (show ¬ 6 = 4 by omega), if_neg (show ¬ 6 = 5 by omega), if_pos (show 6 = 6 from rfl)]
      by_cases x0 : x = 0
      · subst x0
        rw [if_pos ⟨⟨qw.1, hw⟩, h56 rfl, by rw [h57]; rfl⟩]
        refine ⟨_, ?_, (night_both hd h ⟨qw.1, hw⟩ D).wr⟩
        cases mX12_told 233 (474214787188 : Int64) (1 : Int32) (9 : Int32) (sI ρ 233 56 (b2i true)) <;> rfl
      · have n57 : ¬ ρ.1 233 57 = 0 := by rw [h57, decide_eq_true (by omega)]; decide
        rw [if_neg (fun z => n57 z.2.2), if_neg (no 0 _ (by omega)), if_neg (no 1 _ (by omega)), if_neg (no 2 _ (by omega)), if_neg (no 3 _ (by omega)), if_neg (no 4 _ (by omega)), if_neg (no 5 _ (by omega))]
        refine ⟨_, rfl, LnOk.wr ?_⟩
        unfold mX4_readNight
        rw [if_neg (show ¬ nI x ≤ (0 : Int32) from nI_ge (a := 0) (by omega) (by omega))]
        exact line_bad h
    · rw [if_neg (no 6 _ (by omega))]
      by_cases e0 : w = 0
      · subst e0
        rw [if_pos rfl]
        by_cases q : KL.length < 6
        · rw [if_pos ⟨⟨qw.1, hw⟩, by rw [u1.2]; exact nI_ge (b := 6) q (by omega)⟩]
          exact ⟨_, rfl, (kind_both hd h hs D q).wr⟩
        · rw [if_neg (fun z => z.2 (by rw [u1.2]; exact nI_le (a := 6) (by omega) (by omega))), if_neg (no 1 _ (by omega)), if_neg (no 2 _ (by omega)), if_neg (no 3 _ (by omega)), if_neg (no 4 _ (by omega)), if_neg (no 5 _ (by omega))]
          refine ⟨_, rfl, LnOk.wr ?_⟩
          unfold mX4_readKind
          rw [u1.1, if_neg (show ¬ nI KL.length < (6 : Int32) from nI_nlt (b := 6) (by omega) (by omega))]
          exact line_bad h
      · rw [if_neg e0, if_neg (no 0 _ (by omega))]
        by_cases e1 : w = 1
        · subst e1
          rw [if_pos rfl]
          by_cases q : TL.length < 10
          · rw [if_pos ⟨⟨qw.1, hw⟩, by rw [u2.2]; exact nI_ge (b := 10) q (by omega)⟩]
            exact ⟨_, rfl, (thing_both hd h hs D q).wr⟩
          · rw [if_neg (fun z => z.2 (by rw [u2.2]; exact nI_le (a := 10) (by omega) (by omega))), if_neg (no 2 _ (by omega)), if_neg (no 3 _ (by omega)), if_neg (no 4 _ (by omega)), if_neg (no 5 _ (by omega))]
            refine ⟨_, rfl, LnOk.wr ?_⟩
            unfold mX4_readThing
            rw [bnd_eq, u2.1, if_neg (show ¬ nI TL.length < (10 : Int32) from nI_nlt (b := 10) (by omega) (by omega))]
            exact line_bad h
        · rw [if_neg e1, if_neg (no 1 _ (by omega))]
          by_cases e2 : w = 2
          · subst e2
            rw [if_pos rfl]
            by_cases q : nh < 5
            · rw [if_pos ⟨⟨qw.1, hw⟩, by rw [u4.2]; exact nI_ge (b := 5) q (by omega)⟩]
              exact ⟨_, rfl, (house_both hd h hs D q).wr⟩
            · rw [if_neg (fun z => z.2 (by rw [u4.2]; exact nI_le (a := 5) (by omega) (by omega))), if_neg (no 3 _ (by omega)), if_neg (no 4 _ (by omega)), if_neg (no 5 _ (by omega))]
              refine ⟨_, rfl, LnOk.wr ?_⟩
              unfold mX4_readHouse
              rw [bnd_eq, u4.1, if_neg (show ¬ nI nh < (5 : Int32) from nI_nlt (b := 5) (by omega) (by omega))]
              exact line_bad h
          · rw [if_neg e2, if_neg (no 2 _ (by omega))]
            by_cases e3 : w = 3
            · subst e3
              rw [if_pos rfl]
              by_cases q : nt < 4
              · rw [if_pos ⟨⟨qw.1, hw⟩, by rw [u5.2]; exact nI_ge (b := 4) q (by omega)⟩]
                exact ⟨_, rfl, (thief_both hd h hs D q).wr⟩
              · rw [if_neg (fun z => z.2 (by rw [u5.2]; exact nI_le (a := 4) (by omega) (by omega))), if_neg (no 4 _ (by omega)), if_neg (no 5 _ (by omega))]
                refine ⟨_, rfl, LnOk.wr ?_⟩
                unfold mX4_readThief
                rw [bnd_eq, u5.1, if_neg (show ¬ nI nt < (4 : Int32) from nI_nlt (b := 4) (by omega) (by omega))]
                exact line_bad h
            · rw [if_neg e3, if_neg (no 3 _ (by omega))]
              by_cases e4 : w = 4
              · subst e4
                obtain ⟨nd, y1, y2, y3⟩ := D.2.2.2.2.2.2.2.2.1
                rw [if_pos rfl]
                by_cases q : nd < 20
                · rw [if_pos ⟨⟨qw.1, hw⟩, by rw [y3]; exact nI_ge (b := 20) q (by omega)⟩]
                  exact ⟨_, rfl, (dear_both hd h hs D y2 q).wr⟩
                · rw [if_neg (fun z => z.2 (by rw [y3]; exact nI_le (a := 20) (by omega) (by omega))), if_neg (no 5 _ (by omega))]
                  refine ⟨_, rfl, LnOk.wr ?_⟩
                  unfold mX4_readDear
                  rw [y2, if_neg (show ¬ nI nd < (20 : Int32) from nI_nlt (b := 20) (by omega) (by omega))]
                  exact line_bad h
              · rw [if_neg e4, if_neg (no 4 _ (by omega))]
                by_cases e5 : w = 5
                · subst e5
                  rw [if_pos rfl]
                  by_cases q : ρ.1 233 58 = 0
                  · rw [if_pos ⟨⟨qw.1, hw⟩, q⟩]
                    exact ⟨_, rfl, (law_line hd h hs D q).wr⟩
                  · rw [if_neg (fun z => q z.2)]
                    refine ⟨_, rfl, LnOk.wr ?_⟩
                    obtain ⟨lw, u, z1, z2, z3, z4, z5⟩ : ∃ lw u, LwC d lw σ ∧ LwR lw ρ ∧ lwx lw 0 = some 1 ∧ lw.length ≤ 300 ∧ (σ.1 (d + 11) 5 = nI u ∧ ρ.1 233 22 = nI u) := by
                      rcases D.2.2.2.2.2.2.2.2.2.2 with z | z
                      · exact absurd z.1 q
                      · exact z.2
                    have l0 : 0 < lw.length := by
                      cases lw with
                      | nil => unfold lwx at z3; injection z3 with z3; omega
                      | cons a l => simp
                    unfold mX4_readLaw
                    rw [z1.1, if_neg (show ¬ nI lw.length ≤ (0 : Int32) from nI_ge (a := 0) l0 (by omega))]
                    exact line_bad h
                · rw [if_neg e5, if_neg e6, if_neg (no 5 _ (by omega))]
                  exact ⟨_, rfl, line_bad h⟩
  · have no : ∀ (j : Nat) (X : Prop), ¬ ((τ.1 = 1 ∧ wnum τ.2.2.1 = some j) ∧ X) := fun j X z => qw ⟨z.1.1, by rw [z.1.2]; rfl⟩
    have s3 : mX10_isSort 3 (3 : Int32) σ = some (decide (cso τ = 3)) := c_isSort (s := 3) h.1 (by omega)
    rw [if_neg (no 6 _), if_neg (no 0 _), if_neg (no 1 _), if_neg (no 2 _), if_neg (no 3 _), if_neg (no 4 _), if_neg (no 5 _)]
    refine ⟨_, rfl, ?_⟩
    unfold mX4_readLine
    rw [show 1 + 2 = 3 from rfl, s3, obs_eq, decide_eq_false (fun z => qw (cso_word.mp z)), if_neg (by simp)]
    exact line_bad h
end LINE
