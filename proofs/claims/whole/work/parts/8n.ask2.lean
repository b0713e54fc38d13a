/-! ask, the reference's side; ask, whole -/
section ASK2
variable {σ σ' : St_} {c dr s t th : Nat} {v u : Vw} {z : Sv}
/-- what the reference's questions leave alone -/
def OuL (a k : Nat) : Prop := ¬ (a = 242 ∨ a = 243 ∨ (a = 233 ∧ (k = 64 ∨ k = 65 ∨ k = 66)))
theorem r_left_L6 (ok : v.OK) (hT : ∀ a b, a < v.H → b < v.N → v.sa a b = v.va a b) {h x a b : Nat} (hh : h < v.H) (hx : x < v.N) (ha : a < v.N) (hb : b < v.N) {P : Nat → Bool} {ρ : St_} (hr0 : RV v ρ) (hS : SpR P 100 ρ) {x5 : Int32} {k62 : Int32 → St_ → Option (Int32 × St_)} : ∀ k m w (σ : St_), (∀ e j, OuL e j → σ.1 e j = ρ.1 e j) → w + k = 100 → k < m → ∃ σ', mX12_leftBy_L6 233 (nI h) (nI x) (nI a) (nI b) x5 k62 m (nI (ctA v h x P a b w)) (nI w) σ = k62 (nI (ctA v h x P a b 100)) σ' ∧ ∀ e j, OuL e j → σ'.1 e j = ρ.1 e j
  | 0, m, w, σ, hF, hw, hm => by
    obtain ⟨m, rfl, -⟩ := fu_suc hm
    have hw' : w = 100 := by omega
    subst hw'
    refine ⟨σ, ?_, hF⟩
    unfold mX12_leftBy_L6
    rw [if_pos (by decide)]
  | k + 1, m, w, σ, hF, hw, hm => by
    have oN := ok.N
    obtain ⟨m, rfl, hm⟩ := fu_suc hm
    have bw : bin (nI w) 100 = true := binn (by omega) (by omega)
    have cw : (nI w).toNatClampNeg = w := pn_cl (by omega)
    have cs := ctA_suc (v := v) (h := h) (x := x) (a := a) (b := b) (w := w) (P := P)
    have hP : σ.1 277 w = b2i (P w) := by rw [hF 277 w (by unfold OuL; omega)]; exact hS w (by omega)
    unfold mX12_leftBy_L6
    simp only [bnd_eq]
    rw [if_neg (show ¬ (99 : Int32) < nI w from nI_nlt (a := 99) (by omega) (by omega)), bw, if_pos rfl, cw, show 233 + 44 = 277 from rfl, hP, if_pos (isBb _).1, (isBb _).2]
    simp only [nI_1]
    cases q : P w
    · have cs0 : ctA v h x P a b (w + 1) = ctA v h x P a b w := by rw [cs, q]; rfl
      rw [if_neg (show ¬ false = true by simp), ← cs0]
      exact r_left_L6 ok hT hh hx ha hb hr0 hS (x5 := x5) (k62 := k62) k m (w + 1) σ hF (by omega) (by omega)
    · generalize hA : sI (sI (sI σ 233 65 (nI h)) 233 64 (nI x)) 233 66 (nI w) = A
      have A1 : ∀ a j, ¬ (a = 233 ∧ (j = 64 ∨ j = 65 ∨ j = 66)) → A.1 a j = σ.1 a j := fun a j hn => by rw [← hA, sI_get, if_neg (by omega), sI_get, if_neg (by omega), sI_get, if_neg (by omega)]
      have A0 : ∀ a j, OuL a j → A.1 a j = ρ.1 a j := fun a j hn => by rw [A1 a j (by unfold OuL at hn; omega)]; exact hF a j hn
      have hrA : RV (v.say h x (nI w)) A := say_rv hx hh ok hT hr0 (fun a k q1 q2 => A0 a k (by unfold OuL; unfold FPr at q1; omega)) (by rw [← hA]; simp [sI_get]) (by rw [← hA]; simp [sI_get]) (by rw [← hA]; simp [sI_get])
      obtain ⟨B, l1⟩ := r_isLawful hrA (say_ok ok h x (nI w)) hh (nI (2 ^ a)) (nI (2 ^ b)) 0 0
      have l1' : mX12_isLawful 233 (nI h) (nI (2 ^ a)) (nI (2 ^ b)) 0 0 A = some (lawA v h x a b w, B) := l1
      have F1 : ∀ a k, ¬ (a = 242 ∨ a = 243) → B.1 a k = A.1 a k := fun a k hn => (fX12_isLawful _ _ _ _ _ _ _ _ l1 a k (by unfold MOD_X12_isLawful; omega)).1
      obtain ⟨σ', e1, e2⟩ := r_left_L6 ok hT hh hx ha hb hr0 hS (x5 := x5) (k62 := k62) k m (w + 1) B (fun a j hn => by rw [F1 a j (by unfold OuL at hn; omega)]; exact A0 a j hn) (by omega) (by omega)
      refine ⟨σ', ?_, e2⟩
      have en : nI (ctA v h x P a b w) + (if lawA v h x a b w = true then 1 else 0) = nI (ctA v h x P a b (w + 1)) := by
        rw [cs, q, Bool.true_and]
        cases lawA v h x a b w
        · exact Int32.add_zero _
        · exact nI_1 _
      rw [if_pos rfl, r_lay_o, obs_eq, hA, shl_nI (by omega), shl_nI (by omega), l1', obs_eq, truth_eq, obs_eq, en]
      exact e1
theorem r_leftBy (ok : v.OK) (hT : ∀ a b, a < v.H → b < v.N → v.sa a b = v.va a b) {h x a b : Nat} (hh : h < v.H) (hx : x < v.N) (ha : a < v.N) (hb : b < v.N) {P : Nat → Bool} {ρ : St_} (hr0 : RV v ρ) (hS : SpR P 100 ρ) (hF : ∀ e j, OuL e j → σ.1 e j = ρ.1 e j) : ∃ σ', mX12_leftBy 233 (nI h) (nI x) (nI a) (nI b) (nI (frm P 0 100).length) σ = some (nI (stay v h x P a b), σ') ∧ ∀ e j, OuL e j → σ'.1 e j = ρ.1 e j := by
  have hl : (frm P 0 100).length ≤ 100 := frm_len 100 0
  obtain ⟨A, a1, a2⟩ := r_left_L6 ok hT hh hx ha hb hr0 hS (x5 := nI (frm P 0 100).length) (k62 := (fun (y10 : Int32) (σ11 : St_) => (if y10 ≤ (nI (frm P 0 100).length - y10) then (some ((nI (frm P 0 100).length - y10), σ11)) else (some (y10, σ11))))) 100 FU 0 σ hF (by omega) (by unfold FU; omega)
  have z1 : nI (ctA v h x P a b 0) = (0 : Int32) := rfl
  rw [z1, show nI 0 = (0 : Int32) from rfl] at a1
  refine ⟨A, ?_, a2⟩
  unfold mX12_leftBy
  refine Eq.trans a1 ?_
  try dsimp only
  have e := r_mx (ctA_le (v := v) (h := h) (x := x) (P := P) (a := a) (b := b) (w := 100)) hl
  unfold stay
  rw [← e]
  by_cases q : nI (ctA v h x P a b 100) ≤ nI (frm P 0 100).length - nI (ctA v h x P a b 100)
  · rw [if_pos q, if_pos q]
  · rw [if_neg q, if_neg q]
def en1 : Option (Nat × Nat × Nat) → Int32
  | none => -1
  | some q => nI (10 * q.1 + q.2.1)
def en2 : Option (Nat × Nat × Nat) → Int32
  | none => 1000
  | some q => nI q.2.2
theorem r_ask_L76 (ok : v.OK) (hT : ∀ a b, a < v.H → b < v.N → v.sa a b = v.va a b) {h x a : Nat} (hh : h < v.H) (hx : x < v.N) (ha : a < v.N) {P : Nat → Bool} {ρ : St_} (hr0 : RV v ρ) (hS : SpR P 100 ρ) {x3 : Int32} {k142 : Int32 → Int32 → St_ → Option (Int32 × St_)} : ∀ k m b (st : Option (Nat × Nat × Nat)) (σ : St_), (∀ e j, OuL e j → σ.1 e j = ρ.1 e j) → okT st → b + k = v.N → k < m → ∃ σ', mX12_ask_L76 233 (nI h) (nI x) x3 (nI (frm P 0 100).length) (nI a) k142 m (en1 st) (en2 st) (nI b) σ = k142 (en1 (asB (stay v h x P) a k b st)) (en2 (asB (stay v h x P) a k b st)) σ' ∧ okT (asB (stay v h x P) a k b st) ∧ ∀ e j, OuL e j → σ'.1 e j = ρ.1 e j
  | 0, m, b, st, σ, hF, hok, hb, hm => by
    have := ok.N
    obtain ⟨m, rfl, -⟩ := fu_suc hm
    refine ⟨σ, ?_, hok, hF⟩
    have h52 : σ.1 233 52 = nI v.N := by rw [hF _ _ (by unfold OuL; omega)]; exact hr0.N
    unfold mX12_ask_L76
    rw [h52, if_pos (nI_le (by omega) (by omega))]
    rfl
  | k + 1, m, b, st, σ, hF, hok, hb, hm => by
    have oN := ok.N
    obtain ⟨m, rfl, hm⟩ := fu_suc hm
    have h52 : σ.1 233 52 = nI v.N := by rw [hF _ _ (by unfold OuL; omega)]; exact hr0.N
    have go := fun st' σ' h1 h2 => r_ask_L76 ok hT hh hx ha hr0 hS (x3 := x3) (k142 := k142) k m (b + 1) st' σ' h1 h2 (by omega) (by omega)
    unfold mX12_ask_L76
    simp only [bnd_eq]
    rw [h52, if_neg (nI_ge (by omega) (by omega))]
    simp only [nI_1]
    unfold asB
    by_cases q : a = b
    · have n0 : ¬ (1000 : Int32) < en2 st := by
        cases st with
        | none => exact (show ¬ (1000 : Int32) < 1000 by decide)
        | some p => exact nI_nlt (a := 1000) (by have := (hok p rfl).2.2; omega) (by omega)
      rw [if_pos (show nI a = nI b by rw [q]), if_neg n0, if_pos q]
      exact go st σ hF hok
    · rw [if_neg (fun w => q ((nI_eq (by omega) (by omega)).mp w)), if_neg q]
      obtain ⟨A, a1, a2⟩ := r_leftBy (σ := σ) ok hT hh hx ha (show b < v.N by omega) hr0 hS hF
      have sl : stay v h x P a b ≤ 100 := stay_le
      rw [a1, obs_eq, ten_mul, nI_add]
      cases st with
      | none =>
        have lt : nI (stay v h x P a b) < en2 none := nI_lt (b := 1000) (by omega) (by omega)
        rw [if_pos lt]
        exact go (stp none a b (stay v h x P a b)) A a2 (stp_ok hok (by omega) (by omega) sl)
      | some p =>
        obtain ⟨p1, p2, p3⟩ := hok p rfl
        have ok2 := stp_ok (a := a) (b := b) hok (by omega) (by omega) sl
        have g := go (stp (some p) a b (stay v h x P a b)) A a2 ok2
        by_cases w : p.2.2 ≤ stay v h x P a b
        · have e : stp (some p) a b (stay v h x P a b) = some p := by unfold stp; simp only [if_pos w]
          rw [e] at g
          rw [if_neg (show ¬ nI (stay v h x P a b) < en2 (some p) from nI_nlt (by omega) (by omega)), e]
          exact g
        · have e : stp (some p) a b (stay v h x P a b) = some (a, b, stay v h x P a b) := by unfold stp; simp only [if_neg w]
          rw [e] at g
          rw [if_pos (show nI (stay v h x P a b) < en2 (some p) from nI_lt (by omega) (by omega)), e]
          exact g
theorem r_ask_L64 (ok : v.OK) (hT : ∀ a b, a < v.H → b < v.N → v.sa a b = v.va a b) {h x : Nat} (hh : h < v.H) (hx : x < v.N) {P : Nat → Bool} {ρ : St_} (hr0 : RV v ρ) (hS : SpR P 100 ρ) {x3 : Int32} {k148 : Int32 → Int32 → St_ → Option (Int32 × St_)} : ∀ k m a (st : Option (Nat × Nat × Nat)) (σ : St_), (∀ e j, OuL e j → σ.1 e j = ρ.1 e j) → okT st → a + k = v.N → k < m → ∃ σ', mX12_ask_L64 233 (nI h) (nI x) x3 (nI (frm P 0 100).length) k148 m (en1 st) (en2 st) (nI a) σ = k148 (en1 (asA (stay v h x P) v.N k a st)) (en2 (asA (stay v h x P) v.N k a st)) σ' ∧ ∀ e j, OuL e j → σ'.1 e j = ρ.1 e j
  | 0, m, a, st, σ, hF, hok, ha, hm => by
    have := ok.N
    obtain ⟨m, rfl, -⟩ := fu_suc hm
    refine ⟨σ, ?_, hF⟩
    have h52 : σ.1 233 52 = nI v.N := by rw [hF _ _ (by unfold OuL; omega)]; exact hr0.N
    unfold mX12_ask_L64
    rw [h52, if_pos (nI_le (by omega) (by omega))]
    rfl
  | k + 1, m, a, st, σ, hF, hok, ha, hm => by
    have oN := ok.N
    obtain ⟨m, rfl, hm⟩ := fu_suc hm
    have h52 : σ.1 233 52 = nI v.N := by rw [hF _ _ (by unfold OuL; omega)]; exact hr0.N
    obtain ⟨A, a1, a2, a3⟩ := r_ask_L76 ok hT hh hx (show a < v.N by omega) hr0 hS (x3 := x3) (k142 := fun y15 y16 σ17 => mX12_ask_L64 233 (nI h) (nI x) x3 (nI (frm P 0 100).length) k148 m y15 y16 (nI (a + 1)) σ17) v.N FU 0 st σ hF hok (by omega) (by unfold FU; omega)
    rw [show nI 0 = (0 : Int32) from rfl] at a1
    obtain ⟨σ', e1, e2⟩ := r_ask_L64 ok hT hh hx hr0 hS (x3 := x3) (k148 := k148) k m (a + 1) (asB (stay v h x P) a v.N 0 st) A a3 a2 (by omega) (by omega)
    refine ⟨σ', ?_, e2⟩
    unfold mX12_ask_L64
    rw [h52, if_neg (nI_ge (by omega) (by omega)), nI_1]
    exact a1.trans e1
theorem core_31 (a1 a2 a3 a4 : Int32) (hV : Vof c σ) (hcc : c = 12 ∨ c = 28) (hrep : Irep σ) (hother : Iother σ) (hsaid : Isaid c σ) : ∃ (r : Int32) (σ1 σ2 : St_), mX11_ask 0 c dr a1 a2 a3 a4 σ = some (r, σ1) ∧ mX12_ask 233 a1 a2 a3 a4 σ1 = some (r, σ2) ∧ Iother σ2 ∧ Isaid c σ2 := by
  obtain ⟨v, ok, hc, hr, h1, h2, h3, h4, hsv⟩ := hV
  obtain ⟨n, R, hRc, hRr, hO⟩ := rp_of h1 h2 h4 hrep
  have oN := ok.N
  have oH := ok.H
  have hT : ∀ a b, a < v.H → b < v.N → v.sa a b = v.va a b := fun a b _ _ => by rw [hsv]
  have no : mX11_ask 0 c dr a1 a2 a3 a4 σ = some (-2, σ) → mX12_ask 233 a1 a2 a3 a4 σ = some (-2, σ) → ∃ (r : Int32) (σ1 σ2 : St_), mX11_ask 0 c dr a1 a2 a3 a4 σ = some (r, σ1) ∧ mX12_ask 233 a1 a2 a3 a4 σ1 = some (r, σ2) ∧ Iother σ2 ∧ Isaid c σ2 := fun e1 e2 => ⟨-2, σ, σ, e1, e2, hother, hsaid⟩
  cases hb1 : bin a1 v.H
  · apply no
    · unfold mX11_ask; rw [c_isHouse hc ok, hb1]; rfl
    · unfold mX12_ask; rw [r_isHouse hr ok, hb1]; rfl
  cases hb2 : bin a2 v.N
  · apply no
    · unfold mX11_ask; rw [c_isHouse hc ok, hb1, obs_eq, if_pos rfl, c_isThing hc ok, hb2]; rfl
    · unfold mX12_ask; rw [r_isHouse hr ok, hb1, obs_eq, if_pos rfl, r_isThing hr ok, hb2]; rfl
  by_cases q2 : a3 < 0
  · apply no
    · unfold mX11_ask; rw [c_isHouse hc ok, hb1, obs_eq, if_pos rfl, c_isThing hc ok, hb2, obs_eq, if_pos rfl, if_pos q2]
    · unfold mX12_ask; rw [r_isHouse hr ok, hb1, obs_eq, if_pos rfl, r_isThing hr ok, hb2, obs_eq, if_pos rfl, in060, obs_eq, decide_eq_false (Int32.not_le.mpr q2)]; rfl
  by_cases q3 : a3 ≤ 1
  · obtain ⟨h, hh, rfl, -⟩ := bin_iff.mp hb1
    obtain ⟨x, hx, rfl, -⟩ := bin_iff.mp hb2
    obtain ⟨A, f1, f2, f3, f4⟩ := c_fit hc ok hcc hO hRc hh hx (hT h x hh hx) a4
    obtain ⟨g1, g2, g3, g4⟩ := f3
    generalize hP : fitP v h x a4 n R = P at g1 g2 g3 g4
    have hl : (frm P 0 100).length ≤ 100 := frm_len 100 0
    -- what the reference does, from any state that the class left
    have ref : ∀ ρ : St_, (∀ a k, 233 ≤ a → ρ.1 a k = σ.1 a k) → ∃ B, mX12_laySpan 233 (nI h) (nI x) a4 ρ = some (nI (frm P 0 100).length, B) ∧ SpR P 100 B ∧ RV v B ∧ Iother B ∧ ∀ a j, OuR a j → B.1 a j = ρ.1 a j := fun ρ F => by
      obtain ⟨B, b1, b2, b3, b4, b5⟩ := r_laySpan (hr.fr (fun a k q => F a k (by unfold FPr at q; omega))) ok hT hO (hRr.fr (fun a k q => F a k (by omega))) hh hx a4 (hother.fr (fun a k q => F a k (by unfold FPother at q; omega)))
      rw [hP] at b1 b2
      exact ⟨B, b1, b2, b3, b4, b5⟩
    have rf0 : ∀ ρ B : St_, (∀ a k, 233 ≤ a → ρ.1 a k = σ.1 a k) → mX12_laySpan 233 (nI h) (nI x) a4 ρ = some (nI (frm P 0 100).length, B) → mX12_ask 233 (nI h) (nI x) a3 a4 ρ = if nI (frm P 0 100).length = 0 then some (-1, B) else if (2 : Int32) ≤ B.1 233 52 then mX12_ask_L64 233 (nI h) (nI x) a3 (nI (frm P 0 100).length) (fun (y18 : Int32) (y19 : Int32) (σ20 : St_) => ((mX12_layOther 233 (-1 : Int32) (-1 : Int32) (0 : Int32) σ20).bind fun σ21 => (if a3 = 0 then (some (y18, σ21)) else (some (y19, σ21))))) FU (-1) 1000 0 B else some (-1, B) := fun ρ B F b1 => by
      have hrρ : RV v ρ := hr.fr (fun a k q => F a k (by unfold FPr at q; omega))
      unfold mX12_ask
      rw [r_isHouse hrρ ok, hb1, obs_eq, if_pos rfl, r_isThing hrρ ok, hb2, obs_eq, if_pos rfl, in060, obs_eq, decide_eq_true (nn_of q2), decide_eq_true q3, Bool.and_self, if_pos rfl, b1, obs_eq]
    have cl0 : mX11_ask 0 c dr (nI h) (nI x) a3 a4 σ = if nI (frm P 0 100).length = 0 then some (-1, A) else if (2 : Int32) ≤ nI v.N then ((mX5_findQuestion 174 c (nI h) (nI x) A).bind fun σ4 => (if a3 = 0 then (some ((((10 : Int32) * (σ4.1 174 12)) + (σ4.1 174 13)), σ4)) else (some ((σ4.1 174 14), σ4)))) else some (-1, A) := by
      unfold mX11_ask
      rw [c_isHouse hc ok, hb1, obs_eq, if_pos rfl, c_isThing hc ok, hb2, obs_eq, if_pos rfl, if_neg q2, if_pos q3, show 0 + 174 = 174 from rfl, f1, obs_eq, g1, f2.N]
    have Fc : ∀ a k, 233 ≤ a → A.1 a k = σ.1 a k := fun a k hn => f4 a k (by omega)
    -- nothing fits, or fewer than two THINGS
    have none' : (nI (frm P 0 100).length = 0 ∨ ¬ (2 : Int32) ≤ nI v.N) → ∃ (r : Int32) (σ1 σ2 : St_), mX11_ask 0 c dr (nI h) (nI x) a3 a4 σ = some (r, σ1) ∧ mX12_ask 233 (nI h) (nI x) a3 a4 σ1 = some (r, σ2) ∧ Iother σ2 ∧ Isaid c σ2 := fun w => by
      obtain ⟨B, b1, b2, b3, b4, b5⟩ := ref A Fc
      have rfB := rf0 A B Fc b1
      rw [b3.N] at rfB
      refine ⟨-1, A, B, ?_, ?_, b4, said_of hsv ok hh hx (f2.fr (fun a k q => b5 a k (by unfold OuR; unfold FPc at q; omega))) hsaid (fun a j q => ?_)⟩
      · rw [cl0]
        by_cases w1 : nI (frm P 0 100).length = 0
        · rw [if_pos w1]
        · rw [if_neg w1, if_neg (w.resolve_left w1)]
      · rw [rfB]
        by_cases w1 : nI (frm P 0 100).length = 0
        · rw [if_pos w1]
        · rw [if_neg w1, if_neg (w.resolve_left w1)]
      · rw [b5 a j (by unfold OuR; omega), f4 a j (by omega)]
    by_cases w1 : nI (frm P 0 100).length = 0
    · exact none' (Or.inl w1)
    by_cases w2 : (2 : Int32) ≤ nI v.N
    · have n2 : 2 ≤ v.N := by
        by_cases g : 2 ≤ v.N
        · exact g
        · exact absurd w2 (nI_ge (b := 2) (by omega) (by omega))
      have ok0 : okT none := fun q hq => by cases hq
      obtain ⟨C, c1, c2, c3, c4, c5⟩ := c_q_L8 (c := c) (P := P) ok hcc hh hx (hT h x hh hx) v.N FU 0 none (sI A 174 12 (-1)) (f2.fr (fun a k q => by rw [sI_get, if_neg (by unfold FPc at q; omega)])) (fun j hj => by rw [sI_get, if_neg (by omega)]; exact g4 j hj) (by rw [sI_get, if_neg (by omega)]; exact g1) (by show _ = _; rw [sI_get, if_pos ⟨rfl, rfl⟩]) ok0 (by omega) (by unfold FU; omega)
      rw [show nI 0 = (0 : Int32) from rfl] at c1
      have fq : mX5_findQuestion 174 c (nI h) (nI x) A = some C := by
        unfold mX5_findQuestion
        rw [bnd_eq]
        exact c1
      have hs := ask_some (S := stay v h x P) (N := v.N) n2
      have FC : ∀ a k, 233 ≤ a → C.1 a k = σ.1 a k := fun a k hn => by rw [c5 a k (by omega), sI_get, if_neg (by omega), Fc a k hn]
      obtain ⟨B, b1, b2, b3, b4, b5⟩ := ref C FC
      have rfB := rf0 C B FC b1
      obtain ⟨D, d1, d2⟩ := r_ask_L64 ok hT hh hx b3 b2 (x3 := a3) (k148 := (fun (y18 : Int32) (y19 : Int32) (σ20 : St_) => ((mX12_layOther 233 (-1 : Int32) (-1 : Int32) (0 : Int32) σ20).bind fun σ21 => (if a3 = 0 then (some (y18, σ21)) else (some (y19, σ21)))))) v.N FU 0 none B (fun e j _ => rfl) ok0 (by omega) (by unfold FU; omega)
      rw [show nI 0 = (0 : Int32) from rfl, show en1 none = (-1 : Int32) from rfl, show en2 none = (1000 : Int32) from rfl] at d1
      rw [if_neg w1, b3.N, if_pos w2, d1] at rfB
      rw [if_neg w1, if_pos w2, fq, obs_eq] at cl0
      cases hq : asA (stay v h x P) v.N v.N 0 none with
      | none => exact absurd hq hs
      | some q =>
        rw [hq] at c3 c4 rfB
        obtain ⟨t12, t13, t14⟩ := c3
        rw [t12, t13, t14, ten_mul, nI_add] at cl0
        generalize hE : sI (sI (sI D 233 65 (-1)) 233 64 (-1)) 233 66 0 = E
        have E1 : ∀ a j, ¬ (a = 233 ∧ (j = 64 ∨ j = 65 ∨ j = 66)) → E.1 a j = D.1 a j := fun a j hn => by rw [← hE, sI_get, if_neg (by omega), sI_get, if_neg (by omega), sI_get, if_neg (by omega)]
        have Eo : Iother E := ⟨by rw [← hE]; simp [sI_get], by rw [← hE]; simp [sI_get]⟩
        have F : ∀ a j, a < 233 → E.1 a j = C.1 a j := fun a j hn => by rw [E1 a j (by omega), d2 a j (by unfold OuL; omega), b5 a j (by unfold OuR; omega)]
        have rfE : mX12_ask 233 (nI h) (nI x) a3 a4 C = if a3 = 0 then some (nI (10 * q.1 + q.2.1), E) else some (nI q.2.2, E) := by
          refine rfB.trans ?_
          show ((mX12_layOther 233 (-1 : Int32) (-1 : Int32) (0 : Int32) D).bind fun σ21 => (if a3 = 0 then (some (nI (10 * q.1 + q.2.1), σ21)) else (some (nI q.2.2, σ21)))) = _
          rw [r_lay_o, obs_eq, hE]
        have fin : Isaid c E := said_of hsv ok hh hx (c2.fr (fun a k q => F a k (by unfold FPc at q; omega))) hsaid (fun a j q => by rw [F a j (by omega), c5 a j (by omega), sI_get, if_neg (by omega), f4 a j (by omega)])
        by_cases w3 : a3 = 0
        · rw [if_pos w3] at cl0 rfE
          exact ⟨_, C, E, cl0, rfE, Eo, fin⟩
        · rw [if_neg w3] at cl0 rfE
          exact ⟨_, C, E, cl0, rfE, Eo, fin⟩
    · exact none' (Or.inr w2)
  · apply no
    · unfold mX11_ask; rw [c_isHouse hc ok, hb1, obs_eq, if_pos rfl, c_isThing hc ok, hb2, obs_eq, if_pos rfl, if_neg q2, if_neg q3]
    · unfold mX12_ask; rw [r_isHouse hr ok, hb1, obs_eq, if_pos rfl, r_isThing hr ok, hb2, obs_eq, if_pos rfl, in060, obs_eq, decide_eq_false q3, Bool.and_false]; rfl
end ASK2
