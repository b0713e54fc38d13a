def LY8 (sh : Sh_) (P : Px_) (t : Nat) : Prop := sh[t]? = some (0, 8) ∧ P t 0 = some (t + 1) ∧ sh[t + 1]? = some (1, 9) ∧ P t 1 = some (t + 2) ∧ sh[t + 2]? = some (1, 4)
theorem LY8.s {sh : Sh_} {P : Px_} {t : Nat} (h : LY8 sh P t) : sh[t]? = some (0, 8) := h.1
theorem LY8.p_held {sh : Sh_} {P : Px_} {t : Nat} (h : LY8 sh P t) : P t 0 = some (t + 1) := h.2.1
theorem LY8.s_held {sh : Sh_} {P : Px_} {t : Nat} (h : LY8 sh P t) : sh[t + 1]? = some (1, 9) := h.2.2.1
theorem LY8.p_crimes {sh : Sh_} {P : Px_} {t : Nat} (h : LY8 sh P t) : P t 1 = some (t + 2) := h.2.2.2.1
theorem LY8.s_crimes {sh : Sh_} {P : Px_} {t : Nat} (h : LY8 sh P t) : sh[t + 2]? = some (1, 4) := h.2.2.2.2
def LY3 (sh : Sh_) (P : Px_) (t : Nat) : Prop := sh[t]? = some (0, 3) ∧ P t 0 = some (t + 1) ∧ sh[t + 1]? = some (1, 300) ∧ P t 1 = some (t + 2) ∧ sh[t + 2]? = some (1, 300) ∧ P t 2 = some (t + 3) ∧ sh[t + 3]? = some (1, 30) ∧ P t 3 = some (t + 4) ∧ sh[t + 4]? = some (1, 7)
theorem LY3.s {sh : Sh_} {P : Px_} {t : Nat} (h : LY3 sh P t) : sh[t]? = some (0, 3) := h.1
theorem LY3.p_step {sh : Sh_} {P : Px_} {t : Nat} (h : LY3 sh P t) : P t 0 = some (t + 1) := h.2.1
theorem LY3.s_step {sh : Sh_} {P : Px_} {t : Nat} (h : LY3 sh P t) : sh[t + 1]? = some (1, 300) := h.2.2.1
theorem LY3.p_argument {sh : Sh_} {P : Px_} {t : Nat} (h : LY3 sh P t) : P t 1 = some (t + 2) := h.2.2.2.1
theorem LY3.s_argument {sh : Sh_} {P : Px_} {t : Nat} (h : LY3 sh P t) : sh[t + 2]? = some (1, 300) := h.2.2.2.2.1
theorem LY3.p_stack {sh : Sh_} {P : Px_} {t : Nat} (h : LY3 sh P t) : P t 2 = some (t + 3) := h.2.2.2.2.2.1
theorem LY3.s_stack {sh : Sh_} {P : Px_} {t : Nat} (h : LY3 sh P t) : sh[t + 3]? = some (1, 30) := h.2.2.2.2.2.2.1
theorem LY3.p_given {sh : Sh_} {P : Px_} {t : Nat} (h : LY3 sh P t) : P t 3 = some (t + 4) := h.2.2.2.2.2.2.2.1
theorem LY3.s_given {sh : Sh_} {P : Px_} {t : Nat} (h : LY3 sh P t) : sh[t + 4]? = some (1, 7) := h.2.2.2.2.2.2.2.2
def LY1 (sh : Sh_) (P : Px_) (t : Nat) : Prop := sh[t]? = some (0, 1) ∧ P t 5 = some (t + 1) ∧ sh[t + 1]? = some (1, 10) ∧ P t 6 = some (t + 2) ∧ sh[t + 2]? = some (1, 10) ∧ P t 7 = some (t + 3) ∧ sh[t + 3]? = some (1, 10) ∧ P t 8 = some (t + 4) ∧ sh[t + 4]? = some (1, 5) ∧ P t 9 = some (t + 5) ∧ sh[t + 5]? = some (1, 5) ∧ P t 10 = some (t + 6) ∧ sh[t + 6]? = some (1, 4) ∧ P t 11 = some (t + 7) ∧ sh[t + 7]? = some (1, 4) ∧ P t 12 = some (t + 8) ∧ sh[t + 8]? = some (1, 90) ∧ P t 13 = some (t + 9) ∧ sh[t + 9]? = some (1, 50) ∧ P t 14 = some (t + 10) ∧ sh[t + 10]? = some (1, 9) ∧ P t 15 = some (t + 11) ∧ LY3 sh P (t + 11)
theorem LY1.s {sh : Sh_} {P : Px_} {t : Nat} (h : LY1 sh P t) : sh[t]? = some (0, 1) := h.1
theorem LY1.p_kindOf {sh : Sh_} {P : Px_} {t : Nat} (h : LY1 sh P t) : P t 5 = some (t + 1) := h.2.1
theorem LY1.s_kindOf {sh : Sh_} {P : Px_} {t : Nat} (h : LY1 sh P t) : sh[t + 1]? = some (1, 10) := h.2.2.1
theorem LY1.p_weight {sh : Sh_} {P : Px_} {t : Nat} (h : LY1 sh P t) : P t 6 = some (t + 2) := h.2.2.2.1
theorem LY1.s_weight {sh : Sh_} {P : Px_} {t : Nat} (h : LY1 sh P t) : sh[t + 2]? = some (1, 10) := h.2.2.2.2.1
theorem LY1.p_price {sh : Sh_} {P : Px_} {t : Nat} (h : LY1 sh P t) : P t 7 = some (t + 3) := h.2.2.2.2.2.1
theorem LY1.s_price {sh : Sh_} {P : Px_} {t : Nat} (h : LY1 sh P t) : sh[t + 3]? = some (1, 10) := h.2.2.2.2.2.2.1
theorem LY1.p_lock {sh : Sh_} {P : Px_} {t : Nat} (h : LY1 sh P t) : P t 8 = some (t + 4) := h.2.2.2.2.2.2.2.1
theorem LY1.s_lock {sh : Sh_} {P : Px_} {t : Nat} (h : LY1 sh P t) : sh[t + 4]? = some (1, 5) := h.2.2.2.2.2.2.2.2.1
theorem LY1.p_watch {sh : Sh_} {P : Px_} {t : Nat} (h : LY1 sh P t) : P t 9 = some (t + 5) := h.2.2.2.2.2.2.2.2.2.1
theorem LY1.s_watch {sh : Sh_} {P : Px_} {t : Nat} (h : LY1 sh P t) : sh[t + 5]? = some (1, 5) := h.2.2.2.2.2.2.2.2.2.2.1
theorem LY1.p_sack {sh : Sh_} {P : Px_} {t : Nat} (h : LY1 sh P t) : P t 10 = some (t + 6) := h.2.2.2.2.2.2.2.2.2.2.2.1
theorem LY1.s_sack {sh : Sh_} {P : Px_} {t : Nat} (h : LY1 sh P t) : sh[t + 6]? = some (1, 4) := h.2.2.2.2.2.2.2.2.2.2.2.2.1
theorem LY1.p_skill {sh : Sh_} {P : Px_} {t : Nat} (h : LY1 sh P t) : P t 11 = some (t + 7) := h.2.2.2.2.2.2.2.2.2.2.2.2.2.1
theorem LY1.s_skill {sh : Sh_} {P : Px_} {t : Nat} (h : LY1 sh P t) : sh[t + 7]? = some (1, 4) := h.2.2.2.2.2.2.2.2.2.2.2.2.2.2.1
theorem LY1.p_value {sh : Sh_} {P : Px_} {t : Nat} (h : LY1 sh P t) : P t 12 = some (t + 8) := h.2.2.2.2.2.2.2.2.2.2.2.2.2.2.2.1
theorem LY1.s_value {sh : Sh_} {P : Px_} {t : Nat} (h : LY1 sh P t) : sh[t + 8]? = some (1, 90) := h.2.2.2.2.2.2.2.2.2.2.2.2.2.2.2.2.1
theorem LY1.p_said {sh : Sh_} {P : Px_} {t : Nat} (h : LY1 sh P t) : P t 13 = some (t + 9) := h.2.2.2.2.2.2.2.2.2.2.2.2.2.2.2.2.2.1
theorem LY1.s_said {sh : Sh_} {P : Px_} {t : Nat} (h : LY1 sh P t) : sh[t + 9]? = some (1, 50) := h.2.2.2.2.2.2.2.2.2.2.2.2.2.2.2.2.2.2.1
theorem LY1.p_held {sh : Sh_} {P : Px_} {t : Nat} (h : LY1 sh P t) : P t 14 = some (t + 10) := h.2.2.2.2.2.2.2.2.2.2.2.2.2.2.2.2.2.2.2.1
theorem LY1.s_held {sh : Sh_} {P : Px_} {t : Nat} (h : LY1 sh P t) : sh[t + 10]? = some (1, 9) := h.2.2.2.2.2.2.2.2.2.2.2.2.2.2.2.2.2.2.2.2.1
theorem LY1.p_law {sh : Sh_} {P : Px_} {t : Nat} (h : LY1 sh P t) : P t 15 = some (t + 11) := h.2.2.2.2.2.2.2.2.2.2.2.2.2.2.2.2.2.2.2.2.2.1
theorem LY1.o_law {sh : Sh_} {P : Px_} {t : Nat} (h : LY1 sh P t) : LY3 sh P (t + 11) := h.2.2.2.2.2.2.2.2.2.2.2.2.2.2.2.2.2.2.2.2.2.2
def LY10 (sh : Sh_) (P : Px_) (t : Nat) : Prop := sh[t]? = some (0, 10) ∧ P t 0 = some (t + 1) ∧ sh[t + 1]? = some (1, 1700) ∧ P t 2 = some (t + 2) ∧ sh[t + 2]? = some (1, 1701) ∧ P t 3 = some (t + 3) ∧ sh[t + 3]? = some (1, 1701) ∧ P t 4 = some (t + 4) ∧ sh[t + 4]? = some (2, 1701)
theorem LY10.s {sh : Sh_} {P : Px_} {t : Nat} (h : LY10 sh P t) : sh[t]? = some (0, 10) := h.1
theorem LY10.p_text {sh : Sh_} {P : Px_} {t : Nat} (h : LY10 sh P t) : P t 0 = some (t + 1) := h.2.1
theorem LY10.s_text {sh : Sh_} {P : Px_} {t : Nat} (h : LY10 sh P t) : sh[t + 1]? = some (1, 1700) := h.2.2.1
theorem LY10.p_starts {sh : Sh_} {P : Px_} {t : Nat} (h : LY10 sh P t) : P t 2 = some (t + 2) := h.2.2.2.1
theorem LY10.s_starts {sh : Sh_} {P : Px_} {t : Nat} (h : LY10 sh P t) : sh[t + 2]? = some (1, 1701) := h.2.2.2.2.1
theorem LY10.p_sorts {sh : Sh_} {P : Px_} {t : Nat} (h : LY10 sh P t) : P t 3 = some (t + 3) := h.2.2.2.2.2.1
theorem LY10.s_sorts {sh : Sh_} {P : Px_} {t : Nat} (h : LY10 sh P t) : sh[t + 3]? = some (1, 1701) := h.2.2.2.2.2.2.1
theorem LY10.p_values {sh : Sh_} {P : Px_} {t : Nat} (h : LY10 sh P t) : P t 4 = some (t + 4) := h.2.2.2.2.2.2.2.1
theorem LY10.s_values {sh : Sh_} {P : Px_} {t : Nat} (h : LY10 sh P t) : sh[t + 4]? = some (2, 1701) := h.2.2.2.2.2.2.2.2
def LY2 (sh : Sh_) (P : Px_) (t : Nat) : Prop := sh[t]? = some (0, 2) ∧ P t 0 = some (t + 1) ∧ LY10 sh P (t + 1)
theorem LY2.s {sh : Sh_} {P : Px_} {t : Nat} (h : LY2 sh P t) : sh[t]? = some (0, 2) := h.1
theorem LY2.p_tokens {sh : Sh_} {P : Px_} {t : Nat} (h : LY2 sh P t) : P t 0 = some (t + 1) := h.2.1
theorem LY2.o_tokens {sh : Sh_} {P : Px_} {t : Nat} (h : LY2 sh P t) : LY10 sh P (t + 1) := h.2.2
def LY4 (sh : Sh_) (P : Px_) (t : Nat) : Prop := sh[t]? = some (0, 4) ∧ P t 0 = some (t + 1) ∧ LY2 sh P (t + 1) ∧ P t 1 = some (t + 2) ∧ LY10 sh P (t + 2) ∧ P t 2 = some (t + 7) ∧ sh[t + 7]? = some (2, 6) ∧ P t 3 = some (t + 8) ∧ sh[t + 8]? = some (2, 10) ∧ P t 4 = some (t + 9) ∧ sh[t + 9]? = some (2, 9) ∧ P t 5 = some (t + 10) ∧ sh[t + 10]? = some (1, 9)
theorem LY4.s {sh : Sh_} {P : Px_} {t : Nat} (h : LY4 sh P t) : sh[t]? = some (0, 4) := h.1
theorem LY4.p_formula {sh : Sh_} {P : Px_} {t : Nat} (h : LY4 sh P t) : P t 0 = some (t + 1) := h.2.1
theorem LY4.o_formula {sh : Sh_} {P : Px_} {t : Nat} (h : LY4 sh P t) : LY2 sh P (t + 1) := h.2.2.1
theorem LY4.p_tokens {sh : Sh_} {P : Px_} {t : Nat} (h : LY4 sh P t) : P t 1 = some (t + 2) := h.2.2.2.1
theorem LY4.o_tokens {sh : Sh_} {P : Px_} {t : Nat} (h : LY4 sh P t) : LY10 sh P (t + 2) := h.2.2.2.2.1
theorem LY4.p_kindNames {sh : Sh_} {P : Px_} {t : Nat} (h : LY4 sh P t) : P t 2 = some (t + 7) := h.2.2.2.2.2.1
theorem LY4.s_kindNames {sh : Sh_} {P : Px_} {t : Nat} (h : LY4 sh P t) : sh[t + 7]? = some (2, 6) := h.2.2.2.2.2.2.1
theorem LY4.p_thingNames {sh : Sh_} {P : Px_} {t : Nat} (h : LY4 sh P t) : P t 3 = some (t + 8) := h.2.2.2.2.2.2.2.1
theorem LY4.s_thingNames {sh : Sh_} {P : Px_} {t : Nat} (h : LY4 sh P t) : sh[t + 8]? = some (2, 10) := h.2.2.2.2.2.2.2.2.1
theorem LY4.p_holderNames {sh : Sh_} {P : Px_} {t : Nat} (h : LY4 sh P t) : P t 4 = some (t + 9) := h.2.2.2.2.2.2.2.2.2.1
theorem LY4.s_holderNames {sh : Sh_} {P : Px_} {t : Nat} (h : LY4 sh P t) : sh[t + 9]? = some (2, 9) := h.2.2.2.2.2.2.2.2.2.2.1
theorem LY4.p_holderPlaces {sh : Sh_} {P : Px_} {t : Nat} (h : LY4 sh P t) : P t 5 = some (t + 10) := h.2.2.2.2.2.2.2.2.2.2.2.1
theorem LY4.s_holderPlaces {sh : Sh_} {P : Px_} {t : Nat} (h : LY4 sh P t) : sh[t + 10]? = some (1, 9) := h.2.2.2.2.2.2.2.2.2.2.2.2
def LY0 (sh : Sh_) (P : Px_) (t : Nat) : Prop := sh[t]? = some (0, 0) ∧ P t 0 = some (t + 1) ∧ sh[t + 1]? = some (4, 41) ∧ (∀ k, k < 41 → P (t + 1) k = some (t + 2 + 3 * k) ∧ LY8 sh P (t + 2 + 3 * k))
theorem LY0.s {sh : Sh_} {P : Px_} {t : Nat} (h : LY0 sh P t) : sh[t]? = some (0, 0) := h.1
theorem LY0.p_ring {sh : Sh_} {P : Px_} {t : Nat} (h : LY0 sh P t) : P t 0 = some (t + 1) := h.2.1
theorem LY0.s_ring {sh : Sh_} {P : Px_} {t : Nat} (h : LY0 sh P t) : sh[t + 1]? = some (4, 41) := h.2.2.1
theorem LY0.e_ring {sh : Sh_} {P : Px_} {t : Nat} (h : LY0 sh P t) : (∀ k, k < 41 → P (t + 1) k = some (t + 2 + 3 * k) ∧ LY8 sh P (t + 2 + 3 * k)) := h.2.2.2
def LY9 (sh : Sh_) (P : Px_) (t : Nat) : Prop := sh[t]? = some (0, 9) ∧ P t 0 = some (t + 1) ∧ sh[t + 1]? = some (1, 100) ∧ P t 1 = some (t + 2) ∧ sh[t + 2]? = some (1, 100) ∧ P t 2 = some (t + 3) ∧ sh[t + 3]? = some (1, 100) ∧ P t 3 = some (t + 4) ∧ sh[t + 4]? = some (1, 100) ∧ P t 5 = some (t + 5) ∧ sh[t + 5]? = some (1, 55) ∧ P t 6 = some (t + 6) ∧ sh[t + 6]? = some (1, 55) ∧ P t 7 = some (t + 7) ∧ sh[t + 7]? = some (1, 55) ∧ P t 8 = some (t + 8) ∧ sh[t + 8]? = some (1, 55)
theorem LY9.s {sh : Sh_} {P : Px_} {t : Nat} (h : LY9 sh P t) : sh[t]? = some (0, 9) := h.1
theorem LY9.p_house {sh : Sh_} {P : Px_} {t : Nat} (h : LY9 sh P t) : P t 0 = some (t + 1) := h.2.1
theorem LY9.s_house {sh : Sh_} {P : Px_} {t : Nat} (h : LY9 sh P t) : sh[t + 1]? = some (1, 100) := h.2.2.1
theorem LY9.p_thing {sh : Sh_} {P : Px_} {t : Nat} (h : LY9 sh P t) : P t 1 = some (t + 2) := h.2.2.2.1
theorem LY9.s_thing {sh : Sh_} {P : Px_} {t : Nat} (h : LY9 sh P t) : sh[t + 2]? = some (1, 100) := h.2.2.2.2.1
theorem LY9.p_left {sh : Sh_} {P : Px_} {t : Nat} (h : LY9 sh P t) : P t 2 = some (t + 3) := h.2.2.2.2.2.1
theorem LY9.s_left {sh : Sh_} {P : Px_} {t : Nat} (h : LY9 sh P t) : sh[t + 3]? = some (1, 100) := h.2.2.2.2.2.2.1
theorem LY9.p_gain {sh : Sh_} {P : Px_} {t : Nat} (h : LY9 sh P t) : P t 3 = some (t + 4) := h.2.2.2.2.2.2.2.1
theorem LY9.s_gain {sh : Sh_} {P : Px_} {t : Nat} (h : LY9 sh P t) : sh[t + 4]? = some (1, 100) := h.2.2.2.2.2.2.2.2.1
theorem LY9.p_high {sh : Sh_} {P : Px_} {t : Nat} (h : LY9 sh P t) : P t 5 = some (t + 5) := h.2.2.2.2.2.2.2.2.2.1
theorem LY9.s_high {sh : Sh_} {P : Px_} {t : Nat} (h : LY9 sh P t) : sh[t + 5]? = some (1, 55) := h.2.2.2.2.2.2.2.2.2.2.1
theorem LY9.p_low {sh : Sh_} {P : Px_} {t : Nat} (h : LY9 sh P t) : P t 6 = some (t + 6) := h.2.2.2.2.2.2.2.2.2.2.2.1
theorem LY9.s_low {sh : Sh_} {P : Px_} {t : Nat} (h : LY9 sh P t) : sh[t + 6]? = some (1, 55) := h.2.2.2.2.2.2.2.2.2.2.2.2.1
theorem LY9.p_setWeight {sh : Sh_} {P : Px_} {t : Nat} (h : LY9 sh P t) : P t 7 = some (t + 7) := h.2.2.2.2.2.2.2.2.2.2.2.2.2.1
theorem LY9.s_setWeight {sh : Sh_} {P : Px_} {t : Nat} (h : LY9 sh P t) : sh[t + 7]? = some (1, 55) := h.2.2.2.2.2.2.2.2.2.2.2.2.2.2.1
theorem LY9.p_setValue {sh : Sh_} {P : Px_} {t : Nat} (h : LY9 sh P t) : P t 8 = some (t + 8) := h.2.2.2.2.2.2.2.2.2.2.2.2.2.2.2.1
theorem LY9.s_setValue {sh : Sh_} {P : Px_} {t : Nat} (h : LY9 sh P t) : sh[t + 8]? = some (1, 55) := h.2.2.2.2.2.2.2.2.2.2.2.2.2.2.2.2
def LY6 (sh : Sh_) (P : Px_) (t : Nat) : Prop := sh[t]? = some (0, 6) ∧ P t 0 = some (t + 1) ∧ LY9 sh P (t + 1) ∧ P t 1 = some (t + 10) ∧ LY8 sh P (t + 10)
theorem LY6.s {sh : Sh_} {P : Px_} {t : Nat} (h : LY6 sh P t) : sh[t]? = some (0, 6) := h.1
theorem LY6.p_list {sh : Sh_} {P : Px_} {t : Nat} (h : LY6 sh P t) : P t 0 = some (t + 1) := h.2.1
theorem LY6.o_list {sh : Sh_} {P : Px_} {t : Nat} (h : LY6 sh P t) : LY9 sh P (t + 1) := h.2.2.1
theorem LY6.p_scene {sh : Sh_} {P : Px_} {t : Nat} (h : LY6 sh P t) : P t 1 = some (t + 10) := h.2.2.2.1
theorem LY6.o_scene {sh : Sh_} {P : Px_} {t : Nat} (h : LY6 sh P t) : LY8 sh P (t + 10) := h.2.2.2.2
def LY7 (sh : Sh_) (P : Px_) (t : Nat) : Prop := sh[t]? = some (0, 7) ∧ P t 0 = some (t + 1) ∧ LY9 sh P (t + 1) ∧ P t 1 = some (t + 10) ∧ LY8 sh P (t + 10) ∧ P t 2 = some (t + 13) ∧ sh[t + 13]? = some (2, 2000) ∧ P t 3 = some (t + 14) ∧ sh[t + 14]? = some (1, 2000) ∧ P t 4 = some (t + 15) ∧ sh[t + 15]? = some (1, 4096)
theorem LY7.s {sh : Sh_} {P : Px_} {t : Nat} (h : LY7 sh P t) : sh[t]? = some (0, 7) := h.1
theorem LY7.p_list {sh : Sh_} {P : Px_} {t : Nat} (h : LY7 sh P t) : P t 0 = some (t + 1) := h.2.1
theorem LY7.o_list {sh : Sh_} {P : Px_} {t : Nat} (h : LY7 sh P t) : LY9 sh P (t + 1) := h.2.2.1
theorem LY7.p_scene {sh : Sh_} {P : Px_} {t : Nat} (h : LY7 sh P t) : P t 1 = some (t + 10) := h.2.2.2.1
theorem LY7.o_scene {sh : Sh_} {P : Px_} {t : Nat} (h : LY7 sh P t) : LY8 sh P (t + 10) := h.2.2.2.2.1
theorem LY7.p_keys {sh : Sh_} {P : Px_} {t : Nat} (h : LY7 sh P t) : P t 2 = some (t + 13) := h.2.2.2.2.2.1
theorem LY7.s_keys {sh : Sh_} {P : Px_} {t : Nat} (h : LY7 sh P t) : sh[t + 13]? = some (2, 2000) := h.2.2.2.2.2.2.1
theorem LY7.p_from {sh : Sh_} {P : Px_} {t : Nat} (h : LY7 sh P t) : P t 3 = some (t + 14) := h.2.2.2.2.2.2.2.1
theorem LY7.s_from {sh : Sh_} {P : Px_} {t : Nat} (h : LY7 sh P t) : sh[t + 14]? = some (1, 2000) := h.2.2.2.2.2.2.2.2.1
theorem LY7.p_table {sh : Sh_} {P : Px_} {t : Nat} (h : LY7 sh P t) : P t 4 = some (t + 15) := h.2.2.2.2.2.2.2.2.2.1
theorem LY7.s_table {sh : Sh_} {P : Px_} {t : Nat} (h : LY7 sh P t) : sh[t + 15]? = some (1, 4096) := h.2.2.2.2.2.2.2.2.2.2
def LY5 (sh : Sh_) (P : Px_) (t : Nat) : Prop := sh[t]? = some (0, 5) ∧ P t 0 = some (t + 1) ∧ sh[t + 1]? = some (1, 30) ∧ P t 1 = some (t + 2) ∧ sh[t + 2]? = some (1, 30) ∧ P t 2 = some (t + 3) ∧ sh[t + 3]? = some (1, 30) ∧ P t 3 = some (t + 4) ∧ sh[t + 4]? = some (1, 30) ∧ P t 4 = some (t + 5) ∧ sh[t + 5]? = some (3, 30) ∧ P t 5 = some (t + 6) ∧ sh[t + 6]? = some (1, 30) ∧ P t 6 = some (t + 7) ∧ sh[t + 7]? = some (1, 30) ∧ P t 8 = some (t + 8) ∧ sh[t + 8]? = some (3, 100)
theorem LY5.s {sh : Sh_} {P : Px_} {t : Nat} (h : LY5 sh P t) : sh[t]? = some (0, 5) := h.1
theorem LY5.p_house {sh : Sh_} {P : Px_} {t : Nat} (h : LY5 sh P t) : P t 0 = some (t + 1) := h.2.1
theorem LY5.s_house {sh : Sh_} {P : Px_} {t : Nat} (h : LY5 sh P t) : sh[t + 1]? = some (1, 30) := h.2.2.1
theorem LY5.p_taken {sh : Sh_} {P : Px_} {t : Nat} (h : LY5 sh P t) : P t 1 = some (t + 2) := h.2.2.2.1
theorem LY5.s_taken {sh : Sh_} {P : Px_} {t : Nat} (h : LY5 sh P t) : sh[t + 2]? = some (1, 30) := h.2.2.2.2.1
theorem LY5.p_left {sh : Sh_} {P : Px_} {t : Nat} (h : LY5 sh P t) : P t 2 = some (t + 3) := h.2.2.2.2.2.1
theorem LY5.s_left {sh : Sh_} {P : Px_} {t : Nat} (h : LY5 sh P t) : sh[t + 3]? = some (1, 30) := h.2.2.2.2.2.2.1
theorem LY5.p_hour {sh : Sh_} {P : Px_} {t : Nat} (h : LY5 sh P t) : P t 3 = some (t + 4) := h.2.2.2.2.2.2.2.1
theorem LY5.s_hour {sh : Sh_} {P : Px_} {t : Nat} (h : LY5 sh P t) : sh[t + 4]? = some (1, 30) := h.2.2.2.2.2.2.2.2.1
theorem LY5.p_lawful {sh : Sh_} {P : Px_} {t : Nat} (h : LY5 sh P t) : P t 4 = some (t + 5) := h.2.2.2.2.2.2.2.2.2.1
theorem LY5.s_lawful {sh : Sh_} {P : Px_} {t : Nat} (h : LY5 sh P t) : sh[t + 5]? = some (3, 30) := h.2.2.2.2.2.2.2.2.2.2.1
theorem LY5.p_toldAt {sh : Sh_} {P : Px_} {t : Nat} (h : LY5 sh P t) : P t 5 = some (t + 6) := h.2.2.2.2.2.2.2.2.2.2.2.1
theorem LY5.s_toldAt {sh : Sh_} {P : Px_} {t : Nat} (h : LY5 sh P t) : sh[t + 6]? = some (1, 30) := h.2.2.2.2.2.2.2.2.2.2.2.2.1
theorem LY5.p_untoldAt {sh : Sh_} {P : Px_} {t : Nat} (h : LY5 sh P t) : P t 6 = some (t + 7) := h.2.2.2.2.2.2.2.2.2.2.2.2.2.1
theorem LY5.s_untoldAt {sh : Sh_} {P : Px_} {t : Nat} (h : LY5 sh P t) : sh[t + 7]? = some (1, 30) := h.2.2.2.2.2.2.2.2.2.2.2.2.2.2.1
theorem LY5.p_fits {sh : Sh_} {P : Px_} {t : Nat} (h : LY5 sh P t) : P t 8 = some (t + 8) := h.2.2.2.2.2.2.2.2.2.2.2.2.2.2.2.1
theorem LY5.s_fits {sh : Sh_} {P : Px_} {t : Nat} (h : LY5 sh P t) : sh[t + 8]? = some (3, 100) := h.2.2.2.2.2.2.2.2.2.2.2.2.2.2.2.2
def LY11 (sh : Sh_) (P : Px_) (t : Nat) (tw dr : Nat) : Prop := sh[t]? = some (0, 11) ∧ P t 0 = some (t + 1) ∧ LY4 sh P (t + 1) ∧ P t 1 = some (t + 3) ∧ LY10 sh P (t + 3) ∧ P t 4 = some (t + 44) ∧ LY8 sh P (t + 44) ∧ P t 5 = some (t + 47) ∧ LY0 sh P (t + 47) ∧ P t 6 = some (t + 172) ∧ sh[t + 172]? = some (4, 3) ∧ (∀ k, k < 3 → P (t + 172) k = some (t + 224 + 3 * k) ∧ LY8 sh P (t + 224 + 3 * k)) ∧ P t 8 = some (t + 173) ∧ sh[t + 173]? = some (1, 30) ∧ P t 10 = some (t + 174) ∧ LY5 sh P (t + 174) ∧ P t 12 = some (t + 183) ∧ LY9 sh P (t + 183) ∧ P t 13 = some (t + 192) ∧ LY6 sh P (t + 192) ∧ P t 14 = some (t + 205) ∧ LY7 sh P (t + 205) ∧ P t 15 = some (t + 221) ∧ LY8 sh P (t + 221) ∧ P t 2 = some (tw) ∧ LY1 sh P (tw) ∧ P t 3 = some (dr) ∧ LY1 sh P (dr)
theorem LY11.s {sh : Sh_} {P : Px_} {t tw dr : Nat} (h : LY11 sh P t tw dr) : sh[t]? = some (0, 11) := h.1
theorem LY11.p_reader {sh : Sh_} {P : Px_} {t tw dr : Nat} (h : LY11 sh P t tw dr) : P t 0 = some (t + 1) := h.2.1
theorem LY11.o_reader {sh : Sh_} {P : Px_} {t tw dr : Nat} (h : LY11 sh P t tw dr) : LY4 sh P (t + 1) := h.2.2.1
theorem LY11.p_tape {sh : Sh_} {P : Px_} {t tw dr : Nat} (h : LY11 sh P t tw dr) : P t 1 = some (t + 3) := h.2.2.2.1
theorem LY11.o_tape {sh : Sh_} {P : Px_} {t tw dr : Nat} (h : LY11 sh P t tw dr) : LY10 sh P (t + 3) := h.2.2.2.2.1
theorem LY11.p_now {sh : Sh_} {P : Px_} {t tw dr : Nat} (h : LY11 sh P t tw dr) : P t 4 = some (t + 44) := h.2.2.2.2.2.1
theorem LY11.o_now {sh : Sh_} {P : Px_} {t tw dr : Nat} (h : LY11 sh P t tw dr) : LY8 sh P (t + 44) := h.2.2.2.2.2.2.1
theorem LY11.p_acts {sh : Sh_} {P : Px_} {t tw dr : Nat} (h : LY11 sh P t tw dr) : P t 5 = some (t + 47) := h.2.2.2.2.2.2.2.1
theorem LY11.o_acts {sh : Sh_} {P : Px_} {t tw dr : Nat} (h : LY11 sh P t tw dr) : LY0 sh P (t + 47) := h.2.2.2.2.2.2.2.2.1
theorem LY11.p_boxes {sh : Sh_} {P : Px_} {t tw dr : Nat} (h : LY11 sh P t tw dr) : P t 6 = some (t + 172) := h.2.2.2.2.2.2.2.2.2.1
theorem LY11.s_boxes {sh : Sh_} {P : Px_} {t tw dr : Nat} (h : LY11 sh P t tw dr) : sh[t + 172]? = some (4, 3) := h.2.2.2.2.2.2.2.2.2.2.1
theorem LY11.e_boxes {sh : Sh_} {P : Px_} {t tw dr : Nat} (h : LY11 sh P t tw dr) : (∀ k, k < 3 → P (t + 172) k = some (t + 224 + 3 * k) ∧ LY8 sh P (t + 224 + 3 * k)) := h.2.2.2.2.2.2.2.2.2.2.2.1
theorem LY11.p_laid {sh : Sh_} {P : Px_} {t tw dr : Nat} (h : LY11 sh P t tw dr) : P t 8 = some (t + 173) := h.2.2.2.2.2.2.2.2.2.2.2.2.1
theorem LY11.s_laid {sh : Sh_} {P : Px_} {t tw dr : Nat} (h : LY11 sh P t tw dr) : sh[t + 173]? = some (1, 30) := h.2.2.2.2.2.2.2.2.2.2.2.2.2.1
theorem LY11.p_reports {sh : Sh_} {P : Px_} {t tw dr : Nat} (h : LY11 sh P t tw dr) : P t 10 = some (t + 174) := h.2.2.2.2.2.2.2.2.2.2.2.2.2.2.1
theorem LY11.o_reports {sh : Sh_} {P : Px_} {t tw dr : Nat} (h : LY11 sh P t tw dr) : LY5 sh P (t + 174) := h.2.2.2.2.2.2.2.2.2.2.2.2.2.2.2.1
theorem LY11.p_list {sh : Sh_} {P : Px_} {t tw dr : Nat} (h : LY11 sh P t tw dr) : P t 12 = some (t + 183) := h.2.2.2.2.2.2.2.2.2.2.2.2.2.2.2.2.1
theorem LY11.o_list {sh : Sh_} {P : Px_} {t tw dr : Nat} (h : LY11 sh P t tw dr) : LY9 sh P (t + 183) := h.2.2.2.2.2.2.2.2.2.2.2.2.2.2.2.2.2.1
theorem LY11.p_rounds {sh : Sh_} {P : Px_} {t tw dr : Nat} (h : LY11 sh P t tw dr) : P t 13 = some (t + 192) := h.2.2.2.2.2.2.2.2.2.2.2.2.2.2.2.2.2.2.1
theorem LY11.o_rounds {sh : Sh_} {P : Px_} {t tw dr : Nat} (h : LY11 sh P t tw dr) : LY6 sh P (t + 192) := h.2.2.2.2.2.2.2.2.2.2.2.2.2.2.2.2.2.2.2.1
theorem LY11.p_search {sh : Sh_} {P : Px_} {t tw dr : Nat} (h : LY11 sh P t tw dr) : P t 14 = some (t + 205) := h.2.2.2.2.2.2.2.2.2.2.2.2.2.2.2.2.2.2.2.2.1
theorem LY11.o_search {sh : Sh_} {P : Px_} {t tw dr : Nat} (h : LY11 sh P t tw dr) : LY7 sh P (t + 205) := h.2.2.2.2.2.2.2.2.2.2.2.2.2.2.2.2.2.2.2.2.2.1
theorem LY11.p_trial {sh : Sh_} {P : Px_} {t tw dr : Nat} (h : LY11 sh P t tw dr) : P t 15 = some (t + 221) := h.2.2.2.2.2.2.2.2.2.2.2.2.2.2.2.2.2.2.2.2.2.2.1
theorem LY11.o_trial {sh : Sh_} {P : Px_} {t tw dr : Nat} (h : LY11 sh P t tw dr) : LY8 sh P (t + 221) := h.2.2.2.2.2.2.2.2.2.2.2.2.2.2.2.2.2.2.2.2.2.2.2.1
theorem LY11.p_town {sh : Sh_} {P : Px_} {t tw dr : Nat} (h : LY11 sh P t tw dr) : P t 2 = some (tw) := h.2.2.2.2.2.2.2.2.2.2.2.2.2.2.2.2.2.2.2.2.2.2.2.2.1
theorem LY11.o_town {sh : Sh_} {P : Px_} {t tw dr : Nat} (h : LY11 sh P t tw dr) : LY1 sh P (tw) := h.2.2.2.2.2.2.2.2.2.2.2.2.2.2.2.2.2.2.2.2.2.2.2.2.2.1
theorem LY11.p_draft {sh : Sh_} {P : Px_} {t tw dr : Nat} (h : LY11 sh P t tw dr) : P t 3 = some (dr) := h.2.2.2.2.2.2.2.2.2.2.2.2.2.2.2.2.2.2.2.2.2.2.2.2.2.2.1
theorem LY11.o_draft {sh : Sh_} {P : Px_} {t tw dr : Nat} (h : LY11 sh P t tw dr) : LY1 sh P (dr) := h.2.2.2.2.2.2.2.2.2.2.2.2.2.2.2.2.2.2.2.2.2.2.2.2.2.2.2
def LY12 (sh : Sh_) (P : Px_) (t : Nat) : Prop := sh[t]? = some (0, 12) ∧ P t 0 = some (t + 1) ∧ sh[t + 1]? = some (1, 1700) ∧ P t 10 = some (t + 2) ∧ sh[t + 2]? = some (2, 32) ∧ P t 11 = some (t + 3) ∧ sh[t + 3]? = some (1, 9) ∧ P t 13 = some (t + 4) ∧ sh[t + 4]? = some (1, 320) ∧ P t 14 = some (t + 5) ∧ sh[t + 5]? = some (1, 320) ∧ P t 15 = some (t + 6) ∧ sh[t + 6]? = some (1, 320) ∧ P t 16 = some (t + 7) ∧ sh[t + 7]? = some (1, 320) ∧ P t 17 = some (t + 8) ∧ sh[t + 8]? = some (1, 160) ∧ P t 18 = some (t + 9) ∧ sh[t + 9]? = some (1, 64) ∧ P t 26 = some (t + 10) ∧ sh[t + 10]? = some (1, 7) ∧ P t 27 = some (t + 11) ∧ sh[t + 11]? = some (1, 10) ∧ P t 28 = some (t + 12) ∧ sh[t + 12]? = some (1, 10) ∧ P t 29 = some (t + 13) ∧ sh[t + 13]? = some (1, 10) ∧ P t 30 = some (t + 14) ∧ sh[t + 14]? = some (1, 10) ∧ P t 31 = some (t + 15) ∧ sh[t + 15]? = some (1, 5) ∧ P t 32 = some (t + 16) ∧ sh[t + 16]? = some (1, 5) ∧ P t 33 = some (t + 17) ∧ sh[t + 17]? = some (1, 4) ∧ P t 34 = some (t + 18) ∧ sh[t + 18]? = some (1, 4) ∧ P t 35 = some (t + 19) ∧ sh[t + 19]? = some (1, 90) ∧ P t 36 = some (t + 20) ∧ sh[t + 20]? = some (1, 10) ∧ P t 37 = some (t + 21) ∧ sh[t + 21]? = some (1, 10) ∧ P t 38 = some (t + 22) ∧ sh[t + 22]? = some (1, 10) ∧ P t 39 = some (t + 23) ∧ sh[t + 23]? = some (1, 10) ∧ P t 40 = some (t + 24) ∧ sh[t + 24]? = some (1, 5) ∧ P t 41 = some (t + 25) ∧ sh[t + 25]? = some (1, 5) ∧ P t 42 = some (t + 26) ∧ sh[t + 26]? = some (1, 4) ∧ P t 43 = some (t + 27) ∧ sh[t + 27]? = some (1, 4) ∧ P t 44 = some (t + 28) ∧ sh[t + 28]? = some (1, 90) ∧ P t 60 = some (t + 29) ∧ sh[t + 29]? = some (1, 20) ∧ P t 61 = some (t + 30) ∧ sh[t + 30]? = some (1, 10) ∧ P t 67 = some (t + 31) ∧ sh[t + 31]? = some (1, 800) ∧ P t 70 = some (t + 32) ∧ sh[t + 32]? = some (1, 32) ∧ P t 72 = some (t + 33) ∧ sh[t + 33]? = some (1, 20020) ∧ P t 73 = some (t + 34) ∧ sh[t + 34]? = some (1, 2002) ∧ P t 74 = some (t + 35) ∧ sh[t + 35]? = some (1, 2002) ∧ P t 75 = some (t + 36) ∧ sh[t + 36]? = some (1, 10) ∧ P t 79 = some (t + 37) ∧ sh[t + 37]? = some (1, 30) ∧ P t 80 = some (t + 38) ∧ sh[t + 38]? = some (1, 30) ∧ P t 81 = some (t + 39) ∧ sh[t + 39]? = some (1, 30) ∧ P t 82 = some (t + 40) ∧ sh[t + 40]? = some (1, 30) ∧ P t 83 = some (t + 41) ∧ sh[t + 41]? = some (1, 30) ∧ P t 84 = some (t + 42) ∧ sh[t + 42]? = some (1, 30) ∧ P t 85 = some (t + 43) ∧ sh[t + 43]? = some (3, 30) ∧ P t 88 = some (t + 44) ∧ sh[t + 44]? = some (3, 100) ∧ P t 89 = some (t + 45) ∧ sh[t + 45]? = some (3, 3) ∧ P t 90 = some (t + 46) ∧ sh[t + 46]? = some (1, 60)
theorem LY12.s {sh : Sh_} {P : Px_} {t : Nat} (h : LY12 sh P t) : sh[t]? = some (0, 12) := h.1
theorem LY12.p_tape {sh : Sh_} {P : Px_} {t : Nat} (h : LY12 sh P t) : P t 0 = some (t + 1) := h.2.1
theorem LY12.s_tape {sh : Sh_} {P : Px_} {t : Nat} (h : LY12 sh P t) : sh[t + 1]? = some (1, 1700) := h.2.2.1
theorem LY12.p_nName {sh : Sh_} {P : Px_} {t : Nat} (h : LY12 sh P t) : P t 10 = some (t + 2) := h.2.2.2.1
theorem LY12.s_nName {sh : Sh_} {P : Px_} {t : Nat} (h : LY12 sh P t) : sh[t + 2]? = some (2, 32) := h.2.2.2.2.1
theorem LY12.p_nHolder {sh : Sh_} {P : Px_} {t : Nat} (h : LY12 sh P t) : P t 11 = some (t + 3) := h.2.2.2.2.2.1
theorem LY12.s_nHolder {sh : Sh_} {P : Px_} {t : Nat} (h : LY12 sh P t) : sh[t + 3]? = some (1, 9) := h.2.2.2.2.2.2.1
theorem LY12.p_nStep {sh : Sh_} {P : Px_} {t : Nat} (h : LY12 sh P t) : P t 13 = some (t + 4) := h.2.2.2.2.2.2.2.1
theorem LY12.s_nStep {sh : Sh_} {P : Px_} {t : Nat} (h : LY12 sh P t) : sh[t + 4]? = some (1, 320) := h.2.2.2.2.2.2.2.2.1
theorem LY12.p_nArg {sh : Sh_} {P : Px_} {t : Nat} (h : LY12 sh P t) : P t 14 = some (t + 5) := h.2.2.2.2.2.2.2.2.2.1
theorem LY12.s_nArg {sh : Sh_} {P : Px_} {t : Nat} (h : LY12 sh P t) : sh[t + 5]? = some (1, 320) := h.2.2.2.2.2.2.2.2.2.2.1
theorem LY12.p_step {sh : Sh_} {P : Px_} {t : Nat} (h : LY12 sh P t) : P t 15 = some (t + 6) := h.2.2.2.2.2.2.2.2.2.2.2.1
theorem LY12.s_step {sh : Sh_} {P : Px_} {t : Nat} (h : LY12 sh P t) : sh[t + 6]? = some (1, 320) := h.2.2.2.2.2.2.2.2.2.2.2.2.1
theorem LY12.p_arg {sh : Sh_} {P : Px_} {t : Nat} (h : LY12 sh P t) : P t 16 = some (t + 7) := h.2.2.2.2.2.2.2.2.2.2.2.2.2.1
theorem LY12.s_arg {sh : Sh_} {P : Px_} {t : Nat} (h : LY12 sh P t) : sh[t + 7]? = some (1, 320) := h.2.2.2.2.2.2.2.2.2.2.2.2.2.2.1
theorem LY12.p_open {sh : Sh_} {P : Px_} {t : Nat} (h : LY12 sh P t) : P t 17 = some (t + 8) := h.2.2.2.2.2.2.2.2.2.2.2.2.2.2.2.1
theorem LY12.s_open {sh : Sh_} {P : Px_} {t : Nat} (h : LY12 sh P t) : sh[t + 8]? = some (1, 160) := h.2.2.2.2.2.2.2.2.2.2.2.2.2.2.2.2.1
theorem LY12.p_values {sh : Sh_} {P : Px_} {t : Nat} (h : LY12 sh P t) : P t 18 = some (t + 9) := h.2.2.2.2.2.2.2.2.2.2.2.2.2.2.2.2.2.1
theorem LY12.s_values {sh : Sh_} {P : Px_} {t : Nat} (h : LY12 sh P t) : sh[t + 9]? = some (1, 64) := h.2.2.2.2.2.2.2.2.2.2.2.2.2.2.2.2.2.2.1
theorem LY12.p_asks {sh : Sh_} {P : Px_} {t : Nat} (h : LY12 sh P t) : P t 26 = some (t + 10) := h.2.2.2.2.2.2.2.2.2.2.2.2.2.2.2.2.2.2.2.1
theorem LY12.s_asks {sh : Sh_} {P : Px_} {t : Nat} (h : LY12 sh P t) : sh[t + 10]? = some (1, 7) := h.2.2.2.2.2.2.2.2.2.2.2.2.2.2.2.2.2.2.2.2.1
theorem LY12.p_nKindOf {sh : Sh_} {P : Px_} {t : Nat} (h : LY12 sh P t) : P t 27 = some (t + 11) := h.2.2.2.2.2.2.2.2.2.2.2.2.2.2.2.2.2.2.2.2.2.1
theorem LY12.s_nKindOf {sh : Sh_} {P : Px_} {t : Nat} (h : LY12 sh P t) : sh[t + 11]? = some (1, 10) := h.2.2.2.2.2.2.2.2.2.2.2.2.2.2.2.2.2.2.2.2.2.2.1
theorem LY12.p_nWeight {sh : Sh_} {P : Px_} {t : Nat} (h : LY12 sh P t) : P t 28 = some (t + 12) := h.2.2.2.2.2.2.2.2.2.2.2.2.2.2.2.2.2.2.2.2.2.2.2.1
theorem LY12.s_nWeight {sh : Sh_} {P : Px_} {t : Nat} (h : LY12 sh P t) : sh[t + 12]? = some (1, 10) := h.2.2.2.2.2.2.2.2.2.2.2.2.2.2.2.2.2.2.2.2.2.2.2.2.1
theorem LY12.p_nWorth {sh : Sh_} {P : Px_} {t : Nat} (h : LY12 sh P t) : P t 29 = some (t + 13) := h.2.2.2.2.2.2.2.2.2.2.2.2.2.2.2.2.2.2.2.2.2.2.2.2.2.1
theorem LY12.s_nWorth {sh : Sh_} {P : Px_} {t : Nat} (h : LY12 sh P t) : sh[t + 13]? = some (1, 10) := h.2.2.2.2.2.2.2.2.2.2.2.2.2.2.2.2.2.2.2.2.2.2.2.2.2.2.1
theorem LY12.p_nAt {sh : Sh_} {P : Px_} {t : Nat} (h : LY12 sh P t) : P t 30 = some (t + 14) := h.2.2.2.2.2.2.2.2.2.2.2.2.2.2.2.2.2.2.2.2.2.2.2.2.2.2.2.1
theorem LY12.s_nAt {sh : Sh_} {P : Px_} {t : Nat} (h : LY12 sh P t) : sh[t + 14]? = some (1, 10) := h.2.2.2.2.2.2.2.2.2.2.2.2.2.2.2.2.2.2.2.2.2.2.2.2.2.2.2.2.1
theorem LY12.p_nLock {sh : Sh_} {P : Px_} {t : Nat} (h : LY12 sh P t) : P t 31 = some (t + 15) := h.2.2.2.2.2.2.2.2.2.2.2.2.2.2.2.2.2.2.2.2.2.2.2.2.2.2.2.2.2.1
theorem LY12.s_nLock {sh : Sh_} {P : Px_} {t : Nat} (h : LY12 sh P t) : sh[t + 15]? = some (1, 5) := h.2.2.2.2.2.2.2.2.2.2.2.2.2.2.2.2.2.2.2.2.2.2.2.2.2.2.2.2.2.2.1
theorem LY12.p_nWatch {sh : Sh_} {P : Px_} {t : Nat} (h : LY12 sh P t) : P t 32 = some (t + 16) := h.2.2.2.2.2.2.2.2.2.2.2.2.2.2.2.2.2.2.2.2.2.2.2.2.2.2.2.2.2.2.2.1
theorem LY12.s_nWatch {sh : Sh_} {P : Px_} {t : Nat} (h : LY12 sh P t) : sh[t + 16]? = some (1, 5) := h.2.2.2.2.2.2.2.2.2.2.2.2.2.2.2.2.2.2.2.2.2.2.2.2.2.2.2.2.2.2.2.2.1
theorem LY12.p_nSack {sh : Sh_} {P : Px_} {t : Nat} (h : LY12 sh P t) : P t 33 = some (t + 17) := h.2.2.2.2.2.2.2.2.2.2.2.2.2.2.2.2.2.2.2.2.2.2.2.2.2.2.2.2.2.2.2.2.2.1
theorem LY12.s_nSack {sh : Sh_} {P : Px_} {t : Nat} (h : LY12 sh P t) : sh[t + 17]? = some (1, 4) := h.2.2.2.2.2.2.2.2.2.2.2.2.2.2.2.2.2.2.2.2.2.2.2.2.2.2.2.2.2.2.2.2.2.2.1
theorem LY12.p_nSkill {sh : Sh_} {P : Px_} {t : Nat} (h : LY12 sh P t) : P t 34 = some (t + 18) := h.2.2.2.2.2.2.2.2.2.2.2.2.2.2.2.2.2.2.2.2.2.2.2.2.2.2.2.2.2.2.2.2.2.2.2.1
theorem LY12.s_nSkill {sh : Sh_} {P : Px_} {t : Nat} (h : LY12 sh P t) : sh[t + 18]? = some (1, 4) := h.2.2.2.2.2.2.2.2.2.2.2.2.2.2.2.2.2.2.2.2.2.2.2.2.2.2.2.2.2.2.2.2.2.2.2.2.1
theorem LY12.p_nDear {sh : Sh_} {P : Px_} {t : Nat} (h : LY12 sh P t) : P t 35 = some (t + 19) := h.2.2.2.2.2.2.2.2.2.2.2.2.2.2.2.2.2.2.2.2.2.2.2.2.2.2.2.2.2.2.2.2.2.2.2.2.2.1
theorem LY12.s_nDear {sh : Sh_} {P : Px_} {t : Nat} (h : LY12 sh P t) : sh[t + 19]? = some (1, 90) := h.2.2.2.2.2.2.2.2.2.2.2.2.2.2.2.2.2.2.2.2.2.2.2.2.2.2.2.2.2.2.2.2.2.2.2.2.2.2.1
theorem LY12.p_kindOf {sh : Sh_} {P : Px_} {t : Nat} (h : LY12 sh P t) : P t 36 = some (t + 20) := h.2.2.2.2.2.2.2.2.2.2.2.2.2.2.2.2.2.2.2.2.2.2.2.2.2.2.2.2.2.2.2.2.2.2.2.2.2.2.2.1
theorem LY12.s_kindOf {sh : Sh_} {P : Px_} {t : Nat} (h : LY12 sh P t) : sh[t + 20]? = some (1, 10) := h.2.2.2.2.2.2.2.2.2.2.2.2.2.2.2.2.2.2.2.2.2.2.2.2.2.2.2.2.2.2.2.2.2.2.2.2.2.2.2.2.1
theorem LY12.p_weight {sh : Sh_} {P : Px_} {t : Nat} (h : LY12 sh P t) : P t 37 = some (t + 21) := h.2.2.2.2.2.2.2.2.2.2.2.2.2.2.2.2.2.2.2.2.2.2.2.2.2.2.2.2.2.2.2.2.2.2.2.2.2.2.2.2.2.1
theorem LY12.s_weight {sh : Sh_} {P : Px_} {t : Nat} (h : LY12 sh P t) : sh[t + 21]? = some (1, 10) := h.2.2.2.2.2.2.2.2.2.2.2.2.2.2.2.2.2.2.2.2.2.2.2.2.2.2.2.2.2.2.2.2.2.2.2.2.2.2.2.2.2.2.1
theorem LY12.p_worth {sh : Sh_} {P : Px_} {t : Nat} (h : LY12 sh P t) : P t 38 = some (t + 22) := h.2.2.2.2.2.2.2.2.2.2.2.2.2.2.2.2.2.2.2.2.2.2.2.2.2.2.2.2.2.2.2.2.2.2.2.2.2.2.2.2.2.2.2.1
theorem LY12.s_worth {sh : Sh_} {P : Px_} {t : Nat} (h : LY12 sh P t) : sh[t + 22]? = some (1, 10) := h.2.2.2.2.2.2.2.2.2.2.2.2.2.2.2.2.2.2.2.2.2.2.2.2.2.2.2.2.2.2.2.2.2.2.2.2.2.2.2.2.2.2.2.2.1
theorem LY12.p_atTold {sh : Sh_} {P : Px_} {t : Nat} (h : LY12 sh P t) : P t 39 = some (t + 23) := h.2.2.2.2.2.2.2.2.2.2.2.2.2.2.2.2.2.2.2.2.2.2.2.2.2.2.2.2.2.2.2.2.2.2.2.2.2.2.2.2.2.2.2.2.2.1
theorem LY12.s_atTold {sh : Sh_} {P : Px_} {t : Nat} (h : LY12 sh P t) : sh[t + 23]? = some (1, 10) := h.2.2.2.2.2.2.2.2.2.2.2.2.2.2.2.2.2.2.2.2.2.2.2.2.2.2.2.2.2.2.2.2.2.2.2.2.2.2.2.2.2.2.2.2.2.2.1
theorem LY12.p_lock {sh : Sh_} {P : Px_} {t : Nat} (h : LY12 sh P t) : P t 40 = some (t + 24) := h.2.2.2.2.2.2.2.2.2.2.2.2.2.2.2.2.2.2.2.2.2.2.2.2.2.2.2.2.2.2.2.2.2.2.2.2.2.2.2.2.2.2.2.2.2.2.2.1
theorem LY12.s_lock {sh : Sh_} {P : Px_} {t : Nat} (h : LY12 sh P t) : sh[t + 24]? = some (1, 5) := h.2.2.2.2.2.2.2.2.2.2.2.2.2.2.2.2.2.2.2.2.2.2.2.2.2.2.2.2.2.2.2.2.2.2.2.2.2.2.2.2.2.2.2.2.2.2.2.2.1
theorem LY12.p_watch {sh : Sh_} {P : Px_} {t : Nat} (h : LY12 sh P t) : P t 41 = some (t + 25) := h.2.2.2.2.2.2.2.2.2.2.2.2.2.2.2.2.2.2.2.2.2.2.2.2.2.2.2.2.2.2.2.2.2.2.2.2.2.2.2.2.2.2.2.2.2.2.2.2.2.1
theorem LY12.s_watch {sh : Sh_} {P : Px_} {t : Nat} (h : LY12 sh P t) : sh[t + 25]? = some (1, 5) := h.2.2.2.2.2.2.2.2.2.2.2.2.2.2.2.2.2.2.2.2.2.2.2.2.2.2.2.2.2.2.2.2.2.2.2.2.2.2.2.2.2.2.2.2.2.2.2.2.2.2.1
theorem LY12.p_sack {sh : Sh_} {P : Px_} {t : Nat} (h : LY12 sh P t) : P t 42 = some (t + 26) := h.2.2.2.2.2.2.2.2.2.2.2.2.2.2.2.2.2.2.2.2.2.2.2.2.2.2.2.2.2.2.2.2.2.2.2.2.2.2.2.2.2.2.2.2.2.2.2.2.2.2.2.1
theorem LY12.s_sack {sh : Sh_} {P : Px_} {t : Nat} (h : LY12 sh P t) : sh[t + 26]? = some (1, 4) := h.2.2.2.2.2.2.2.2.2.2.2.2.2.2.2.2.2.2.2.2.2.2.2.2.2.2.2.2.2.2.2.2.2.2.2.2.2.2.2.2.2.2.2.2.2.2.2.2.2.2.2.2.1
theorem LY12.p_skill {sh : Sh_} {P : Px_} {t : Nat} (h : LY12 sh P t) : P t 43 = some (t + 27) := h.2.2.2.2.2.2.2.2.2.2.2.2.2.2.2.2.2.2.2.2.2.2.2.2.2.2.2.2.2.2.2.2.2.2.2.2.2.2.2.2.2.2.2.2.2.2.2.2.2.2.2.2.2.1
theorem LY12.s_skill {sh : Sh_} {P : Px_} {t : Nat} (h : LY12 sh P t) : sh[t + 27]? = some (1, 4) := h.2.2.2.2.2.2.2.2.2.2.2.2.2.2.2.2.2.2.2.2.2.2.2.2.2.2.2.2.2.2.2.2.2.2.2.2.2.2.2.2.2.2.2.2.2.2.2.2.2.2.2.2.2.2.1
theorem LY12.p_dear {sh : Sh_} {P : Px_} {t : Nat} (h : LY12 sh P t) : P t 44 = some (t + 28) := h.2.2.2.2.2.2.2.2.2.2.2.2.2.2.2.2.2.2.2.2.2.2.2.2.2.2.2.2.2.2.2.2.2.2.2.2.2.2.2.2.2.2.2.2.2.2.2.2.2.2.2.2.2.2.2.1
theorem LY12.s_dear {sh : Sh_} {P : Px_} {t : Nat} (h : LY12 sh P t) : sh[t + 28]? = some (1, 90) := h.2.2.2.2.2.2.2.2.2.2.2.2.2.2.2.2.2.2.2.2.2.2.2.2.2.2.2.2.2.2.2.2.2.2.2.2.2.2.2.2.2.2.2.2.2.2.2.2.2.2.2.2.2.2.2.2.1
theorem LY12.p_now {sh : Sh_} {P : Px_} {t : Nat} (h : LY12 sh P t) : P t 60 = some (t + 29) := h.2.2.2.2.2.2.2.2.2.2.2.2.2.2.2.2.2.2.2.2.2.2.2.2.2.2.2.2.2.2.2.2.2.2.2.2.2.2.2.2.2.2.2.2.2.2.2.2.2.2.2.2.2.2.2.2.2.1
theorem LY12.s_now {sh : Sh_} {P : Px_} {t : Nat} (h : LY12 sh P t) : sh[t + 29]? = some (1, 20) := h.2.2.2.2.2.2.2.2.2.2.2.2.2.2.2.2.2.2.2.2.2.2.2.2.2.2.2.2.2.2.2.2.2.2.2.2.2.2.2.2.2.2.2.2.2.2.2.2.2.2.2.2.2.2.2.2.2.2.1
theorem LY12.p_w {sh : Sh_} {P : Px_} {t : Nat} (h : LY12 sh P t) : P t 61 = some (t + 30) := h.2.2.2.2.2.2.2.2.2.2.2.2.2.2.2.2.2.2.2.2.2.2.2.2.2.2.2.2.2.2.2.2.2.2.2.2.2.2.2.2.2.2.2.2.2.2.2.2.2.2.2.2.2.2.2.2.2.2.2.1
theorem LY12.s_w {sh : Sh_} {P : Px_} {t : Nat} (h : LY12 sh P t) : sh[t + 30]? = some (1, 10) := h.2.2.2.2.2.2.2.2.2.2.2.2.2.2.2.2.2.2.2.2.2.2.2.2.2.2.2.2.2.2.2.2.2.2.2.2.2.2.2.2.2.2.2.2.2.2.2.2.2.2.2.2.2.2.2.2.2.2.2.2.1
theorem LY12.p_were {sh : Sh_} {P : Px_} {t : Nat} (h : LY12 sh P t) : P t 67 = some (t + 31) := h.2.2.2.2.2.2.2.2.2.2.2.2.2.2.2.2.2.2.2.2.2.2.2.2.2.2.2.2.2.2.2.2.2.2.2.2.2.2.2.2.2.2.2.2.2.2.2.2.2.2.2.2.2.2.2.2.2.2.2.2.2.1
theorem LY12.s_were {sh : Sh_} {P : Px_} {t : Nat} (h : LY12 sh P t) : sh[t + 31]? = some (1, 800) := h.2.2.2.2.2.2.2.2.2.2.2.2.2.2.2.2.2.2.2.2.2.2.2.2.2.2.2.2.2.2.2.2.2.2.2.2.2.2.2.2.2.2.2.2.2.2.2.2.2.2.2.2.2.2.2.2.2.2.2.2.2.2.1
theorem LY12.p_lies {sh : Sh_} {P : Px_} {t : Nat} (h : LY12 sh P t) : P t 70 = some (t + 32) := h.2.2.2.2.2.2.2.2.2.2.2.2.2.2.2.2.2.2.2.2.2.2.2.2.2.2.2.2.2.2.2.2.2.2.2.2.2.2.2.2.2.2.2.2.2.2.2.2.2.2.2.2.2.2.2.2.2.2.2.2.2.2.2.1
theorem LY12.s_lies {sh : Sh_} {P : Px_} {t : Nat} (h : LY12 sh P t) : sh[t + 32]? = some (1, 32) := h.2.2.2.2.2.2.2.2.2.2.2.2.2.2.2.2.2.2.2.2.2.2.2.2.2.2.2.2.2.2.2.2.2.2.2.2.2.2.2.2.2.2.2.2.2.2.2.2.2.2.2.2.2.2.2.2.2.2.2.2.2.2.2.2.1
theorem LY12.p_come {sh : Sh_} {P : Px_} {t : Nat} (h : LY12 sh P t) : P t 72 = some (t + 33) := h.2.2.2.2.2.2.2.2.2.2.2.2.2.2.2.2.2.2.2.2.2.2.2.2.2.2.2.2.2.2.2.2.2.2.2.2.2.2.2.2.2.2.2.2.2.2.2.2.2.2.2.2.2.2.2.2.2.2.2.2.2.2.2.2.2.1
theorem LY12.s_come {sh : Sh_} {P : Px_} {t : Nat} (h : LY12 sh P t) : sh[t + 33]? = some (1, 20020) := h.2.2.2.2.2.2.2.2.2.2.2.2.2.2.2.2.2.2.2.2.2.2.2.2.2.2.2.2.2.2.2.2.2.2.2.2.2.2.2.2.2.2.2.2.2.2.2.2.2.2.2.2.2.2.2.2.2.2.2.2.2.2.2.2.2.2.1
theorem LY12.p_from {sh : Sh_} {P : Px_} {t : Nat} (h : LY12 sh P t) : P t 73 = some (t + 34) := h.2.2.2.2.2.2.2.2.2.2.2.2.2.2.2.2.2.2.2.2.2.2.2.2.2.2.2.2.2.2.2.2.2.2.2.2.2.2.2.2.2.2.2.2.2.2.2.2.2.2.2.2.2.2.2.2.2.2.2.2.2.2.2.2.2.2.2.1
theorem LY12.s_from {sh : Sh_} {P : Px_} {t : Nat} (h : LY12 sh P t) : sh[t + 34]? = some (1, 2002) := h.2.2.2.2.2.2.2.2.2.2.2.2.2.2.2.2.2.2.2.2.2.2.2.2.2.2.2.2.2.2.2.2.2.2.2.2.2.2.2.2.2.2.2.2.2.2.2.2.2.2.2.2.2.2.2.2.2.2.2.2.2.2.2.2.2.2.2.2.1
theorem LY12.p_by {sh : Sh_} {P : Px_} {t : Nat} (h : LY12 sh P t) : P t 74 = some (t + 35) := h.2.2.2.2.2.2.2.2.2.2.2.2.2.2.2.2.2.2.2.2.2.2.2.2.2.2.2.2.2.2.2.2.2.2.2.2.2.2.2.2.2.2.2.2.2.2.2.2.2.2.2.2.2.2.2.2.2.2.2.2.2.2.2.2.2.2.2.2.2.1
theorem LY12.s_by {sh : Sh_} {P : Px_} {t : Nat} (h : LY12 sh P t) : sh[t + 35]? = some (1, 2002) := h.2.2.2.2.2.2.2.2.2.2.2.2.2.2.2.2.2.2.2.2.2.2.2.2.2.2.2.2.2.2.2.2.2.2.2.2.2.2.2.2.2.2.2.2.2.2.2.2.2.2.2.2.2.2.2.2.2.2.2.2.2.2.2.2.2.2.2.2.2.2.1
theorem LY12.p_way {sh : Sh_} {P : Px_} {t : Nat} (h : LY12 sh P t) : P t 75 = some (t + 36) := h.2.2.2.2.2.2.2.2.2.2.2.2.2.2.2.2.2.2.2.2.2.2.2.2.2.2.2.2.2.2.2.2.2.2.2.2.2.2.2.2.2.2.2.2.2.2.2.2.2.2.2.2.2.2.2.2.2.2.2.2.2.2.2.2.2.2.2.2.2.2.2.1
theorem LY12.s_way {sh : Sh_} {P : Px_} {t : Nat} (h : LY12 sh P t) : sh[t + 36]? = some (1, 10) := h.2.2.2.2.2.2.2.2.2.2.2.2.2.2.2.2.2.2.2.2.2.2.2.2.2.2.2.2.2.2.2.2.2.2.2.2.2.2.2.2.2.2.2.2.2.2.2.2.2.2.2.2.2.2.2.2.2.2.2.2.2.2.2.2.2.2.2.2.2.2.2.2.1
theorem LY12.p_repHouse {sh : Sh_} {P : Px_} {t : Nat} (h : LY12 sh P t) : P t 79 = some (t + 37) := h.2.2.2.2.2.2.2.2.2.2.2.2.2.2.2.2.2.2.2.2.2.2.2.2.2.2.2.2.2.2.2.2.2.2.2.2.2.2.2.2.2.2.2.2.2.2.2.2.2.2.2.2.2.2.2.2.2.2.2.2.2.2.2.2.2.2.2.2.2.2.2.2.2.1
theorem LY12.s_repHouse {sh : Sh_} {P : Px_} {t : Nat} (h : LY12 sh P t) : sh[t + 37]? = some (1, 30) := h.2.2.2.2.2.2.2.2.2.2.2.2.2.2.2.2.2.2.2.2.2.2.2.2.2.2.2.2.2.2.2.2.2.2.2.2.2.2.2.2.2.2.2.2.2.2.2.2.2.2.2.2.2.2.2.2.2.2.2.2.2.2.2.2.2.2.2.2.2.2.2.2.2.2.1
theorem LY12.p_repTaken {sh : Sh_} {P : Px_} {t : Nat} (h : LY12 sh P t) : P t 80 = some (t + 38) := h.2.2.2.2.2.2.2.2.2.2.2.2.2.2.2.2.2.2.2.2.2.2.2.2.2.2.2.2.2.2.2.2.2.2.2.2.2.2.2.2.2.2.2.2.2.2.2.2.2.2.2.2.2.2.2.2.2.2.2.2.2.2.2.2.2.2.2.2.2.2.2.2.2.2.2.1
theorem LY12.s_repTaken {sh : Sh_} {P : Px_} {t : Nat} (h : LY12 sh P t) : sh[t + 38]? = some (1, 30) := h.2.2.2.2.2.2.2.2.2.2.2.2.2.2.2.2.2.2.2.2.2.2.2.2.2.2.2.2.2.2.2.2.2.2.2.2.2.2.2.2.2.2.2.2.2.2.2.2.2.2.2.2.2.2.2.2.2.2.2.2.2.2.2.2.2.2.2.2.2.2.2.2.2.2.2.2.1
theorem LY12.p_repLeft {sh : Sh_} {P : Px_} {t : Nat} (h : LY12 sh P t) : P t 81 = some (t + 39) := h.2.2.2.2.2.2.2.2.2.2.2.2.2.2.2.2.2.2.2.2.2.2.2.2.2.2.2.2.2.2.2.2.2.2.2.2.2.2.2.2.2.2.2.2.2.2.2.2.2.2.2.2.2.2.2.2.2.2.2.2.2.2.2.2.2.2.2.2.2.2.2.2.2.2.2.2.2.1
theorem LY12.s_repLeft {sh : Sh_} {P : Px_} {t : Nat} (h : LY12 sh P t) : sh[t + 39]? = some (1, 30) := h.2.2.2.2.2.2.2.2.2.2.2.2.2.2.2.2.2.2.2.2.2.2.2.2.2.2.2.2.2.2.2.2.2.2.2.2.2.2.2.2.2.2.2.2.2.2.2.2.2.2.2.2.2.2.2.2.2.2.2.2.2.2.2.2.2.2.2.2.2.2.2.2.2.2.2.2.2.2.1
theorem LY12.p_repHour {sh : Sh_} {P : Px_} {t : Nat} (h : LY12 sh P t) : P t 82 = some (t + 40) := h.2.2.2.2.2.2.2.2.2.2.2.2.2.2.2.2.2.2.2.2.2.2.2.2.2.2.2.2.2.2.2.2.2.2.2.2.2.2.2.2.2.2.2.2.2.2.2.2.2.2.2.2.2.2.2.2.2.2.2.2.2.2.2.2.2.2.2.2.2.2.2.2.2.2.2.2.2.2.2.1
theorem LY12.s_repHour {sh : Sh_} {P : Px_} {t : Nat} (h : LY12 sh P t) : sh[t + 40]? = some (1, 30) := h.2.2.2.2.2.2.2.2.2.2.2.2.2.2.2.2.2.2.2.2.2.2.2.2.2.2.2.2.2.2.2.2.2.2.2.2.2.2.2.2.2.2.2.2.2.2.2.2.2.2.2.2.2.2.2.2.2.2.2.2.2.2.2.2.2.2.2.2.2.2.2.2.2.2.2.2.2.2.2.2.1
theorem LY12.p_repTold {sh : Sh_} {P : Px_} {t : Nat} (h : LY12 sh P t) : P t 83 = some (t + 41) := h.2.2.2.2.2.2.2.2.2.2.2.2.2.2.2.2.2.2.2.2.2.2.2.2.2.2.2.2.2.2.2.2.2.2.2.2.2.2.2.2.2.2.2.2.2.2.2.2.2.2.2.2.2.2.2.2.2.2.2.2.2.2.2.2.2.2.2.2.2.2.2.2.2.2.2.2.2.2.2.2.2.1
theorem LY12.s_repTold {sh : Sh_} {P : Px_} {t : Nat} (h : LY12 sh P t) : sh[t + 41]? = some (1, 30) := h.2.2.2.2.2.2.2.2.2.2.2.2.2.2.2.2.2.2.2.2.2.2.2.2.2.2.2.2.2.2.2.2.2.2.2.2.2.2.2.2.2.2.2.2.2.2.2.2.2.2.2.2.2.2.2.2.2.2.2.2.2.2.2.2.2.2.2.2.2.2.2.2.2.2.2.2.2.2.2.2.2.2.1
theorem LY12.p_repUntold {sh : Sh_} {P : Px_} {t : Nat} (h : LY12 sh P t) : P t 84 = some (t + 42) := h.2.2.2.2.2.2.2.2.2.2.2.2.2.2.2.2.2.2.2.2.2.2.2.2.2.2.2.2.2.2.2.2.2.2.2.2.2.2.2.2.2.2.2.2.2.2.2.2.2.2.2.2.2.2.2.2.2.2.2.2.2.2.2.2.2.2.2.2.2.2.2.2.2.2.2.2.2.2.2.2.2.2.2.1
theorem LY12.s_repUntold {sh : Sh_} {P : Px_} {t : Nat} (h : LY12 sh P t) : sh[t + 42]? = some (1, 30) := h.2.2.2.2.2.2.2.2.2.2.2.2.2.2.2.2.2.2.2.2.2.2.2.2.2.2.2.2.2.2.2.2.2.2.2.2.2.2.2.2.2.2.2.2.2.2.2.2.2.2.2.2.2.2.2.2.2.2.2.2.2.2.2.2.2.2.2.2.2.2.2.2.2.2.2.2.2.2.2.2.2.2.2.2.1
theorem LY12.p_repLawful {sh : Sh_} {P : Px_} {t : Nat} (h : LY12 sh P t) : P t 85 = some (t + 43) := h.2.2.2.2.2.2.2.2.2.2.2.2.2.2.2.2.2.2.2.2.2.2.2.2.2.2.2.2.2.2.2.2.2.2.2.2.2.2.2.2.2.2.2.2.2.2.2.2.2.2.2.2.2.2.2.2.2.2.2.2.2.2.2.2.2.2.2.2.2.2.2.2.2.2.2.2.2.2.2.2.2.2.2.2.2.1
theorem LY12.s_repLawful {sh : Sh_} {P : Px_} {t : Nat} (h : LY12 sh P t) : sh[t + 43]? = some (3, 30) := h.2.2.2.2.2.2.2.2.2.2.2.2.2.2.2.2.2.2.2.2.2.2.2.2.2.2.2.2.2.2.2.2.2.2.2.2.2.2.2.2.2.2.2.2.2.2.2.2.2.2.2.2.2.2.2.2.2.2.2.2.2.2.2.2.2.2.2.2.2.2.2.2.2.2.2.2.2.2.2.2.2.2.2.2.2.2.1
theorem LY12.p_spans {sh : Sh_} {P : Px_} {t : Nat} (h : LY12 sh P t) : P t 88 = some (t + 44) := h.2.2.2.2.2.2.2.2.2.2.2.2.2.2.2.2.2.2.2.2.2.2.2.2.2.2.2.2.2.2.2.2.2.2.2.2.2.2.2.2.2.2.2.2.2.2.2.2.2.2.2.2.2.2.2.2.2.2.2.2.2.2.2.2.2.2.2.2.2.2.2.2.2.2.2.2.2.2.2.2.2.2.2.2.2.2.2.1
theorem LY12.s_spans {sh : Sh_} {P : Px_} {t : Nat} (h : LY12 sh P t) : sh[t + 44]? = some (3, 100) := h.2.2.2.2.2.2.2.2.2.2.2.2.2.2.2.2.2.2.2.2.2.2.2.2.2.2.2.2.2.2.2.2.2.2.2.2.2.2.2.2.2.2.2.2.2.2.2.2.2.2.2.2.2.2.2.2.2.2.2.2.2.2.2.2.2.2.2.2.2.2.2.2.2.2.2.2.2.2.2.2.2.2.2.2.2.2.2.2.1
theorem LY12.p_hasBox {sh : Sh_} {P : Px_} {t : Nat} (h : LY12 sh P t) : P t 89 = some (t + 45) := h.2.2.2.2.2.2.2.2.2.2.2.2.2.2.2.2.2.2.2.2.2.2.2.2.2.2.2.2.2.2.2.2.2.2.2.2.2.2.2.2.2.2.2.2.2.2.2.2.2.2.2.2.2.2.2.2.2.2.2.2.2.2.2.2.2.2.2.2.2.2.2.2.2.2.2.2.2.2.2.2.2.2.2.2.2.2.2.2.2.1
theorem LY12.s_hasBox {sh : Sh_} {P : Px_} {t : Nat} (h : LY12 sh P t) : sh[t + 45]? = some (3, 3) := h.2.2.2.2.2.2.2.2.2.2.2.2.2.2.2.2.2.2.2.2.2.2.2.2.2.2.2.2.2.2.2.2.2.2.2.2.2.2.2.2.2.2.2.2.2.2.2.2.2.2.2.2.2.2.2.2.2.2.2.2.2.2.2.2.2.2.2.2.2.2.2.2.2.2.2.2.2.2.2.2.2.2.2.2.2.2.2.2.2.2.1
theorem LY12.p_boxes {sh : Sh_} {P : Px_} {t : Nat} (h : LY12 sh P t) : P t 90 = some (t + 46) := h.2.2.2.2.2.2.2.2.2.2.2.2.2.2.2.2.2.2.2.2.2.2.2.2.2.2.2.2.2.2.2.2.2.2.2.2.2.2.2.2.2.2.2.2.2.2.2.2.2.2.2.2.2.2.2.2.2.2.2.2.2.2.2.2.2.2.2.2.2.2.2.2.2.2.2.2.2.2.2.2.2.2.2.2.2.2.2.2.2.2.2.1
theorem LY12.s_boxes {sh : Sh_} {P : Px_} {t : Nat} (h : LY12 sh P t) : sh[t + 46]? = some (1, 60) := h.2.2.2.2.2.2.2.2.2.2.2.2.2.2.2.2.2.2.2.2.2.2.2.2.2.2.2.2.2.2.2.2.2.2.2.2.2.2.2.2.2.2.2.2.2.2.2.2.2.2.2.2.2.2.2.2.2.2.2.2.2.2.2.2.2.2.2.2.2.2.2.2.2.2.2.2.2.2.2.2.2.2.2.2.2.2.2.2.2.2.2.2
theorem bin_lt {i : Int32} {n : Nat} (h : bin i n = true) : i.toNatClampNeg < n := by
  unfold bin at h
  simp only [Bool.and_eq_true, decide_eq_true_eq] at h
  exact h.2
def FU : Nat := 1000000
theorem tok_0 : Tok TX0 4 tyX0 := ⟨tyX0_ok, nmX0⟩
theorem fok_0_0 : Fok 0 0 2 RX0 TX0 4 := ⟨rfl, iX0, by decide, rfl⟩
theorem fok_0_1 : Fok 0 1 0 RX0 TX0 4 := ⟨rfl, iX0, by decide, rfl⟩
theorem fpk_0_1 : Fpk TX0 1 false .int := ⟨rfl, by decide +kernel⟩
theorem fok_0_2 : Fok 0 2 0 RX0 TX0 4 := ⟨rfl, iX0, by decide, rfl⟩
theorem fpk_0_2 : Fpk TX0 2 false .int := ⟨rfl, by decide +kernel⟩
theorem fok_0_3 : Fok 0 3 0 RX0 TX0 4 := ⟨rfl, iX0, by decide, rfl⟩
theorem fpk_0_3 : Fpk TX0 3 false .int := ⟨rfl, by decide +kernel⟩
theorem tok_1 : Tok TX1 16 tyX1 := ⟨tyX1_ok, nmX1⟩
theorem fok_1_0 : Fok 1 0 0 RX1 TX1 16 := ⟨rfl, iX1, by decide, rfl⟩
theorem fpk_1_0 : Fpk TX1 0 false .int := ⟨rfl, by decide +kernel⟩
theorem fok_1_1 : Fok 1 1 0 RX1 TX1 16 := ⟨rfl, iX1, by decide, rfl⟩
theorem fpk_1_1 : Fpk TX1 1 false .int := ⟨rfl, by decide +kernel⟩
theorem fok_1_2 : Fok 1 2 0 RX1 TX1 16 := ⟨rfl, iX1, by decide, rfl⟩
theorem fpk_1_2 : Fpk TX1 2 false .int := ⟨rfl, by decide +kernel⟩
theorem fok_1_3 : Fok 1 3 0 RX1 TX1 16 := ⟨rfl, iX1, by decide, rfl⟩
theorem fpk_1_3 : Fpk TX1 3 false .int := ⟨rfl, by decide +kernel⟩
theorem fok_1_4 : Fok 1 4 0 RX1 TX1 16 := ⟨rfl, iX1, by decide, rfl⟩
theorem fpk_1_4 : Fpk TX1 4 false .int := ⟨rfl, by decide +kernel⟩
theorem fok_1_5 : Fok 1 5 2 RX1 TX1 16 := ⟨rfl, iX1, by decide, rfl⟩
theorem fok_1_6 : Fok 1 6 2 RX1 TX1 16 := ⟨rfl, iX1, by decide, rfl⟩
theorem fok_1_7 : Fok 1 7 2 RX1 TX1 16 := ⟨rfl, iX1, by decide, rfl⟩
theorem fok_1_8 : Fok 1 8 2 RX1 TX1 16 := ⟨rfl, iX1, by decide, rfl⟩
theorem fok_1_9 : Fok 1 9 2 RX1 TX1 16 := ⟨rfl, iX1, by decide, rfl⟩
theorem fok_1_10 : Fok 1 10 2 RX1 TX1 16 := ⟨rfl, iX1, by decide, rfl⟩
theorem fok_1_11 : Fok 1 11 2 RX1 TX1 16 := ⟨rfl, iX1, by decide, rfl⟩
theorem fok_1_12 : Fok 1 12 2 RX1 TX1 16 := ⟨rfl, iX1, by decide, rfl⟩
theorem fok_1_13 : Fok 1 13 2 RX1 TX1 16 := ⟨rfl, iX1, by decide, rfl⟩
theorem fok_1_14 : Fok 1 14 2 RX1 TX1 16 := ⟨rfl, iX1, by decide, rfl⟩
theorem fok_1_15 : Fok 1 15 2 RX1 TX1 16 := ⟨rfl, iX1, by decide, rfl⟩
theorem tok_2 : Tok TX2 1 tyX2 := ⟨tyX2_ok, nmX2⟩
theorem fok_2_0 : Fok 2 0 2 RX2 TX2 1 := ⟨rfl, iX2, by decide, rfl⟩
theorem tok_3 : Tok TX3 6 tyX3 := ⟨tyX3_ok, nmX3⟩
theorem fok_3_0 : Fok 3 0 2 RX3 TX3 6 := ⟨rfl, iX3, by decide, rfl⟩
theorem fok_3_1 : Fok 3 1 2 RX3 TX3 6 := ⟨rfl, iX3, by decide, rfl⟩
theorem fok_3_2 : Fok 3 2 2 RX3 TX3 6 := ⟨rfl, iX3, by decide, rfl⟩
theorem fok_3_3 : Fok 3 3 2 RX3 TX3 6 := ⟨rfl, iX3, by decide, rfl⟩
theorem fok_3_4 : Fok 3 4 0 RX3 TX3 6 := ⟨rfl, iX3, by decide, rfl⟩
theorem fpk_3_4 : Fpk TX3 4 false .int := ⟨rfl, by decide +kernel⟩
theorem fok_3_5 : Fok 3 5 0 RX3 TX3 6 := ⟨rfl, iX3, by decide, rfl⟩
theorem fpk_3_5 : Fpk TX3 5 false .int := ⟨rfl, by decide +kernel⟩
theorem tok_4 : Tok TX4 10 tyX4 := ⟨tyX4_ok, nmX4⟩
theorem fok_4_0 : Fok 4 0 2 RX4 TX4 10 := ⟨rfl, iX4, by decide, rfl⟩
theorem fok_4_1 : Fok 4 1 2 RX4 TX4 10 := ⟨rfl, iX4, by decide, rfl⟩
theorem fok_4_2 : Fok 4 2 2 RX4 TX4 10 := ⟨rfl, iX4, by decide, rfl⟩
theorem fok_4_3 : Fok 4 3 2 RX4 TX4 10 := ⟨rfl, iX4, by decide, rfl⟩
theorem fok_4_4 : Fok 4 4 2 RX4 TX4 10 := ⟨rfl, iX4, by decide, rfl⟩
theorem fok_4_5 : Fok 4 5 2 RX4 TX4 10 := ⟨rfl, iX4, by decide, rfl⟩
theorem fok_4_6 : Fok 4 6 0 RX4 TX4 10 := ⟨rfl, iX4, by decide, rfl⟩
theorem fpk_4_6 : Fpk TX4 6 false .int := ⟨rfl, by decide +kernel⟩
theorem fok_4_7 : Fok 4 7 0 RX4 TX4 10 := ⟨rfl, iX4, by decide, rfl⟩
theorem fpk_4_7 : Fpk TX4 7 false .int := ⟨rfl, by decide +kernel⟩
theorem fok_4_8 : Fok 4 8 0 RX4 TX4 10 := ⟨rfl, iX4, by decide, rfl⟩
theorem fpk_4_8 : Fpk TX4 8 false .int := ⟨rfl, by decide +kernel⟩
theorem fok_4_9 : Fok 4 9 0 RX4 TX4 10 := ⟨rfl, iX4, by decide, rfl⟩
theorem fpk_4_9 : Fpk TX4 9 false .int := ⟨rfl, by decide +kernel⟩
theorem tok_5 : Tok TX5 15 tyX5 := ⟨tyX5_ok, nmX5⟩
theorem fok_5_0 : Fok 5 0 2 RX5 TX5 15 := ⟨rfl, iX5, by decide, rfl⟩
theorem fok_5_1 : Fok 5 1 2 RX5 TX5 15 := ⟨rfl, iX5, by decide, rfl⟩
theorem fok_5_2 : Fok 5 2 2 RX5 TX5 15 := ⟨rfl, iX5, by decide, rfl⟩
theorem fok_5_3 : Fok 5 3 2 RX5 TX5 15 := ⟨rfl, iX5, by decide, rfl⟩
theorem fok_5_4 : Fok 5 4 2 RX5 TX5 15 := ⟨rfl, iX5, by decide, rfl⟩
theorem fok_5_5 : Fok 5 5 2 RX5 TX5 15 := ⟨rfl, iX5, by decide, rfl⟩
theorem fok_5_6 : Fok 5 6 2 RX5 TX5 15 := ⟨rfl, iX5, by decide, rfl⟩
theorem fok_5_7 : Fok 5 7 0 RX5 TX5 15 := ⟨rfl, iX5, by decide, rfl⟩
theorem fpk_5_7 : Fpk TX5 7 false .int := ⟨rfl, by decide +kernel⟩
theorem fok_5_8 : Fok 5 8 2 RX5 TX5 15 := ⟨rfl, iX5, by decide, rfl⟩
theorem fok_5_9 : Fok 5 9 0 RX5 TX5 15 := ⟨rfl, iX5, by decide, rfl⟩
theorem fpk_5_9 : Fpk TX5 9 false .int := ⟨rfl, by decide +kernel⟩
theorem fok_5_10 : Fok 5 10 0 RX5 TX5 15 := ⟨rfl, iX5, by decide, rfl⟩
theorem fpk_5_10 : Fpk TX5 10 false .int := ⟨rfl, by decide +kernel⟩
theorem fok_5_11 : Fok 5 11 0 RX5 TX5 15 := ⟨rfl, iX5, by decide, rfl⟩
theorem fpk_5_11 : Fpk TX5 11 false .int := ⟨rfl, by decide +kernel⟩
theorem fok_5_12 : Fok 5 12 0 RX5 TX5 15 := ⟨rfl, iX5, by decide, rfl⟩
theorem fpk_5_12 : Fpk TX5 12 false .int := ⟨rfl, by decide +kernel⟩
theorem fok_5_13 : Fok 5 13 0 RX5 TX5 15 := ⟨rfl, iX5, by decide, rfl⟩
theorem fpk_5_13 : Fpk TX5 13 false .int := ⟨rfl, by decide +kernel⟩
theorem fok_5_14 : Fok 5 14 0 RX5 TX5 15 := ⟨rfl, iX5, by decide, rfl⟩
theorem fpk_5_14 : Fpk TX5 14 false .int := ⟨rfl, by decide +kernel⟩
theorem tok_6 : Tok TX6 5 tyX6 := ⟨tyX6_ok, nmX6⟩
theorem fok_6_0 : Fok 6 0 2 RX6 TX6 5 := ⟨rfl, iX6, by decide, rfl⟩
theorem fok_6_1 : Fok 6 1 2 RX6 TX6 5 := ⟨rfl, iX6, by decide, rfl⟩
theorem fok_6_2 : Fok 6 2 0 RX6 TX6 5 := ⟨rfl, iX6, by decide, rfl⟩
theorem fpk_6_2 : Fpk TX6 2 false .int := ⟨rfl, by decide +kernel⟩
theorem fok_6_3 : Fok 6 3 0 RX6 TX6 5 := ⟨rfl, iX6, by decide, rfl⟩
theorem fpk_6_3 : Fpk TX6 3 false .int := ⟨rfl, by decide +kernel⟩
theorem fok_6_4 : Fok 6 4 0 RX6 TX6 5 := ⟨rfl, iX6, by decide, rfl⟩
theorem fpk_6_4 : Fpk TX6 4 false .int := ⟨rfl, by decide +kernel⟩
theorem tok_7 : Tok TX7 9 tyX7 := ⟨tyX7_ok, nmX7⟩
theorem fok_7_0 : Fok 7 0 2 RX7 TX7 9 := ⟨rfl, iX7, by decide, rfl⟩
theorem fok_7_1 : Fok 7 1 2 RX7 TX7 9 := ⟨rfl, iX7, by decide, rfl⟩
theorem fok_7_2 : Fok 7 2 2 RX7 TX7 9 := ⟨rfl, iX7, by decide, rfl⟩
theorem fok_7_3 : Fok 7 3 2 RX7 TX7 9 := ⟨rfl, iX7, by decide, rfl⟩
theorem fok_7_4 : Fok 7 4 2 RX7 TX7 9 := ⟨rfl, iX7, by decide, rfl⟩
theorem fok_7_5 : Fok 7 5 0 RX7 TX7 9 := ⟨rfl, iX7, by decide, rfl⟩
theorem fpk_7_5 : Fpk TX7 5 false .int := ⟨rfl, by decide +kernel⟩
theorem fok_7_6 : Fok 7 6 0 RX7 TX7 9 := ⟨rfl, iX7, by decide, rfl⟩
theorem fpk_7_6 : Fpk TX7 6 false .int := ⟨rfl, by decide +kernel⟩
theorem fok_7_7 : Fok 7 7 0 RX7 TX7 9 := ⟨rfl, iX7, by decide, rfl⟩
theorem fpk_7_7 : Fpk TX7 7 false .int := ⟨rfl, by decide +kernel⟩
theorem fok_7_8 : Fok 7 8 0 RX7 TX7 9 := ⟨rfl, iX7, by decide, rfl⟩
theorem fpk_7_8 : Fpk TX7 8 false .int := ⟨rfl, by decide +kernel⟩
theorem tok_8 : Tok TX8 5 tyX8 := ⟨tyX8_ok, nmX8⟩
theorem fok_8_0 : Fok 8 0 2 RX8 TX8 5 := ⟨rfl, iX8, by decide, rfl⟩
theorem fok_8_1 : Fok 8 1 2 RX8 TX8 5 := ⟨rfl, iX8, by decide, rfl⟩
theorem fok_8_2 : Fok 8 2 0 RX8 TX8 5 := ⟨rfl, iX8, by decide, rfl⟩
theorem fpk_8_2 : Fpk TX8 2 false .int := ⟨rfl, by decide +kernel⟩
theorem fok_8_3 : Fok 8 3 0 RX8 TX8 5 := ⟨rfl, iX8, by decide, rfl⟩
theorem fpk_8_3 : Fpk TX8 3 false .int := ⟨rfl, by decide +kernel⟩
theorem fok_8_4 : Fok 8 4 0 RX8 TX8 5 := ⟨rfl, iX8, by decide, rfl⟩
theorem fpk_8_4 : Fpk TX8 4 false .int := ⟨rfl, by decide +kernel⟩
theorem tok_9 : Tok TX9 10 tyX9 := ⟨tyX9_ok, nmX9⟩
theorem fok_9_0 : Fok 9 0 2 RX9 TX9 10 := ⟨rfl, iX9, by decide, rfl⟩
theorem fok_9_1 : Fok 9 1 2 RX9 TX9 10 := ⟨rfl, iX9, by decide, rfl⟩
theorem fok_9_2 : Fok 9 2 2 RX9 TX9 10 := ⟨rfl, iX9, by decide, rfl⟩
theorem fok_9_3 : Fok 9 3 2 RX9 TX9 10 := ⟨rfl, iX9, by decide, rfl⟩
theorem fok_9_4 : Fok 9 4 0 RX9 TX9 10 := ⟨rfl, iX9, by decide, rfl⟩
theorem fpk_9_4 : Fpk TX9 4 false .int := ⟨rfl, by decide +kernel⟩
theorem fok_9_5 : Fok 9 5 2 RX9 TX9 10 := ⟨rfl, iX9, by decide, rfl⟩
theorem fok_9_6 : Fok 9 6 2 RX9 TX9 10 := ⟨rfl, iX9, by decide, rfl⟩
theorem fok_9_7 : Fok 9 7 2 RX9 TX9 10 := ⟨rfl, iX9, by decide, rfl⟩
theorem fok_9_8 : Fok 9 8 2 RX9 TX9 10 := ⟨rfl, iX9, by decide, rfl⟩
theorem fok_9_9 : Fok 9 9 0 RX9 TX9 10 := ⟨rfl, iX9, by decide, rfl⟩
theorem fpk_9_9 : Fpk TX9 9 false .int := ⟨rfl, by decide +kernel⟩
theorem tok_10 : Tok TX10 9 tyX10 := ⟨tyX10_ok, nmX10⟩
theorem fok_10_0 : Fok 10 0 2 RX10 TX10 9 := ⟨rfl, iX10, by decide, rfl⟩
theorem fok_10_1 : Fok 10 1 0 RX10 TX10 9 := ⟨rfl, iX10, by decide, rfl⟩
theorem fpk_10_1 : Fpk TX10 1 false .int := ⟨rfl, by decide +kernel⟩
theorem fok_10_2 : Fok 10 2 2 RX10 TX10 9 := ⟨rfl, iX10, by decide, rfl⟩
theorem fok_10_3 : Fok 10 3 2 RX10 TX10 9 := ⟨rfl, iX10, by decide, rfl⟩
theorem fok_10_4 : Fok 10 4 2 RX10 TX10 9 := ⟨rfl, iX10, by decide, rfl⟩
theorem fok_10_5 : Fok 10 5 0 RX10 TX10 9 := ⟨rfl, iX10, by decide, rfl⟩
theorem fpk_10_5 : Fpk TX10 5 false .int := ⟨rfl, by decide +kernel⟩
theorem fok_10_6 : Fok 10 6 0 RX10 TX10 9 := ⟨rfl, iX10, by decide, rfl⟩
theorem fpk_10_6 : Fpk TX10 6 false .int := ⟨rfl, by decide +kernel⟩
theorem fok_10_7 : Fok 10 7 0 RX10 TX10 9 := ⟨rfl, iX10, by decide, rfl⟩
theorem fpk_10_7 : Fpk TX10 7 false .int := ⟨rfl, by decide +kernel⟩
theorem fok_10_8 : Fok 10 8 0 RX10 TX10 9 := ⟨rfl, iX10, by decide, rfl⟩
theorem fpk_10_8 : Fpk TX10 8 false .int := ⟨rfl, by decide +kernel⟩
theorem tok_11 : Tok TX11 16 tyX11 := ⟨tyX11_ok, nmX11⟩
theorem fok_11_0 : Fok 11 0 2 RX11 TX11 16 := ⟨rfl, iX11, by decide, rfl⟩
theorem fok_11_1 : Fok 11 1 2 RX11 TX11 16 := ⟨rfl, iX11, by decide, rfl⟩
theorem fok_11_2 : Fok 11 2 2 RX11 TX11 16 := ⟨rfl, iX11, by decide, rfl⟩
theorem fpk_11_2 : Fpk TX11 2 false (.object "BetterThieves$City") := ⟨rfl, by decide +kernel⟩
theorem fok_11_3 : Fok 11 3 2 RX11 TX11 16 := ⟨rfl, iX11, by decide, rfl⟩
theorem fpk_11_3 : Fpk TX11 3 false (.object "BetterThieves$City") := ⟨rfl, by decide +kernel⟩
theorem fok_11_4 : Fok 11 4 2 RX11 TX11 16 := ⟨rfl, iX11, by decide, rfl⟩
theorem fok_11_5 : Fok 11 5 2 RX11 TX11 16 := ⟨rfl, iX11, by decide, rfl⟩
theorem fok_11_6 : Fok 11 6 2 RX11 TX11 16 := ⟨rfl, iX11, by decide, rfl⟩
theorem fok_11_7 : Fok 11 7 0 RX11 TX11 16 := ⟨rfl, iX11, by decide, rfl⟩
theorem fpk_11_7 : Fpk TX11 7 false .int := ⟨rfl, by decide +kernel⟩
theorem fok_11_8 : Fok 11 8 2 RX11 TX11 16 := ⟨rfl, iX11, by decide, rfl⟩
theorem fok_11_9 : Fok 11 9 0 RX11 TX11 16 := ⟨rfl, iX11, by decide, rfl⟩
theorem fpk_11_9 : Fpk TX11 9 false .int := ⟨rfl, by decide +kernel⟩
theorem fok_11_10 : Fok 11 10 2 RX11 TX11 16 := ⟨rfl, iX11, by decide, rfl⟩
theorem fok_11_11 : Fok 11 11 0 RX11 TX11 16 := ⟨rfl, iX11, by decide, rfl⟩
theorem fpk_11_11 : Fpk TX11 11 false .int := ⟨rfl, by decide +kernel⟩
theorem fok_11_12 : Fok 11 12 2 RX11 TX11 16 := ⟨rfl, iX11, by decide, rfl⟩
theorem fok_11_13 : Fok 11 13 2 RX11 TX11 16 := ⟨rfl, iX11, by decide, rfl⟩
theorem fok_11_14 : Fok 11 14 2 RX11 TX11 16 := ⟨rfl, iX11, by decide, rfl⟩
theorem fok_11_15 : Fok 11 15 2 RX11 TX11 16 := ⟨rfl, iX11, by decide, rfl⟩
theorem tok_12 : Tok TX12 91 tyX12 := ⟨tyX12_ok, nmX12⟩
theorem fok_12_0 : Fok 12 0 2 RX12 TX12 91 := ⟨rfl, iX12, by decide, rfl⟩
theorem fok_12_1 : Fok 12 1 0 RX12 TX12 91 := ⟨rfl, iX12, by decide, rfl⟩
theorem fpk_12_1 : Fpk TX12 1 false .int := ⟨rfl, by decide +kernel⟩
theorem fok_12_2 : Fok 12 2 0 RX12 TX12 91 := ⟨rfl, iX12, by decide, rfl⟩
theorem fpk_12_2 : Fpk TX12 2 false .int := ⟨rfl, by decide +kernel⟩
theorem fok_12_3 : Fok 12 3 0 RX12 TX12 91 := ⟨rfl, iX12, by decide, rfl⟩
theorem fpk_12_3 : Fpk TX12 3 false .int := ⟨rfl, by decide +kernel⟩
theorem fok_12_4 : Fok 12 4 0 RX12 TX12 91 := ⟨rfl, iX12, by decide, rfl⟩
theorem fpk_12_4 : Fpk TX12 4 false .int := ⟨rfl, by decide +kernel⟩
theorem fok_12_5 : Fok 12 5 0 RX12 TX12 91 := ⟨rfl, iX12, by decide, rfl⟩
theorem fpk_12_5 : Fpk TX12 5 false .int := ⟨rfl, by decide +kernel⟩
theorem fok_12_6 : Fok 12 6 0 RX12 TX12 91 := ⟨rfl, iX12, by decide, rfl⟩
theorem fpk_12_6 : Fpk TX12 6 false .int := ⟨rfl, by decide +kernel⟩
theorem fok_12_7 : Fok 12 7 0 RX12 TX12 91 := ⟨rfl, iX12, by decide, rfl⟩
theorem fpk_12_7 : Fpk TX12 7 false .int := ⟨rfl, by decide +kernel⟩
theorem fok_12_8 : Fok 12 8 0 RX12 TX12 91 := ⟨rfl, iX12, by decide, rfl⟩
theorem fpk_12_8 : Fpk TX12 8 false .int := ⟨rfl, by decide +kernel⟩
theorem fok_12_9 : Fok 12 9 1 RX12 TX12 91 := ⟨rfl, iX12, by decide, rfl⟩
theorem fpk_12_9 : Fpk TX12 9 false .long := ⟨rfl, by decide +kernel⟩
theorem fok_12_10 : Fok 12 10 2 RX12 TX12 91 := ⟨rfl, iX12, by decide, rfl⟩
theorem fok_12_11 : Fok 12 11 2 RX12 TX12 91 := ⟨rfl, iX12, by decide, rfl⟩
theorem fok_12_12 : Fok 12 12 0 RX12 TX12 91 := ⟨rfl, iX12, by decide, rfl⟩
theorem fpk_12_12 : Fpk TX12 12 false .int := ⟨rfl, by decide +kernel⟩
theorem fok_12_13 : Fok 12 13 2 RX12 TX12 91 := ⟨rfl, iX12, by decide, rfl⟩
theorem fok_12_14 : Fok 12 14 2 RX12 TX12 91 := ⟨rfl, iX12, by decide, rfl⟩
theorem fok_12_15 : Fok 12 15 2 RX12 TX12 91 := ⟨rfl, iX12, by decide, rfl⟩
theorem fok_12_16 : Fok 12 16 2 RX12 TX12 91 := ⟨rfl, iX12, by decide, rfl⟩
theorem fok_12_17 : Fok 12 17 2 RX12 TX12 91 := ⟨rfl, iX12, by decide, rfl⟩
theorem fok_12_18 : Fok 12 18 2 RX12 TX12 91 := ⟨rfl, iX12, by decide, rfl⟩
theorem fok_12_19 : Fok 12 19 0 RX12 TX12 91 := ⟨rfl, iX12, by decide, rfl⟩
theorem fpk_12_19 : Fpk TX12 19 false .int := ⟨rfl, by decide +kernel⟩
theorem fok_12_20 : Fok 12 20 0 RX12 TX12 91 := ⟨rfl, iX12, by decide, rfl⟩
theorem fpk_12_20 : Fpk TX12 20 false .int := ⟨rfl, by decide +kernel⟩
theorem fok_12_21 : Fok 12 21 0 RX12 TX12 91 := ⟨rfl, iX12, by decide, rfl⟩
theorem fpk_12_21 : Fpk TX12 21 false .int := ⟨rfl, by decide +kernel⟩
theorem fok_12_22 : Fok 12 22 0 RX12 TX12 91 := ⟨rfl, iX12, by decide, rfl⟩
theorem fpk_12_22 : Fpk TX12 22 false .int := ⟨rfl, by decide +kernel⟩
theorem fok_12_23 : Fok 12 23 0 RX12 TX12 91 := ⟨rfl, iX12, by decide, rfl⟩
theorem fpk_12_23 : Fpk TX12 23 false .int := ⟨rfl, by decide +kernel⟩
theorem fok_12_24 : Fok 12 24 0 RX12 TX12 91 := ⟨rfl, iX12, by decide, rfl⟩
theorem fpk_12_24 : Fpk TX12 24 false .int := ⟨rfl, by decide +kernel⟩
theorem fok_12_25 : Fok 12 25 0 RX12 TX12 91 := ⟨rfl, iX12, by decide, rfl⟩
theorem fpk_12_25 : Fpk TX12 25 false .int := ⟨rfl, by decide +kernel⟩
theorem fok_12_26 : Fok 12 26 2 RX12 TX12 91 := ⟨rfl, iX12, by decide, rfl⟩
theorem fok_12_27 : Fok 12 27 2 RX12 TX12 91 := ⟨rfl, iX12, by decide, rfl⟩
theorem fok_12_28 : Fok 12 28 2 RX12 TX12 91 := ⟨rfl, iX12, by decide, rfl⟩
theorem fok_12_29 : Fok 12 29 2 RX12 TX12 91 := ⟨rfl, iX12, by decide, rfl⟩
theorem fok_12_30 : Fok 12 30 2 RX12 TX12 91 := ⟨rfl, iX12, by decide, rfl⟩
theorem fok_12_31 : Fok 12 31 2 RX12 TX12 91 := ⟨rfl, iX12, by decide, rfl⟩
theorem fok_12_32 : Fok 12 32 2 RX12 TX12 91 := ⟨rfl, iX12, by decide, rfl⟩
theorem fok_12_33 : Fok 12 33 2 RX12 TX12 91 := ⟨rfl, iX12, by decide, rfl⟩
theorem fok_12_34 : Fok 12 34 2 RX12 TX12 91 := ⟨rfl, iX12, by decide, rfl⟩
theorem fok_12_35 : Fok 12 35 2 RX12 TX12 91 := ⟨rfl, iX12, by decide, rfl⟩
theorem fok_12_36 : Fok 12 36 2 RX12 TX12 91 := ⟨rfl, iX12, by decide, rfl⟩
theorem fok_12_37 : Fok 12 37 2 RX12 TX12 91 := ⟨rfl, iX12, by decide, rfl⟩
theorem fok_12_38 : Fok 12 38 2 RX12 TX12 91 := ⟨rfl, iX12, by decide, rfl⟩
theorem fok_12_39 : Fok 12 39 2 RX12 TX12 91 := ⟨rfl, iX12, by decide, rfl⟩
theorem fok_12_40 : Fok 12 40 2 RX12 TX12 91 := ⟨rfl, iX12, by decide, rfl⟩
theorem fok_12_41 : Fok 12 41 2 RX12 TX12 91 := ⟨rfl, iX12, by decide, rfl⟩
theorem fok_12_42 : Fok 12 42 2 RX12 TX12 91 := ⟨rfl, iX12, by decide, rfl⟩
theorem fok_12_43 : Fok 12 43 2 RX12 TX12 91 := ⟨rfl, iX12, by decide, rfl⟩
theorem fok_12_44 : Fok 12 44 2 RX12 TX12 91 := ⟨rfl, iX12, by decide, rfl⟩
theorem fok_12_45 : Fok 12 45 0 RX12 TX12 91 := ⟨rfl, iX12, by decide, rfl⟩
theorem fpk_12_45 : Fpk TX12 45 false .int := ⟨rfl, by decide +kernel⟩
theorem fok_12_46 : Fok 12 46 0 RX12 TX12 91 := ⟨rfl, iX12, by decide, rfl⟩
theorem fpk_12_46 : Fpk TX12 46 false .int := ⟨rfl, by decide +kernel⟩
theorem fok_12_47 : Fok 12 47 0 RX12 TX12 91 := ⟨rfl, iX12, by decide, rfl⟩
theorem fpk_12_47 : Fpk TX12 47 false .int := ⟨rfl, by decide +kernel⟩
theorem fok_12_48 : Fok 12 48 0 RX12 TX12 91 := ⟨rfl, iX12, by decide, rfl⟩
theorem fpk_12_48 : Fpk TX12 48 false .int := ⟨rfl, by decide +kernel⟩
theorem fok_12_49 : Fok 12 49 0 RX12 TX12 91 := ⟨rfl, iX12, by decide, rfl⟩
theorem fpk_12_49 : Fpk TX12 49 false .int := ⟨rfl, by decide +kernel⟩
theorem fok_12_50 : Fok 12 50 0 RX12 TX12 91 := ⟨rfl, iX12, by decide, rfl⟩
theorem fpk_12_50 : Fpk TX12 50 false .int := ⟨rfl, by decide +kernel⟩
theorem fok_12_51 : Fok 12 51 0 RX12 TX12 91 := ⟨rfl, iX12, by decide, rfl⟩
theorem fpk_12_51 : Fpk TX12 51 false .int := ⟨rfl, by decide +kernel⟩
theorem fok_12_52 : Fok 12 52 0 RX12 TX12 91 := ⟨rfl, iX12, by decide, rfl⟩
theorem fpk_12_52 : Fpk TX12 52 false .int := ⟨rfl, by decide +kernel⟩
theorem fok_12_53 : Fok 12 53 0 RX12 TX12 91 := ⟨rfl, iX12, by decide, rfl⟩
theorem fpk_12_53 : Fpk TX12 53 false .int := ⟨rfl, by decide +kernel⟩
theorem fok_12_54 : Fok 12 54 0 RX12 TX12 91 := ⟨rfl, iX12, by decide, rfl⟩
theorem fpk_12_54 : Fpk TX12 54 false .int := ⟨rfl, by decide +kernel⟩
theorem fok_12_55 : Fok 12 55 0 RX12 TX12 91 := ⟨rfl, iX12, by decide, rfl⟩
theorem fpk_12_55 : Fpk TX12 55 false .int := ⟨rfl, by decide +kernel⟩
theorem fok_12_56 : Fok 12 56 0 RX12 TX12 91 := ⟨rfl, iX12, by decide, rfl⟩
theorem fpk_12_56 : Fpk TX12 56 false .boolean := ⟨rfl, by decide +kernel⟩
theorem fok_12_57 : Fok 12 57 0 RX12 TX12 91 := ⟨rfl, iX12, by decide, rfl⟩
theorem fpk_12_57 : Fpk TX12 57 false .boolean := ⟨rfl, by decide +kernel⟩
theorem fok_12_58 : Fok 12 58 0 RX12 TX12 91 := ⟨rfl, iX12, by decide, rfl⟩
theorem fpk_12_58 : Fpk TX12 58 false .boolean := ⟨rfl, by decide +kernel⟩
theorem fok_12_59 : Fok 12 59 0 RX12 TX12 91 := ⟨rfl, iX12, by decide, rfl⟩
theorem fpk_12_59 : Fpk TX12 59 false .boolean := ⟨rfl, by decide +kernel⟩
theorem fok_12_60 : Fok 12 60 2 RX12 TX12 91 := ⟨rfl, iX12, by decide, rfl⟩
theorem fok_12_61 : Fok 12 61 2 RX12 TX12 91 := ⟨rfl, iX12, by decide, rfl⟩
theorem fok_12_62 : Fok 12 62 0 RX12 TX12 91 := ⟨rfl, iX12, by decide, rfl⟩
theorem fpk_12_62 : Fpk TX12 62 false .int := ⟨rfl, by decide +kernel⟩
theorem fok_12_63 : Fok 12 63 0 RX12 TX12 91 := ⟨rfl, iX12, by decide, rfl⟩
theorem fpk_12_63 : Fpk TX12 63 false .int := ⟨rfl, by decide +kernel⟩
theorem fok_12_64 : Fok 12 64 0 RX12 TX12 91 := ⟨rfl, iX12, by decide, rfl⟩
theorem fpk_12_64 : Fpk TX12 64 false .int := ⟨rfl, by decide +kernel⟩
theorem fok_12_65 : Fok 12 65 0 RX12 TX12 91 := ⟨rfl, iX12, by decide, rfl⟩
theorem fpk_12_65 : Fpk TX12 65 false .int := ⟨rfl, by decide +kernel⟩
theorem fok_12_66 : Fok 12 66 0 RX12 TX12 91 := ⟨rfl, iX12, by decide, rfl⟩
theorem fpk_12_66 : Fpk TX12 66 false .int := ⟨rfl, by decide +kernel⟩
theorem fok_12_67 : Fok 12 67 2 RX12 TX12 91 := ⟨rfl, iX12, by decide, rfl⟩
theorem fok_12_68 : Fok 12 68 0 RX12 TX12 91 := ⟨rfl, iX12, by decide, rfl⟩
theorem fpk_12_68 : Fpk TX12 68 false .int := ⟨rfl, by decide +kernel⟩
theorem fok_12_69 : Fok 12 69 0 RX12 TX12 91 := ⟨rfl, iX12, by decide, rfl⟩
theorem fpk_12_69 : Fpk TX12 69 false .int := ⟨rfl, by decide +kernel⟩
theorem fok_12_70 : Fok 12 70 2 RX12 TX12 91 := ⟨rfl, iX12, by decide, rfl⟩
theorem fok_12_71 : Fok 12 71 0 RX12 TX12 91 := ⟨rfl, iX12, by decide, rfl⟩
theorem fpk_12_71 : Fpk TX12 71 false .int := ⟨rfl, by decide +kernel⟩
theorem fok_12_72 : Fok 12 72 2 RX12 TX12 91 := ⟨rfl, iX12, by decide, rfl⟩
theorem fok_12_73 : Fok 12 73 2 RX12 TX12 91 := ⟨rfl, iX12, by decide, rfl⟩
theorem fok_12_74 : Fok 12 74 2 RX12 TX12 91 := ⟨rfl, iX12, by decide, rfl⟩
theorem fok_12_75 : Fok 12 75 2 RX12 TX12 91 := ⟨rfl, iX12, by decide, rfl⟩
theorem fok_12_76 : Fok 12 76 0 RX12 TX12 91 := ⟨rfl, iX12, by decide, rfl⟩
theorem fpk_12_76 : Fpk TX12 76 false .int := ⟨rfl, by decide +kernel⟩
theorem fok_12_77 : Fok 12 77 0 RX12 TX12 91 := ⟨rfl, iX12, by decide, rfl⟩
theorem fpk_12_77 : Fpk TX12 77 false .int := ⟨rfl, by decide +kernel⟩
theorem fok_12_78 : Fok 12 78 0 RX12 TX12 91 := ⟨rfl, iX12, by decide, rfl⟩
theorem fpk_12_78 : Fpk TX12 78 false .int := ⟨rfl, by decide +kernel⟩
theorem fok_12_79 : Fok 12 79 2 RX12 TX12 91 := ⟨rfl, iX12, by decide, rfl⟩
theorem fok_12_80 : Fok 12 80 2 RX12 TX12 91 := ⟨rfl, iX12, by decide, rfl⟩
theorem fok_12_81 : Fok 12 81 2 RX12 TX12 91 := ⟨rfl, iX12, by decide, rfl⟩
theorem fok_12_82 : Fok 12 82 2 RX12 TX12 91 := ⟨rfl, iX12, by decide, rfl⟩
theorem fok_12_83 : Fok 12 83 2 RX12 TX12 91 := ⟨rfl, iX12, by decide, rfl⟩
theorem fok_12_84 : Fok 12 84 2 RX12 TX12 91 := ⟨rfl, iX12, by decide, rfl⟩
theorem fok_12_85 : Fok 12 85 2 RX12 TX12 91 := ⟨rfl, iX12, by decide, rfl⟩
theorem fok_12_86 : Fok 12 86 0 RX12 TX12 91 := ⟨rfl, iX12, by decide, rfl⟩
theorem fpk_12_86 : Fpk TX12 86 false .int := ⟨rfl, by decide +kernel⟩
theorem fok_12_87 : Fok 12 87 0 RX12 TX12 91 := ⟨rfl, iX12, by decide, rfl⟩
theorem fpk_12_87 : Fpk TX12 87 false .int := ⟨rfl, by decide +kernel⟩
theorem fok_12_88 : Fok 12 88 2 RX12 TX12 91 := ⟨rfl, iX12, by decide, rfl⟩
theorem fok_12_89 : Fok 12 89 2 RX12 TX12 91 := ⟨rfl, iX12, by decide, rfl⟩
theorem fok_12_90 : Fok 12 90 2 RX12 TX12 91 := ⟨rfl, iX12, by decide, rfl⟩
