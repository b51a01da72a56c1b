theorem pk_sub {a b : Nat} (h : b ≤ a) : nI a - nI b = nI (a - b) := by
  obtain ⟨c, rfl⟩ : ∃ c, a = c + b := ⟨a - b, by omega⟩
  rw [← nI_add, Int32.add_sub_cancel, Nat.add_sub_cancel]
theorem pk_mul (a b : Nat) : nI a * nI b = nI (a * b) := (Int32.ofNat_mul a b).symm
theorem pk_div {a d : Nat} (ha : a < 2 ^ 31) (h0 : 0 < d) (hd : d < 2 ^ 31) : nI a / nI d = nI (a / d) := by
  apply Int32.toInt_inj.mp
  rw [lg_idiv_nonneg (by rw [nI_toInt ha]; omega) (by rw [nI_toInt hd]; omega), nI_toInt ha, nI_toInt hd, nI_toInt (Nat.lt_of_le_of_lt (Nat.div_le_self a d) ha)]
  first | rfl | exact (Int.natCast_ediv _ _).symm
theorem pk_rem {a d : Nat} (ha : a < 2 ^ 31) (h0 : 0 < d) (hd : d < 2 ^ 31) : nI a - nI a / nI d * nI d = nI (a % d) := by
  rw [pk_div ha h0 hd, pk_mul, pk_sub (Nat.div_mul_le_self a d)]
  exact congrArg nI (by have := Nat.div_add_mod' a d; omega)
theorem pk_le {x y : Int32} {A B : Prop} (a b : Nat) (f : a ≤ b → A) (g : b < a → B) (hx : x = nI a := by rfl) (hy : y = nI b := by rfl) (ha : a < 2 ^ 31 := by omega) (hb : b < 2 ^ 31 := by omega) : (x ≤ y → A) ∧ (¬ x ≤ y → B) := by
  subst hx hy
  rw [nI_leI ha hb]
  exact ⟨f, fun z => g (by omega)⟩
theorem pk_lt {x y : Int32} {A B : Prop} (a b : Nat) (f : a < b → A) (g : b ≤ a → B) (hx : x = nI a := by rfl) (hy : y = nI b := by rfl) (ha : a < 2 ^ 31 := by omega) (hb : b < 2 ^ 31 := by omega) : (x < y → A) ∧ (¬ x < y → B) := by
  subst hx hy
  rw [nI_ltI ha hb]
  exact ⟨f, fun z => g (by omega)⟩
theorem pk_eq {x y : Int32} {A B : Prop} (a b : Nat) (f : a = b → A) (g : a ≠ b → B) (hx : x = nI a := by rfl) (hy : y = nI b := by rfl) (ha : a < 2 ^ 31 := by omega) (hb : b < 2 ^ 31 := by omega) : (x = y → A) ∧ (¬ x = y → B) := by
  subst hx hy
  rw [nI_eq ha hb]
  exact ⟨f, g⟩
theorem pk_in {x : Int32} (n N : Nat) (h : n < N) (hx : x = nI n := by rfl) (hN : N < 2 ^ 31 := by omega) : vp_in x N := by
  subst hx
  exact vp_in_nI h hN
theorem pk_cl {x : Int32} (n : Nat) (hx : x = nI n := by rfl) (h : n < 2 ^ 31 := by omega) : x.toNatClampNeg = n := by
  subst hx
  exact nI_clamp h
def fl_cut (s j : Nat) : Bool := s.testBit (j / 6) && !s.testBit (j % 6)
/-- the width of side s over the first j cells -/
def fl_w (c : Nat → Nat) (s : Nat) : Nat → Nat
  | 0 => 0
  | j + 1 => fl_w c s j + (if fl_cut s j = true then c j else 0)
/-- how many of the first j cells t cuts and s does not -/
def fl_d (t s : Nat) : Nat → Nat
  | 0 => 0
  | j + 1 => fl_d t s j + (if fl_cut t j = true ∧ fl_cut s j = false then 1 else 0)
def fl_k (s : Nat) : Nat := (if s.testBit 0 = s.testBit 1 then 0 else 1) + (if s.testBit 2 = s.testBit 3 then 0 else 2)
/-- the least width of the sides of kind g among the first t, 1000 at most -/
def fl_n (c : Nat → Nat) (g : Nat) : Nat → Nat
  | 0 => 1000
  | s + 1 => if fl_k s = g then min (fl_n c g s) (fl_w c s 36) else fl_n c g s
theorem fl_k4 (s : Nat) : fl_k s < 4 := by
  unfold fl_k
  split <;> split <;> decide
theorem fl_wd {c : Nat → Nat} {B : Nat} (h : ∀ j, c j ≤ B) (t s : Nat) : ∀ j, fl_w c t j ≤ fl_w c s j + B * fl_d t s j := by
  intro j
  induction j with
  | zero => exact Nat.zero_le _
  | succ j ih =>
    have hj := h j
    simp only [fl_w, fl_d, Nat.mul_add]
    cases e1 : fl_cut t j <;> cases e2 : fl_cut s j <;> simp <;> omega
theorem fl_w0 (c : Nat → Nat) : ∀ j, fl_w c 0 j = 0 := by
  intro j
  induction j with
  | zero => rfl
  | succ j ih => simp [fl_w, fl_cut, ih]
theorem fl_wle {c : Nat → Nat} (h : ∀ j, c j ≤ 21) (s : Nat) : ∀ j, fl_w c s j ≤ 21 * j := by
  intro j
  induction j with
  | zero => exact Nat.le_refl _
  | succ j ih =>
    have hj := h j
    simp only [fl_w]
    split <;> omega
theorem fl_n_1000 (c : Nat → Nat) (g : Nat) : ∀ t, fl_n c g t ≤ 1000 := by
  intro t
  induction t with
  | zero => exact Nat.le_refl _
  | succ t ih =>
    simp only [fl_n]
    split <;> omega
theorem fl_n_le {c : Nat → Nat} {g : Nat} : ∀ t s, s < t → fl_k s = g → fl_n c g t ≤ fl_w c s 36 := by
  intro t
  induction t with
  | zero => intro s hs; omega
  | succ t ih =>
    intro s hs hk
    simp only [fl_n]
    by_cases e : s = t
    · subst e
      rw [if_pos hk]
      exact Nat.min_le_right _ _
    · have := ih s (by omega) hk
      split <;> omega
theorem fl_n_at (c : Nat → Nat) (g : Nat) : ∀ t, fl_n c g t = 1000 ∨ ∃ s, s < t ∧ fl_k s = g ∧ fl_n c g t = fl_w c s 36 := by
  intro t
  induction t with
  | zero => exact Or.inl rfl
  | succ t ih =>
    simp only [fl_n]
    by_cases e : fl_k t = g
    · rw [if_pos e]
      by_cases m : fl_n c g t ≤ fl_w c t 36
      · rw [Nat.min_eq_left m]
        rcases ih with h | ⟨s, h1, h2, h3⟩
        · exact Or.inl h
        · exact Or.inr ⟨s, by omega, h2, h3⟩
      · rw [Nat.min_eq_right (by omega)]
        exact Or.inr ⟨t, by omega, e, rfl⟩
    · rw [if_neg e]
      rcases ih with h | ⟨s, h1, h2, h3⟩
      · exact Or.inl h
      · exact Or.inr ⟨s, by omega, h2, h3⟩
set_option maxRecDepth 100000 in
theorem fl_t2 : ∀ s, s < 64 → fl_k s = 2 → (s ^^^ 1 < 64 ∧ fl_k (s ^^^ 1) = 3 ∧ fl_d (s ^^^ 1) s 36 ≤ 4) := by decide +kernel
set_option maxRecDepth 100000 in
theorem fl_t1 : ∀ s, s < 64 → fl_k s = 1 → (s ^^^ 4 < 64 ∧ fl_k (s ^^^ 4) = 3 ∧ fl_d (s ^^^ 4) s 36 ≤ 4) := by decide +kernel
theorem fl_d1 : fl_d 1 0 36 = 5 := by decide +kernel
theorem fl_d4 : fl_d 4 0 36 = 5 := by decide +kernel
theorem fl_d5 : fl_d 5 0 36 = 8 := by decide +kernel
def fl_n1 (c : Nat → Nat) : Nat := fl_n c 1 64
def fl_n2 (c : Nat → Nat) : Nat := fl_n c 2 64
def fl_n3 (c : Nat → Nat) : Nat := fl_n c 3 64
theorem fl_n1m (c : Nat → Nat) : fl_n1 c ≤ 1000 := fl_n_1000 c 1 64
theorem fl_n2m (c : Nat → Nat) : fl_n2 c ≤ 1000 := fl_n_1000 c 2 64
theorem fl_n3m (c : Nat → Nat) : fl_n3 c ≤ 1000 := fl_n_1000 c 3 64
theorem fl_b1 {c : Nat → Nat} (h : ∀ j, c j ≤ 20) : fl_n1 c ≤ 100 := by
  have a : fl_n1 c ≤ fl_w c 1 36 := fl_n_le 64 1 (by decide) (by decide)
  have b := fl_wd h 1 0 36
  rw [fl_w0, fl_d1] at b
  omega
theorem fl_b2 {c : Nat → Nat} (h : ∀ j, c j ≤ 20) : fl_n2 c ≤ 100 := by
  have a : fl_n2 c ≤ fl_w c 4 36 := fl_n_le 64 4 (by decide) (by decide)
  have b := fl_wd h 4 0 36
  rw [fl_w0, fl_d4] at b
  omega
theorem fl_b3 {c : Nat → Nat} (h : ∀ j, c j ≤ 21) : fl_n3 c ≤ 200 := by
  have a : fl_n3 c ≤ fl_w c 5 36 := fl_n_le 64 5 (by decide) (by decide)
  have b := fl_wd h 5 0 36
  rw [fl_w0, fl_d5] at b
  omega
theorem fl_b32 {c : Nat → Nat} (h : ∀ j, c j ≤ 21) : fl_n3 c ≤ fl_n2 c + 100 := by
  rcases fl_n_at c 2 64 with e | ⟨s, hs, hk, e⟩
  · have a := fl_n3m c
    have b : fl_n2 c = 1000 := e
    omega
  · obtain ⟨h1, h2, h3⟩ := fl_t2 s hs hk
    have a : fl_n3 c ≤ fl_w c (s ^^^ 1) 36 := fl_n_le 64 _ h1 h2
    have b := fl_wd h (s ^^^ 1) s 36
    have d : fl_n2 c = fl_w c s 36 := e
    omega
theorem fl_b31 {c : Nat → Nat} (h : ∀ j, c j ≤ 21) : fl_n3 c ≤ fl_n1 c + 100 := by
  rcases fl_n_at c 1 64 with e | ⟨s, hs, hk, e⟩
  · have a := fl_n3m c
    have b : fl_n1 c = 1000 := e
    omega
  · obtain ⟨h1, h2, h3⟩ := fl_t1 s hs hk
    have a : fl_n3 c ≤ fl_w c (s ^^^ 4) 36 := fl_n_le 64 _ h1 h2
    have b := fl_wd h (s ^^^ 4) s 36
    have d : fl_n1 c = fl_w c s 36 := e
    omega
/-- the state of both sides: capacity c j in cell j -/
def fl_a (c : Nat → Nat) : Nat → Int32 := fun j => nI (c j)
def fl_u (c : Nat → Nat) (k w : Nat) : Nat → Nat := fun j => if j = k then w else c j
theorem fl_upd (c : Nat → Nat) (k w : Nat) : upd (fl_a c) k (nI w) = fl_a (fl_u c k w) := by
  funext j
  unfold upd fl_a fl_u
  split <;> rfl
theorem fl_ule {c : Nat → Nat} {k w B : Nat} (h : ∀ j, c j ≤ B) (hw : w ≤ B) : ∀ j, fl_u c k w j ≤ B := by
  intro j
  unfold fl_u
  split
  · exact hw
  · exact h j
set_option maxRecDepth 100000 in
theorem fl_bit : ∀ s, s < 64 → ∀ p, p < 6 → ((nI s >>> (nI p &&& 31)) &&& 1) = (if s.testBit p = true then 1 else 0) := by decide +kernel
set_option maxRecDepth 100000 in
theorem fl_kind : ∀ s, s < 64 → (((nI s ^^^ (nI s >>> ((1 : Int32) &&& 31))) &&& 1) ||| ((((nI s ^^^ (nI s >>> ((1 : Int32) &&& 31))) >>> ((2 : Int32) &&& 31)) &&& 1) <<< ((1 : Int32) &&& 31))) = nI (fl_k s) := by decide +kernel
theorem fl_six {x : Int32} (h0 : ¬ x < 0) (h6 : ¬ 6 ≤ x) : ∃ a : Nat, a < 6 ∧ x = nI a := by
  obtain ⟨j, hj, rfl⟩ := nI_of h0
  refine ⟨j, ?_, rfl⟩
  rw [show (6 : Int32) = nI 6 from rfl, nI_leI (by decide) hj] at h6
  omega
theorem fl_six' {x : Int32} (h0 : ¬ x < 0) (h6 : ¬ 5 < x) : ∃ a : Nat, a < 6 ∧ x = nI a := by
  obtain ⟨j, hj, rfl⟩ := nI_of h0
  refine ⟨j, ?_, rfl⟩
  rw [show (5 : Int32) = nI 5 from rfl, nI_ltI (by decide) hj] at h6
  omega
