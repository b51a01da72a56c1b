section
theorem pk_sub {a b : Nat} (h : b ≤ a) : nI a - nI b = nI (a - b) := by
  obtain ⟨c, rfl⟩ : ∃ c, a = c + b := ⟨a - b, by omega⟩
  rw [← nI_add, Int32.add_sub_cancel, Nat.add_sub_cancel]
theorem pk_mul (a b : Nat) : nI a * nI b = nI (a * b) := (Int32.ofNat_mul a b).symm
theorem pk_div {a d : Nat} (ha : a < 2 ^ 31) (h0 : 0 < d) (hd : d < 2 ^ 31) : nI a / nI d = nI (a / d) := by
  apply Int32.toInt_inj.mp
  rw [lg_idiv_nonneg (by rw [nI_toInt ha]; omega) (by rw [nI_toInt hd]; omega), nI_toInt ha, nI_toInt hd, nI_toInt (Nat.lt_of_le_of_lt (Nat.div_le_self a d) ha)]
  first | rfl | exact (Int.natCast_ediv _ _).symm
theorem pk_rem {a d : Nat} (ha : a < 2 ^ 31) (h0 : 0 < d) (hd : d < 2 ^ 31) : nI a - nI a / nI d * nI d = nI (a % d) := by
  rw [pk_div ha h0 hd, pk_mul, pk_sub (Nat.div_mul_le_self a d)]
  exact congrArg nI (by have := Nat.div_add_mod' a d; omega)
theorem pk_le {x y : Int32} {A B : Prop} (a b : Nat) (f : a ≤ b → A) (g : b < a → B) (hx : x = nI a := by rfl) (hy : y = nI b := by rfl) (ha : a < 2 ^ 31 := by omega) (hb : b < 2 ^ 31 := by omega) : (x ≤ y → A) ∧ (¬ x ≤ y → B) := by
  subst hx hy
  rw [nI_leI ha hb]
  exact ⟨f, fun z => g (by omega)⟩
theorem pk_lt {x y : Int32} {A B : Prop} (a b : Nat) (f : a < b → A) (g : b ≤ a → B) (hx : x = nI a := by rfl) (hy : y = nI b := by rfl) (ha : a < 2 ^ 31 := by omega) (hb : b < 2 ^ 31 := by omega) : (x < y → A) ∧ (¬ x < y → B) := by
  subst hx hy
  rw [nI_ltI ha hb]
  exact ⟨f, fun z => g (by omega)⟩
theorem pk_eq {x y : Int32} {A B : Prop} (a b : Nat) (f : a = b → A) (g : a ≠ b → B) (hx : x = nI a := by rfl) (hy : y = nI b := by rfl) (ha : a < 2 ^ 31 := by omega) (hb : b < 2 ^ 31 := by omega) : (x = y → A) ∧ (¬ x = y → B) := by
  subst hx hy
  rw [nI_eq ha hb]
  exact ⟨f, g⟩
theorem pk_in {x : Int32} (n N : Nat) (h : n < N) (hx : x = nI n := by rfl) (hN : N < 2 ^ 31 := by omega) : vp_in x N := by
  subst hx
  exact vp_in_nI h hN
theorem pk_cl {x : Int32} (n : Nat) (hx : x = nI n := by rfl) (h : n < 2 ^ 31 := by omega) : x.toNatClampNeg = n := by
  subst hx
  exact nI_clamp h
def fl_cut (s j : Nat) : Bool := s.testBit (j / 6) && !s.testBit (j % 6)
/-- the width of side s over the first j cells -/
def fl_w (c : Nat → Nat) (s : Nat) : Nat → Nat
  | 0 => 0
  | j + 1 => fl_w c s j + (if fl_cut s j = true then c j else 0)
/-- how many of the first j cells t cuts and s does not -/
def fl_d (t s : Nat) : Nat → Nat
  | 0 => 0
  | j + 1 => fl_d t s j + (if fl_cut t j = true ∧ fl_cut s j = false then 1 else 0)
def fl_k (s : Nat) : Nat := (if s.testBit 0 = s.testBit 1 then 0 else 1) + (if s.testBit 2 = s.testBit 3 then 0 else 2)
/-- the least width of the sides of kind g among the first t, 1000 at most -/
def fl_n (c : Nat → Nat) (g : Nat) : Nat → Nat
  | 0 => 1000
  | s + 1 => if fl_k s = g then min (fl_n c g s) (fl_w c s 36) else fl_n c g s
theorem fl_k4 (s : Nat) : fl_k s < 4 := by
  unfold fl_k
  split <;> split <;> decide
theorem fl_wd {c : Nat → Nat} {B : Nat} (h : ∀ j, c j ≤ B) (t s : Nat) : ∀ j, fl_w c t j ≤ fl_w c s j + B * fl_d t s j := by
  intro j
  induction j with
  | zero => exact Nat.zero_le _
  | succ j ih =>
    have hj := h j
    simp only [fl_w, fl_d, Nat.mul_add]
    cases e1 : fl_cut t j <;> cases e2 : fl_cut s j <;> simp <;> omega
theorem fl_w0 (c : Nat → Nat) : ∀ j, fl_w c 0 j = 0 := by
  intro j
  induction j with
  | zero => rfl
  | succ j ih => simp [fl_w, fl_cut, ih]
theorem fl_wle {c : Nat → Nat} (h : ∀ j, c j ≤ 21) (s : Nat) : ∀ j, fl_w c s j ≤ 21 * j := by
  intro j
  induction j with
  | zero => exact Nat.le_refl _
  | succ j ih =>
    have hj := h j
    simp only [fl_w]
    split <;> omega
theorem fl_n_1000 (c : Nat → Nat) (g : Nat) : ∀ t, fl_n c g t ≤ 1000 := by
  intro t
  induction t with
  | zero => exact Nat.le_refl _
  | succ t ih =>
    simp only [fl_n]
    split <;> omega
theorem fl_n_le {c : Nat → Nat} {g : Nat} : ∀ t s, s < t → fl_k s = g → fl_n c g t ≤ fl_w c s 36 := by
  intro t
  induction t with
  | zero => intro s hs; omega
  | succ t ih =>
    intro s hs hk
    simp only [fl_n]
    by_cases e : s = t
    · subst e
      rw [if_pos hk]
      exact Nat.min_le_right _ _
    · have := ih s (by omega) hk
      split <;> omega
theorem fl_n_at (c : Nat → Nat) (g : Nat) : ∀ t, fl_n c g t = 1000 ∨ ∃ s, s < t ∧ fl_k s = g ∧ fl_n c g t = fl_w c s 36 := by
  intro t
  induction t with
  | zero => exact Or.inl rfl
  | succ t ih =>
    simp only [fl_n]
    by_cases e : fl_k t = g
    · rw [if_pos e]
      by_cases m : fl_n c g t ≤ fl_w c t 36
      · rw [Nat.min_eq_left m]
        rcases ih with h | ⟨s, h1, h2, h3⟩
        · exact Or.inl h
        · exact Or.inr ⟨s, by omega, h2, h3⟩
      · rw [Nat.min_eq_right (by omega)]
        exact Or.inr ⟨t, by omega, e, rfl⟩
    · rw [if_neg e]
      rcases ih with h | ⟨s, h1, h2, h3⟩
      · exact Or.inl h
      · exact Or.inr ⟨s, by omega, h2, h3⟩
set_option maxRecDepth 100000 in
theorem fl_t2 : ∀ s, s < 64 → fl_k s = 2 → (s ^^^ 1 < 64 ∧ fl_k (s ^^^ 1) = 3 ∧ fl_d (s ^^^ 1) s 36 ≤ 4) := by decide +kernel
set_option maxRecDepth 100000 in
theorem fl_t1 : ∀ s, s < 64 → fl_k s = 1 → (s ^^^ 4 < 64 ∧ fl_k (s ^^^ 4) = 3 ∧ fl_d (s ^^^ 4) s 36 ≤ 4) := by decide +kernel
theorem fl_d1 : fl_d 1 0 36 = 5 := by decide +kernel
theorem fl_d4 : fl_d 4 0 36 = 5 := by decide +kernel
theorem fl_d5 : fl_d 5 0 36 = 8 := by decide +kernel
def fl_n1 (c : Nat → Nat) : Nat := fl_n c 1 64
def fl_n2 (c : Nat → Nat) : Nat := fl_n c 2 64
def fl_n3 (c : Nat → Nat) : Nat := fl_n c 3 64
theorem fl_n1m (c : Nat → Nat) : fl_n1 c ≤ 1000 := fl_n_1000 c 1 64
theorem fl_n2m (c : Nat → Nat) : fl_n2 c ≤ 1000 := fl_n_1000 c 2 64
theorem fl_n3m (c : Nat → Nat) : fl_n3 c ≤ 1000 := fl_n_1000 c 3 64
theorem fl_b1 {c : Nat → Nat} (h : ∀ j, c j ≤ 20) : fl_n1 c ≤ 100 := by
  have a : fl_n1 c ≤ fl_w c 1 36 := fl_n_le 64 1 (by decide) (by decide)
  have b := fl_wd h 1 0 36
  rw [fl_w0, fl_d1] at b
  omega
theorem fl_b2 {c : Nat → Nat} (h : ∀ j, c j ≤ 20) : fl_n2 c ≤ 100 := by
  have a : fl_n2 c ≤ fl_w c 4 36 := fl_n_le 64 4 (by decide) (by decide)
  have b := fl_wd h 4 0 36
  rw [fl_w0, fl_d4] at b
  omega
theorem fl_b3 {c : Nat → Nat} (h : ∀ j, c j ≤ 21) : fl_n3 c ≤ 200 := by
  have a : fl_n3 c ≤ fl_w c 5 36 := fl_n_le 64 5 (by decide) (by decide)
  have b := fl_wd h 5 0 36
  rw [fl_w0, fl_d5] at b
  omega
theorem fl_b32 {c : Nat → Nat} (h : ∀ j, c j ≤ 21) : fl_n3 c ≤ fl_n2 c + 100 := by
  rcases fl_n_at c 2 64 with e | ⟨s, hs, hk, e⟩
  · have a := fl_n3m c
    have b : fl_n2 c = 1000 := e
    omega
  · obtain ⟨h1, h2, h3⟩ := fl_t2 s hs hk
    have a : fl_n3 c ≤ fl_w c (s ^^^ 1) 36 := fl_n_le 64 _ h1 h2
    have b := fl_wd h (s ^^^ 1) s 36
    have d : fl_n2 c = fl_w c s 36 := e
    omega
theorem fl_b31 {c : Nat → Nat} (h : ∀ j, c j ≤ 21) : fl_n3 c ≤ fl_n1 c + 100 := by
  rcases fl_n_at c 1 64 with e | ⟨s, hs, hk, e⟩
  · have a := fl_n3m c
    have b : fl_n1 c = 1000 := e
    omega
  · obtain ⟨h1, h2, h3⟩ := fl_t1 s hs hk
    have a : fl_n3 c ≤ fl_w c (s ^^^ 4) 36 := fl_n_le 64 _ h1 h2
    have b := fl_wd h (s ^^^ 4) s 36
    have d : fl_n1 c = fl_w c s 36 := e
    omega
/-- the state of both sides: capacity c j in cell j -/
def fl_a (c : Nat → Nat) : Nat → Int32 := fun j => nI (c j)
def fl_u (c : Nat → Nat) (k w : Nat) : Nat → Nat := fun j => if j = k then w else c j
theorem fl_upd (c : Nat → Nat) (k w : Nat) : upd (fl_a c) k (nI w) = fl_a (fl_u c k w) := by
  funext j
  unfold upd fl_a fl_u
  split <;> rfl
theorem fl_ule {c : Nat → Nat} {k w B : Nat} (h : ∀ j, c j ≤ B) (hw : w ≤ B) : ∀ j, fl_u c k w j ≤ B := by
  intro j
  unfold fl_u
  split
  · exact hw
  · exact h j
set_option maxRecDepth 100000 in
theorem fl_bit : ∀ s, s < 64 → ∀ p, p < 6 → ((nI s >>> (nI p &&& 31)) &&& 1) = (if s.testBit p = true then 1 else 0) := by decide +kernel
set_option maxRecDepth 100000 in
theorem fl_kind : ∀ s, s < 64 → (((nI s ^^^ (nI s >>> ((1 : Int32) &&& 31))) &&& 1) ||| ((((nI s ^^^ (nI s >>> ((1 : Int32) &&& 31))) >>> ((2 : Int32) &&& 31)) &&& 1) <<< ((1 : Int32) &&& 31))) = nI (fl_k s) := by decide +kernel
theorem fl_six {x : Int32} (h0 : ¬ x < 0) (h6 : ¬ 6 ≤ x) : ∃ a : Nat, a < 6 ∧ x = nI a := by
  obtain ⟨j, hj, rfl⟩ := nI_of h0
  refine ⟨j, ?_, rfl⟩
  rw [show (6 : Int32) = nI 6 from rfl, nI_leI (by decide) hj] at h6
  omega
theorem fl_six' {x : Int32} (h0 : ¬ x < 0) (h6 : ¬ 5 < x) : ∃ a : Nat, a < 6 ∧ x = nI a := by
  obtain ⟨j, hj, rfl⟩ := nI_of h0
  refine ⟨j, ?_, rfl⟩
  rw [show (5 : Int32) = nI 5 from rfl, nI_ltI (by decide) hj] at h6
  omega
end
section
def fl_v (b : Bool) : Int32 := if b = true then 1 else 0
theorem fl_vv {x y : Bool} : fl_v x = fl_v y ↔ x = y := by
  cases x <;> cases y <;> decide
theorem fl_isIn {post : Int32 → Prop} {s p : Nat} (hs : s < 64) (hp : p < 6) (h : post (fl_v (s.testBit p))) : wpX_isIn post (nI p) (nI s) := by
  unfold wpX_isIn
  rw [fl_bit s hs p hp]
  cases e : s.testBit p
  · rw [e] at h
    exact br_f (by decide) h
  · rw [e] at h
    exact br_t (by decide) h
theorem fl_Xw25 (post : Int32 → Prop) (J : Int32 → Int32 → Prop) (c : Nat → Nat) (s : Nat) (hs : s < 64) (a : Nat) (ha : a < 6) (HJ : J (nI (fl_w c s (6 * a + 6))) (nI (a + 1))) : ∀ n b, b ≤ 6 → 6 - b < n → wX_width_25 post J (nI s) (nI a) (fl_a c) n (nI (fl_w c s (6 * a + b))) (nI b) := by
  intro n
  induction n with
  | zero => intro b hb hn; omega
  | succ n ih =>
    intro b hb hn
    rw [wX_width_25]
    refine pk_le 6 b (fun h => ?_) (fun h => ?_)
    · obtain rfl : b = 6 := by omega
      exact nm_r (nI_1 a) HJ
    · have hi : nI a * 6 + nI b = nI (6 * a + b) := by
        rw [show (6 : Int32) = nI 6 from rfl, pk_mul, nI_add, Nat.mul_comm]
      have e1 : (6 * a + b) / 6 = a := by omega
      have e2 : (6 * a + b) % 6 = b := by omega
      have I := ih (b + 1) (by omega) (by omega)
      have st : fl_w c s (6 * a + (b + 1)) = fl_w c s (6 * a + b) + (if fl_cut s (6 * a + b) = true then c (6 * a + b) else 0) := rfl
      rw [st] at I
      unfold fl_cut at I
      rw [e1, e2] at I
      refine fl_isIn hs ha ?_
      cases ea : s.testBit a
      · rw [ea] at I
        exact br_t rfl (nm_r (nI_1 b) I)
      · refine br_f (by decide) (fl_isIn hs h ?_)
        cases eb : s.testBit b
        · rw [ea, eb] at I
          refine br_t rfl ⟨pk_in (6 * a + b) 36 (by omega) hi, nm_r ?_ (nm_r (nI_1 b) I)⟩
          rw [hi, nI_clamp (by omega)]
          exact nI_add _ _
        · rw [ea, eb] at I
          exact br_f (by decide) (nm_r (nI_1 b) I)
theorem fl_Xw16 (post : Int32 → Prop) (c : Nat → Nat) (s : Nat) (hs : s < 64) (hp : post (nI (fl_w c s 36))) : ∀ n a, a ≤ 6 → 6 - a < n → wX_width_16 post (nI s) (fl_a c) n (nI (fl_w c s (6 * a))) (nI a) := by
  intro n
  induction n with
  | zero => intro b hb hn; omega
  | succ n ih =>
    intro a ha hn
    rw [wX_width_16]
    refine pk_le 6 a (fun h => ?_) (fun h => ⟨7, ?_⟩)
    · obtain rfl : a = 6 := by omega
      exact hp
    · exact fl_Xw25 post _ c s hs a h (ih (a + 1) (by omega) (by omega)) 7 0 (by omega) (by omega)
theorem fl_Xwidth {post : Int32 → Prop} {c : Nat → Nat} {s : Nat} (hs : s < 64) (hp : post (nI (fl_w c s 36))) : wpX_width post (fl_a c) (nI s) := by
  unfold wpX_width
  exact br_f (nI_pos (by omega)) (br_t (nI_lt (b := 64) hs (by decide)) ⟨7, fl_Xw16 post c s hs hp 7 0 (by omega) (by omega)⟩)
theorem fl_sep18 {post : Int32 → Prop} {s z : Nat} (hs : s < 64) (h : post (nI (z + if s.testBit 2 = s.testBit 3 then 0 else 2))) : wX_separatedBy_18 post (nI s) (nI z) := by
  unfold wX_separatedBy_18
  refine fl_isIn (p := 2) hs (by decide) (fl_isIn (p := 3) hs (by decide) ?_)
  refine br_c (fun e => ?_) (fun e => ?_)
  · rw [if_pos (fl_vv.mp e)] at h
    exact h
  · rw [if_neg (fun q => e (fl_vv.mpr q))] at h
    exact nm_r (nI_add z 2) h
theorem fl_Xsep {post : Int32 → Prop} {s : Nat} (hs : s < 64) (h : post (nI (fl_k s))) : wpX_separatedBy post (nI s) := by
  unfold wpX_separatedBy
  unfold fl_k at h
  refine fl_isIn (p := 0) hs (by decide) (fl_isIn (p := 1) hs (by decide) ?_)
  refine br_c (fun e => ?_) (fun e => ?_)
  · rw [if_pos (fl_vv.mp e)] at h
    exact fl_sep18 (z := 0) hs h
  · rw [if_neg (fun q => e (fl_vv.mpr q))] at h
    exact nm_r (nI_add 0 1) (fl_sep18 (z := 1) hs h)
theorem fl_Xsm {post : Int32 → Prop} {p q : Nat} (hp : p < 2 ^ 31) (hq : q < 2 ^ 31) (h : post (nI (min p q))) : wpX_smaller post (nI p) (nI q) := by
  unfold wpX_smaller
  refine pk_le q p (fun e => ?_) (fun e => ?_)
  · rw [Nat.min_eq_right e] at h
    exact h
  · rw [Nat.min_eq_left (by omega)] at h
    exact h
theorem fl_Xn6 (post : Int32 → Prop) {c : Nat → Nat} (hc : ∀ j, c j ≤ 21) (g : Nat) (hg : g < 4) (hp : post (nI (fl_n c g 64))) : ∀ n s, s ≤ 64 → 64 - s < n → wX_narrowest_6 post (nI g) (fl_a c) n (nI (fl_n c g s)) (nI s) := by
  intro n
  induction n with
  | zero => intro b hb hn; omega
  | succ n ih =>
    intro s hs hn
    rw [wX_narrowest_6]
    refine pk_le 64 s (fun h => ?_) (fun h => ?_)
    · obtain rfl : s = 64 := by omega
      exact hp
    · have I := ih (s + 1) (by omega) (by omega)
      have k4 := fl_k4 s
      have nm := fl_n_1000 c g s
      have wm := fl_wle hc s 36
      rw [show fl_n c g (s + 1) = (if fl_k s = g then min (fl_n c g s) (fl_w c s 36) else fl_n c g s) from rfl] at I
      refine fl_Xsep h ?_
      refine pk_eq (fl_k s) g (fun e => ?_) (fun e => ?_)
      · rw [if_pos e] at I
        exact fl_Xwidth h (fl_Xsm (by omega) (by omega) (nm_r (nI_1 s) I))
      · rw [if_neg e] at I
        exact nm_r (nI_1 s) I
theorem fl_Xnar {post : Int32 → Prop} {c : Nat → Nat} (hc : ∀ j, c j ≤ 21) (g : Nat) (hg : g < 4) (hp : post (nI (fl_n c g 64))) : wpX_narrowest post (fl_a c) (nI g) := by
  unfold wpX_narrowest
  exact ⟨65, fl_Xn6 post hc g hg hp 65 0 (by omega) (by omega)⟩
theorem fl_Xnar1 {post : Int32 → Prop} {c : Nat → Nat} (hc : ∀ j, c j ≤ 21) (hp : post (nI (fl_n1 c))) : wpX_narrowest post (fl_a c) 1 := fl_Xnar hc 1 (by decide) hp
theorem fl_Xnar2 {post : Int32 → Prop} {c : Nat → Nat} (hc : ∀ j, c j ≤ 21) (hp : post (nI (fl_n2 c))) : wpX_narrowest post (fl_a c) 2 := fl_Xnar hc 2 (by decide) hp
theorem fl_Xnar3 {post : Int32 → Prop} {c : Nat → Nat} (hc : ∀ j, c j ≤ 21) (hp : post (nI (fl_n3 c))) : wpX_narrowest post (fl_a c) 3 := fl_Xnar hc 3 (by decide) hp
end
section
def fl_y (a : Nat → Int32) (x : Int32) : Nat → Int32
  | 0 => 0
  | j + 1 => if ((x >>> (nI (j / 6) &&& 31)) &&& 1) = 1 ∧ ((x >>> (nI (j % 6) &&& 31)) &&& 1) = 0 then fl_y a x j + a j else fl_y a x j
theorem fl_Yw4 (post : Int32 → Prop) (a l : Nat → Int32) (x : Int32) (hp : (x < 0 → post (-1)) ∧ (¬ x < 0 → ((x ≤ 63 → post (fl_y a x 36)) ∧ (¬ x ≤ 63 → post (-1))))) : ∀ n j, j ≤ 36 → 36 - j < n → wY_width_4 post x a l n (fl_y a x j) (nI j) := by
  intro n
  induction n with
  | zero => intro b hb hn; omega
  | succ n ih =>
    intro j hj hn
    rw [wY_width_4]
    refine pk_le 36 j (fun h => ?_) (fun h => ⟨by decide, ?_⟩)
    · obtain rfl : j = 36 := by omega
      exact hp
    · have hd : nI j / 6 = nI (j / 6) := pk_div (d := 6) (by omega) (by decide) (by decide)
      have hr : nI j - nI j / 6 * 6 = nI (j % 6) := pk_rem (d := 6) (by omega) (by decide) (by decide)
      have I := ih (j + 1) (by omega) (by omega)
      rw [show fl_y a x (j + 1) = (if ((x >>> (nI (j / 6) &&& 31)) &&& 1) = 1 ∧ ((x >>> (nI (j % 6) &&& 31)) &&& 1) = 0 then fl_y a x j + a j else fl_y a x j) from rfl] at I
      rw [hr, hd]
      refine br_c (fun e1 => ⟨by decide, br_c (fun e2 => ?_) (fun e2 => ?_)⟩) (fun e1 => ?_)
      · rw [if_pos ⟨e1, e2⟩] at I
        unfold wY_width_38
        refine br_f (by decide) ⟨vp_in_nI h (by decide), nm_r ?_ (nm_r (nI_1 j) I)⟩
        rw [nI_clamp (by omega)]
      · rw [if_neg (fun z => e2 z.2)] at I
        unfold wY_width_37 wY_width_38
        exact br_t rfl (nm_r (nI_1 j) I)
      · rw [if_neg (fun z => e1 z.1)] at I
        unfold wY_width_37 wY_width_38
        exact br_t rfl (nm_r (nI_1 j) I)
theorem fl_yw {c : Nat → Nat} {s : Nat} (hs : s < 64) : ∀ j, j ≤ 36 → fl_y (fl_a c) (nI s) j = nI (fl_w c s j) := by
  intro j
  induction j with
  | zero => intro _; rfl
  | succ j ih =>
    intro hj
    have I := ih (by omega)
    simp only [fl_y, fl_w, fl_cut]
    rw [fl_bit s hs (j / 6) (by omega), fl_bit s hs (j % 6) (by omega), I]
    rcases Bool.eq_false_or_eq_true (s.testBit (j / 6)) with e1 | e1 <;> rcases Bool.eq_false_or_eq_true (s.testBit (j % 6)) with e2 | e2 <;> simp [e1, e2, fl_a, nI_add]
theorem fl_Ywidth {post : Int32 → Prop} {c : Nat → Nat} {l : Nat → Int32} {s : Nat} (hs : s < 64) (hp : post (nI (fl_w c s 36))) : wpY_width post (fl_a c, l) (nI s) := by
  unfold wpY_width
  refine ⟨37, fl_Yw4 post (fl_a c) l (nI s) ?_ 37 0 (by omega) (by omega)⟩
  rw [fl_yw hs 36 (by omega)]
  exact br_f (nI_pos (by omega)) (br_t (nI_le (b := 63) (by omega) (by decide)) hp)
theorem fl_Ywk24 (post : SY → Prop) {c : Nat → Nat} (hc : ∀ j, c j ≤ 21) (hp : ∀ l : Nat → Int32, (∀ g, g < 4 → l g = nI (fl_n c g 64)) → post (fl_a c, l)) : ∀ n s (l : Nat → Int32), s ≤ 64 → 64 - s < n → (∀ g, g < 4 → l g = nI (fl_n c g s)) → wY_work_24 post n (nI s) (fl_a c) l := by
  intro n
  induction n with
  | zero => intro s l hs hn; omega
  | succ n ih =>
    intro s l hs hn hl
    rw [wY_work_24]
    refine pk_le 64 s (fun h => ?_) (fun h => ?_)
    · obtain rfl : s = 64 := by omega
      exact hp l hl
    · intro x2 ex2 x3 ex3
      have e3 : x3 = nI (fl_k s) := by
        rw [ex3, ex2]
        exact fl_kind s h
      clear ex3 ex2
      subst e3
      have k4 := fl_k4 s
      have wm := fl_wle hc s 36
      have nm := fl_n_1000 c (fl_k s) s
      have hin : vp_in (nI (fl_k s)) 4 := vp_in_nI k4 (by decide)
      have hck : (nI (fl_k s)).toNatClampNeg = fl_k s := nI_clamp (by omega)
      have hs1 : ∀ g, fl_n c g (s + 1) = (if fl_k s = g then min (fl_n c g s) (fl_w c s 36) else fl_n c g s) := fun g => rfl
      refine fl_Ywidth h ⟨hin, ?_⟩
      rw [hck, hl _ k4]
      refine pk_le (fl_n c (fl_k s) s) (fl_w c s 36) (fun e => ⟨hin, hin, nm_e (nm_r (nI_1 s) (ih (s + 1) _ (by omega) (by omega) ?_))⟩) (fun e => ⟨hin, nm_e (nm_r (nI_1 s) (ih (s + 1) _ (by omega) (by omega) ?_))⟩)
      · intro g hg
        rw [hs1 g]
        unfold upd
        by_cases q : g = fl_k s
        · rw [if_pos q, if_pos q.symm, q, Nat.min_eq_left e]
        · rw [if_neg q, if_neg (fun z => q z.symm), hl g hg]
      · intro g hg
        rw [hs1 g]
        unfold upd
        by_cases q : g = fl_k s
        · rw [if_pos q, if_pos q.symm, q, Nat.min_eq_right (by omega)]
        · rw [if_neg q, if_neg (fun z => q z.symm), hl g hg]
theorem fl_Ywk2 (post : SY → Prop) {c : Nat → Nat} (hc : ∀ j, c j ≤ 21) (hp : ∀ l : Nat → Int32, (∀ g, g < 4 → l g = nI (fl_n c g 64)) → post (fl_a c, l)) : ∀ n i (l : Nat → Int32), i ≤ 4 → 4 - i < n → (∀ g, g < i → l g = 1000) → wY_work_2 post n (nI i) (fl_a c) l := by
  intro n
  induction n with
  | zero => intro s l hs hn; omega
  | succ n ih =>
    intro i l hi hn hl
    rw [wY_work_2]
    refine pk_le 4 i (fun h => ⟨65, ?_⟩) (fun h => ⟨vp_in_nI h (by decide), nm_e (nm_r (nI_1 i) (ih (i + 1) _ (by omega) (by omega) ?_))⟩)
    · refine fl_Ywk24 post hc hp 65 0 l (by omega) (by omega) (fun g hg => ?_)
      exact hl g (by omega)
    · intro g hg
      rw [nI_clamp (by omega)]
      unfold upd
      by_cases q : g = i
      · rw [if_pos q]
      · rw [if_neg q]
        exact hl g (by omega)
/-- what the reference's work leaves in limits -/
def fl_L (c : Nat → Nat) (l : Nat → Int32) : Prop := l 1 = nI (fl_n1 c) ∧ l 2 = nI (fl_n2 c) ∧ l 3 = nI (fl_n3 c)
theorem fl_Ywork {post : SY → Prop} {c : Nat → Nat} {l0 : Nat → Int32} (hc : ∀ j, c j ≤ 21) (hp : ∀ l : Nat → Int32, fl_L c l → post (fl_a c, l)) : wpY_work post (fl_a c, l0) := by
  unfold wpY_work
  exact ⟨5, fl_Ywk2 post hc (fun l hl => hp l ⟨hl 1 (by decide), hl 2 (by decide), hl 3 (by decide)⟩) 5 0 l0 (by omega) (by omega) (fun g hg => absurd hg (by omega))⟩
theorem fl_Yfits {post : Int32 → Prop} {c : Nat → Nat} {l : Nat → Int32} {x y : Nat} (hl : fl_L c l) (hx : x ≤ 100000) (hy : y ≤ 100000) (hT : x ≤ fl_n1 c → y ≤ fl_n2 c → x + y ≤ fl_n3 c → post 1) (hF : ¬ (x ≤ fl_n1 c ∧ y ≤ fl_n2 c ∧ x + y ≤ fl_n3 c) → post 0) : wpY_fits post (fl_a c, l) (nI x) (nI y) := by
  obtain ⟨h1, h2, h3⟩ := hl
  have m1 := fl_n1m c
  have m2 := fl_n2m c
  have m3 := fl_n3m c
  unfold wpY_fits
  dsimp only
  rw [h1, h2, h3, nI_add]
  refine br_f (nI_pos (by omega)) (br_f (nI_pos (by omega)) ?_)
  refine pk_lt (fl_n1 c) x (fun e => hF (by omega)) (fun e1 => ?_)
  refine pk_lt (fl_n2 c) y (fun e => hF (by omega)) (fun e2 => ?_)
  exact pk_lt (fl_n3 c) (x + y) (fun e => hF (by omega)) (fun e3 => hT e1 e2 e3)
end
section
theorem fl_21 {c : Nat → Nat} (h : ∀ j, c j ≤ 20) : ∀ j, c j ≤ 21 := fun j => Nat.le_trans (h j) (by decide)
def fl_ok (p0 p1 : Int32) : Prop := ∃ a b : Nat, a < 6 ∧ b < 6 ∧ a ≠ b ∧ p0 = nI a ∧ p1 = nI b
theorem fl_XplT {post : Int32 → Prop} {a b : Nat} (ha : a < 6) (hb : b < 6) (hn : a ≠ b) (h : post 1) : wpX_arePlaces post (nI a) (nI b) := by
  unfold wpX_arePlaces
  exact br_f (nI_pos (by omega)) (br_f (nI_ge (b := 6) ha (by decide)) (br_f (nI_pos (by omega)) (br_f (nI_ge (b := 6) hb (by decide)) (br_f (fun e => hn ((nI_eq (by omega) (by omega)).mp e)) h))))
theorem fl_XplF {post : Int32 → Prop} {p0 p1 : Int32} (hn : ¬ fl_ok p0 p1) (h : post 0) : wpX_arePlaces post p0 p1 := by
  unfold wpX_arePlaces
  refine br_c (fun _ => h) (fun h0 => br_c (fun _ => h) (fun h6 => br_c (fun _ => h) (fun k0 => br_c (fun _ => h) (fun k6 => br_c (fun _ => h) (fun ne => ?_)))))
  obtain ⟨a, ha, rfl⟩ := fl_six h0 h6
  obtain ⟨b, hb, rfl⟩ := fl_six k0 k6
  exact absurd ⟨a, b, ha, hb, fun e => ne (by rw [e]), rfl, rfl⟩ hn
theorem fl_YplT {post : Int32 → Prop} {u : SY} {a b : Nat} (ha : a < 6) (hb : b < 6) (hn : a ≠ b) (h : post 1) : wpY_pair post u (nI a) (nI b) := by
  unfold wpY_pair
  exact br_f (fun e => hn ((nI_eq (by omega) (by omega)).mp e)) (br_f (nI_pos (by omega)) (br_f (nI_nlt (a := 5) (by omega) (by decide)) (br_f (nI_pos (by omega)) (br_f (nI_nlt (a := 5) (by omega) (by decide)) h))))
theorem fl_YplF {post : Int32 → Prop} {u : SY} {p0 p1 : Int32} (hn : ¬ fl_ok p0 p1) (h : post 0) : wpY_pair post u p0 p1 := by
  unfold wpY_pair
  refine br_c (fun _ => h) (fun ne => br_c (fun _ => h) (fun h0 => br_c (fun _ => h) (fun h6 => br_c (fun _ => h) (fun k0 => br_c (fun _ => h) (fun k6 => ?_)))))
  obtain ⟨a, ha, rfl⟩ := fl_six' h0 h6
  obtain ⟨b, hb, rfl⟩ := fl_six' k0 k6
  exact absurd ⟨a, b, ha, hb, fun e => ne (by rw [e]), rfl, rfl⟩ hn
theorem fl_ixX (a b : Nat) : nI a * 6 + nI b = nI (6 * a + b) := by
  rw [show (6 : Int32) = nI 6 from rfl, pk_mul, nI_add, Nat.mul_comm]
theorem fl_ixY (a b : Nat) : 6 * nI a + nI b = nI (6 * a + b) := by
  rw [show (6 : Int32) = nI 6 from rfl, pk_mul, nI_add]
/-- both cells of the pair a, b hold w -/
def fl_s (c : Nat → Nat) (a b w : Nat) : Nat → Nat := fl_u (fl_u c (6 * a + b) w) (6 * b + a) w
theorem fl_sle {c : Nat → Nat} {a b w B : Nat} (h : ∀ j, c j ≤ B) (hw : w ≤ B) : ∀ j, fl_s c a b w j ≤ B := fl_ule (fl_ule h hw) hw
theorem fl_Xstore {post : SX → Prop} {c : Nat → Nat} {a b w : Nat} (ha : a < 6) (hb : b < 6) (h : post (fl_a (fl_s c a b w))) : wpX_store post (fl_a c) (nI a) (nI b) (nI w) := by
  unfold wpX_store
  refine ⟨pk_in (6 * a + b) 36 (by omega) (fl_ixX a b), nm_r (e' := fl_a (fl_u c (6 * a + b) w)) ?_ ⟨pk_in (6 * b + a) 36 (by omega) (fl_ixX b a), nm_r (e' := fl_a (fl_s c a b w)) ?_ h⟩⟩
  · rw [fl_ixX, nI_clamp (by omega), fl_upd]
  · rw [fl_ixX, nI_clamp (by omega), fl_upd]
    rfl
theorem fl_Yput {post : SY → Prop} {c : Nat → Nat} {l : Nat → Int32} {a b w : Nat} (ha : a < 6) (hb : b < 6) (h : post (fl_a (fl_s c a b w), l)) : wpY_put post (fl_a c, l) (nI a) (nI b) (nI w) := by
  unfold wpY_put
  refine ⟨pk_in (6 * a + b) 36 (by omega) (fl_ixY a b), nm_r (e' := fl_a (fl_u c (6 * a + b) w)) ?_ ⟨pk_in (6 * b + a) 36 (by omega) (fl_ixY b a), nm_r (e' := fl_a (fl_s c a b w)) ?_ h⟩⟩
  · rw [fl_ixY, nI_clamp (by omega), fl_upd]
  · rw [fl_ixY, nI_clamp (by omega), fl_upd]
    rfl
/-- carries -/
def fl_c (c : Nat → Nat) (p0 p1 : Int32) : Int32 := if p0 < 0 ∨ p1 < 0 ∨ ¬ (p0.toNatClampNeg ≤ fl_n1 c ∧ p1.toNatClampNeg ≤ fl_n2 c ∧ p0.toNatClampNeg + p1.toNatClampNeg ≤ fl_n3 c) then 0 else 1
theorem fl_cT {c : Nat → Nat} {x y : Nat} (hx : x < 2 ^ 31) (hy : y < 2 ^ 31) (h1 : x ≤ fl_n1 c) (h2 : y ≤ fl_n2 c) (h3 : x + y ≤ fl_n3 c) : fl_c c (nI x) (nI y) = 1 := by
  unfold fl_c
  rw [nI_clamp hx, nI_clamp hy]
  exact if_neg (fun z => z.elim (nI_pos hx) (fun z => z.elim (nI_pos hy) (fun z => z ⟨h1, h2, h3⟩)))
theorem fl_cF {c : Nat → Nat} {x y : Nat} (hx : x < 2 ^ 31) (hy : y < 2 ^ 31) (h : ¬ (x ≤ fl_n1 c ∧ y ≤ fl_n2 c ∧ x + y ≤ fl_n3 c)) : fl_c c (nI x) (nI y) = 0 := by
  unfold fl_c
  rw [nI_clamp hx, nI_clamp hy]
  exact if_pos (Or.inr (Or.inr h))
theorem fl_Xcar {post : Int32 → Prop} {c : Nat → Nat} {p0 p1 : Int32} (hc : ∀ j, c j ≤ 21) (h : post (fl_c c p0 p1)) : wpX_carries post (fl_a c) p0 p1 := by
  unfold wpX_carries
  have m1 := fl_n1m c
  have m2 := fl_n2m c
  have m3 := fl_n3m c
  by_cases n0 : p0 < 0
  · rw [show fl_c c p0 p1 = 0 from if_pos (Or.inl n0)] at h
    exact br_t n0 h
  · by_cases n1 : p1 < 0
    · rw [show fl_c c p0 p1 = 0 from if_pos (Or.inr (Or.inl n1))] at h
      exact br_f n0 (br_f (Int32.not_le.mpr n1) h)
    · obtain ⟨x, hx, rfl⟩ := nI_of n0
      obtain ⟨y, hy, rfl⟩ := nI_of n1
      refine br_f n0 (br_t (Int32.not_lt.mp n1) ?_)
      rw [nI_add]
      refine fl_Xnar1 hc (pk_lt (fl_n1 c) x (fun e => ?_) (fun e1 => ?_))
      · rw [fl_cF hx hy (by omega)] at h
        exact h
      · refine fl_Xnar2 hc (pk_lt (fl_n2 c) y (fun e => ?_) (fun e2 => ?_))
        · rw [fl_cF hx hy (by omega)] at h
          exact h
        · refine fl_Xnar3 hc (pk_lt (fl_n3 c) (x + y) (fun e => ?_) (fun e3 => ?_))
          · rw [fl_cF hx hy (by omega)] at h
            exact h
          · rw [fl_cT hx hy e1 e2 e3] at h
            exact h
theorem fl_Ycar {post : Int32 → SY → Prop} {c : Nat → Nat} {l0 : Nat → Int32} {p0 p1 : Int32} (hc : ∀ j, c j ≤ 21) (h : ∀ l, post (fl_c c p0 p1) (fl_a c, l)) : wpY_carries post (fl_a c, l0) p0 p1 := by
  unfold wpY_carries
  have m1 := fl_n1m c
  have m2 := fl_n2m c
  have m3 := fl_n3m c
  refine fl_Ywork hc (fun l hl => ?_)
  have h := h l
  by_cases n0 : p0 < 0
  · rw [show fl_c c p0 p1 = 0 from if_pos (Or.inl n0)] at h
    exact br_t n0 h
  · refine br_f n0 ?_
    obtain ⟨x, hx, rfl⟩ := nI_of n0
    by_cases n1 : p1 < 0
    · rw [show fl_c c (nI x) p1 = 0 from if_pos (Or.inr (Or.inl n1))] at h
      exact br_c (fun _ => h) (fun _ => br_t n1 h)
    · obtain ⟨y, hy, rfl⟩ := nI_of n1
      refine pk_lt 1000 x (fun e => ?_) (fun e => br_f n1 (pk_lt 1000 y (fun e => ?_) (fun e2 => ?_)))
      · rw [fl_cF hx hy (by omega)] at h
        exact h
      · rw [fl_cF hx hy (by omega)] at h
        exact h
      · refine fl_Yfits hl (by omega) (by omega) (fun h1 h2 h3 => ?_) (fun hF => ?_)
        · rw [fl_cT hx hy h1 h2 h3] at h
          exact br_f (by decide) h
        · rw [fl_cF hx hy hF] at h
          exact br_t rfl h
end
section
def fl_mo (c : Nat → Nat) : Nat := min (fl_n1 c + fl_n2 c) (fl_n3 c)
def fl_al0 (c : Nat → Nat) : Nat := min (fl_n1 c) (fl_n3 c)
def fl_al1 (c : Nat → Nat) : Nat := min (fl_n2 c) (fl_n3 c)
def fl_ev (c : Nat → Nat) : Nat := min (min (fl_n1 c) (fl_n2 c)) (fl_n3 c / 2)
theorem fl_Xal0 {post : Int32 → Prop} {c : Nat → Nat} (hc : ∀ j, c j ≤ 21) (h : post (nI (fl_al0 c))) : wpX_alone post (fl_a c) 0 := by
  have m1 := fl_n1m c
  have m3 := fl_n3m c
  unfold wpX_alone wX_alone_11 wX_alone_21
  exact br_t rfl (br_t rfl (fl_Xnar1 hc (fl_Xnar3 hc (fl_Xsm (by omega) (by omega) h))))
theorem fl_Xal1 {post : Int32 → Prop} {c : Nat → Nat} (hc : ∀ j, c j ≤ 21) (h : post (nI (fl_al1 c))) : wpX_alone post (fl_a c) 1 := by
  have m2 := fl_n2m c
  have m3 := fl_n3m c
  unfold wpX_alone wX_alone_11 wX_alone_21
  exact br_f (by decide) (br_t rfl (br_f (by decide) (fl_Xnar2 hc (fl_Xnar3 hc (fl_Xsm (by omega) (by omega) h)))))
theorem fl_XalF {post : Int32 → Prop} {c : Nat → Nat} {p0 : Int32} (h0 : ¬ p0 = 0) (h1 : ¬ p0 = 1) (h : post (-1)) : wpX_alone post (fl_a c) p0 := by
  unfold wpX_alone
  exact br_f h0 (br_f h1 h)
theorem fl_Yal8_0 (post : Int32 → SY → Prop) {c : Nat → Nat} {l : Nat → Int32} (hc : ∀ j, c j ≤ 20) (hl : fl_L c l) (hp : post (nI (fl_al0 c)) (fl_a c, l)) : ∀ n i, i ≤ 101 → 101 - i < n → wY_alone_8 post 0 (fl_a c) l n (nI (min (fl_al0 c) (i - 1))) (nI i) := by
  have hm : fl_al0 c = min (fl_n1 c) (fl_n3 c) := rfl
  have b1 := fl_b1 hc
  intro n
  induction n with
  | zero => intro i hi hn; omega
  | succ n ih =>
    intro i hi hn
    rw [wY_alone_8]
    refine pk_lt 100 i (fun h => br_t rfl ?_) (fun h => br_t rfl ?_)
    · rw [show min (fl_al0 c) (i - 1) = fl_al0 c by omega]
      exact hp
    · have I := ih (i + 1) (by omega) (by omega)
      refine fl_Yfits (y := 0) hl (by omega) (by omega) (fun h1 h2 h3 => ?_) (fun hF => ?_)
      · rw [show min (fl_al0 c) (i + 1 - 1) = i by omega] at I
        exact br_f (by decide) (nm_r (nI_1 i) I)
      · rw [show min (fl_al0 c) (i + 1 - 1) = min (fl_al0 c) (i - 1) by omega] at I
        unfold wY_alone_27
        exact br_t rfl (br_f (by decide) (nm_r (nI_1 i) I))
theorem fl_Yal8_1 (post : Int32 → SY → Prop) {c : Nat → Nat} {l : Nat → Int32} (hc : ∀ j, c j ≤ 20) (hl : fl_L c l) (hp : post (nI (fl_al1 c)) (fl_a c, l)) : ∀ n i, i ≤ 101 → 101 - i < n → wY_alone_8 post 1 (fl_a c) l n (nI (min (fl_al1 c) (i - 1))) (nI i) := by
  have hm : fl_al1 c = min (fl_n2 c) (fl_n3 c) := rfl
  have b2 := fl_b2 hc
  intro n
  induction n with
  | zero => intro i hi hn; omega
  | succ n ih =>
    intro i hi hn
    rw [wY_alone_8]
    refine pk_lt 100 i (fun h => br_f (by decide) (br_t rfl ?_)) (fun h => br_f (by decide) ?_)
    · rw [show min (fl_al1 c) (i - 1) = fl_al1 c by omega]
      exact hp
    · have I := ih (i + 1) (by omega) (by omega)
      unfold wY_alone_27
      refine br_t rfl (fl_Yfits (x := 0) hl (by omega) (by omega) (fun h1 h2 h3 => ?_) (fun hF => ?_))
      · rw [show min (fl_al1 c) (i + 1 - 1) = i by omega] at I
        exact br_f (by decide) (nm_r (nI_1 i) I)
      · rw [show min (fl_al1 c) (i + 1 - 1) = min (fl_al1 c) (i - 1) by omega] at I
        exact br_t rfl (nm_r (nI_1 i) I)
theorem fl_Yal8_F (post : Int32 → SY → Prop) {c : Nat → Nat} {l : Nat → Int32} {p0 : Int32} (h0 : ¬ p0 = 0) (h1 : ¬ p0 = 1) (hp : post (-1) (fl_a c, l)) : ∀ n i, i ≤ 101 → 101 - i < n → wY_alone_8 post p0 (fl_a c) l n 0 (nI i) := by
  intro n
  induction n with
  | zero => intro i hi hn; omega
  | succ n ih =>
    intro i hi hn
    rw [wY_alone_8]
    refine pk_lt 100 i (fun h => br_f h0 (br_f h1 hp)) (fun h => br_f h0 ?_)
    unfold wY_alone_27
    exact br_f h1 (nm_r (nI_1 i) (ih (i + 1) (by omega) (by omega)))
theorem fl_Yal0 {post : Int32 → SY → Prop} {c : Nat → Nat} {l0 : Nat → Int32} (hc : ∀ j, c j ≤ 20) (h : ∀ l, post (nI (fl_al0 c)) (fl_a c, l)) : wpY_alone post (fl_a c, l0) 0 := by
  unfold wpY_alone
  refine fl_Ywork (fl_21 hc) (fun l hl => ⟨102, ?_⟩)
  have H := fl_Yal8_0 post hc hl (h l) 102 0 (by omega) (by omega)
  rw [show min (fl_al0 c) (0 - 1) = 0 by omega] at H
  exact H
theorem fl_Yal1 {post : Int32 → SY → Prop} {c : Nat → Nat} {l0 : Nat → Int32} (hc : ∀ j, c j ≤ 20) (h : ∀ l, post (nI (fl_al1 c)) (fl_a c, l)) : wpY_alone post (fl_a c, l0) 1 := by
  unfold wpY_alone
  refine fl_Ywork (fl_21 hc) (fun l hl => ⟨102, ?_⟩)
  have H := fl_Yal8_1 post hc hl (h l) 102 0 (by omega) (by omega)
  rw [show min (fl_al1 c) (0 - 1) = 0 by omega] at H
  exact H
theorem fl_YalF {post : Int32 → SY → Prop} {c : Nat → Nat} {l0 : Nat → Int32} {p0 : Int32} (hc : ∀ j, c j ≤ 20) (h0 : ¬ p0 = 0) (h1 : ¬ p0 = 1) (h : ∀ l, post (-1) (fl_a c, l)) : wpY_alone post (fl_a c, l0) p0 := by
  unfold wpY_alone
  exact fl_Ywork (fl_21 hc) (fun l hl => ⟨102, fl_Yal8_F post h0 h1 (h l) 102 0 (by omega) (by omega)⟩)
theorem fl_Xmost {post : Int32 → Prop} {c : Nat → Nat} (hc : ∀ j, c j ≤ 21) (h : post (nI (fl_mo c))) : wpX_most post (fl_a c) := by
  have m1 := fl_n1m c
  have m2 := fl_n2m c
  have m3 := fl_n3m c
  unfold wpX_most
  exact fl_Xnar1 hc (fl_Xnar2 hc (nm_r (nI_add _ _) (fl_Xnar3 hc (fl_Xsm (by omega) (by omega) h))))
/-- m is what the double loop has found ahead of (i, j) -/
def fl_M (c : Nat → Nat) (i j m : Nat) : Prop := m ≤ fl_n1 c + fl_n2 c ∧ m ≤ fl_n3 c ∧ ∀ x y, x ≤ fl_n1 c → y ≤ fl_n2 c → x + y ≤ fl_n3 c → y ≤ 100 → (x < i ∨ x = i ∧ y < j) → x + y ≤ m
theorem fl_Mend {c : Nat → Nat} {m : Nat} (hc : ∀ j, c j ≤ 21) (h : fl_M c 101 0 m) : m = fl_mo c := by
  obtain ⟨h1, h2, h3⟩ := h
  have e : fl_mo c = min (fl_n1 c + fl_n2 c) (fl_n3 c) := rfl
  have b3 := fl_b3 hc
  have b32 := fl_b32 hc
  have b31 := fl_b31 hc
  have k := h3 (min (fl_n1 c) (min 100 (fl_n3 c))) (min (fl_n2 c) (min 100 (fl_n3 c - min (fl_n1 c) (min 100 (fl_n3 c))))) (by omega) (by omega) (by omega) (by omega) (by omega)
  omega
theorem fl_Ymo16 (post : Int32 → SY → Prop) (J : Int32 → Int32 → Prop) {c : Nat → Nat} {l : Nat → Int32} (hl : fl_L c l) (i : Nat) (hi : i ≤ 100) (HJ : ∀ m, fl_M c (i + 1) 0 m → J (nI m) (nI (i + 1))) : ∀ n j m, j ≤ 101 → 101 - j < n → fl_M c i j m → wY_most_16 post J (nI i) (fl_a c) l n (nI m) (nI j) := by
  have m3 := fl_n3m c
  intro n
  induction n with
  | zero => intro j m hj hn; omega
  | succ n ih =>
    intro j m hj hn hM
    obtain ⟨h1, h2, h3⟩ := hM
    rw [wY_most_16]
    refine pk_lt 100 j (fun h => ?_) (fun h => ?_)
    · refine nm_r (nI_1 i) (HJ m ⟨h1, h2, fun x y hx hy hxy h100 ho => h3 x y hx hy hxy h100 (by omega)⟩)
    · rw [nI_add i j]
      refine pk_le (i + j) m (fun e => ?_) (fun e => ?_)
      · refine nm_r (nI_1 j) (ih (j + 1) m (by omega) (by omega) ⟨h1, h2, fun x y hx hy hxy h100 ho => ?_⟩)
        by_cases q : x = i ∧ y = j
        · omega
        · exact h3 x y hx hy hxy h100 (by omega)
      · refine fl_Yfits hl (by omega) (by omega) (fun f1 f2 f3 => ?_) (fun hF => ?_)
        · refine br_f (by decide) (nm_e (nm_r (nI_1 j) (ih (j + 1) (i + j) (by omega) (by omega) ⟨by omega, f3, fun x y hx hy hxy h100 ho => ?_⟩)))
          by_cases q : x = i ∧ y = j
          · omega
          · have := h3 x y hx hy hxy h100 (by omega)
            omega
        · refine br_t rfl (nm_r (nI_1 j) (ih (j + 1) m (by omega) (by omega) ⟨h1, h2, fun x y hx hy hxy h100 ho => ?_⟩))
          by_cases q : x = i ∧ y = j
          · obtain ⟨rfl, rfl⟩ := q
            exact absurd ⟨hx, hy, hxy⟩ hF
          · exact h3 x y hx hy hxy h100 (by omega)
theorem fl_Ymo8 (post : Int32 → SY → Prop) {c : Nat → Nat} {l : Nat → Int32} (hc : ∀ j, c j ≤ 21) (hl : fl_L c l) (hp : post (nI (fl_mo c)) (fl_a c, l)) : ∀ n i m, i ≤ 101 → 101 - i < n → fl_M c i 0 m → wY_most_8 post (fl_a c) l n (nI m) (nI i) := by
  intro n
  induction n with
  | zero => intro i m hi hn; omega
  | succ n ih =>
    intro i m hi hn hM
    rw [wY_most_8]
    refine pk_lt 100 i (fun h => ?_) (fun h => ⟨102, ?_⟩)
    · obtain rfl : i = 101 := by omega
      rw [fl_Mend hc hM]
      exact hp
    · exact fl_Ymo16 post _ hl i h (fun m' hM' => ih (i + 1) m' (by omega) (by omega) hM') 102 0 m (by omega) (by omega) hM
theorem fl_Ymost {post : Int32 → SY → Prop} {c : Nat → Nat} {l0 : Nat → Int32} (hc : ∀ j, c j ≤ 21) (h : ∀ l, post (nI (fl_mo c)) (fl_a c, l)) : wpY_most post (fl_a c, l0) := by
  unfold wpY_most
  exact fl_Ywork hc (fun l hl => ⟨102, fl_Ymo8 post hc hl (h l) 102 0 0 (by omega) (by omega) ⟨by omega, by omega, fun x y _ _ _ _ ho => by omega⟩⟩)
theorem fl_Xbes {post : Int32 → Prop} {c : Nat → Nat} {x : Nat} (hc : ∀ j, c j ≤ 21) (h1 : x ≤ fl_n1 c) (h3 : x ≤ fl_n3 c) (h : post (nI (min (fl_n2 c) (fl_n3 c - x)))) : wpX_besides post (fl_a c) (nI x) := by
  have m1 := fl_n1m c
  have m2 := fl_n2m c
  have m3 := fl_n3m c
  unfold wpX_besides
  refine fl_Xcar hc ?_
  rw [show fl_c c (nI x) 0 = 1 from fl_cT (y := 0) (by omega) (by omega) h1 (by omega) (by omega)]
  exact br_f (by decide) (fl_Xnar2 hc (fl_Xnar3 hc (nm_r (pk_sub h3) (fl_Xsm (by omega) (by omega) h))))
theorem fl_XbesF {post : Int32 → Prop} {c : Nat → Nat} {p0 : Int32} (hc : ∀ j, c j ≤ 21) (hF : fl_c c p0 0 = 0) (h : post (-1)) : wpX_besides post (fl_a c) p0 := by
  unfold wpX_besides
  refine fl_Xcar hc ?_
  rw [hF]
  exact br_t rfl h
def fl_bv (m i : Nat) : Int32 := if i = 0 then -1 else nI (min m (i - 1))
theorem fl_Ybes8 (post : Int32 → SY → Prop) {c : Nat → Nat} {l : Nat → Int32} {x : Nat} (hc : ∀ j, c j ≤ 20) (hl : fl_L c l) (h1 : x ≤ fl_n1 c) (h3 : x ≤ fl_n3 c) (hp : post (nI (min (fl_n2 c) (fl_n3 c - x))) (fl_a c, l)) : ∀ n i, i ≤ 101 → 101 - i < n → wY_besides_8 post (nI x) (fl_a c) l n (fl_bv (min (fl_n2 c) (fl_n3 c - x)) i) (nI i) := by
  have b1 := fl_b1 hc
  have b2 := fl_b2 hc
  intro n
  induction n with
  | zero => intro i hi hn; omega
  | succ n ih =>
    intro i hi hn
    rw [wY_besides_8]
    refine pk_lt 100 i (fun h => ?_) (fun h => br_f (nI_pos (by omega)) (br_f (nI_nlt (a := 100) (by omega) (by decide)) ?_))
    · unfold fl_bv
      rw [if_neg (by omega), show min (min (fl_n2 c) (fl_n3 c - x)) (i - 1) = min (fl_n2 c) (fl_n3 c - x) by omega]
      exact hp
    · have I := ih (i + 1) (by omega) (by omega)
      rw [show fl_bv (min (fl_n2 c) (fl_n3 c - x)) (i + 1) = nI (min (min (fl_n2 c) (fl_n3 c - x)) i) from rfl] at I
      refine fl_Yfits hl (by omega) (by omega) (fun f1 f2 f3 => ?_) (fun hF => ?_)
      · rw [show min (min (fl_n2 c) (fl_n3 c - x)) i = i by omega] at I
        exact br_f (by decide) (nm_r (nI_1 i) I)
      · unfold fl_bv
        rw [if_neg (by omega), show min (min (fl_n2 c) (fl_n3 c - x)) (i - 1) = min (min (fl_n2 c) (fl_n3 c - x)) i by omega]
        exact br_t rfl (nm_r (nI_1 i) I)
theorem fl_Ybes8F (post : Int32 → SY → Prop) {c : Nat → Nat} {l : Nat → Int32} {x : Nat} (hl : fl_L c l) (hx : x ≤ 100) (hF : ¬ (x ≤ fl_n1 c ∧ x ≤ fl_n3 c)) (hp : post (-1) (fl_a c, l)) : ∀ n i, i ≤ 101 → 101 - i < n → wY_besides_8 post (nI x) (fl_a c) l n (-1) (nI i) := by
  intro n
  induction n with
  | zero => intro i hi hn; omega
  | succ n ih =>
    intro i hi hn
    rw [wY_besides_8]
    refine pk_lt 100 i (fun h => hp) (fun h => br_f (nI_pos (by omega)) (br_f (nI_nlt (a := 100) (by omega) (by decide)) ?_))
    exact fl_Yfits hl (by omega) (by omega) (fun f1 f2 f3 => by omega) (fun _ => br_t rfl (nm_r (nI_1 i) (ih (i + 1) (by omega) (by omega))))
theorem fl_Ybes {post : Int32 → SY → Prop} {c : Nat → Nat} {l0 : Nat → Int32} {x : Nat} (hc : ∀ j, c j ≤ 20) (h1 : x ≤ fl_n1 c) (h3 : x ≤ fl_n3 c) (h : ∀ l, post (nI (min (fl_n2 c) (fl_n3 c - x))) (fl_a c, l)) : wpY_besides post (fl_a c, l0) (nI x) := by
  unfold wpY_besides
  exact fl_Ywork (fl_21 hc) (fun l hl => ⟨102, fl_Ybes8 post hc hl h1 h3 (h l) 102 0 (by omega) (by omega)⟩)
theorem fl_YbesF {post : Int32 → SY → Prop} {c : Nat → Nat} {l0 : Nat → Int32} {p0 : Int32} (hc : ∀ j, c j ≤ 20) (hF : fl_c c p0 0 = 0) (h : ∀ l, post (-1) (fl_a c, l)) : wpY_besides post (fl_a c, l0) p0 := by
  unfold wpY_besides
  refine fl_Ywork (fl_21 hc) (fun l hl => ⟨102, ?_⟩)
  by_cases n0 : p0 < 0
  · rw [wY_besides_8]
    exact br_f (by decide) (br_t n0 (h l))
  · obtain ⟨x, hx, rfl⟩ := nI_of n0
    by_cases g : x ≤ 100
    · refine fl_Ybes8F post hl g (fun z => ?_) (h l) 102 0 (by omega) (by omega)
      have e : fl_c c (nI x) 0 = 1 := fl_cT (y := 0) hx (by omega) z.1 (by omega) (by omega)
      rw [e] at hF
      exact absurd hF (by decide)
    · rw [wY_besides_8]
      exact br_f (by decide) (br_f n0 (br_t (nI_lt (a := 100) (by omega) hx) (h l)))
theorem fl_Xev {post : Int32 → Prop} {c : Nat → Nat} (hc : ∀ j, c j ≤ 21) (h : post (nI (fl_ev c))) : wpX_evenly post (fl_a c) := by
  have m1 := fl_n1m c
  have m2 := fl_n2m c
  have m3 := fl_n3m c
  unfold wpX_evenly
  exact fl_Xnar1 hc (fl_Xnar2 hc (fl_Xnar3 hc ⟨by decide, nm_r (pk_div (d := 2) (by omega) (by decide) (by decide)) (fl_Xsm (by omega) (by omega) (fl_Xsm (by omega) (by omega) h))⟩))
theorem fl_Yev8 (post : Int32 → SY → Prop) {c : Nat → Nat} {l : Nat → Int32} (hc : ∀ j, c j ≤ 20) (hl : fl_L c l) (hp : post (nI (fl_ev c)) (fl_a c, l)) : ∀ n i, i ≤ 101 → 101 - i < n → wY_evenly_8 post (fl_a c) l n (nI (min (fl_ev c) (i - 1))) (nI i) := by
  have hm : fl_ev c = min (min (fl_n1 c) (fl_n2 c)) (fl_n3 c / 2) := rfl
  have b1 := fl_b1 hc
  intro n
  induction n with
  | zero => intro i hi hn; omega
  | succ n ih =>
    intro i hi hn
    rw [wY_evenly_8]
    refine pk_lt 100 i (fun h => ?_) (fun h => ?_)
    · rw [show min (fl_ev c) (i - 1) = fl_ev c by omega]
      exact hp
    · have I := ih (i + 1) (by omega) (by omega)
      refine fl_Yfits hl (by omega) (by omega) (fun h1 h2 h3 => ?_) (fun hF => ?_)
      · rw [show min (fl_ev c) (i + 1 - 1) = i by omega] at I
        exact br_f (by decide) (nm_r (nI_1 i) I)
      · rw [show min (fl_ev c) (i + 1 - 1) = min (fl_ev c) (i - 1) by omega] at I
        exact br_t rfl (nm_r (nI_1 i) I)
theorem fl_Yev {post : Int32 → SY → Prop} {c : Nat → Nat} {l0 : Nat → Int32} (hc : ∀ j, c j ≤ 20) (h : ∀ l, post (nI (fl_ev c)) (fl_a c, l)) : wpY_evenly post (fl_a c, l0) := by
  unfold wpY_evenly
  refine fl_Ywork (fl_21 hc) (fun l hl => ⟨102, ?_⟩)
  have H := fl_Yev8 post hc hl (h l) 102 0 (by omega) (by omega)
  rw [show min (fl_ev c) (0 - 1) = 0 by omega] at H
  exact H
end
section
def fl_r (c : Nat → Nat) (x : Nat) : Nat := if x ≤ fl_n1 c ∧ x ≤ fl_n3 c then min (fl_n2 c) (fl_n3 c - x) + 1 else 0
def fl_S (c : Nat → Nat) : Nat → Nat
  | 0 => 0
  | x + 1 => fl_S c x + fl_r c x
theorem fl_Send (c : Nat → Nat) : ∀ d, fl_S c (fl_al0 c + 1 + d) = fl_S c (fl_al0 c + 1) := by
  have e : fl_al0 c = min (fl_n1 c) (fl_n3 c) := rfl
  intro d
  induction d with
  | zero => rfl
  | succ d ih =>
    rw [show fl_S c (fl_al0 c + 1 + (d + 1)) = fl_S c (fl_al0 c + 1 + d) + fl_r c (fl_al0 c + 1 + d) from rfl, ih]
    unfold fl_r
    rw [if_neg (by omega)]
    exact Nat.add_zero _
theorem fl_S101 {c : Nat → Nat} (hc : ∀ j, c j ≤ 20) : fl_S c 101 = fl_S c (fl_al0 c + 1) := by
  have e : fl_al0 c = min (fl_n1 c) (fl_n3 c) := rfl
  have b1 := fl_b1 hc
  have h := fl_Send c (100 - fl_al0 c)
  rw [show fl_al0 c + 1 + (100 - fl_al0 c) = 101 by omega] at h
  exact h
theorem fl_Xpa10 (post : Int32 → Prop) {c : Nat → Nat} (hc : ∀ j, c j ≤ 20) (hp : post (nI (fl_S c 101))) : ∀ n x, x ≤ fl_al0 c + 1 → fl_al0 c + 1 - x < n → wX_pairs_10 post (nI (fl_al0 c)) (fl_a c) n (nI (fl_S c x)) (nI x) := by
  have e : fl_al0 c = min (fl_n1 c) (fl_n3 c) := rfl
  have b1 := fl_b1 hc
  intro n
  induction n with
  | zero => intro i hi hn; omega
  | succ n ih =>
    intro x hx hn
    rw [wX_pairs_10]
    refine pk_lt (fl_al0 c) x (fun h => ?_) (fun h => ?_)
    · obtain rfl : x = fl_al0 c + 1 := by omega
      rw [← fl_S101 hc]
      exact hp
    · have I := ih (x + 1) (by omega) (by omega)
      rw [show fl_S c (x + 1) = fl_S c x + fl_r c x from rfl] at I
      unfold fl_r at I
      rw [if_pos (by omega)] at I
      refine fl_Xbes (fl_21 hc) (by omega) (by omega) (nm_r ?_ (nm_r (nI_1 x) I))
      rw [nI_1, nI_add]
theorem fl_Xpa {post : Int32 → Prop} {c : Nat → Nat} (hc : ∀ j, c j ≤ 20) (hp : post (nI (fl_S c 101))) : wpX_pairs post (fl_a c) := by
  unfold wpX_pairs
  exact fl_Xal0 (fl_21 hc) ⟨fl_al0 c + 2, fl_Xpa10 post hc hp (fl_al0 c + 2) 0 (by omega) (by omega)⟩
def fl_t (c : Nat → Nat) (x j : Nat) : Nat := if x ≤ fl_n1 c ∧ x ≤ fl_n3 c then min (min (fl_n2 c) (fl_n3 c - x) + 1) j else 0
theorem fl_tT {c : Nat → Nat} {x j : Nat} (h1 : x ≤ fl_n1 c) (h2 : j ≤ fl_n2 c) (h3 : x + j ≤ fl_n3 c) : fl_t c x (j + 1) = fl_t c x j + 1 := by
  unfold fl_t
  rw [if_pos (by omega), if_pos (by omega)]
  omega
theorem fl_tF {c : Nat → Nat} {x j : Nat} (h : ¬ (x ≤ fl_n1 c ∧ j ≤ fl_n2 c ∧ x + j ≤ fl_n3 c)) : fl_t c x (j + 1) = fl_t c x j := by
  unfold fl_t
  split <;> omega
theorem fl_t101 {c : Nat → Nat} (hc : ∀ j, c j ≤ 20) (x : Nat) : fl_t c x 101 = fl_r c x := by
  have b2 := fl_b2 hc
  unfold fl_t fl_r
  split <;> omega
theorem fl_Ypa16 (post : Int32 → SY → Prop) (J : Int32 → Int32 → Prop) {c : Nat → Nat} {l : Nat → Int32} (hc : ∀ j, c j ≤ 20) (hl : fl_L c l) (i S : Nat) (hi : i ≤ 100) (HJ : J (nI (S + fl_r c i)) (nI (i + 1))) : ∀ n j, j ≤ 101 → 101 - j < n → wY_pairs_16 post J (nI i) (fl_a c) l n (nI (S + fl_t c i j)) (nI j) := by
  intro n
  induction n with
  | zero => intro j hj hn; omega
  | succ n ih =>
    intro j hj hn
    rw [wY_pairs_16]
    refine pk_lt 100 j (fun h => ?_) (fun h => ?_)
    · obtain rfl : j = 101 := by omega
      rw [fl_t101 hc]
      exact nm_r (nI_1 i) HJ
    · have I := ih (j + 1) (by omega) (by omega)
      refine fl_Yfits hl (by omega) (by omega) (fun f1 f2 f3 => ?_) (fun hF => ?_)
      · rw [fl_tT f1 f2 f3] at I
        exact br_f (by decide) (nm_r (nI_1 _) (nm_r (nI_1 j) I))
      · rw [fl_tF hF] at I
        exact br_t rfl (nm_r (nI_1 j) I)
theorem fl_Ypa8 (post : Int32 → SY → Prop) {c : Nat → Nat} {l : Nat → Int32} (hc : ∀ j, c j ≤ 20) (hl : fl_L c l) (hp : post (nI (fl_S c 101)) (fl_a c, l)) : ∀ n i, i ≤ 101 → 101 - i < n → wY_pairs_8 post (fl_a c) l n (nI (fl_S c i)) (nI i) := by
  intro n
  induction n with
  | zero => intro i hi hn; omega
  | succ n ih =>
    intro i hi hn
    rw [wY_pairs_8]
    refine pk_lt 100 i (fun h => ?_) (fun h => ⟨102, ?_⟩)
    · obtain rfl : i = 101 := by omega
      exact hp
    · have H := fl_Ypa16 post _ hc hl i (fl_S c i) h (ih (i + 1) (by omega) (by omega)) 102 0 (by omega) (by omega)
      rw [show fl_S c i + fl_t c i 0 = fl_S c i by unfold fl_t; split <;> omega] at H
      exact H
theorem fl_Ypa {post : Int32 → SY → Prop} {c : Nat → Nat} {l0 : Nat → Int32} (hc : ∀ j, c j ≤ 20) (h : ∀ l, post (nI (fl_S c 101)) (fl_a c, l)) : wpY_pairs post (fl_a c, l0) := by
  unfold wpY_pairs
  exact fl_Ywork (fl_21 hc) (fun l hl => ⟨102, fl_Ypa8 post hc hl (h l) 102 0 (by omega) (by omega)⟩)
/-- both cells of the pair hold again what the first held -/
def fl_z (c : Nat → Nat) (a b w : Nat) : Nat → Nat := fl_s (fl_s c a b w) a b (c (6 * a + b))
theorem fl_zle {c : Nat → Nat} {a b w B : Nat} (h : ∀ j, c j ≤ B) : ∀ j, fl_z c a b w j ≤ B := by
  intro j
  unfold fl_z fl_s fl_u
  have h0 := h (6 * a + b)
  have hj := h j
  split
  · exact h0
  · split
    · exact h0
    · exact hj
theorem fl_Xmw {post : Int32 → SX → Prop} {c : Nat → Nat} {a b w : Nat} (ha : a < 6) (hb : b < 6) (hc : ∀ j, c j ≤ 20) (hw : w ≤ 21) (h : post (nI (fl_mo (fl_s c a b w))) (fl_a (fl_z c a b w))) : wpX_mostWith post (fl_a c) (nI a) (nI b) (nI w) := by
  unfold wpX_mostWith
  refine ⟨pk_in (6 * a + b) 36 (by omega) (fl_ixX a b), nm_r (e' := nI (c (6 * a + b))) ?_ (fl_Xstore ha hb (fl_Xmost (fl_sle (fl_21 hc) hw) (fl_Xstore ha hb h)))⟩
  rw [fl_ixX, nI_clamp (by omega)]
  rfl
theorem fl_Ymw {post : Int32 → SY → Prop} {c : Nat → Nat} {l0 : Nat → Int32} {a b w : Nat} (ha : a < 6) (hb : b < 6) (hc : ∀ j, c j ≤ 20) (hw : w ≤ 21) (h : ∀ l, post (nI (fl_mo (fl_s c a b w))) (fl_a (fl_z c a b w), l)) : wpY_mostWith post (fl_a c, l0) (nI a) (nI b) (nI w) := by
  unfold wpY_mostWith
  refine ⟨pk_in (6 * a + b) 36 (by omega) (fl_ixY a b), nm_r (e' := nI (c (6 * a + b))) ?_ (fl_Yput ha hb (fl_Ymost (fl_sle (fl_21 hc) hw) (fun l => fl_Yput ha hb (h l))))⟩
  rw [fl_ixY, nI_clamp (by omega)]
  rfl
end
section
/-- both sides hold the same capacities, each from 0 to 20 -/
def i_Rel (k : Nat) (u : SX) (v : SY) : Prop := ∃ c : Nat → Nat, (∀ j, c j ≤ 20) ∧ u = fl_a c ∧ v.1 = fl_a c
theorem i_up {k : Nat} {u : SX} {v : SY} (h : i_Rel k u v) : i_Rel (k + 4) u v := h
theorem i_vc0 : wpX_init (fun u => wpY_init (fun v => i_Rel 0 u v)) := ⟨fun _ => 0, fun _ => Nat.zero_le _, rfl, rfl⟩
theorem fl_rel {c : Nat → Nat} {l : Nat → Int32} (k : Nat) (hc : ∀ j, c j ≤ 20) : i_Rel k (fl_a c) (fl_a c, l) := ⟨c, hc, rfl, rfl⟩
theorem fl_of {k : Nat} {u : SX} {v : SY} (I : i_Rel k u v) : ∃ c l, (∀ j, c j ≤ 20) ∧ u = fl_a c ∧ v = (fl_a c, l) := by
  obtain ⟨a, l⟩ := v
  obtain ⟨c, hc, e, e2⟩ := I
  exact ⟨c, l, hc, e, congrArg (fun z => (z, l)) e2⟩
theorem i_vc_set {k : Nat} {u : SX} {v : SY} (I : i_Rel k u v) (hk : k + 4 ≤ 2048) (v1 : Int32) (v2 : Int32) (v3 : Int32) : wpX_set (fun r u' => wpY_set (fun r' v' => r' = r ∧ i_Rel (k + 4) u' v') v v1 v2 v3) u v1 v2 v3 := by
  obtain ⟨c, l, hc, rfl, rfl⟩ := fl_of I
  unfold wpX_set wpY_set
  dsimp only
  by_cases ok : fl_ok v1 v2
  · obtain ⟨a, b, ha, hb, hn, rfl, rfl⟩ := ok
    refine fl_XplT ha hb hn (br_f (by decide) ?_)
    by_cases n3 : v3 < 0
    · exact br_t n3 (fl_YplT ha hb hn (br_f (by decide) (br_t n3 ⟨rfl, fl_rel _ hc⟩)))
    · refine br_f n3 ?_
      by_cases g : v3 ≤ 20
      · obtain ⟨w, hw, rfl⟩ := nI_of2 (M := 20) (n := 20) (by decide) n3 g
        exact br_t g (fl_Xstore ha hb (fl_YplT ha hb hn (br_f (by decide) (br_f n3 (br_t g (fl_Yput ha hb ⟨rfl, fl_rel _ (fl_sle hc hw)⟩))))))
      · exact br_f g (fl_YplT ha hb hn (br_f (by decide) (br_f n3 (br_f g ⟨rfl, fl_rel _ hc⟩))))
  · exact fl_XplF ok (br_t rfl (fl_YplF ok (br_t rfl ⟨rfl, fl_rel _ hc⟩)))
theorem i_vc_capacity {k : Nat} {u : SX} {v : SY} (I : i_Rel k u v) (hk : k + 4 ≤ 2048) (v1 : Int32) (v2 : Int32) : wpX_capacity (fun r => wpY_capacity (fun r' => r' = r ∧ i_Rel (k + 4) u v) v v1 v2) u v1 v2 := by
  obtain ⟨c, l, hc, rfl, rfl⟩ := fl_of I
  unfold wpX_capacity wpY_capacity
  dsimp only
  by_cases ok : fl_ok v1 v2
  · obtain ⟨a, b, ha, hb, hn, rfl, rfl⟩ := ok
    refine fl_XplT ha hb hn (br_f (by decide) ⟨pk_in (6 * a + b) 36 (by omega) (fl_ixX a b), fl_YplT ha hb hn (br_f (by decide) ⟨pk_in (6 * a + b) 36 (by omega) (fl_ixY a b), ?_, fl_rel _ hc⟩)⟩)
    rw [fl_ixX, fl_ixY]
  · exact fl_XplF ok (br_t rfl (fl_YplF ok (br_t rfl ⟨rfl, fl_rel _ hc⟩)))
theorem i_vc_width {k : Nat} {u : SX} {v : SY} (I : i_Rel k u v) (hk : k + 4 ≤ 2048) (v1 : Int32) : wpX_width (fun r => wpY_width (fun r' => r' = r ∧ i_Rel (k + 4) u v) v v1) u v1 := by
  obtain ⟨c, l, hc, rfl, rfl⟩ := fl_of I
  by_cases n0 : v1 < 0
  · unfold wpX_width
    refine br_t n0 ?_
    unfold wpY_width
    exact ⟨37, fl_Yw4 _ (fl_a c) l v1 (br_t n0 ⟨rfl, fl_rel _ hc⟩) 37 0 (by omega) (by omega)⟩
  · obtain ⟨s, hs, rfl⟩ := nI_of n0
    by_cases g : s < 64
    · exact fl_Xwidth g (fl_Ywidth g ⟨rfl, fl_rel _ hc⟩)
    · unfold wpX_width
      refine br_f n0 (br_f (nI_nlt (b := 64) (by omega) hs) ?_)
      unfold wpY_width
      exact ⟨37, fl_Yw4 _ (fl_a c) l (nI s) (br_f n0 (br_f (nI_ge (a := 63) (by omega) hs) ⟨rfl, fl_rel _ hc⟩)) 37 0 (by omega) (by omega)⟩
theorem i_vc_carries {k : Nat} {u : SX} {v : SY} (I : i_Rel k u v) (hk : k + 4 ≤ 2048) (v1 : Int32) (v2 : Int32) : wpX_carries (fun r => wpY_carries (fun r' v' => r' = r ∧ i_Rel (k + 4) u v') v v1 v2) u v1 v2 := by
  obtain ⟨c, l, hc, rfl, rfl⟩ := fl_of I
  exact fl_Xcar (fl_21 hc) (fl_Ycar (fl_21 hc) (fun l => ⟨rfl, fl_rel _ hc⟩))
theorem i_vc_alone {k : Nat} {u : SX} {v : SY} (I : i_Rel k u v) (hk : k + 4 ≤ 2048) (v1 : Int32) : wpX_alone (fun r => wpY_alone (fun r' v' => r' = r ∧ i_Rel (k + 4) u v') v v1) u v1 := by
  obtain ⟨c, l, hc, rfl, rfl⟩ := fl_of I
  by_cases h0 : v1 = 0
  · subst h0
    exact fl_Xal0 (fl_21 hc) (fl_Yal0 hc (fun l => ⟨rfl, fl_rel _ hc⟩))
  · by_cases h1 : v1 = 1
    · subst h1
      exact fl_Xal1 (fl_21 hc) (fl_Yal1 hc (fun l => ⟨rfl, fl_rel _ hc⟩))
    · exact fl_XalF h0 h1 (fl_YalF hc h0 h1 (fun l => ⟨rfl, fl_rel _ hc⟩))
theorem i_vc_most {k : Nat} {u : SX} {v : SY} (I : i_Rel k u v) (hk : k + 4 ≤ 2048) : wpX_most (fun r => wpY_most (fun r' v' => r' = r ∧ i_Rel (k + 4) u v') v) u := by
  obtain ⟨c, l, hc, rfl, rfl⟩ := fl_of I
  exact fl_Xmost (fl_21 hc) (fl_Ymost (fl_21 hc) (fun l => ⟨rfl, fl_rel _ hc⟩))
theorem i_vc_besides {k : Nat} {u : SX} {v : SY} (I : i_Rel k u v) (hk : k + 4 ≤ 2048) (v1 : Int32) : wpX_besides (fun r => wpY_besides (fun r' v' => r' = r ∧ i_Rel (k + 4) u v') v v1) u v1 := by
  obtain ⟨c, l, hc, rfl, rfl⟩ := fl_of I
  by_cases z : fl_c c v1 0 = 0
  · exact fl_XbesF (fl_21 hc) z (fl_YbesF hc z (fun l => ⟨rfl, fl_rel _ hc⟩))
  · by_cases n0 : v1 < 0
    · exact absurd (if_pos (Or.inl n0)) z
    · obtain ⟨x, hx, rfl⟩ := nI_of n0
      have g : x ≤ fl_n1 c ∧ 0 ≤ fl_n2 c ∧ x + 0 ≤ fl_n3 c := Decidable.byContradiction (fun q => z (fl_cF (y := 0) hx (by omega) q))
      exact fl_Xbes (fl_21 hc) g.1 g.2.2 (fl_Ybes hc g.1 g.2.2 (fun l => ⟨rfl, fl_rel _ hc⟩))
theorem i_vc_evenly {k : Nat} {u : SX} {v : SY} (I : i_Rel k u v) (hk : k + 4 ≤ 2048) : wpX_evenly (fun r => wpY_evenly (fun r' v' => r' = r ∧ i_Rel (k + 4) u v') v) u := by
  obtain ⟨c, l, hc, rfl, rfl⟩ := fl_of I
  exact fl_Xev (fl_21 hc) (fl_Yev hc (fun l => ⟨rfl, fl_rel _ hc⟩))
theorem i_vc_pairs {k : Nat} {u : SX} {v : SY} (I : i_Rel k u v) (hk : k + 4 ≤ 2048) : wpX_pairs (fun r => wpY_pairs (fun r' v' => r' = r ∧ i_Rel (k + 4) u v') v) u := by
  obtain ⟨c, l, hc, rfl, rfl⟩ := fl_of I
  exact fl_Xpa hc (fl_Ypa hc (fun l => ⟨rfl, fl_rel _ hc⟩))
theorem i_vc_worth {k : Nat} {u : SX} {v : SY} (I : i_Rel k u v) (hk : k + 4 ≤ 2048) (v1 : Int32) (v2 : Int32) : wpX_worth (fun r u' => wpY_worth (fun r' v' => r' = r ∧ i_Rel (k + 4) u' v') v v1 v2) u v1 v2 := by
  obtain ⟨c, l, hc, rfl, rfl⟩ := fl_of I
  unfold wpX_worth wpY_worth
  dsimp only
  by_cases ok : fl_ok v1 v2
  · obtain ⟨a, b, ha, hb, hn, rfl, rfl⟩ := ok
    have hcell : c (6 * a + b) + 1 ≤ 21 := Nat.succ_le_succ (hc _)
    have hx : fl_a c (nI a * 6 + nI b).toNatClampNeg + 1 = nI (c (6 * a + b) + 1) := by
      rw [fl_ixX, nI_clamp (by omega), ← nI_1]
      rfl
    have hy : fl_a c (6 * nI a + nI b).toNatClampNeg + 1 = nI (c (6 * a + b) + 1) := by
      rw [fl_ixY, nI_clamp (by omega), ← nI_1]
      rfl
    have hz : ∀ j, fl_z c a b (c (6 * a + b) + 1) j ≤ 20 := fl_zle hc
    rw [hy]
    refine fl_XplT ha hb hn (br_f (by decide) ⟨pk_in (6 * a + b) 36 (by omega) (fl_ixX a b), nm_r hx ?_⟩)
    refine fl_Xmw ha hb hc hcell (fl_Xmost (fl_21 hz) ?_)
    refine fl_YplT ha hb hn (br_f (by decide) ⟨pk_in (6 * a + b) 36 (by omega) (fl_ixY a b), ?_⟩)
    exact fl_Ymw ha hb hc hcell (fun l => fl_Ymost (fl_21 hz) (fun l => ⟨rfl, fl_rel _ hz⟩))
  · exact fl_XplF ok (br_t rfl (fl_YplF ok (br_t rfl ⟨rfl, fl_rel _ hc⟩)))
theorem i_vc_loss {k : Nat} {u : SX} {v : SY} (I : i_Rel k u v) (hk : k + 4 ≤ 2048) (v1 : Int32) (v2 : Int32) : wpX_loss (fun r u' => wpY_loss (fun r' v' => r' = r ∧ i_Rel (k + 4) u' v') v v1 v2) u v1 v2 := by
  obtain ⟨c, l, hc, rfl, rfl⟩ := fl_of I
  unfold wpX_loss wpY_loss
  dsimp only
  by_cases ok : fl_ok v1 v2
  · obtain ⟨a, b, ha, hb, hn, rfl, rfl⟩ := ok
    have hz : ∀ j, fl_z c a b 0 j ≤ 20 := fl_zle hc
    refine fl_XplT ha hb hn (br_f (by decide) (fl_Xmost (fl_21 hc) (fl_Xmw (w := 0) ha hb hc (by decide) ?_)))
    exact fl_YplT ha hb hn (br_f (by decide) (fl_Ymost (fl_21 hc) (fun l => fl_Ymw (w := 0) ha hb hc (by decide) (fun l => ⟨rfl, fl_rel _ hz⟩))))
  · exact fl_XplF ok (br_t rfl (fl_YplF ok (br_t rfl ⟨rfl, fl_rel _ hc⟩)))
theorem i_vc_full {k : Nat} {u : SX} {v : SY} (I : i_Rel k u v) (hk : k + 4 ≤ 2048) (v1 : Int32) (v2 : Int32) : wpX_full (fun r => wpY_full (fun r' v' => r' = r ∧ i_Rel (k + 4) u v') v v1 v2) u v1 v2 := by
  obtain ⟨c, l, hc, rfl, rfl⟩ := fl_of I
  have h21 := fl_21 hc
  unfold wpX_full wpY_full
  dsimp only
  by_cases a1 : fl_c c v1 v2 = 0
  · exact fl_Xcar h21 (br_t a1 (fl_Ycar h21 (fun l => br_t a1 ⟨rfl, fl_rel _ hc⟩)))
  · refine fl_Xcar h21 (br_f a1 ?_)
    by_cases a2 : fl_c c (v1 + 1) v2 = 0
    · refine fl_Xcar h21 (br_t a2 ?_)
      by_cases a3 : fl_c c v1 (v2 + 1) = 0
      · exact fl_Xcar h21 (br_t a3 (fl_Ycar h21 (fun l => br_f a1 (fl_Ycar h21 (fun l => br_t a2 (fl_Ycar h21 (fun l => br_t a3 ⟨rfl, fl_rel _ hc⟩)))))))
      · exact fl_Xcar h21 (br_f a3 (fl_Ycar h21 (fun l => br_f a1 (fl_Ycar h21 (fun l => br_t a2 (fl_Ycar h21 (fun l => br_f a3 ⟨rfl, fl_rel _ hc⟩)))))))
    · exact fl_Xcar h21 (br_f a2 (fl_Ycar h21 (fun l => br_f a1 (fl_Ycar h21 (fun l => br_f a2 ⟨rfl, fl_rel _ hc⟩)))))
end
