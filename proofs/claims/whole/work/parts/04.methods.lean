theorem fl_21 {c : Nat → Nat} (h : ∀ j, c j ≤ 20) : ∀ j, c j ≤ 21 := fun j => Nat.le_trans (h j) (by decide)
def fl_ok (p0 p1 : Int32) : Prop := ∃ a b : Nat, a < 6 ∧ b < 6 ∧ a ≠ b ∧ p0 = nI a ∧ p1 = nI b
theorem fl_XplT {post : Int32 → Prop} {a b : Nat} (ha : a < 6) (hb : b < 6) (hn : a ≠ b) (h : post 1) : wpX_arePlaces post (nI a) (nI b) := by
  unfold wpX_arePlaces
  exact br_f (nI_pos (by omega)) (br_f (nI_ge (b := 6) ha (by decide)) (br_f (nI_pos (by omega)) (br_f (nI_ge (b := 6) hb (by decide)) (br_f (fun e => hn ((nI_eq (by omega) (by omega)).mp e)) h))))
theorem fl_XplF {post : Int32 → Prop} {p0 p1 : Int32} (hn : ¬ fl_ok p0 p1) (h : post 0) : wpX_arePlaces post p0 p1 := by
  unfold wpX_arePlaces
  refine br_c (fun _ => h) (fun h0 => br_c (fun _ => h) (fun h6 => br_c (fun _ => h) (fun k0 => br_c (fun _ => h) (fun k6 => br_c (fun _ => h) (fun ne => ?_)))))
  obtain ⟨a, ha, rfl⟩ := fl_six h0 h6
  obtain ⟨b, hb, rfl⟩ := fl_six k0 k6
  exact absurd ⟨a, b, ha, hb, fun e => ne (by rw [e]), rfl, rfl⟩ hn
theorem fl_YplT {post : Int32 → Prop} {u : SY} {a b : Nat} (ha : a < 6) (hb : b < 6) (hn : a ≠ b) (h : post 1) : wpY_pair post u (nI a) (nI b) := by
  unfold wpY_pair
  exact br_f (fun e => hn ((nI_eq (by omega) (by omega)).mp e)) (br_f (nI_pos (by omega)) (br_f (nI_nlt (a := 5) (by omega) (by decide)) (br_f (nI_pos (by omega)) (br_f (nI_nlt (a := 5) (by omega) (by decide)) h))))
theorem fl_YplF {post : Int32 → Prop} {u : SY} {p0 p1 : Int32} (hn : ¬ fl_ok p0 p1) (h : post 0) : wpY_pair post u p0 p1 := by
  unfold wpY_pair
  refine br_c (fun _ => h) (fun ne => br_c (fun _ => h) (fun h0 => br_c (fun _ => h) (fun h6 => br_c (fun _ => h) (fun k0 => br_c (fun _ => h) (fun k6 => ?_)))))
  obtain ⟨a, ha, rfl⟩ := fl_six' h0 h6
  obtain ⟨b, hb, rfl⟩ := fl_six' k0 k6
  exact absurd ⟨a, b, ha, hb, fun e => ne (by rw [e]), rfl, rfl⟩ hn
theorem fl_ixX (a b : Nat) : nI a * 6 + nI b = nI (6 * a + b) := by
  rw [show (6 : Int32) = nI 6 from rfl, pk_mul, nI_add, Nat.mul_comm]
theorem fl_ixY (a b : Nat) : 6 * nI a + nI b = nI (6 * a + b) := by
  rw [show (6 : Int32) = nI 6 from rfl, pk_mul, nI_add]
/-- both cells of the pair a, b hold w -/
def fl_s (c : Nat → Nat) (a b w : Nat) : Nat → Nat := fl_u (fl_u c (6 * a + b) w) (6 * b + a) w
theorem fl_sle {c : Nat → Nat} {a b w B : Nat} (h : ∀ j, c j ≤ B) (hw : w ≤ B) : ∀ j, fl_s c a b w j ≤ B := fl_ule (fl_ule h hw) hw
theorem fl_Xstore {post : SX → Prop} {c : Nat → Nat} {a b w : Nat} (ha : a < 6) (hb : b < 6) (h : post (fl_a (fl_s c a b w))) : wpX_store post (fl_a c) (nI a) (nI b) (nI w) := by
  unfold wpX_store
  refine ⟨pk_in (6 * a + b) 36 (by omega) (fl_ixX a b), nm_r (e' := fl_a (fl_u c (6 * a + b) w)) ?_ ⟨pk_in (6 * b + a) 36 (by omega) (fl_ixX b a), nm_r (e' := fl_a (fl_s c a b w)) ?_ h⟩⟩
  · rw [fl_ixX, nI_clamp (by omega), fl_upd]
  · rw [fl_ixX, nI_clamp (by omega), fl_upd]
    rfl
theorem fl_Yput {post : SY → Prop} {c : Nat → Nat} {l : Nat → Int32} {a b w : Nat} (ha : a < 6) (hb : b < 6) (h : post (fl_a (fl_s c a b w), l)) : wpY_put post (fl_a c, l) (nI a) (nI b) (nI w) := by
  unfold wpY_put
  refine ⟨pk_in (6 * a + b) 36 (by omega) (fl_ixY a b), nm_r (e' := fl_a (fl_u c (6 * a + b) w)) ?_ ⟨pk_in (6 * b + a) 36 (by omega) (fl_ixY b a), nm_r (e' := fl_a (fl_s c a b w)) ?_ h⟩⟩
  · rw [fl_ixY, nI_clamp (by omega), fl_upd]
  · rw [fl_ixY, nI_clamp (by omega), fl_upd]
    rfl
/-- carries -/
def fl_c (c : Nat → Nat) (p0 p1 : Int32) : Int32 := if p0 < 0 ∨ p1 < 0 ∨ ¬ (p0.toNatClampNeg ≤ fl_n1 c ∧ p1.toNatClampNeg ≤ fl_n2 c ∧ p0.toNatClampNeg + p1.toNatClampNeg ≤ fl_n3 c) then 0 else 1
theorem fl_cT {c : Nat → Nat} {x y : Nat} (hx : x < 2 ^ 31) (hy : y < 2 ^ 31) (h1 : x ≤ fl_n1 c) (h2 : y ≤ fl_n2 c) (h3 : x + y ≤ fl_n3 c) : fl_c c (nI x) (nI y) = 1 := by
  unfold fl_c
  rw [nI_clamp hx, nI_clamp hy]
  exact if_neg (fun z => z.elim (nI_pos hx) (fun z => z.elim (nI_pos hy) (fun z => z ⟨h1, h2, h3⟩)))
theorem fl_cF {c : Nat → Nat} {x y : Nat} (hx : x < 2 ^ 31) (hy : y < 2 ^ 31) (h : ¬ (x ≤ fl_n1 c ∧ y ≤ fl_n2 c ∧ x + y ≤ fl_n3 c)) : fl_c c (nI x) (nI y) = 0 := by
  unfold fl_c
  rw [nI_clamp hx, nI_clamp hy]
  exact if_pos (Or.inr (Or.inr h))
theorem fl_Xcar {post : Int32 → Prop} {c : Nat → Nat} {p0 p1 : Int32} (hc : ∀ j, c j ≤ 21) (h : post (fl_c c p0 p1)) : wpX_carries post (fl_a c) p0 p1 := by
  unfold wpX_carries
  have m1 := fl_n1m c
  have m2 := fl_n2m c
  have m3 := fl_n3m c
  by_cases n0 : p0 < 0
  · rw [show fl_c c p0 p1 = 0 from if_pos (Or.inl n0)] at h
    exact br_t n0 h
  · by_cases n1 : p1 < 0
    · rw [show fl_c c p0 p1 = 0 from if_pos (Or.inr (Or.inl n1))] at h
      exact br_f n0 (br_f (Int32.not_le.mpr n1) h)
    · obtain ⟨x, hx, rfl⟩ := nI_of n0
      obtain ⟨y, hy, rfl⟩ := nI_of n1
      refine br_f n0 (br_t (Int32.not_lt.mp n1) ?_)
      rw [nI_add]
      refine fl_Xnar1 hc (pk_lt (fl_n1 c) x (fun e => ?_) (fun e1 => ?_))
      · rw [fl_cF hx hy (by omega)] at h
        exact h
      · refine fl_Xnar2 hc (pk_lt (fl_n2 c) y (fun e => ?_) (fun e2 => ?_))
        · rw [fl_cF hx hy (by omega)] at h
          exact h
        · refine fl_Xnar3 hc (pk_lt (fl_n3 c) (x + y) (fun e => ?_) (fun e3 => ?_))
          · rw [fl_cF hx hy (by omega)] at h
            exact h
          · rw [fl_cT hx hy e1 e2 e3] at h
            exact h
theorem fl_Ycar {post : Int32 → SY → Prop} {c : Nat → Nat} {l0 : Nat → Int32} {p0 p1 : Int32} (hc : ∀ j, c j ≤ 21) (h : ∀ l, post (fl_c c p0 p1) (fl_a c, l)) : wpY_carries post (fl_a c, l0) p0 p1 := by
  unfold wpY_carries
  have m1 := fl_n1m c
  have m2 := fl_n2m c
  have m3 := fl_n3m c
  refine fl_Ywork hc (fun l hl => ?_)
  have h := h l
  by_cases n0 : p0 < 0
  · rw [show fl_c c p0 p1 = 0 from if_pos (Or.inl n0)] at h
    exact br_t n0 h
  · refine br_f n0 ?_
    obtain ⟨x, hx, rfl⟩ := nI_of n0
    by_cases n1 : p1 < 0
    · rw [show fl_c c (nI x) p1 = 0 from if_pos (Or.inr (Or.inl n1))] at h
      exact br_c (fun _ => h) (fun _ => br_t n1 h)
    · obtain ⟨y, hy, rfl⟩ := nI_of n1
      refine pk_lt 1000 x (fun e => ?_) (fun e => br_f n1 (pk_lt 1000 y (fun e => ?_) (fun e2 => ?_)))
      · rw [fl_cF hx hy (by omega)] at h
        exact h
      · rw [fl_cF hx hy (by omega)] at h
        exact h
      · refine fl_Yfits hl (by omega) (by omega) (fun h1 h2 h3 => ?_) (fun hF => ?_)
        · rw [fl_cT hx hy h1 h2 h3] at h
          exact br_f (by decide) h
        · rw [fl_cF hx hy hF] at h
          exact br_t rfl h
