def fl_r (c : Nat → Nat) (x : Nat) : Nat := if x ≤ fl_n1 c ∧ x ≤ fl_n3 c then min (fl_n2 c) (fl_n3 c - x) + 1 else 0
def fl_S (c : Nat → Nat) : Nat → Nat
  | 0 => 0
  | x + 1 => fl_S c x + fl_r c x
theorem fl_Send (c : Nat → Nat) : ∀ d, fl_S c (fl_al0 c + 1 + d) = fl_S c (fl_al0 c + 1) := by
  have e : fl_al0 c = min (fl_n1 c) (fl_n3 c) := rfl
  intro d
  induction d with
  | zero => rfl
  | succ d ih =>
    rw [show fl_S c (fl_al0 c + 1 + (d + 1)) = fl_S c (fl_al0 c + 1 + d) + fl_r c (fl_al0 c + 1 + d) from rfl, ih]
    unfold fl_r
    rw [if_neg (by omega)]
    exact Nat.add_zero _
theorem fl_S101 {c : Nat → Nat} (hc : ∀ j, c j ≤ 20) : fl_S c 101 = fl_S c (fl_al0 c + 1) := by
  have e : fl_al0 c = min (fl_n1 c) (fl_n3 c) := rfl
  have b1 := fl_b1 hc
  have h := fl_Send c (100 - fl_al0 c)
  rw [show fl_al0 c + 1 + (100 - fl_al0 c) = 101 by omega] at h
  exact h
theorem fl_Xpa10 (post : Int32 → Prop) {c : Nat → Nat} (hc : ∀ j, c j ≤ 20) (hp : post (nI (fl_S c 101))) : ∀ n x, x ≤ fl_al0 c + 1 → fl_al0 c + 1 - x < n → wX_pairs_10 post (nI (fl_al0 c)) (fl_a c) n (nI (fl_S c x)) (nI x) := by
  have e : fl_al0 c = min (fl_n1 c) (fl_n3 c) := rfl
  have b1 := fl_b1 hc
  intro n
  induction n with
  | zero => intro i hi hn; omega
  | succ n ih =>
    intro x hx hn
    rw [wX_pairs_10]
    refine pk_lt (fl_al0 c) x (fun h => ?_) (fun h => ?_)
    · obtain rfl : x = fl_al0 c + 1 := by omega
      rw [← fl_S101 hc]
      exact hp
    · have I := ih (x + 1) (by omega) (by omega)
      rw [show fl_S c (x + 1) = fl_S c x + fl_r c x from rfl] at I
      unfold fl_r at I
      rw [if_pos (by omega)] at I
      refine fl_Xbes (fl_21 hc) (by omega) (by omega) (nm_r ?_ (nm_r (nI_1 x) I))
      rw [nI_1, nI_add]
theorem fl_Xpa {post : Int32 → Prop} {c : Nat → Nat} (hc : ∀ j, c j ≤ 20) (hp : post (nI (fl_S c 101))) : wpX_pairs post (fl_a c) := by
  unfold wpX_pairs
  exact fl_Xal0 (fl_21 hc) ⟨fl_al0 c + 2, fl_Xpa10 post hc hp (fl_al0 c + 2) 0 (by omega) (by omega)⟩
def fl_t (c : Nat → Nat) (x j : Nat) : Nat := if x ≤ fl_n1 c ∧ x ≤ fl_n3 c then min (min (fl_n2 c) (fl_n3 c - x) + 1) j else 0
theorem fl_tT {c : Nat → Nat} {x j : Nat} (h1 : x ≤ fl_n1 c) (h2 : j ≤ fl_n2 c) (h3 : x + j ≤ fl_n3 c) : fl_t c x (j + 1) = fl_t c x j + 1 := by
  unfold fl_t
  rw [if_pos (by omega), if_pos (by omega)]
  omega
theorem fl_tF {c : Nat → Nat} {x j : Nat} (h : ¬ (x ≤ fl_n1 c ∧ j ≤ fl_n2 c ∧ x + j ≤ fl_n3 c)) : fl_t c x (j + 1) = fl_t c x j := by
  unfold fl_t
  split <;> omega
theorem fl_t101 {c : Nat → Nat} (hc : ∀ j, c j ≤ 20) (x : Nat) : fl_t c x 101 = fl_r c x := by
  have b2 := fl_b2 hc
  unfold fl_t fl_r
  split <;> omega
theorem fl_Ypa16 (post : Int32 → SY → Prop) (J : Int32 → Int32 → Prop) {c : Nat → Nat} {l : Nat → Int32} (hc : ∀ j, c j ≤ 20) (hl : fl_L c l) (i S : Nat) (hi : i ≤ 100) (HJ : J (nI (S + fl_r c i)) (nI (i + 1))) : ∀ n j, j ≤ 101 → 101 - j < n → wY_pairs_16 post J (nI i) (fl_a c) l n (nI (S + fl_t c i j)) (nI j) := by
  intro n
  induction n with
  | zero => intro j hj hn; omega
  | succ n ih =>
    intro j hj hn
    rw [wY_pairs_16]
    refine pk_lt 100 j (fun h => ?_) (fun h => ?_)
    · obtain rfl : j = 101 := by omega
      rw [fl_t101 hc]
      exact nm_r (nI_1 i) HJ
    · have I := ih (j + 1) (by omega) (by omega)
      refine fl_Yfits hl (by omega) (by omega) (fun f1 f2 f3 => ?_) (fun hF => ?_)
      · rw [fl_tT f1 f2 f3] at I
        exact br_f (by decide) (nm_r (nI_1 _) (nm_r (nI_1 j) I))
      · rw [fl_tF hF] at I
        exact br_t rfl (nm_r (nI_1 j) I)
theorem fl_Ypa8 (post : Int32 → SY → Prop) {c : Nat → Nat} {l : Nat → Int32} (hc : ∀ j, c j ≤ 20) (hl : fl_L c l) (hp : post (nI (fl_S c 101)) (fl_a c, l)) : ∀ n i, i ≤ 101 → 101 - i < n → wY_pairs_8 post (fl_a c) l n (nI (fl_S c i)) (nI i) := by
  intro n
  induction n with
  | zero => intro i hi hn; omega
  | succ n ih =>
    intro i hi hn
    rw [wY_pairs_8]
    refine pk_lt 100 i (fun h => ?_) (fun h => ⟨102, ?_⟩)
    · obtain rfl : i = 101 := by omega
      exact hp
    · have H := fl_Ypa16 post _ hc hl i (fl_S c i) h (ih (i + 1) (by omega) (by omega)) 102 0 (by omega) (by omega)
      rw [show fl_S c i + fl_t c i 0 = fl_S c i by unfold fl_t; split <;> omega] at H
      exact H
theorem fl_Ypa {post : Int32 → SY → Prop} {c : Nat → Nat} {l0 : Nat → Int32} (hc : ∀ j, c j ≤ 20) (h : ∀ l, post (nI (fl_S c 101)) (fl_a c, l)) : wpY_pairs post (fl_a c, l0) := by
  unfold wpY_pairs
  exact fl_Ywork (fl_21 hc) (fun l hl => ⟨102, fl_Ypa8 post hc hl (h l) 102 0 (by omega) (by omega)⟩)
/-- both cells of the pair hold again what the first held -/
def fl_z (c : Nat → Nat) (a b w : Nat) : Nat → Nat := fl_s (fl_s c a b w) a b (c (6 * a + b))
theorem fl_zle {c : Nat → Nat} {a b w B : Nat} (h : ∀ j, c j ≤ B) : ∀ j, fl_z c a b w j ≤ B := by
  intro j
  unfold fl_z fl_s fl_u
  have h0 := h (6 * a + b)
  have hj := h j
  split
  · exact h0
  · split
    · exact h0
    · exact hj
theorem fl_Xmw {post : Int32 → SX → Prop} {c : Nat → Nat} {a b w : Nat} (ha : a < 6) (hb : b < 6) (hc : ∀ j, c j ≤ 20) (hw : w ≤ 21) (h : post (nI (fl_mo (fl_s c a b w))) (fl_a (fl_z c a b w))) : wpX_mostWith post (fl_a c) (nI a) (nI b) (nI w) := by
  unfold wpX_mostWith
  refine ⟨pk_in (6 * a + b) 36 (by omega) (fl_ixX a b), nm_r (e' := nI (c (6 * a + b))) ?_ (fl_Xstore ha hb (fl_Xmost (fl_sle (fl_21 hc) hw) (fl_Xstore ha hb h)))⟩
  rw [fl_ixX, nI_clamp (by omega)]
  rfl
theorem fl_Ymw {post : Int32 → SY → Prop} {c : Nat → Nat} {l0 : Nat → Int32} {a b w : Nat} (ha : a < 6) (hb : b < 6) (hc : ∀ j, c j ≤ 20) (hw : w ≤ 21) (h : ∀ l, post (nI (fl_mo (fl_s c a b w))) (fl_a (fl_z c a b w), l)) : wpY_mostWith post (fl_a c, l0) (nI a) (nI b) (nI w) := by
  unfold wpY_mostWith
  refine ⟨pk_in (6 * a + b) 36 (by omega) (fl_ixY a b), nm_r (e' := nI (c (6 * a + b))) ?_ (fl_Yput ha hb (fl_Ymost (fl_sle (fl_21 hc) hw) (fun l => fl_Yput ha hb (h l))))⟩
  rw [fl_ixY, nI_clamp (by omega)]
  rfl
