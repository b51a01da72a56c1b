def fl_v (b : Bool) : Int32 := if b = true then 1 else 0
theorem fl_vv {x y : Bool} : fl_v x = fl_v y ↔ x = y := by
  cases x <;> cases y <;> decide
theorem fl_isIn {post : Int32 → Prop} {s p : Nat} (hs : s < 64) (hp : p < 6) (h : post (fl_v (s.testBit p))) : wpX_isIn post (nI p) (nI s) := by
  unfold wpX_isIn
  rw [fl_bit s hs p hp]
  cases e : s.testBit p
  · rw [e] at h
    exact br_f (by decide) h
  · rw [e] at h
    exact br_t (by decide) h
theorem fl_Xw25 (post : Int32 → Prop) (J : Int32 → Int32 → Prop) (c : Nat → Nat) (s : Nat) (hs : s < 64) (a : Nat) (ha : a < 6) (HJ : J (nI (fl_w c s (6 * a + 6))) (nI (a + 1))) : ∀ n b, b ≤ 6 → 6 - b < n → wX_width_25 post J (nI s) (nI a) (fl_a c) n (nI (fl_w c s (6 * a + b))) (nI b) := by
  intro n
  induction n with
  | zero => intro b hb hn; omega
  | succ n ih =>
    intro b hb hn
    rw [wX_width_25]
    refine pk_le 6 b (fun h => ?_) (fun h => ?_)
    · obtain rfl : b = 6 := by omega
      exact nm_r (nI_1 a) HJ
    · have hi : nI a * 6 + nI b = nI (6 * a + b) := by
        rw [show (6 : Int32) = nI 6 from rfl, pk_mul, nI_add, Nat.mul_comm]
      have e1 : (6 * a + b) / 6 = a := by omega
      have e2 : (6 * a + b) % 6 = b := by omega
      have I := ih (b + 1) (by omega) (by omega)
      have st : fl_w c s (6 * a + (b + 1)) = fl_w c s (6 * a + b) + (if fl_cut s (6 * a + b) = true then c (6 * a + b) else 0) := rfl
      rw [st] at I
      unfold fl_cut at I
      rw [e1, e2] at I
      refine fl_isIn hs ha ?_
      cases ea : s.testBit a
      · rw [ea] at I
        exact br_t rfl (nm_r (nI_1 b) I)
      · refine br_f (by decide) (fl_isIn hs h ?_)
        cases eb : s.testBit b
        · rw [ea, eb] at I
          refine br_t rfl ⟨pk_in (6 * a + b) 36 (by omega) hi, nm_r ?_ (nm_r (nI_1 b) I)⟩
          rw [hi, nI_clamp (by omega)]
          exact nI_add _ _
        · rw [ea, eb] at I
          exact br_f (by decide) (nm_r (nI_1 b) I)
theorem fl_Xw16 (post : Int32 → Prop) (c : Nat → Nat) (s : Nat) (hs : s < 64) (hp : post (nI (fl_w c s 36))) : ∀ n a, a ≤ 6 → 6 - a < n → wX_width_16 post (nI s) (fl_a c) n (nI (fl_w c s (6 * a))) (nI a) := by
  intro n
  induction n with
  | zero => intro b hb hn; omega
  | succ n ih =>
    intro a ha hn
    rw [wX_width_16]
    refine pk_le 6 a (fun h => ?_) (fun h => ⟨7, ?_⟩)
    · obtain rfl : a = 6 := by omega
      exact hp
    · exact fl_Xw25 post _ c s hs a h (ih (a + 1) (by omega) (by omega)) 7 0 (by omega) (by omega)
theorem fl_Xwidth {post : Int32 → Prop} {c : Nat → Nat} {s : Nat} (hs : s < 64) (hp : post (nI (fl_w c s 36))) : wpX_width post (fl_a c) (nI s) := by
  unfold wpX_width
  exact br_f (nI_pos (by omega)) (br_t (nI_lt (b := 64) hs (by decide)) ⟨7, fl_Xw16 post c s hs hp 7 0 (by omega) (by omega)⟩)
theorem fl_sep18 {post : Int32 → Prop} {s z : Nat} (hs : s < 64) (h : post (nI (z + if s.testBit 2 = s.testBit 3 then 0 else 2))) : wX_separatedBy_18 post (nI s) (nI z) := by
  unfold wX_separatedBy_18
  refine fl_isIn (p := 2) hs (by decide) (fl_isIn (p := 3) hs (by decide) ?_)
  refine br_c (fun e => ?_) (fun e => ?_)
  · rw [if_pos (fl_vv.mp e)] at h
    exact h
  · rw [if_neg (fun q => e (fl_vv.mpr q))] at h
    exact nm_r (nI_add z 2) h
theorem fl_Xsep {post : Int32 → Prop} {s : Nat} (hs : s < 64) (h : post (nI (fl_k s))) : wpX_separatedBy post (nI s) := by
  unfold wpX_separatedBy
  unfold fl_k at h
  refine fl_isIn (p := 0) hs (by decide) (fl_isIn (p := 1) hs (by decide) ?_)
  refine br_c (fun e => ?_) (fun e => ?_)
  · rw [if_pos (fl_vv.mp e)] at h
    exact fl_sep18 (z := 0) hs h
  · rw [if_neg (fun q => e (fl_vv.mpr q))] at h
    exact nm_r (nI_add 0 1) (fl_sep18 (z := 1) hs h)
theorem fl_Xsm {post : Int32 → Prop} {p q : Nat} (hp : p < 2 ^ 31) (hq : q < 2 ^ 31) (h : post (nI (min p q))) : wpX_smaller post (nI p) (nI q) := by
  unfold wpX_smaller
  refine pk_le q p (fun e => ?_) (fun e => ?_)
  · rw [Nat.min_eq_right e] at h
    exact h
  · rw [Nat.min_eq_left (by omega)] at h
    exact h
theorem fl_Xn6 (post : Int32 → Prop) {c : Nat → Nat} (hc : ∀ j, c j ≤ 21) (g : Nat) (hg : g < 4) (hp : post (nI (fl_n c g 64))) : ∀ n s, s ≤ 64 → 64 - s < n → wX_narrowest_6 post (nI g) (fl_a c) n (nI (fl_n c g s)) (nI s) := by
  intro n
  induction n with
  | zero => intro b hb hn; omega
  | succ n ih =>
    intro s hs hn
    rw [wX_narrowest_6]
    refine pk_le 64 s (fun h => ?_) (fun h => ?_)
    · obtain rfl : s = 64 := by omega
      exact hp
    · have I := ih (s + 1) (by omega) (by omega)
      have k4 := fl_k4 s
      have nm := fl_n_1000 c g s
      have wm := fl_wle hc s 36
      rw [show fl_n c g (s + 1) = (if fl_k s = g then min (fl_n c g s) (fl_w c s 36) else fl_n c g s) from rfl] at I
      refine fl_Xsep h ?_
      refine pk_eq (fl_k s) g (fun e => ?_) (fun e => ?_)
      · rw [if_pos e] at I
        exact fl_Xwidth h (fl_Xsm (by omega) (by omega) (nm_r (nI_1 s) I))
      · rw [if_neg e] at I
        exact nm_r (nI_1 s) I
theorem fl_Xnar {post : Int32 → Prop} {c : Nat → Nat} (hc : ∀ j, c j ≤ 21) (g : Nat) (hg : g < 4) (hp : post (nI (fl_n c g 64))) : wpX_narrowest post (fl_a c) (nI g) := by
  unfold wpX_narrowest
  exact ⟨65, fl_Xn6 post hc g hg hp 65 0 (by omega) (by omega)⟩
theorem fl_Xnar1 {post : Int32 → Prop} {c : Nat → Nat} (hc : ∀ j, c j ≤ 21) (hp : post (nI (fl_n1 c))) : wpX_narrowest post (fl_a c) 1 := fl_Xnar hc 1 (by decide) hp
theorem fl_Xnar2 {post : Int32 → Prop} {c : Nat → Nat} (hc : ∀ j, c j ≤ 21) (hp : post (nI (fl_n2 c))) : wpX_narrowest post (fl_a c) 2 := fl_Xnar hc 2 (by decide) hp
theorem fl_Xnar3 {post : Int32 → Prop} {c : Nat → Nat} (hc : ∀ j, c j ≤ 21) (hp : post (nI (fl_n3 c))) : wpX_narrowest post (fl_a c) 3 := fl_Xnar hc 3 (by decide) hp
