def fl_y (a : Nat → Int32) (x : Int32) : Nat → Int32
  | 0 => 0
  | j + 1 => if ((x >>> (nI (j / 6) &&& 31)) &&& 1) = 1 ∧ ((x >>> (nI (j % 6) &&& 31)) &&& 1) = 0 then fl_y a x j + a j else fl_y a x j
theorem fl_Yw4 (post : Int32 → Prop) (a l : Nat → Int32) (x : Int32) (hp : (x < 0 → post (-1)) ∧ (¬ x < 0 → ((x ≤ 63 → post (fl_y a x 36)) ∧ (¬ x ≤ 63 → post (-1))))) : ∀ n j, j ≤ 36 → 36 - j < n → wY_width_4 post x a l n (fl_y a x j) (nI j) := by
  intro n
  induction n with
  | zero => intro b hb hn; omega
  | succ n ih =>
    intro j hj hn
    rw [wY_width_4]
    refine pk_le 36 j (fun h => ?_) (fun h => ⟨by decide, ?_⟩)
    · obtain rfl : j = 36 := by omega
      exact hp
    · have hd : nI j / 6 = nI (j / 6) := pk_div (d := 6) (by omega) (by decide) (by decide)
      have hr : nI j - nI j / 6 * 6 = nI (j % 6) := pk_rem (d := 6) (by omega) (by decide) (by decide)
      have I := ih (j + 1) (by omega) (by omega)
      rw [show fl_y a x (j + 1) = (if ((x >>> (nI (j / 6) &&& 31)) &&& 1) = 1 ∧ ((x >>> (nI (j % 6) &&& 31)) &&& 1) = 0 then fl_y a x j + a j else fl_y a x j) from rfl] at I
      rw [hr, hd]
      refine br_c (fun e1 => ⟨by decide, br_c (fun e2 => ?_) (fun e2 => ?_)⟩) (fun e1 => ?_)
      · rw [if_pos ⟨e1, e2⟩] at I
        unfold wY_width_38
        refine br_f (by decide) ⟨vp_in_nI h (by decide), nm_r ?_ (nm_r (nI_1 j) I)⟩
        rw [nI_clamp (by omega)]
      · rw [if_neg (fun z => e2 z.2)] at I
        unfold wY_width_37 wY_width_38
        exact br_t rfl (nm_r (nI_1 j) I)
      · rw [if_neg (fun z => e1 z.1)] at I
        unfold wY_width_37 wY_width_38
        exact br_t rfl (nm_r (nI_1 j) I)
theorem fl_yw {c : Nat → Nat} {s : Nat} (hs : s < 64) : ∀ j, j ≤ 36 → fl_y (fl_a c) (nI s) j = nI (fl_w c s j) := by
  intro j
  induction j with
  | zero => intro _; rfl
  | succ j ih =>
    intro hj
    have I := ih (by omega)
    simp only [fl_y, fl_w, fl_cut]
    rw [fl_bit s hs (j / 6) (by omega), fl_bit s hs (j % 6) (by omega), I]
    rcases Bool.eq_false_or_eq_true (s.testBit (j / 6)) with e1 | e1 <;> rcases Bool.eq_false_or_eq_true (s.testBit (j % 6)) with e2 | e2 <;> simp [e1, e2, fl_a, nI_add]
theorem fl_Ywidth {post : Int32 → Prop} {c : Nat → Nat} {l : Nat → Int32} {s : Nat} (hs : s < 64) (hp : post (nI (fl_w c s 36))) : wpY_width post (fl_a c, l) (nI s) := by
  unfold wpY_width
  refine ⟨37, fl_Yw4 post (fl_a c) l (nI s) ?_ 37 0 (by omega) (by omega)⟩
  rw [fl_yw hs 36 (by omega)]
  exact br_f (nI_pos (by omega)) (br_t (nI_le (b := 63) (by omega) (by decide)) hp)
theorem fl_Ywk24 (post : SY → Prop) {c : Nat → Nat} (hc : ∀ j, c j ≤ 21) (hp : ∀ l : Nat → Int32, (∀ g, g < 4 → l g = nI (fl_n c g 64)) → post (fl_a c, l)) : ∀ n s (l : Nat → Int32), s ≤ 64 → 64 - s < n → (∀ g, g < 4 → l g = nI (fl_n c g s)) → wY_work_24 post n (nI s) (fl_a c) l := by
  intro n
  induction n with
  | zero => intro s l hs hn; omega
  | succ n ih =>
    intro s l hs hn hl
    rw [wY_work_24]
    refine pk_le 64 s (fun h => ?_) (fun h => ?_)
    · obtain rfl : s = 64 := by omega
      exact hp l hl
    · intro x2 ex2 x3 ex3
      have e3 : x3 = nI (fl_k s) := by
        rw [ex3, ex2]
        exact fl_kind s h
      clear ex3 ex2
      subst e3
      have k4 := fl_k4 s
      have wm := fl_wle hc s 36
      have nm := fl_n_1000 c (fl_k s) s
      have hin : vp_in (nI (fl_k s)) 4 := vp_in_nI k4 (by decide)
      have hck : (nI (fl_k s)).toNatClampNeg = fl_k s := nI_clamp (by omega)
      have hs1 : ∀ g, fl_n c g (s + 1) = (if fl_k s = g then min (fl_n c g s) (fl_w c s 36) else fl_n c g s) := fun g => rfl
      refine fl_Ywidth h ⟨hin, ?_⟩
      rw [hck, hl _ k4]
      refine pk_le (fl_n c (fl_k s) s) (fl_w c s 36) (fun e => ⟨hin, hin, nm_e (nm_r (nI_1 s) (ih (s + 1) _ (by omega) (by omega) ?_))⟩) (fun e => ⟨hin, nm_e (nm_r (nI_1 s) (ih (s + 1) _ (by omega) (by omega) ?_))⟩)
      · intro g hg
        rw [hs1 g]
        unfold upd
        by_cases q : g = fl_k s
        · rw [if_pos q, if_pos q.symm, q, Nat.min_eq_left e]
        · rw [if_neg q, if_neg (fun z => q z.symm), hl g hg]
      · intro g hg
        rw [hs1 g]
        unfold upd
        by_cases q : g = fl_k s
        · rw [if_pos q, if_pos q.symm, q, Nat.min_eq_right (by omega)]
        · rw [if_neg q, if_neg (fun z => q z.symm), hl g hg]
theorem fl_Ywk2 (post : SY → Prop) {c : Nat → Nat} (hc : ∀ j, c j ≤ 21) (hp : ∀ l : Nat → Int32, (∀ g, g < 4 → l g = nI (fl_n c g 64)) → post (fl_a c, l)) : ∀ n i (l : Nat → Int32), i ≤ 4 → 4 - i < n → (∀ g, g < i → l g = 1000) → wY_work_2 post n (nI i) (fl_a c) l := by
  intro n
  induction n with
  | zero => intro s l hs hn; omega
  | succ n ih =>
    intro i l hi hn hl
    rw [wY_work_2]
    refine pk_le 4 i (fun h => ⟨65, ?_⟩) (fun h => ⟨vp_in_nI h (by decide), nm_e (nm_r (nI_1 i) (ih (i + 1) _ (by omega) (by omega) ?_))⟩)
    · refine fl_Ywk24 post hc hp 65 0 l (by omega) (by omega) (fun g hg => ?_)
      exact hl g (by omega)
    · intro g hg
      rw [nI_clamp (by omega)]
      unfold upd
      by_cases q : g = i
      · rw [if_pos q]
      · rw [if_neg q]
        exact hl g (by omega)
/-- what the reference's work leaves in limits -/
def fl_L (c : Nat → Nat) (l : Nat → Int32) : Prop := l 1 = nI (fl_n1 c) ∧ l 2 = nI (fl_n2 c) ∧ l 3 = nI (fl_n3 c)
theorem fl_Ywork {post : SY → Prop} {c : Nat → Nat} {l0 : Nat → Int32} (hc : ∀ j, c j ≤ 21) (hp : ∀ l : Nat → Int32, fl_L c l → post (fl_a c, l)) : wpY_work post (fl_a c, l0) := by
  unfold wpY_work
  exact ⟨5, fl_Ywk2 post hc (fun l hl => hp l ⟨hl 1 (by decide), hl 2 (by decide), hl 3 (by decide)⟩) 5 0 l0 (by omega) (by omega) (fun g hg => absurd hg (by omega))⟩
theorem fl_Yfits {post : Int32 → Prop} {c : Nat → Nat} {l : Nat → Int32} {x y : Nat} (hl : fl_L c l) (hx : x ≤ 100000) (hy : y ≤ 100000) (hT : x ≤ fl_n1 c → y ≤ fl_n2 c → x + y ≤ fl_n3 c → post 1) (hF : ¬ (x ≤ fl_n1 c ∧ y ≤ fl_n2 c ∧ x + y ≤ fl_n3 c) → post 0) : wpY_fits post (fl_a c, l) (nI x) (nI y) := by
  obtain ⟨h1, h2, h3⟩ := hl
  have m1 := fl_n1m c
  have m2 := fl_n2m c
  have m3 := fl_n3m c
  unfold wpY_fits
  dsimp only
  rw [h1, h2, h3, nI_add]
  refine br_f (nI_pos (by omega)) (br_f (nI_pos (by omega)) ?_)
  refine pk_lt (fl_n1 c) x (fun e => hF (by omega)) (fun e1 => ?_)
  refine pk_lt (fl_n2 c) y (fun e => hF (by omega)) (fun e2 => ?_)
  exact pk_lt (fl_n3 c) (x + y) (fun e => hF (by omega)) (fun e3 => hT e1 e2 e3)
