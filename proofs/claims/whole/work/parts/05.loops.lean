def fl_mo (c : Nat → Nat) : Nat := min (fl_n1 c + fl_n2 c) (fl_n3 c)
def fl_al0 (c : Nat → Nat) : Nat := min (fl_n1 c) (fl_n3 c)
def fl_al1 (c : Nat → Nat) : Nat := min (fl_n2 c) (fl_n3 c)
def fl_ev (c : Nat → Nat) : Nat := min (min (fl_n1 c) (fl_n2 c)) (fl_n3 c / 2)
theorem fl_Xal0 {post : Int32 → Prop} {c : Nat → Nat} (hc : ∀ j, c j ≤ 21) (h : post (nI (fl_al0 c))) : wpX_alone post (fl_a c) 0 := by
  have m1 := fl_n1m c
  have m3 := fl_n3m c
  unfold wpX_alone wX_alone_11 wX_alone_21
  exact br_t rfl (br_t rfl (fl_Xnar1 hc (fl_Xnar3 hc (fl_Xsm (by omega) (by omega) h))))
theorem fl_Xal1 {post : Int32 → Prop} {c : Nat → Nat} (hc : ∀ j, c j ≤ 21) (h : post (nI (fl_al1 c))) : wpX_alone post (fl_a c) 1 := by
  have m2 := fl_n2m c
  have m3 := fl_n3m c
  unfold wpX_alone wX_alone_11 wX_alone_21
  exact br_f (by decide) (br_t rfl (br_f (by decide) (fl_Xnar2 hc (fl_Xnar3 hc (fl_Xsm (by omega) (by omega) h)))))
theorem fl_XalF {post : Int32 → Prop} {c : Nat → Nat} {p0 : Int32} (h0 : ¬ p0 = 0) (h1 : ¬ p0 = 1) (h : post (-1)) : wpX_alone post (fl_a c) p0 := by
  unfold wpX_alone
  exact br_f h0 (br_f h1 h)
theorem fl_Yal8_0 (post : Int32 → SY → Prop) {c : Nat → Nat} {l : Nat → Int32} (hc : ∀ j, c j ≤ 20) (hl : fl_L c l) (hp : post (nI (fl_al0 c)) (fl_a c, l)) : ∀ n i, i ≤ 101 → 101 - i < n → wY_alone_8 post 0 (fl_a c) l n (nI (min (fl_al0 c) (i - 1))) (nI i) := by
  have hm : fl_al0 c = min (fl_n1 c) (fl_n3 c) := rfl
  have b1 := fl_b1 hc
  intro n
  induction n with
  | zero => intro i hi hn; omega
  | succ n ih =>
    intro i hi hn
    rw [wY_alone_8]
    refine pk_lt 100 i (fun h => br_t rfl ?_) (fun h => br_t rfl ?_)
    · rw [show min (fl_al0 c) (i - 1) = fl_al0 c by omega]
      exact hp
    · have I := ih (i + 1) (by omega) (by omega)
      refine fl_Yfits (y := 0) hl (by omega) (by omega) (fun h1 h2 h3 => ?_) (fun hF => ?_)
      · rw [show min (fl_al0 c) (i + 1 - 1) = i by omega] at I
        exact br_f (by decide) (nm_r (nI_1 i) I)
      · rw [show min (fl_al0 c) (i + 1 - 1) = min (fl_al0 c) (i - 1) by omega] at I
        unfold wY_alone_27
        exact br_t rfl (br_f (by decide) (nm_r (nI_1 i) I))
theorem fl_Yal8_1 (post : Int32 → SY → Prop) {c : Nat → Nat} {l : Nat → Int32} (hc : ∀ j, c j ≤ 20) (hl : fl_L c l) (hp : post (nI (fl_al1 c)) (fl_a c, l)) : ∀ n i, i ≤ 101 → 101 - i < n → wY_alone_8 post 1 (fl_a c) l n (nI (min (fl_al1 c) (i - 1))) (nI i) := by
  have hm : fl_al1 c = min (fl_n2 c) (fl_n3 c) := rfl
  have b2 := fl_b2 hc
  intro n
  induction n with
  | zero => intro i hi hn; omega
  | succ n ih =>
    intro i hi hn
    rw [wY_alone_8]
    refine pk_lt 100 i (fun h => br_f (by decide) (br_t rfl ?_)) (fun h => br_f (by decide) ?_)
    · rw [show min (fl_al1 c) (i - 1) = fl_al1 c by omega]
      exact hp
    · have I := ih (i + 1) (by omega) (by omega)
      unfold wY_alone_27
      refine br_t rfl (fl_Yfits (x := 0) hl (by omega) (by omega) (fun h1 h2 h3 => ?_) (fun hF => ?_))
      · rw [show min (fl_al1 c) (i + 1 - 1) = i by omega] at I
        exact br_f (by decide) (nm_r (nI_1 i) I)
      · rw [show min (fl_al1 c) (i + 1 - 1) = min (fl_al1 c) (i - 1) by omega] at I
        exact br_t rfl (nm_r (nI_1 i) I)
theorem fl_Yal8_F (post : Int32 → SY → Prop) {c : Nat → Nat} {l : Nat → Int32} {p0 : Int32} (h0 : ¬ p0 = 0) (h1 : ¬ p0 = 1) (hp : post (-1) (fl_a c, l)) : ∀ n i, i ≤ 101 → 101 - i < n → wY_alone_8 post p0 (fl_a c) l n 0 (nI i) := by
  intro n
  induction n with
  | zero => intro i hi hn; omega
  | succ n ih =>
    intro i hi hn
    rw [wY_alone_8]
    refine pk_lt 100 i (fun h => br_f h0 (br_f h1 hp)) (fun h => br_f h0 ?_)
    unfold wY_alone_27
    exact br_f h1 (nm_r (nI_1 i) (ih (i + 1) (by omega) (by omega)))
theorem fl_Yal0 {post : Int32 → SY → Prop} {c : Nat → Nat} {l0 : Nat → Int32} (hc : ∀ j, c j ≤ 20) (h : ∀ l, post (nI (fl_al0 c)) (fl_a c, l)) : wpY_alone post (fl_a c, l0) 0 := by
  unfold wpY_alone
  refine fl_Ywork (fl_21 hc) (fun l hl => ⟨102, ?_⟩)
  have H := fl_Yal8_0 post hc hl (h l) 102 0 (by omega) (by omega)
  rw [show min (fl_al0 c) (0 - 1) = 0 by omega] at H
  exact H
theorem fl_Yal1 {post : Int32 → SY → Prop} {c : Nat → Nat} {l0 : Nat → Int32} (hc : ∀ j, c j ≤ 20) (h : ∀ l, post (nI (fl_al1 c)) (fl_a c, l)) : wpY_alone post (fl_a c, l0) 1 := by
  unfold wpY_alone
  refine fl_Ywork (fl_21 hc) (fun l hl => ⟨102, ?_⟩)
  have H := fl_Yal8_1 post hc hl (h l) 102 0 (by omega) (by omega)
  rw [show min (fl_al1 c) (0 - 1) = 0 by omega] at H
  exact H
theorem fl_YalF {post : Int32 → SY → Prop} {c : Nat → Nat} {l0 : Nat → Int32} {p0 : Int32} (hc : ∀ j, c j ≤ 20) (h0 : ¬ p0 = 0) (h1 : ¬ p0 = 1) (h : ∀ l, post (-1) (fl_a c, l)) : wpY_alone post (fl_a c, l0) p0 := by
  unfold wpY_alone
  exact fl_Ywork (fl_21 hc) (fun l hl => ⟨102, fl_Yal8_F post h0 h1 (h l) 102 0 (by omega) (by omega)⟩)
theorem fl_Xmost {post : Int32 → Prop} {c : Nat → Nat} (hc : ∀ j, c j ≤ 21) (h : post (nI (fl_mo c))) : wpX_most post (fl_a c) := by
  have m1 := fl_n1m c
  have m2 := fl_n2m c
  have m3 := fl_n3m c
  unfold wpX_most
  exact fl_Xnar1 hc (fl_Xnar2 hc (nm_r (nI_add _ _) (fl_Xnar3 hc (fl_Xsm (by omega) (by omega) h))))
/-- m is what the double loop has found ahead of (i, j) -/
def fl_M (c : Nat → Nat) (i j m : Nat) : Prop := m ≤ fl_n1 c + fl_n2 c ∧ m ≤ fl_n3 c ∧ ∀ x y, x ≤ fl_n1 c → y ≤ fl_n2 c → x + y ≤ fl_n3 c → y ≤ 100 → (x < i ∨ x = i ∧ y < j) → x + y ≤ m
theorem fl_Mend {c : Nat → Nat} {m : Nat} (hc : ∀ j, c j ≤ 21) (h : fl_M c 101 0 m) : m = fl_mo c := by
  obtain ⟨h1, h2, h3⟩ := h
  have e : fl_mo c = min (fl_n1 c + fl_n2 c) (fl_n3 c) := rfl
  have b3 := fl_b3 hc
  have b32 := fl_b32 hc
  have b31 := fl_b31 hc
  have k := h3 (min (fl_n1 c) (min 100 (fl_n3 c))) (min (fl_n2 c) (min 100 (fl_n3 c - min (fl_n1 c) (min 100 (fl_n3 c))))) (by omega) (by omega) (by omega) (by omega) (by omega)
  omega
theorem fl_Ymo16 (post : Int32 → SY → Prop) (J : Int32 → Int32 → Prop) {c : Nat → Nat} {l : Nat → Int32} (hl : fl_L c l) (i : Nat) (hi : i ≤ 100) (HJ : ∀ m, fl_M c (i + 1) 0 m → J (nI m) (nI (i + 1))) : ∀ n j m, j ≤ 101 → 101 - j < n → fl_M c i j m → wY_most_16 post J (nI i) (fl_a c) l n (nI m) (nI j) := by
  have m3 := fl_n3m c
  intro n
  induction n with
  | zero => intro j m hj hn; omega
  | succ n ih =>
    intro j m hj hn hM
    obtain ⟨h1, h2, h3⟩ := hM
    rw [wY_most_16]
    refine pk_lt 100 j (fun h => ?_) (fun h => ?_)
    · refine nm_r (nI_1 i) (HJ m ⟨h1, h2, fun x y hx hy hxy h100 ho => h3 x y hx hy hxy h100 (by omega)⟩)
    · rw [nI_add i j]
      refine pk_le (i + j) m (fun e => ?_) (fun e => ?_)
      · refine nm_r (nI_1 j) (ih (j + 1) m (by omega) (by omega) ⟨h1, h2, fun x y hx hy hxy h100 ho => ?_⟩)
        by_cases q : x = i ∧ y = j
        · omega
        · exact h3 x y hx hy hxy h100 (by omega)
      · refine fl_Yfits hl (by omega) (by omega) (fun f1 f2 f3 => ?_) (fun hF => ?_)
        · refine br_f (by decide) (nm_e (nm_r (nI_1 j) (ih (j + 1) (i + j) (by omega) (by omega) ⟨by omega, f3, fun x y hx hy hxy h100 ho => ?_⟩)))
          by_cases q : x = i ∧ y = j
          · omega
          · have := h3 x y hx hy hxy h100 (by omega)
            omega
        · refine br_t rfl (nm_r (nI_1 j) (ih (j + 1) m (by omega) (by omega) ⟨h1, h2, fun x y hx hy hxy h100 ho => ?_⟩))
          by_cases q : x = i ∧ y = j
          · obtain ⟨rfl, rfl⟩ := q
            exact absurd ⟨hx, hy, hxy⟩ hF
          · exact h3 x y hx hy hxy h100 (by omega)
theorem fl_Ymo8 (post : Int32 → SY → Prop) {c : Nat → Nat} {l : Nat → Int32} (hc : ∀ j, c j ≤ 21) (hl : fl_L c l) (hp : post (nI (fl_mo c)) (fl_a c, l)) : ∀ n i m, i ≤ 101 → 101 - i < n → fl_M c i 0 m → wY_most_8 post (fl_a c) l n (nI m) (nI i) := by
  intro n
  induction n with
  | zero => intro i m hi hn; omega
  | succ n ih =>
    intro i m hi hn hM
    rw [wY_most_8]
    refine pk_lt 100 i (fun h => ?_) (fun h => ⟨102, ?_⟩)
    · obtain rfl : i = 101 := by omega
      rw [fl_Mend hc hM]
      exact hp
    · exact fl_Ymo16 post _ hl i h (fun m' hM' => ih (i + 1) m' (by omega) (by omega) hM') 102 0 m (by omega) (by omega) hM
theorem fl_Ymost {post : Int32 → SY → Prop} {c : Nat → Nat} {l0 : Nat → Int32} (hc : ∀ j, c j ≤ 21) (h : ∀ l, post (nI (fl_mo c)) (fl_a c, l)) : wpY_most post (fl_a c, l0) := by
  unfold wpY_most
  exact fl_Ywork hc (fun l hl => ⟨102, fl_Ymo8 post hc hl (h l) 102 0 0 (by omega) (by omega) ⟨by omega, by omega, fun x y _ _ _ _ ho => by omega⟩⟩)
theorem fl_Xbes {post : Int32 → Prop} {c : Nat → Nat} {x : Nat} (hc : ∀ j, c j ≤ 21) (h1 : x ≤ fl_n1 c) (h3 : x ≤ fl_n3 c) (h : post (nI (min (fl_n2 c) (fl_n3 c - x)))) : wpX_besides post (fl_a c) (nI x) := by
  have m1 := fl_n1m c
  have m2 := fl_n2m c
  have m3 := fl_n3m c
  unfold wpX_besides
  refine fl_Xcar hc ?_
  rw [show fl_c c (nI x) 0 = 1 from fl_cT (y := 0) (by omega) (by omega) h1 (by omega) (by omega)]
  exact br_f (by decide) (fl_Xnar2 hc (fl_Xnar3 hc (nm_r (pk_sub h3) (fl_Xsm (by omega) (by omega) h))))
theorem fl_XbesF {post : Int32 → Prop} {c : Nat → Nat} {p0 : Int32} (hc : ∀ j, c j ≤ 21) (hF : fl_c c p0 0 = 0) (h : post (-1)) : wpX_besides post (fl_a c) p0 := by
  unfold wpX_besides
  refine fl_Xcar hc ?_
  rw [hF]
  exact br_t rfl h
def fl_bv (m i : Nat) : Int32 := if i = 0 then -1 else nI (min m (i - 1))
theorem fl_Ybes8 (post : Int32 → SY → Prop) {c : Nat → Nat} {l : Nat → Int32} {x : Nat} (hc : ∀ j, c j ≤ 20) (hl : fl_L c l) (h1 : x ≤ fl_n1 c) (h3 : x ≤ fl_n3 c) (hp : post (nI (min (fl_n2 c) (fl_n3 c - x))) (fl_a c, l)) : ∀ n i, i ≤ 101 → 101 - i < n → wY_besides_8 post (nI x) (fl_a c) l n (fl_bv (min (fl_n2 c) (fl_n3 c - x)) i) (nI i) := by
  have b1 := fl_b1 hc
  have b2 := fl_b2 hc
  intro n
  induction n with
  | zero => intro i hi hn; omega
  | succ n ih =>
    intro i hi hn
    rw [wY_besides_8]
    refine pk_lt 100 i (fun h => ?_) (fun h => br_f (nI_pos (by omega)) (br_f (nI_nlt (a := 100) (by omega) (by decide)) ?_))
    · unfold fl_bv
      rw [if_neg (by omega), show min (min (fl_n2 c) (fl_n3 c - x)) (i - 1) = min (fl_n2 c) (fl_n3 c - x) by omega]
      exact hp
    · have I := ih (i + 1) (by omega) (by omega)
      rw [show fl_bv (min (fl_n2 c) (fl_n3 c - x)) (i + 1) = nI (min (min (fl_n2 c) (fl_n3 c - x)) i) from rfl] at I
      refine fl_Yfits hl (by omega) (by omega) (fun f1 f2 f3 => ?_) (fun hF => ?_)
      · rw [show min (min (fl_n2 c) (fl_n3 c - x)) i = i by omega] at I
        exact br_f (by decide) (nm_r (nI_1 i) I)
      · unfold fl_bv
        rw [if_neg (by omega), show min (min (fl_n2 c) (fl_n3 c - x)) (i - 1) = min (min (fl_n2 c) (fl_n3 c - x)) i by omega]
        exact br_t rfl (nm_r (nI_1 i) I)
theorem fl_Ybes8F (post : Int32 → SY → Prop) {c : Nat → Nat} {l : Nat → Int32} {x : Nat} (hl : fl_L c l) (hx : x ≤ 100) (hF : ¬ (x ≤ fl_n1 c ∧ x ≤ fl_n3 c)) (hp : post (-1) (fl_a c, l)) : ∀ n i, i ≤ 101 → 101 - i < n → wY_besides_8 post (nI x) (fl_a c) l n (-1) (nI i) := by
  intro n
  induction n with
  | zero => intro i hi hn; omega
  | succ n ih =>
    intro i hi hn
    rw [wY_besides_8]
    refine pk_lt 100 i (fun h => hp) (fun h => br_f (nI_pos (by omega)) (br_f (nI_nlt (a := 100) (by omega) (by decide)) ?_))
    exact fl_Yfits hl (by omega) (by omega) (fun f1 f2 f3 => by omega) (fun _ => br_t rfl (nm_r (nI_1 i) (ih (i + 1) (by omega) (by omega))))
theorem fl_Ybes {post : Int32 → SY → Prop} {c : Nat → Nat} {l0 : Nat → Int32} {x : Nat} (hc : ∀ j, c j ≤ 20) (h1 : x ≤ fl_n1 c) (h3 : x ≤ fl_n3 c) (h : ∀ l, post (nI (min (fl_n2 c) (fl_n3 c - x))) (fl_a c, l)) : wpY_besides post (fl_a c, l0) (nI x) := by
  unfold wpY_besides
  exact fl_Ywork (fl_21 hc) (fun l hl => ⟨102, fl_Ybes8 post hc hl h1 h3 (h l) 102 0 (by omega) (by omega)⟩)
theorem fl_YbesF {post : Int32 → SY → Prop} {c : Nat → Nat} {l0 : Nat → Int32} {p0 : Int32} (hc : ∀ j, c j ≤ 20) (hF : fl_c c p0 0 = 0) (h : ∀ l, post (-1) (fl_a c, l)) : wpY_besides post (fl_a c, l0) p0 := by
  unfold wpY_besides
  refine fl_Ywork (fl_21 hc) (fun l hl => ⟨102, ?_⟩)
  by_cases n0 : p0 < 0
  · rw [wY_besides_8]
    exact br_f (by decide) (br_t n0 (h l))
  · obtain ⟨x, hx, rfl⟩ := nI_of n0
    by_cases g : x ≤ 100
    · refine fl_Ybes8F post hl g (fun z => ?_) (h l) 102 0 (by omega) (by omega)
      have e : fl_c c (nI x) 0 = 1 := fl_cT (y := 0) hx (by omega) z.1 (by omega) (by omega)
      rw [e] at hF
      exact absurd hF (by decide)
    · rw [wY_besides_8]
      exact br_f (by decide) (br_f n0 (br_t (nI_lt (a := 100) (by omega) hx) (h l)))
theorem fl_Xev {post : Int32 → Prop} {c : Nat → Nat} (hc : ∀ j, c j ≤ 21) (h : post (nI (fl_ev c))) : wpX_evenly post (fl_a c) := by
  have m1 := fl_n1m c
  have m2 := fl_n2m c
  have m3 := fl_n3m c
  unfold wpX_evenly
  exact fl_Xnar1 hc (fl_Xnar2 hc (fl_Xnar3 hc ⟨by decide, nm_r (pk_div (d := 2) (by omega) (by decide) (by decide)) (fl_Xsm (by omega) (by omega) (fl_Xsm (by omega) (by omega) h))⟩))
theorem fl_Yev8 (post : Int32 → SY → Prop) {c : Nat → Nat} {l : Nat → Int32} (hc : ∀ j, c j ≤ 20) (hl : fl_L c l) (hp : post (nI (fl_ev c)) (fl_a c, l)) : ∀ n i, i ≤ 101 → 101 - i < n → wY_evenly_8 post (fl_a c) l n (nI (min (fl_ev c) (i - 1))) (nI i) := by
  have hm : fl_ev c = min (min (fl_n1 c) (fl_n2 c)) (fl_n3 c / 2) := rfl
  have b1 := fl_b1 hc
  intro n
  induction n with
  | zero => intro i hi hn; omega
  | succ n ih =>
    intro i hi hn
    rw [wY_evenly_8]
    refine pk_lt 100 i (fun h => ?_) (fun h => ?_)
    · rw [show min (fl_ev c) (i - 1) = fl_ev c by omega]
      exact hp
    · have I := ih (i + 1) (by omega) (by omega)
      refine fl_Yfits hl (by omega) (by omega) (fun h1 h2 h3 => ?_) (fun hF => ?_)
      · rw [show min (fl_ev c) (i + 1 - 1) = i by omega] at I
        exact br_f (by decide) (nm_r (nI_1 i) I)
      · rw [show min (fl_ev c) (i + 1 - 1) = min (fl_ev c) (i - 1) by omega] at I
        exact br_t rfl (nm_r (nI_1 i) I)
theorem fl_Yev {post : Int32 → SY → Prop} {c : Nat → Nat} {l0 : Nat → Int32} (hc : ∀ j, c j ≤ 20) (h : ∀ l, post (nI (fl_ev c)) (fl_a c, l)) : wpY_evenly post (fl_a c, l0) := by
  unfold wpY_evenly
  refine fl_Ywork (fl_21 hc) (fun l hl => ⟨102, ?_⟩)
  have H := fl_Yev8 post hc hl (h l) 102 0 (by omega) (by omega)
  rw [show min (fl_ev c) (0 - 1) = 0 by omega] at H
  exact H
