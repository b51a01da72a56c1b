/-- both sides hold the same capacities, each from 0 to 20 -/
def i_Rel (k : Nat) (u : SX) (v : SY) : Prop := ∃ c : Nat → Nat, (∀ j, c j ≤ 20) ∧ u = fl_a c ∧ v.1 = fl_a c
theorem i_up {k : Nat} {u : SX} {v : SY} (h : i_Rel k u v) : i_Rel (k + 4) u v := h
theorem i_vc0 : wpX_init (fun u => wpY_init (fun v => i_Rel 0 u v)) := ⟨fun _ => 0, fun _ => Nat.zero_le _, rfl, rfl⟩
theorem fl_rel {c : Nat → Nat} {l : Nat → Int32} (k : Nat) (hc : ∀ j, c j ≤ 20) : i_Rel k (fl_a c) (fl_a c, l) := ⟨c, hc, rfl, rfl⟩
theorem fl_of {k : Nat} {u : SX} {v : SY} (I : i_Rel k u v) : ∃ c l, (∀ j, c j ≤ 20) ∧ u = fl_a c ∧ v = (fl_a c, l) := by
  obtain ⟨a, l⟩ := v
  obtain ⟨c, hc, e, e2⟩ := I
  exact ⟨c, l, hc, e, congrArg (fun z => (z, l)) e2⟩
theorem i_vc_set {k : Nat} {u : SX} {v : SY} (I : i_Rel k u v) (hk : k + 4 ≤ 2048) (v1 : Int32) (v2 : Int32) (v3 : Int32) : wpX_set (fun r u' => wpY_set (fun r' v' => r' = r ∧ i_Rel (k + 4) u' v') v v1 v2 v3) u v1 v2 v3 := by
  obtain ⟨c, l, hc, rfl, rfl⟩ := fl_of I
  unfold wpX_set wpY_set
  dsimp only
  by_cases ok : fl_ok v1 v2
  · obtain ⟨a, b, ha, hb, hn, rfl, rfl⟩ := ok
    refine fl_XplT ha hb hn (br_f (by decide) ?_)
    by_cases n3 : v3 < 0
    · exact br_t n3 (fl_YplT ha hb hn (br_f (by decide) (br_t n3 ⟨rfl, fl_rel _ hc⟩)))
    · refine br_f n3 ?_
      by_cases g : v3 ≤ 20
      · obtain ⟨w, hw, rfl⟩ := nI_of2 (M := 20) (n := 20) (by decide) n3 g
        exact br_t g (fl_Xstore ha hb (fl_YplT ha hb hn (br_f (by decide) (br_f n3 (br_t g (fl_Yput ha hb ⟨rfl, fl_rel _ (fl_sle hc hw)⟩))))))
      · exact br_f g (fl_YplT ha hb hn (br_f (by decide) (br_f n3 (br_f g ⟨rfl, fl_rel _ hc⟩))))
  · exact fl_XplF ok (br_t rfl (fl_YplF ok (br_t rfl ⟨rfl, fl_rel _ hc⟩)))
theorem i_vc_capacity {k : Nat} {u : SX} {v : SY} (I : i_Rel k u v) (hk : k + 4 ≤ 2048) (v1 : Int32) (v2 : Int32) : wpX_capacity (fun r => wpY_capacity (fun r' => r' = r ∧ i_Rel (k + 4) u v) v v1 v2) u v1 v2 := by
  obtain ⟨c, l, hc, rfl, rfl⟩ := fl_of I
  unfold wpX_capacity wpY_capacity
  dsimp only
  by_cases ok : fl_ok v1 v2
  · obtain ⟨a, b, ha, hb, hn, rfl, rfl⟩ := ok
    refine fl_XplT ha hb hn (br_f (by decide) ⟨pk_in (6 * a + b) 36 (by omega) (fl_ixX a b), fl_YplT ha hb hn (br_f (by decide) ⟨pk_in (6 * a + b) 36 (by omega) (fl_ixY a b), ?_, fl_rel _ hc⟩)⟩)
    rw [fl_ixX, fl_ixY]
  · exact fl_XplF ok (br_t rfl (fl_YplF ok (br_t rfl ⟨rfl, fl_rel _ hc⟩)))
theorem i_vc_width {k : Nat} {u : SX} {v : SY} (I : i_Rel k u v) (hk : k + 4 ≤ 2048) (v1 : Int32) : wpX_width (fun r => wpY_width (fun r' => r' = r ∧ i_Rel (k + 4) u v) v v1) u v1 := by
  obtain ⟨c, l, hc, rfl, rfl⟩ := fl_of I
  by_cases n0 : v1 < 0
  · unfold wpX_width
    refine br_t n0 ?_
    unfold wpY_width
    exact ⟨37, fl_Yw4 _ (fl_a c) l v1 (br_t n0 ⟨rfl, fl_rel _ hc⟩) 37 0 (by omega) (by omega)⟩
  · obtain ⟨s, hs, rfl⟩ := nI_of n0
    by_cases g : s < 64
    · exact fl_Xwidth g (fl_Ywidth g ⟨rfl, fl_rel _ hc⟩)
    · unfold wpX_width
      refine br_f n0 (br_f (nI_nlt (b := 64) (by omega) hs) ?_)
      unfold wpY_width
      exact ⟨37, fl_Yw4 _ (fl_a c) l (nI s) (br_f n0 (br_f (nI_ge (a := 63) (by omega) hs) ⟨rfl, fl_rel _ hc⟩)) 37 0 (by omega) (by omega)⟩
theorem i_vc_carries {k : Nat} {u : SX} {v : SY} (I : i_Rel k u v) (hk : k + 4 ≤ 2048) (v1 : Int32) (v2 : Int32) : wpX_carries (fun r => wpY_carries (fun r' v' => r' = r ∧ i_Rel (k + 4) u v') v v1 v2) u v1 v2 := by
  obtain ⟨c, l, hc, rfl, rfl⟩ := fl_of I
  exact fl_Xcar (fl_21 hc) (fl_Ycar (fl_21 hc) (fun l => ⟨rfl, fl_rel _ hc⟩))
theorem i_vc_alone {k : Nat} {u : SX} {v : SY} (I : i_Rel k u v) (hk : k + 4 ≤ 2048) (v1 : Int32) : wpX_alone (fun r => wpY_alone (fun r' v' => r' = r ∧ i_Rel (k + 4) u v') v v1) u v1 := by
  obtain ⟨c, l, hc, rfl, rfl⟩ := fl_of I
  by_cases h0 : v1 = 0
  · subst h0
    exact fl_Xal0 (fl_21 hc) (fl_Yal0 hc (fun l => ⟨rfl, fl_rel _ hc⟩))
  · by_cases h1 : v1 = 1
    · subst h1
      exact fl_Xal1 (fl_21 hc) (fl_Yal1 hc (fun l => ⟨rfl, fl_rel _ hc⟩))
    · exact fl_XalF h0 h1 (fl_YalF hc h0 h1 (fun l => ⟨rfl, fl_rel _ hc⟩))
theorem i_vc_most {k : Nat} {u : SX} {v : SY} (I : i_Rel k u v) (hk : k + 4 ≤ 2048) : wpX_most (fun r => wpY_most (fun r' v' => r' = r ∧ i_Rel (k + 4) u v') v) u := by
  obtain ⟨c, l, hc, rfl, rfl⟩ := fl_of I
  exact fl_Xmost (fl_21 hc) (fl_Ymost (fl_21 hc) (fun l => ⟨rfl, fl_rel _ hc⟩))
theorem i_vc_besides {k : Nat} {u : SX} {v : SY} (I : i_Rel k u v) (hk : k + 4 ≤ 2048) (v1 : Int32) : wpX_besides (fun r => wpY_besides (fun r' v' => r' = r ∧ i_Rel (k + 4) u v') v v1) u v1 := by
  obtain ⟨c, l, hc, rfl, rfl⟩ := fl_of I
  by_cases z : fl_c c v1 0 = 0
  · exact fl_XbesF (fl_21 hc) z (fl_YbesF hc z (fun l => ⟨rfl, fl_rel _ hc⟩))
  · by_cases n0 : v1 < 0
    · exact absurd (if_pos (Or.inl n0)) z
    · obtain ⟨x, hx, rfl⟩ := nI_of n0
      have g : x ≤ fl_n1 c ∧ 0 ≤ fl_n2 c ∧ x + 0 ≤ fl_n3 c := Decidable.byContradiction (fun q => z (fl_cF (y := 0) hx (by omega) q))
      exact fl_Xbes (fl_21 hc) g.1 g.2.2 (fl_Ybes hc g.1 g.2.2 (fun l => ⟨rfl, fl_rel _ hc⟩))
theorem i_vc_evenly {k : Nat} {u : SX} {v : SY} (I : i_Rel k u v) (hk : k + 4 ≤ 2048) : wpX_evenly (fun r => wpY_evenly (fun r' v' => r' = r ∧ i_Rel (k + 4) u v') v) u := by
  obtain ⟨c, l, hc, rfl, rfl⟩ := fl_of I
  exact fl_Xev (fl_21 hc) (fl_Yev hc (fun l => ⟨rfl, fl_rel _ hc⟩))
theorem i_vc_pairs {k : Nat} {u : SX} {v : SY} (I : i_Rel k u v) (hk : k + 4 ≤ 2048) : wpX_pairs (fun r => wpY_pairs (fun r' v' => r' = r ∧ i_Rel (k + 4) u v') v) u := by
  obtain ⟨c, l, hc, rfl, rfl⟩ := fl_of I
  exact fl_Xpa hc (fl_Ypa hc (fun l => ⟨rfl, fl_rel _ hc⟩))
theorem i_vc_worth {k : Nat} {u : SX} {v : SY} (I : i_Rel k u v) (hk : k + 4 ≤ 2048) (v1 : Int32) (v2 : Int32) : wpX_worth (fun r u' => wpY_worth (fun r' v' => r' = r ∧ i_Rel (k + 4) u' v') v v1 v2) u v1 v2 := by
  obtain ⟨c, l, hc, rfl, rfl⟩ := fl_of I
  unfold wpX_worth wpY_worth
  dsimp only
  by_cases ok : fl_ok v1 v2
  · obtain ⟨a, b, ha, hb, hn, rfl, rfl⟩ := ok
    have hcell : c (6 * a + b) + 1 ≤ 21 := Nat.succ_le_succ (hc _)
    have hx : fl_a c (nI a * 6 + nI b).toNatClampNeg + 1 = nI (c (6 * a + b) + 1) := by
      rw [fl_ixX, nI_clamp (by omega), ← nI_1]
      rfl
    have hy : fl_a c (6 * nI a + nI b).toNatClampNeg + 1 = nI (c (6 * a + b) + 1) := by
      rw [fl_ixY, nI_clamp (by omega), ← nI_1]
      rfl
    have hz : ∀ j, fl_z c a b (c (6 * a + b) + 1) j ≤ 20 := fl_zle hc
    rw [hy]
    refine fl_XplT ha hb hn (br_f (by decide) ⟨pk_in (6 * a + b) 36 (by omega) (fl_ixX a b), nm_r hx ?_⟩)
    refine fl_Xmw ha hb hc hcell (fl_Xmost (fl_21 hz) ?_)
    refine fl_YplT ha hb hn (br_f (by decide) ⟨pk_in (6 * a + b) 36 (by omega) (fl_ixY a b), ?_⟩)
    exact fl_Ymw ha hb hc hcell (fun l => fl_Ymost (fl_21 hz) (fun l => ⟨rfl, fl_rel _ hz⟩))
  · exact fl_XplF ok (br_t rfl (fl_YplF ok (br_t rfl ⟨rfl, fl_rel _ hc⟩)))
theorem i_vc_loss {k : Nat} {u : SX} {v : SY} (I : i_Rel k u v) (hk : k + 4 ≤ 2048) (v1 : Int32) (v2 : Int32) : wpX_loss (fun r u' => wpY_loss (fun r' v' => r' = r ∧ i_Rel (k + 4) u' v') v v1 v2) u v1 v2 := by
  obtain ⟨c, l, hc, rfl, rfl⟩ := fl_of I
  unfold wpX_loss wpY_loss
  dsimp only
  by_cases ok : fl_ok v1 v2
  · obtain ⟨a, b, ha, hb, hn, rfl, rfl⟩ := ok
    have hz : ∀ j, fl_z c a b 0 j ≤ 20 := fl_zle hc
    refine fl_XplT ha hb hn (br_f (by decide) (fl_Xmost (fl_21 hc) (fl_Xmw (w := 0) ha hb hc (by decide) ?_)))
    exact fl_YplT ha hb hn (br_f (by decide) (fl_Ymost (fl_21 hc) (fun l => fl_Ymw (w := 0) ha hb hc (by decide) (fun l => ⟨rfl, fl_rel _ hz⟩))))
  · exact fl_XplF ok (br_t rfl (fl_YplF ok (br_t rfl ⟨rfl, fl_rel _ hc⟩)))
theorem i_vc_full {k : Nat} {u : SX} {v : SY} (I : i_Rel k u v) (hk : k + 4 ≤ 2048) (v1 : Int32) (v2 : Int32) : wpX_full (fun r => wpY_full (fun r' v' => r' = r ∧ i_Rel (k + 4) u v') v v1 v2) u v1 v2 := by
  obtain ⟨c, l, hc, rfl, rfl⟩ := fl_of I
  have h21 := fl_21 hc
  unfold wpX_full wpY_full
  dsimp only
  by_cases a1 : fl_c c v1 v2 = 0
  · exact fl_Xcar h21 (br_t a1 (fl_Ycar h21 (fun l => br_t a1 ⟨rfl, fl_rel _ hc⟩)))
  · refine fl_Xcar h21 (br_f a1 ?_)
    by_cases a2 : fl_c c (v1 + 1) v2 = 0
    · refine fl_Xcar h21 (br_t a2 ?_)
      by_cases a3 : fl_c c v1 (v2 + 1) = 0
      · exact fl_Xcar h21 (br_t a3 (fl_Ycar h21 (fun l => br_f a1 (fl_Ycar h21 (fun l => br_t a2 (fl_Ycar h21 (fun l => br_t a3 ⟨rfl, fl_rel _ hc⟩)))))))
      · exact fl_Xcar h21 (br_f a3 (fl_Ycar h21 (fun l => br_f a1 (fl_Ycar h21 (fun l => br_t a2 (fl_Ycar h21 (fun l => br_f a3 ⟨rfl, fl_rel _ hc⟩)))))))
    · exact fl_Xcar h21 (br_f a2 (fl_Ycar h21 (fun l => br_f a1 (fl_Ycar h21 (fun l => br_f a2 ⟨rfl, fl_rel _ hc⟩)))))
