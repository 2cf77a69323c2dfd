/-- the same steps on both sides, and X keeps the shortest point with the greatest x, of several the greatest y -/
def i_Rel (_ : Nat) (u : SX) (v : SY) : Prop :=
  ∃ (a b c d s t : Int) (e1 e2 e3 : Int32), gz_st a b c d ∧ gz_T a b c d s t ∧
    u = (gz_i a, gz_i b, gz_i c, gz_i d, gz_i s, gz_i t) ∧ v = (gz_i a, gz_i b, gz_i c, gz_i d, e1, e2, e3)
theorem i_up {k : Nat} {u : SX} {v : SY} (h : i_Rel k u v) : i_Rel (k + 5) u v := h
theorem gx_hold {a b c d s t : Int} {p1 p2 p3 p4 p5 p6 q1 q2 q3 q4 : Int32} {post : SX → Prop} (hs : gz_st a b c d) (hT : gz_T a b c d s t)
    (h : post (gz_i a, gz_i b, gz_i c, gz_i d, gz_i s, gz_i t)) (h1 : q1 = gz_i a) (h2 : q2 = gz_i b) (h3 : q3 = gz_i c) (h4 : q4 = gz_i d) :
    wpX_hold post (p1, p2, p3, p4, p5, p6) q1 q2 q3 q4 := by
  subst h1 h2 h3 h4
  unfold wpX_hold
  exact gx_fs hs hT h
theorem i_vc0 : wpX_init (fun u => wpY_init (fun v => i_Rel 0 u v)) := by
  have hs : gz_st 1 0 0 1 := by
    unfold gz_st
    decide
  obtain ⟨s, t, hT⟩ := gz_Tex hs
  unfold wpX_init
  refine gx_hold hs hT ?_ (by decide) (by decide) (by decide) (by decide)
  refine ⟨1, 0, 0, 1, s, t, 0, 0, 0, hs, hT, rfl, ?_⟩
  rw [gz_1, gz_0]
theorem i_vc_steps {k : Nat} {u : SX} {v : SY} (I : i_Rel k u v) (hk : k + 5 ≤ 2560) (v1 : Int32) (v2 : Int32) (v3 : Int32) (v4 : Int32) : wpX_steps (fun r u' => wpY_steps (fun r' v' => r' = r ∧ i_Rel (k + 5) u' v') v v1 v2 v3 v4) u v1 v2 v3 v4 := by
  have J : i_Rel (k + 5) u v := I
  obtain ⟨a, b, c, d, s, t, e1, e2, e3, hs, hT, rfl, rfl⟩ := I
  obtain ⟨w1, h1, rfl⟩ := gz_of v1
  obtain ⟨w2, h2, rfl⟩ := gz_of v2
  obtain ⟨w3, h3, rfl⟩ := gz_of v3
  obtain ⟨w4, h4, rfl⟩ := gz_of v4
  unfold wpX_steps
  refine gx_are h1 h2 h3 h4 (fun hw => ?_) (fun hw => ?_)
  · refine br_f (by decide) ?_
    obtain ⟨s', t', hT'⟩ := gz_Tex hw
    refine gx_hold hw hT' ?_ rfl rfl rfl rfl
    have hB := gz_Db hw
    unfold wpY_steps
    refine gy_bad h1 (fun _ => br_t rfl ?_) (fun z => absurd hw.1 z)
    refine gy_bad h2 (fun _ => br_t rfl ?_) (fun z => absurd hw.2.1 z)
    refine gy_bad h3 (fun _ => br_t rfl ?_) (fun z => absurd hw.2.2.1 z)
    refine gy_bad h4 (fun _ => br_t rfl ?_) (fun z => absurd hw.2.2.2.1 z)
    refine gz_beq (w1 * w4 - w2 * w3) 0 (fun z => absurd z hw.2.2.2.2) (fun _ => ?_) (gz_cr w1 w2 w3 w4)
    exact ⟨rfl, w1, w2, w3, w4, s', t', e1, e2, e3, hw, hT', rfl, rfl⟩
  · refine br_t rfl ?_
    unfold wpY_steps
    refine gy_bad h1 (fun k1 => br_t rfl ?_) (fun _ => br_f (by decide) ⟨rfl, J⟩)
    refine gy_bad h2 (fun k2 => br_t rfl ?_) (fun _ => br_f (by decide) ⟨rfl, J⟩)
    refine gy_bad h3 (fun k3 => br_t rfl ?_) (fun _ => br_f (by decide) ⟨rfl, J⟩)
    refine gy_bad h4 (fun k4 => br_t rfl ?_) (fun _ => br_f (by decide) ⟨rfl, J⟩)
    have hB := gz_eb (x := w1) (y := w2) (c := w3) (d := w4) (by omega) (by omega) k3 k4
    exact gz_beq (w1 * w4 - w2 * w3) 0 (fun _ => ⟨rfl, J⟩) (fun z => absurd ⟨k1, k2, k3, k4, z⟩ hw) (gz_cr w1 w2 w3 w4)
theorem i_vc_has {k : Nat} {u : SX} {v : SY} (I : i_Rel k u v) (hk : k + 5 ≤ 2560) (v1 : Int32) (v2 : Int32) : wpX_has (fun r => wpY_has (fun r' => r' = r ∧ i_Rel (k + 5) u v) v v1 v2) u v1 v2 := by
  have J : i_Rel (k + 5) u v := I
  obtain ⟨a, b, c, d, s, t, e1, e2, e3, hs, hT, rfl, rfl⟩ := I
  obtain ⟨w1, h1, rfl⟩ := gz_of v1
  obtain ⟨w2, h2, rfl⟩ := gz_of v2
  unfold wpX_has
  refine gx_place h1 h2 (fun hp => ?_) (fun hp => ?_)
  · refine br_f (by decide) ?_
    refine gx_in (x := w1) (y := w2) hs (by omega) (by omega) (fun hg => ?_) (fun hg => ?_)
    · refine br_f (by decide) ?_
      unfold wpY_has
      refine gy_far h1 h2 (fun _ => br_t rfl ?_) (fun z => absurd hp z)
      exact gy_pt hs (by omega) (by omega) (fun _ => br_f (by decide) ⟨rfl, J⟩) (fun z => absurd hg z)
    · refine br_t rfl ?_
      unfold wpY_has
      refine gy_far h1 h2 (fun _ => br_t rfl ?_) (fun z => absurd hp z)
      exact gy_pt hs (by omega) (by omega) (fun z => absurd z hg) (fun _ => br_t rfl ⟨rfl, J⟩)
  · refine br_t rfl ?_
    unfold wpY_has
    exact gy_far h1 h2 (fun z => absurd z hp) (fun _ => br_f (by decide) ⟨rfl, J⟩)
theorem i_vc_shortest {k : Nat} {u : SX} {v : SY} (I : i_Rel k u v) (hk : k + 5 ≤ 2560) : wpX_shortest (fun r => wpY_shortest (fun r' => r' = r ∧ i_Rel (k + 5) u v) v) u := by
  have J : i_Rel (k + 5) u v := I
  obtain ⟨a, b, c, d, s, t, e1, e2, e3, hs, hT, rfl, rfl⟩ := I
  unfold wpX_shortest
  refine gx_size ?_
  exact gy_sh hs hT ⟨rfl, J⟩
theorem i_vc_many {k : Nat} {u : SX} {v : SY} (I : i_Rel k u v) (hk : k + 5 ≤ 2560) : wpX_many (fun r => wpY_many (fun r' => r' = r ∧ i_Rel (k + 5) u v) v) u := by
  have J : i_Rel (k + 5) u v := I
  obtain ⟨a, b, c, d, s, t, e1, e2, e3, hs, hT, rfl, rfl⟩ := I
  obtain ⟨q, hq⟩ := gz_ind (fun x y => gz_n x y = gz_n s t ∧ gz_g a b c d x y)
  refine gx_ma hs hT hq ?_
  refine gy_ma hs hT hq ⟨?_, J⟩
  refine congrArg gz_i (gz_tot_in q (fun x y hb => (hq x y).2 (fun z => ?_)))
  have h1 := gz_nlo (x := x) (y := y) 42 hb
  have h2 := hT.2.2.2.1
  have h3 := z.1
  omega
theorem i_vc_second {k : Nat} {u : SX} {v : SY} (I : i_Rel k u v) (hk : k + 5 ≤ 2560) : wpX_second (fun r => wpY_second (fun r' => r' = r ∧ i_Rel (k + 5) u v) v) u := by
  have J : i_Rel (k + 5) u v := I
  obtain ⟨a, b, c, d, s, t, e1, e2, e3, hs, hT, rfl, rfl⟩ := I
  obtain ⟨m, hM⟩ := gz_Mex hs hT
  refine gx_se hs hT.1 hM ?_
  exact gy_se hs hT hM ⟨rfl, J⟩
theorem i_vc_distance {k : Nat} {u : SX} {v : SY} (I : i_Rel k u v) (hk : k + 5 ≤ 2560) (v1 : Int32) (v2 : Int32) : wpX_distance (fun r => wpY_distance (fun r' v' => r' = r ∧ i_Rel (k + 5) u v') v v1 v2) u v1 v2 := by
  have J : i_Rel (k + 5) u v := I
  obtain ⟨a, b, c, d, s, t, e1, e2, e3, hs, hT, rfl, rfl⟩ := I
  obtain ⟨w1, h1, rfl⟩ := gz_of v1
  obtain ⟨w2, h2, rfl⟩ := gz_of v2
  by_cases hp : (-1000 ≤ w1 ∧ w1 ≤ 1000) ∧ (-1000 ≤ w2 ∧ w2 ≤ 1000)
  · obtain ⟨p, q, hN⟩ := gz_Nex hs w1 w2
    refine gx_di hs hp.1 hp.2 hN ?_
    unfold wpY_distance
    refine gy_far h1 h2 (fun _ => br_t rfl ?_) (fun z => absurd hp z)
    refine gy_sr hs hp.1 hp.2 hN ?_
    exact ⟨rfl, a, b, c, d, s, t, _, _, _, hs, hT, rfl, rfl⟩
  · unfold wpX_distance
    refine gx_place h1 h2 (fun z => absurd z hp) (fun _ => br_t rfl ?_)
    unfold wpY_distance
    exact gy_far h1 h2 (fun z => absurd z hp) (fun _ => br_f (by decide) ⟨rfl, J⟩)
theorem i_vc_nearest {k : Nat} {u : SX} {v : SY} (I : i_Rel k u v) (hk : k + 5 ≤ 2560) (v1 : Int32) (v2 : Int32) : wpX_nearest (fun r => wpY_nearest (fun r' v' => r' = r ∧ i_Rel (k + 5) u v') v v1 v2) u v1 v2 := by
  have J : i_Rel (k + 5) u v := I
  obtain ⟨a, b, c, d, s, t, e1, e2, e3, hs, hT, rfl, rfl⟩ := I
  obtain ⟨w1, h1, rfl⟩ := gz_of v1
  obtain ⟨w2, h2, rfl⟩ := gz_of v2
  by_cases hp : (-1000 ≤ w1 ∧ w1 ≤ 1000) ∧ (-1000 ≤ w2 ∧ w2 ≤ 1000)
  · obtain ⟨p, q, hN⟩ := gz_Nex hs w1 w2
    refine gx_ne hs hp.1 hp.2 hN ?_
    unfold wpY_nearest
    refine gy_far h1 h2 (fun _ => br_t rfl ?_) (fun z => absurd hp z)
    refine gy_sr hs hp.1 hp.2 hN ?_
    exact ⟨gz_code _ _, a, b, c, d, s, t, _, _, _, hs, hT, rfl, rfl⟩
  · unfold wpX_nearest
    refine gx_place h1 h2 (fun z => absurd z hp) (fun _ => br_t rfl ?_)
    unfold wpY_nearest
    exact gy_far h1 h2 (fun z => absurd z hp) (fun _ => br_f (by decide) ⟨rfl, J⟩)
theorem i_vc_within {k : Nat} {u : SX} {v : SY} (I : i_Rel k u v) (hk : k + 5 ≤ 2560) (v1 : Int32) : wpX_within (fun r => wpY_within (fun r' => r' = r ∧ i_Rel (k + 5) u v) v v1) u v1 := by
  have J : i_Rel (k + 5) u v := I
  obtain ⟨a, b, c, d, s, t, e1, e2, e3, hs, hT, rfl, rfl⟩ := I
  unfold wpX_within
  refine br_c (fun h => ?_) (fun h => ?_)
  · obtain ⟨q, hq⟩ := gz_ind (fun x y => ¬ v1 < gz_i (gz_n x y) ∧ gz_g a b c d x y)
    refine gx_wi hs hq ?_
    unfold wpY_within
    exact br_t h (gy_wi hs hq ⟨rfl, J⟩)
  · obtain ⟨q, hq⟩ := gz_ind (fun x y => ¬ (900 : Int32) < gz_i (gz_n x y) ∧ gz_g a b c d x y)
    refine gx_wi hs hq ?_
    unfold wpY_within
    exact br_f h (gy_wi hs hq ⟨rfl, J⟩)
/-- the answer of same, X's way -/
theorem gx_same {a b c d e f g h : Int} {s t : Int32} {post : Int32 → Prop} (hs : gz_st a b c d) (hw : gz_st e f g h)
    (h1 : ((e * h - f * g = a * d - b * c ∨ e * h - f * g = -(a * d - b * c)) ∧ gz_g a b c d e f ∧ gz_g a b c d g h) → post 1)
    (h0 : ¬ ((e * h - f * g = a * d - b * c ∨ e * h - f * g = -(a * d - b * c)) ∧ gz_g a b c d e f ∧ gz_g a b c d g h) → post 0) :
    wpX_same post (gz_i a, gz_i b, gz_i c, gz_i d, s, t) (gz_i e) (gz_i f) (gz_i g) (gz_i h) := by
  have b1 := gz_Db hs
  have b2 := gz_Db hw
  have r1 := hw.1
  have r2 := hw.2.1
  have r3 := hw.2.2.1
  have r4 := hw.2.2.2.1
  have main : (e * h - f * g = a * d - b * c ∨ e * h - f * g = -(a * d - b * c)) → wX_same_59 post (gz_i e) (gz_i f) (gz_i g) (gz_i h) (gz_i a) (gz_i b) (gz_i c) (gz_i d) s t := by
    intro hE
    unfold wX_same_59 wX_same_64
    refine br_f (by decide) ?_
    refine gx_in (x := e) (y := f) hs (by omega) (by omega) (fun g1 => br_f (by decide) ?_) (fun g1 => br_t rfl (h0 (fun z => g1 z.2.1)))
    exact gx_in (x := g) (y := h) hs (by omega) (by omega) (fun g2 => br_f (by decide) (h1 ⟨hE, g1, g2⟩)) (fun g2 => br_t rfl (h0 (fun z => g2 z.2.2)))
  unfold wpX_same
  refine gx_are (by omega) (by omega) (by omega) (by omega) (fun _ => br_f (by decide) ?_) (fun z => absurd hw z)
  refine gx_cross ?_
  refine gx_cross ?_
  refine gz_beq (e * h - f * g) (a * d - b * c) (fun z => main (Or.inl z)) (fun z1 => ?_)
  refine gz_beq (e * h - f * g) (-(a * d - b * c)) (fun z => main (Or.inr z)) (fun z2 => ?_) rfl (gz_neg _)
  unfold wX_same_64
  exact br_t rfl (h0 (fun z => z.1.elim z1 z2))
/-- the answer of same, Y's way -/
theorem gy_same {a b c d e f g h : Int} {e1 e2 e3 : Int32} {post : Int32 → Prop} (hs : gz_st a b c d) (hw : gz_st e f g h)
    (h1 : ((gz_g a b c d e f ∧ gz_g a b c d g h) ∧ (gz_g e f g h a b ∧ gz_g e f g h c d)) → post 1)
    (h0 : ¬ ((gz_g a b c d e f ∧ gz_g a b c d g h) ∧ (gz_g e f g h a b ∧ gz_g e f g h c d)) → post 0) :
    wpY_same post (gz_i a, gz_i b, gz_i c, gz_i d, e1, e2, e3) (gz_i e) (gz_i f) (gz_i g) (gz_i h) := by
  have b2 := gz_Db hw
  have r1 := hw.1
  have r2 := hw.2.1
  have r3 := hw.2.2.1
  have r4 := hw.2.2.2.1
  have k1 := hs.1
  have k2 := hs.2.1
  have k3 := hs.2.2.1
  have k4 := hs.2.2.2.1
  have no : (¬ (gz_g a b c d e f ∧ gz_g a b c d g h)) → wY_same_65 post (gz_i e) (gz_i f) (gz_i g) (gz_i h) (gz_i a) (gz_i b) (gz_i c) (gz_i d) e1 e2 e3 := by
    intro hn
    have hz : post 0 := h0 (fun z => hn z.1)
    unfold wY_same_65 wY_same_66
    refine gy_in hw (by omega) (by omega) (fun g1 => br_f (by decide) ?_) (fun g1 => br_t rfl ?_)
    · refine gy_in hw (by omega) (by omega) (fun g2 => br_f (by decide) ?_) (fun g2 => br_t rfl ?_)
      · unfold wY_same_111
        exact br_t rfl hz
      · unfold wY_same_110 wY_same_111
        exact br_t rfl hz
    · unfold wY_same_110 wY_same_111
      exact br_t rfl hz
  unfold wpY_same
  refine gy_bad (by omega) (fun _ => br_t rfl ?_) (fun z => absurd r1 z)
  refine gy_bad (by omega) (fun _ => br_t rfl ?_) (fun z => absurd r2 z)
  refine gy_bad (by omega) (fun _ => br_t rfl ?_) (fun z => absurd r3 z)
  refine gy_bad (by omega) (fun _ => br_t rfl ?_) (fun z => absurd r4 z)
  refine gz_beq (e * h - f * g) 0 (fun z => absurd z hw.2.2.2.2) (fun _ => ?_) (gz_cr e f g h)
  refine gy_pt hs (by omega) (by omega) (fun g1 => br_f (by decide) ?_) (fun g1 => br_t rfl (no (fun z => g1 z.1)))
  refine gy_pt hs (by omega) (by omega) (fun g2 => br_f (by decide) ?_) (fun g2 => br_t rfl (no (fun z => g2 z.2)))
  unfold wY_same_66
  refine gy_in hw (by omega) (by omega) (fun g3 => br_f (by decide) ?_) (fun g3 => br_t rfl ?_)
  · refine gy_in hw (by omega) (by omega) (fun g4 => br_f (by decide) ?_) (fun g4 => br_t rfl ?_)
    · unfold wY_same_111
      exact br_f (by decide) (br_f (by decide) (h1 ⟨⟨g1, g2⟩, ⟨g3, g4⟩⟩))
    · unfold wY_same_110 wY_same_111
      exact br_f (by decide) (br_t rfl (h0 (fun z => g4 z.2.2)))
  · unfold wY_same_110 wY_same_111
    exact br_f (by decide) (br_t rfl (h0 (fun z => g3 z.2.1)))
theorem i_vc_same {k : Nat} {u : SX} {v : SY} (I : i_Rel k u v) (hk : k + 5 ≤ 2560) (v1 : Int32) (v2 : Int32) (v3 : Int32) (v4 : Int32) : wpX_same (fun r => wpY_same (fun r' => r' = r ∧ i_Rel (k + 5) u v) v v1 v2 v3 v4) u v1 v2 v3 v4 := by
  have J : i_Rel (k + 5) u v := I
  obtain ⟨a, b, c, d, s, t, e1, e2, e3, hs, hT, rfl, rfl⟩ := I
  obtain ⟨w1, h1, rfl⟩ := gz_of v1
  obtain ⟨w2, h2, rfl⟩ := gz_of v2
  obtain ⟨w3, h3, rfl⟩ := gz_of v3
  obtain ⟨w4, h4, rfl⟩ := gz_of v4
  by_cases hw : gz_st w1 w2 w3 w4
  · have eq := gz_same (a := a) (b := b) (c := c) (d := d) (e := w1) (f := w2) (g := w3) (h := w4) hs.2.2.2.2 hw.2.2.2.2
    refine gx_same hs hw (fun z => ?_) (fun z => ?_)
    · exact gy_same hs hw (fun _ => ⟨rfl, J⟩) (fun y => absurd (eq.mpr z) y)
    · exact gy_same hs hw (fun y => absurd (eq.mp y) z) (fun _ => ⟨rfl, J⟩)
  · unfold wpX_same
    refine gx_are h1 h2 h3 h4 (fun z => absurd z hw) (fun _ => br_t rfl ?_)
    unfold wpY_same
    refine gy_bad h1 (fun k1 => br_t rfl ?_) (fun _ => br_f (by decide) ⟨rfl, J⟩)
    refine gy_bad h2 (fun k2 => br_t rfl ?_) (fun _ => br_f (by decide) ⟨rfl, J⟩)
    refine gy_bad h3 (fun k3 => br_t rfl ?_) (fun _ => br_f (by decide) ⟨rfl, J⟩)
    refine gy_bad h4 (fun k4 => br_t rfl ?_) (fun _ => br_f (by decide) ⟨rfl, J⟩)
    have hB := gz_eb (x := w1) (y := w2) (c := w3) (d := w4) (by omega) (by omega) k3 k4
    exact gz_beq (w1 * w4 - w2 * w3) 0 (fun _ => ⟨rfl, J⟩) (fun z => absurd ⟨k1, k2, k3, k4, z⟩ hw) (gz_cr w1 w2 w3 w4)
