/-- X: the least size beside the line of (s, t) -/
theorem gx_se16 {a b c d s t x m p q : Int} {post : Int32 → Prop} {J : Int32 → Int32 → Prop} (hs : gz_st a b c d) (hst : (-42 ≤ s ∧ s ≤ 42) ∧ (-42 ≤ t ∧ t ≤ 42))
    (hpq : ((-42 ≤ p ∧ p ≤ 42) ∧ (-42 ≤ q ∧ q ≤ 42)) ∧ s * q - t * p ≠ 0 ∧ gz_g a b c d p q ∧ gz_n p q = m)
    (hmin : ∀ x y, s * y - t * x ≠ 0 → gz_g a b c d x y → m ≤ gz_n x y) (hx : -42 ≤ x ∧ x ≤ 42)
    (hJ : ∀ L : Int, gz_L m p q (x + 1) (-42) L → L ≤ 100000 → J (gz_i L) (gz_i (x + 1)))
    (L : Int) (hL : gz_L m p q x (-42) L) (h1 : L ≤ 100000) (y0 : Int32) (hy0 : y0 = gz_i (-42)) :
    ∃ n, wX_second_16 post J (gz_i x) (gz_i a) (gz_i b) (gz_i c) (gz_i d) (gz_i s) (gz_i t) n (gz_i L) y0 := by
  subst hy0
  have hm := hpq.2.2.2
  have m0 := gz_n0 p q
  refine ⟨86, ?_⟩
  refine gz_up (fun n y (z : Int) => wX_second_16 post J (gz_i x) (gz_i a) (gz_i b) (gz_i c) (gz_i d) (gz_i s) (gz_i t) n (gz_i z) y)
    (fun y z => gz_L m p q x y z ∧ z ≤ 100000) (-42) 42 ?_ ?_ 85 (-42) L (by decide) (by decide) ⟨hL, h1⟩
  · rintro n L ⟨hL, h1⟩
    refine gz_blt 42 (42 + 1) (fun _ => ?_) (fun h => absurd h (by decide))
    refine nm_r (gz_p1 x) ?_
    exact hJ L (gz_Lrow (lo := -42) (hi := 42) hpq.1.2 hL) h1
  · rintro n y L hl hh ⟨hL, h1⟩ IH
    have nb := gz_nup (x := x) (y := y) 42 ⟨by omega, by omega⟩
    have n0 := gz_n0 x y
    have l0 := hL.1
    have cb := gz_cb (s := s) (t := t) (x := x) (y := y) ⟨by omega, by omega⟩ (by omega) (by omega)
    refine gz_blt 42 y (fun h => absurd h (by omega)) (fun _ => ?_)
    refine gx_cross ?_
    refine gz_beq (s * y - t * x) 0 (fun e => ?_) (fun e => ?_)
    · unfold wX_second_43
      refine br_f (by decide) ?_
      refine nm_r (gz_p1 y) ?_
      exact IH L ⟨gz_Lmiss hL (fun e1 e2 => by subst e1 e2; exact absurd e hpq.2.1), h1⟩
    · unfold wX_second_43
      refine br_t rfl ?_
      refine gx_size ?_
      refine gz_ble L (gz_n x y) (fun h => ?_) (fun h => ?_)
      · refine nm_r (gz_p1 y) ?_
        exact IH L ⟨gz_Lmiss hL (fun e1 e2 => by subst e1 e2; omega), h1⟩
      · refine gx_in (x := x) (y := y) hs (by omega) (by omega) (fun hg => ?_) (fun hg => ?_)
        · refine br_f (by decide) ?_
          refine gx_size ?_
          refine nm_r (gz_p1 y) ?_
          exact IH (gz_n x y) ⟨gz_Lhit hL h (hmin x y e hg) (fun e1 e2 => by subst e1 e2; exact hm), by omega⟩
        · refine br_t rfl ?_
          refine nm_r (gz_p1 y) ?_
          exact IH L ⟨gz_Lmiss hL (fun e1 e2 => by subst e1 e2; exact absurd hpq.2.2.1 hg), h1⟩
theorem gx_se {a b c d s t m : Int} {post : Int32 → Prop} (hs : gz_st a b c d) (hst : (-42 ≤ s ∧ s ≤ 42) ∧ (-42 ≤ t ∧ t ≤ 42)) (hM : gz_M a b c d s t m) (h : post (gz_i m)) :
    wpX_second post (gz_i a, gz_i b, gz_i c, gz_i d, gz_i s, gz_i t) := by
  obtain ⟨⟨p, q, hpq⟩, hm, hmin⟩ := hM
  have hb := hpq.1
  have main : ∀ L0 x0 : Int32, L0 = gz_i 3529 → x0 = gz_i (-42) → ∃ n, wX_second_7 post (gz_i a) (gz_i b) (gz_i c) (gz_i d) (gz_i s) (gz_i t) n L0 x0 := by
    intro L0 x0 hL0 hx0
    subst hL0 hx0
    refine ⟨86, ?_⟩
    refine gz_up (fun n x (z : Int) => wX_second_7 post (gz_i a) (gz_i b) (gz_i c) (gz_i d) (gz_i s) (gz_i t) n (gz_i z) x)
      (fun x z => gz_L m p q x (-42) z ∧ z ≤ 100000) (-42) 42 ?_ ?_ 85 (-42) 3529 (by decide) (by decide) ⟨gz_L0 (by omega) (by omega) (by omega), by decide⟩
    · rintro n L ⟨hL, h1⟩
      have e := gz_Lend (by omega) hL
      refine gz_blt 42 (42 + 1) (fun _ => ?_) (fun h => absurd h (by decide))
      rw [← e] at h
      exact h
    · rintro n x L hl hh ⟨hL, h1⟩ IH
      refine gz_blt 42 x (fun h => absurd h (by omega)) (fun _ => ?_)
      exact gx_se16 hs hst hpq hmin ⟨hl, hh⟩ (fun L k1 k2 => IH L ⟨k1, k2⟩) L hL h1 _ (by decide)
  unfold wpX_second
  exact main _ _ (by decide) (by decide)
/-- X: the least size of a difference -/
theorem gx_di29 {a b c d s t u v x p q : Int} {post : Int32 → Prop} {J : Int32 → Int32 → Prop} (hs : gz_st a b c d)
    (hu : -1000 ≤ u ∧ u ≤ 1000) (hv : -1000 ≤ v ∧ v ≤ 1000) (hN : gz_N a b c d u v p q) (hx : -30 ≤ x ∧ x ≤ 30)
    (hJ : ∀ L : Int, gz_L (gz_n p q) p q (x + 1) (-30) L → L ≤ 100000 → J (gz_i L) (gz_i (x + 1)))
    (L : Int) (hL : gz_L (gz_n p q) p q x (-30) L) (h1 : L ≤ 100000) (y0 : Int32) (hy0 : y0 = gz_i (-30)) :
    ∃ n, wX_distance_29 post J (gz_i u) (gz_i v) (gz_i x) (gz_i a) (gz_i b) (gz_i c) (gz_i d) (gz_i s) (gz_i t) n (gz_i L) y0 := by
  subst hy0
  have m0 := gz_n0 p q
  refine ⟨62, ?_⟩
  refine gz_up (fun n y (z : Int) => wX_distance_29 post J (gz_i u) (gz_i v) (gz_i x) (gz_i a) (gz_i b) (gz_i c) (gz_i d) (gz_i s) (gz_i t) n (gz_i z) y)
    (fun y z => gz_L (gz_n p q) p q x y z ∧ z ≤ 100000) (-30) 30 ?_ ?_ 61 (-30) L (by decide) (by decide) ⟨hL, h1⟩
  · rintro n L ⟨hL, h1⟩
    refine gz_blt 30 (30 + 1) (fun _ => ?_) (fun h => absurd h (by decide))
    refine nm_r (gz_p1 x) ?_
    exact hJ L (gz_Lrow (lo := -30) (hi := 30) hN.1.2 hL) h1
  · rintro n y L hl hh ⟨hL, h1⟩ IH
    have nb := gz_nup (x := x) (y := y) 30 ⟨by omega, by omega⟩
    have n0 := gz_n0 x y
    have l0 := hL.1
    refine gz_blt 30 y (fun h => absurd h (by omega)) (fun _ => ?_)
    refine gx_size ?_
    refine gz_ble L (gz_n x y) (fun h => ?_) (fun h => ?_)
    · refine nm_r (gz_p1 y) ?_
      exact IH L ⟨gz_Lmiss hL (fun e1 e2 => by subst e1 e2; omega), h1⟩
    · refine gx_in (x := u + x) (y := v + y) hs (by omega) (by omega) (fun hg => ?_) (fun hg => ?_) (gz_add u x) (gz_add v y)
      · refine br_f (by decide) ?_
        refine gx_size ?_
        refine nm_r (gz_p1 y) ?_
        have hm := hN.2.2.2 x y hg
        exact IH (gz_n x y) ⟨gz_Lhit hL h (by omega) (fun e1 e2 => by subst e1 e2; rfl), by omega⟩
      · refine br_t rfl ?_
        refine nm_r (gz_p1 y) ?_
        exact IH L ⟨gz_Lmiss hL (fun e1 e2 => by subst e1 e2; exact absurd hN.2.1 hg), h1⟩
theorem gx_di {a b c d s t u v p q : Int} {post : Int32 → Prop} (hs : gz_st a b c d)
    (hu : -1000 ≤ u ∧ u ≤ 1000) (hv : -1000 ≤ v ∧ v ≤ 1000) (hN : gz_N a b c d u v p q) (h : post (gz_i (gz_n p q))) :
    wpX_distance post (gz_i a, gz_i b, gz_i c, gz_i d, gz_i s, gz_i t) (gz_i u) (gz_i v) := by
  have hb := hN.1
  have hn := hN.2.2.1
  have main : ∀ L0 x0 : Int32, L0 = gz_i 1801 → x0 = gz_i (-30) → ∃ n, wX_distance_18 post (gz_i u) (gz_i v) (gz_i a) (gz_i b) (gz_i c) (gz_i d) (gz_i s) (gz_i t) n L0 x0 := by
    intro L0 x0 hL0 hx0
    subst hL0 hx0
    refine ⟨62, ?_⟩
    refine gz_up (fun n x (z : Int) => wX_distance_18 post (gz_i u) (gz_i v) (gz_i a) (gz_i b) (gz_i c) (gz_i d) (gz_i s) (gz_i t) n (gz_i z) x)
      (fun x z => gz_L (gz_n p q) p q x (-30) z ∧ z ≤ 100000) (-30) 30 ?_ ?_ 61 (-30) 1801 (by decide) (by decide) ⟨gz_L0 (by omega) (by omega) (by omega), by decide⟩
    · rintro n L ⟨hL, h1⟩
      have e := gz_Lend (by omega) hL
      refine gz_blt 30 (30 + 1) (fun _ => ?_) (fun h => absurd h (by decide))
      rw [← e] at h
      exact h
    · rintro n x L hl hh ⟨hL, h1⟩ IH
      refine gz_blt 30 x (fun h => absurd h (by omega)) (fun _ => ?_)
      exact gx_di29 hs hu hv hN ⟨hl, hh⟩ (fun L k1 k2 => IH L ⟨k1, k2⟩) L hL h1 _ (by decide)
  unfold wpX_distance
  refine gx_place (by omega) (by omega) (fun _ => ?_) (fun k => absurd ⟨hu, hv⟩ k)
  refine br_f (by decide) ?_
  exact main _ _ (by decide) (by decide)
/-- the code of a point -/
theorem gz_code (u v : Int) : 10000 * gz_i u + gz_i v = gz_i (10000 * u + v) := by
  have e : (10000 : Int32) = gz_i 10000 := by decide
  rw [e, gz_mul, gz_add]
/-- X: the code of the nearest point -/
theorem gx_ne32 {a b c d s t u v x p q : Int} {post : Int32 → Prop} {J : Int32 → Int32 → Int32 → Prop} (hs : gz_st a b c d)
    (hu : -1000 ≤ u ∧ u ≤ 1000) (hv : -1000 ≤ v ∧ v ≤ 1000) (hN : gz_N a b c d u v p q) (hx : -30 ≤ x ∧ x ≤ 30)
    (hJ : ∀ (L : Int) (z : Int32), gz_F (gz_n p q) p q (gz_i (10000 * (u + p) + (v + q))) (x + 1) (-30) L z → 0 ≤ L → L ≤ 100000 → J (gz_i L) z (gz_i (x + 1)))
    (L : Int) (z : Int32) (hF : gz_F (gz_n p q) p q (gz_i (10000 * (u + p) + (v + q))) x (-30) L z) (h0 : 0 ≤ L) (h1 : L ≤ 100000) (y0 : Int32) (hy0 : y0 = gz_i (-30)) :
    ∃ n, wX_nearest_32 post J (gz_i u) (gz_i v) (gz_i x) (gz_i a) (gz_i b) (gz_i c) (gz_i d) (gz_i s) (gz_i t) n (gz_i L) z y0 := by
  subst hy0
  refine ⟨62, ?_⟩
  refine gz_up (fun n y (z : Int × Int32) => wX_nearest_32 post J (gz_i u) (gz_i v) (gz_i x) (gz_i a) (gz_i b) (gz_i c) (gz_i d) (gz_i s) (gz_i t) n (gz_i z.1) z.2 y)
    (fun y z => gz_F (gz_n p q) p q (gz_i (10000 * (u + p) + (v + q))) x y z.1 z.2 ∧ 0 ≤ z.1 ∧ z.1 ≤ 100000) (-30) 30 ?_ ?_ 61 (-30) (L, z) (by decide) (by decide) ⟨hF, h0, h1⟩
  · rintro n ⟨L, z⟩ ⟨hF, h0, h1⟩
    dsimp only at hF h0 h1
    refine gz_blt 30 (30 + 1) (fun _ => ?_) (fun h => absurd h (by decide))
    refine nm_r (gz_p1 x) ?_
    exact hJ L z (gz_Frow (lo := -30) (hi := 30) hN.1.2 hF) h0 h1
  · rintro n y ⟨L, z⟩ hl hh ⟨hF, h0, h1⟩ IH
    dsimp only at hF h0 h1
    have nb := gz_nup (x := x) (y := y) 30 ⟨by omega, by omega⟩
    have n0 := gz_n0 x y
    refine gz_blt 30 y (fun h => absurd h (by omega)) (fun _ => ?_)
    refine gx_size ?_
    refine gz_ble L (gz_n x y) (fun h => ?_) (fun h => ?_)
    · refine nm_r (gz_p1 y) ?_
      exact IH (L, z) ⟨gz_Fmiss hF (fun e1 e2 => by subst e1 e2; omega), h0, h1⟩
    · refine gx_in (x := u + x) (y := v + y) hs (by omega) (by omega) (fun hg => ?_) (fun hg => ?_) (gz_add u x) (gz_add v y)
      · refine br_f (by decide) ?_
        refine gx_size ?_
        have ec : 10000 * (gz_i u + gz_i x) + (gz_i v + gz_i y) = gz_i (10000 * (u + x) + (v + y)) := by rw [gz_add, gz_add, gz_code]
        refine nm_r ec ?_
        refine nm_r (gz_p1 y) ?_
        exact IH (gz_n x y, gz_i (10000 * (u + x) + (v + y))) ⟨gz_Fhit hF h (hN.2.2.2 x y hg) (fun e1 e2 => by subst e1 e2; exact ⟨rfl, rfl⟩), n0, by omega⟩
      · refine br_t rfl ?_
        refine nm_r (gz_p1 y) ?_
        exact IH (L, z) ⟨gz_Fmiss hF (fun e1 e2 => by subst e1 e2; exact absurd hN.2.1 hg), h0, h1⟩
theorem gx_ne {a b c d s t u v p q : Int} {post : Int32 → Prop} (hs : gz_st a b c d)
    (hu : -1000 ≤ u ∧ u ≤ 1000) (hv : -1000 ≤ v ∧ v ≤ 1000) (hN : gz_N a b c d u v p q) (h : post (gz_i (10000 * (u + p) + (v + q)))) :
    wpX_nearest post (gz_i a, gz_i b, gz_i c, gz_i d, gz_i s, gz_i t) (gz_i u) (gz_i v) := by
  have hb := hN.1
  have hn := hN.2.2.1
  have main : ∀ L0 z0 x0 : Int32, L0 = gz_i 1801 → x0 = gz_i (-30) → ∃ n, wX_nearest_21 post (gz_i u) (gz_i v) (gz_i a) (gz_i b) (gz_i c) (gz_i d) (gz_i s) (gz_i t) n L0 z0 x0 := by
    intro L0 z0 x0 hL0 hx0
    subst hL0 hx0
    refine ⟨62, ?_⟩
    refine gz_up (fun n x (z : Int × Int32) => wX_nearest_21 post (gz_i u) (gz_i v) (gz_i a) (gz_i b) (gz_i c) (gz_i d) (gz_i s) (gz_i t) n (gz_i z.1) z.2 x)
      (fun x z => gz_F (gz_n p q) p q (gz_i (10000 * (u + p) + (v + q))) x (-30) z.1 z.2 ∧ 0 ≤ z.1 ∧ z.1 ≤ 100000) (-30) 30 ?_ ?_ 61 (-30) (1801, z0) (by decide) (by decide)
      ⟨gz_F0 (by omega) (by omega) (by show gz_n p q < 1801; omega), by show (0 : Int) ≤ 1801; decide, by show (1801 : Int) ≤ 100000; decide⟩
    · rintro n ⟨L, z⟩ ⟨hF, h0, h1⟩
      dsimp only at hF h0 h1
      obtain ⟨e1, e2⟩ := gz_Fend (by omega) hF
      refine gz_blt 30 (30 + 1) (fun _ => ?_) (fun h => absurd h (by decide))
      rw [← e2] at h
      exact h
    · rintro n x ⟨L, z⟩ hl hh ⟨hF, h0, h1⟩ IH
      refine gz_blt 30 x (fun h => absurd h (by omega)) (fun _ => ?_)
      exact gx_ne32 hs hu hv hN ⟨hl, hh⟩ (fun L z k1 k2 k3 => IH (L, z) ⟨k1, k2, k3⟩) L z hF h0 h1 _ (by decide)
  unfold wpX_nearest
  refine gx_place (by omega) (by omega) (fun _ => ?_) (fun k => absurd ⟨hu, hv⟩ k)
  refine br_f (by decide) ?_
  exact main _ _ _ (by decide) (by decide)
/-- X: how many points within -/
theorem gx_wi32 {a b c d s t x T : Int} {w : Int32} {q : Int → Int → Int} {post : Int32 → Prop} {J : Int32 → Int32 → Prop} (hs : gz_st a b c d)
    (hq : ∀ x y, ((¬ w < gz_i (gz_n x y) ∧ gz_g a b c d x y) → q x y = 1) ∧ (¬ (¬ w < gz_i (gz_n x y) ∧ gz_g a b c d x y) → q x y = 0)) (hx : -30 ≤ x ∧ x ≤ 30)
    (hJ : ∀ k : Int, k + gz_head q (-30) 61 (x + 1) = T → J (gz_i k) (gz_i (x + 1)))
    (k : Int) (hk : k + gz_head q (-30) 61 x = T) (y0 : Int32) (hy0 : y0 = gz_i (-30)) :
    ∃ n, wX_within_32 post J w (gz_i x) (gz_i a) (gz_i b) (gz_i c) (gz_i d) (gz_i s) (gz_i t) n (gz_i k) y0 := by
  subst hy0
  rw [gz_headI q (-30) 61 (by omega)] at hk
  refine ⟨62, ?_⟩
  refine gz_up (fun n y (z : Int) => wX_within_32 post J w (gz_i x) (gz_i a) (gz_i b) (gz_i c) (gz_i d) (gz_i s) (gz_i t) n (gz_i z) y)
    (fun y z => z + gz_rest q (-30) 61 x y = T) (-30) 30 ?_ ?_ 61 (-30) k (by decide) (by decide) hk
  · intro n k hk
    have e : (30 + 1 : Int) = -30 + ((61 : Nat) : Int) := by decide
    rw [e, gz_headO] at hk
    refine gz_blt 30 (30 + 1) (fun _ => ?_) (fun h => absurd h (by decide))
    refine nm_r (gz_p1 x) ?_
    exact hJ k hk
  · intro n y k hl hh hk IH
    rw [gz_rest1 q (-30) 61 (by omega)] at hk
    refine gz_blt 30 y (fun h => absurd h (by omega)) (fun _ => ?_)
    refine gx_size ?_
    refine br_c (fun h => ?_) (fun h => ?_)
    · refine nm_r (gz_p1 y) ?_
      have hv := (hq x y).2 (fun z => z.1 h)
      exact IH k (by omega)
    · refine gx_in (x := x) (y := y) hs (by omega) (by omega) (fun hg => ?_) (fun hg => ?_)
      · refine br_f (by decide) ?_
        refine nm_r (gz_p1 k) ?_
        refine nm_r (gz_p1 y) ?_
        have hv := (hq x y).1 ⟨h, hg⟩
        exact IH (k + 1) (by omega)
      · refine br_t rfl ?_
        refine nm_r (gz_p1 y) ?_
        have hv := (hq x y).2 (fun z => hg z.2)
        exact IH k (by omega)
theorem gx_wi {a b c d s t : Int} {w : Int32} {q : Int → Int → Int} {post : Int32 → Prop} (hs : gz_st a b c d)
    (hq : ∀ x y, ((¬ w < gz_i (gz_n x y) ∧ gz_g a b c d x y) → q x y = 1) ∧ (¬ (¬ w < gz_i (gz_n x y) ∧ gz_g a b c d x y) → q x y = 0)) (h : post (gz_i (gz_tot q (-30) 61))) :
    ∃ n, wX_within_21 post w (gz_i a) (gz_i b) (gz_i c) (gz_i d) (gz_i s) (gz_i t) n 0 (-30) := by
  have main : ∀ k0 x0 : Int32, k0 = gz_i 0 → x0 = gz_i (-30) → ∃ n, wX_within_21 post w (gz_i a) (gz_i b) (gz_i c) (gz_i d) (gz_i s) (gz_i t) n k0 x0 := by
    intro k0 x0 hk0 hx0
    subst hk0 hx0
    refine ⟨62, ?_⟩
    refine gz_up (fun n x (z : Int) => wX_within_21 post w (gz_i a) (gz_i b) (gz_i c) (gz_i d) (gz_i s) (gz_i t) n (gz_i z) x)
      (fun x z => z + gz_head q (-30) 61 x = gz_tot q (-30) 61) (-30) 30 ?_ ?_ 61 (-30) 0 (by decide) (by decide) (by rw [gz_head0]; omega)
    · intro n k hk
      have e : (30 + 1 : Int) = -30 + ((61 : Nat) : Int) := by decide
      rw [e, gz_headE] at hk
      have e2 : k = gz_tot q (-30) 61 := by omega
      refine gz_blt 30 (30 + 1) (fun _ => ?_) (fun h => absurd h (by decide))
      rw [← e2] at h
      exact h
    · intro n x k hl hh hk IH
      refine gz_blt 30 x (fun h => absurd h (by omega)) (fun _ => ?_)
      exact gx_wi32 hs hq ⟨hl, hh⟩ (fun k hk => IH k hk) k hk _ (by decide)
  exact main _ _ (by decide) (by decide)
