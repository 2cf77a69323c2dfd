theorem gz_nneg (u v x y : Int) : gz_n (u - x) (v - y) = gz_n (x - u) (y - v) := by
  unfold gz_n
  grind
theorem gz_p43 (y : Int) : gz_i y + 43 = gz_i (y + 43) := by
  have e : (43 : Int32) = gz_i 43 := by decide
  rw [e, gz_add]
theorem gz_d43 (y : Int) : gz_i y - 43 = gz_i (y - 43) := by
  have e : (43 : Int32) = gz_i 43 := by decide
  rw [e, gz_sub]
theorem gz_sd (u v x y : Int) : (gz_i u - gz_i x) * (gz_i u - gz_i x) + (gz_i v - gz_i y) * (gz_i v - gz_i y) = gz_i (gz_n (x - u) (y - v)) := by
  rw [gz_sub, gz_sub, gz_sz, gz_nneg]
/-- Y: the nearest point -/
theorem gy_sr25 {a b c d u v x p q : Int} {post : SY → Prop} {J : Int32 → Int32 → Int32 → Int32 → Prop} (hs : gz_st a b c d)
    (hu : -1000 ≤ u ∧ u ≤ 1000) (hv : -1000 ≤ v ∧ v ≤ 1000) (hN : gz_N a b c d u v p q) (hx : u - 43 ≤ x ∧ x ≤ u + 43)
    (hJ : ∀ (L : Int) (z : Int32 × Int32), gz_F (gz_n p q) (u + p) (v + q) (gz_i (u + p), gz_i (v + q)) (x + 1) (v - 43) L z → 0 ≤ L → L ≤ 100000 → J (gz_i (x + 1)) z.1 z.2 (gz_i L))
    (L : Int) (z : Int32 × Int32) (hF : gz_F (gz_n p q) (u + p) (v + q) (gz_i (u + p), gz_i (v + q)) x (v - 43) L z) (h0 : 0 ≤ L) (h1 : L ≤ 100000) :
    ∃ n, wY_search_25 post J (gz_i u) (gz_i v) (gz_i x) (gz_i a) (gz_i b) (gz_i c) (gz_i d) n (gz_i (v - 43)) z.1 z.2 (gz_i L) := by
  have hb := hN.1
  refine ⟨88, ?_⟩
  refine gz_up (fun n y (z : Int × Int32 × Int32) => wY_search_25 post J (gz_i u) (gz_i v) (gz_i x) (gz_i a) (gz_i b) (gz_i c) (gz_i d) n y z.2.1 z.2.2 (gz_i z.1))
    (fun y z => gz_F (gz_n p q) (u + p) (v + q) (gz_i (u + p), gz_i (v + q)) x y z.1 z.2 ∧ 0 ≤ z.1 ∧ z.1 ≤ 100000) (v - 43) (v + 43) ?_ ?_ 87 (v - 43) (L, z) (by omega) (by omega) ⟨hF, h0, h1⟩
  · rintro n ⟨L, z⟩ ⟨hF, h0, h1⟩
    dsimp only at hF h0 h1
    refine gz_blt (v + 43) (v + 43 + 1) (fun _ => ?_) (fun h => absurd h (by omega)) (gz_p43 v)
    refine nm_r (gz_p1 x) ?_
    exact hJ L z (gz_Frow (lo := v - 43) (hi := v + 43) (by omega) hF) h0 h1
  · rintro n y ⟨L, z⟩ hl hh ⟨hF, h0, h1⟩ IH
    dsimp only at hF h0 h1
    have nb := gz_nup (x := x - u) (y := y - v) 43 ⟨by omega, by omega⟩
    have n0 := gz_n0 (x - u) (y - v)
    have ex : u + (x - u) = x := by omega
    have ey : v + (y - v) = y := by omega
    refine gz_blt (v + 43) y (fun h => absurd h (by omega)) (fun _ => ?_) (gz_p43 v)
    refine nm_r (gz_sd u v x y) ?_
    refine gz_ble L (gz_n (x - u) (y - v)) (fun h => ?_) (fun h => ?_)
    · refine nm_r (gz_p1 y) ?_
      refine IH (L, z) ⟨gz_Fmiss hF (fun k1 k2 => ?_), h0, h1⟩
      have z1 : x - u = p := by omega
      have z2 : y - v = q := by omega
      rw [z1, z2] at h
      omega
    · refine gy_pt hs (by omega) (by omega) (fun hg => ?_) (fun hg => ?_)
      · refine br_f (by decide) ?_
        refine nm_r (gz_p1 y) ?_
        have hm := hN.2.2.2 (x - u) (y - v) (by rw [ex, ey]; exact hg)
        refine IH (gz_n (x - u) (y - v), gz_i x, gz_i y) ⟨gz_Fhit hF h (by omega) (fun k1 k2 => ?_), n0, by show gz_n (x - u) (y - v) ≤ 100000; omega⟩
        have z1 : x - u = p := by omega
        have z2 : y - v = q := by omega
        rw [z1, z2, k1, k2]
        exact ⟨rfl, rfl⟩
      · refine br_t rfl ?_
        refine nm_r (gz_p1 y) ?_
        refine IH (L, z) ⟨gz_Fmiss hF (fun k1 k2 => ?_), h0, h1⟩
        have hg2 := hN.2.1
        rw [k1, k2] at hg2
        exact absurd hg2 hg
theorem gy_sr {a b c d u v p q : Int} {e1 e2 e3 : Int32} {post : SY → Prop} (hs : gz_st a b c d)
    (hu : -1000 ≤ u ∧ u ≤ 1000) (hv : -1000 ≤ v ∧ v ≤ 1000) (hN : gz_N a b c d u v p q)
    (h : post (gz_i a, gz_i b, gz_i c, gz_i d, gz_i (u + p), gz_i (v + q), gz_i (gz_n p q))) :
    wpY_search post (gz_i a, gz_i b, gz_i c, gz_i d, e1, e2, e3) (gz_i u) (gz_i v) := by
  have hb := hN.1
  have hn := hN.2.2.1
  have main : ∀ L0 : Int32, L0 = gz_i 100000 → ∃ n, wY_search_11 post (gz_i u) (gz_i v) (gz_i a) (gz_i b) (gz_i c) (gz_i d) n (gz_i (u - 43)) e1 e2 L0 := by
    intro L0 hL0
    subst hL0
    refine ⟨88, ?_⟩
    refine gz_up (fun n x (z : Int × Int32 × Int32) => wY_search_11 post (gz_i u) (gz_i v) (gz_i a) (gz_i b) (gz_i c) (gz_i d) n x z.2.1 z.2.2 (gz_i z.1))
      (fun x z => gz_F (gz_n p q) (u + p) (v + q) (gz_i (u + p), gz_i (v + q)) x (v - 43) z.1 z.2 ∧ 0 ≤ z.1 ∧ z.1 ≤ 100000) (u - 43) (u + 43) ?_ ?_ 87 (u - 43) (100000, e1, e2) (by omega) (by omega)
      ⟨gz_F0 (by omega) (by omega) (by show gz_n p q < 100000; omega), by show (0 : Int) ≤ 100000; decide, by show (100000 : Int) ≤ 100000; decide⟩
    · rintro n ⟨L, z⟩ ⟨hF, h0, h1⟩
      dsimp only at hF h0 h1
      obtain ⟨k1, k2⟩ := gz_Fend (by omega) hF
      refine gz_blt (u + 43) (u + 43 + 1) (fun _ => ?_) (fun h => absurd h (by omega)) (gz_p43 u)
      subst k2
      rw [← k1] at h
      exact h
    · rintro n x ⟨L, z⟩ hl hh ⟨hF, h0, h1⟩ IH
      refine gz_blt (u + 43) x (fun h => absurd h (by omega)) (fun _ => ?_) (gz_p43 u)
      refine nm_r (gz_d43 v) ?_
      exact gy_sr25 hs hu hv hN ⟨hl, hh⟩ (fun L z k1 k2 k3 => IH (L, z) ⟨k1, k2, k3⟩) L z hF h0 h1
  unfold wpY_search
  refine nm_r (gz_d43 u) ?_
  exact main _ (by decide)
/-- Y: how many points within -/
theorem gy_wi32 {a b c d x T : Int} {w e1 e2 e3 : Int32} {q : Int → Int → Int} {post : Int32 → Prop} {J : Int32 → Int32 → Prop} (hs : gz_st a b c d)
    (hq : ∀ x y, ((¬ w < gz_i (gz_n x y) ∧ gz_g a b c d x y) → q x y = 1) ∧ (¬ (¬ w < gz_i (gz_n x y) ∧ gz_g a b c d x y) → q x y = 0)) (hx : -30 ≤ x ∧ x ≤ 30)
    (hJ : ∀ k : Int, k + gz_head q (-30) 61 (x + 1) = T → J (gz_i k) (gz_i (x + 1)))
    (k : Int) (hk : k + gz_head q (-30) 61 x = T) (y0 : Int32) (hy0 : y0 = gz_i (-30)) :
    ∃ n, wY_within_32 post J w (gz_i x) (gz_i a) (gz_i b) (gz_i c) (gz_i d) e1 e2 e3 n (gz_i k) y0 := by
  subst hy0
  rw [gz_headI q (-30) 61 (by omega)] at hk
  refine ⟨62, ?_⟩
  refine gz_up (fun n y (z : Int) => wY_within_32 post J w (gz_i x) (gz_i a) (gz_i b) (gz_i c) (gz_i d) e1 e2 e3 n (gz_i z) y)
    (fun y z => z + gz_rest q (-30) 61 x y = T) (-30) 30 ?_ ?_ 61 (-30) k (by decide) (by decide) hk
  · intro n k hk
    have e : (30 + 1 : Int) = -30 + ((61 : Nat) : Int) := by decide
    rw [e, gz_headO] at hk
    refine gz_blt 30 (30 + 1) (fun _ => ?_) (fun h => absurd h (by decide))
    refine nm_r (gz_p1 x) ?_
    exact hJ k hk
  · intro n y k hl hh hk IH
    rw [gz_rest1 q (-30) 61 (by omega)] at hk
    refine gz_blt 30 y (fun h => absurd h (by omega)) (fun _ => ?_)
    rw [gz_sz x y]
    refine br_c (fun h => ?_) (fun h => ?_)
    · refine nm_r (gz_p1 y) ?_
      have hv := (hq x y).2 (fun z => z.1 h)
      exact IH k (by omega)
    · refine gy_pt hs (by omega) (by omega) (fun hg => ?_) (fun hg => ?_)
      · refine br_f (by decide) ?_
        refine nm_r (gz_p1 k) ?_
        refine nm_r (gz_p1 y) ?_
        have hv := (hq x y).1 ⟨h, hg⟩
        exact IH (k + 1) (by omega)
      · refine br_t rfl ?_
        refine nm_r (gz_p1 y) ?_
        have hv := (hq x y).2 (fun z => hg z.2)
        exact IH k (by omega)
theorem gy_wi {a b c d : Int} {w e1 e2 e3 : Int32} {q : Int → Int → Int} {post : Int32 → Prop} (hs : gz_st a b c d)
    (hq : ∀ x y, ((¬ w < gz_i (gz_n x y) ∧ gz_g a b c d x y) → q x y = 1) ∧ (¬ (¬ w < gz_i (gz_n x y) ∧ gz_g a b c d x y) → q x y = 0)) (h : post (gz_i (gz_tot q (-30) 61))) :
    ∃ n, wY_within_21 post w (gz_i a) (gz_i b) (gz_i c) (gz_i d) e1 e2 e3 n 0 (-30) := by
  have main : ∀ k0 x0 : Int32, k0 = gz_i 0 → x0 = gz_i (-30) → ∃ n, wY_within_21 post w (gz_i a) (gz_i b) (gz_i c) (gz_i d) e1 e2 e3 n k0 x0 := by
    intro k0 x0 hk0 hx0
    subst hk0 hx0
    refine ⟨62, ?_⟩
    refine gz_up (fun n x (z : Int) => wY_within_21 post w (gz_i a) (gz_i b) (gz_i c) (gz_i d) e1 e2 e3 n (gz_i z) x)
      (fun x z => z + gz_head q (-30) 61 x = gz_tot q (-30) 61) (-30) 30 ?_ ?_ 61 (-30) 0 (by decide) (by decide) (by rw [gz_head0]; omega)
    · intro n k hk
      have e : (30 + 1 : Int) = -30 + ((61 : Nat) : Int) := by decide
      rw [e, gz_headE] at hk
      have e2 : k = gz_tot q (-30) 61 := by omega
      refine gz_blt 30 (30 + 1) (fun _ => ?_) (fun h => absurd h (by decide))
      rw [← e2] at h
      exact h
    · intro n x k hl hh hk IH
      refine gz_blt 30 x (fun h => absurd h (by omega)) (fun _ => ?_)
      exact gy_wi32 hs hq ⟨hl, hh⟩ (fun k hk => IH k hk) k hk _ (by decide)
  exact main _ _ (by decide) (by decide)
