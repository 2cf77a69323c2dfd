/-- Y: the size of a shortest point -/
theorem gy_sh16 {a b c d s t x : Int} {e1 e2 e3 : Int32} {post : Int32 → Prop} {J : Int32 → Int32 → Prop} (hs : gz_st a b c d) (hT : gz_T a b c d s t) (hx : -43 ≤ x ∧ x ≤ 43)
    (hJ : ∀ L : Int, gz_L (gz_n s t) s t (x + 1) (-43) L → L ≤ 100000 → J (gz_i L) (gz_i (x + 1)))
    (L : Int) (hL : gz_L (gz_n s t) s t x (-43) L) (h1 : L ≤ 100000) (y0 : Int32) (hy0 : y0 = gz_i (-43)) :
    ∃ n, wY_shortest_16 post J (gz_i x) (gz_i a) (gz_i b) (gz_i c) (gz_i d) e1 e2 e3 n (gz_i L) y0 := by
  subst hy0
  have hb := hT.1
  have m0 := gz_n0 s t
  have mp := gz_npos hT.2.1
  refine ⟨88, ?_⟩
  refine gz_up (fun n y (z : Int) => wY_shortest_16 post J (gz_i x) (gz_i a) (gz_i b) (gz_i c) (gz_i d) e1 e2 e3 n (gz_i z) y)
    (fun y z => gz_L (gz_n s t) s t x y z ∧ z ≤ 100000) (-43) 43 ?_ ?_ 87 (-43) L (by decide) (by decide) ⟨hL, h1⟩
  · rintro n L ⟨hL, h1⟩
    refine gz_blt 43 (43 + 1) (fun _ => ?_) (fun h => absurd h (by decide))
    refine nm_r (gz_p1 x) ?_
    exact hJ L (gz_Lrow (lo := -43) (hi := 43) (by omega) hL) h1
  · rintro n y L hl hh ⟨hL, h1⟩ IH
    have nb := gz_nup (x := x) (y := y) 43 ⟨by omega, by omega⟩
    have n0 := gz_n0 x y
    have l0 := hL.1
    refine gz_blt 43 y (fun h => absurd h (by omega)) (fun _ => ?_)
    refine nm_r (gz_sz x y) ?_
    refine gz_ble (gz_n x y) 0 (fun h => ?_) (fun hp => ?_)
    · refine nm_r (gz_p1 y) ?_
      exact IH L ⟨gz_Lmiss hL (fun e1 e2 => by subst e1 e2; omega), h1⟩
    · refine gz_ble L (gz_n x y) (fun h => ?_) (fun h => ?_)
      · refine nm_r (gz_p1 y) ?_
        exact IH L ⟨gz_Lmiss hL (fun e1 e2 => by subst e1 e2; omega), h1⟩
      · refine gy_pt hs (by omega) (by omega) (fun hg => ?_) (fun hg => ?_)
        · refine br_f (by decide) ?_
          refine nm_r (gz_p1 y) ?_
          have hm := hT.2.2.2.2 x y (gz_nz hp) hg
          exact IH (gz_n x y) ⟨gz_Lhit hL h (by omega) (fun e1 e2 => by subst e1 e2; rfl), by omega⟩
        · refine br_t rfl ?_
          refine nm_r (gz_p1 y) ?_
          exact IH L ⟨gz_Lmiss hL (fun e1 e2 => by subst e1 e2; exact absurd hT.2.2.1 hg), h1⟩
theorem gy_sh {a b c d s t : Int} {e1 e2 e3 : Int32} {post : Int32 → Prop} (hs : gz_st a b c d) (hT : gz_T a b c d s t) (h : post (gz_i (gz_n s t))) :
    wpY_shortest post (gz_i a, gz_i b, gz_i c, gz_i d, e1, e2, e3) := by
  have hb := hT.1
  have hn := hT.2.2.2.1
  have main : ∀ L0 x0 : Int32, L0 = gz_i 10000 → x0 = gz_i (-43) → ∃ n, wY_shortest_7 post (gz_i a) (gz_i b) (gz_i c) (gz_i d) e1 e2 e3 n L0 x0 := by
    intro L0 x0 hL0 hx0
    subst hL0 hx0
    refine ⟨88, ?_⟩
    refine gz_up (fun n x (z : Int) => wY_shortest_7 post (gz_i a) (gz_i b) (gz_i c) (gz_i d) e1 e2 e3 n (gz_i z) x)
      (fun x z => gz_L (gz_n s t) s t x (-43) z ∧ z ≤ 100000) (-43) 43 ?_ ?_ 87 (-43) 10000 (by decide) (by decide) ⟨gz_L0 (by omega) (by omega) (by omega), by decide⟩
    · rintro n L ⟨hL, h1⟩
      have e := gz_Lend (by omega) hL
      refine gz_blt 43 (43 + 1) (fun _ => ?_) (fun h => absurd h (by decide))
      rw [← e] at h
      exact h
    · rintro n x L hl hh ⟨hL, h1⟩ IH
      refine gz_blt 43 x (fun h => absurd h (by omega)) (fun _ => ?_)
      exact gy_sh16 hs hT ⟨hl, hh⟩ (fun L k1 k2 => IH L ⟨k1, k2⟩) L hL h1 _ (by decide)
  unfold wpY_shortest
  exact main _ _ (by decide) (by decide)
/-- Y: how many shortest points -/
theorem gy_ma20 {a b c d x m T : Int} {e1 e2 e3 : Int32} {q : Int → Int → Int} {post : Int32 → Prop} {J : Int32 → Int32 → Prop} (hs : gz_st a b c d) (hm : 0 ≤ m ∧ m ≤ 100000)
    (hq : ∀ x y, ((gz_n x y = m ∧ gz_g a b c d x y) → q x y = 1) ∧ (¬ (gz_n x y = m ∧ gz_g a b c d x y) → q x y = 0)) (hx : -43 ≤ x ∧ x ≤ 43)
    (hJ : ∀ k : Int, k + gz_head q (-43) 87 (x + 1) = T → J (gz_i k) (gz_i (x + 1)))
    (k : Int) (hk : k + gz_head q (-43) 87 x = T) (y0 : Int32) (hy0 : y0 = gz_i (-43)) :
    ∃ n, wY_many_20 post J (gz_i m) (gz_i x) (gz_i a) (gz_i b) (gz_i c) (gz_i d) e1 e2 e3 n (gz_i k) y0 := by
  subst hy0
  rw [gz_headI q (-43) 87 (by omega)] at hk
  refine ⟨88, ?_⟩
  refine gz_up (fun n y (z : Int) => wY_many_20 post J (gz_i m) (gz_i x) (gz_i a) (gz_i b) (gz_i c) (gz_i d) e1 e2 e3 n (gz_i z) y)
    (fun y z => z + gz_rest q (-43) 87 x y = T) (-43) 43 ?_ ?_ 87 (-43) k (by decide) (by decide) hk
  · intro n k hk
    have e : (43 + 1 : Int) = -43 + ((87 : Nat) : Int) := by decide
    rw [e, gz_headO] at hk
    refine gz_blt 43 (43 + 1) (fun _ => ?_) (fun h => absurd h (by decide))
    refine nm_r (gz_p1 x) ?_
    exact hJ k hk
  · intro n y k hl hh hk IH
    rw [gz_rest1 q (-43) 87 (by omega)] at hk
    have nb := gz_nup (x := x) (y := y) 43 ⟨by omega, by omega⟩
    have n0 := gz_n0 x y
    refine gz_blt 43 y (fun h => absurd h (by omega)) (fun _ => ?_)
    refine gz_beq (gz_n x y) m (fun h => ?_) (fun h => ?_) (gz_sz x y)
    · refine gy_pt hs (by omega) (by omega) (fun hg => ?_) (fun hg => ?_)
      · refine br_f (by decide) ?_
        refine nm_r (gz_p1 k) ?_
        refine nm_r (gz_p1 y) ?_
        have hv := (hq x y).1 ⟨h, hg⟩
        exact IH (k + 1) (by omega)
      · refine br_t rfl ?_
        refine nm_r (gz_p1 y) ?_
        have hv := (hq x y).2 (fun z => hg z.2)
        exact IH k (by omega)
    · refine nm_r (gz_p1 y) ?_
      have hv := (hq x y).2 (fun z => h z.1)
      exact IH k (by omega)
theorem gy_ma {a b c d s t : Int} {e1 e2 e3 : Int32} {q : Int → Int → Int} {post : Int32 → Prop} (hs : gz_st a b c d) (hT : gz_T a b c d s t)
    (hq : ∀ x y, ((gz_n x y = gz_n s t ∧ gz_g a b c d x y) → q x y = 1) ∧ (¬ (gz_n x y = gz_n s t ∧ gz_g a b c d x y) → q x y = 0)) (h : post (gz_i (gz_tot q (-43) 87))) :
    wpY_many post (gz_i a, gz_i b, gz_i c, gz_i d, e1, e2, e3) := by
  have n0 := gz_n0 s t
  have hn := hT.2.2.2.1
  have main : ∀ k0 x0 : Int32, k0 = gz_i 0 → x0 = gz_i (-43) → ∃ n, wY_many_10 post (gz_i (gz_n s t)) (gz_i a) (gz_i b) (gz_i c) (gz_i d) e1 e2 e3 n k0 x0 := by
    intro k0 x0 hk0 hx0
    subst hk0 hx0
    refine ⟨88, ?_⟩
    refine gz_up (fun n x (z : Int) => wY_many_10 post (gz_i (gz_n s t)) (gz_i a) (gz_i b) (gz_i c) (gz_i d) e1 e2 e3 n (gz_i z) x)
      (fun x z => z + gz_head q (-43) 87 x = gz_tot q (-43) 87) (-43) 43 ?_ ?_ 87 (-43) 0 (by decide) (by decide) (by rw [gz_head0]; omega)
    · intro n k hk
      have e : (43 + 1 : Int) = -43 + ((87 : Nat) : Int) := by decide
      rw [e, gz_headE] at hk
      have e2 : k = gz_tot q (-43) 87 := by omega
      refine gz_blt 43 (43 + 1) (fun _ => ?_) (fun h => absurd h (by decide))
      rw [← e2] at h
      exact h
    · intro n x k hl hh hk IH
      refine gz_blt 43 x (fun h => absurd h (by omega)) (fun _ => ?_)
      exact gy_ma20 hs (by omega) hq ⟨hl, hh⟩ (fun k hk => IH k hk) k hk _ (by decide)
  unfold wpY_many
  refine gy_sh hs hT ?_
  exact main _ _ (by decide) (by decide)
/-- Y: the least size beside the line of (s, t) -/
theorem gy_se95 {a b c d s t x m p q : Int} {e1 e2 e3 : Int32} {post : Int32 → Prop} {J : Int32 → Int32 → Prop} (hs : gz_st a b c d) (hst : (-42 ≤ s ∧ s ≤ 42) ∧ (-42 ≤ t ∧ t ≤ 42))
    (hpq : ((-42 ≤ p ∧ p ≤ 42) ∧ (-42 ≤ q ∧ q ≤ 42)) ∧ s * q - t * p ≠ 0 ∧ gz_g a b c d p q ∧ gz_n p q = m)
    (hmin : ∀ x y, s * y - t * x ≠ 0 → gz_g a b c d x y → m ≤ gz_n x y) (hx : -43 ≤ x ∧ x ≤ 43)
    (hJ : ∀ L : Int, gz_L m p q (x + 1) (-43) L → L ≤ 100000 → J (gz_i L) (gz_i (x + 1)))
    (L : Int) (hL : gz_L m p q x (-43) L) (h1 : L ≤ 100000) (y0 : Int32) (hy0 : y0 = gz_i (-43)) :
    ∃ n, wY_second_95 post J (gz_i s) (gz_i t) (gz_i x) (gz_i a) (gz_i b) (gz_i c) (gz_i d) e1 e2 e3 n (gz_i L) y0 := by
  subst hy0
  have hm := hpq.2.2.2
  have hb := hpq.1
  have m0 := gz_n0 p q
  refine ⟨88, ?_⟩
  refine gz_up (fun n y (z : Int) => wY_second_95 post J (gz_i s) (gz_i t) (gz_i x) (gz_i a) (gz_i b) (gz_i c) (gz_i d) e1 e2 e3 n (gz_i z) y)
    (fun y z => gz_L m p q x y z ∧ z ≤ 100000) (-43) 43 ?_ ?_ 87 (-43) L (by decide) (by decide) ⟨hL, h1⟩
  · rintro n L ⟨hL, h1⟩
    refine gz_blt 43 (43 + 1) (fun _ => ?_) (fun h => absurd h (by decide))
    refine nm_r (gz_p1 x) ?_
    exact hJ L (gz_Lrow (lo := -43) (hi := 43) (by omega) hL) h1
  · rintro n y L hl hh ⟨hL, h1⟩ IH
    have nb := gz_nup (x := x) (y := y) 43 ⟨by omega, by omega⟩
    have n0 := gz_n0 x y
    have l0 := hL.1
    have c1 := gz_mb (x := x) (y := t) 43 43 (by omega) (by omega)
    have c2 := gz_mb (x := y) (y := s) 43 43 (by omega) (by omega)
    have ec : s * y - t * x = y * s - x * t := by grind
    refine gz_blt 43 y (fun h => absurd h (by omega)) (fun _ => ?_)
    refine nm_r (gz_sz x y) ?_
    refine gz_beq (x * t) (y * s) (fun e => ?_) (fun e => ?_) (gz_mul x t) (gz_mul y s)
    · refine nm_r (gz_p1 y) ?_
      have e' : s * y - t * x = 0 := by omega
      exact IH L ⟨gz_Lmiss hL (fun e1 e2 => by subst e1 e2; exact absurd e' hpq.2.1), h1⟩
    · have e' : s * y - t * x ≠ 0 := by omega
      refine gz_ble L (gz_n x y) (fun h => ?_) (fun h => ?_)
      · refine nm_r (gz_p1 y) ?_
        exact IH L ⟨gz_Lmiss hL (fun e1 e2 => by subst e1 e2; omega), h1⟩
      · refine gy_pt hs (by omega) (by omega) (fun hg => ?_) (fun hg => ?_)
        · refine br_f (by decide) ?_
          refine nm_r (gz_p1 y) ?_
          exact IH (gz_n x y) ⟨gz_Lhit hL h (hmin x y e' hg) (fun e1 e2 => by subst e1 e2; exact hm), by omega⟩
        · refine br_t rfl ?_
          refine nm_r (gz_p1 y) ?_
          exact IH L ⟨gz_Lmiss hL (fun e1 e2 => by subst e1 e2; exact absurd hpq.2.2.1 hg), h1⟩
theorem gy_se84 {a b c d s t m : Int} {e1 e2 e3 : Int32} {post : Int32 → Prop} (hs : gz_st a b c d) (hst : (-42 ≤ s ∧ s ≤ 42) ∧ (-42 ≤ t ∧ t ≤ 42)) (hM : gz_M a b c d s t m) (h : post (gz_i m)) :
    ∃ n, wY_second_84 post (gz_i s) (gz_i t) (gz_i a) (gz_i b) (gz_i c) (gz_i d) e1 e2 e3 n 10000 (-43) := by
  obtain ⟨⟨p, q, hpq⟩, hm, hmin⟩ := hM
  have hb := hpq.1
  have main : ∀ L0 x0 : Int32, L0 = gz_i 10000 → x0 = gz_i (-43) → ∃ n, wY_second_84 post (gz_i s) (gz_i t) (gz_i a) (gz_i b) (gz_i c) (gz_i d) e1 e2 e3 n L0 x0 := by
    intro L0 x0 hL0 hx0
    subst hL0 hx0
    refine ⟨88, ?_⟩
    refine gz_up (fun n x (z : Int) => wY_second_84 post (gz_i s) (gz_i t) (gz_i a) (gz_i b) (gz_i c) (gz_i d) e1 e2 e3 n (gz_i z) x)
      (fun x z => gz_L m p q x (-43) z ∧ z ≤ 100000) (-43) 43 ?_ ?_ 87 (-43) 10000 (by decide) (by decide) ⟨gz_L0 (by omega) (by omega) (by omega), by decide⟩
    · rintro n L ⟨hL, h1⟩
      have e := gz_Lend (by omega) hL
      refine gz_blt 43 (43 + 1) (fun _ => ?_) (fun h => absurd h (by decide))
      rw [← e] at h
      exact h
    · rintro n x L hl hh ⟨hL, h1⟩ IH
      refine gz_blt 43 x (fun h => absurd h (by omega)) (fun _ => ?_)
      exact gy_se95 hs hst hpq hmin ⟨hl, hh⟩ (fun L k1 k2 => IH L ⟨k1, k2⟩) L hL h1 _ (by decide)
  exact main _ _ (by decide) (by decide)
/-- Y: the last shortest point of the walk -/
theorem gy_la24 {a b c d s t x : Int} {e1 e2 e3 : Int32} {post : Int32 → Prop} {J : Int32 → Int32 → Int32 → Prop} (hs : gz_st a b c d) (hT : gz_T a b c d s t) (hx : -43 ≤ x ∧ x ≤ 43)
    (hJ : ∀ z : Int32 × Int32, gz_K s t (gz_i s, gz_i t) (x + 1) (-43) z → J z.1 z.2 (gz_i (x + 1)))
    (z : Int32 × Int32) (hK : gz_K s t (gz_i s, gz_i t) x (-43) z) (y0 : Int32) (hy0 : y0 = gz_i (-43)) :
    ∃ n, wY_second_24 post J (gz_i (gz_n s t)) (gz_i x) (gz_i a) (gz_i b) (gz_i c) (gz_i d) e1 e2 e3 n z.1 z.2 y0 := by
  subst hy0
  have hb := hT.1
  have hn := hT.2.2.2.1
  have mp := gz_npos hT.2.1
  refine ⟨88, ?_⟩
  refine gz_up (fun n y (z : Int32 × Int32) => wY_second_24 post J (gz_i (gz_n s t)) (gz_i x) (gz_i a) (gz_i b) (gz_i c) (gz_i d) e1 e2 e3 n z.1 z.2 y)
    (fun y z => gz_K s t (gz_i s, gz_i t) x y z) (-43) 43 ?_ ?_ 87 (-43) z (by decide) (by decide) hK
  · intro n z hK
    refine gz_blt 43 (43 + 1) (fun _ => ?_) (fun h => absurd h (by decide))
    refine nm_r (gz_p1 x) ?_
    exact hJ z (gz_Krow (lo := -43) (hi := 43) (by omega) hK)
  · intro n y z hl hh hK IH
    have nb := gz_nup (x := x) (y := y) 43 ⟨by omega, by omega⟩
    have n0 := gz_n0 x y
    refine gz_blt 43 y (fun h => absurd h (by omega)) (fun _ => ?_)
    refine gz_beq (gz_n x y) (gz_n s t) (fun h => ?_) (fun h => ?_) (gz_sz x y)
    · refine gy_pt hs (by omega) (by omega) (fun hg => ?_) (fun hg => ?_)
      · refine br_f (by decide) ?_
        refine nm_r (gz_p1 y) ?_
        have hm := hT.2.2.2.2 x y (gz_nz (by omega)) hg
        exact IH (gz_i x, gz_i y) (gz_Khit (by omega) (fun e1 e2 => by subst e1 e2; rfl))
      · refine br_t rfl ?_
        refine nm_r (gz_p1 y) ?_
        exact IH z (gz_Kmiss hK (fun e => hg (by rw [← e.1, ← e.2]; exact hT.2.2.1)))
    · refine nm_r (gz_p1 y) ?_
      exact IH z (gz_Kmiss hK (fun e => h (by rw [← e.1, ← e.2])))
theorem gy_se {a b c d s t m : Int} {e1 e2 e3 : Int32} {post : Int32 → Prop} (hs : gz_st a b c d) (hT : gz_T a b c d s t) (hM : gz_M a b c d s t m) (h : post (gz_i m)) :
    wpY_second post (gz_i a, gz_i b, gz_i c, gz_i d, e1, e2, e3) := by
  have hb := hT.1
  have main : ∀ z1 z2 x0 : Int32, x0 = gz_i (-43) → ∃ n, wY_second_13 post (gz_i (gz_n s t)) (gz_i a) (gz_i b) (gz_i c) (gz_i d) e1 e2 e3 n z1 z2 x0 := by
    intro z1 z2 x0 hx0
    subst hx0
    refine ⟨88, ?_⟩
    refine gz_up (fun n x (z : Int32 × Int32) => wY_second_13 post (gz_i (gz_n s t)) (gz_i a) (gz_i b) (gz_i c) (gz_i d) e1 e2 e3 n z.1 z.2 x)
      (fun x z => gz_K s t (gz_i s, gz_i t) x (-43) z) (-43) 43 ?_ ?_ 87 (-43) (z1, z2) (by decide) (by decide) (gz_K0 (by omega) (by omega))
    · intro n z hK
      have e := gz_Kend (by omega) hK
      subst e
      refine gz_blt 43 (43 + 1) (fun _ => ?_) (fun h => absurd h (by decide))
      exact gy_se84 hs hb hM h
    · intro n x z hl hh hK IH
      refine gz_blt 43 x (fun h => absurd h (by omega)) (fun _ => ?_)
      exact gy_la24 hs hT ⟨hl, hh⟩ (fun z k => IH z k) z hK _ (by decide)
  unfold wpY_second
  refine gy_sh hs hT ?_
  exact main _ _ _ (by decide)
