theorem gz_cb {s t x y : Int} (hst : (-43 ≤ s ∧ s ≤ 43) ∧ (-43 ≤ t ∧ t ≤ 43)) (hx : -43 ≤ x ∧ x ≤ 43) (hy : -43 ≤ y ∧ y ≤ 43) : -3698 ≤ s * y - t * x ∧ s * y - t * x ≤ 3698 := by
  have h1 := gz_mb (x := s) (y := y) 43 43 (by omega) (by omega)
  have h2 := gz_mb (x := t) (y := x) 43 43 (by omega) (by omega)
  omega
/-- X: the shortest point with the greatest x, of several the greatest y -/
theorem gx_fs16 {a b c d s t x : Int} {post : SX → Prop} {J : Int32 → Int32 → Int32 → Int32 → Prop} (hs : gz_st a b c d) (hT : gz_T a b c d s t) (hx : -42 ≤ x ∧ x ≤ 42)
    (hJ : ∀ (L : Int) (p : Int32 × Int32), gz_F (gz_n s t) (-s) (-t) (gz_i s, gz_i t) (-(x - 1)) (-42) L p → 0 ≤ L → L ≤ 100000 → J (gz_i L) (gz_i (x - 1)) p.1 p.2)
    (L : Int) (p : Int32 × Int32) (hF : gz_F (gz_n s t) (-s) (-t) (gz_i s, gz_i t) (-x) (-42) L p) (h0 : 0 ≤ L) (h1 : L ≤ 100000) (y0 : Int32) (hy0 : y0 = gz_i 42) :
    ∃ n, wX_findShortPoint_16 post J (gz_i x) (gz_i a) (gz_i b) (gz_i c) (gz_i d) n (gz_i L) y0 p.1 p.2 := by
  subst hy0
  refine ⟨86, ?_⟩
  refine gz_dn (fun n y (z : Int × Int32 × Int32) => wX_findShortPoint_16 post J (gz_i x) (gz_i a) (gz_i b) (gz_i c) (gz_i d) n (gz_i z.1) y z.2.1 z.2.2)
    (fun y z => gz_F (gz_n s t) (-s) (-t) (gz_i s, gz_i t) (-x) (-y) z.1 z.2 ∧ 0 ≤ z.1 ∧ z.1 ≤ 100000) (-42) 42 ?_ ?_ 85 42 (L, p) (by decide) (by decide) ⟨hF, h0, h1⟩
  · rintro n ⟨L, p⟩ ⟨hF, h0, h1⟩
    dsimp only at hF h0 h1
    have e : -(-42 - 1 : Int) = 42 + 1 := by decide
    rw [e] at hF
    have hr := gz_Frow (lo := -42) (hi := 42) (by have := hT.1.2; omega) hF
    have e2 : -x + 1 = -(x - 1) := by omega
    rw [e2] at hr
    refine gz_blt (-42 - 1) (-42) (fun _ => ?_) (fun h => absurd h (by decide))
    refine nm_r (gz_d1 x) ?_
    exact hJ L p hr h0 h1
  · rintro n y ⟨L, p⟩ hl hh ⟨hF, h0, h1⟩ IH
    dsimp only at hF h0 h1
    have nb := gz_nup (x := x) (y := y) 42 ⟨by omega, by omega⟩
    have n0 := gz_n0 x y
    have main : (x ≠ 0 ∨ y ≠ 0) → wX_findShortPoint_35 post J (wX_findShortPoint_16 post J (gz_i x) (gz_i a) (gz_i b) (gz_i c) (gz_i d) n) (gz_i L) (gz_i x) (gz_i y) 0 (gz_i a) (gz_i b) (gz_i c) (gz_i d) p.1 p.2 := by
      intro hne
      have hm := hT.2.2.2.2 x y hne
      unfold wX_findShortPoint_35
      refine br_t rfl ?_
      refine gx_size ?_
      refine gz_ble L (gz_n x y) (fun h => ?_) (fun h => ?_)
      · refine nm_r (gz_d1 y) ?_
        exact IH (L, p) ⟨gz_FnegM hF (fun e1 e2 => by subst e1 e2; omega), h0, h1⟩
      · refine gx_in (x := x) (y := y) hs (by omega) (by omega) (fun hg => ?_) (fun hg => ?_)
        · refine br_f (by decide) ?_
          refine gx_size ?_
          refine nm_r (gz_d1 y) ?_
          exact IH (gz_n x y, gz_i x, gz_i y) ⟨gz_Fneg hF h (hm hg) (fun e1 e2 => by subst e1 e2; exact ⟨rfl, rfl⟩), n0, by omega⟩
        · refine br_t rfl ?_
          refine nm_r (gz_d1 y) ?_
          exact IH (L, p) ⟨gz_FnegM hF (fun e1 e2 => by subst e1 e2; exact absurd hT.2.2.1 hg), h0, h1⟩
    refine gz_blt y (-42) (fun h => absurd h (by omega)) (fun _ => ?_)
    refine gz_beq x 0 (fun ex => ?_) (fun ex => ?_)
    · refine gz_beq y 0 (fun ey => ?_) (fun ey => ?_)
      · unfold wX_findShortPoint_35
        refine br_f (by decide) ?_
        refine nm_r (gz_d1 y) ?_
        exact IH (L, p) ⟨gz_FnegM hF (fun e1 e2 => absurd hT.2.1 (by omega)), h0, h1⟩
      · unfold wX_findShortPoint_34
        exact main (Or.inr ey)
    · unfold wX_findShortPoint_34
      exact main (Or.inl ex)
theorem gx_fs {a b c d s t : Int} {p q : Int32} {post : SX → Prop} (hs : gz_st a b c d) (hT : gz_T a b c d s t) (h : post (gz_i a, gz_i b, gz_i c, gz_i d, gz_i s, gz_i t)) :
    wpX_findShortPoint post (gz_i a, gz_i b, gz_i c, gz_i d, p, q) := by
  have main : ∀ L0 x0 : Int32, L0 = gz_i 3529 → x0 = gz_i 42 → ∃ n, wX_findShortPoint_7 post (gz_i a) (gz_i b) (gz_i c) (gz_i d) n L0 x0 p q := by
    intro L0 x0 hL0 hx0
    subst hL0 hx0
    have hb := hT.1
    have hn := hT.2.2.2.1
    refine ⟨86, ?_⟩
    refine gz_dn (fun n x (z : Int × Int32 × Int32) => wX_findShortPoint_7 post (gz_i a) (gz_i b) (gz_i c) (gz_i d) n (gz_i z.1) x z.2.1 z.2.2)
      (fun x z => gz_F (gz_n s t) (-s) (-t) (gz_i s, gz_i t) (-x) (-42) z.1 z.2 ∧ 0 ≤ z.1 ∧ z.1 ≤ 100000) (-42) 42 ?_ ?_ 85 42 (3529, p, q) (by decide) (by decide)
      ⟨gz_F0 (by omega) (by omega) (by show gz_n s t < 3529; omega), by show (0 : Int) ≤ 3529; decide, by show (3529 : Int) ≤ 100000; decide⟩
    · rintro n ⟨L, p⟩ ⟨hF, h0, h1⟩
      dsimp only at hF h0 h1
      have e : -(-42 - 1 : Int) = 42 + 1 := by decide
      rw [e] at hF
      obtain ⟨e1, e2⟩ := gz_Fend (by omega) hF
      refine gz_blt (-42 - 1) (-42) (fun _ => ?_) (fun h => absurd h (by decide))
      subst e2
      exact h
    · rintro n x ⟨L, p⟩ hl hh ⟨hF, h0, h1⟩ IH
      refine gz_blt x (-42) (fun h => absurd h (by omega)) (fun _ => ?_)
      exact gx_fs16 hs hT ⟨hl, hh⟩ (fun L p k1 k2 k3 => IH (L, p) ⟨k1, k2, k3⟩) L p hF h0 h1 _ (by decide)
  unfold wpX_findShortPoint
  exact main _ _ (by decide) (by decide)
/-- X: how many shortest points -/
theorem gx_ma27 {a b c d s t x m T : Int} {q : Int → Int → Int} {post : Int32 → Prop} {J : Int32 → Int32 → Prop} (hs : gz_st a b c d) (hm : 0 ≤ m ∧ m ≤ 100000)
    (hq : ∀ x y, ((gz_n x y = m ∧ gz_g a b c d x y) → q x y = 1) ∧ (¬ (gz_n x y = m ∧ gz_g a b c d x y) → q x y = 0)) (hx : -42 ≤ x ∧ x ≤ 42)
    (hJ : ∀ k : Int, k + gz_head q (-42) 85 (x + 1) = T → J (gz_i k) (gz_i (x + 1)))
    (k : Int) (hk : k + gz_head q (-42) 85 x = T) (y0 : Int32) (hy0 : y0 = gz_i (-42)) :
    ∃ n, wX_many_27 post J (gz_i m) (gz_i x) (gz_i a) (gz_i b) (gz_i c) (gz_i d) (gz_i s) (gz_i t) n (gz_i k) y0 := by
  subst hy0
  rw [gz_headI q (-42) 85 (by omega)] at hk
  refine ⟨86, ?_⟩
  refine gz_up (fun n y (z : Int) => wX_many_27 post J (gz_i m) (gz_i x) (gz_i a) (gz_i b) (gz_i c) (gz_i d) (gz_i s) (gz_i t) n (gz_i z) y)
    (fun y z => z + gz_rest q (-42) 85 x y = T) (-42) 42 ?_ ?_ 85 (-42) k (by decide) (by decide) hk
  · intro n k hk
    have e : (42 + 1 : Int) = -42 + ((85 : Nat) : Int) := by decide
    rw [e, gz_headO] at hk
    refine gz_blt 42 (42 + 1) (fun _ => ?_) (fun h => absurd h (by decide))
    refine nm_r (gz_p1 x) ?_
    exact hJ k hk
  · intro n y k hl hh hk IH
    rw [gz_rest1 q (-42) 85 (by omega)] at hk
    have nb := gz_nup (x := x) (y := y) 42 ⟨by omega, by omega⟩
    have n0 := gz_n0 x y
    refine gz_blt 42 y (fun h => absurd h (by omega)) (fun _ => ?_)
    refine gx_size ?_
    refine gz_beq (gz_n x y) m (fun h => ?_) (fun h => ?_)
    · refine gx_in (x := x) (y := y) hs (by omega) (by omega) (fun hg => ?_) (fun hg => ?_)
      · refine br_f (by decide) ?_
        refine nm_r (gz_p1 k) ?_
        refine nm_r (gz_p1 y) ?_
        have hv := (hq x y).1 ⟨h, hg⟩
        exact IH (k + 1) (by omega)
      · refine br_t rfl ?_
        refine nm_r (gz_p1 y) ?_
        have hv := (hq x y).2 (fun z => hg z.2)
        exact IH k (by omega)
    · refine nm_r (gz_p1 y) ?_
      have hv := (hq x y).2 (fun z => h z.1)
      exact IH k (by omega)
theorem gx_ma {a b c d s t : Int} {q : Int → Int → Int} {post : Int32 → Prop} (hs : gz_st a b c d) (hT : gz_T a b c d s t)
    (hq : ∀ x y, ((gz_n x y = gz_n s t ∧ gz_g a b c d x y) → q x y = 1) ∧ (¬ (gz_n x y = gz_n s t ∧ gz_g a b c d x y) → q x y = 0)) (h : post (gz_i (gz_tot q (-42) 85))) :
    wpX_many post (gz_i a, gz_i b, gz_i c, gz_i d, gz_i s, gz_i t) := by
  have n0 := gz_n0 s t
  have hn := hT.2.2.2.1
  have main : ∀ k0 x0 : Int32, k0 = gz_i 0 → x0 = gz_i (-42) → ∃ n, wX_many_17 post (gz_i (gz_n s t)) (gz_i a) (gz_i b) (gz_i c) (gz_i d) (gz_i s) (gz_i t) n k0 x0 := by
    intro k0 x0 hk0 hx0
    subst hk0 hx0
    refine ⟨86, ?_⟩
    refine gz_up (fun n x (z : Int) => wX_many_17 post (gz_i (gz_n s t)) (gz_i a) (gz_i b) (gz_i c) (gz_i d) (gz_i s) (gz_i t) n (gz_i z) x)
      (fun x z => z + gz_head q (-42) 85 x = gz_tot q (-42) 85) (-42) 42 ?_ ?_ 85 (-42) 0 (by decide) (by decide) (by rw [gz_head0]; omega)
    · intro n k hk
      have e : (42 + 1 : Int) = -42 + ((85 : Nat) : Int) := by decide
      rw [e, gz_headE] at hk
      have e2 : k = gz_tot q (-42) 85 := by omega
      refine gz_blt 42 (42 + 1) (fun _ => ?_) (fun h => absurd h (by decide))
      rw [← e2] at h
      exact h
    · intro n x k hl hh hk IH
      refine gz_blt 42 x (fun h => absurd h (by omega)) (fun _ => ?_)
      exact gx_ma27 hs (by omega) hq ⟨hl, hh⟩ (fun k hk => IH k hk) k hk _ (by decide)
  unfold wpX_many
  refine gx_size ?_
  exact main _ _ (by decide) (by decide)
