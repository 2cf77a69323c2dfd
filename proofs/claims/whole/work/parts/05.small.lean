theorem gz_sz (x y : Int) : gz_i x * gz_i x + gz_i y * gz_i y = gz_i (gz_n x y) := by
  rw [gz_mul, gz_mul, gz_add]
  rfl
theorem gz_cr (x y u v : Int) : gz_i x * gz_i v - gz_i y * gz_i u = gz_i (x * v - y * u) := by
  rw [gz_mul, gz_mul, gz_sub]
theorem gz_Db {a b c d : Int} (h : gz_st a b c d) : -1800 ≤ a * d - b * c ∧ a * d - b * c ≤ 1800 := by
  have h1 := gz_mb (x := a) (y := d) 30 30 (by have := h.1; omega) (by have := h.2.2.2.1; omega)
  have h2 := gz_mb (x := b) (y := c) 30 30 (by have := h.2.1; omega) (by have := h.2.2.1; omega)
  omega
theorem gz_eb {x y c d : Int} (hx : -1100 ≤ x ∧ x ≤ 1100) (hy : -1100 ≤ y ∧ y ≤ 1100) (hc : -30 ≤ c ∧ c ≤ 30) (hd : -30 ≤ d ∧ d ≤ 30) :
    -66000 ≤ x * d - y * c ∧ x * d - y * c ≤ 66000 := by
  have h1 := gz_mb (x := x) (y := d) 1100 30 (by omega) (by omega)
  have h2 := gz_mb (x := y) (y := c) 1100 30 (by omega) (by omega)
  omega
theorem gz_nb {x y : Int} (hx : -1100 ≤ x ∧ x ≤ 1100) (hy : -1100 ≤ y ∧ y ≤ 1100) : 0 ≤ gz_n x y ∧ gz_n x y ≤ 2420000 := by
  have h1 := gz_n0 x y
  have h2 := gz_nup (x := x) (y := y) 1100 ⟨by omega, by omega⟩
  omega
theorem gx_size {x y : Int} {post : Int32 → Prop} (h : post (gz_i (gz_n x y))) : wpX_size post (gz_i x) (gz_i y) := by
  unfold wpX_size
  rw [gz_sz]
  exact h
theorem gx_cross {x y u v : Int} {post : Int32 → Prop} (h : post (gz_i (x * v - y * u))) : wpX_cross post (gz_i x) (gz_i y) (gz_i u) (gz_i v) := by
  unfold wpX_cross
  rw [gz_cr]
  exact h
theorem gz_nz0 {e : Int} (h : e ≠ 0) (hb : -2147483648 ≤ e ∧ e < 2147483648) : ¬ gz_i e = 0 := by
  rw [← gz_0, gz_eq hb (by omega)]
  exact h
theorem gx_in {a b c d x y : Int} {s t X Y : Int32} {post : Int32 → Prop} (hs : gz_st a b c d) (hx : -1100 ≤ x ∧ x ≤ 1100) (hy : -1100 ≤ y ∧ y ≤ 1100)
    (h1 : gz_g a b c d x y → post 1) (h0 : ¬ gz_g a b c d x y → post 0) (hX : X = gz_i x := by rfl) (hY : Y = gz_i y := by rfl) :
    wpX_inGrid post (gz_i a, gz_i b, gz_i c, gz_i d, s, t) X Y := by
  subst hX hY
  have hDb := gz_Db hs
  have hD : ¬ gz_i (a * d - b * c) = 0 := gz_nz0 hs.2.2.2.2 (by omega)
  have b1 := gz_eb hx hy hs.2.2.1 hs.2.2.2.1
  have b2 : -66000 ≤ a * y - b * x ∧ a * y - b * x ≤ 66000 := by
    have k := gz_eb hy hx hs.2.1 hs.1
    have e : a * y - b * x = y * a - x * b := by grind
    rw [e]
    exact k
  have r1 := gz_rem (e := x * d - y * c) (m := a * d - b * c) (by omega) (by omega)
  have r2 := gz_rem (e := a * y - b * x) (m := a * d - b * c) (by omega) (by omega)
  unfold wpX_inGrid
  refine gx_cross ?_
  refine br_f hD ?_
  refine gx_cross ?_
  refine ⟨hD, ?_⟩
  by_cases d1 : (a * d - b * c) ∣ (x * d - y * c)
  · refine br_t (r1.mpr d1) ?_
    refine gx_cross ?_
    refine ⟨hD, ?_⟩
    by_cases d2 : (a * d - b * c) ∣ (a * y - b * x)
    · exact br_t (r2.mpr d2) (h1 ⟨d1, d2⟩)
    · exact br_f (fun k => d2 (r2.mp k)) (h0 (fun k => d2 k.2))
  · exact br_f (fun k => d1 (r1.mp k)) (h0 (fun k => d1 k.1))
theorem gy_in {a b c d x y : Int} {post : Int32 → Prop} (hs : gz_st a b c d) (hx : -1100 ≤ x ∧ x ≤ 1100) (hy : -1100 ≤ y ∧ y ≤ 1100)
    (h1 : gz_g a b c d x y → post 1) (h0 : ¬ gz_g a b c d x y → post 0) :
    wpY_in post (gz_i x) (gz_i y) (gz_i a) (gz_i b) (gz_i c) (gz_i d) := by
  have hDb := gz_Db hs
  have hD : ¬ gz_i (a * d - b * c) = 0 := gz_nz0 hs.2.2.2.2 (by omega)
  have b1 := gz_eb hx hy hs.2.2.1 hs.2.2.2.1
  have e2 : y * a - x * b = a * y - b * x := by grind
  have b2 : -66000 ≤ a * y - b * x ∧ a * y - b * x ≤ 66000 := by
    have k := gz_eb hy hx hs.2.1 hs.1
    rw [e2] at k
    exact k
  have r1 := gz_rem (e := x * d - y * c) (m := a * d - b * c) (by omega) (by omega)
  have r2 := gz_rem (e := a * y - b * x) (m := a * d - b * c) (by omega) (by omega)
  unfold wpY_in
  rw [gz_cr a b c d, gz_cr x y c d, gz_cr y x b a, e2]
  refine nm_e ?_
  refine br_f hD ⟨hD, ?_⟩
  by_cases d1 : (a * d - b * c) ∣ (x * d - y * c)
  · refine br_t (r1.mpr d1) ⟨hD, ?_⟩
    by_cases d2 : (a * d - b * c) ∣ (a * y - b * x)
    · exact br_t (r2.mpr d2) (h1 ⟨d1, d2⟩)
    · exact br_f (fun k => d2 (r2.mp k)) (h0 (fun k => d2 k.2))
  · exact br_f (fun k => d1 (r1.mp k)) (h0 (fun k => d1 k.1))
theorem gy_pt {a b c d x y : Int} {p q w : Int32} {post : Int32 → Prop} (hs : gz_st a b c d) (hx : -1100 ≤ x ∧ x ≤ 1100) (hy : -1100 ≤ y ∧ y ≤ 1100)
    (h1 : gz_g a b c d x y → post 1) (h0 : ¬ gz_g a b c d x y → post 0) :
    wpY_isPoint post (gz_i a, gz_i b, gz_i c, gz_i d, p, q, w) (gz_i x) (gz_i y) := by
  unfold wpY_isPoint
  exact gy_in hs hx hy (fun h => ⟨rfl, h1 h⟩) (fun h => ⟨rfl, h0 h⟩)
/-- places -/
theorem gx_place {post : Int32 → Prop} {x y : Int} (hx : -2147483648 ≤ x ∧ x < 2147483648) (hy : -2147483648 ≤ y ∧ y < 2147483648)
    (h1 : ((-1000 ≤ x ∧ x ≤ 1000) ∧ (-1000 ≤ y ∧ y ≤ 1000)) → post 1) (h0 : ¬ ((-1000 ≤ x ∧ x ≤ 1000) ∧ (-1000 ≤ y ∧ y ≤ 1000)) → post 0) :
    wpX_isPlace post (gz_i x) (gz_i y) := by
  unfold wpX_isPlace
  refine gz_blt x (-1000) (fun h => h0 (by omega)) (fun k1 => ?_)
  refine gz_blt 1000 x (fun h => h0 (by omega)) (fun k2 => ?_)
  refine gz_blt y (-1000) (fun h => h0 (by omega)) (fun k3 => ?_)
  exact gz_blt 1000 y (fun h => h0 (by omega)) (fun k4 => h1 (by omega))
theorem gy_far {post : Int32 → Prop} {x y : Int} (hx : -2147483648 ≤ x ∧ x < 2147483648) (hy : -2147483648 ≤ y ∧ y < 2147483648)
    (h1 : ((-1000 ≤ x ∧ x ≤ 1000) ∧ (-1000 ≤ y ∧ y ≤ 1000)) → post 0) (h0 : ¬ ((-1000 ≤ x ∧ x ≤ 1000) ∧ (-1000 ≤ y ∧ y ≤ 1000)) → post 1) :
    wpY_far post (gz_i x) (gz_i y) := by
  unfold wpY_far
  refine gz_blt x (-1000) (fun h => h0 (by omega)) (fun k1 => ?_)
  refine gz_blt 1000 x (fun h => h0 (by omega)) (fun k2 => ?_)
  refine gz_blt y (-1000) (fun h => h0 (by omega)) (fun k3 => ?_)
  exact gz_ble y 1000 (fun k4 => h1 (by omega)) (fun h => h0 (by omega))
/-- steps -/
theorem gx_isn {post : Int32 → Prop} {x : Int} (hx : -2147483648 ≤ x ∧ x < 2147483648)
    (h1 : (-30 ≤ x ∧ x ≤ 30) → post 1) (h0 : ¬ (-30 ≤ x ∧ x ≤ 30) → post 0) : wpX_isStepNumber post (gz_i x) := by
  unfold wpX_isStepNumber
  refine gz_blt x (-30) (fun h => h0 (by omega)) (fun k1 => ?_)
  exact gz_blt 30 x (fun h => h0 (by omega)) (fun k2 => h1 (by omega))
theorem gy_bad {post : Int32 → Prop} {x : Int} (hx : -2147483648 ≤ x ∧ x < 2147483648)
    (h1 : (-30 ≤ x ∧ x ≤ 30) → post 0) (h0 : ¬ (-30 ≤ x ∧ x ≤ 30) → post 1) : wpY_bad post (gz_i x) := by
  unfold wpY_bad
  refine gz_blt x (-30) (fun h => h0 (by omega)) (fun k1 => ?_)
  exact gz_ble x 30 (fun k2 => h1 (by omega)) (fun h => h0 (by omega))
theorem gx_are {post : Int32 → Prop} {a b c d : Int} (ha : -2147483648 ≤ a ∧ a < 2147483648) (hb : -2147483648 ≤ b ∧ b < 2147483648)
    (hc : -2147483648 ≤ c ∧ c < 2147483648) (hd : -2147483648 ≤ d ∧ d < 2147483648)
    (h1 : gz_st a b c d → post 1) (h0 : ¬ gz_st a b c d → post 0) : wpX_areSteps post (gz_i a) (gz_i b) (gz_i c) (gz_i d) := by
  have z : (¬ gz_st a b c d) → wX_areSteps_32 post (gz_i a) (gz_i b) (gz_i c) (gz_i d) := by
    intro h
    unfold wX_areSteps_32 wX_areSteps_33
    exact br_t rfl (h0 h)
  unfold wpX_areSteps
  refine gx_isn ha (fun k1 => ?_) (fun k => br_t rfl (z (fun h => k h.1)))
  refine br_f (by decide) ?_
  refine gx_isn hb (fun k2 => ?_) (fun k => br_t rfl (z (fun h => k h.2.1)))
  refine br_f (by decide) ?_
  refine gx_isn hc (fun k3 => ?_) (fun k => br_t rfl (z (fun h => k h.2.2.1)))
  refine br_f (by decide) ?_
  refine gx_isn hd (fun k4 => ?_) (fun k => br_t rfl (z (fun h => k h.2.2.2.1)))
  refine br_f (by decide) ?_
  unfold wX_areSteps_33
  refine br_f (by decide) ?_
  refine gx_cross ?_
  have hB := gz_eb (x := a) (y := b) (c := c) (d := d) (by omega) (by omega) k3 k4
  exact gz_beq (a * d - b * c) 0 (fun e => h0 (fun h => h.2.2.2.2 e)) (fun e => h1 ⟨k1, k2, k3, k4, e⟩)
