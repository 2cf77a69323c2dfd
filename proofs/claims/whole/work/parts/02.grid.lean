theorem gz_mb {x y : Int} (A B : Nat) (hx : -(A : Int) ≤ x ∧ x ≤ A) (hy : -(B : Int) ≤ y ∧ y ≤ B) :
    -((A * B : Nat) : Int) ≤ x * y ∧ x * y ≤ ((A * B : Nat) : Int) := by
  have h1 : x.natAbs ≤ A := by omega
  have h2 : y.natAbs ≤ B := by omega
  have h3 : (x * y).natAbs ≤ A * B := by rw [Int.natAbs_mul]; exact Nat.mul_le_mul h1 h2
  generalize x * y = z at h3 ⊢
  generalize A * B = m at h3 ⊢
  omega
theorem gz_s0 (x : Int) : 0 ≤ x * x := by
  have e := Int.natAbs_mul_self (a := x)
  rw [← e]
  exact Int.natCast_nonneg _
theorem gz_sl {x : Int} (k : Nat) (h : x ≤ -(k : Int) ∨ (k : Int) ≤ x) : ((k * k : Nat) : Int) ≤ x * x := by
  have e := Int.natAbs_mul_self (a := x)
  rw [← e]
  exact Int.ofNat_le.mpr (Nat.mul_le_mul (by omega) (by omega))
theorem gz_su {x : Int} (k : Nat) (h : -(k : Int) ≤ x ∧ x ≤ k) : x * x ≤ ((k * k : Nat) : Int) := (gz_mb k k h h).2
/-- the steps that may be held; the points that they reach -/
def gz_st (a b c d : Int) : Prop :=
  (-30 ≤ a ∧ a ≤ 30) ∧ (-30 ≤ b ∧ b ≤ 30) ∧ (-30 ≤ c ∧ c ≤ 30) ∧ (-30 ≤ d ∧ d ≤ 30) ∧ a * d - b * c ≠ 0
def gz_g (a b c d x y : Int) : Prop := (a * d - b * c) ∣ (x * d - y * c) ∧ (a * d - b * c) ∣ (a * y - b * x)
theorem gz_gab (a b c d : Int) : gz_g a b c d a b := ⟨⟨1, by grind⟩, ⟨0, by grind⟩⟩
theorem gz_gcd (a b c d : Int) : gz_g a b c d c d := ⟨⟨0, by grind⟩, ⟨1, by grind⟩⟩
theorem gz_gij (a b c d i j : Int) : gz_g a b c d (i * a + j * c) (i * b + j * d) := ⟨⟨i, by grind⟩, ⟨j, by grind⟩⟩
theorem gz_ne {a b c d : Int} (h : gz_st a b c d) : a ≠ 0 ∨ b ≠ 0 := by
  have h5 := h.2.2.2.2
  by_cases ha : a = 0
  · by_cases hb : b = 0
    · subst ha hb
      exact absurd (by grind) h5
    · exact Or.inr hb
  · exact Or.inl ha
theorem gz_bal (e m : Int) (hm : m ≠ 0) : ∃ j : Int, (2 * (e - j * m)) * (2 * (e - j * m)) ≤ m * m := by
  have key : ∀ k : Int, 0 < k → ∃ j : Int, -k ≤ 2 * (e - j * k) ∧ 2 * (e - j * k) ≤ k := by
    intro k hk
    have h1 := Int.emod_add_mul_ediv (2 * e + k) (2 * k)
    have h2 := Int.emod_nonneg (2 * e + k) (b := 2 * k) (by omega)
    have h3 := Int.emod_lt_of_pos (2 * e + k) (b := 2 * k) (by omega)
    refine ⟨(2 * e + k) / (2 * k), ?_⟩
    generalize (2 * e + k) / (2 * k) = j at h1 ⊢
    generalize (2 * e + k) % (2 * k) = r at h1 h2 h3
    have h4 : 2 * k * j = 2 * (j * k) := by grind
    rw [h4] at h1
    generalize j * k = t at h1 ⊢
    omega
  have h : ∃ j : Int, (2 * (e - j * m)).natAbs ≤ m.natAbs := by
    by_cases hp : 0 < m
    · obtain ⟨j, hj⟩ := key m hp
      exact ⟨j, by omega⟩
    · obtain ⟨j, hj⟩ := key (-m) (by omega)
      refine ⟨-j, ?_⟩
      have e1 : -j * m = j * -m := by grind
      rw [e1]
      omega
  obtain ⟨j, hj⟩ := h
  refine ⟨j, ?_⟩
  have e1 := Int.natAbs_mul_self (a := 2 * (e - j * m))
  have e2 := Int.natAbs_mul_self (a := m)
  rw [← e1, ← e2]
  exact Int.ofNat_le.mpr (Nat.mul_le_mul hj hj)
theorem gz_pos {a b : Int} (h : a ≠ 0 ∨ b ≠ 0) : 0 < a * a + b * b := by
  have ha := gz_s0 a
  have hb := gz_s0 b
  rcases h with h | h
  · have := gz_sl (x := a) 1 (by omega)
    omega
  · have := gz_sl (x := b) 1 (by omega)
    omega
theorem gz_lag (a b r s : Int) : (a * a + b * b) * (r * r + s * s) = (a * r + b * s) * (a * r + b * s) + (a * s - b * r) * (a * s - b * r) := by grind
theorem gz_cov1 {p q t x y z y' : Int} (hp : 0 < p) (h1 : p * t = x + y) (h2 : p * q = z + y') (h3 : 0 ≤ z) (hx : 4 * x ≤ p * p) (hy : 4 * y ≤ y') : 4 * t ≤ p + q := by
  refine Int.le_of_mul_le_mul_left (a := p) ?_ hp
  have e1 : p * (4 * t) = 4 * (p * t) := by grind
  have e2 : p * (p + q) = p * p + p * q := by grind
  rw [e1, e2, h1, h2]
  omega
/-- no place is farther from the grid than 30 -/
theorem gz_cover {a b c d : Int} (hs : gz_st a b c d) (x y : Int) :
    ∃ u v : Int, gz_g a b c d u v ∧ (u - x) * (u - x) + (v - y) * (v - y) ≤ 900 := by
  have hp := gz_pos (gz_ne hs)
  obtain ⟨ha, hb, hc, hd, hD⟩ := hs
  obtain ⟨j, hj⟩ := gz_bal (a * y - b * x) (a * d - b * c) hD
  obtain ⟨i, hi⟩ := gz_bal (a * (x - j * c) + b * (y - j * d)) (a * a + b * b) (by omega)
  refine ⟨i * a + j * c, i * b + j * d, gz_gij a b c d i j, ?_⟩
  have e1 : (a * (x - j * c) + b * (y - j * d)) - i * (a * a + b * b) = -(a * (i * a + j * c - x) + b * (i * b + j * d - y)) := by grind
  have e2 : (a * y - b * x) - j * (a * d - b * c) = -(a * (i * b + j * d - y) - b * (i * a + j * c - x)) := by grind
  rw [e1] at hi
  rw [e2] at hj
  generalize i * a + j * c - x = r at hi hj ⊢
  generalize i * b + j * d - y = s at hi hj ⊢
  have hi' : 4 * ((a * r + b * s) * (a * r + b * s)) ≤ (a * a + b * b) * (a * a + b * b) := by
    have e : 2 * -(a * r + b * s) * (2 * -(a * r + b * s)) = 4 * ((a * r + b * s) * (a * r + b * s)) := by grind
    rw [e] at hi
    exact hi
  have hj' : 4 * ((a * s - b * r) * (a * s - b * r)) ≤ (a * d - b * c) * (a * d - b * c) := by
    have e : 2 * -(a * s - b * r) * (2 * -(a * s - b * r)) = 4 * ((a * s - b * r) * (a * s - b * r)) := by grind
    rw [e] at hj
    exact hj
  have h := gz_cov1 hp (gz_lag a b r s) (gz_lag a b c d) (gz_s0 _) hi' hj'
  have h1 := gz_su (x := a) 30 (by omega)
  have h2 := gz_su (x := b) 30 (by omega)
  have h3 := gz_su (x := c) 30 (by omega)
  have h4 := gz_su (x := d) 30 (by omega)
  omega
/-- two pairs of steps, each inside the other's grid: the same area -/
theorem gz_dvd {D E p q r s : Int} (hD : D ≠ 0) (h : D * E = p * s - q * r) (hp : D ∣ p) (hq : D ∣ q) (hr : D ∣ r) (hs : D ∣ s) : D ∣ E := by
  obtain ⟨p', rfl⟩ := hp
  obtain ⟨q', rfl⟩ := hq
  obtain ⟨r', rfl⟩ := hr
  obtain ⟨s', rfl⟩ := hs
  refine ⟨p' * s' - q' * r', ?_⟩
  refine Int.eq_of_mul_eq_mul_left hD ?_
  rw [h]
  grind
theorem gz_same {a b c d e f g h : Int} (h1 : a * d - b * c ≠ 0) (h2 : e * h - f * g ≠ 0) :
    (gz_g a b c d e f ∧ gz_g a b c d g h) ∧ (gz_g e f g h a b ∧ gz_g e f g h c d) ↔
    (e * h - f * g = a * d - b * c ∨ e * h - f * g = -(a * d - b * c)) ∧ gz_g a b c d e f ∧ gz_g a b c d g h := by
  have n2 : e * b - f * a = -(a * f - b * e) := by grind
  have n3 : c * h - d * g = -(g * d - h * c) := by grind
  constructor
  · rintro ⟨⟨⟨p1, p2⟩, ⟨p3, p4⟩⟩, ⟨⟨q1, q2⟩, ⟨q3, q4⟩⟩⟩
    refine ⟨?_, ⟨p1, p2⟩, ⟨p3, p4⟩⟩
    have d1 : (a * d - b * c) ∣ (e * h - f * g) := gz_dvd (p := e * d - f * c) (q := a * f - b * e) (r := g * d - h * c) (s := a * h - b * g) h1 (by grind) p1 p2 p3 p4
    have d2 : (e * h - f * g) ∣ (a * d - b * c) := gz_dvd (p := a * h - b * g) (q := e * b - f * a) (r := c * h - d * g) (s := e * d - f * c) h2 (by grind) q1 q2 q3 q4
    have hn := Nat.dvd_antisymm (Int.natAbs_dvd_natAbs.mpr d2) (Int.natAbs_dvd_natAbs.mpr d1)
    exact Int.natAbs_eq_natAbs_iff.mp hn
  · rintro ⟨hE, ⟨p1, p2⟩, ⟨p3, p4⟩⟩
    refine ⟨⟨⟨p1, p2⟩, ⟨p3, p4⟩⟩, ?_⟩
    have t : ∀ z : Int, (a * d - b * c) ∣ z → (e * h - f * g) ∣ z := by
      intro z hz
      rcases hE with hE | hE
      · rw [hE]; exact hz
      · rw [hE]; exact Int.neg_dvd.mpr hz
    refine ⟨⟨t _ p4, ?_⟩, ⟨?_, t _ p1⟩⟩
    · rw [n2]; exact Int.dvd_neg.mpr (t _ p2)
    · rw [n3]; exact Int.dvd_neg.mpr (t _ p3)
