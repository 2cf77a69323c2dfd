section
/-- an Int as an int of the machine -/
def gz_i (z : Int) : Int32 := Int32.ofInt z
theorem gz_add (a b : Int) : gz_i a + gz_i b = gz_i (a + b) := (Int32.ofInt_add a b).symm
theorem gz_sub (a b : Int) : gz_i a - gz_i b = gz_i (a - b) := (Int32.ofInt_sub a b).symm
theorem gz_mul (a b : Int) : gz_i a * gz_i b = gz_i (a * b) := (Int32.ofInt_mul a b).symm
theorem gz_neg (a : Int) : -gz_i a = gz_i (-a) := (Int32.ofInt_neg a).symm
theorem gz_t {z : Int} (h : -2147483648 ≤ z ∧ z < 2147483648) : (gz_i z).toInt = z :=
  Int32.toInt_ofInt_of_le (by omega) (by omega)
theorem gz_of (x : Int32) : ∃ z : Int, (-2147483648 ≤ z ∧ z < 2147483648) ∧ x = gz_i z :=
  ⟨x.toInt, ⟨by have := Int32.le_toInt x; omega, by have := Int32.toInt_lt x; omega⟩, (Int32.ofInt_toInt x).symm⟩
theorem gz_le {a b : Int} (ha : -2147483648 ≤ a ∧ a < 2147483648) (hb : -2147483648 ≤ b ∧ b < 2147483648) : gz_i a ≤ gz_i b ↔ a ≤ b := by
  rw [Int32.le_iff_toInt_le, gz_t ha, gz_t hb]
theorem gz_lt {a b : Int} (ha : -2147483648 ≤ a ∧ a < 2147483648) (hb : -2147483648 ≤ b ∧ b < 2147483648) : gz_i a < gz_i b ↔ a < b := by
  rw [Int32.lt_iff_toInt_lt, gz_t ha, gz_t hb]
theorem gz_eq {a b : Int} (ha : -2147483648 ≤ a ∧ a < 2147483648) (hb : -2147483648 ≤ b ∧ b < 2147483648) : gz_i a = gz_i b ↔ a = b := by
  rw [← Int32.toInt_inj, gz_t ha, gz_t hb]
theorem gz_0 : gz_i 0 = 0 := by decide
theorem gz_1 : gz_i 1 = 1 := by decide
theorem gz_m1 : gz_i (-1) = -1 := by decide
theorem gz_p1 (y : Int) : gz_i y + 1 = gz_i (y + 1) := by
  rw [← gz_1, gz_add]
theorem gz_d1 (y : Int) : gz_i y + (-1) = gz_i (y - 1) := by
  rw [← gz_m1, gz_add]
  exact congrArg gz_i (Int.sub_eq_add_neg).symm
/-- the printed remainder is 0 just where the divisor divides -/
theorem gz_rem {e m : Int} (he : -2147483647 ≤ e ∧ e < 2147483648) (hm : -2147483648 ≤ m ∧ m < 2147483648) :
    gz_i e - gz_i e / gz_i m * gz_i m = 0 ↔ m ∣ e := by
  have h1 : gz_i e / gz_i m = gz_i (e.tdiv m) :=
    (Int32.ofInt_tdiv (a := e) (b := m) (by rw [Int32.toInt_minValue]; omega) (by rw [Int32.toInt_maxValue]; omega) (by rw [Int32.toInt_minValue]; omega) (by rw [Int32.toInt_maxValue]; omega)).symm
  have h2 : e - e.tdiv m * m = e.tmod m := by rw [Int.tmod_def, Int.mul_comm]
  rw [h1, gz_mul, gz_sub, h2, ← gz_0]
  have h3 : (e.tmod m).natAbs ≤ e.natAbs := by rw [Int.natAbs_tmod]; exact Nat.mod_le _ _
  rw [gz_eq (by omega) (by omega)]
  exact Int.dvd_iff_tmod_eq_zero.symm
/-- branches over machine numbers, by the numbers that they stand for -/
theorem gz_blt {x y : Int32} {A B : Prop} (a b : Int) (f : a < b → A) (g : b ≤ a → B) (hx : x = gz_i a := by first | rfl | decide) (hy : y = gz_i b := by first | rfl | decide)
    (ha : -2147483648 ≤ a ∧ a < 2147483648 := by omega) (hb : -2147483648 ≤ b ∧ b < 2147483648 := by omega) : (x < y → A) ∧ (¬ x < y → B) := by
  rw [hx, hy, gz_lt ha hb]
  exact ⟨f, fun h => g (by omega)⟩
theorem gz_ble {x y : Int32} {A B : Prop} (a b : Int) (f : a ≤ b → A) (g : b < a → B) (hx : x = gz_i a := by first | rfl | decide) (hy : y = gz_i b := by first | rfl | decide)
    (ha : -2147483648 ≤ a ∧ a < 2147483648 := by omega) (hb : -2147483648 ≤ b ∧ b < 2147483648 := by omega) : (x ≤ y → A) ∧ (¬ x ≤ y → B) := by
  rw [hx, hy, gz_le ha hb]
  exact ⟨f, fun h => g (by omega)⟩
theorem gz_beq {x y : Int32} {A B : Prop} (a b : Int) (f : a = b → A) (g : a ≠ b → B) (hx : x = gz_i a := by first | rfl | decide) (hy : y = gz_i b := by first | rfl | decide)
    (ha : -2147483648 ≤ a ∧ a < 2147483648 := by omega) (hb : -2147483648 ≤ b ∧ b < 2147483648 := by omega) : (x = y → A) ∧ (¬ x = y → B) := by
  rw [hx, hy, gz_eq ha hb]
  exact ⟨f, g⟩
/-- a loop whose counter rises, one whose counter falls -/
theorem gz_up {σ : Type} (W : Nat → Int32 → σ → Prop) (I : Int → σ → Prop) (lo hi : Int)
    (hx : ∀ n s, I (hi + 1) s → W (n + 1) (gz_i (hi + 1)) s)
    (hs : ∀ n y s, lo ≤ y → y ≤ hi → I y s → (∀ s', I (y + 1) s' → W n (gz_i (y + 1)) s') → W (n + 1) (gz_i y) s) :
    ∀ (m : Nat) (y : Int) (s : σ), y + m = hi + 1 → lo ≤ y → I y s → W (m + 1) (gz_i y) s := by
  intro m
  induction m with
  | zero =>
    intro y s hy _ hI
    have e : y = hi + 1 := by omega
    subst e
    exact hx 0 s hI
  | succ m ih =>
    intro y s hy hl hI
    exact hs (m + 1) y s hl (by omega) hI (fun s' h' => ih (y + 1) s' (by omega) (by omega) h')
theorem gz_dn {σ : Type} (W : Nat → Int32 → σ → Prop) (I : Int → σ → Prop) (lo hi : Int)
    (hx : ∀ n s, I (lo - 1) s → W (n + 1) (gz_i (lo - 1)) s)
    (hs : ∀ n y s, lo ≤ y → y ≤ hi → I y s → (∀ s', I (y - 1) s' → W n (gz_i (y - 1)) s') → W (n + 1) (gz_i y) s) :
    ∀ (m : Nat) (y : Int) (s : σ), y - m = lo - 1 → y ≤ hi → I y s → W (m + 1) (gz_i y) s := by
  intro m
  induction m with
  | zero =>
    intro y s hy _ hI
    have e : y = lo - 1 := by omega
    subst e
    exact hx 0 s hI
  | succ m ih =>
    intro y s hy hl hI
    exact hs (m + 1) y s (by omega) hl hI (fun s' h' => ih (y - 1) s' (by omega) (by omega) h')
theorem gz_least (P : Nat → Prop) (h : ∃ k, P k) : ∃ k, P k ∧ ∀ j, j < k → ¬ P j := by
  obtain ⟨k, hk⟩ := h
  induction k using Nat.strongRecOn with
  | ind k ih =>
    by_cases e : ∃ j, j < k ∧ P j
    · obtain ⟨j, hj, pj⟩ := e
      exact ih j hj pj
    · exact ⟨k, hk, fun j hj pj => e ⟨j, hj, pj⟩⟩
end
section
theorem gz_mb {x y : Int} (A B : Nat) (hx : -(A : Int) ≤ x ∧ x ≤ A) (hy : -(B : Int) ≤ y ∧ y ≤ B) :
    -((A * B : Nat) : Int) ≤ x * y ∧ x * y ≤ ((A * B : Nat) : Int) := by
  have h1 : x.natAbs ≤ A := by omega
  have h2 : y.natAbs ≤ B := by omega
  have h3 : (x * y).natAbs ≤ A * B := by rw [Int.natAbs_mul]; exact Nat.mul_le_mul h1 h2
  generalize x * y = z at h3 ⊢
  generalize A * B = m at h3 ⊢
  omega
theorem gz_s0 (x : Int) : 0 ≤ x * x := by
  have e := Int.natAbs_mul_self (a := x)
  rw [← e]
  exact Int.natCast_nonneg _
theorem gz_sl {x : Int} (k : Nat) (h : x ≤ -(k : Int) ∨ (k : Int) ≤ x) : ((k * k : Nat) : Int) ≤ x * x := by
  have e := Int.natAbs_mul_self (a := x)
  rw [← e]
  exact Int.ofNat_le.mpr (Nat.mul_le_mul (by omega) (by omega))
theorem gz_su {x : Int} (k : Nat) (h : -(k : Int) ≤ x ∧ x ≤ k) : x * x ≤ ((k * k : Nat) : Int) := (gz_mb k k h h).2
/-- the steps that may be held; the points that they reach -/
def gz_st (a b c d : Int) : Prop :=
  (-30 ≤ a ∧ a ≤ 30) ∧ (-30 ≤ b ∧ b ≤ 30) ∧ (-30 ≤ c ∧ c ≤ 30) ∧ (-30 ≤ d ∧ d ≤ 30) ∧ a * d - b * c ≠ 0
def gz_g (a b c d x y : Int) : Prop := (a * d - b * c) ∣ (x * d - y * c) ∧ (a * d - b * c) ∣ (a * y - b * x)
theorem gz_gab (a b c d : Int) : gz_g a b c d a b := ⟨⟨1, by grind⟩, ⟨0, by grind⟩⟩
theorem gz_gcd (a b c d : Int) : gz_g a b c d c d := ⟨⟨0, by grind⟩, ⟨1, by grind⟩⟩
theorem gz_gij (a b c d i j : Int) : gz_g a b c d (i * a + j * c) (i * b + j * d) := ⟨⟨i, by grind⟩, ⟨j, by grind⟩⟩
theorem gz_ne {a b c d : Int} (h : gz_st a b c d) : a ≠ 0 ∨ b ≠ 0 := by
  have h5 := h.2.2.2.2
  by_cases ha : a = 0
  · by_cases hb : b = 0
    · subst ha hb
      exact absurd (by grind) h5
    · exact Or.inr hb
  · exact Or.inl ha
theorem gz_bal (e m : Int) (hm : m ≠ 0) : ∃ j : Int, (2 * (e - j * m)) * (2 * (e - j * m)) ≤ m * m := by
  have key : ∀ k : Int, 0 < k → ∃ j : Int, -k ≤ 2 * (e - j * k) ∧ 2 * (e - j * k) ≤ k := by
    intro k hk
    have h1 := Int.emod_add_mul_ediv (2 * e + k) (2 * k)
    have h2 := Int.emod_nonneg (2 * e + k) (b := 2 * k) (by omega)
    have h3 := Int.emod_lt_of_pos (2 * e + k) (b := 2 * k) (by omega)
    refine ⟨(2 * e + k) / (2 * k), ?_⟩
    generalize (2 * e + k) / (2 * k) = j at h1 ⊢
    generalize (2 * e + k) % (2 * k) = r at h1 h2 h3
    have h4 : 2 * k * j = 2 * (j * k) := by grind
    rw [h4] at h1
    generalize j * k = t at h1 ⊢
    omega
  have h : ∃ j : Int, (2 * (e - j * m)).natAbs ≤ m.natAbs := by
    by_cases hp : 0 < m
    · obtain ⟨j, hj⟩ := key m hp
      exact ⟨j, by omega⟩
    · obtain ⟨j, hj⟩ := key (-m) (by omega)
      refine ⟨-j, ?_⟩
      have e1 : -j * m = j * -m := by grind
      rw [e1]
      omega
  obtain ⟨j, hj⟩ := h
  refine ⟨j, ?_⟩
  have e1 := Int.natAbs_mul_self (a := 2 * (e - j * m))
  have e2 := Int.natAbs_mul_self (a := m)
  rw [← e1, ← e2]
  exact Int.ofNat_le.mpr (Nat.mul_le_mul hj hj)
theorem gz_pos {a b : Int} (h : a ≠ 0 ∨ b ≠ 0) : 0 < a * a + b * b := by
  have ha := gz_s0 a
  have hb := gz_s0 b
  rcases h with h | h
  · have := gz_sl (x := a) 1 (by omega)
    omega
  · have := gz_sl (x := b) 1 (by omega)
    omega
theorem gz_lag (a b r s : Int) : (a * a + b * b) * (r * r + s * s) = (a * r + b * s) * (a * r + b * s) + (a * s - b * r) * (a * s - b * r) := by grind
theorem gz_cov1 {p q t x y z y' : Int} (hp : 0 < p) (h1 : p * t = x + y) (h2 : p * q = z + y') (h3 : 0 ≤ z) (hx : 4 * x ≤ p * p) (hy : 4 * y ≤ y') : 4 * t ≤ p + q := by
  refine Int.le_of_mul_le_mul_left (a := p) ?_ hp
  have e1 : p * (4 * t) = 4 * (p * t) := by grind
  have e2 : p * (p + q) = p * p + p * q := by grind
  rw [e1, e2, h1, h2]
  omega
/-- no place is farther from the grid than 30 -/
theorem gz_cover {a b c d : Int} (hs : gz_st a b c d) (x y : Int) :
    ∃ u v : Int, gz_g a b c d u v ∧ (u - x) * (u - x) + (v - y) * (v - y) ≤ 900 := by
  have hp := gz_pos (gz_ne hs)
  obtain ⟨ha, hb, hc, hd, hD⟩ := hs
  obtain ⟨j, hj⟩ := gz_bal (a * y - b * x) (a * d - b * c) hD
  obtain ⟨i, hi⟩ := gz_bal (a * (x - j * c) + b * (y - j * d)) (a * a + b * b) (by omega)
  refine ⟨i * a + j * c, i * b + j * d, gz_gij a b c d i j, ?_⟩
  have e1 : (a * (x - j * c) + b * (y - j * d)) - i * (a * a + b * b) = -(a * (i * a + j * c - x) + b * (i * b + j * d - y)) := by grind
  have e2 : (a * y - b * x) - j * (a * d - b * c) = -(a * (i * b + j * d - y) - b * (i * a + j * c - x)) := by grind
  rw [e1] at hi
  rw [e2] at hj
  generalize i * a + j * c - x = r at hi hj ⊢
  generalize i * b + j * d - y = s at hi hj ⊢
  have hi' : 4 * ((a * r + b * s) * (a * r + b * s)) ≤ (a * a + b * b) * (a * a + b * b) := by
    have e : 2 * -(a * r + b * s) * (2 * -(a * r + b * s)) = 4 * ((a * r + b * s) * (a * r + b * s)) := by grind
    rw [e] at hi
    exact hi
  have hj' : 4 * ((a * s - b * r) * (a * s - b * r)) ≤ (a * d - b * c) * (a * d - b * c) := by
    have e : 2 * -(a * s - b * r) * (2 * -(a * s - b * r)) = 4 * ((a * s - b * r) * (a * s - b * r)) := by grind
    rw [e] at hj
    exact hj
  have h := gz_cov1 hp (gz_lag a b r s) (gz_lag a b c d) (gz_s0 _) hi' hj'
  have h1 := gz_su (x := a) 30 (by omega)
  have h2 := gz_su (x := b) 30 (by omega)
  have h3 := gz_su (x := c) 30 (by omega)
  have h4 := gz_su (x := d) 30 (by omega)
  omega
/-- two pairs of steps, each inside the other's grid: the same area -/
theorem gz_dvd {D E p q r s : Int} (hD : D ≠ 0) (h : D * E = p * s - q * r) (hp : D ∣ p) (hq : D ∣ q) (hr : D ∣ r) (hs : D ∣ s) : D ∣ E := by
  obtain ⟨p', rfl⟩ := hp
  obtain ⟨q', rfl⟩ := hq
  obtain ⟨r', rfl⟩ := hr
  obtain ⟨s', rfl⟩ := hs
  refine ⟨p' * s' - q' * r', ?_⟩
  refine Int.eq_of_mul_eq_mul_left hD ?_
  rw [h]
  grind
theorem gz_same {a b c d e f g h : Int} (h1 : a * d - b * c ≠ 0) (h2 : e * h - f * g ≠ 0) :
    (gz_g a b c d e f ∧ gz_g a b c d g h) ∧ (gz_g e f g h a b ∧ gz_g e f g h c d) ↔
    (e * h - f * g = a * d - b * c ∨ e * h - f * g = -(a * d - b * c)) ∧ gz_g a b c d e f ∧ gz_g a b c d g h := by
  have n2 : e * b - f * a = -(a * f - b * e) := by grind
  have n3 : c * h - d * g = -(g * d - h * c) := by grind
  constructor
  · rintro ⟨⟨⟨p1, p2⟩, ⟨p3, p4⟩⟩, ⟨⟨q1, q2⟩, ⟨q3, q4⟩⟩⟩
    refine ⟨?_, ⟨p1, p2⟩, ⟨p3, p4⟩⟩
    have d1 : (a * d - b * c) ∣ (e * h - f * g) := gz_dvd (p := e * d - f * c) (q := a * f - b * e) (r := g * d - h * c) (s := a * h - b * g) h1 (by grind) p1 p2 p3 p4
    have d2 : (e * h - f * g) ∣ (a * d - b * c) := gz_dvd (p := a * h - b * g) (q := e * b - f * a) (r := c * h - d * g) (s := e * d - f * c) h2 (by grind) q1 q2 q3 q4
    have hn := Nat.dvd_antisymm (Int.natAbs_dvd_natAbs.mpr d2) (Int.natAbs_dvd_natAbs.mpr d1)
    exact Int.natAbs_eq_natAbs_iff.mp hn
  · rintro ⟨hE, ⟨p1, p2⟩, ⟨p3, p4⟩⟩
    refine ⟨⟨⟨p1, p2⟩, ⟨p3, p4⟩⟩, ?_⟩
    have t : ∀ z : Int, (a * d - b * c) ∣ z → (e * h - f * g) ∣ z := by
      intro z hz
      rcases hE with hE | hE
      · rw [hE]; exact hz
      · rw [hE]; exact Int.neg_dvd.mpr hz
    refine ⟨⟨t _ p4, ?_⟩, ⟨?_, t _ p1⟩⟩
    · rw [n2]; exact Int.dvd_neg.mpr (t _ p2)
    · rw [n3]; exact Int.dvd_neg.mpr (t _ p3)
end
section
/-- of all pairs in a small set: one with the least f, of several the least x, of those the least y -/
theorem gz_first (S : Int → Int → Prop) (f : Int → Int → Int)
    (hS : ∀ x y, S x y → (-43 ≤ x ∧ x ≤ 43) ∧ (-43 ≤ y ∧ y ≤ 43) ∧ 0 ≤ f x y) (h : ∃ x y, S x y) :
    ∃ x y, S x y ∧ ∀ x' y', S x' y' → f x y < f x' y' ∨ (f x y = f x' y' ∧ (x < x' ∨ (x = x' ∧ y ≤ y'))) := by
  obtain ⟨k, ⟨x, y, hxy, hk⟩, hm⟩ := gz_least (fun k : Nat => ∃ x y, S x y ∧ (k : Int) = f x y * 10000 + (x + 50) * 100 + (y + 50)) (by
    obtain ⟨x, y, hxy⟩ := h
    have := hS x y hxy
    exact ⟨(f x y * 10000 + (x + 50) * 100 + (y + 50)).toNat, x, y, hxy, by omega⟩)
  refine ⟨x, y, hxy, fun x' y' h' => ?_⟩
  have b := hS x y hxy
  have b' := hS x' y' h'
  have hle : (k : Int) ≤ f x' y' * 10000 + (x' + 50) * 100 + (y' + 50) := by
    apply Int.not_lt.mp
    intro hlt
    exact hm (f x' y' * 10000 + (x' + 50) * 100 + (y' + 50)).toNat (by omega) ⟨x', y', h', by omega⟩
  generalize f x y = p at hk b ⊢
  generalize f x' y' = q at hle b' ⊢
  omega
/-- the size of a point -/
def gz_n (x y : Int) : Int := x * x + y * y
theorem gz_n0 (x y : Int) : 0 ≤ gz_n x y := by
  have h1 := gz_s0 x
  have h2 := gz_s0 y
  unfold gz_n
  omega
theorem gz_nlo {x y : Int} (k : Nat) (h : ¬ ((-(k : Int) ≤ x ∧ x ≤ k) ∧ (-(k : Int) ≤ y ∧ y ≤ k))) : (((k + 1) * (k + 1) : Nat) : Int) ≤ gz_n x y := by
  have h1 := gz_s0 x
  have h2 := gz_s0 y
  unfold gz_n
  by_cases hx : -(k : Int) ≤ x ∧ x ≤ k
  · have h3 := gz_sl (x := y) (k + 1) (by omega)
    generalize (k + 1) * (k + 1) = m at h3 ⊢
    omega
  · have h3 := gz_sl (x := x) (k + 1) (by omega)
    generalize (k + 1) * (k + 1) = m at h3 ⊢
    omega
theorem gz_nup {x y : Int} (k : Nat) (h : (-(k : Int) ≤ x ∧ x ≤ k) ∧ (-(k : Int) ≤ y ∧ y ≤ k)) : gz_n x y ≤ ((2 * (k * k) : Nat) : Int) := by
  have h1 := gz_su (x := x) k h.1
  have h2 := gz_su (x := y) k h.2
  unfold gz_n
  generalize k * k = m at h1 h2 ⊢
  omega
theorem gz_npos {x y : Int} (h : x ≠ 0 ∨ y ≠ 0) : 0 < gz_n x y := gz_pos h
theorem gz_nz {x y : Int} (h : 0 < gz_n x y) : x ≠ 0 ∨ y ≠ 0 := by
  by_cases hx : x = 0
  · by_cases hy : y = 0
    · subst hx hy
      exact absurd h (by decide)
    · exact Or.inr hy
  · exact Or.inl hx
/-- (s, t) is the shortest point with the greatest x, of several the greatest y -/
def gz_T (a b c d s t : Int) : Prop :=
  ((-42 ≤ s ∧ s ≤ 42) ∧ (-42 ≤ t ∧ t ≤ 42)) ∧ (s ≠ 0 ∨ t ≠ 0) ∧ gz_g a b c d s t ∧ gz_n s t ≤ 1800 ∧
  ∀ x y, (x ≠ 0 ∨ y ≠ 0) → gz_g a b c d x y → gz_n s t < gz_n x y ∨ (gz_n s t = gz_n x y ∧ (x < s ∨ (x = s ∧ y ≤ t)))
theorem gz_Tex {a b c d : Int} (hs : gz_st a b c d) : ∃ s t, gz_T a b c d s t := by
  have hab : gz_n a b ≤ 1800 := gz_nup 30 ⟨hs.1, hs.2.1⟩
  have h1 := hs.1
  have h2 := hs.2.1
  have h0 := gz_ne hs
  obtain ⟨s, t, ⟨hbox, hne, hg⟩, hmin⟩ := gz_first
    (fun x y => ((-42 ≤ -x ∧ -x ≤ 42) ∧ (-42 ≤ -y ∧ -y ≤ 42)) ∧ (-x ≠ 0 ∨ -y ≠ 0) ∧ gz_g a b c d (-x) (-y)) (fun x y => gz_n (-x) (-y))
    (fun x y h => ⟨by have := h.1; omega, by have := h.1; omega, gz_n0 _ _⟩)
    ⟨-a, -b, ⟨by omega, by omega⟩, by omega, by rw [Int.neg_neg, Int.neg_neg]; exact gz_gab a b c d⟩
  have hm : ∀ x y, ((-42 ≤ x ∧ x ≤ 42) ∧ (-42 ≤ y ∧ y ≤ 42)) → (x ≠ 0 ∨ y ≠ 0) → gz_g a b c d x y →
      gz_n (-s) (-t) < gz_n x y ∨ (gz_n (-s) (-t) = gz_n x y ∧ (x < -s ∨ (x = -s ∧ y ≤ -t))) := by
    intro x y k1 k2 k3
    have h := hmin (-x) (-y) ⟨⟨by omega, by omega⟩, by omega, by rw [Int.neg_neg, Int.neg_neg]; exact k3⟩
    rw [Int.neg_neg, Int.neg_neg] at h
    omega
  have hle : gz_n (-s) (-t) ≤ gz_n a b := by
    have := hm a b ⟨by omega, by omega⟩ h0 (gz_gab a b c d)
    omega
  refine ⟨-s, -t, hbox, hne, hg, by omega, ?_⟩
  intro x y hxy hgxy
  by_cases hb : (-42 ≤ x ∧ x ≤ 42) ∧ (-42 ≤ y ∧ y ≤ 42)
  · exact hm x y hb hxy hgxy
  · have := gz_nlo (x := x) (y := y) 42 hb
    exact Or.inl (by omega)
/-- m is the least size beside the line of (s, t) -/
def gz_M (a b c d s t m : Int) : Prop :=
  (∃ x y, ((-42 ≤ x ∧ x ≤ 42) ∧ (-42 ≤ y ∧ y ≤ 42)) ∧ s * y - t * x ≠ 0 ∧ gz_g a b c d x y ∧ gz_n x y = m) ∧ m ≤ 1800 ∧
  ∀ x y, s * y - t * x ≠ 0 → gz_g a b c d x y → m ≤ gz_n x y
theorem gz_Mex {a b c d s t : Int} (hs : gz_st a b c d) (hT : gz_T a b c d s t) : ∃ m, gz_M a b c d s t m := by
  have hab : gz_n a b ≤ 1800 := gz_nup 30 ⟨hs.1, hs.2.1⟩
  have hcd : gz_n c d ≤ 1800 := gz_nup 30 ⟨hs.2.2.1, hs.2.2.2.1⟩
  have h1 := hs.1
  have h2 := hs.2.1
  have h3 := hs.2.2.1
  have h4 := hs.2.2.2.1
  have hD := hs.2.2.2.2
  have hoff : ∃ x y, ((-42 ≤ x ∧ x ≤ 42) ∧ (-42 ≤ y ∧ y ≤ 42)) ∧ s * y - t * x ≠ 0 ∧ gz_g a b c d x y ∧ gz_n x y ≤ 1800 := by
    by_cases e1 : s * b - t * a = 0
    · by_cases e2 : s * d - t * c = 0
      · exfalso
        have z1 : (a * d - b * c) * s = a * (s * d - t * c) - c * (s * b - t * a) := by grind
        have z2 : (a * d - b * c) * t = b * (s * d - t * c) - d * (s * b - t * a) := by grind
        rw [e1, e2, Int.mul_zero, Int.mul_zero, Int.sub_zero] at z1 z2
        rcases hT.2.1 with h | h
        · rcases Int.mul_eq_zero.mp z1 with z | z
          · exact hD z
          · exact h z
        · rcases Int.mul_eq_zero.mp z2 with z | z
          · exact hD z
          · exact h z
      · exact ⟨c, d, ⟨by omega, by omega⟩, e2, gz_gcd a b c d, hcd⟩
    · exact ⟨a, b, ⟨by omega, by omega⟩, e1, gz_gab a b c d, hab⟩
  obtain ⟨x0, y0, hb0, ho0, hg0, hn0⟩ := hoff
  obtain ⟨x, y, ⟨hb, ho, hg⟩, hmin⟩ := gz_first
    (fun x y => ((-42 ≤ x ∧ x ≤ 42) ∧ (-42 ≤ y ∧ y ≤ 42)) ∧ s * y - t * x ≠ 0 ∧ gz_g a b c d x y) gz_n
    (fun x y h => ⟨by have := h.1; omega, by have := h.1; omega, gz_n0 _ _⟩) ⟨x0, y0, hb0, ho0, hg0⟩
  have hle : gz_n x y ≤ 1800 := by
    have := hmin x0 y0 ⟨hb0, ho0, hg0⟩
    omega
  refine ⟨gz_n x y, ⟨x, y, hb, ho, hg, rfl⟩, hle, ?_⟩
  intro x' y' ho' hg'
  by_cases hb' : (-42 ≤ x' ∧ x' ≤ 42) ∧ (-42 ≤ y' ∧ y' ≤ 42)
  · have := hmin x' y' ⟨hb', ho', hg'⟩
    omega
  · have := gz_nlo (x := x') (y := y') 42 hb'
    omega
/-- (x + r, y + s) is the point nearest to (x, y), of several the first by x, then by y -/
def gz_N (a b c d x y r s : Int) : Prop :=
  ((-30 ≤ r ∧ r ≤ 30) ∧ (-30 ≤ s ∧ s ≤ 30)) ∧ gz_g a b c d (x + r) (y + s) ∧ gz_n r s ≤ 900 ∧
  ∀ r' s', gz_g a b c d (x + r') (y + s') → gz_n r s < gz_n r' s' ∨ (gz_n r s = gz_n r' s' ∧ (r < r' ∨ (r = r' ∧ s ≤ s')))
theorem gz_Nex {a b c d : Int} (hs : gz_st a b c d) (x y : Int) : ∃ r s, gz_N a b c d x y r s := by
  obtain ⟨u, v, hg0, hn0⟩ := gz_cover hs x y
  have hn0' : gz_n (u - x) (v - y) ≤ 900 := hn0
  have hb0 : (-30 ≤ u - x ∧ u - x ≤ 30) ∧ (-30 ≤ v - y ∧ v - y ≤ 30) := by
    by_cases hb : (-30 ≤ u - x ∧ u - x ≤ 30) ∧ (-30 ≤ v - y ∧ v - y ≤ 30)
    · exact hb
    · have := gz_nlo (x := u - x) (y := v - y) 30 hb
      omega
  have e1 : x + (u - x) = u := by omega
  have e2 : y + (v - y) = v := by omega
  have hg0' : gz_g a b c d (x + (u - x)) (y + (v - y)) := by rw [e1, e2]; exact hg0
  obtain ⟨r, s, ⟨hb, hg⟩, hmin⟩ := gz_first
    (fun r s => ((-30 ≤ r ∧ r ≤ 30) ∧ (-30 ≤ s ∧ s ≤ 30)) ∧ gz_g a b c d (x + r) (y + s)) gz_n
    (fun x y h => ⟨by have := h.1; omega, by have := h.1; omega, gz_n0 _ _⟩) ⟨u - x, v - y, hb0, hg0'⟩
  have hle : gz_n r s ≤ 900 := by
    have := hmin (u - x) (v - y) ⟨hb0, hg0'⟩
    omega
  refine ⟨r, s, hb, hg, hle, ?_⟩
  intro r' s' hg'
  by_cases hb' : (-30 ≤ r' ∧ r' ≤ 30) ∧ (-30 ≤ s' ∧ s' ≤ 30)
  · exact hmin r' s' ⟨hb', hg'⟩
  · have := gz_nlo (x := r') (y := s') 30 hb'
    exact Or.inl (by omega)
end
section
/-- in a walk by rising x, then rising y, that has come to (x, y): (p, q) is behind it -/
def gz_P (p q x y : Int) : Prop := p < x ∨ (p = x ∧ q < y)
theorem gz_Prow {p q x lo hi : Int} (h : lo ≤ q ∧ q ≤ hi) : gz_P p q x (hi + 1) ↔ gz_P p q (x + 1) lo := by
  unfold gz_P
  omega
/-- the walk that keeps the first of the least: what it holds when it has come to (x, y) -/
def gz_F {τ : Type} (m p q : Int) (w : τ) (x y L : Int) (z : τ) : Prop := (gz_P p q x y → L = m ∧ z = w) ∧ (¬ gz_P p q x y → m < L)
theorem gz_F0 {τ : Type} {m p q : Int} {w z : τ} {lo lo' L : Int} (h : lo ≤ p) (hq : lo' ≤ q) (hL : m < L) : gz_F m p q w lo lo' L z :=
  ⟨fun hp => absurd hp (by unfold gz_P; omega), fun _ => hL⟩
theorem gz_Fend {τ : Type} {m p q : Int} {w z : τ} {lo hi L : Int} (h : p ≤ hi) (hF : gz_F m p q w (hi + 1) lo L z) : L = m ∧ z = w :=
  hF.1 (by unfold gz_P; omega)
theorem gz_Frow {τ : Type} {m p q : Int} {w z : τ} {x lo hi L : Int} (h : lo ≤ q ∧ q ≤ hi) (hF : gz_F m p q w x (hi + 1) L z) : gz_F m p q w (x + 1) lo L z :=
  ⟨fun hp => hF.1 ((gz_Prow h).mpr hp), fun hp => hF.2 (fun k => hp ((gz_Prow h).mp k))⟩
theorem gz_Fhit {τ : Type} {m p q : Int} {w z v : τ} {x y L k : Int} (hF : gz_F m p q w x y L z) (hk : k < L)
    (hmin : m < k ∨ (m = k ∧ (p < x ∨ (p = x ∧ q ≤ y)))) (hv : p = x → q = y → k = m ∧ v = w) : gz_F m p q w x (y + 1) k v := by
  unfold gz_F at hF ⊢
  by_cases hP : gz_P p q x y
  · have := (hF.1 hP).1
    exfalso
    omega
  · by_cases e : p = x ∧ q = y
    · exact ⟨fun _ => hv e.1 e.2, fun h => (h (Or.inr ⟨e.1, by omega⟩)).elim⟩
    · have hn : ¬ gz_P p q x (y + 1) := by
        unfold gz_P at hP ⊢
        omega
      refine ⟨fun h => absurd h hn, fun _ => ?_⟩
      unfold gz_P at hP
      omega
theorem gz_Fmiss {τ : Type} {m p q : Int} {w z : τ} {x y L : Int} (hF : gz_F m p q w x y L z) (hv : p = x → q = y → ¬ m < L) : gz_F m p q w x (y + 1) L z := by
  unfold gz_F at hF ⊢
  by_cases hP : gz_P p q x y
  · have hP' : gz_P p q x (y + 1) := by
      unfold gz_P at hP ⊢
      omega
    exact ⟨fun _ => hF.1 hP, fun h => absurd hP' h⟩
  · have hn : ¬ gz_P p q x (y + 1) := by
      intro h
      have e : p = x ∧ q = y := by
        unfold gz_P at hP h
        omega
      exact hv e.1 e.2 (hF.2 hP)
    exact ⟨fun h => absurd h hn, fun _ => hF.2 hP⟩
/-- the same by falling x, then falling y -/
theorem gz_Fneg {τ : Type} {m p q : Int} {w z v : τ} {x y L k : Int} (hF : gz_F m (-p) (-q) w (-x) (-y) L z) (hk : k < L)
    (hmin : m < k ∨ (m = k ∧ (x < p ∨ (x = p ∧ y ≤ q)))) (hv : p = x → q = y → k = m ∧ v = w) : gz_F m (-p) (-q) w (-x) (-(y - 1)) k v := by
  have e : -(y - 1) = -y + 1 := by omega
  rw [e]
  exact gz_Fhit hF hk (by omega) (fun h1 h2 => hv (by omega) (by omega))
theorem gz_FnegM {τ : Type} {m p q : Int} {w z : τ} {x y L : Int} (hF : gz_F m (-p) (-q) w (-x) (-y) L z) (hv : p = x → q = y → ¬ m < L) : gz_F m (-p) (-q) w (-x) (-(y - 1)) L z := by
  have e : -(y - 1) = -y + 1 := by omega
  rw [e]
  exact gz_Fmiss hF (fun h1 h2 => hv (by omega) (by omega))
/-- the walk that keeps a least size alone -/
def gz_L (m p q x y L : Int) : Prop := m ≤ L ∧ (gz_P p q x y → L = m)
theorem gz_L0 {m p q lo lo' L : Int} (h : lo ≤ p) (hq : lo' ≤ q) (hL : m ≤ L) : gz_L m p q lo lo' L :=
  ⟨hL, fun hp => absurd hp (by unfold gz_P; omega)⟩
theorem gz_Lend {m p q lo hi L : Int} (h : p ≤ hi) (hF : gz_L m p q (hi + 1) lo L) : L = m :=
  hF.2 (by unfold gz_P; omega)
theorem gz_Lrow {m p q x lo hi L : Int} (h : lo ≤ q ∧ q ≤ hi) (hF : gz_L m p q x (hi + 1) L) : gz_L m p q (x + 1) lo L :=
  ⟨hF.1, fun hp => hF.2 ((gz_Prow h).mpr hp)⟩
theorem gz_Pnx {p q x y : Int} (h : gz_P p q x (y + 1)) : gz_P p q x y ∨ (p = x ∧ q = y) := by
  unfold gz_P at h ⊢
  omega
theorem gz_Lhit {m p q x y L k : Int} (hF : gz_L m p q x y L) (hk : k < L) (hmin : m ≤ k) (hv : p = x → q = y → k = m) : gz_L m p q x (y + 1) k := by
  refine ⟨hmin, fun hp => ?_⟩
  rcases gz_Pnx hp with h | h
  · have := hF.2 h
    omega
  · exact hv h.1 h.2
theorem gz_Lmiss {m p q x y L : Int} (hF : gz_L m p q x y L) (hv : p = x → q = y → ¬ m < L) : gz_L m p q x (y + 1) L := by
  refine ⟨hF.1, fun hp => ?_⟩
  rcases gz_Pnx hp with h | h
  · exact hF.2 h
  · have h1 := hv h.1 h.2
    have h2 := hF.1
    omega
/-- the walk that keeps the last match -/
def gz_K {τ : Type} (p q : Int) (w : τ) (x y : Int) (z : τ) : Prop := gz_P p q x y → z = w
theorem gz_K0 {τ : Type} {p q lo lo' : Int} {w z : τ} (h : lo ≤ p) (hq : lo' ≤ q) : gz_K p q w lo lo' z :=
  fun hp => absurd hp (by unfold gz_P; omega)
theorem gz_Kend {τ : Type} {p q lo hi : Int} {w z : τ} (h : p ≤ hi) (hF : gz_K p q w (hi + 1) lo z) : z = w :=
  hF (by unfold gz_P; omega)
theorem gz_Krow {τ : Type} {p q x lo hi : Int} {w z : τ} (h : lo ≤ q ∧ q ≤ hi) (hF : gz_K p q w x (hi + 1) z) : gz_K p q w (x + 1) lo z :=
  fun hp => hF ((gz_Prow h).mpr hp)
theorem gz_Khit {τ : Type} {p q x y : Int} {w v : τ} (hl : x < p ∨ (x = p ∧ y ≤ q)) (hv : p = x → q = y → v = w) : gz_K p q w x (y + 1) v := by
  intro hp
  rcases gz_Pnx hp with h | h
  · exfalso
    unfold gz_P at h
    omega
  · exact hv h.1 h.2
theorem gz_Kmiss {τ : Type} {p q x y : Int} {w z : τ} (hF : gz_K p q w x y z) (hv : ¬ (p = x ∧ q = y)) : gz_K p q w x (y + 1) z := by
  intro hp
  rcases gz_Pnx hp with h | h
  · exact hF h
  · exact absurd h hv
/-- counts over a square -/
def gz_sum (f : Int → Int) : Nat → Int → Int
  | 0, _ => 0
  | n + 1, x => f x + gz_sum f n (x + 1)
theorem gz_sum_end (f : Int → Int) : ∀ (n : Nat) (x : Int), gz_sum f (n + 1) x = gz_sum f n x + f (x + n) := by
  intro n
  induction n with
  | zero =>
    intro x
    have e : x + ((0 : Nat) : Int) = x := by omega
    rw [e]
    show f x + 0 = 0 + f x
    omega
  | succ n ih =>
    intro x
    have e : x + ((n + 1 : Nat) : Int) = (x + 1) + n := by omega
    have h := ih (x + 1)
    show f x + gz_sum f (n + 1) (x + 1) = (f x + gz_sum f n (x + 1)) + f (x + ((n + 1 : Nat) : Int))
    rw [e, h]
    omega
theorem gz_sum_cg {f g : Int → Int} : ∀ (n : Nat) (x : Int), (∀ z, x ≤ z → z < x + n → f z = g z) → gz_sum f n x = gz_sum g n x := by
  intro n
  induction n with
  | zero => intro x _; rfl
  | succ n ih =>
    intro x h
    show f x + gz_sum f n (x + 1) = g x + gz_sum g n (x + 1)
    rw [h x (by omega) (by omega), ih (x + 1) (fun z h1 h2 => h z (by omega) (by omega))]
theorem gz_sum_0 {f : Int → Int} (n : Nat) (x : Int) (h : ∀ z, x ≤ z → z < x + n → f z = 0) : gz_sum f n x = 0 := by
  rw [gz_sum_cg (g := fun _ => 0) n x h]
  induction n generalizing x with
  | zero => rfl
  | succ n ih =>
    show 0 + gz_sum (fun _ => 0) n (x + 1) = 0
    rw [ih (x + 1) (fun z h1 h2 => h z (by omega) (by omega))]
    rfl
theorem gz_sum_in {f : Int → Int} (n : Nat) (x : Int) (h1 : f x = 0) (h2 : f (x + 1 + n) = 0) : gz_sum f (n + 2) x = gz_sum f n (x + 1) := by
  show f x + gz_sum f (n + 1) (x + 1) = gz_sum f n (x + 1)
  rw [gz_sum_end, h1, h2]
  omega
/-- what is still to be counted from (x, y) on, in a square from lo with n rows -/
def gz_rest (q : Int → Int → Int) (lo : Int) (n : Nat) (x y : Int) : Int :=
  gz_sum (q x) (lo + n - y).toNat y + gz_sum (fun x' => gz_sum (q x') n lo) (lo + n - (x + 1)).toNat (x + 1)
def gz_tot (q : Int → Int → Int) (lo : Int) (n : Nat) : Int := gz_sum (fun x' => gz_sum (q x') n lo) n lo
theorem gz_rest1 (q : Int → Int → Int) (lo : Int) (n : Nat) {x y : Int} (h : y < lo + n) : gz_rest q lo n x y = q x y + gz_rest q lo n x (y + 1) := by
  unfold gz_rest
  have e1 : (lo + n - y).toNat = (lo + n - (y + 1)).toNat + 1 := by omega
  rw [e1]
  show (q x y + gz_sum (q x) (lo + n - (y + 1)).toNat (y + 1)) + _ = _
  omega
/-- the count still to come at the head of row x: nothing behind the last row -/
def gz_head (q : Int → Int → Int) (lo : Int) (n : Nat) (x : Int) : Int := gz_sum (fun x' => gz_sum (q x') n lo) (lo + n - x).toNat x
theorem gz_head0 (q : Int → Int → Int) (lo : Int) (n : Nat) : gz_head q lo n lo = gz_tot q lo n := by
  unfold gz_head gz_tot
  have e1 : (lo + n - lo).toNat = n := by omega
  rw [e1]
theorem gz_headE (q : Int → Int → Int) (lo : Int) (n : Nat) : gz_head q lo n (lo + n) = 0 := by
  unfold gz_head
  have e1 : (lo + n - (lo + n)).toNat = 0 := by omega
  rw [e1]
  rfl
theorem gz_headI (q : Int → Int → Int) (lo : Int) (n : Nat) {x : Int} (h : x < lo + n) : gz_head q lo n x = gz_rest q lo n x lo := by
  unfold gz_head gz_rest
  have e1 : (lo + n - lo).toNat = n := by omega
  have e3 : (lo + n - x).toNat = (lo + n - (x + 1)).toNat + 1 := by omega
  rw [e1, e3]
  rfl
theorem gz_headO (q : Int → Int → Int) (lo : Int) (n : Nat) (x : Int) : gz_rest q lo n x (lo + n) = gz_head q lo n (x + 1) := by
  unfold gz_head gz_rest
  have e1 : (lo + n - (lo + n)).toNat = 0 := by omega
  rw [e1]
  show 0 + _ = _
  omega
/-- the edge of a wider square counts nothing -/
theorem gz_tot_in (q : Int → Int → Int) (h : ∀ x y, ¬ ((-42 ≤ x ∧ x ≤ 42) ∧ (-42 ≤ y ∧ y ≤ 42)) → q x y = 0) : gz_tot q (-43) 87 = gz_tot q (-42) 85 := by
  unfold gz_tot
  have h1 : gz_sum (fun x' => gz_sum (q x') 87 (-43)) 87 (-43) = gz_sum (fun x' => gz_sum (q x') 85 (-42)) 87 (-43) := by
    refine gz_sum_cg _ _ (fun z _ _ => ?_)
    exact gz_sum_in 85 (-43) (h _ _ (by omega)) (h _ _ (by omega))
  rw [h1]
  exact gz_sum_in 85 (-43) (gz_sum_0 _ _ (fun z _ _ => h _ _ (by omega))) (gz_sum_0 _ _ (fun z _ _ => h _ _ (by omega)))
theorem gz_ind (C : Int → Int → Prop) : ∃ q : Int → Int → Int, ∀ x y, (C x y → q x y = 1) ∧ (¬ C x y → q x y = 0) := by
  refine ⟨fun x y => @ite _ (C x y) (Classical.propDecidable _) 1 0, fun x y => ⟨fun h => ?_, fun h => ?_⟩⟩
  · exact if_pos h
  · exact if_neg h
end
section
theorem gz_sz (x y : Int) : gz_i x * gz_i x + gz_i y * gz_i y = gz_i (gz_n x y) := by
  rw [gz_mul, gz_mul, gz_add]
  rfl
theorem gz_cr (x y u v : Int) : gz_i x * gz_i v - gz_i y * gz_i u = gz_i (x * v - y * u) := by
  rw [gz_mul, gz_mul, gz_sub]
theorem gz_Db {a b c d : Int} (h : gz_st a b c d) : -1800 ≤ a * d - b * c ∧ a * d - b * c ≤ 1800 := by
  have h1 := gz_mb (x := a) (y := d) 30 30 (by have := h.1; omega) (by have := h.2.2.2.1; omega)
  have h2 := gz_mb (x := b) (y := c) 30 30 (by have := h.2.1; omega) (by have := h.2.2.1; omega)
  omega
theorem gz_eb {x y c d : Int} (hx : -1100 ≤ x ∧ x ≤ 1100) (hy : -1100 ≤ y ∧ y ≤ 1100) (hc : -30 ≤ c ∧ c ≤ 30) (hd : -30 ≤ d ∧ d ≤ 30) :
    -66000 ≤ x * d - y * c ∧ x * d - y * c ≤ 66000 := by
  have h1 := gz_mb (x := x) (y := d) 1100 30 (by omega) (by omega)
  have h2 := gz_mb (x := y) (y := c) 1100 30 (by omega) (by omega)
  omega
theorem gz_nb {x y : Int} (hx : -1100 ≤ x ∧ x ≤ 1100) (hy : -1100 ≤ y ∧ y ≤ 1100) : 0 ≤ gz_n x y ∧ gz_n x y ≤ 2420000 := by
  have h1 := gz_n0 x y
  have h2 := gz_nup (x := x) (y := y) 1100 ⟨by omega, by omega⟩
  omega
theorem gx_size {x y : Int} {post : Int32 → Prop} (h : post (gz_i (gz_n x y))) : wpX_size post (gz_i x) (gz_i y) := by
  unfold wpX_size
  rw [gz_sz]
  exact h
theorem gx_cross {x y u v : Int} {post : Int32 → Prop} (h : post (gz_i (x * v - y * u))) : wpX_cross post (gz_i x) (gz_i y) (gz_i u) (gz_i v) := by
  unfold wpX_cross
  rw [gz_cr]
  exact h
theorem gz_nz0 {e : Int} (h : e ≠ 0) (hb : -2147483648 ≤ e ∧ e < 2147483648) : ¬ gz_i e = 0 := by
  rw [← gz_0, gz_eq hb (by omega)]
  exact h
theorem gx_in {a b c d x y : Int} {s t X Y : Int32} {post : Int32 → Prop} (hs : gz_st a b c d) (hx : -1100 ≤ x ∧ x ≤ 1100) (hy : -1100 ≤ y ∧ y ≤ 1100)
    (h1 : gz_g a b c d x y → post 1) (h0 : ¬ gz_g a b c d x y → post 0) (hX : X = gz_i x := by rfl) (hY : Y = gz_i y := by rfl) :
    wpX_inGrid post (gz_i a, gz_i b, gz_i c, gz_i d, s, t) X Y := by
  subst hX hY
  have hDb := gz_Db hs
  have hD : ¬ gz_i (a * d - b * c) = 0 := gz_nz0 hs.2.2.2.2 (by omega)
  have b1 := gz_eb hx hy hs.2.2.1 hs.2.2.2.1
  have b2 : -66000 ≤ a * y - b * x ∧ a * y - b * x ≤ 66000 := by
    have k := gz_eb hy hx hs.2.1 hs.1
    have e : a * y - b * x = y * a - x * b := by grind
    rw [e]
    exact k
  have r1 := gz_rem (e := x * d - y * c) (m := a * d - b * c) (by omega) (by omega)
  have r2 := gz_rem (e := a * y - b * x) (m := a * d - b * c) (by omega) (by omega)
  unfold wpX_inGrid
  refine gx_cross ?_
  refine br_f hD ?_
  refine gx_cross ?_
  refine ⟨hD, ?_⟩
  by_cases d1 : (a * d - b * c) ∣ (x * d - y * c)
  · refine br_t (r1.mpr d1) ?_
    refine gx_cross ?_
    refine ⟨hD, ?_⟩
    by_cases d2 : (a * d - b * c) ∣ (a * y - b * x)
    · exact br_t (r2.mpr d2) (h1 ⟨d1, d2⟩)
    · exact br_f (fun k => d2 (r2.mp k)) (h0 (fun k => d2 k.2))
  · exact br_f (fun k => d1 (r1.mp k)) (h0 (fun k => d1 k.1))
theorem gy_in {a b c d x y : Int} {post : Int32 → Prop} (hs : gz_st a b c d) (hx : -1100 ≤ x ∧ x ≤ 1100) (hy : -1100 ≤ y ∧ y ≤ 1100)
    (h1 : gz_g a b c d x y → post 1) (h0 : ¬ gz_g a b c d x y → post 0) :
    wpY_in post (gz_i x) (gz_i y) (gz_i a) (gz_i b) (gz_i c) (gz_i d) := by
  have hDb := gz_Db hs
  have hD : ¬ gz_i (a * d - b * c) = 0 := gz_nz0 hs.2.2.2.2 (by omega)
  have b1 := gz_eb hx hy hs.2.2.1 hs.2.2.2.1
  have e2 : y * a - x * b = a * y - b * x := by grind
  have b2 : -66000 ≤ a * y - b * x ∧ a * y - b * x ≤ 66000 := by
    have k := gz_eb hy hx hs.2.1 hs.1
    rw [e2] at k
    exact k
  have r1 := gz_rem (e := x * d - y * c) (m := a * d - b * c) (by omega) (by omega)
  have r2 := gz_rem (e := a * y - b * x) (m := a * d - b * c) (by omega) (by omega)
  unfold wpY_in
  rw [gz_cr a b c d, gz_cr x y c d, gz_cr y x b a, e2]
  refine nm_e ?_
  refine br_f hD ⟨hD, ?_⟩
  by_cases d1 : (a * d - b * c) ∣ (x * d - y * c)
  · refine br_t (r1.mpr d1) ⟨hD, ?_⟩
    by_cases d2 : (a * d - b * c) ∣ (a * y - b * x)
    · exact br_t (r2.mpr d2) (h1 ⟨d1, d2⟩)
    · exact br_f (fun k => d2 (r2.mp k)) (h0 (fun k => d2 k.2))
  · exact br_f (fun k => d1 (r1.mp k)) (h0 (fun k => d1 k.1))
theorem gy_pt {a b c d x y : Int} {p q w : Int32} {post : Int32 → Prop} (hs : gz_st a b c d) (hx : -1100 ≤ x ∧ x ≤ 1100) (hy : -1100 ≤ y ∧ y ≤ 1100)
    (h1 : gz_g a b c d x y → post 1) (h0 : ¬ gz_g a b c d x y → post 0) :
    wpY_isPoint post (gz_i a, gz_i b, gz_i c, gz_i d, p, q, w) (gz_i x) (gz_i y) := by
  unfold wpY_isPoint
  exact gy_in hs hx hy (fun h => ⟨rfl, h1 h⟩) (fun h => ⟨rfl, h0 h⟩)
/-- places -/
theorem gx_place {post : Int32 → Prop} {x y : Int} (hx : -2147483648 ≤ x ∧ x < 2147483648) (hy : -2147483648 ≤ y ∧ y < 2147483648)
    (h1 : ((-1000 ≤ x ∧ x ≤ 1000) ∧ (-1000 ≤ y ∧ y ≤ 1000)) → post 1) (h0 : ¬ ((-1000 ≤ x ∧ x ≤ 1000) ∧ (-1000 ≤ y ∧ y ≤ 1000)) → post 0) :
    wpX_isPlace post (gz_i x) (gz_i y) := by
  unfold wpX_isPlace
  refine gz_blt x (-1000) (fun h => h0 (by omega)) (fun k1 => ?_)
  refine gz_blt 1000 x (fun h => h0 (by omega)) (fun k2 => ?_)
  refine gz_blt y (-1000) (fun h => h0 (by omega)) (fun k3 => ?_)
  exact gz_blt 1000 y (fun h => h0 (by omega)) (fun k4 => h1 (by omega))
theorem gy_far {post : Int32 → Prop} {x y : Int} (hx : -2147483648 ≤ x ∧ x < 2147483648) (hy : -2147483648 ≤ y ∧ y < 2147483648)
    (h1 : ((-1000 ≤ x ∧ x ≤ 1000) ∧ (-1000 ≤ y ∧ y ≤ 1000)) → post 0) (h0 : ¬ ((-1000 ≤ x ∧ x ≤ 1000) ∧ (-1000 ≤ y ∧ y ≤ 1000)) → post 1) :
    wpY_far post (gz_i x) (gz_i y) := by
  unfold wpY_far
  refine gz_blt x (-1000) (fun h => h0 (by omega)) (fun k1 => ?_)
  refine gz_blt 1000 x (fun h => h0 (by omega)) (fun k2 => ?_)
  refine gz_blt y (-1000) (fun h => h0 (by omega)) (fun k3 => ?_)
  exact gz_ble y 1000 (fun k4 => h1 (by omega)) (fun h => h0 (by omega))
/-- steps -/
theorem gx_isn {post : Int32 → Prop} {x : Int} (hx : -2147483648 ≤ x ∧ x < 2147483648)
    (h1 : (-30 ≤ x ∧ x ≤ 30) → post 1) (h0 : ¬ (-30 ≤ x ∧ x ≤ 30) → post 0) : wpX_isStepNumber post (gz_i x) := by
  unfold wpX_isStepNumber
  refine gz_blt x (-30) (fun h => h0 (by omega)) (fun k1 => ?_)
  exact gz_blt 30 x (fun h => h0 (by omega)) (fun k2 => h1 (by omega))
theorem gy_bad {post : Int32 → Prop} {x : Int} (hx : -2147483648 ≤ x ∧ x < 2147483648)
    (h1 : (-30 ≤ x ∧ x ≤ 30) → post 0) (h0 : ¬ (-30 ≤ x ∧ x ≤ 30) → post 1) : wpY_bad post (gz_i x) := by
  unfold wpY_bad
  refine gz_blt x (-30) (fun h => h0 (by omega)) (fun k1 => ?_)
  exact gz_ble x 30 (fun k2 => h1 (by omega)) (fun h => h0 (by omega))
theorem gx_are {post : Int32 → Prop} {a b c d : Int} (ha : -2147483648 ≤ a ∧ a < 2147483648) (hb : -2147483648 ≤ b ∧ b < 2147483648)
    (hc : -2147483648 ≤ c ∧ c < 2147483648) (hd : -2147483648 ≤ d ∧ d < 2147483648)
    (h1 : gz_st a b c d → post 1) (h0 : ¬ gz_st a b c d → post 0) : wpX_areSteps post (gz_i a) (gz_i b) (gz_i c) (gz_i d) := by
  have z : (¬ gz_st a b c d) → wX_areSteps_32 post (gz_i a) (gz_i b) (gz_i c) (gz_i d) := by
    intro h
    unfold wX_areSteps_32 wX_areSteps_33
    exact br_t rfl (h0 h)
  unfold wpX_areSteps
  refine gx_isn ha (fun k1 => ?_) (fun k => br_t rfl (z (fun h => k h.1)))
  refine br_f (by decide) ?_
  refine gx_isn hb (fun k2 => ?_) (fun k => br_t rfl (z (fun h => k h.2.1)))
  refine br_f (by decide) ?_
  refine gx_isn hc (fun k3 => ?_) (fun k => br_t rfl (z (fun h => k h.2.2.1)))
  refine br_f (by decide) ?_
  refine gx_isn hd (fun k4 => ?_) (fun k => br_t rfl (z (fun h => k h.2.2.2.1)))
  refine br_f (by decide) ?_
  unfold wX_areSteps_33
  refine br_f (by decide) ?_
  refine gx_cross ?_
  have hB := gz_eb (x := a) (y := b) (c := c) (d := d) (by omega) (by omega) k3 k4
  exact gz_beq (a * d - b * c) 0 (fun e => h0 (fun h => h.2.2.2.2 e)) (fun e => h1 ⟨k1, k2, k3, k4, e⟩)
end
section
theorem gz_cb {s t x y : Int} (hst : (-43 ≤ s ∧ s ≤ 43) ∧ (-43 ≤ t ∧ t ≤ 43)) (hx : -43 ≤ x ∧ x ≤ 43) (hy : -43 ≤ y ∧ y ≤ 43) : -3698 ≤ s * y - t * x ∧ s * y - t * x ≤ 3698 := by
  have h1 := gz_mb (x := s) (y := y) 43 43 (by omega) (by omega)
  have h2 := gz_mb (x := t) (y := x) 43 43 (by omega) (by omega)
  omega
/-- X: the shortest point with the greatest x, of several the greatest y -/
theorem gx_fs16 {a b c d s t x : Int} {post : SX → Prop} {J : Int32 → Int32 → Int32 → Int32 → Prop} (hs : gz_st a b c d) (hT : gz_T a b c d s t) (hx : -42 ≤ x ∧ x ≤ 42)
    (hJ : ∀ (L : Int) (p : Int32 × Int32), gz_F (gz_n s t) (-s) (-t) (gz_i s, gz_i t) (-(x - 1)) (-42) L p → 0 ≤ L → L ≤ 100000 → J (gz_i L) (gz_i (x - 1)) p.1 p.2)
    (L : Int) (p : Int32 × Int32) (hF : gz_F (gz_n s t) (-s) (-t) (gz_i s, gz_i t) (-x) (-42) L p) (h0 : 0 ≤ L) (h1 : L ≤ 100000) (y0 : Int32) (hy0 : y0 = gz_i 42) :
    ∃ n, wX_findShortPoint_16 post J (gz_i x) (gz_i a) (gz_i b) (gz_i c) (gz_i d) n (gz_i L) y0 p.1 p.2 := by
  subst hy0
  refine ⟨86, ?_⟩
  refine gz_dn (fun n y (z : Int × Int32 × Int32) => wX_findShortPoint_16 post J (gz_i x) (gz_i a) (gz_i b) (gz_i c) (gz_i d) n (gz_i z.1) y z.2.1 z.2.2)
    (fun y z => gz_F (gz_n s t) (-s) (-t) (gz_i s, gz_i t) (-x) (-y) z.1 z.2 ∧ 0 ≤ z.1 ∧ z.1 ≤ 100000) (-42) 42 ?_ ?_ 85 42 (L, p) (by decide) (by decide) ⟨hF, h0, h1⟩
  · rintro n ⟨L, p⟩ ⟨hF, h0, h1⟩
    dsimp only at hF h0 h1
    have e : -(-42 - 1 : Int) = 42 + 1 := by decide
    rw [e] at hF
    have hr := gz_Frow (lo := -42) (hi := 42) (by have := hT.1.2; omega) hF
    have e2 : -x + 1 = -(x - 1) := by omega
    rw [e2] at hr
    refine gz_blt (-42 - 1) (-42) (fun _ => ?_) (fun h => absurd h (by decide))
    refine nm_r (gz_d1 x) ?_
    exact hJ L p hr h0 h1
  · rintro n y ⟨L, p⟩ hl hh ⟨hF, h0, h1⟩ IH
    dsimp only at hF h0 h1
    have nb := gz_nup (x := x) (y := y) 42 ⟨by omega, by omega⟩
    have n0 := gz_n0 x y
    have main : (x ≠ 0 ∨ y ≠ 0) → wX_findShortPoint_35 post J (wX_findShortPoint_16 post J (gz_i x) (gz_i a) (gz_i b) (gz_i c) (gz_i d) n) (gz_i L) (gz_i x) (gz_i y) 0 (gz_i a) (gz_i b) (gz_i c) (gz_i d) p.1 p.2 := by
      intro hne
      have hm := hT.2.2.2.2 x y hne
      unfold wX_findShortPoint_35
      refine br_t rfl ?_
      refine gx_size ?_
      refine gz_ble L (gz_n x y) (fun h => ?_) (fun h => ?_)
      · refine nm_r (gz_d1 y) ?_
        exact IH (L, p) ⟨gz_FnegM hF (fun e1 e2 => by subst e1 e2; omega), h0, h1⟩
      · refine gx_in (x := x) (y := y) hs (by omega) (by omega) (fun hg => ?_) (fun hg => ?_)
        · refine br_f (by decide) ?_
          refine gx_size ?_
          refine nm_r (gz_d1 y) ?_
          exact IH (gz_n x y, gz_i x, gz_i y) ⟨gz_Fneg hF h (hm hg) (fun e1 e2 => by subst e1 e2; exact ⟨rfl, rfl⟩), n0, by omega⟩
        · refine br_t rfl ?_
          refine nm_r (gz_d1 y) ?_
          exact IH (L, p) ⟨gz_FnegM hF (fun e1 e2 => by subst e1 e2; exact absurd hT.2.2.1 hg), h0, h1⟩
    refine gz_blt y (-42) (fun h => absurd h (by omega)) (fun _ => ?_)
    refine gz_beq x 0 (fun ex => ?_) (fun ex => ?_)
    · refine gz_beq y 0 (fun ey => ?_) (fun ey => ?_)
      · unfold wX_findShortPoint_35
        refine br_f (by decide) ?_
        refine nm_r (gz_d1 y) ?_
        exact IH (L, p) ⟨gz_FnegM hF (fun e1 e2 => absurd hT.2.1 (by omega)), h0, h1⟩
      · unfold wX_findShortPoint_34
        exact main (Or.inr ey)
    · unfold wX_findShortPoint_34
      exact main (Or.inl ex)
theorem gx_fs {a b c d s t : Int} {p q : Int32} {post : SX → Prop} (hs : gz_st a b c d) (hT : gz_T a b c d s t) (h : post (gz_i a, gz_i b, gz_i c, gz_i d, gz_i s, gz_i t)) :
    wpX_findShortPoint post (gz_i a, gz_i b, gz_i c, gz_i d, p, q) := by
  have main : ∀ L0 x0 : Int32, L0 = gz_i 3529 → x0 = gz_i 42 → ∃ n, wX_findShortPoint_7 post (gz_i a) (gz_i b) (gz_i c) (gz_i d) n L0 x0 p q := by
    intro L0 x0 hL0 hx0
    subst hL0 hx0
    have hb := hT.1
    have hn := hT.2.2.2.1
    refine ⟨86, ?_⟩
    refine gz_dn (fun n x (z : Int × Int32 × Int32) => wX_findShortPoint_7 post (gz_i a) (gz_i b) (gz_i c) (gz_i d) n (gz_i z.1) x z.2.1 z.2.2)
      (fun x z => gz_F (gz_n s t) (-s) (-t) (gz_i s, gz_i t) (-x) (-42) z.1 z.2 ∧ 0 ≤ z.1 ∧ z.1 ≤ 100000) (-42) 42 ?_ ?_ 85 42 (3529, p, q) (by decide) (by decide)
      ⟨gz_F0 (by omega) (by omega) (by show gz_n s t < 3529; omega), by show (0 : Int) ≤ 3529; decide, by show (3529 : Int) ≤ 100000; decide⟩
    · rintro n ⟨L, p⟩ ⟨hF, h0, h1⟩
      dsimp only at hF h0 h1
      have e : -(-42 - 1 : Int) = 42 + 1 := by decide
      rw [e] at hF
      obtain ⟨e1, e2⟩ := gz_Fend (by omega) hF
      refine gz_blt (-42 - 1) (-42) (fun _ => ?_) (fun h => absurd h (by decide))
      subst e2
      exact h
    · rintro n x ⟨L, p⟩ hl hh ⟨hF, h0, h1⟩ IH
      refine gz_blt x (-42) (fun h => absurd h (by omega)) (fun _ => ?_)
      exact gx_fs16 hs hT ⟨hl, hh⟩ (fun L p k1 k2 k3 => IH (L, p) ⟨k1, k2, k3⟩) L p hF h0 h1 _ (by decide)
  unfold wpX_findShortPoint
  exact main _ _ (by decide) (by decide)
/-- X: how many shortest points -/
theorem gx_ma27 {a b c d s t x m T : Int} {q : Int → Int → Int} {post : Int32 → Prop} {J : Int32 → Int32 → Prop} (hs : gz_st a b c d) (hm : 0 ≤ m ∧ m ≤ 100000)
    (hq : ∀ x y, ((gz_n x y = m ∧ gz_g a b c d x y) → q x y = 1) ∧ (¬ (gz_n x y = m ∧ gz_g a b c d x y) → q x y = 0)) (hx : -42 ≤ x ∧ x ≤ 42)
    (hJ : ∀ k : Int, k + gz_head q (-42) 85 (x + 1) = T → J (gz_i k) (gz_i (x + 1)))
    (k : Int) (hk : k + gz_head q (-42) 85 x = T) (y0 : Int32) (hy0 : y0 = gz_i (-42)) :
    ∃ n, wX_many_27 post J (gz_i m) (gz_i x) (gz_i a) (gz_i b) (gz_i c) (gz_i d) (gz_i s) (gz_i t) n (gz_i k) y0 := by
  subst hy0
  rw [gz_headI q (-42) 85 (by omega)] at hk
  refine ⟨86, ?_⟩
  refine gz_up (fun n y (z : Int) => wX_many_27 post J (gz_i m) (gz_i x) (gz_i a) (gz_i b) (gz_i c) (gz_i d) (gz_i s) (gz_i t) n (gz_i z) y)
    (fun y z => z + gz_rest q (-42) 85 x y = T) (-42) 42 ?_ ?_ 85 (-42) k (by decide) (by decide) hk
  · intro n k hk
    have e : (42 + 1 : Int) = -42 + ((85 : Nat) : Int) := by decide
    rw [e, gz_headO] at hk
    refine gz_blt 42 (42 + 1) (fun _ => ?_) (fun h => absurd h (by decide))
    refine nm_r (gz_p1 x) ?_
    exact hJ k hk
  · intro n y k hl hh hk IH
    rw [gz_rest1 q (-42) 85 (by omega)] at hk
    have nb := gz_nup (x := x) (y := y) 42 ⟨by omega, by omega⟩
    have n0 := gz_n0 x y
    refine gz_blt 42 y (fun h => absurd h (by omega)) (fun _ => ?_)
    refine gx_size ?_
    refine gz_beq (gz_n x y) m (fun h => ?_) (fun h => ?_)
    · refine gx_in (x := x) (y := y) hs (by omega) (by omega) (fun hg => ?_) (fun hg => ?_)
      · refine br_f (by decide) ?_
        refine nm_r (gz_p1 k) ?_
        refine nm_r (gz_p1 y) ?_
        have hv := (hq x y).1 ⟨h, hg⟩
        exact IH (k + 1) (by omega)
      · refine br_t rfl ?_
        refine nm_r (gz_p1 y) ?_
        have hv := (hq x y).2 (fun z => hg z.2)
        exact IH k (by omega)
    · refine nm_r (gz_p1 y) ?_
      have hv := (hq x y).2 (fun z => h z.1)
      exact IH k (by omega)
theorem gx_ma {a b c d s t : Int} {q : Int → Int → Int} {post : Int32 → Prop} (hs : gz_st a b c d) (hT : gz_T a b c d s t)
    (hq : ∀ x y, ((gz_n x y = gz_n s t ∧ gz_g a b c d x y) → q x y = 1) ∧ (¬ (gz_n x y = gz_n s t ∧ gz_g a b c d x y) → q x y = 0)) (h : post (gz_i (gz_tot q (-42) 85))) :
    wpX_many post (gz_i a, gz_i b, gz_i c, gz_i d, gz_i s, gz_i t) := by
  have n0 := gz_n0 s t
  have hn := hT.2.2.2.1
  have main : ∀ k0 x0 : Int32, k0 = gz_i 0 → x0 = gz_i (-42) → ∃ n, wX_many_17 post (gz_i (gz_n s t)) (gz_i a) (gz_i b) (gz_i c) (gz_i d) (gz_i s) (gz_i t) n k0 x0 := by
    intro k0 x0 hk0 hx0
    subst hk0 hx0
    refine ⟨86, ?_⟩
    refine gz_up (fun n x (z : Int) => wX_many_17 post (gz_i (gz_n s t)) (gz_i a) (gz_i b) (gz_i c) (gz_i d) (gz_i s) (gz_i t) n (gz_i z) x)
      (fun x z => z + gz_head q (-42) 85 x = gz_tot q (-42) 85) (-42) 42 ?_ ?_ 85 (-42) 0 (by decide) (by decide) (by rw [gz_head0]; omega)
    · intro n k hk
      have e : (42 + 1 : Int) = -42 + ((85 : Nat) : Int) := by decide
      rw [e, gz_headE] at hk
      have e2 : k = gz_tot q (-42) 85 := by omega
      refine gz_blt 42 (42 + 1) (fun _ => ?_) (fun h => absurd h (by decide))
      rw [← e2] at h
      exact h
    · intro n x k hl hh hk IH
      refine gz_blt 42 x (fun h => absurd h (by omega)) (fun _ => ?_)
      exact gx_ma27 hs (by omega) hq ⟨hl, hh⟩ (fun k hk => IH k hk) k hk _ (by decide)
  unfold wpX_many
  refine gx_size ?_
  exact main _ _ (by decide) (by decide)
end
section
/-- X: the least size beside the line of (s, t) -/
theorem gx_se16 {a b c d s t x m p q : Int} {post : Int32 → Prop} {J : Int32 → Int32 → Prop} (hs : gz_st a b c d) (hst : (-42 ≤ s ∧ s ≤ 42) ∧ (-42 ≤ t ∧ t ≤ 42))
    (hpq : ((-42 ≤ p ∧ p ≤ 42) ∧ (-42 ≤ q ∧ q ≤ 42)) ∧ s * q - t * p ≠ 0 ∧ gz_g a b c d p q ∧ gz_n p q = m)
    (hmin : ∀ x y, s * y - t * x ≠ 0 → gz_g a b c d x y → m ≤ gz_n x y) (hx : -42 ≤ x ∧ x ≤ 42)
    (hJ : ∀ L : Int, gz_L m p q (x + 1) (-42) L → L ≤ 100000 → J (gz_i L) (gz_i (x + 1)))
    (L : Int) (hL : gz_L m p q x (-42) L) (h1 : L ≤ 100000) (y0 : Int32) (hy0 : y0 = gz_i (-42)) :
    ∃ n, wX_second_16 post J (gz_i x) (gz_i a) (gz_i b) (gz_i c) (gz_i d) (gz_i s) (gz_i t) n (gz_i L) y0 := by
  subst hy0
  have hm := hpq.2.2.2
  have m0 := gz_n0 p q
  refine ⟨86, ?_⟩
  refine gz_up (fun n y (z : Int) => wX_second_16 post J (gz_i x) (gz_i a) (gz_i b) (gz_i c) (gz_i d) (gz_i s) (gz_i t) n (gz_i z) y)
    (fun y z => gz_L m p q x y z ∧ z ≤ 100000) (-42) 42 ?_ ?_ 85 (-42) L (by decide) (by decide) ⟨hL, h1⟩
  · rintro n L ⟨hL, h1⟩
    refine gz_blt 42 (42 + 1) (fun _ => ?_) (fun h => absurd h (by decide))
    refine nm_r (gz_p1 x) ?_
    exact hJ L (gz_Lrow (lo := -42) (hi := 42) hpq.1.2 hL) h1
  · rintro n y L hl hh ⟨hL, h1⟩ IH
    have nb := gz_nup (x := x) (y := y) 42 ⟨by omega, by omega⟩
    have n0 := gz_n0 x y
    have l0 := hL.1
    have cb := gz_cb (s := s) (t := t) (x := x) (y := y) ⟨by omega, by omega⟩ (by omega) (by omega)
    refine gz_blt 42 y (fun h => absurd h (by omega)) (fun _ => ?_)
    refine gx_cross ?_
    refine gz_beq (s * y - t * x) 0 (fun e => ?_) (fun e => ?_)
    · unfold wX_second_43
      refine br_f (by decide) ?_
      refine nm_r (gz_p1 y) ?_
      exact IH L ⟨gz_Lmiss hL (fun e1 e2 => by subst e1 e2; exact absurd e hpq.2.1), h1⟩
    · unfold wX_second_43
      refine br_t rfl ?_
      refine gx_size ?_
      refine gz_ble L (gz_n x y) (fun h => ?_) (fun h => ?_)
      · refine nm_r (gz_p1 y) ?_
        exact IH L ⟨gz_Lmiss hL (fun e1 e2 => by subst e1 e2; omega), h1⟩
      · refine gx_in (x := x) (y := y) hs (by omega) (by omega) (fun hg => ?_) (fun hg => ?_)
        · refine br_f (by decide) ?_
          refine gx_size ?_
          refine nm_r (gz_p1 y) ?_
          exact IH (gz_n x y) ⟨gz_Lhit hL h (hmin x y e hg) (fun e1 e2 => by subst e1 e2; exact hm), by omega⟩
        · refine br_t rfl ?_
          refine nm_r (gz_p1 y) ?_
          exact IH L ⟨gz_Lmiss hL (fun e1 e2 => by subst e1 e2; exact absurd hpq.2.2.1 hg), h1⟩
theorem gx_se {a b c d s t m : Int} {post : Int32 → Prop} (hs : gz_st a b c d) (hst : (-42 ≤ s ∧ s ≤ 42) ∧ (-42 ≤ t ∧ t ≤ 42)) (hM : gz_M a b c d s t m) (h : post (gz_i m)) :
    wpX_second post (gz_i a, gz_i b, gz_i c, gz_i d, gz_i s, gz_i t) := by
  obtain ⟨⟨p, q, hpq⟩, hm, hmin⟩ := hM
  have hb := hpq.1
  have main : ∀ L0 x0 : Int32, L0 = gz_i 3529 → x0 = gz_i (-42) → ∃ n, wX_second_7 post (gz_i a) (gz_i b) (gz_i c) (gz_i d) (gz_i s) (gz_i t) n L0 x0 := by
    intro L0 x0 hL0 hx0
    subst hL0 hx0
    refine ⟨86, ?_⟩
    refine gz_up (fun n x (z : Int) => wX_second_7 post (gz_i a) (gz_i b) (gz_i c) (gz_i d) (gz_i s) (gz_i t) n (gz_i z) x)
      (fun x z => gz_L m p q x (-42) z ∧ z ≤ 100000) (-42) 42 ?_ ?_ 85 (-42) 3529 (by decide) (by decide) ⟨gz_L0 (by omega) (by omega) (by omega), by decide⟩
    · rintro n L ⟨hL, h1⟩
      have e := gz_Lend (by omega) hL
      refine gz_blt 42 (42 + 1) (fun _ => ?_) (fun h => absurd h (by decide))
      rw [← e] at h
      exact h
    · rintro n x L hl hh ⟨hL, h1⟩ IH
      refine gz_blt 42 x (fun h => absurd h (by omega)) (fun _ => ?_)
      exact gx_se16 hs hst hpq hmin ⟨hl, hh⟩ (fun L k1 k2 => IH L ⟨k1, k2⟩) L hL h1 _ (by decide)
  unfold wpX_second
  exact main _ _ (by decide) (by decide)
/-- X: the least size of a difference -/
theorem gx_di29 {a b c d s t u v x p q : Int} {post : Int32 → Prop} {J : Int32 → Int32 → Prop} (hs : gz_st a b c d)
    (hu : -1000 ≤ u ∧ u ≤ 1000) (hv : -1000 ≤ v ∧ v ≤ 1000) (hN : gz_N a b c d u v p q) (hx : -30 ≤ x ∧ x ≤ 30)
    (hJ : ∀ L : Int, gz_L (gz_n p q) p q (x + 1) (-30) L → L ≤ 100000 → J (gz_i L) (gz_i (x + 1)))
    (L : Int) (hL : gz_L (gz_n p q) p q x (-30) L) (h1 : L ≤ 100000) (y0 : Int32) (hy0 : y0 = gz_i (-30)) :
    ∃ n, wX_distance_29 post J (gz_i u) (gz_i v) (gz_i x) (gz_i a) (gz_i b) (gz_i c) (gz_i d) (gz_i s) (gz_i t) n (gz_i L) y0 := by
  subst hy0
  have m0 := gz_n0 p q
  refine ⟨62, ?_⟩
  refine gz_up (fun n y (z : Int) => wX_distance_29 post J (gz_i u) (gz_i v) (gz_i x) (gz_i a) (gz_i b) (gz_i c) (gz_i d) (gz_i s) (gz_i t) n (gz_i z) y)
    (fun y z => gz_L (gz_n p q) p q x y z ∧ z ≤ 100000) (-30) 30 ?_ ?_ 61 (-30) L (by decide) (by decide) ⟨hL, h1⟩
  · rintro n L ⟨hL, h1⟩
    refine gz_blt 30 (30 + 1) (fun _ => ?_) (fun h => absurd h (by decide))
    refine nm_r (gz_p1 x) ?_
    exact hJ L (gz_Lrow (lo := -30) (hi := 30) hN.1.2 hL) h1
  · rintro n y L hl hh ⟨hL, h1⟩ IH
    have nb := gz_nup (x := x) (y := y) 30 ⟨by omega, by omega⟩
    have n0 := gz_n0 x y
    have l0 := hL.1
    refine gz_blt 30 y (fun h => absurd h (by omega)) (fun _ => ?_)
    refine gx_size ?_
    refine gz_ble L (gz_n x y) (fun h => ?_) (fun h => ?_)
    · refine nm_r (gz_p1 y) ?_
      exact IH L ⟨gz_Lmiss hL (fun e1 e2 => by subst e1 e2; omega), h1⟩
    · refine gx_in (x := u + x) (y := v + y) hs (by omega) (by omega) (fun hg => ?_) (fun hg => ?_) (gz_add u x) (gz_add v y)
      · refine br_f (by decide) ?_
        refine gx_size ?_
        refine nm_r (gz_p1 y) ?_
        have hm := hN.2.2.2 x y hg
        exact IH (gz_n x y) ⟨gz_Lhit hL h (by omega) (fun e1 e2 => by subst e1 e2; rfl), by omega⟩
      · refine br_t rfl ?_
        refine nm_r (gz_p1 y) ?_
        exact IH L ⟨gz_Lmiss hL (fun e1 e2 => by subst e1 e2; exact absurd hN.2.1 hg), h1⟩
theorem gx_di {a b c d s t u v p q : Int} {post : Int32 → Prop} (hs : gz_st a b c d)
    (hu : -1000 ≤ u ∧ u ≤ 1000) (hv : -1000 ≤ v ∧ v ≤ 1000) (hN : gz_N a b c d u v p q) (h : post (gz_i (gz_n p q))) :
    wpX_distance post (gz_i a, gz_i b, gz_i c, gz_i d, gz_i s, gz_i t) (gz_i u) (gz_i v) := by
  have hb := hN.1
  have hn := hN.2.2.1
  have main : ∀ L0 x0 : Int32, L0 = gz_i 1801 → x0 = gz_i (-30) → ∃ n, wX_distance_18 post (gz_i u) (gz_i v) (gz_i a) (gz_i b) (gz_i c) (gz_i d) (gz_i s) (gz_i t) n L0 x0 := by
    intro L0 x0 hL0 hx0
    subst hL0 hx0
    refine ⟨62, ?_⟩
    refine gz_up (fun n x (z : Int) => wX_distance_18 post (gz_i u) (gz_i v) (gz_i a) (gz_i b) (gz_i c) (gz_i d) (gz_i s) (gz_i t) n (gz_i z) x)
      (fun x z => gz_L (gz_n p q) p q x (-30) z ∧ z ≤ 100000) (-30) 30 ?_ ?_ 61 (-30) 1801 (by decide) (by decide) ⟨gz_L0 (by omega) (by omega) (by omega), by decide⟩
    · rintro n L ⟨hL, h1⟩
      have e := gz_Lend (by omega) hL
      refine gz_blt 30 (30 + 1) (fun _ => ?_) (fun h => absurd h (by decide))
      rw [← e] at h
      exact h
    · rintro n x L hl hh ⟨hL, h1⟩ IH
      refine gz_blt 30 x (fun h => absurd h (by omega)) (fun _ => ?_)
      exact gx_di29 hs hu hv hN ⟨hl, hh⟩ (fun L k1 k2 => IH L ⟨k1, k2⟩) L hL h1 _ (by decide)
  unfold wpX_distance
  refine gx_place (by omega) (by omega) (fun _ => ?_) (fun k => absurd ⟨hu, hv⟩ k)
  refine br_f (by decide) ?_
  exact main _ _ (by decide) (by decide)
/-- the code of a point -/
theorem gz_code (u v : Int) : 10000 * gz_i u + gz_i v = gz_i (10000 * u + v) := by
  have e : (10000 : Int32) = gz_i 10000 := by decide
  rw [e, gz_mul, gz_add]
/-- X: the code of the nearest point -/
theorem gx_ne32 {a b c d s t u v x p q : Int} {post : Int32 → Prop} {J : Int32 → Int32 → Int32 → Prop} (hs : gz_st a b c d)
    (hu : -1000 ≤ u ∧ u ≤ 1000) (hv : -1000 ≤ v ∧ v ≤ 1000) (hN : gz_N a b c d u v p q) (hx : -30 ≤ x ∧ x ≤ 30)
    (hJ : ∀ (L : Int) (z : Int32), gz_F (gz_n p q) p q (gz_i (10000 * (u + p) + (v + q))) (x + 1) (-30) L z → 0 ≤ L → L ≤ 100000 → J (gz_i L) z (gz_i (x + 1)))
    (L : Int) (z : Int32) (hF : gz_F (gz_n p q) p q (gz_i (10000 * (u + p) + (v + q))) x (-30) L z) (h0 : 0 ≤ L) (h1 : L ≤ 100000) (y0 : Int32) (hy0 : y0 = gz_i (-30)) :
    ∃ n, wX_nearest_32 post J (gz_i u) (gz_i v) (gz_i x) (gz_i a) (gz_i b) (gz_i c) (gz_i d) (gz_i s) (gz_i t) n (gz_i L) z y0 := by
  subst hy0
  refine ⟨62, ?_⟩
  refine gz_up (fun n y (z : Int × Int32) => wX_nearest_32 post J (gz_i u) (gz_i v) (gz_i x) (gz_i a) (gz_i b) (gz_i c) (gz_i d) (gz_i s) (gz_i t) n (gz_i z.1) z.2 y)
    (fun y z => gz_F (gz_n p q) p q (gz_i (10000 * (u + p) + (v + q))) x y z.1 z.2 ∧ 0 ≤ z.1 ∧ z.1 ≤ 100000) (-30) 30 ?_ ?_ 61 (-30) (L, z) (by decide) (by decide) ⟨hF, h0, h1⟩
  · rintro n ⟨L, z⟩ ⟨hF, h0, h1⟩
    dsimp only at hF h0 h1
    refine gz_blt 30 (30 + 1) (fun _ => ?_) (fun h => absurd h (by decide))
    refine nm_r (gz_p1 x) ?_
    exact hJ L z (gz_Frow (lo := -30) (hi := 30) hN.1.2 hF) h0 h1
  · rintro n y ⟨L, z⟩ hl hh ⟨hF, h0, h1⟩ IH
    dsimp only at hF h0 h1
    have nb := gz_nup (x := x) (y := y) 30 ⟨by omega, by omega⟩
    have n0 := gz_n0 x y
    refine gz_blt 30 y (fun h => absurd h (by omega)) (fun _ => ?_)
    refine gx_size ?_
    refine gz_ble L (gz_n x y) (fun h => ?_) (fun h => ?_)
    · refine nm_r (gz_p1 y) ?_
      exact IH (L, z) ⟨gz_Fmiss hF (fun e1 e2 => by subst e1 e2; omega), h0, h1⟩
    · refine gx_in (x := u + x) (y := v + y) hs (by omega) (by omega) (fun hg => ?_) (fun hg => ?_) (gz_add u x) (gz_add v y)
      · refine br_f (by decide) ?_
        refine gx_size ?_
        have ec : 10000 * (gz_i u + gz_i x) + (gz_i v + gz_i y) = gz_i (10000 * (u + x) + (v + y)) := by rw [gz_add, gz_add, gz_code]
        refine nm_r ec ?_
        refine nm_r (gz_p1 y) ?_
        exact IH (gz_n x y, gz_i (10000 * (u + x) + (v + y))) ⟨gz_Fhit hF h (hN.2.2.2 x y hg) (fun e1 e2 => by subst e1 e2; exact ⟨rfl, rfl⟩), n0, by omega⟩
      · refine br_t rfl ?_
        refine nm_r (gz_p1 y) ?_
        exact IH (L, z) ⟨gz_Fmiss hF (fun e1 e2 => by subst e1 e2; exact absurd hN.2.1 hg), h0, h1⟩
theorem gx_ne {a b c d s t u v p q : Int} {post : Int32 → Prop} (hs : gz_st a b c d)
    (hu : -1000 ≤ u ∧ u ≤ 1000) (hv : -1000 ≤ v ∧ v ≤ 1000) (hN : gz_N a b c d u v p q) (h : post (gz_i (10000 * (u + p) + (v + q)))) :
    wpX_nearest post (gz_i a, gz_i b, gz_i c, gz_i d, gz_i s, gz_i t) (gz_i u) (gz_i v) := by
  have hb := hN.1
  have hn := hN.2.2.1
  have main : ∀ L0 z0 x0 : Int32, L0 = gz_i 1801 → x0 = gz_i (-30) → ∃ n, wX_nearest_21 post (gz_i u) (gz_i v) (gz_i a) (gz_i b) (gz_i c) (gz_i d) (gz_i s) (gz_i t) n L0 z0 x0 := by
    intro L0 z0 x0 hL0 hx0
    subst hL0 hx0
    refine ⟨62, ?_⟩
    refine gz_up (fun n x (z : Int × Int32) => wX_nearest_21 post (gz_i u) (gz_i v) (gz_i a) (gz_i b) (gz_i c) (gz_i d) (gz_i s) (gz_i t) n (gz_i z.1) z.2 x)
      (fun x z => gz_F (gz_n p q) p q (gz_i (10000 * (u + p) + (v + q))) x (-30) z.1 z.2 ∧ 0 ≤ z.1 ∧ z.1 ≤ 100000) (-30) 30 ?_ ?_ 61 (-30) (1801, z0) (by decide) (by decide)
      ⟨gz_F0 (by omega) (by omega) (by show gz_n p q < 1801; omega), by show (0 : Int) ≤ 1801; decide, by show (1801 : Int) ≤ 100000; decide⟩
    · rintro n ⟨L, z⟩ ⟨hF, h0, h1⟩
      dsimp only at hF h0 h1
      obtain ⟨e1, e2⟩ := gz_Fend (by omega) hF
      refine gz_blt 30 (30 + 1) (fun _ => ?_) (fun h => absurd h (by decide))
      rw [← e2] at h
      exact h
    · rintro n x ⟨L, z⟩ hl hh ⟨hF, h0, h1⟩ IH
      refine gz_blt 30 x (fun h => absurd h (by omega)) (fun _ => ?_)
      exact gx_ne32 hs hu hv hN ⟨hl, hh⟩ (fun L z k1 k2 k3 => IH (L, z) ⟨k1, k2, k3⟩) L z hF h0 h1 _ (by decide)
  unfold wpX_nearest
  refine gx_place (by omega) (by omega) (fun _ => ?_) (fun k => absurd ⟨hu, hv⟩ k)
  refine br_f (by decide) ?_
  exact main _ _ _ (by decide) (by decide)
/-- X: how many points within -/
theorem gx_wi32 {a b c d s t x T : Int} {w : Int32} {q : Int → Int → Int} {post : Int32 → Prop} {J : Int32 → Int32 → Prop} (hs : gz_st a b c d)
    (hq : ∀ x y, ((¬ w < gz_i (gz_n x y) ∧ gz_g a b c d x y) → q x y = 1) ∧ (¬ (¬ w < gz_i (gz_n x y) ∧ gz_g a b c d x y) → q x y = 0)) (hx : -30 ≤ x ∧ x ≤ 30)
    (hJ : ∀ k : Int, k + gz_head q (-30) 61 (x + 1) = T → J (gz_i k) (gz_i (x + 1)))
    (k : Int) (hk : k + gz_head q (-30) 61 x = T) (y0 : Int32) (hy0 : y0 = gz_i (-30)) :
    ∃ n, wX_within_32 post J w (gz_i x) (gz_i a) (gz_i b) (gz_i c) (gz_i d) (gz_i s) (gz_i t) n (gz_i k) y0 := by
  subst hy0
  rw [gz_headI q (-30) 61 (by omega)] at hk
  refine ⟨62, ?_⟩
  refine gz_up (fun n y (z : Int) => wX_within_32 post J w (gz_i x) (gz_i a) (gz_i b) (gz_i c) (gz_i d) (gz_i s) (gz_i t) n (gz_i z) y)
    (fun y z => z + gz_rest q (-30) 61 x y = T) (-30) 30 ?_ ?_ 61 (-30) k (by decide) (by decide) hk
  · intro n k hk
    have e : (30 + 1 : Int) = -30 + ((61 : Nat) : Int) := by decide
    rw [e, gz_headO] at hk
    refine gz_blt 30 (30 + 1) (fun _ => ?_) (fun h => absurd h (by decide))
    refine nm_r (gz_p1 x) ?_
    exact hJ k hk
  · intro n y k hl hh hk IH
    rw [gz_rest1 q (-30) 61 (by omega)] at hk
    refine gz_blt 30 y (fun h => absurd h (by omega)) (fun _ => ?_)
    refine gx_size ?_
    refine br_c (fun h => ?_) (fun h => ?_)
    · refine nm_r (gz_p1 y) ?_
      have hv := (hq x y).2 (fun z => z.1 h)
      exact IH k (by omega)
    · refine gx_in (x := x) (y := y) hs (by omega) (by omega) (fun hg => ?_) (fun hg => ?_)
      · refine br_f (by decide) ?_
        refine nm_r (gz_p1 k) ?_
        refine nm_r (gz_p1 y) ?_
        have hv := (hq x y).1 ⟨h, hg⟩
        exact IH (k + 1) (by omega)
      · refine br_t rfl ?_
        refine nm_r (gz_p1 y) ?_
        have hv := (hq x y).2 (fun z => hg z.2)
        exact IH k (by omega)
theorem gx_wi {a b c d s t : Int} {w : Int32} {q : Int → Int → Int} {post : Int32 → Prop} (hs : gz_st a b c d)
    (hq : ∀ x y, ((¬ w < gz_i (gz_n x y) ∧ gz_g a b c d x y) → q x y = 1) ∧ (¬ (¬ w < gz_i (gz_n x y) ∧ gz_g a b c d x y) → q x y = 0)) (h : post (gz_i (gz_tot q (-30) 61))) :
    ∃ n, wX_within_21 post w (gz_i a) (gz_i b) (gz_i c) (gz_i d) (gz_i s) (gz_i t) n 0 (-30) := by
  have main : ∀ k0 x0 : Int32, k0 = gz_i 0 → x0 = gz_i (-30) → ∃ n, wX_within_21 post w (gz_i a) (gz_i b) (gz_i c) (gz_i d) (gz_i s) (gz_i t) n k0 x0 := by
    intro k0 x0 hk0 hx0
    subst hk0 hx0
    refine ⟨62, ?_⟩
    refine gz_up (fun n x (z : Int) => wX_within_21 post w (gz_i a) (gz_i b) (gz_i c) (gz_i d) (gz_i s) (gz_i t) n (gz_i z) x)
      (fun x z => z + gz_head q (-30) 61 x = gz_tot q (-30) 61) (-30) 30 ?_ ?_ 61 (-30) 0 (by decide) (by decide) (by rw [gz_head0]; omega)
    · intro n k hk
      have e : (30 + 1 : Int) = -30 + ((61 : Nat) : Int) := by decide
      rw [e, gz_headE] at hk
      have e2 : k = gz_tot q (-30) 61 := by omega
      refine gz_blt 30 (30 + 1) (fun _ => ?_) (fun h => absurd h (by decide))
      rw [← e2] at h
      exact h
    · intro n x k hl hh hk IH
      refine gz_blt 30 x (fun h => absurd h (by omega)) (fun _ => ?_)
      exact gx_wi32 hs hq ⟨hl, hh⟩ (fun k hk => IH k hk) k hk _ (by decide)
  exact main _ _ (by decide) (by decide)
end
section
/-- Y: the size of a shortest point -/
theorem gy_sh16 {a b c d s t x : Int} {e1 e2 e3 : Int32} {post : Int32 → Prop} {J : Int32 → Int32 → Prop} (hs : gz_st a b c d) (hT : gz_T a b c d s t) (hx : -43 ≤ x ∧ x ≤ 43)
    (hJ : ∀ L : Int, gz_L (gz_n s t) s t (x + 1) (-43) L → L ≤ 100000 → J (gz_i L) (gz_i (x + 1)))
    (L : Int) (hL : gz_L (gz_n s t) s t x (-43) L) (h1 : L ≤ 100000) (y0 : Int32) (hy0 : y0 = gz_i (-43)) :
    ∃ n, wY_shortest_16 post J (gz_i x) (gz_i a) (gz_i b) (gz_i c) (gz_i d) e1 e2 e3 n (gz_i L) y0 := by
  subst hy0
  have hb := hT.1
  have m0 := gz_n0 s t
  have mp := gz_npos hT.2.1
  refine ⟨88, ?_⟩
  refine gz_up (fun n y (z : Int) => wY_shortest_16 post J (gz_i x) (gz_i a) (gz_i b) (gz_i c) (gz_i d) e1 e2 e3 n (gz_i z) y)
    (fun y z => gz_L (gz_n s t) s t x y z ∧ z ≤ 100000) (-43) 43 ?_ ?_ 87 (-43) L (by decide) (by decide) ⟨hL, h1⟩
  · rintro n L ⟨hL, h1⟩
    refine gz_blt 43 (43 + 1) (fun _ => ?_) (fun h => absurd h (by decide))
    refine nm_r (gz_p1 x) ?_
    exact hJ L (gz_Lrow (lo := -43) (hi := 43) (by omega) hL) h1
  · rintro n y L hl hh ⟨hL, h1⟩ IH
    have nb := gz_nup (x := x) (y := y) 43 ⟨by omega, by omega⟩
    have n0 := gz_n0 x y
    have l0 := hL.1
    refine gz_blt 43 y (fun h => absurd h (by omega)) (fun _ => ?_)
    refine nm_r (gz_sz x y) ?_
    refine gz_ble (gz_n x y) 0 (fun h => ?_) (fun hp => ?_)
    · refine nm_r (gz_p1 y) ?_
      exact IH L ⟨gz_Lmiss hL (fun e1 e2 => by subst e1 e2; omega), h1⟩
    · refine gz_ble L (gz_n x y) (fun h => ?_) (fun h => ?_)
      · refine nm_r (gz_p1 y) ?_
        exact IH L ⟨gz_Lmiss hL (fun e1 e2 => by subst e1 e2; omega), h1⟩
      · refine gy_pt hs (by omega) (by omega) (fun hg => ?_) (fun hg => ?_)
        · refine br_f (by decide) ?_
          refine nm_r (gz_p1 y) ?_
          have hm := hT.2.2.2.2 x y (gz_nz hp) hg
          exact IH (gz_n x y) ⟨gz_Lhit hL h (by omega) (fun e1 e2 => by subst e1 e2; rfl), by omega⟩
        · refine br_t rfl ?_
          refine nm_r (gz_p1 y) ?_
          exact IH L ⟨gz_Lmiss hL (fun e1 e2 => by subst e1 e2; exact absurd hT.2.2.1 hg), h1⟩
theorem gy_sh {a b c d s t : Int} {e1 e2 e3 : Int32} {post : Int32 → Prop} (hs : gz_st a b c d) (hT : gz_T a b c d s t) (h : post (gz_i (gz_n s t))) :
    wpY_shortest post (gz_i a, gz_i b, gz_i c, gz_i d, e1, e2, e3) := by
  have hb := hT.1
  have hn := hT.2.2.2.1
  have main : ∀ L0 x0 : Int32, L0 = gz_i 10000 → x0 = gz_i (-43) → ∃ n, wY_shortest_7 post (gz_i a) (gz_i b) (gz_i c) (gz_i d) e1 e2 e3 n L0 x0 := by
    intro L0 x0 hL0 hx0
    subst hL0 hx0
    refine ⟨88, ?_⟩
    refine gz_up (fun n x (z : Int) => wY_shortest_7 post (gz_i a) (gz_i b) (gz_i c) (gz_i d) e1 e2 e3 n (gz_i z) x)
      (fun x z => gz_L (gz_n s t) s t x (-43) z ∧ z ≤ 100000) (-43) 43 ?_ ?_ 87 (-43) 10000 (by decide) (by decide) ⟨gz_L0 (by omega) (by omega) (by omega), by decide⟩
    · rintro n L ⟨hL, h1⟩
      have e := gz_Lend (by omega) hL
      refine gz_blt 43 (43 + 1) (fun _ => ?_) (fun h => absurd h (by decide))
      rw [← e] at h
      exact h
    · rintro n x L hl hh ⟨hL, h1⟩ IH
      refine gz_blt 43 x (fun h => absurd h (by omega)) (fun _ => ?_)
      exact gy_sh16 hs hT ⟨hl, hh⟩ (fun L k1 k2 => IH L ⟨k1, k2⟩) L hL h1 _ (by decide)
  unfold wpY_shortest
  exact main _ _ (by decide) (by decide)
/-- Y: how many shortest points -/
theorem gy_ma20 {a b c d x m T : Int} {e1 e2 e3 : Int32} {q : Int → Int → Int} {post : Int32 → Prop} {J : Int32 → Int32 → Prop} (hs : gz_st a b c d) (hm : 0 ≤ m ∧ m ≤ 100000)
    (hq : ∀ x y, ((gz_n x y = m ∧ gz_g a b c d x y) → q x y = 1) ∧ (¬ (gz_n x y = m ∧ gz_g a b c d x y) → q x y = 0)) (hx : -43 ≤ x ∧ x ≤ 43)
    (hJ : ∀ k : Int, k + gz_head q (-43) 87 (x + 1) = T → J (gz_i k) (gz_i (x + 1)))
    (k : Int) (hk : k + gz_head q (-43) 87 x = T) (y0 : Int32) (hy0 : y0 = gz_i (-43)) :
    ∃ n, wY_many_20 post J (gz_i m) (gz_i x) (gz_i a) (gz_i b) (gz_i c) (gz_i d) e1 e2 e3 n (gz_i k) y0 := by
  subst hy0
  rw [gz_headI q (-43) 87 (by omega)] at hk
  refine ⟨88, ?_⟩
  refine gz_up (fun n y (z : Int) => wY_many_20 post J (gz_i m) (gz_i x) (gz_i a) (gz_i b) (gz_i c) (gz_i d) e1 e2 e3 n (gz_i z) y)
    (fun y z => z + gz_rest q (-43) 87 x y = T) (-43) 43 ?_ ?_ 87 (-43) k (by decide) (by decide) hk
  · intro n k hk
    have e : (43 + 1 : Int) = -43 + ((87 : Nat) : Int) := by decide
    rw [e, gz_headO] at hk
    refine gz_blt 43 (43 + 1) (fun _ => ?_) (fun h => absurd h (by decide))
    refine nm_r (gz_p1 x) ?_
    exact hJ k hk
  · intro n y k hl hh hk IH
    rw [gz_rest1 q (-43) 87 (by omega)] at hk
    have nb := gz_nup (x := x) (y := y) 43 ⟨by omega, by omega⟩
    have n0 := gz_n0 x y
    refine gz_blt 43 y (fun h => absurd h (by omega)) (fun _ => ?_)
    refine gz_beq (gz_n x y) m (fun h => ?_) (fun h => ?_) (gz_sz x y)
    · refine gy_pt hs (by omega) (by omega) (fun hg => ?_) (fun hg => ?_)
      · refine br_f (by decide) ?_
        refine nm_r (gz_p1 k) ?_
        refine nm_r (gz_p1 y) ?_
        have hv := (hq x y).1 ⟨h, hg⟩
        exact IH (k + 1) (by omega)
      · refine br_t rfl ?_
        refine nm_r (gz_p1 y) ?_
        have hv := (hq x y).2 (fun z => hg z.2)
        exact IH k (by omega)
    · refine nm_r (gz_p1 y) ?_
      have hv := (hq x y).2 (fun z => h z.1)
      exact IH k (by omega)
theorem gy_ma {a b c d s t : Int} {e1 e2 e3 : Int32} {q : Int → Int → Int} {post : Int32 → Prop} (hs : gz_st a b c d) (hT : gz_T a b c d s t)
    (hq : ∀ x y, ((gz_n x y = gz_n s t ∧ gz_g a b c d x y) → q x y = 1) ∧ (¬ (gz_n x y = gz_n s t ∧ gz_g a b c d x y) → q x y = 0)) (h : post (gz_i (gz_tot q (-43) 87))) :
    wpY_many post (gz_i a, gz_i b, gz_i c, gz_i d, e1, e2, e3) := by
  have n0 := gz_n0 s t
  have hn := hT.2.2.2.1
  have main : ∀ k0 x0 : Int32, k0 = gz_i 0 → x0 = gz_i (-43) → ∃ n, wY_many_10 post (gz_i (gz_n s t)) (gz_i a) (gz_i b) (gz_i c) (gz_i d) e1 e2 e3 n k0 x0 := by
    intro k0 x0 hk0 hx0
    subst hk0 hx0
    refine ⟨88, ?_⟩
    refine gz_up (fun n x (z : Int) => wY_many_10 post (gz_i (gz_n s t)) (gz_i a) (gz_i b) (gz_i c) (gz_i d) e1 e2 e3 n (gz_i z) x)
      (fun x z => z + gz_head q (-43) 87 x = gz_tot q (-43) 87) (-43) 43 ?_ ?_ 87 (-43) 0 (by decide) (by decide) (by rw [gz_head0]; omega)
    · intro n k hk
      have e : (43 + 1 : Int) = -43 + ((87 : Nat) : Int) := by decide
      rw [e, gz_headE] at hk
      have e2 : k = gz_tot q (-43) 87 := by omega
      refine gz_blt 43 (43 + 1) (fun _ => ?_) (fun h => absurd h (by decide))
      rw [← e2] at h
      exact h
    · intro n x k hl hh hk IH
      refine gz_blt 43 x (fun h => absurd h (by omega)) (fun _ => ?_)
      exact gy_ma20 hs (by omega) hq ⟨hl, hh⟩ (fun k hk => IH k hk) k hk _ (by decide)
  unfold wpY_many
  refine gy_sh hs hT ?_
  exact main _ _ (by decide) (by decide)
/-- Y: the least size beside the line of (s, t) -/
theorem gy_se95 {a b c d s t x m p q : Int} {e1 e2 e3 : Int32} {post : Int32 → Prop} {J : Int32 → Int32 → Prop} (hs : gz_st a b c d) (hst : (-42 ≤ s ∧ s ≤ 42) ∧ (-42 ≤ t ∧ t ≤ 42))
    (hpq : ((-42 ≤ p ∧ p ≤ 42) ∧ (-42 ≤ q ∧ q ≤ 42)) ∧ s * q - t * p ≠ 0 ∧ gz_g a b c d p q ∧ gz_n p q = m)
    (hmin : ∀ x y, s * y - t * x ≠ 0 → gz_g a b c d x y → m ≤ gz_n x y) (hx : -43 ≤ x ∧ x ≤ 43)
    (hJ : ∀ L : Int, gz_L m p q (x + 1) (-43) L → L ≤ 100000 → J (gz_i L) (gz_i (x + 1)))
    (L : Int) (hL : gz_L m p q x (-43) L) (h1 : L ≤ 100000) (y0 : Int32) (hy0 : y0 = gz_i (-43)) :
    ∃ n, wY_second_95 post J (gz_i s) (gz_i t) (gz_i x) (gz_i a) (gz_i b) (gz_i c) (gz_i d) e1 e2 e3 n (gz_i L) y0 := by
  subst hy0
  have hm := hpq.2.2.2
  have hb := hpq.1
  have m0 := gz_n0 p q
  refine ⟨88, ?_⟩
  refine gz_up (fun n y (z : Int) => wY_second_95 post J (gz_i s) (gz_i t) (gz_i x) (gz_i a) (gz_i b) (gz_i c) (gz_i d) e1 e2 e3 n (gz_i z) y)
    (fun y z => gz_L m p q x y z ∧ z ≤ 100000) (-43) 43 ?_ ?_ 87 (-43) L (by decide) (by decide) ⟨hL, h1⟩
  · rintro n L ⟨hL, h1⟩
    refine gz_blt 43 (43 + 1) (fun _ => ?_) (fun h => absurd h (by decide))
    refine nm_r (gz_p1 x) ?_
    exact hJ L (gz_Lrow (lo := -43) (hi := 43) (by omega) hL) h1
  · rintro n y L hl hh ⟨hL, h1⟩ IH
    have nb := gz_nup (x := x) (y := y) 43 ⟨by omega, by omega⟩
    have n0 := gz_n0 x y
    have l0 := hL.1
    have c1 := gz_mb (x := x) (y := t) 43 43 (by omega) (by omega)
    have c2 := gz_mb (x := y) (y := s) 43 43 (by omega) (by omega)
    have ec : s * y - t * x = y * s - x * t := by grind
    refine gz_blt 43 y (fun h => absurd h (by omega)) (fun _ => ?_)
    refine nm_r (gz_sz x y) ?_
    refine gz_beq (x * t) (y * s) (fun e => ?_) (fun e => ?_) (gz_mul x t) (gz_mul y s)
    · refine nm_r (gz_p1 y) ?_
      have e' : s * y - t * x = 0 := by omega
      exact IH L ⟨gz_Lmiss hL (fun e1 e2 => by subst e1 e2; exact absurd e' hpq.2.1), h1⟩
    · have e' : s * y - t * x ≠ 0 := by omega
      refine gz_ble L (gz_n x y) (fun h => ?_) (fun h => ?_)
      · refine nm_r (gz_p1 y) ?_
        exact IH L ⟨gz_Lmiss hL (fun e1 e2 => by subst e1 e2; omega), h1⟩
      · refine gy_pt hs (by omega) (by omega) (fun hg => ?_) (fun hg => ?_)
        · refine br_f (by decide) ?_
          refine nm_r (gz_p1 y) ?_
          exact IH (gz_n x y) ⟨gz_Lhit hL h (hmin x y e' hg) (fun e1 e2 => by subst e1 e2; exact hm), by omega⟩
        · refine br_t rfl ?_
          refine nm_r (gz_p1 y) ?_
          exact IH L ⟨gz_Lmiss hL (fun e1 e2 => by subst e1 e2; exact absurd hpq.2.2.1 hg), h1⟩
theorem gy_se84 {a b c d s t m : Int} {e1 e2 e3 : Int32} {post : Int32 → Prop} (hs : gz_st a b c d) (hst : (-42 ≤ s ∧ s ≤ 42) ∧ (-42 ≤ t ∧ t ≤ 42)) (hM : gz_M a b c d s t m) (h : post (gz_i m)) :
    ∃ n, wY_second_84 post (gz_i s) (gz_i t) (gz_i a) (gz_i b) (gz_i c) (gz_i d) e1 e2 e3 n 10000 (-43) := by
  obtain ⟨⟨p, q, hpq⟩, hm, hmin⟩ := hM
  have hb := hpq.1
  have main : ∀ L0 x0 : Int32, L0 = gz_i 10000 → x0 = gz_i (-43) → ∃ n, wY_second_84 post (gz_i s) (gz_i t) (gz_i a) (gz_i b) (gz_i c) (gz_i d) e1 e2 e3 n L0 x0 := by
    intro L0 x0 hL0 hx0
    subst hL0 hx0
    refine ⟨88, ?_⟩
    refine gz_up (fun n x (z : Int) => wY_second_84 post (gz_i s) (gz_i t) (gz_i a) (gz_i b) (gz_i c) (gz_i d) e1 e2 e3 n (gz_i z) x)
      (fun x z => gz_L m p q x (-43) z ∧ z ≤ 100000) (-43) 43 ?_ ?_ 87 (-43) 10000 (by decide) (by decide) ⟨gz_L0 (by omega) (by omega) (by omega), by decide⟩
    · rintro n L ⟨hL, h1⟩
      have e := gz_Lend (by omega) hL
      refine gz_blt 43 (43 + 1) (fun _ => ?_) (fun h => absurd h (by decide))
      rw [← e] at h
      exact h
    · rintro n x L hl hh ⟨hL, h1⟩ IH
      refine gz_blt 43 x (fun h => absurd h (by omega)) (fun _ => ?_)
      exact gy_se95 hs hst hpq hmin ⟨hl, hh⟩ (fun L k1 k2 => IH L ⟨k1, k2⟩) L hL h1 _ (by decide)
  exact main _ _ (by decide) (by decide)
/-- Y: the last shortest point of the walk -/
theorem gy_la24 {a b c d s t x : Int} {e1 e2 e3 : Int32} {post : Int32 → Prop} {J : Int32 → Int32 → Int32 → Prop} (hs : gz_st a b c d) (hT : gz_T a b c d s t) (hx : -43 ≤ x ∧ x ≤ 43)
    (hJ : ∀ z : Int32 × Int32, gz_K s t (gz_i s, gz_i t) (x + 1) (-43) z → J z.1 z.2 (gz_i (x + 1)))
    (z : Int32 × Int32) (hK : gz_K s t (gz_i s, gz_i t) x (-43) z) (y0 : Int32) (hy0 : y0 = gz_i (-43)) :
    ∃ n, wY_second_24 post J (gz_i (gz_n s t)) (gz_i x) (gz_i a) (gz_i b) (gz_i c) (gz_i d) e1 e2 e3 n z.1 z.2 y0 := by
  subst hy0
  have hb := hT.1
  have hn := hT.2.2.2.1
  have mp := gz_npos hT.2.1
  refine ⟨88, ?_⟩
  refine gz_up (fun n y (z : Int32 × Int32) => wY_second_24 post J (gz_i (gz_n s t)) (gz_i x) (gz_i a) (gz_i b) (gz_i c) (gz_i d) e1 e2 e3 n z.1 z.2 y)
    (fun y z => gz_K s t (gz_i s, gz_i t) x y z) (-43) 43 ?_ ?_ 87 (-43) z (by decide) (by decide) hK
  · intro n z hK
    refine gz_blt 43 (43 + 1) (fun _ => ?_) (fun h => absurd h (by decide))
    refine nm_r (gz_p1 x) ?_
    exact hJ z (gz_Krow (lo := -43) (hi := 43) (by omega) hK)
  · intro n y z hl hh hK IH
    have nb := gz_nup (x := x) (y := y) 43 ⟨by omega, by omega⟩
    have n0 := gz_n0 x y
    refine gz_blt 43 y (fun h => absurd h (by omega)) (fun _ => ?_)
    refine gz_beq (gz_n x y) (gz_n s t) (fun h => ?_) (fun h => ?_) (gz_sz x y)
    · refine gy_pt hs (by omega) (by omega) (fun hg => ?_) (fun hg => ?_)
      · refine br_f (by decide) ?_
        refine nm_r (gz_p1 y) ?_
        have hm := hT.2.2.2.2 x y (gz_nz (by omega)) hg
        exact IH (gz_i x, gz_i y) (gz_Khit (by omega) (fun e1 e2 => by subst e1 e2; rfl))
      · refine br_t rfl ?_
        refine nm_r (gz_p1 y) ?_
        exact IH z (gz_Kmiss hK (fun e => hg (by rw [← e.1, ← e.2]; exact hT.2.2.1)))
    · refine nm_r (gz_p1 y) ?_
      exact IH z (gz_Kmiss hK (fun e => h (by rw [← e.1, ← e.2])))
theorem gy_se {a b c d s t m : Int} {e1 e2 e3 : Int32} {post : Int32 → Prop} (hs : gz_st a b c d) (hT : gz_T a b c d s t) (hM : gz_M a b c d s t m) (h : post (gz_i m)) :
    wpY_second post (gz_i a, gz_i b, gz_i c, gz_i d, e1, e2, e3) := by
  have hb := hT.1
  have main : ∀ z1 z2 x0 : Int32, x0 = gz_i (-43) → ∃ n, wY_second_13 post (gz_i (gz_n s t)) (gz_i a) (gz_i b) (gz_i c) (gz_i d) e1 e2 e3 n z1 z2 x0 := by
    intro z1 z2 x0 hx0
    subst hx0
    refine ⟨88, ?_⟩
    refine gz_up (fun n x (z : Int32 × Int32) => wY_second_13 post (gz_i (gz_n s t)) (gz_i a) (gz_i b) (gz_i c) (gz_i d) e1 e2 e3 n z.1 z.2 x)
      (fun x z => gz_K s t (gz_i s, gz_i t) x (-43) z) (-43) 43 ?_ ?_ 87 (-43) (z1, z2) (by decide) (by decide) (gz_K0 (by omega) (by omega))
    · intro n z hK
      have e := gz_Kend (by omega) hK
      subst e
      refine gz_blt 43 (43 + 1) (fun _ => ?_) (fun h => absurd h (by decide))
      exact gy_se84 hs hb hM h
    · intro n x z hl hh hK IH
      refine gz_blt 43 x (fun h => absurd h (by omega)) (fun _ => ?_)
      exact gy_la24 hs hT ⟨hl, hh⟩ (fun z k => IH z k) z hK _ (by decide)
  unfold wpY_second
  refine gy_sh hs hT ?_
  exact main _ _ _ (by decide)
end
section
theorem gz_nneg (u v x y : Int) : gz_n (u - x) (v - y) = gz_n (x - u) (y - v) := by
  unfold gz_n
  grind
theorem gz_p43 (y : Int) : gz_i y + 43 = gz_i (y + 43) := by
  have e : (43 : Int32) = gz_i 43 := by decide
  rw [e, gz_add]
theorem gz_d43 (y : Int) : gz_i y - 43 = gz_i (y - 43) := by
  have e : (43 : Int32) = gz_i 43 := by decide
  rw [e, gz_sub]
theorem gz_sd (u v x y : Int) : (gz_i u - gz_i x) * (gz_i u - gz_i x) + (gz_i v - gz_i y) * (gz_i v - gz_i y) = gz_i (gz_n (x - u) (y - v)) := by
  rw [gz_sub, gz_sub, gz_sz, gz_nneg]
/-- Y: the nearest point -/
theorem gy_sr25 {a b c d u v x p q : Int} {post : SY → Prop} {J : Int32 → Int32 → Int32 → Int32 → Prop} (hs : gz_st a b c d)
    (hu : -1000 ≤ u ∧ u ≤ 1000) (hv : -1000 ≤ v ∧ v ≤ 1000) (hN : gz_N a b c d u v p q) (hx : u - 43 ≤ x ∧ x ≤ u + 43)
    (hJ : ∀ (L : Int) (z : Int32 × Int32), gz_F (gz_n p q) (u + p) (v + q) (gz_i (u + p), gz_i (v + q)) (x + 1) (v - 43) L z → 0 ≤ L → L ≤ 100000 → J (gz_i (x + 1)) z.1 z.2 (gz_i L))
    (L : Int) (z : Int32 × Int32) (hF : gz_F (gz_n p q) (u + p) (v + q) (gz_i (u + p), gz_i (v + q)) x (v - 43) L z) (h0 : 0 ≤ L) (h1 : L ≤ 100000) :
    ∃ n, wY_search_25 post J (gz_i u) (gz_i v) (gz_i x) (gz_i a) (gz_i b) (gz_i c) (gz_i d) n (gz_i (v - 43)) z.1 z.2 (gz_i L) := by
  have hb := hN.1
  refine ⟨88, ?_⟩
  refine gz_up (fun n y (z : Int × Int32 × Int32) => wY_search_25 post J (gz_i u) (gz_i v) (gz_i x) (gz_i a) (gz_i b) (gz_i c) (gz_i d) n y z.2.1 z.2.2 (gz_i z.1))
    (fun y z => gz_F (gz_n p q) (u + p) (v + q) (gz_i (u + p), gz_i (v + q)) x y z.1 z.2 ∧ 0 ≤ z.1 ∧ z.1 ≤ 100000) (v - 43) (v + 43) ?_ ?_ 87 (v - 43) (L, z) (by omega) (by omega) ⟨hF, h0, h1⟩
  · rintro n ⟨L, z⟩ ⟨hF, h0, h1⟩
    dsimp only at hF h0 h1
    refine gz_blt (v + 43) (v + 43 + 1) (fun _ => ?_) (fun h => absurd h (by omega)) (gz_p43 v)
    refine nm_r (gz_p1 x) ?_
    exact hJ L z (gz_Frow (lo := v - 43) (hi := v + 43) (by omega) hF) h0 h1
  · rintro n y ⟨L, z⟩ hl hh ⟨hF, h0, h1⟩ IH
    dsimp only at hF h0 h1
    have nb := gz_nup (x := x - u) (y := y - v) 43 ⟨by omega, by omega⟩
    have n0 := gz_n0 (x - u) (y - v)
    have ex : u + (x - u) = x := by omega
    have ey : v + (y - v) = y := by omega
    refine gz_blt (v + 43) y (fun h => absurd h (by omega)) (fun _ => ?_) (gz_p43 v)
    refine nm_r (gz_sd u v x y) ?_
    refine gz_ble L (gz_n (x - u) (y - v)) (fun h => ?_) (fun h => ?_)
    · refine nm_r (gz_p1 y) ?_
      refine IH (L, z) ⟨gz_Fmiss hF (fun k1 k2 => ?_), h0, h1⟩
      have z1 : x - u = p := by omega
      have z2 : y - v = q := by omega
      rw [z1, z2] at h
      omega
    · refine gy_pt hs (by omega) (by omega) (fun hg => ?_) (fun hg => ?_)
      · refine br_f (by decide) ?_
        refine nm_r (gz_p1 y) ?_
        have hm := hN.2.2.2 (x - u) (y - v) (by rw [ex, ey]; exact hg)
        refine IH (gz_n (x - u) (y - v), gz_i x, gz_i y) ⟨gz_Fhit hF h (by omega) (fun k1 k2 => ?_), n0, by show gz_n (x - u) (y - v) ≤ 100000; omega⟩
        have z1 : x - u = p := by omega
        have z2 : y - v = q := by omega
        rw [z1, z2, k1, k2]
        exact ⟨rfl, rfl⟩
      · refine br_t rfl ?_
        refine nm_r (gz_p1 y) ?_
        refine IH (L, z) ⟨gz_Fmiss hF (fun k1 k2 => ?_), h0, h1⟩
        have hg2 := hN.2.1
        rw [k1, k2] at hg2
        exact absurd hg2 hg
theorem gy_sr {a b c d u v p q : Int} {e1 e2 e3 : Int32} {post : SY → Prop} (hs : gz_st a b c d)
    (hu : -1000 ≤ u ∧ u ≤ 1000) (hv : -1000 ≤ v ∧ v ≤ 1000) (hN : gz_N a b c d u v p q)
    (h : post (gz_i a, gz_i b, gz_i c, gz_i d, gz_i (u + p), gz_i (v + q), gz_i (gz_n p q))) :
    wpY_search post (gz_i a, gz_i b, gz_i c, gz_i d, e1, e2, e3) (gz_i u) (gz_i v) := by
  have hb := hN.1
  have hn := hN.2.2.1
  have main : ∀ L0 : Int32, L0 = gz_i 100000 → ∃ n, wY_search_11 post (gz_i u) (gz_i v) (gz_i a) (gz_i b) (gz_i c) (gz_i d) n (gz_i (u - 43)) e1 e2 L0 := by
    intro L0 hL0
    subst hL0
    refine ⟨88, ?_⟩
    refine gz_up (fun n x (z : Int × Int32 × Int32) => wY_search_11 post (gz_i u) (gz_i v) (gz_i a) (gz_i b) (gz_i c) (gz_i d) n x z.2.1 z.2.2 (gz_i z.1))
      (fun x z => gz_F (gz_n p q) (u + p) (v + q) (gz_i (u + p), gz_i (v + q)) x (v - 43) z.1 z.2 ∧ 0 ≤ z.1 ∧ z.1 ≤ 100000) (u - 43) (u + 43) ?_ ?_ 87 (u - 43) (100000, e1, e2) (by omega) (by omega)
      ⟨gz_F0 (by omega) (by omega) (by show gz_n p q < 100000; omega), by show (0 : Int) ≤ 100000; decide, by show (100000 : Int) ≤ 100000; decide⟩
    · rintro n ⟨L, z⟩ ⟨hF, h0, h1⟩
      dsimp only at hF h0 h1
      obtain ⟨k1, k2⟩ := gz_Fend (by omega) hF
      refine gz_blt (u + 43) (u + 43 + 1) (fun _ => ?_) (fun h => absurd h (by omega)) (gz_p43 u)
      subst k2
      rw [← k1] at h
      exact h
    · rintro n x ⟨L, z⟩ hl hh ⟨hF, h0, h1⟩ IH
      refine gz_blt (u + 43) x (fun h => absurd h (by omega)) (fun _ => ?_) (gz_p43 u)
      refine nm_r (gz_d43 v) ?_
      exact gy_sr25 hs hu hv hN ⟨hl, hh⟩ (fun L z k1 k2 k3 => IH (L, z) ⟨k1, k2, k3⟩) L z hF h0 h1
  unfold wpY_search
  refine nm_r (gz_d43 u) ?_
  exact main _ (by decide)
/-- Y: how many points within -/
theorem gy_wi32 {a b c d x T : Int} {w e1 e2 e3 : Int32} {q : Int → Int → Int} {post : Int32 → Prop} {J : Int32 → Int32 → Prop} (hs : gz_st a b c d)
    (hq : ∀ x y, ((¬ w < gz_i (gz_n x y) ∧ gz_g a b c d x y) → q x y = 1) ∧ (¬ (¬ w < gz_i (gz_n x y) ∧ gz_g a b c d x y) → q x y = 0)) (hx : -30 ≤ x ∧ x ≤ 30)
    (hJ : ∀ k : Int, k + gz_head q (-30) 61 (x + 1) = T → J (gz_i k) (gz_i (x + 1)))
    (k : Int) (hk : k + gz_head q (-30) 61 x = T) (y0 : Int32) (hy0 : y0 = gz_i (-30)) :
    ∃ n, wY_within_32 post J w (gz_i x) (gz_i a) (gz_i b) (gz_i c) (gz_i d) e1 e2 e3 n (gz_i k) y0 := by
  subst hy0
  rw [gz_headI q (-30) 61 (by omega)] at hk
  refine ⟨62, ?_⟩
  refine gz_up (fun n y (z : Int) => wY_within_32 post J w (gz_i x) (gz_i a) (gz_i b) (gz_i c) (gz_i d) e1 e2 e3 n (gz_i z) y)
    (fun y z => z + gz_rest q (-30) 61 x y = T) (-30) 30 ?_ ?_ 61 (-30) k (by decide) (by decide) hk
  · intro n k hk
    have e : (30 + 1 : Int) = -30 + ((61 : Nat) : Int) := by decide
    rw [e, gz_headO] at hk
    refine gz_blt 30 (30 + 1) (fun _ => ?_) (fun h => absurd h (by decide))
    refine nm_r (gz_p1 x) ?_
    exact hJ k hk
  · intro n y k hl hh hk IH
    rw [gz_rest1 q (-30) 61 (by omega)] at hk
    refine gz_blt 30 y (fun h => absurd h (by omega)) (fun _ => ?_)
    rw [gz_sz x y]
    refine br_c (fun h => ?_) (fun h => ?_)
    · refine nm_r (gz_p1 y) ?_
      have hv := (hq x y).2 (fun z => z.1 h)
      exact IH k (by omega)
    · refine gy_pt hs (by omega) (by omega) (fun hg => ?_) (fun hg => ?_)
      · refine br_f (by decide) ?_
        refine nm_r (gz_p1 k) ?_
        refine nm_r (gz_p1 y) ?_
        have hv := (hq x y).1 ⟨h, hg⟩
        exact IH (k + 1) (by omega)
      · refine br_t rfl ?_
        refine nm_r (gz_p1 y) ?_
        have hv := (hq x y).2 (fun z => hg z.2)
        exact IH k (by omega)
theorem gy_wi {a b c d : Int} {w e1 e2 e3 : Int32} {q : Int → Int → Int} {post : Int32 → Prop} (hs : gz_st a b c d)
    (hq : ∀ x y, ((¬ w < gz_i (gz_n x y) ∧ gz_g a b c d x y) → q x y = 1) ∧ (¬ (¬ w < gz_i (gz_n x y) ∧ gz_g a b c d x y) → q x y = 0)) (h : post (gz_i (gz_tot q (-30) 61))) :
    ∃ n, wY_within_21 post w (gz_i a) (gz_i b) (gz_i c) (gz_i d) e1 e2 e3 n 0 (-30) := by
  have main : ∀ k0 x0 : Int32, k0 = gz_i 0 → x0 = gz_i (-30) → ∃ n, wY_within_21 post w (gz_i a) (gz_i b) (gz_i c) (gz_i d) e1 e2 e3 n k0 x0 := by
    intro k0 x0 hk0 hx0
    subst hk0 hx0
    refine ⟨62, ?_⟩
    refine gz_up (fun n x (z : Int) => wY_within_21 post w (gz_i a) (gz_i b) (gz_i c) (gz_i d) e1 e2 e3 n (gz_i z) x)
      (fun x z => z + gz_head q (-30) 61 x = gz_tot q (-30) 61) (-30) 30 ?_ ?_ 61 (-30) 0 (by decide) (by decide) (by rw [gz_head0]; omega)
    · intro n k hk
      have e : (30 + 1 : Int) = -30 + ((61 : Nat) : Int) := by decide
      rw [e, gz_headE] at hk
      have e2 : k = gz_tot q (-30) 61 := by omega
      refine gz_blt 30 (30 + 1) (fun _ => ?_) (fun h => absurd h (by decide))
      rw [← e2] at h
      exact h
    · intro n x k hl hh hk IH
      refine gz_blt 30 x (fun h => absurd h (by omega)) (fun _ => ?_)
      exact gy_wi32 hs hq ⟨hl, hh⟩ (fun k hk => IH k hk) k hk _ (by decide)
  exact main _ _ (by decide) (by decide)
end
section
/-- the same steps on both sides, and X keeps the shortest point with the greatest x, of several the greatest y -/
def i_Rel (_ : Nat) (u : SX) (v : SY) : Prop :=
  ∃ (a b c d s t : Int) (e1 e2 e3 : Int32), gz_st a b c d ∧ gz_T a b c d s t ∧
    u = (gz_i a, gz_i b, gz_i c, gz_i d, gz_i s, gz_i t) ∧ v = (gz_i a, gz_i b, gz_i c, gz_i d, e1, e2, e3)
theorem i_up {k : Nat} {u : SX} {v : SY} (h : i_Rel k u v) : i_Rel (k + 5) u v := h
theorem gx_hold {a b c d s t : Int} {p1 p2 p3 p4 p5 p6 q1 q2 q3 q4 : Int32} {post : SX → Prop} (hs : gz_st a b c d) (hT : gz_T a b c d s t)
    (h : post (gz_i a, gz_i b, gz_i c, gz_i d, gz_i s, gz_i t)) (h1 : q1 = gz_i a) (h2 : q2 = gz_i b) (h3 : q3 = gz_i c) (h4 : q4 = gz_i d) :
    wpX_hold post (p1, p2, p3, p4, p5, p6) q1 q2 q3 q4 := by
  subst h1 h2 h3 h4
  unfold wpX_hold
  exact gx_fs hs hT h
theorem i_vc0 : wpX_init (fun u => wpY_init (fun v => i_Rel 0 u v)) := by
  have hs : gz_st 1 0 0 1 := by
    unfold gz_st
    decide
  obtain ⟨s, t, hT⟩ := gz_Tex hs
  unfold wpX_init
  refine gx_hold hs hT ?_ (by decide) (by decide) (by decide) (by decide)
  refine ⟨1, 0, 0, 1, s, t, 0, 0, 0, hs, hT, rfl, ?_⟩
  rw [gz_1, gz_0]
theorem i_vc_steps {k : Nat} {u : SX} {v : SY} (I : i_Rel k u v) (hk : k + 5 ≤ 2560) (v1 : Int32) (v2 : Int32) (v3 : Int32) (v4 : Int32) : wpX_steps (fun r u' => wpY_steps (fun r' v' => r' = r ∧ i_Rel (k + 5) u' v') v v1 v2 v3 v4) u v1 v2 v3 v4 := by
  have J : i_Rel (k + 5) u v := I
  obtain ⟨a, b, c, d, s, t, e1, e2, e3, hs, hT, rfl, rfl⟩ := I
  obtain ⟨w1, h1, rfl⟩ := gz_of v1
  obtain ⟨w2, h2, rfl⟩ := gz_of v2
  obtain ⟨w3, h3, rfl⟩ := gz_of v3
  obtain ⟨w4, h4, rfl⟩ := gz_of v4
  unfold wpX_steps
  refine gx_are h1 h2 h3 h4 (fun hw => ?_) (fun hw => ?_)
  · refine br_f (by decide) ?_
    obtain ⟨s', t', hT'⟩ := gz_Tex hw
    refine gx_hold hw hT' ?_ rfl rfl rfl rfl
    have hB := gz_Db hw
    unfold wpY_steps
    refine gy_bad h1 (fun _ => br_t rfl ?_) (fun z => absurd hw.1 z)
    refine gy_bad h2 (fun _ => br_t rfl ?_) (fun z => absurd hw.2.1 z)
    refine gy_bad h3 (fun _ => br_t rfl ?_) (fun z => absurd hw.2.2.1 z)
    refine gy_bad h4 (fun _ => br_t rfl ?_) (fun z => absurd hw.2.2.2.1 z)
    refine gz_beq (w1 * w4 - w2 * w3) 0 (fun z => absurd z hw.2.2.2.2) (fun _ => ?_) (gz_cr w1 w2 w3 w4)
    exact ⟨rfl, w1, w2, w3, w4, s', t', e1, e2, e3, hw, hT', rfl, rfl⟩
  · refine br_t rfl ?_
    unfold wpY_steps
    refine gy_bad h1 (fun k1 => br_t rfl ?_) (fun _ => br_f (by decide) ⟨rfl, J⟩)
    refine gy_bad h2 (fun k2 => br_t rfl ?_) (fun _ => br_f (by decide) ⟨rfl, J⟩)
    refine gy_bad h3 (fun k3 => br_t rfl ?_) (fun _ => br_f (by decide) ⟨rfl, J⟩)
    refine gy_bad h4 (fun k4 => br_t rfl ?_) (fun _ => br_f (by decide) ⟨rfl, J⟩)
    have hB := gz_eb (x := w1) (y := w2) (c := w3) (d := w4) (by omega) (by omega) k3 k4
    exact gz_beq (w1 * w4 - w2 * w3) 0 (fun _ => ⟨rfl, J⟩) (fun z => absurd ⟨k1, k2, k3, k4, z⟩ hw) (gz_cr w1 w2 w3 w4)
theorem i_vc_has {k : Nat} {u : SX} {v : SY} (I : i_Rel k u v) (hk : k + 5 ≤ 2560) (v1 : Int32) (v2 : Int32) : wpX_has (fun r => wpY_has (fun r' => r' = r ∧ i_Rel (k + 5) u v) v v1 v2) u v1 v2 := by
  have J : i_Rel (k + 5) u v := I
  obtain ⟨a, b, c, d, s, t, e1, e2, e3, hs, hT, rfl, rfl⟩ := I
  obtain ⟨w1, h1, rfl⟩ := gz_of v1
  obtain ⟨w2, h2, rfl⟩ := gz_of v2
  unfold wpX_has
  refine gx_place h1 h2 (fun hp => ?_) (fun hp => ?_)
  · refine br_f (by decide) ?_
    refine gx_in (x := w1) (y := w2) hs (by omega) (by omega) (fun hg => ?_) (fun hg => ?_)
    · refine br_f (by decide) ?_
      unfold wpY_has
      refine gy_far h1 h2 (fun _ => br_t rfl ?_) (fun z => absurd hp z)
      exact gy_pt hs (by omega) (by omega) (fun _ => br_f (by decide) ⟨rfl, J⟩) (fun z => absurd hg z)
    · refine br_t rfl ?_
      unfold wpY_has
      refine gy_far h1 h2 (fun _ => br_t rfl ?_) (fun z => absurd hp z)
      exact gy_pt hs (by omega) (by omega) (fun z => absurd z hg) (fun _ => br_t rfl ⟨rfl, J⟩)
  · refine br_t rfl ?_
    unfold wpY_has
    exact gy_far h1 h2 (fun z => absurd z hp) (fun _ => br_f (by decide) ⟨rfl, J⟩)
theorem i_vc_shortest {k : Nat} {u : SX} {v : SY} (I : i_Rel k u v) (hk : k + 5 ≤ 2560) : wpX_shortest (fun r => wpY_shortest (fun r' => r' = r ∧ i_Rel (k + 5) u v) v) u := by
  have J : i_Rel (k + 5) u v := I
  obtain ⟨a, b, c, d, s, t, e1, e2, e3, hs, hT, rfl, rfl⟩ := I
  unfold wpX_shortest
  refine gx_size ?_
  exact gy_sh hs hT ⟨rfl, J⟩
theorem i_vc_many {k : Nat} {u : SX} {v : SY} (I : i_Rel k u v) (hk : k + 5 ≤ 2560) : wpX_many (fun r => wpY_many (fun r' => r' = r ∧ i_Rel (k + 5) u v) v) u := by
  have J : i_Rel (k + 5) u v := I
  obtain ⟨a, b, c, d, s, t, e1, e2, e3, hs, hT, rfl, rfl⟩ := I
  obtain ⟨q, hq⟩ := gz_ind (fun x y => gz_n x y = gz_n s t ∧ gz_g a b c d x y)
  refine gx_ma hs hT hq ?_
  refine gy_ma hs hT hq ⟨?_, J⟩
  refine congrArg gz_i (gz_tot_in q (fun x y hb => (hq x y).2 (fun z => ?_)))
  have h1 := gz_nlo (x := x) (y := y) 42 hb
  have h2 := hT.2.2.2.1
  have h3 := z.1
  omega
theorem i_vc_second {k : Nat} {u : SX} {v : SY} (I : i_Rel k u v) (hk : k + 5 ≤ 2560) : wpX_second (fun r => wpY_second (fun r' => r' = r ∧ i_Rel (k + 5) u v) v) u := by
  have J : i_Rel (k + 5) u v := I
  obtain ⟨a, b, c, d, s, t, e1, e2, e3, hs, hT, rfl, rfl⟩ := I
  obtain ⟨m, hM⟩ := gz_Mex hs hT
  refine gx_se hs hT.1 hM ?_
  exact gy_se hs hT hM ⟨rfl, J⟩
theorem i_vc_distance {k : Nat} {u : SX} {v : SY} (I : i_Rel k u v) (hk : k + 5 ≤ 2560) (v1 : Int32) (v2 : Int32) : wpX_distance (fun r => wpY_distance (fun r' v' => r' = r ∧ i_Rel (k + 5) u v') v v1 v2) u v1 v2 := by
  have J : i_Rel (k + 5) u v := I
  obtain ⟨a, b, c, d, s, t, e1, e2, e3, hs, hT, rfl, rfl⟩ := I
  obtain ⟨w1, h1, rfl⟩ := gz_of v1
  obtain ⟨w2, h2, rfl⟩ := gz_of v2
  by_cases hp : (-1000 ≤ w1 ∧ w1 ≤ 1000) ∧ (-1000 ≤ w2 ∧ w2 ≤ 1000)
  · obtain ⟨p, q, hN⟩ := gz_Nex hs w1 w2
    refine gx_di hs hp.1 hp.2 hN ?_
    unfold wpY_distance
    refine gy_far h1 h2 (fun _ => br_t rfl ?_) (fun z => absurd hp z)
    refine gy_sr hs hp.1 hp.2 hN ?_
    exact ⟨rfl, a, b, c, d, s, t, _, _, _, hs, hT, rfl, rfl⟩
  · unfold wpX_distance
    refine gx_place h1 h2 (fun z => absurd z hp) (fun _ => br_t rfl ?_)
    unfold wpY_distance
    exact gy_far h1 h2 (fun z => absurd z hp) (fun _ => br_f (by decide) ⟨rfl, J⟩)
theorem i_vc_nearest {k : Nat} {u : SX} {v : SY} (I : i_Rel k u v) (hk : k + 5 ≤ 2560) (v1 : Int32) (v2 : Int32) : wpX_nearest (fun r => wpY_nearest (fun r' v' => r' = r ∧ i_Rel (k + 5) u v') v v1 v2) u v1 v2 := by
  have J : i_Rel (k + 5) u v := I
  obtain ⟨a, b, c, d, s, t, e1, e2, e3, hs, hT, rfl, rfl⟩ := I
  obtain ⟨w1, h1, rfl⟩ := gz_of v1
  obtain ⟨w2, h2, rfl⟩ := gz_of v2
  by_cases hp : (-1000 ≤ w1 ∧ w1 ≤ 1000) ∧ (-1000 ≤ w2 ∧ w2 ≤ 1000)
  · obtain ⟨p, q, hN⟩ := gz_Nex hs w1 w2
    refine gx_ne hs hp.1 hp.2 hN ?_
    unfold wpY_nearest
    refine gy_far h1 h2 (fun _ => br_t rfl ?_) (fun z => absurd hp z)
    refine gy_sr hs hp.1 hp.2 hN ?_
    exact ⟨gz_code _ _, a, b, c, d, s, t, _, _, _, hs, hT, rfl, rfl⟩
  · unfold wpX_nearest
    refine gx_place h1 h2 (fun z => absurd z hp) (fun _ => br_t rfl ?_)
    unfold wpY_nearest
    exact gy_far h1 h2 (fun z => absurd z hp) (fun _ => br_f (by decide) ⟨rfl, J⟩)
theorem i_vc_within {k : Nat} {u : SX} {v : SY} (I : i_Rel k u v) (hk : k + 5 ≤ 2560) (v1 : Int32) : wpX_within (fun r => wpY_within (fun r' => r' = r ∧ i_Rel (k + 5) u v) v v1) u v1 := by
  have J : i_Rel (k + 5) u v := I
  obtain ⟨a, b, c, d, s, t, e1, e2, e3, hs, hT, rfl, rfl⟩ := I
  unfold wpX_within
  refine br_c (fun h => ?_) (fun h => ?_)
  · obtain ⟨q, hq⟩ := gz_ind (fun x y => ¬ v1 < gz_i (gz_n x y) ∧ gz_g a b c d x y)
    refine gx_wi hs hq ?_
    unfold wpY_within
    exact br_t h (gy_wi hs hq ⟨rfl, J⟩)
  · obtain ⟨q, hq⟩ := gz_ind (fun x y => ¬ (900 : Int32) < gz_i (gz_n x y) ∧ gz_g a b c d x y)
    refine gx_wi hs hq ?_
    unfold wpY_within
    exact br_f h (gy_wi hs hq ⟨rfl, J⟩)
/-- the answer of same, X's way -/
theorem gx_same {a b c d e f g h : Int} {s t : Int32} {post : Int32 → Prop} (hs : gz_st a b c d) (hw : gz_st e f g h)
    (h1 : ((e * h - f * g = a * d - b * c ∨ e * h - f * g = -(a * d - b * c)) ∧ gz_g a b c d e f ∧ gz_g a b c d g h) → post 1)
    (h0 : ¬ ((e * h - f * g = a * d - b * c ∨ e * h - f * g = -(a * d - b * c)) ∧ gz_g a b c d e f ∧ gz_g a b c d g h) → post 0) :
    wpX_same post (gz_i a, gz_i b, gz_i c, gz_i d, s, t) (gz_i e) (gz_i f) (gz_i g) (gz_i h) := by
  have b1 := gz_Db hs
  have b2 := gz_Db hw
  have r1 := hw.1
  have r2 := hw.2.1
  have r3 := hw.2.2.1
  have r4 := hw.2.2.2.1
  have main : (e * h - f * g = a * d - b * c ∨ e * h - f * g = -(a * d - b * c)) → wX_same_59 post (gz_i e) (gz_i f) (gz_i g) (gz_i h) (gz_i a) (gz_i b) (gz_i c) (gz_i d) s t := by
    intro hE
    unfold wX_same_59 wX_same_64
    refine br_f (by decide) ?_
    refine gx_in (x := e) (y := f) hs (by omega) (by omega) (fun g1 => br_f (by decide) ?_) (fun g1 => br_t rfl (h0 (fun z => g1 z.2.1)))
    exact gx_in (x := g) (y := h) hs (by omega) (by omega) (fun g2 => br_f (by decide) (h1 ⟨hE, g1, g2⟩)) (fun g2 => br_t rfl (h0 (fun z => g2 z.2.2)))
  unfold wpX_same
  refine gx_are (by omega) (by omega) (by omega) (by omega) (fun _ => br_f (by decide) ?_) (fun z => absurd hw z)
  refine gx_cross ?_
  refine gx_cross ?_
  refine gz_beq (e * h - f * g) (a * d - b * c) (fun z => main (Or.inl z)) (fun z1 => ?_)
  refine gz_beq (e * h - f * g) (-(a * d - b * c)) (fun z => main (Or.inr z)) (fun z2 => ?_) rfl (gz_neg _)
  unfold wX_same_64
  exact br_t rfl (h0 (fun z => z.1.elim z1 z2))
/-- the answer of same, Y's way -/
theorem gy_same {a b c d e f g h : Int} {e1 e2 e3 : Int32} {post : Int32 → Prop} (hs : gz_st a b c d) (hw : gz_st e f g h)
    (h1 : ((gz_g a b c d e f ∧ gz_g a b c d g h) ∧ (gz_g e f g h a b ∧ gz_g e f g h c d)) → post 1)
    (h0 : ¬ ((gz_g a b c d e f ∧ gz_g a b c d g h) ∧ (gz_g e f g h a b ∧ gz_g e f g h c d)) → post 0) :
    wpY_same post (gz_i a, gz_i b, gz_i c, gz_i d, e1, e2, e3) (gz_i e) (gz_i f) (gz_i g) (gz_i h) := by
  have b2 := gz_Db hw
  have r1 := hw.1
  have r2 := hw.2.1
  have r3 := hw.2.2.1
  have r4 := hw.2.2.2.1
  have k1 := hs.1
  have k2 := hs.2.1
  have k3 := hs.2.2.1
  have k4 := hs.2.2.2.1
  have no : (¬ (gz_g a b c d e f ∧ gz_g a b c d g h)) → wY_same_65 post (gz_i e) (gz_i f) (gz_i g) (gz_i h) (gz_i a) (gz_i b) (gz_i c) (gz_i d) e1 e2 e3 := by
    intro hn
    have hz : post 0 := h0 (fun z => hn z.1)
    unfold wY_same_65 wY_same_66
    refine gy_in hw (by omega) (by omega) (fun g1 => br_f (by decide) ?_) (fun g1 => br_t rfl ?_)
    · refine gy_in hw (by omega) (by omega) (fun g2 => br_f (by decide) ?_) (fun g2 => br_t rfl ?_)
      · unfold wY_same_111
        exact br_t rfl hz
      · unfold wY_same_110 wY_same_111
        exact br_t rfl hz
    · unfold wY_same_110 wY_same_111
      exact br_t rfl hz
  unfold wpY_same
  refine gy_bad (by omega) (fun _ => br_t rfl ?_) (fun z => absurd r1 z)
  refine gy_bad (by omega) (fun _ => br_t rfl ?_) (fun z => absurd r2 z)
  refine gy_bad (by omega) (fun _ => br_t rfl ?_) (fun z => absurd r3 z)
  refine gy_bad (by omega) (fun _ => br_t rfl ?_) (fun z => absurd r4 z)
  refine gz_beq (e * h - f * g) 0 (fun z => absurd z hw.2.2.2.2) (fun _ => ?_) (gz_cr e f g h)
  refine gy_pt hs (by omega) (by omega) (fun g1 => br_f (by decide) ?_) (fun g1 => br_t rfl (no (fun z => g1 z.1)))
  refine gy_pt hs (by omega) (by omega) (fun g2 => br_f (by decide) ?_) (fun g2 => br_t rfl (no (fun z => g2 z.2)))
  unfold wY_same_66
  refine gy_in hw (by omega) (by omega) (fun g3 => br_f (by decide) ?_) (fun g3 => br_t rfl ?_)
  · refine gy_in hw (by omega) (by omega) (fun g4 => br_f (by decide) ?_) (fun g4 => br_t rfl ?_)
    · unfold wY_same_111
      exact br_f (by decide) (br_f (by decide) (h1 ⟨⟨g1, g2⟩, ⟨g3, g4⟩⟩))
    · unfold wY_same_110 wY_same_111
      exact br_f (by decide) (br_t rfl (h0 (fun z => g4 z.2.2)))
  · unfold wY_same_110 wY_same_111
    exact br_f (by decide) (br_t rfl (h0 (fun z => g3 z.2.1)))
theorem i_vc_same {k : Nat} {u : SX} {v : SY} (I : i_Rel k u v) (hk : k + 5 ≤ 2560) (v1 : Int32) (v2 : Int32) (v3 : Int32) (v4 : Int32) : wpX_same (fun r => wpY_same (fun r' => r' = r ∧ i_Rel (k + 5) u v) v v1 v2 v3 v4) u v1 v2 v3 v4 := by
  have J : i_Rel (k + 5) u v := I
  obtain ⟨a, b, c, d, s, t, e1, e2, e3, hs, hT, rfl, rfl⟩ := I
  obtain ⟨w1, h1, rfl⟩ := gz_of v1
  obtain ⟨w2, h2, rfl⟩ := gz_of v2
  obtain ⟨w3, h3, rfl⟩ := gz_of v3
  obtain ⟨w4, h4, rfl⟩ := gz_of v4
  by_cases hw : gz_st w1 w2 w3 w4
  · have eq := gz_same (a := a) (b := b) (c := c) (d := d) (e := w1) (f := w2) (g := w3) (h := w4) hs.2.2.2.2 hw.2.2.2.2
    refine gx_same hs hw (fun z => ?_) (fun z => ?_)
    · exact gy_same hs hw (fun _ => ⟨rfl, J⟩) (fun y => absurd (eq.mpr z) y)
    · exact gy_same hs hw (fun y => absurd (eq.mp y) z) (fun _ => ⟨rfl, J⟩)
  · unfold wpX_same
    refine gx_are h1 h2 h3 h4 (fun z => absurd z hw) (fun _ => br_t rfl ?_)
    unfold wpY_same
    refine gy_bad h1 (fun k1 => br_t rfl ?_) (fun _ => br_f (by decide) ⟨rfl, J⟩)
    refine gy_bad h2 (fun k2 => br_t rfl ?_) (fun _ => br_f (by decide) ⟨rfl, J⟩)
    refine gy_bad h3 (fun k3 => br_t rfl ?_) (fun _ => br_f (by decide) ⟨rfl, J⟩)
    refine gy_bad h4 (fun k4 => br_t rfl ?_) (fun _ => br_f (by decide) ⟨rfl, J⟩)
    have hB := gz_eb (x := w1) (y := w2) (c := w3) (d := w4) (by omega) (by omega) k3 k4
    exact gz_beq (w1 * w4 - w2 * w3) 0 (fun _ => ⟨rfl, J⟩) (fun z => absurd ⟨k1, k2, k3, k4, z⟩ hw) (gz_cr w1 w2 w3 w4)
end
