/-- an Int as an int of the machine -/
def gz_i (z : Int) : Int32 := Int32.ofInt z
theorem gz_add (a b : Int) : gz_i a + gz_i b = gz_i (a + b) := (Int32.ofInt_add a b).symm
theorem gz_sub (a b : Int) : gz_i a - gz_i b = gz_i (a - b) := (Int32.ofInt_sub a b).symm
theorem gz_mul (a b : Int) : gz_i a * gz_i b = gz_i (a * b) := (Int32.ofInt_mul a b).symm
theorem gz_neg (a : Int) : -gz_i a = gz_i (-a) := (Int32.ofInt_neg a).symm
theorem gz_t {z : Int} (h : -2147483648 ≤ z ∧ z < 2147483648) : (gz_i z).toInt = z :=
  Int32.toInt_ofInt_of_le (by omega) (by omega)
theorem gz_of (x : Int32) : ∃ z : Int, (-2147483648 ≤ z ∧ z < 2147483648) ∧ x = gz_i z :=
  ⟨x.toInt, ⟨by have := Int32.le_toInt x; omega, by have := Int32.toInt_lt x; omega⟩, (Int32.ofInt_toInt x).symm⟩
theorem gz_le {a b : Int} (ha : -2147483648 ≤ a ∧ a < 2147483648) (hb : -2147483648 ≤ b ∧ b < 2147483648) : gz_i a ≤ gz_i b ↔ a ≤ b := by
  rw [Int32.le_iff_toInt_le, gz_t ha, gz_t hb]
theorem gz_lt {a b : Int} (ha : -2147483648 ≤ a ∧ a < 2147483648) (hb : -2147483648 ≤ b ∧ b < 2147483648) : gz_i a < gz_i b ↔ a < b := by
  rw [Int32.lt_iff_toInt_lt, gz_t ha, gz_t hb]
theorem gz_eq {a b : Int} (ha : -2147483648 ≤ a ∧ a < 2147483648) (hb : -2147483648 ≤ b ∧ b < 2147483648) : gz_i a = gz_i b ↔ a = b := by
  rw [← Int32.toInt_inj, gz_t ha, gz_t hb]
theorem gz_0 : gz_i 0 = 0 := by decide
theorem gz_1 : gz_i 1 = 1 := by decide
theorem gz_m1 : gz_i (-1) = -1 := by decide
theorem gz_p1 (y : Int) : gz_i y + 1 = gz_i (y + 1) := by
  rw [← gz_1, gz_add]
theorem gz_d1 (y : Int) : gz_i y + (-1) = gz_i (y - 1) := by
  rw [← gz_m1, gz_add]
  exact congrArg gz_i (Int.sub_eq_add_neg).symm
/-- the printed remainder is 0 just where the divisor divides -/
theorem gz_rem {e m : Int} (he : -2147483647 ≤ e ∧ e < 2147483648) (hm : -2147483648 ≤ m ∧ m < 2147483648) :
    gz_i e - gz_i e / gz_i m * gz_i m = 0 ↔ m ∣ e := by
  have h1 : gz_i e / gz_i m = gz_i (e.tdiv m) :=
    (Int32.ofInt_tdiv (a := e) (b := m) (by rw [Int32.toInt_minValue]; omega) (by rw [Int32.toInt_maxValue]; omega) (by rw [Int32.toInt_minValue]; omega) (by rw [Int32.toInt_maxValue]; omega)).symm
  have h2 : e - e.tdiv m * m = e.tmod m := by rw [Int.tmod_def, Int.mul_comm]
  rw [h1, gz_mul, gz_sub, h2, ← gz_0]
  have h3 : (e.tmod m).natAbs ≤ e.natAbs := by rw [Int.natAbs_tmod]; exact Nat.mod_le _ _
  rw [gz_eq (by omega) (by omega)]
  exact Int.dvd_iff_tmod_eq_zero.symm
/-- branches over machine numbers, by the numbers that they stand for -/
theorem gz_blt {x y : Int32} {A B : Prop} (a b : Int) (f : a < b → A) (g : b ≤ a → B) (hx : x = gz_i a := by first | rfl | decide) (hy : y = gz_i b := by first | rfl | decide)
    (ha : -2147483648 ≤ a ∧ a < 2147483648 := by omega) (hb : -2147483648 ≤ b ∧ b < 2147483648 := by omega) : (x < y → A) ∧ (¬ x < y → B) := by
  rw [hx, hy, gz_lt ha hb]
  exact ⟨f, fun h => g (by omega)⟩
theorem gz_ble {x y : Int32} {A B : Prop} (a b : Int) (f : a ≤ b → A) (g : b < a → B) (hx : x = gz_i a := by first | rfl | decide) (hy : y = gz_i b := by first | rfl | decide)
    (ha : -2147483648 ≤ a ∧ a < 2147483648 := by omega) (hb : -2147483648 ≤ b ∧ b < 2147483648 := by omega) : (x ≤ y → A) ∧ (¬ x ≤ y → B) := by
  rw [hx, hy, gz_le ha hb]
  exact ⟨f, fun h => g (by omega)⟩
theorem gz_beq {x y : Int32} {A B : Prop} (a b : Int) (f : a = b → A) (g : a ≠ b → B) (hx : x = gz_i a := by first | rfl | decide) (hy : y = gz_i b := by first | rfl | decide)
    (ha : -2147483648 ≤ a ∧ a < 2147483648 := by omega) (hb : -2147483648 ≤ b ∧ b < 2147483648 := by omega) : (x = y → A) ∧ (¬ x = y → B) := by
  rw [hx, hy, gz_eq ha hb]
  exact ⟨f, g⟩
/-- a loop whose counter rises, one whose counter falls -/
theorem gz_up {σ : Type} (W : Nat → Int32 → σ → Prop) (I : Int → σ → Prop) (lo hi : Int)
    (hx : ∀ n s, I (hi + 1) s → W (n + 1) (gz_i (hi + 1)) s)
    (hs : ∀ n y s, lo ≤ y → y ≤ hi → I y s → (∀ s', I (y + 1) s' → W n (gz_i (y + 1)) s') → W (n + 1) (gz_i y) s) :
    ∀ (m : Nat) (y : Int) (s : σ), y + m = hi + 1 → lo ≤ y → I y s → W (m + 1) (gz_i y) s := by
  intro m
  induction m with
  | zero =>
    intro y s hy _ hI
    have e : y = hi + 1 := by omega
    subst e
    exact hx 0 s hI
  | succ m ih =>
    intro y s hy hl hI
    exact hs (m + 1) y s hl (by omega) hI (fun s' h' => ih (y + 1) s' (by omega) (by omega) h')
theorem gz_dn {σ : Type} (W : Nat → Int32 → σ → Prop) (I : Int → σ → Prop) (lo hi : Int)
    (hx : ∀ n s, I (lo - 1) s → W (n + 1) (gz_i (lo - 1)) s)
    (hs : ∀ n y s, lo ≤ y → y ≤ hi → I y s → (∀ s', I (y - 1) s' → W n (gz_i (y - 1)) s') → W (n + 1) (gz_i y) s) :
    ∀ (m : Nat) (y : Int) (s : σ), y - m = lo - 1 → y ≤ hi → I y s → W (m + 1) (gz_i y) s := by
  intro m
  induction m with
  | zero =>
    intro y s hy _ hI
    have e : y = lo - 1 := by omega
    subst e
    exact hx 0 s hI
  | succ m ih =>
    intro y s hy hl hI
    exact hs (m + 1) y s (by omega) hl hI (fun s' h' => ih (y - 1) s' (by omega) (by omega) h')
theorem gz_least (P : Nat → Prop) (h : ∃ k, P k) : ∃ k, P k ∧ ∀ j, j < k → ¬ P j := by
  obtain ⟨k, hk⟩ := h
  induction k using Nat.strongRecOn with
  | ind k ih =>
    by_cases e : ∃ j, j < k ∧ P j
    · obtain ⟨j, hj, pj⟩ := e
      exact ih j hj pj
    · exact ⟨k, hk, fun j hj pj => e ⟨j, hj, pj⟩⟩
