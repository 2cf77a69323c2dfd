/-- of all pairs in a small set: one with the least f, of several the least x, of those the least y -/
theorem gz_first (S : Int → Int → Prop) (f : Int → Int → Int)
    (hS : ∀ x y, S x y → (-43 ≤ x ∧ x ≤ 43) ∧ (-43 ≤ y ∧ y ≤ 43) ∧ 0 ≤ f x y) (h : ∃ x y, S x y) :
    ∃ x y, S x y ∧ ∀ x' y', S x' y' → f x y < f x' y' ∨ (f x y = f x' y' ∧ (x < x' ∨ (x = x' ∧ y ≤ y'))) := by
  obtain ⟨k, ⟨x, y, hxy, hk⟩, hm⟩ := gz_least (fun k : Nat => ∃ x y, S x y ∧ (k : Int) = f x y * 10000 + (x + 50) * 100 + (y + 50)) (by
    obtain ⟨x, y, hxy⟩ := h
    have := hS x y hxy
    exact ⟨(f x y * 10000 + (x + 50) * 100 + (y + 50)).toNat, x, y, hxy, by omega⟩)
  refine ⟨x, y, hxy, fun x' y' h' => ?_⟩
  have b := hS x y hxy
  have b' := hS x' y' h'
  have hle : (k : Int) ≤ f x' y' * 10000 + (x' + 50) * 100 + (y' + 50) := by
    apply Int.not_lt.mp
    intro hlt
    exact hm (f x' y' * 10000 + (x' + 50) * 100 + (y' + 50)).toNat (by omega) ⟨x', y', h', by omega⟩
  generalize f x y = p at hk b ⊢
  generalize f x' y' = q at hle b' ⊢
  omega
/-- the size of a point -/
def gz_n (x y : Int) : Int := x * x + y * y
theorem gz_n0 (x y : Int) : 0 ≤ gz_n x y := by
  have h1 := gz_s0 x
  have h2 := gz_s0 y
  unfold gz_n
  omega
theorem gz_nlo {x y : Int} (k : Nat) (h : ¬ ((-(k : Int) ≤ x ∧ x ≤ k) ∧ (-(k : Int) ≤ y ∧ y ≤ k))) : (((k + 1) * (k + 1) : Nat) : Int) ≤ gz_n x y := by
  have h1 := gz_s0 x
  have h2 := gz_s0 y
  unfold gz_n
  by_cases hx : -(k : Int) ≤ x ∧ x ≤ k
  · have h3 := gz_sl (x := y) (k + 1) (by omega)
    generalize (k + 1) * (k + 1) = m at h3 ⊢
    omega
  · have h3 := gz_sl (x := x) (k + 1) (by omega)
    generalize (k + 1) * (k + 1) = m at h3 ⊢
    omega
theorem gz_nup {x y : Int} (k : Nat) (h : (-(k : Int) ≤ x ∧ x ≤ k) ∧ (-(k : Int) ≤ y ∧ y ≤ k)) : gz_n x y ≤ ((2 * (k * k) : Nat) : Int) := by
  have h1 := gz_su (x := x) k h.1
  have h2 := gz_su (x := y) k h.2
  unfold gz_n
  generalize k * k = m at h1 h2 ⊢
  omega
theorem gz_npos {x y : Int} (h : x ≠ 0 ∨ y ≠ 0) : 0 < gz_n x y := gz_pos h
theorem gz_nz {x y : Int} (h : 0 < gz_n x y) : x ≠ 0 ∨ y ≠ 0 := by
  by_cases hx : x = 0
  · by_cases hy : y = 0
    · subst hx hy
      exact absurd h (by decide)
    · exact Or.inr hy
  · exact Or.inl hx
/-- (s, t) is the shortest point with the greatest x, of several the greatest y -/
def gz_T (a b c d s t : Int) : Prop :=
  ((-42 ≤ s ∧ s ≤ 42) ∧ (-42 ≤ t ∧ t ≤ 42)) ∧ (s ≠ 0 ∨ t ≠ 0) ∧ gz_g a b c d s t ∧ gz_n s t ≤ 1800 ∧
  ∀ x y, (x ≠ 0 ∨ y ≠ 0) → gz_g a b c d x y → gz_n s t < gz_n x y ∨ (gz_n s t = gz_n x y ∧ (x < s ∨ (x = s ∧ y ≤ t)))
theorem gz_Tex {a b c d : Int} (hs : gz_st a b c d) : ∃ s t, gz_T a b c d s t := by
  have hab : gz_n a b ≤ 1800 := gz_nup 30 ⟨hs.1, hs.2.1⟩
  have h1 := hs.1
  have h2 := hs.2.1
  have h0 := gz_ne hs
  obtain ⟨s, t, ⟨hbox, hne, hg⟩, hmin⟩ := gz_first
    (fun x y => ((-42 ≤ -x ∧ -x ≤ 42) ∧ (-42 ≤ -y ∧ -y ≤ 42)) ∧ (-x ≠ 0 ∨ -y ≠ 0) ∧ gz_g a b c d (-x) (-y)) (fun x y => gz_n (-x) (-y))
    (fun x y h => ⟨by have := h.1; omega, by have := h.1; omega, gz_n0 _ _⟩)
    ⟨-a, -b, ⟨by omega, by omega⟩, by omega, by rw [Int.neg_neg, Int.neg_neg]; exact gz_gab a b c d⟩
  have hm : ∀ x y, ((-42 ≤ x ∧ x ≤ 42) ∧ (-42 ≤ y ∧ y ≤ 42)) → (x ≠ 0 ∨ y ≠ 0) → gz_g a b c d x y →
      gz_n (-s) (-t) < gz_n x y ∨ (gz_n (-s) (-t) = gz_n x y ∧ (x < -s ∨ (x = -s ∧ y ≤ -t))) := by
    intro x y k1 k2 k3
    have h := hmin (-x) (-y) ⟨⟨by omega, by omega⟩, by omega, by rw [Int.neg_neg, Int.neg_neg]; exact k3⟩
    rw [Int.neg_neg, Int.neg_neg] at h
    omega
  have hle : gz_n (-s) (-t) ≤ gz_n a b := by
    have := hm a b ⟨by omega, by omega⟩ h0 (gz_gab a b c d)
    omega
  refine ⟨-s, -t, hbox, hne, hg, by omega, ?_⟩
  intro x y hxy hgxy
  by_cases hb : (-42 ≤ x ∧ x ≤ 42) ∧ (-42 ≤ y ∧ y ≤ 42)
  · exact hm x y hb hxy hgxy
  · have := gz_nlo (x := x) (y := y) 42 hb
    exact Or.inl (by omega)
/-- m is the least size beside the line of (s, t) -/
def gz_M (a b c d s t m : Int) : Prop :=
  (∃ x y, ((-42 ≤ x ∧ x ≤ 42) ∧ (-42 ≤ y ∧ y ≤ 42)) ∧ s * y - t * x ≠ 0 ∧ gz_g a b c d x y ∧ gz_n x y = m) ∧ m ≤ 1800 ∧
  ∀ x y, s * y - t * x ≠ 0 → gz_g a b c d x y → m ≤ gz_n x y
theorem gz_Mex {a b c d s t : Int} (hs : gz_st a b c d) (hT : gz_T a b c d s t) : ∃ m, gz_M a b c d s t m := by
  have hab : gz_n a b ≤ 1800 := gz_nup 30 ⟨hs.1, hs.2.1⟩
  have hcd : gz_n c d ≤ 1800 := gz_nup 30 ⟨hs.2.2.1, hs.2.2.2.1⟩
  have h1 := hs.1
  have h2 := hs.2.1
  have h3 := hs.2.2.1
  have h4 := hs.2.2.2.1
  have hD := hs.2.2.2.2
  have hoff : ∃ x y, ((-42 ≤ x ∧ x ≤ 42) ∧ (-42 ≤ y ∧ y ≤ 42)) ∧ s * y - t * x ≠ 0 ∧ gz_g a b c d x y ∧ gz_n x y ≤ 1800 := by
    by_cases e1 : s * b - t * a = 0
    · by_cases e2 : s * d - t * c = 0
      · exfalso
        have z1 : (a * d - b * c) * s = a * (s * d - t * c) - c * (s * b - t * a) := by grind
        have z2 : (a * d - b * c) * t = b * (s * d - t * c) - d * (s * b - t * a) := by grind
        rw [e1, e2, Int.mul_zero, Int.mul_zero, Int.sub_zero] at z1 z2
        rcases hT.2.1 with h | h
        · rcases Int.mul_eq_zero.mp z1 with z | z
          · exact hD z
          · exact h z
        · rcases Int.mul_eq_zero.mp z2 with z | z
          · exact hD z
          · exact h z
      · exact ⟨c, d, ⟨by omega, by omega⟩, e2, gz_gcd a b c d, hcd⟩
    · exact ⟨a, b, ⟨by omega, by omega⟩, e1, gz_gab a b c d, hab⟩
  obtain ⟨x0, y0, hb0, ho0, hg0, hn0⟩ := hoff
  obtain ⟨x, y, ⟨hb, ho, hg⟩, hmin⟩ := gz_first
    (fun x y => ((-42 ≤ x ∧ x ≤ 42) ∧ (-42 ≤ y ∧ y ≤ 42)) ∧ s * y - t * x ≠ 0 ∧ gz_g a b c d x y) gz_n
    (fun x y h => ⟨by have := h.1; omega, by have := h.1; omega, gz_n0 _ _⟩) ⟨x0, y0, hb0, ho0, hg0⟩
  have hle : gz_n x y ≤ 1800 := by
    have := hmin x0 y0 ⟨hb0, ho0, hg0⟩
    omega
  refine ⟨gz_n x y, ⟨x, y, hb, ho, hg, rfl⟩, hle, ?_⟩
  intro x' y' ho' hg'
  by_cases hb' : (-42 ≤ x' ∧ x' ≤ 42) ∧ (-42 ≤ y' ∧ y' ≤ 42)
  · have := hmin x' y' ⟨hb', ho', hg'⟩
    omega
  · have := gz_nlo (x := x') (y := y') 42 hb'
    omega
/-- (x + r, y + s) is the point nearest to (x, y), of several the first by x, then by y -/
def gz_N (a b c d x y r s : Int) : Prop :=
  ((-30 ≤ r ∧ r ≤ 30) ∧ (-30 ≤ s ∧ s ≤ 30)) ∧ gz_g a b c d (x + r) (y + s) ∧ gz_n r s ≤ 900 ∧
  ∀ r' s', gz_g a b c d (x + r') (y + s') → gz_n r s < gz_n r' s' ∨ (gz_n r s = gz_n r' s' ∧ (r < r' ∨ (r = r' ∧ s ≤ s')))
theorem gz_Nex {a b c d : Int} (hs : gz_st a b c d) (x y : Int) : ∃ r s, gz_N a b c d x y r s := by
  obtain ⟨u, v, hg0, hn0⟩ := gz_cover hs x y
  have hn0' : gz_n (u - x) (v - y) ≤ 900 := hn0
  have hb0 : (-30 ≤ u - x ∧ u - x ≤ 30) ∧ (-30 ≤ v - y ∧ v - y ≤ 30) := by
    by_cases hb : (-30 ≤ u - x ∧ u - x ≤ 30) ∧ (-30 ≤ v - y ∧ v - y ≤ 30)
    · exact hb
    · have := gz_nlo (x := u - x) (y := v - y) 30 hb
      omega
  have e1 : x + (u - x) = u := by omega
  have e2 : y + (v - y) = v := by omega
  have hg0' : gz_g a b c d (x + (u - x)) (y + (v - y)) := by rw [e1, e2]; exact hg0
  obtain ⟨r, s, ⟨hb, hg⟩, hmin⟩ := gz_first
    (fun r s => ((-30 ≤ r ∧ r ≤ 30) ∧ (-30 ≤ s ∧ s ≤ 30)) ∧ gz_g a b c d (x + r) (y + s)) gz_n
    (fun x y h => ⟨by have := h.1; omega, by have := h.1; omega, gz_n0 _ _⟩) ⟨u - x, v - y, hb0, hg0'⟩
  have hle : gz_n r s ≤ 900 := by
    have := hmin (u - x) (v - y) ⟨hb0, hg0'⟩
    omega
  refine ⟨r, s, hb, hg, hle, ?_⟩
  intro r' s' hg'
  by_cases hb' : (-30 ≤ r' ∧ r' ≤ 30) ∧ (-30 ≤ s' ∧ s' ≤ 30)
  · exact hmin r' s' ⟨hb', hg'⟩
  · have := gz_nlo (x := r') (y := s') 30 hb'
    exact Or.inl (by omega)
