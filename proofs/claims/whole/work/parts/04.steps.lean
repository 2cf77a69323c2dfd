/-- in a walk by rising x, then rising y, that has come to (x, y): (p, q) is behind it -/
def gz_P (p q x y : Int) : Prop := p < x ∨ (p = x ∧ q < y)
theorem gz_Prow {p q x lo hi : Int} (h : lo ≤ q ∧ q ≤ hi) : gz_P p q x (hi + 1) ↔ gz_P p q (x + 1) lo := by
  unfold gz_P
  omega
/-- the walk that keeps the first of the least: what it holds when it has come to (x, y) -/
def gz_F {τ : Type} (m p q : Int) (w : τ) (x y L : Int) (z : τ) : Prop := (gz_P p q x y → L = m ∧ z = w) ∧ (¬ gz_P p q x y → m < L)
theorem gz_F0 {τ : Type} {m p q : Int} {w z : τ} {lo lo' L : Int} (h : lo ≤ p) (hq : lo' ≤ q) (hL : m < L) : gz_F m p q w lo lo' L z :=
  ⟨fun hp => absurd hp (by unfold gz_P; omega), fun _ => hL⟩
theorem gz_Fend {τ : Type} {m p q : Int} {w z : τ} {lo hi L : Int} (h : p ≤ hi) (hF : gz_F m p q w (hi + 1) lo L z) : L = m ∧ z = w :=
  hF.1 (by unfold gz_P; omega)
theorem gz_Frow {τ : Type} {m p q : Int} {w z : τ} {x lo hi L : Int} (h : lo ≤ q ∧ q ≤ hi) (hF : gz_F m p q w x (hi + 1) L z) : gz_F m p q w (x + 1) lo L z :=
  ⟨fun hp => hF.1 ((gz_Prow h).mpr hp), fun hp => hF.2 (fun k => hp ((gz_Prow h).mp k))⟩
theorem gz_Fhit {τ : Type} {m p q : Int} {w z v : τ} {x y L k : Int} (hF : gz_F m p q w x y L z) (hk : k < L)
    (hmin : m < k ∨ (m = k ∧ (p < x ∨ (p = x ∧ q ≤ y)))) (hv : p = x → q = y → k = m ∧ v = w) : gz_F m p q w x (y + 1) k v := by
  unfold gz_F at hF ⊢
  by_cases hP : gz_P p q x y
  · have := (hF.1 hP).1
    exfalso
    omega
  · by_cases e : p = x ∧ q = y
    · exact ⟨fun _ => hv e.1 e.2, fun h => (h (Or.inr ⟨e.1, by omega⟩)).elim⟩
    · have hn : ¬ gz_P p q x (y + 1) := by
        unfold gz_P at hP ⊢
        omega
      refine ⟨fun h => absurd h hn, fun _ => ?_⟩
      unfold gz_P at hP
      omega
theorem gz_Fmiss {τ : Type} {m p q : Int} {w z : τ} {x y L : Int} (hF : gz_F m p q w x y L z) (hv : p = x → q = y → ¬ m < L) : gz_F m p q w x (y + 1) L z := by
  unfold gz_F at hF ⊢
  by_cases hP : gz_P p q x y
  · have hP' : gz_P p q x (y + 1) := by
      unfold gz_P at hP ⊢
      omega
    exact ⟨fun _ => hF.1 hP, fun h => absurd hP' h⟩
  · have hn : ¬ gz_P p q x (y + 1) := by
      intro h
      have e : p = x ∧ q = y := by
        unfold gz_P at hP h
        omega
      exact hv e.1 e.2 (hF.2 hP)
    exact ⟨fun h => absurd h hn, fun _ => hF.2 hP⟩
/-- the same by falling x, then falling y -/
theorem gz_Fneg {τ : Type} {m p q : Int} {w z v : τ} {x y L k : Int} (hF : gz_F m (-p) (-q) w (-x) (-y) L z) (hk : k < L)
    (hmin : m < k ∨ (m = k ∧ (x < p ∨ (x = p ∧ y ≤ q)))) (hv : p = x → q = y → k = m ∧ v = w) : gz_F m (-p) (-q) w (-x) (-(y - 1)) k v := by
  have e : -(y - 1) = -y + 1 := by omega
  rw [e]
  exact gz_Fhit hF hk (by omega) (fun h1 h2 => hv (by omega) (by omega))
theorem gz_FnegM {τ : Type} {m p q : Int} {w z : τ} {x y L : Int} (hF : gz_F m (-p) (-q) w (-x) (-y) L z) (hv : p = x → q = y → ¬ m < L) : gz_F m (-p) (-q) w (-x) (-(y - 1)) L z := by
  have e : -(y - 1) = -y + 1 := by omega
  rw [e]
  exact gz_Fmiss hF (fun h1 h2 => hv (by omega) (by omega))
/-- the walk that keeps a least size alone -/
def gz_L (m p q x y L : Int) : Prop := m ≤ L ∧ (gz_P p q x y → L = m)
theorem gz_L0 {m p q lo lo' L : Int} (h : lo ≤ p) (hq : lo' ≤ q) (hL : m ≤ L) : gz_L m p q lo lo' L :=
  ⟨hL, fun hp => absurd hp (by unfold gz_P; omega)⟩
theorem gz_Lend {m p q lo hi L : Int} (h : p ≤ hi) (hF : gz_L m p q (hi + 1) lo L) : L = m :=
  hF.2 (by unfold gz_P; omega)
theorem gz_Lrow {m p q x lo hi L : Int} (h : lo ≤ q ∧ q ≤ hi) (hF : gz_L m p q x (hi + 1) L) : gz_L m p q (x + 1) lo L :=
  ⟨hF.1, fun hp => hF.2 ((gz_Prow h).mpr hp)⟩
theorem gz_Pnx {p q x y : Int} (h : gz_P p q x (y + 1)) : gz_P p q x y ∨ (p = x ∧ q = y) := by
  unfold gz_P at h ⊢
  omega
theorem gz_Lhit {m p q x y L k : Int} (hF : gz_L m p q x y L) (hk : k < L) (hmin : m ≤ k) (hv : p = x → q = y → k = m) : gz_L m p q x (y + 1) k := by
  refine ⟨hmin, fun hp => ?_⟩
  rcases gz_Pnx hp with h | h
  · have := hF.2 h
    omega
  · exact hv h.1 h.2
theorem gz_Lmiss {m p q x y L : Int} (hF : gz_L m p q x y L) (hv : p = x → q = y → ¬ m < L) : gz_L m p q x (y + 1) L := by
  refine ⟨hF.1, fun hp => ?_⟩
  rcases gz_Pnx hp with h | h
  · exact hF.2 h
  · have h1 := hv h.1 h.2
    have h2 := hF.1
    omega
/-- the walk that keeps the last match -/
def gz_K {τ : Type} (p q : Int) (w : τ) (x y : Int) (z : τ) : Prop := gz_P p q x y → z = w
theorem gz_K0 {τ : Type} {p q lo lo' : Int} {w z : τ} (h : lo ≤ p) (hq : lo' ≤ q) : gz_K p q w lo lo' z :=
  fun hp => absurd hp (by unfold gz_P; omega)
theorem gz_Kend {τ : Type} {p q lo hi : Int} {w z : τ} (h : p ≤ hi) (hF : gz_K p q w (hi + 1) lo z) : z = w :=
  hF (by unfold gz_P; omega)
theorem gz_Krow {τ : Type} {p q x lo hi : Int} {w z : τ} (h : lo ≤ q ∧ q ≤ hi) (hF : gz_K p q w x (hi + 1) z) : gz_K p q w (x + 1) lo z :=
  fun hp => hF ((gz_Prow h).mpr hp)
theorem gz_Khit {τ : Type} {p q x y : Int} {w v : τ} (hl : x < p ∨ (x = p ∧ y ≤ q)) (hv : p = x → q = y → v = w) : gz_K p q w x (y + 1) v := by
  intro hp
  rcases gz_Pnx hp with h | h
  · exfalso
    unfold gz_P at h
    omega
  · exact hv h.1 h.2
theorem gz_Kmiss {τ : Type} {p q x y : Int} {w z : τ} (hF : gz_K p q w x y z) (hv : ¬ (p = x ∧ q = y)) : gz_K p q w x (y + 1) z := by
  intro hp
  rcases gz_Pnx hp with h | h
  · exact hF h
  · exact absurd h hv
/-- counts over a square -/
def gz_sum (f : Int → Int) : Nat → Int → Int
  | 0, _ => 0
  | n + 1, x => f x + gz_sum f n (x + 1)
theorem gz_sum_end (f : Int → Int) : ∀ (n : Nat) (x : Int), gz_sum f (n + 1) x = gz_sum f n x + f (x + n) := by
  intro n
  induction n with
  | zero =>
    intro x
    have e : x + ((0 : Nat) : Int) = x := by omega
    rw [e]
    show f x + 0 = 0 + f x
    omega
  | succ n ih =>
    intro x
    have e : x + ((n + 1 : Nat) : Int) = (x + 1) + n := by omega
    have h := ih (x + 1)
    show f x + gz_sum f (n + 1) (x + 1) = (f x + gz_sum f n (x + 1)) + f (x + ((n + 1 : Nat) : Int))
    rw [e, h]
    omega
theorem gz_sum_cg {f g : Int → Int} : ∀ (n : Nat) (x : Int), (∀ z, x ≤ z → z < x + n → f z = g z) → gz_sum f n x = gz_sum g n x := by
  intro n
  induction n with
  | zero => intro x _; rfl
  | succ n ih =>
    intro x h
    show f x + gz_sum f n (x + 1) = g x + gz_sum g n (x + 1)
    rw [h x (by omega) (by omega), ih (x + 1) (fun z h1 h2 => h z (by omega) (by omega))]
theorem gz_sum_0 {f : Int → Int} (n : Nat) (x : Int) (h : ∀ z, x ≤ z → z < x + n → f z = 0) : gz_sum f n x = 0 := by
  rw [gz_sum_cg (g := fun _ => 0) n x h]
  induction n generalizing x with
  | zero => rfl
  | succ n ih =>
    show 0 + gz_sum (fun _ => 0) n (x + 1) = 0
    rw [ih (x + 1) (fun z h1 h2 => h z (by omega) (by omega))]
    rfl
theorem gz_sum_in {f : Int → Int} (n : Nat) (x : Int) (h1 : f x = 0) (h2 : f (x + 1 + n) = 0) : gz_sum f (n + 2) x = gz_sum f n (x + 1) := by
  show f x + gz_sum f (n + 1) (x + 1) = gz_sum f n (x + 1)
  rw [gz_sum_end, h1, h2]
  omega
/-- what is still to be counted from (x, y) on, in a square from lo with n rows -/
def gz_rest (q : Int → Int → Int) (lo : Int) (n : Nat) (x y : Int) : Int :=
  gz_sum (q x) (lo + n - y).toNat y + gz_sum (fun x' => gz_sum (q x') n lo) (lo + n - (x + 1)).toNat (x + 1)
def gz_tot (q : Int → Int → Int) (lo : Int) (n : Nat) : Int := gz_sum (fun x' => gz_sum (q x') n lo) n lo
theorem gz_rest1 (q : Int → Int → Int) (lo : Int) (n : Nat) {x y : Int} (h : y < lo + n) : gz_rest q lo n x y = q x y + gz_rest q lo n x (y + 1) := by
  unfold gz_rest
  have e1 : (lo + n - y).toNat = (lo + n - (y + 1)).toNat + 1 := by omega
  rw [e1]
  show (q x y + gz_sum (q x) (lo + n - (y + 1)).toNat (y + 1)) + _ = _
  omega
/-- the count still to come at the head of row x: nothing behind the last row -/
def gz_head (q : Int → Int → Int) (lo : Int) (n : Nat) (x : Int) : Int := gz_sum (fun x' => gz_sum (q x') n lo) (lo + n - x).toNat x
theorem gz_head0 (q : Int → Int → Int) (lo : Int) (n : Nat) : gz_head q lo n lo = gz_tot q lo n := by
  unfold gz_head gz_tot
  have e1 : (lo + n - lo).toNat = n := by omega
  rw [e1]
theorem gz_headE (q : Int → Int → Int) (lo : Int) (n : Nat) : gz_head q lo n (lo + n) = 0 := by
  unfold gz_head
  have e1 : (lo + n - (lo + n)).toNat = 0 := by omega
  rw [e1]
  rfl
theorem gz_headI (q : Int → Int → Int) (lo : Int) (n : Nat) {x : Int} (h : x < lo + n) : gz_head q lo n x = gz_rest q lo n x lo := by
  unfold gz_head gz_rest
  have e1 : (lo + n - lo).toNat = n := by omega
  have e3 : (lo + n - x).toNat = (lo + n - (x + 1)).toNat + 1 := by omega
  rw [e1, e3]
  rfl
theorem gz_headO (q : Int → Int → Int) (lo : Int) (n : Nat) (x : Int) : gz_rest q lo n x (lo + n) = gz_head q lo n (x + 1) := by
  unfold gz_head gz_rest
  have e1 : (lo + n - (lo + n)).toNat = 0 := by omega
  rw [e1]
  show 0 + _ = _
  omega
/-- the edge of a wider square counts nothing -/
theorem gz_tot_in (q : Int → Int → Int) (h : ∀ x y, ¬ ((-42 ≤ x ∧ x ≤ 42) ∧ (-42 ≤ y ∧ y ≤ 42)) → q x y = 0) : gz_tot q (-43) 87 = gz_tot q (-42) 85 := by
  unfold gz_tot
  have h1 : gz_sum (fun x' => gz_sum (q x') 87 (-43)) 87 (-43) = gz_sum (fun x' => gz_sum (q x') 85 (-42)) 87 (-43) := by
    refine gz_sum_cg _ _ (fun z _ _ => ?_)
    exact gz_sum_in 85 (-43) (h _ _ (by omega)) (h _ _ (by omega))
  rw [h1]
  exact gz_sum_in 85 (-43) (gz_sum_0 _ _ (fun z _ _ => h _ _ (by omega))) (gz_sum_0 _ _ (fun z _ _ => h _ _ (by omega)))
theorem gz_ind (C : Int → Int → Prop) : ∃ q : Int → Int → Int, ∀ x y, (C x y → q x y = 1) ∧ (¬ C x y → q x y = 0) := by
  refine ⟨fun x y => @ite _ (C x y) (Classical.propDecidable _) 1 0, fun x y => ⟨fun h => ?_, fun h => ?_⟩⟩
  · exact if_pos h
  · exact if_neg h
