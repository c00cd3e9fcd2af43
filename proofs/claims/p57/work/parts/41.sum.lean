/-! ===== sums over slots, without machine ===== -/
section GSum
def gS (f : Nat → Nat) : Nat → Nat
  | 0 => 0
  | m + 1 => gS f m + f m
def gI (b : Bool) : Nat := if b = true then 1 else 0
/-- how many of the sixteen -/
def gC (q : Nat → Bool) : Nat := gS (fun i => gI (q i)) 16
theorem gS_congr {f g : Nat → Nat} : ∀ m, (∀ i, i < m → f i = g i) → gS f m = gS g m := by
  intro m
  induction m with
  | zero => intro _; rfl
  | succ m ih => intro h; simp only [gS]; rw [ih (fun i hi => h i (by omega)), h m (by omega)]
theorem gS_le {f g : Nat → Nat} : ∀ m, (∀ i, i < m → f i ≤ g i) → gS f m ≤ gS g m := by
  intro m
  induction m with
  | zero => intro _; exact Nat.le_refl _
  | succ m ih =>
    intro h
    have h1 := ih (fun i hi => h i (by omega))
    have h2 := h m (by omega)
    simp only [gS]; omega
theorem gS_add {f g : Nat → Nat} : ∀ m, gS (fun i => f i + g i) m = gS f m + gS g m := by
  intro m
  induction m with
  | zero => rfl
  | succ m ih => simp only [gS]; rw [ih]; omega
theorem gS_zero : ∀ m, gS (fun _ => 0) m = 0 := by
  intro m
  induction m with
  | zero => rfl
  | succ m ih => simp only [gS]; rw [ih]
theorem gS_const {c : Nat} : ∀ m, gS (fun _ => c) m = m * c := by
  intro m
  induction m with
  | zero => simp [gS]
  | succ m ih => simp only [gS]; rw [ih, Nat.succ_mul]
theorem gS_mul {f : Nat → Nat} {c : Nat} : ∀ m, gS (fun i => c * f i) m = c * gS f m := by
  intro m
  induction m with
  | zero => simp [gS]
  | succ m ih => simp only [gS]; rw [ih, Nat.mul_add]
/-- the two orders of a double sum -/
theorem gS_swap {f : Nat → Nat → Nat} {k : Nat} : ∀ m, gS (fun i => gS (fun j => f i j) k) m = gS (fun j => gS (fun i => f i j) m) k := by
  intro m
  induction m with
  | zero => simp only [gS]; rw [gS_zero]
  | succ m ih => simp only [gS]; rw [ih, ← gS_add]
/-- one place of the sum -/
theorem gS_one {f : Nat → Nat} {a : Nat} : ∀ m, a < m → (∀ i, i < m → i ≠ a → f i = 0) → gS f m = f a := by
  intro m
  induction m with
  | zero => intro h; omega
  | succ m ih =>
    intro h h0
    simp only [gS]
    by_cases hm : m = a
    · subst hm
      rw [gS_congr (g := fun _ => 0) m (fun i hi => h0 i (by omega) (by omega)), gS_zero]; omega
    · rw [ih (by omega) (fun i hi hne => h0 i (by omega) hne), h0 m (by omega) hm]; omega
theorem gS_none {f : Nat → Nat} {m : Nat} (h : ∀ i, i < m → f i = 0) : gS f m = 0 := by
  rw [gS_congr (g := fun _ => 0) m h, gS_zero]
/-- a place is in the sum -/
theorem gS_at {f : Nat → Nat} {a : Nat} : ∀ m, a < m → f a ≤ gS f m := by
  intro m
  induction m with
  | zero => intro h; omega
  | succ m ih =>
    intro h
    simp only [gS]
    by_cases hm : m = a
    · subst hm; omega
    · have := ih (by omega); omega
theorem gS_lt {f g : Nat → Nat} {a : Nat} : ∀ m, a < m → (∀ i, i < m → f i ≤ g i) → f a < g a → gS f m < gS g m := by
  intro m
  induction m with
  | zero => intro h; omega
  | succ m ih =>
    intro h h1 h2
    simp only [gS]
    by_cases hm : m = a
    · subst hm
      have := gS_le m (fun i hi => h1 i (by omega)); omega
    · have := ih (by omega) (fun i hi => h1 i (by omega)) h2
      have := h1 m (by omega); omega
/-- as many as places, none above one: each is one -/
theorem gS_full {f : Nat → Nat} : ∀ m, (∀ i, i < m → f i ≤ 1) → gS f m = m → ∀ i, i < m → f i = 1 := by
  intro m
  induction m with
  | zero => intro _ _ i hi; omega
  | succ m ih =>
    intro h1 h2 i hi
    have h3 : gS f m ≤ m := by
      have := gS_le (g := fun _ => 1) m (fun i hi => h1 i (by omega))
      rw [gS_const] at this; omega
    simp only [gS] at h2
    have h4 := h1 m (by omega)
    by_cases hm : i = m
    · subst hm; omega
    · exact ih (fun i hi => h1 i (by omega)) (by omega) i (by omega)
theorem gS_ext {f : Nat → Nat} {m : Nat} : ∀ k, (∀ i, m ≤ i → f i = 0) → gS f (m + k) = gS f m := by
  intro k
  induction k with
  | zero => intro _; rfl
  | succ k ih => intro h; rw [show m + (k + 1) = (m + k) + 1 by omega]; simp only [gS]; rw [ih h, h (m + k) (by omega)]; rfl
theorem gI_le (b : Bool) : gI b ≤ 1 := by cases b <;> decide
theorem gI_1 {b : Bool} (h : b = true) : gI b = 1 := by subst h; rfl
theorem gI_0 {b : Bool} (h : b = false) : gI b = 0 := by subst h; rfl
theorem gI_mono {a b : Bool} (h : a = true → b = true) : gI a ≤ gI b := by
  cases a with
  | false => exact Nat.zero_le _
  | true => rw [h rfl]; exact Nat.le_refl _
theorem gC_le {q r : Nat → Bool} (h : ∀ i, i < 16 → q i = true → r i = true) : gC q ≤ gC r := gS_le 16 (fun i hi => gI_mono (h i hi))
theorem gC_16 (q : Nat → Bool) : gC q ≤ 16 := by
  have := gS_le (f := fun i => gI (q i)) (g := fun _ => 1) 16 (fun i _ => gI_le _)
  rw [gS_const] at this; exact this
theorem gC_lt {q r : Nat → Bool} {a : Nat} (ha : a < 16) (h : ∀ i, i < 16 → q i = true → r i = true) (h0 : q a = false) (h1 : r a = true) : gC q < gC r :=
  gS_lt 16 ha (fun i hi => gI_mono (h i hi)) (by rw [gI_0 h0, gI_1 h1]; decide)
theorem gC_pos {q : Nat → Bool} {a : Nat} (ha : a < 16) (h : q a = true) : 0 < gC q := by
  have := gS_at (f := fun i => gI (q i)) 16 ha
  rw [gI_1 h] at this; exact this
theorem gC_congr {q r : Nat → Bool} (h : ∀ i, i < 16 → q i = r i) : gC q = gC r := gS_congr 16 (fun i hi => by rw [h i hi])
/-- the machine's counters -/
theorem nI_up {a : Nat} : nI a + 1 = nI (a + 1) := nI_1 a
theorem jCt_l (q : Nat → Bool) : ∀ n i a, jIter (fun (a : Int32) i => if q i = true then a + 1 else a) n i (nI a) = nI (a + (gS (fun k => gI (q (i + k))) n)) := by
  intro n
  induction n with
  | zero => intro i a; rfl
  | succ n ih =>
    intro i a
    have e : ∀ m, gS (fun k => gI (q (i + k))) (m + 1) = gI (q i) + gS (fun k => gI (q (i + 1 + k))) m := by
      intro m
      induction m with
      | zero => simp [gS]
      | succ m ihm =>
        rw [gS, ihm]
        simp only [gS]
        rw [show i + (m + 1) = i + 1 + m by omega]; omega
    rw [jIter, e n]
    cases hq : q i with
    | false => simp only [Bool.false_eq_true, if_false]; rw [ih, gI_0 rfl]; congr 1; omega
    | true => simp only [if_true]; rw [nI_up, ih, gI_1 rfl]; congr 1; omega
theorem jCt_eq (q : Nat → Bool) : jCt q = nI (gC q) := by
  have := jCt_l q 16 0 0
  simp only [Nat.zero_add] at this
  exact this
end GSum
