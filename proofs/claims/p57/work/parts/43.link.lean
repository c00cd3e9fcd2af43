/-! ===== a state's rows as a tree ===== -/
theorem nI_m1 {a : Nat} (h : a < 2 ^ 31) : ¬ nI a = -1 := fun e => nI_pos h (by rw [e]; decide)
theorem jRd_n {n i : Nat} {f : Nat → Int32} (h : i < n) (hn : n < 2 ^ 31) : jRd n f (nI i) = f i := by
  unfold jRd
  rw [if_neg (nI_pos (by omega)), if_neg (show ¬ Int32.ofNat n ≤ nI i from fun e => absurd ((nI_leI (a := n) hn (by omega)).mp e) (by omega)), nI_clamp (by omega)]
theorem jRd_m1 {n : Nat} {f : Nat → Int32} : jRd n f (-1) = -1 := by
  unfold jRd; rw [if_pos (by decide)]
theorem jGt_m1 {R : Nat → Nat → Int32} {s k : Nat} : jGt R s k (-1) = -1 := jRd_m1
theorem jGt_n {R : Nat → Nat → Int32} {k i : Nat} (hk : k < 12) (h : i < [16, 16, 16, 16, 16, 16, 64, 4, 4, 4, 16, 4].getD k 0) : jGt R 0 k (nI i) = R k i := by
  unfold jGt
  rw [Nat.mul_zero, Nat.zero_add]
  have e := jLn_st (s := 0) (k := k) (by omega) hk
  rw [Nat.mul_zero, Nat.zero_add] at e
  exact jRd_n (by rw [e]; exact h) (jLn_31 k)
theorem jGt_5 {R : Nat → Nat → Int32} {k i : Nat} (hk : k < 6) (h : i < 16) : jGt R 0 k (nI i) = R k i := by
  refine jGt_n (by omega) ?_
  rcases (show k = 0 ∨ k = 1 ∨ k = 2 ∨ k = 3 ∨ k = 4 ∨ k = 5 by omega) with rfl | rfl | rfl | rfl | rfl | rfl <;> exact h
theorem jGt_8 {R : Nat → Nat → Int32} {i : Nat} (h : i < 4) : jGt R 0 8 (nI i) = R 8 i := jGt_n (by omega) h
theorem jFind_c (q : Nat → Bool) : ∀ n i, (∃ k, i ≤ k ∧ k < i + n ∧ q k = true ∧ (∀ j, i ≤ j → j < k → q j = false) ∧ jFind q n i = nI k) ∨ ((∀ k, i ≤ k → k < i + n → q k = false) ∧ jFind q n i = -1) := by
  intro n
  induction n with
  | zero => intro i; exact Or.inr ⟨fun k h1 h2 => by omega, rfl⟩
  | succ n ih =>
    intro i
    rw [jFind]
    cases hq : q i with
    | true => rw [if_pos rfl]; exact Or.inl ⟨i, by omega, by omega, hq, fun j h1 h2 => by omega, rfl⟩
    | false =>
      rw [if_neg (by decide)]
      rcases ih (i + 1) with ⟨k, h1, h2, h3, h4, h5⟩ | ⟨h1, h2⟩
      · refine Or.inl ⟨k, by omega, by omega, h3, fun j g1 g2 => ?_, h5⟩
        by_cases hj : j = i
        · subst hj; exact hq
        · exact h4 j (by omega) g2
      · refine Or.inr ⟨fun k g1 g2 => ?_, h2⟩
        by_cases hj : k = i
        · subst hj; exact hq
        · exact h1 k (by omega) (by omega)
def gU (R : Nat → Nat → Int32) (i : Nat) : Bool := decide (i < 16) && decide (¬ R 0 i = -1)
def gN (R : Nat → Nat → Int32) (i : Nat) : Nat := (R 0 i).toNatClampNeg
def gP (R : Nat → Nat → Int32) (i : Nat) : Nat := (R 1 i).toNatClampNeg
/-- the tree's part of what holds always -/
def jT1 (R : Nat → Nat → Int32) : Prop :=
  R 0 0 = 0 ∧ (∀ i, i < 16 → ¬ R 0 i = -1 → ¬ R 0 i < 0) ∧ R 1 0 = -1 ∧ (∀ i, i < 16 → R 0 i = -1 → R 1 i = -1 ∧ R 2 i = -1)
  ∧ (∀ i, gU R i = true → i ≠ 0 → ∃ q, R 1 i = nI q ∧ gU R q = true ∧ R 0 q < R 0 i) ∧ (∀ i j, gU R i = true → gU R j = true → R 0 i = R 0 j → i = j)
section GLink
variable {R : Nat → Nat → Int32}
theorem gU_16 {i : Nat} (h : gU R i = true) : i < 16 := by
  unfold gU at h
  simp only [Bool.and_eq_true, decide_eq_true_eq] at h
  exact h.1
theorem gU_ne {i : Nat} (h : gU R i = true) : ¬ R 0 i = -1 := by
  unfold gU at h
  simp only [Bool.and_eq_true, decide_eq_true_eq] at h
  exact h.2
theorem gU_of {i : Nat} (h : i < 16) (h1 : ¬ R 0 i = -1) : gU R i = true := by
  unfold gU
  simp [h, h1]
theorem gU_no {i : Nat} (h : i < 16) (h1 : gU R i = false) : R 0 i = -1 := by
  unfold gU at h1
  simpa [h] using h1
theorem jUsed_g {i : Nat} (h : i < 16) : jUsed R 0 (nI i) = gU R i := by
  unfold jUsed gU
  rw [jGt_5 (by omega) h]
  simp [h]
theorem jT1.n (h : jT1 R) {i : Nat} (hi : gU R i = true) : R 0 i = nI (gN R i) ∧ gN R i < 2 ^ 31 := by
  obtain ⟨j, hj, e⟩ := nI_of (h.2.1 i (gU_16 hi) (gU_ne hi))
  unfold gN
  rw [e, nI_clamp hj]
  exact ⟨rfl, hj⟩
theorem jT1.u0 (h : jT1 R) : gU R 0 = true := gU_of (by omega) (by rw [h.1]; decide)
theorem jT1.n0 (h : jT1 R) : gN R 0 = 0 := by unfold gN; rw [h.1]; rfl
theorem jT1.p (h : jT1 R) {i : Nat} (hi : gU R i = true) (h0 : i ≠ 0) : R 1 i = nI (gP R i) ∧ gP R i < 16 ∧ gU R (gP R i) = true ∧ gN R (gP R i) < gN R i := by
  obtain ⟨q, e, hq, hl⟩ := h.2.2.2.2.1 i hi h0
  have hq16 := gU_16 hq
  have e2 : gP R i = q := by unfold gP; rw [e, nI_clamp (by omega)]
  rw [e2]
  refine ⟨e, hq16, hq, ?_⟩
  obtain ⟨g1, g2⟩ := h.n hq
  obtain ⟨g3, g4⟩ := h.n hi
  rw [g1, g3] at hl
  exact (nI_ltI g2 g4).mp hl
theorem jT1.tree (h : jT1 R) : gTree (gU R) (gP R) (gN R) := by
  refine ⟨h.u0, fun i hi => gU_16 hi, fun i hi h0 => ?_, fun i j hi hj e => ?_⟩
  · obtain ⟨-, -, g3, g4⟩ := h.p hi h0
    exact ⟨g3, g4⟩
  · refine h.2.2.2.2.2 i j hi hj ?_
    rw [(h.n hi).1, (h.n hj).1, e]
theorem jT1.g1 (h : jT1 R) {i : Nat} (hi : i < 16) : jGt R 0 1 (nI i) = if gU R i = true ∧ i ≠ 0 then nI (gP R i) else -1 := by
  rw [jGt_5 (by omega) hi]
  by_cases h0 : i = 0
  · subst h0; rw [if_neg (fun e => e.2 rfl)]; exact h.2.2.1
  · cases hu : gU R i with
    | true => rw [if_pos ⟨rfl, h0⟩]; exact (h.p hu h0).1
    | false => rw [if_neg (fun e => by cases e.1)]; exact (h.2.2.2.1 i hi (gU_no hi hu)).1
theorem jT1.g1p (h : jT1 R) {i : Nat} (hi : gU R i = true) (h0 : i ≠ 0) : jGt R 0 1 (nI i) = nI (gP R i) := by
  rw [h.g1 (gU_16 hi), if_pos ⟨hi, h0⟩]
theorem jT1.g10 (h : jT1 R) : jGt R 0 1 (nI 0) = -1 := by
  rw [h.g1 (by omega), if_neg (fun e => e.2 rfl)]
theorem jT1.g1n (h : jT1 R) {i : Nat} (hi : i < 16) (hu : gU R i = false) : jGt R 0 1 (nI i) = -1 := by
  rw [h.g1 hi, if_neg (fun e => by rw [hu] at e; cases e.1)]
theorem jHt_m1 : ∀ n c, jHt R n c (-1) = nI c := by
  intro n
  cases n with
  | zero => intro c; rfl
  | succ n => intro c; rw [jHt, if_pos rfl]
theorem jT1.ht (h : jT1 R) : ∀ n c x, gU R x = true → jHt R n c (jGt R 0 1 (nI x)) = nI (c + gDf (gP R) n x) := by
  intro n
  induction n with
  | zero => intro c x hx; rfl
  | succ n ih =>
    intro c x hx
    rw [gDf_s n x]
    by_cases h0 : x = 0
    · subst h0
      rw [h.g10, jHt_m1, if_pos rfl]; rfl
    · obtain ⟨-, g2, g3, -⟩ := h.p hx h0
      rw [h.g1p hx h0, jHt, if_neg (nI_m1 (by omega)), if_neg h0, ih (c + 1) _ g3]
      congr 1; omega
/-- the height, told -/
theorem jT1.hgt (h : jT1 R) {x : Nat} (hx : gU R x = true) : jHgt R (nI x) = nI (gD (gP R) x) := by
  unfold jHgt
  rw [h.ht 16 0 x hx, Nat.zero_add]; rfl
theorem jRch_m1 {y : Int32} : ∀ n, jRch R n (-1) y = false := by
  intro n
  cases n with
  | zero => rfl
  | succ n => rw [jRch, if_pos rfl]
theorem jT1.rchL (h : jT1 R) {y : Nat} (hy : y < 16) : ∀ n x, gU R x = true → jRch R n (nI x) (nI y) = gAf (gP R) n x y := by
  intro n
  induction n with
  | zero => intro x hx; rfl
  | succ n ih =>
    intro x hx
    have hx16 := gU_16 hx
    rw [jRch, gAf_s n x, if_neg (nI_m1 (by omega))]
    by_cases hxy : x = y
    · subst hxy; rw [if_pos rfl, if_pos rfl]
    · rw [if_neg (fun e => hxy ((nI_eq (by omega) (by omega)).mp e)), if_neg hxy]
      by_cases h0 : x = 0
      · subst h0; rw [h.g10, jRch_m1, if_pos rfl]
      · rw [if_neg h0, h.g1p hx h0]
        exact ih _ (h.p hx h0).2.2.1
theorem jT1.rch (h : jT1 R) {x y : Nat} (hx : gU R x = true) (hy : y < 16) : jRch R 16 (nI x) (nI y) = gA (gP R) x y := h.rchL hy 16 x hx
theorem jT1.rchN (h : jT1 R) {x y : Nat} (hx : x < 16) (hu : gU R x = false) (hy : gU R y = true) : jRch R 16 (nI x) (nI y) = false := by
  have hy16 := gU_16 hy
  rw [jRch, if_neg (nI_m1 (by omega)), if_neg (fun e => ?_), h.g1n hx hu, jRch_m1]
  have e2 := (nI_eq (a := x) (b := y) (by omega) (by omega)).mp e
  rw [e2, hy] at hu; cases hu
theorem jT1.kid (h : jT1 R) {x : Nat} (hx : x < 16) : jKid R (nI x) = nI (gC (fun i => gU R i && decide (i ≠ 0) && decide (gP R i = x))) := by
  unfold jKid
  rw [jCt_eq]
  congr 1
  have hx1 : ¬ (-1 : Int32) = nI x := fun e => nI_m1 (a := x) (by omega) e.symm
  refine gC_congr (fun i hi => ?_)
  by_cases h0 : i = 0
  · subst h0; rw [h.g10, decide_eq_false hx1, decide_eq_false (show ¬ (0 : Nat) ≠ 0 from fun e => e rfl), Bool.and_false, Bool.false_and]
  · cases hu : gU R i with
    | false => rw [h.g1n hi hu, decide_eq_false hx1]; rfl
    | true =>
      rw [h.g1p hu h0, decide_eq_true (show i ≠ 0 from h0), Bool.true_and, Bool.true_and]
      have hp := (h.p hu h0).2.1
      by_cases hpx : gP R i = x
      · rw [hpx, decide_eq_true rfl, decide_eq_true rfl]
      · rw [decide_eq_false hpx, decide_eq_false (fun e : nI (gP R i) = nI x => hpx ((nI_eq (by omega) (by omega)).mp e))]
/-- slots of numbers -/
theorem jT1.slot (h : jT1 R) {x : Nat} (hx : gU R x = true) : jSlotOf R 0 (nI (gN R x)) = nI x := by
  obtain ⟨e, hn⟩ := h.n hx
  have hx16 := gU_16 hx
  unfold jSlotOf
  rcases jFind_c (fun j => decide (¬ nI (gN R x) < 0 ∧ jGt R 0 0 (nI j) = nI (gN R x))) 16 0 with ⟨k, h1, h2, h3, -, h5⟩ | ⟨h1, -⟩
  · rw [h5]
    simp only [decide_eq_true_eq] at h3
    rw [jGt_5 (by omega) (by omega)] at h3
    have : k = x := h.2.2.2.2.2 k x (gU_of (by omega) (by rw [h3.2]; exact nI_m1 hn)) hx (by rw [h3.2, e])
    rw [this]
  · have := h1 x (by omega) (by omega)
    simp only [decide_eq_false_iff_not] at this
    exact absurd ⟨nI_pos hn, by rw [jGt_5 (by omega) hx16]; exact e⟩ this
theorem jSlotOf_neg {b : Int32} (hb : b < 0) : jSlotOf R 0 b = -1 := by
  unfold jSlotOf
  rcases jFind_c (fun j => decide (¬ b < 0 ∧ jGt R 0 0 (nI j) = b)) 16 0 with ⟨k, -, -, h3, -, -⟩ | ⟨-, h2⟩
  · simp only [decide_eq_true_eq] at h3
    exact absurd hb h3.1
  · exact h2
/-- a number is there, or not -/
theorem jT1.slot_c (h : jT1 R) (b : Int32) : (∃ x, gU R x = true ∧ b = nI (gN R x) ∧ jSlotOf R 0 b = nI x) ∨ ((∀ x, gU R x = true → b ≠ nI (gN R x)) ∧ jSlotOf R 0 b = -1) := by
  by_cases hb : ∃ x, gU R x = true ∧ b = nI (gN R x)
  · obtain ⟨x, h1, h2⟩ := hb
    refine Or.inl ⟨x, h1, h2, ?_⟩
    rw [h2]; exact h.slot h1
  · refine Or.inr ⟨fun x h1 h2 => hb ⟨x, h1, h2⟩, ?_⟩
    unfold jSlotOf
    rcases jFind_c (fun j => decide (¬ b < 0 ∧ jGt R 0 0 (nI j) = b)) 16 0 with ⟨k, h1, h2, h3, -, -⟩ | ⟨-, h2⟩
    · simp only [decide_eq_true_eq] at h3
      rw [jGt_5 (by omega) (by omega)] at h3
      have hu : gU R k = true := gU_of (by omega) (by rw [h3.2]; intro e; exact h3.1 (by rw [e]; decide))
      exact absurd ⟨k, hu, by rw [← (h.n hu).1]; exact h3.2.symm⟩ hb
    · exact h2
end GLink
