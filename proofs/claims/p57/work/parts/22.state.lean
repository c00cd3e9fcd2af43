/-! ===== loops, and a state's methods ===== -/
def jIter {α : Type} (step : α → Nat → α) : Nat → Nat → α → α
  | 0, _, a => a
  | n + 1, i, a => jIter step n (i + 1) (step a i)
theorem jN_le {N i : Nat} (hN : N < 2 ^ 31) (h : i < N) : ¬ nI N ≤ nI i := fun h9 => absurd ((nI_leI hN (by omega)).mp h9) (by omega)
theorem jN_self (N : Nat) : nI N ≤ nI N := Int32.le_refl _
theorem jLoop {α : Type} {Q : α → va_W → Prop} {F : Nat → va_W → α → Int32 → Prop} {P : α → va_W → Prop} (N : Nat) (step : α → Nat → α) (hend : ∀ n w a, Q a w → P a w → F (n + 1) w a (nI N)) (hstep : ∀ n w a i, Q a w → i < N → (∀ w', Q (step a i) w' → F n w' (step a i) (nI (i + 1))) → F (n + 1) w a (nI i)) : ∀ (n i : Nat) (a : α) (w : va_W), Q a w → i ≤ N → N < n + i → (∀ w', Q (jIter step (N - i) i a) w' → P (jIter step (N - i) i a) w') → F n w a (nI i) := by
  intro n
  induction n with
  | zero => intro i a w hQ h1 h2; omega
  | succ n ih =>
    intro i a w hQ h1 h2 hP
    by_cases h : i = N
    · subst h
      rw [Nat.sub_self] at hP
      exact hend n w a hQ (hP w hQ)
    · refine hstep n w a i hQ (by omega) (fun w' hQ' => ih (i + 1) (step a i) w' hQ' (by omega) (by omega) ?_)
      rw [show N - i = (N - (i + 1)) + 1 by omega] at hP
      exact hP
theorem j16_le {i : Nat} (h : i < 16) : ¬ (16 : Int32) ≤ nI i := jN_le (N := 16) (by decide) h
theorem j16_self : (16 : Int32) ≤ nI 16 := jN_self 16
theorem jFu_eq : jFu = 20000 := rfl
/-- what stands at a place of a state's row -/
def jGt (R : Nat → Nat → Int32) (s k : Nat) (x : Int32) : Int32 := jRd (jLn (12 * s + k)) (R (12 * s + k)) x
def jFind (p : Nat → Bool) : Nat → Nat → Int32
  | 0, _ => -1
  | n + 1, i => if p i then nI i else jFind p n (i + 1)
theorem jB2_z (b : Bool) : (jB2 b = 0) ↔ b = false := by cases b <;> simp [jB2]
section JState
variable {κ : Nat → Nat} {L : Nat → Nat} {R : Nat → Nat → Int32} {V : Nat → Int32} {T : Nat → List Int32} {w : va_W}
theorem jRep.to {R' : Nat → Nat → Int32} {V' : Nat → Int32} (h : jRep L R V T w) (hR : R = R') (hV : V = V') : jRep L R' V' T w := by
  subst hR; subst hV; exact h
theorem s_hasHill (h : jRep L R V T w) {s : Nat} (hs : s < 11) {x : Int32} {P : Int32 → va_W → Prop} (k : P (jB2 (decide (¬ x < 0 ∧ ¬ V (4 * s) ≤ x))) w) : w_X5_hasHill κ w (L (300 + s)) x P := by
  unfold w_X5_hasHill w_X5_hasHill_b0
  by_cases h0 : x < 0
  · rw [if_pos h0]
    simp only [h0, not_true, false_and, decide_false, jB2] at k
    exact ⟨rfl, k⟩
  · rw [if_neg h0]
    refine (jgI_eq (h.st hs) rfl).mpr ?_
    by_cases h1 : V (4 * s) ≤ x
    · rw [if_pos h1]
      simp only [h1, not_true, and_false, decide_false, jB2] at k
      exact ⟨rfl, k⟩
    · rw [if_neg h1]
      simp only [h0, h1, not_false_eq_true, and_self, decide_true, jB2] at k
      exact ⟨rfl, k⟩
def jUsed (R : Nat → Nat → Int32) (s : Nat) (x : Int32) : Bool := decide (¬ jGt R s 0 x = -1)
theorem s_isUsed (h : jRep L R V T w) {s : Nat} (hs : s < 11) {x : Int32} {P : Int32 → va_W → Prop} (k : P (jB2 (jUsed R s x)) w) : w_X5_isUsed κ w (L (300 + s)) x P := by
  unfold w_X5_isUsed w_X5_isUsed_b0
  refine (jgR_eq (h.st hs) rfl).mpr ⟨⟨_, h.row (by omega)⟩, s_at h (by omega) ?_⟩
  unfold jUsed jGt at k
  by_cases h1 : jRd (jLn (12 * s)) (R (12 * s)) x = -1
  · rw [if_pos h1]
    simp only [Nat.add_zero, h1, not_true, decide_false, jB2] at k
    exact ⟨rfl, k⟩
  · rw [if_neg h1]
    simp only [Nat.add_zero, h1, not_false_eq_true, decide_true, jB2] at k
    exact ⟨rfl, k⟩
def jSlotOf (R : Nat → Nat → Int32) (s : Nat) (b : Int32) : Int32 := jFind (fun j => decide (¬ b < 0 ∧ jGt R s 0 (nI j) = b)) 16 0
theorem s_slotOf_l (h : jRep L R V T w) {s : Nat} (hs : s < 11) {b : Int32} {P : Int32 → va_W → Prop} : ∀ n i : Nat, i ≤ 16 → 16 < n + i → P (jFind (fun j => decide (¬ b < 0 ∧ jGt R s 0 (nI j) = b)) (16 - i) i) w → w_X5_slotOf_b2 n κ w (L (300 + s)) b (nI i) P := by
  intro n
  induction n with
  | zero => intro i h1 h2; omega
  | succ n ih =>
    intro i h1 h2 k
    rw [w_X5_slotOf_b2]
    by_cases hi : i = 16
    · subst hi
      rw [if_pos j16_self]
      exact k
    · rw [if_neg (j16_le (by omega))]
      rw [show 16 - i = (16 - (i + 1)) + 1 by omega, jFind] at k
      by_cases hb : b < 0
      · rw [if_pos hb]
        simp only [hb, not_true, false_and, decide_false] at k
        unfold w_X5_slotOf_b26
        rw [nI_1]
        refine ih (i + 1) (by omega) (by omega) ?_
        simp only [hb, not_true, false_and, decide_false]
        simpa using k
      · rw [if_neg hb]
        refine (jgR_eq (h.st hs) rfl).mpr ⟨⟨_, h.row (by omega)⟩, s_at h (by omega) ?_⟩
        by_cases hv : jRd (jLn (12 * s)) (R (12 * s)) (nI i) = b
        · rw [if_pos hv]
          rw [if_pos (by simp [hb, jGt, hv])] at k
          exact k
        · rw [if_neg hv]
          rw [if_neg (by simp [hb, jGt, hv])] at k
          unfold w_X5_slotOf_b26
          rw [nI_1]
          exact ih (i + 1) (by omega) (by omega) k
theorem s_slotOf (h : jRep L R V T w) {s : Nat} (hs : s < 11) {b : Int32} {P : Int32 → va_W → Prop} (k : P (jSlotOf R s b) w) : w_X5_slotOf κ w (L (300 + s)) b P := by
  unfold w_X5_slotOf w_X5_slotOf_b0
  exact s_slotOf_l h hs jFu 0 (by omega) (by rw [jFu_eq]; omega) k
def jFreeSlot (R : Nat → Nat → Int32) (s : Nat) : Int32 := jFind (fun j => !jUsed R s (nI j)) 16 0
theorem s_freeSlot_l (h : jRep L R V T w) {s : Nat} (hs : s < 11) {P : Int32 → va_W → Prop} : ∀ n i : Nat, i ≤ 16 → 16 < n + i → P (jFind (fun j => !jUsed R s (nI j)) (16 - i) i) w → w_X5_freeSlot_b2 n κ w (L (300 + s)) (nI i) P := by
  intro n
  induction n with
  | zero => intro i h1 h2; omega
  | succ n ih =>
    intro i h1 h2 k
    rw [w_X5_freeSlot_b2]
    by_cases hi : i = 16
    · subst hi
      rw [if_pos j16_self]
      exact k
    · rw [if_neg (j16_le (by omega))]
      rw [show 16 - i = (16 - (i + 1)) + 1 by omega, jFind] at k
      refine ⟨⟨_, h.st hs⟩, s_isUsed h hs ?_⟩
      cases hu : jUsed R s (nI i) with
      | false =>
        rw [hu] at k
        rw [if_pos (show jB2 false = 0 from rfl)]
        exact k
      | true =>
        rw [hu] at k
        rw [if_neg (show ¬ jB2 true = 0 by decide), nI_1]
        exact ih (i + 1) (by omega) (by omega) k
theorem s_freeSlot (h : jRep L R V T w) {s : Nat} (hs : s < 11) {P : Int32 → va_W → Prop} (k : P (jFreeSlot R s) w) : w_X5_freeSlot κ w (L (300 + s)) P := by
  unfold w_X5_freeSlot w_X5_freeSlot_b0
  exact s_freeSlot_l h hs jFu 0 (by omega) (by rw [jFu_eq]; omega) k
def jPut (R : Nat → Nat → Int32) (s k : Nat) (x v : Int32) : Nat → Nat → Int32 := jSetR R (12 * s + k) (jWr (jLn (12 * s + k)) (R (12 * s + k)) x v)
theorem s_free (h : jRep L R V T w) {s : Nat} (hs : s < 11) {x : Int32} {P : va_W → Prop} (k : ∀ w', jRep L (jPut (jPut (jPut R s 0 x (-1)) s 1 x (-1)) s 2 x (-1)) V T w' → P w') : w_X5_free κ w (L (300 + s)) x P := by
  unfold w_X5_free w_X5_free_b0
  refine (jgR_eq (h.st hs) rfl).mpr ⟨⟨_, h.row (by omega)⟩, s_put h (by omega) (fun w1 h1 => ?_)⟩
  refine (jgR_eq (h1.st hs) rfl).mpr ⟨⟨_, h1.row (by omega)⟩, s_put h1 (by omega) (fun w2 h2 => ?_)⟩
  refine (jgR_eq (h2.st hs) rfl).mpr ⟨⟨_, h2.row (by omega)⟩, s_put h2 (by omega) (fun w3 h3 => ?_)⟩
  exact k w3 h3
theorem jSetV_ne {i j : Nat} {v : Int32} (h : j ≠ i) : jSetV V i v j = V j := by simp [jSetV, h]
theorem s_putS (h : jRep L R V T w) {s : Nat} (hs : s < 11) (j : Nat) (hj : j < 4) {v : Int32} {P : va_W → Prop} (k : ∀ w', jRep L R (jSetV V (4 * s + j) v) T w' → P w') : jpV w (L (300 + s)) 8 (8 + j) (.int v) P := by
  refine (jpV_eq (h.st hs) (by simp; omega)).mpr (k _ (h.putS hs j hj v ?_))
  rw [jCell_st hs]
  rcases (show j = 0 ∨ j = 1 ∨ j = 2 ∨ j = 3 by omega) with rfl | rfl | rfl | rfl
  · simp [jSetV]
  · simp [jSetV]
  · simp [jSetV]
  · simp [jSetV]
/-- a state's contents over another's -/
def jCpR (R : Nat → Nat → Int32) (s u : Nat) : Nat → Nat → Int32 := fun r => if 12 * s ≤ r ∧ r < 12 * s + 12 ∧ r % 12 ≠ 7 ∧ r % 12 ≠ 11 then R (12 * u + r % 12) else R r
def jCpV (V : Nat → Int32) (s u : Nat) : Nat → Int32 := fun i => if 4 * s ≤ i ∧ i < 4 * s + 4 then V (4 * u + i % 4) else V i
theorem jLn_st {s k : Nat} (hs : s < 11) (hk : k < 12) : jLn (12 * s + k) = [16, 16, 16, 16, 16, 16, 64, 4, 4, 4, 16, 4].getD k 0 := by
  unfold jLn
  rw [if_pos (by omega), show (12 * s + k) % 12 = k by omega]
theorem s_copyS (h : jRep L R V T w) {s u : Nat} (hs : s < 11) (hu : u < 11) (hsu : s ≠ u) {P : va_W → Prop} (k : ∀ w', jRep L (jCpR R s u) (jCpV V s u) T w' → P w') : w_X5_copyFrom κ w (L (300 + s)) (L (300 + u)) P := by
  have hl : ∀ k, k < 12 → jLn (12 * s + k) = jLn (12 * u + k) := fun k hk => by rw [jLn_st hs hk, jLn_st hu hk]
  have e0 : jTb (2 * s) = 12 * s + 5 := by unfold jTb; rw [if_pos (by omega)]; omega
  have e1 : jTb (2 * u) = 12 * u + 5 := by unfold jTb; rw [if_pos (by omega)]; omega
  have e2 : jTb (2 * s + 1) = 12 * s + 9 := by unfold jTb; rw [if_neg (by omega)]; omega
  have e3 : jTb (2 * u + 1) = 12 * u + 9 := by unfold jTb; rw [if_neg (by omega)]; omega
  unfold w_X5_copyFrom w_X5_copyFrom_b0
  refine (jgR_eq (h.st hs) rfl).mpr ((jgR_eq (h.st hu) rfl).mpr ⟨⟨_, h.row (by omega)⟩, s_copyR h (by omega) (by omega) (hl 0 (by omega)) (fun w1 h1 => ?_)⟩)
  refine (jgR_eq (h1.st hs) rfl).mpr ((jgR_eq (h1.st hu) rfl).mpr ⟨⟨_, h1.row (by omega)⟩, s_copyR h1 (by omega) (by omega) (hl 1 (by omega)) (fun w2 h2 => ?_)⟩)
  refine (jgR_eq (h2.st hs) rfl).mpr ((jgR_eq (h2.st hu) rfl).mpr ⟨⟨_, h2.row (by omega)⟩, s_copyR h2 (by omega) (by omega) (hl 2 (by omega)) (fun w3 h3 => ?_)⟩)
  refine (jgR_eq (h3.st hs) rfl).mpr ((jgR_eq (h3.st hu) rfl).mpr ⟨⟨_, h3.row (by omega)⟩, s_copyR h3 (by omega) (by omega) (hl 3 (by omega)) (fun w4 h4 => ?_)⟩)
  refine (jgR_eq (h4.st hs) rfl).mpr ((jgR_eq (h4.st hu) rfl).mpr ⟨⟨_, h4.row (by omega)⟩, s_copyR h4 (by omega) (by omega) (hl 4 (by omega)) (fun w5 h5 => ?_)⟩)
  refine (jgR_eq (h5.st hs) rfl).mpr ((jgR_eq (h5.st hu) rfl).mpr ⟨⟨_, h5.tab (t := 2 * s) (by omega)⟩, s_copyT h5 (t := 2 * s) (u := 2 * u) (by omega) (by omega) (by omega) (by rw [e0, e1]; exact hl 5 (by omega)) (by rw [e0, e1]; exact hl 6 (by omega)) (fun w6 h6 => ?_)⟩)
  refine (jgR_eq (h6.st hs) rfl).mpr ((jgR_eq (h6.st hu) rfl).mpr ⟨⟨_, h6.row (by omega)⟩, s_copyR h6 (by omega) (by omega) (hl 8 (by omega)) (fun w7 h7 => ?_)⟩)
  refine (jgR_eq (h7.st hs) rfl).mpr ((jgR_eq (h7.st hu) rfl).mpr ⟨⟨_, by rw [show 279 + 2 * s = 278 + (2 * s + 1) by omega]; exact h7.tab (t := 2 * s + 1) (by omega)⟩, ?_⟩)
  rw [show 279 + 2 * s = 278 + (2 * s + 1) by omega, show 279 + 2 * u = 278 + (2 * u + 1) by omega]
  refine s_copyT h7 (t := 2 * s + 1) (u := 2 * u + 1) (by omega) (by omega) (by omega) (by rw [e2, e3]; exact hl 9 (by omega)) (by rw [e2, e3]; exact hl 10 (by omega)) (fun w8 h8 => ?_)
  refine (jgI_eq (h8.st hu) rfl).mpr (s_putS h8 hs 0 (by omega) (fun w9 h9 => ?_))
  refine (jgI_eq (h9.st hu) rfl).mpr (s_putS h9 hs 1 (by omega) (fun w10 h10 => ?_))
  refine (jgI_eq (h10.st hu) rfl).mpr (s_putS h10 hs 2 (by omega) (fun w11 h11 => ?_))
  refine (jgI_eq (h11.st hu) rfl).mpr (s_putS h11 hs 3 (by omega) (fun w12 h12 => k w12 ?_))
  rw [e0, e1, e2, e3] at h12
  simp (disch := omega) only [jSetR_ne, jSetV_ne] at h12
  refine h12.to ?_ ?_
  · funext r
    simp only [jSetR, jCpR]
    repeat' split
    all_goals first | rfl | omega | (congr 1; omega)
  · funext i
    simp only [jSetV, jCpV]
    repeat' split
    all_goals first | rfl | omega | (congr 1; omega)
end JState
