/-! ===== the changes: refusals, and those that are carried out by few writes ===== -/
def jIsF (x : Int32) : Bool := decide (¬ x < 0 ∧ ¬ 100 ≤ x)
section JWork
variable {κ : Nat → Nat} {L : Nat → Nat} {R : Nat → Nat → Int32} {V : Nat → Int32} {T : Nat → List Int32} {w : va_W}
theorem jRq.wk (h : jRq L R V T w) : jlk w (L 312) = some (.inr (10, [.ref (L 300), .ref (L 311), .ref (L 133)])) := by
  obtain ⟨R1, e, h1⟩ := h; exact h1.wk
theorem jSetR_q {R' : Nat → Nat → Int32} (e : ∀ r, jScr r = false → R' r = R r) {r : Nat} {f : Nat → Int32} : ∀ j, jScr j = false → jSetR R' r f j = jSetR R r f j := by
  intro j hj
  unfold jSetR
  by_cases h : j = r
  · rw [if_pos h, if_pos h]
  · rw [if_neg h, if_neg h, e j hj]
theorem jScr_st {j : Nat} (hj : j < 12) (h7 : j ≠ 7) (h11 : j ≠ 11) : jScr (12 * 0 + j) = false := by unfold jScr; simp; omega
theorem s_putQ (h : jRq L R V T w) (j : Nat) (hj : j < 12) (h7 : j ≠ 7) (h11 : j ≠ 11) {x v : Int32} {P : va_W → Prop} (k : ∀ w', jRq L (jPut R 0 j x v) V T w' → P w') : w_X3_put κ w (L j) x v P := by
  obtain ⟨R1, e, h1⟩ := h
  refine s_put h1 (by omega) (fun w' h' => k w' ⟨_, ?_, h'⟩)
  have e2 := e (12 * 0 + j) (jScr_st hj h7 h11)
  rw [Nat.mul_zero, Nat.zero_add] at e2
  unfold jPut
  rw [Nat.mul_zero, Nat.zero_add, ← e2]
  exact jSetR_q e
theorem s_putSQ (h : jRq L R V T w) (j : Nat) (hj : j < 4) {v : Int32} {P : va_W → Prop} (k : ∀ w', jRq L R (jSetV V j v) T w' → P w') : jpV w (L 300) 8 (8 + j) (.int v) P := by
  obtain ⟨R1, e, h1⟩ := h
  refine s_putS h1 (s := 0) (by omega) j hj (fun w' h' => k w' ⟨R1, e, ?_⟩)
  rw [Nat.mul_zero, Nat.zero_add] at h'
  exact h'
theorem s_hasHillQ (h : jRq L R V T w) {x : Int32} {P : Int32 → va_W → Prop} (k : P (jB2 (decide (¬ x < 0 ∧ ¬ V 0 ≤ x))) w) : w_X5_hasHill κ w (L 300) x P := by
  obtain ⟨R1, e, h1⟩ := h
  exact s_hasHill h1 (s := 0) (by omega) k
theorem jSlotOf_q {R' : Nat → Nat → Int32} (e : ∀ r, jScr r = false → R' r = R r) {b : Int32} : jSlotOf R' 0 b = jSlotOf R 0 b := by
  unfold jSlotOf
  simp only [jGt_q e (show 0 < 12 by omega) (show 0 ≠ 7 by omega) (show 0 ≠ 11 by omega)]
theorem s_slotOfQ (h : jRq L R V T w) {b : Int32} {P : Int32 → va_W → Prop} (k : P (jSlotOf R 0 b) w) : w_X5_slotOf κ w (L 300) b P := by
  obtain ⟨R1, e, h1⟩ := h
  refine s_slotOf h1 (s := 0) (by omega) ?_
  rw [jSlotOf_q e]; exact k
theorem jFreeSlot_q {R' : Nat → Nat → Int32} (e : ∀ r, jScr r = false → R' r = R r) : jFreeSlot R' 0 = jFreeSlot R 0 := by
  unfold jFreeSlot
  simp only [jUsed_q e]
theorem s_freeSlotQ (h : jRq L R V T w) {P : Int32 → va_W → Prop} (k : P (jFreeSlot R 0) w) : w_X5_freeSlot κ w (L 300) P := by
  obtain ⟨R1, e, h1⟩ := h
  refine s_freeSlot h1 (s := 0) (by omega) ?_
  rw [jFreeSlot_q e]; exact k
theorem s_sizeQ (h : jRq L R V T w) {t : Nat} (ht : t < 22) {x : Int32} {P : Int32 → va_W → Prop} (k : P (jSz R t x) w) : w_X0_size κ w (L (278 + t)) x P := by
  obtain ⟨R1, e, h1⟩ := h
  refine s_size h1 ht ?_
  rw [← jSz_q e ht] at k; exact k
theorem s_flakeQ (h : jRq L R V T w) {t : Nat} (ht : t < 22) {x y : Int32} {P : Int32 → va_W → Prop} (k : P (jFl R t x y) w) : w_X0_flake κ w (L (278 + t)) x y P := by
  obtain ⟨R1, e, h1⟩ := h
  refine s_flake h1 ht ?_
  rw [← jFl_q e ht] at k; exact k
theorem s_hasPosQ (h : jRq L R V T w) {t : Nat} (ht : t < 22) {x y : Int32} {P : Int32 → va_W → Prop} (k : P (jB2 (decide (¬ y < 0 ∧ ¬ jSz R t x ≤ y))) w) : w_X0_hasPosition κ w (L (278 + t)) x y P := by
  obtain ⟨R1, e, h1⟩ := h
  refine s_hasPos h1 ht ?_
  rw [← jSz_q e ht] at k; exact k
theorem s_isFlake {x : Int32} {P : Int32 → va_W → Prop} (k : P (jB2 (jIsF x)) w) : w_X8_isFlake κ w x P := by
  unfold w_X8_isFlake w_X8_isFlake_b0
  unfold jIsF at k
  by_cases h0 : x < 0
  · rw [if_pos h0]
    simp only [h0, not_true, false_and, decide_false, jB2, Bool.false_eq_true, if_false] at k
    exact ⟨rfl, k⟩
  · rw [if_neg h0]
    by_cases h1 : 100 ≤ x
    · rw [if_pos h1]
      simp only [h1, not_true, and_false, decide_false, jB2, Bool.false_eq_true, if_false] at k
      exact ⟨rfl, k⟩
    · rw [if_neg h1]
      simp only [h0, h1, not_false_eq_true, and_self, decide_true, jB2, if_true] at k
      exact ⟨rfl, k⟩
/-- refusals: 2 nothing, 3 index, 4 element, 5 argument, 6 state, 7 operation -/
def jfRaise (V : Nat → Int32) : Nat := if 4 ≤ V 0 then 6 else 2
def jfHold (R : Nat → Nat → Int32) (V : Nat → Int32) (x y : Int32) : Nat := if decide (¬ x < 0 ∧ ¬ V 0 ≤ x) = false then 3 else if jIsF y = false then 5 else if 4 ≤ jSz R 1 x then 6 else 2
def jfAppend (R : Nat → Nat → Int32) (V : Nat → Int32) (x : Int32) : Nat := if decide (¬ x < 0 ∧ ¬ V 0 ≤ x) = false then 3 else if jFreeSlot R 0 = -1 then 6 else if jLow R (jGt R 0 8 x) = -1 then 2 else 7
def jfTurn (R : Nat → Nat → Int32) (V : Nat → Int32) (x y : Int32) : Nat := if decide (¬ x < 0 ∧ ¬ V 0 ≤ x) = false then 3 else if jSlotOf R 0 y = -1 then 4 else 2
def jfRemove (R : Nat → Nat → Int32) (x : Int32) : Nat := if jSlotOf R 0 x = -1 then 4 else if jSlotOf R 0 x = 0 then 5 else 2
def jfSwap (R : Nat → Nat → Int32) (x y z : Int32) : Nat := if jSlotOf R 0 x = -1 then 4 else if decide (¬ y < 0 ∧ ¬ jSz R 0 (jSlotOf R 0 x) ≤ y) = false then 3 else if jIsF z = false then 5 else 2
def jfMend (R : Nat → Nat → Int32) (x : Int32) : Nat := if jfRemove R x = 2 then (if jHolds R (jSlotOf R 0 x) = false then 2 else 6) else jfRemove R x
theorem s_fRaise (h : jRq L R V T w) {P : Nat → va_W → Prop} (k : P (κ (jfRaise V)) w) : w_X7_refusalToRaiseHill κ w (L 312) P := by
  unfold w_X7_refusalToRaiseHill w_X7_refusalToRaiseHill_b0
  unfold jfRaise at k
  refine (jgR_eq h.wk rfl).mpr ((jgI_eq (h.st (s := 0) (by omega)) rfl).mpr ?_)
  by_cases h4 : 4 ≤ V (4 * 0)
  · rw [if_pos h4]; rw [if_pos h4] at k; exact k
  · rw [if_neg h4]; rw [if_neg h4] at k; exact k
theorem s_fHold (h : jRq L R V T w) {x y : Int32} {P : Nat → va_W → Prop} (k : P (κ (jfHold R V x y)) w) : w_X7_refusalToHold κ w (L 312) x y P := by
  unfold w_X7_refusalToHold w_X7_refusalToHold_b0
  unfold jfHold at k
  refine (jgR_eq h.wk rfl).mpr ⟨⟨_, h.st (s := 0) (by omega)⟩, s_hasHillQ h ?_⟩
  refine jif_b (fun hu => ?_) (fun hu => ?_)
  · rw [if_pos hu] at k; exact k
  · rw [if_neg (by rw [hu]; decide)] at k
    refine s_isFlake ?_
    refine jif_b (fun hv => ?_) (fun hv => ?_)
    · rw [if_pos hv] at k; exact k
    · rw [if_neg (by rw [hv]; decide)] at k
      refine (jgR_eq h.wk rfl).mpr ((jgR_eq (h.st (s := 0) (by omega)) rfl).mpr ⟨⟨_, h.tab (t := 1) (by omega)⟩, s_sizeQ h (t := 1) (by omega) ?_⟩)
      by_cases h4 : 4 ≤ jSz R 1 x
      · rw [if_pos h4]; rw [if_pos h4] at k; exact k
      · rw [if_neg h4]; rw [if_neg h4] at k; exact k
theorem s_fTurn (h : jRq L R V T w) {x y : Int32} {P : Nat → va_W → Prop} (k : P (κ (jfTurn R V x y)) w) : w_X7_refusalToTurn κ w (L 312) x y P := by
  unfold w_X7_refusalToTurn w_X7_refusalToTurn_b0
  unfold jfTurn at k
  refine (jgR_eq h.wk rfl).mpr ⟨⟨_, h.st (s := 0) (by omega)⟩, s_hasHillQ h ?_⟩
  refine jif_b (fun hu => ?_) (fun hu => ?_)
  · rw [if_pos hu] at k; exact k
  · rw [if_neg (by rw [hu]; decide)] at k
    refine (jgR_eq h.wk rfl).mpr ⟨⟨_, h.st (s := 0) (by omega)⟩, s_slotOfQ h ?_⟩
    by_cases h4 : jSlotOf R 0 y = -1
    · rw [if_pos h4]; rw [if_pos h4] at k; exact k
    · rw [if_neg h4]; rw [if_neg h4] at k; exact k
theorem s_fRemove (h : jRq L R V T w) {x : Int32} {P : Nat → va_W → Prop} (k : P (κ (jfRemove R x)) w) : w_X7_refusalToRemove κ w (L 312) x P := by
  unfold w_X7_refusalToRemove w_X7_refusalToRemove_b0
  unfold jfRemove at k
  refine (jgR_eq h.wk rfl).mpr ⟨⟨_, h.st (s := 0) (by omega)⟩, s_slotOfQ h ?_⟩
  by_cases h4 : jSlotOf R 0 x = -1
  · rw [if_pos h4]; rw [if_pos h4] at k; exact k
  · rw [if_neg h4]; rw [if_neg h4] at k
    by_cases h5 : jSlotOf R 0 x = 0
    · rw [if_pos h5]; rw [if_pos h5] at k; exact k
    · rw [if_neg h5]; rw [if_neg h5] at k; exact k
theorem s_fSwap (h : jRq L R V T w) {x y z : Int32} {P : Nat → va_W → Prop} (k : P (κ (jfSwap R x y z)) w) : w_X7_refusalToSwap κ w (L 312) x y z P := by
  unfold w_X7_refusalToSwap w_X7_refusalToSwap_b0
  unfold jfSwap at k
  refine (jgR_eq h.wk rfl).mpr ⟨⟨_, h.st (s := 0) (by omega)⟩, s_slotOfQ h ?_⟩
  by_cases h4 : jSlotOf R 0 x = -1
  · rw [if_pos h4]; rw [if_pos h4] at k; exact k
  · rw [if_neg h4]; rw [if_neg h4] at k
    refine (jgR_eq h.wk rfl).mpr ((jgR_eq (h.st (s := 0) (by omega)) rfl).mpr ⟨⟨_, h.tab (t := 0) (by omega)⟩, s_hasPosQ h (t := 0) (by omega) ?_⟩)
    refine jif_b (fun hu => ?_) (fun hu => ?_)
    · rw [if_pos hu] at k; exact k
    · rw [if_neg (by rw [hu]; decide)] at k
      refine s_isFlake ?_
      refine jif_b (fun hv => ?_) (fun hv => ?_)
      · rw [if_pos hv] at k; exact k
      · rw [if_neg (by rw [hv]; decide)] at k; exact k
theorem s_fAppend (h : jRq L R V T w) (hs : ∀ x, jSz R 0 x ≤ 4) {x : Int32} {P : Nat → va_W → Prop} (k : ∀ w', jRq L R V T w' → P (κ (jfAppend R V x)) w') : w_X7_refusalToAppend κ w (L 312) x P := by
  unfold w_X7_refusalToAppend w_X7_refusalToAppend_b0
  unfold jfAppend at k
  refine (jgR_eq h.wk rfl).mpr ⟨⟨_, h.st (s := 0) (by omega)⟩, s_hasHillQ h ?_⟩
  refine jif_b (fun hu => ?_) (fun hu => ?_)
  · rw [if_pos hu] at k; exact k w h
  · rw [if_neg (by rw [hu]; decide)] at k
    refine (jgR_eq h.wk rfl).mpr ⟨⟨_, h.st (s := 0) (by omega)⟩, s_freeSlotQ h ?_⟩
    by_cases h4 : jFreeSlot R 0 = -1
    · rw [if_pos h4]; rw [if_pos h4] at k; exact k w h
    · rw [if_neg h4]; rw [if_neg h4] at k
      refine (jgR_eq h.wk rfl).mpr ((jgR_eq h.wk rfl).mpr ((jgR_eq (h.st (s := 0) (by omega)) rfl).mpr ⟨⟨_, h.row (r := 8) (by omega)⟩, s_gq h 8 (by omega) (by omega) (by omega) ⟨⟨_, h.sv⟩, s_low h hs (fun w1 h1 => ?_)⟩⟩))
      by_cases h5 : jLow R (jGt R 0 8 x) = -1
      · rw [if_pos h5]; rw [if_pos h5] at k; exact k w1 h1
      · rw [if_neg h5]; rw [if_neg h5] at k; exact k w1 h1
theorem s_fMend (h : jRq L R V T w) (hκ : ∀ i j, i < 6 → j < 6 → κ (2 + i) = κ (2 + j) → i = j) (hs : ∀ x, jSz R 0 x ≤ 4) {x : Int32} {P : Nat → va_W → Prop} (k : ∀ w', jRq L R V T w' → P (κ (jfMend R x)) w') : w_X7_refusalToMend κ w (L 312) x P := by
  unfold w_X7_refusalToMend w_X7_refusalToMend_b0
  unfold jfMend at k
  refine ⟨⟨_, h.wk⟩, s_fRemove h ?_⟩
  have hr : jfRemove R x = 4 ∨ jfRemove R x = 5 ∨ jfRemove R x = 2 := by
    unfold jfRemove; split
    · exact Or.inl rfl
    · split
      · exact Or.inr (Or.inl rfl)
      · exact Or.inr (Or.inr rfl)
  by_cases h2 : jfRemove R x = 2
  · rw [if_pos h2] at k
    rw [if_pos (by rw [h2])]
    refine (jgR_eq h.wk rfl).mpr ((jgR_eq h.wk rfl).mpr ⟨⟨_, h.st (s := 0) (by omega)⟩, s_slotOfQ h ⟨⟨_, h.sv⟩, s_holds h hs (fun w1 h1 => ?_)⟩⟩)
    refine jif_b (fun hv => ?_) (fun hv => ?_)
    · rw [if_pos hv] at k; exact k w1 h1
    · rw [if_neg (by rw [hv]; decide)] at k; exact k w1 h1
  · rw [if_neg h2] at k
    rw [if_neg (fun e => by
      rcases hr with e9 | e9 | e9
      · rw [e9] at e; exact absurd (hκ 2 0 (by omega) (by omega) e) (by omega)
      · rw [e9] at e; exact absurd (hκ 3 0 (by omega) (by omega) e) (by omega)
      · exact h2 e9)]
    exact k w h
end JWork
