/-! ===== the face: questions ===== -/
section JAsk
variable {κ : Nat → Nat} {L : Nat → Nat} {R : Nat → Nat → Int32} {V : Nat → Int32} {T : Nat → List Int32} {w : va_W} {P : Int32 → va_W → Prop} {E : String → va_W → Prop}
theorem jKid_q {R' : Nat → Nat → Int32} (e : ∀ r, jScr r = false → R' r = R r) {x : Int32} : jKid R' x = jKid R x := by
  unfold jKid; simp only [jGt_q e (show 1 < 12 by omega) (show 1 ≠ 7 by omega) (show 1 ≠ 11 by omega)]
theorem jTip_q {R' : Nat → Nat → Int32} (e : ∀ r, jScr r = false → R' r = R r) {x : Int32} : jTip R' x = jTip R x := by
  unfold jTip; rw [jUsed_q e, jKid_q e]
theorem jTipAt_q {R' : Nat → Nat → Int32} (e : ∀ r, jScr r = false → R' r = R r) {x : Int32} : jTipAt R' x = jTipAt R x := by
  unfold jTipAt; simp only [jTip_q e, jRk_q e]
theorem jFk_q {R' : Nat → Nat → Int32} (e : ∀ r, jScr r = false → R' r = R r) : ∀ (n : Nat) (x y : Int32), jFk R' n x y = jFk R n x y := by
  intro n
  induction n with
  | zero => intro x y; rfl
  | succ n ih => intro x y; simp only [jFk, jGt_q e (show 1 < 12 by omega) (show 1 ≠ 7 by omega) (show 1 ≠ 11 by omega), ih, jRch_q e]
theorem s_kidsQ (h : jRq L R V T w) {x : Int32} (k : P (jKid R x) w) : w_X6_countChildren κ w (L 311) x P := by
  obtain ⟨R1, e, h1⟩ := h
  refine s_kids h1 ?_
  rw [jKid_q e]; exact k
theorem s_reachingQ (h : jRq L R V T w) {x : Int32} (k : P (jCt (fun i => jRch R 16 (nI i) x)) w) : w_X6_countReaching κ w (L 311) x P := by
  obtain ⟨R1, e, h1⟩ := h
  refine s_reaching h1 ?_
  simp only [jRch_q e]; exact k
theorem s_blocksQ (h : jRq L R V T w) (k : P (jCt (fun i => jUsed R 0 (nI i))) w) : w_X6_countBlocks κ w (L 311) P := by
  obtain ⟨R1, e, h1⟩ := h
  refine s_blocks h1 ?_
  simp only [jUsed_q e]; exact k
theorem s_tipsQ (h : jRq L R V T w) (k : P (jCt (fun i => jTip R (nI i))) w) : w_X6_countTips κ w (L 311) P := by
  obtain ⟨R1, e, h1⟩ := h
  refine s_tips h1 ?_
  simp only [jTip_q e]; exact k
theorem s_writtenByQ (h : jRq L R V T w) {x : Int32} (k : P (jCt (fun i => decide (jGt R 0 2 (nI i) = x))) w) : w_X6_countWrittenBy κ w (L 311) x P := by
  obtain ⟨R1, e, h1⟩ := h
  refine s_writtenBy h1 ?_
  simp only [jGt_q e (show 2 < 12 by omega) (show 2 ≠ 7 by omega) (show 2 ≠ 11 by omega)]; exact k
theorem s_atHeightQ (h : jRq L R V T w) {x : Int32} (k : P (jCt (fun i => jUsed R 0 (nI i) && decide (jHgt R (nI i) = x))) w) : w_X6_countAtHeight κ w (L 311) x P := by
  obtain ⟨R1, e, h1⟩ := h
  refine s_atHeight h1 ?_
  simp only [jUsed_q e, jHgt_q e]; exact k
theorem s_tipRankedQ (h : jRq L R V T w) {x : Int32} (k : P (jTipAt R x) w) : w_X6_tipRanked κ w (L 311) x P := by
  obtain ⟨R1, e, h1⟩ := h
  refine s_tipRanked h1 ?_
  rw [jTipAt_q e]; exact k
theorem s_forkQ (h : jRq L R V T w) {x y : Int32} (k : P (jFk R 16 x y) w) : w_X6_fork κ w (L 311) x y P := by
  obtain ⟨R1, e, h1⟩ := h
  refine s_fork h1 ?_
  rw [jFk_q e]; exact k
theorem s_reqZ (h : jRq L R V T w) {x : Int32} (hb : jSlotOf R 0 x ≠ -1) (k : P (jSlotOf R 0 x) w) : w_X8_requireBlockZ κ w (L 316) x P := by
  unfold w_X8_requireBlockZ w_X8_requireBlockZ_b0
  refine (jgR_eq h.lg rfl).mpr ⟨⟨_, h.st (s := 0) (by omega)⟩, s_slotOfQ h ?_⟩
  rw [if_neg hb]; exact k
theorem s_req (h : jRq L R V T w) {x : Int32} (k1 : jSlotOf R 0 x = -1 → E "java/util/NoSuchElementException" w) (k0 : jSlotOf R 0 x ≠ -1 → P (jSlotOf R 0 x) w) : w_X8_requireBlock κ w (L 316) x P E := by
  unfold w_X8_requireBlock w_X8_requireBlock_b0
  refine (jgR_eq h.lg rfl).mpr ⟨⟨_, h.st (s := 0) (by omega)⟩, s_slotOfQ h ?_⟩
  by_cases hb : jSlotOf R 0 x = -1
  · rw [if_pos hb]; exact k1 hb
  · rw [if_neg hb]; exact k0 hb
theorem s_reqW (h : jRq L R V T w) {x : Int32} (k1 : jSlotOf R 0 x = -1 ∨ jSlotOf R 0 x = 0 → E "java/util/NoSuchElementException" w) (k0 : jSlotOf R 0 x ≠ -1 → jSlotOf R 0 x ≠ 0 → P (jSlotOf R 0 x) w) : w_X8_requireWritten κ w (L 316) x P E := by
  unfold w_X8_requireWritten w_X8_requireWritten_b0
  refine (jgR_eq h.lg rfl).mpr ⟨⟨_, h.st (s := 0) (by omega)⟩, s_slotOfQ h ?_⟩
  by_cases hb : jSlotOf R 0 x = -1
  · rw [if_pos hb]; exact k1 (Or.inl hb)
  · rw [if_neg hb]
    by_cases h0 : jSlotOf R 0 x = 0
    · rw [if_pos h0]; exact k1 (Or.inr h0)
    · rw [if_neg h0]; exact k0 hb h0
theorem s_reqHZ (h : jRq L R V T w) {x : Int32} (hb : ¬ x < 0 ∧ ¬ V 0 ≤ x) {P : va_W → Prop} (k : P w) : w_X8_requireHillZ κ w (L 316) x P := by
  unfold w_X8_requireHillZ w_X8_requireHillZ_b0
  refine (jgR_eq h.lg rfl).mpr ⟨⟨_, h.st (s := 0) (by omega)⟩, s_hasHillQ h ?_⟩
  refine jif_b (fun hu => ?_) (fun _ => k)
  exact absurd hb (of_decide_eq_false hu)
theorem q_blockCount (h : jRq L R V T w) (k : P (jCt (fun i => jUsed R 0 (nI i))) w) : w_X8_blockCount κ w (L 316) P := by
  unfold w_X8_blockCount w_X8_blockCount_b0
  exact (jgR_eq h.lg rfl).mpr ⟨⟨_, h.sv⟩, s_blocksQ h k⟩
theorem q_tipCount (h : jRq L R V T w) (k : P (jCt (fun i => jTip R (nI i))) w) : w_X8_tipCount κ w (L 316) P := by
  unfold w_X8_tipCount w_X8_tipCount_b0
  exact (jgR_eq h.lg rfl).mpr ⟨⟨_, h.sv⟩, s_tipsQ h k⟩
theorem q_exists (h : jRq L R V T w) {x : Int32} (k : P (jB2 (decide (jSlotOf R 0 x ≠ -1))) w) : w_X8_exists κ w (L 316) x P := by
  unfold w_X8_exists w_X8_exists_b0
  refine (jgR_eq h.lg rfl).mpr ⟨⟨_, h.st (s := 0) (by omega)⟩, s_slotOfQ h ?_⟩
  by_cases hb : jSlotOf R 0 x = -1
  · rw [if_pos hb]
    simp only [hb, ne_eq, not_true, decide_false, jB2, Bool.false_eq_true, if_false] at k
    exact ⟨rfl, k⟩
  · rw [if_neg hb]
    simp only [hb, ne_eq, not_false_eq_true, decide_true, jB2, if_true] at k
    exact ⟨rfl, k⟩
theorem q_best (h : jRq L R V T w) (hs : ∀ x, jSz R 0 x ≤ 4) (k : ∀ w', jRq L R V T w' → P (jGt R 0 0 (jBest R)) w') : w_X8_bestValidBlock κ w (L 316) P := by
  unfold w_X8_bestValidBlock w_X8_bestValidBlock_b0
  refine (jgR_eq h.lg rfl).mpr ((jgR_eq (h.st (s := 0) (by omega)) rfl).mpr ((jgR_eq h.lg rfl).mpr ⟨⟨_, h.sv⟩, s_best h hs (fun w1 h1 => ?_)⟩))
  exact ⟨⟨_, h1.row (r := 0) (by omega)⟩, s_gq h1 0 (by omega) (by omega) (by omega) (k w1 h1)⟩
theorem q_parentOf (h : jRq L R V T w) {x : Int32} (k1 : jSlotOf R 0 x = -1 ∨ jSlotOf R 0 x = 0 → E "java/util/NoSuchElementException" w) (k0 : jSlotOf R 0 x ≠ -1 → jSlotOf R 0 x ≠ 0 → P (jGt R 0 0 (jGt R 0 1 (jSlotOf R 0 x))) w) : w_X8_parentOf κ w (L 316) x P E := by
  unfold w_X8_parentOf w_X8_parentOf_b0
  refine (jgR_eq h.lg rfl).mpr ((jgR_eq (h.st (s := 0) (by omega)) rfl).mpr ((jgR_eq h.lg rfl).mpr ((jgR_eq (h.st (s := 0) (by omega)) rfl).mpr ⟨⟨_, h.lg⟩, s_reqW h k1 (fun g1 g2 => ?_)⟩)))
  exact ⟨⟨_, h.row (r := 1) (by omega)⟩, s_gq h 1 (by omega) (by omega) (by omega) ⟨⟨_, h.row (r := 0) (by omega)⟩, s_gq h 0 (by omega) (by omega) (by omega) (k0 g1 g2)⟩⟩
theorem q_nonceOf (h : jRq L R V T w) {x : Int32} (k1 : jSlotOf R 0 x = -1 ∨ jSlotOf R 0 x = 0 → E "java/util/NoSuchElementException" w) (k0 : jSlotOf R 0 x ≠ -1 → jSlotOf R 0 x ≠ 0 → P (jGt R 0 4 (jSlotOf R 0 x)) w) : w_X8_nonceOf κ w (L 316) x P E := by
  unfold w_X8_nonceOf w_X8_nonceOf_b0
  refine (jgR_eq h.lg rfl).mpr ((jgR_eq (h.st (s := 0) (by omega)) rfl).mpr ⟨⟨_, h.lg⟩, s_reqW h k1 (fun g1 g2 => ?_)⟩)
  exact ⟨⟨_, h.row (r := 4) (by omega)⟩, s_gq h 4 (by omega) (by omega) (by omega) (k0 g1 g2)⟩
theorem q_firstInvalid (h : jRq L R V T w) (hs : ∀ x, jSz R 0 x ≤ 4) {x : Int32} (k1 : jSlotOf R 0 x = -1 ∨ jLow R (jSlotOf R 0 x) = -1 → ∀ w', jRq L R V T w' → E "java/util/NoSuchElementException" w') (k0 : jSlotOf R 0 x ≠ -1 → jLow R (jSlotOf R 0 x) ≠ -1 → ∀ w', jRq L R V T w' → P (jGt R 0 0 (jLow R (jSlotOf R 0 x))) w') : w_X8_firstInvalid κ w (L 316) x P E := by
  unfold w_X8_firstInvalid w_X8_firstInvalid_b0
  refine (jgR_eq h.lg rfl).mpr ⟨⟨_, h.lg⟩, s_req h (fun e => k1 (Or.inl e) w h) (fun g1 => ⟨⟨_, h.sv⟩, s_low h hs (fun w1 h1 => ?_)⟩)⟩
  by_cases hl : jLow R (jSlotOf R 0 x) = -1
  · rw [if_pos hl]; exact k1 (Or.inr hl) w1 h1
  · rw [if_neg hl]
    exact (jgR_eq h1.lg rfl).mpr ((jgR_eq (h1.st (s := 0) (by omega)) rfl).mpr ⟨⟨_, h1.row (r := 0) (by omega)⟩, s_gq h1 0 (by omega) (by omega) (by omega) (k0 g1 hl w1 h1)⟩)
theorem q_tipAtRank (h : jRq L R V T w) {x : Int32} (k1 : jTipAt R x = -1 → E "java/util/NoSuchElementException" w) (k0 : jTipAt R x ≠ -1 → P (jGt R 0 0 (jTipAt R x)) w) : w_X8_tipAtRank κ w (L 316) x P E := by
  unfold w_X8_tipAtRank w_X8_tipAtRank_b0
  refine (jgR_eq h.lg rfl).mpr ⟨⟨_, h.sv⟩, s_tipRankedQ h ?_⟩
  by_cases hl : jTipAt R x = -1
  · rw [if_pos hl]; exact k1 hl
  · rw [if_neg hl]
    exact (jgR_eq h.lg rfl).mpr ((jgR_eq (h.st (s := 0) (by omega)) rfl).mpr ⟨⟨_, h.row (r := 0) (by omega)⟩, s_gq h 0 (by omega) (by omega) (by omega) (k0 hl)⟩)
variable {x y : Int32}
theorem q_heightOf (h : jRq L R V T w) (hb : jSlotOf R 0 x ≠ -1) (k : P (jHgt R (jSlotOf R 0 x)) w) : w_X8_heightOfZ κ w (L 316) x P := by
  unfold w_X8_heightOfZ w_X8_heightOfZ_b0
  exact (jgR_eq h.lg rfl).mpr ⟨⟨_, h.lg⟩, s_reqZ h hb ⟨⟨_, h.sv⟩, s_heightQ h k⟩⟩
theorem q_heightFromRoot (h : jRq L R V T w) (hb : jSlotOf R 0 x ≠ -1) (k : P (jSrch R (jSlotOf R 0 x)) w) : w_X8_heightFromRootZ κ w (L 316) x P := by
  unfold w_X8_heightFromRootZ w_X8_heightFromRootZ_b0
  exact (jgR_eq h.lg rfl).mpr ⟨⟨_, h.lg⟩, s_reqZ h hb ⟨⟨_, h.sv⟩, s_search h k⟩⟩
theorem q_hashOf (h : jRq L R V T w) (hb : jSlotOf R 0 x ≠ -1) (k : P (jGt R 0 3 (jSlotOf R 0 x)) w) : w_X8_hashOfZ κ w (L 316) x P := by
  unfold w_X8_hashOfZ w_X8_hashOfZ_b0
  exact (jgR_eq h.lg rfl).mpr ((jgR_eq (h.st (s := 0) (by omega)) rfl).mpr ⟨⟨_, h.lg⟩, s_reqZ h hb ⟨⟨_, h.row (r := 3) (by omega)⟩, s_gq h 3 (by omega) (by omega) (by omega) k⟩⟩)
theorem q_root (h : jRq L R V T w) (hs : ∀ x, jSz R 0 x ≤ 4) (hb : jSlotOf R 0 x ≠ -1) (k : ∀ w', jRq L R V T w' → P (jRoot R 0 (jSlotOf R 0 x)) w') : w_X8_rootOfFlakesZ κ w (L 316) x P := by
  unfold w_X8_rootOfFlakesZ w_X8_rootOfFlakesZ_b0
  exact (jgR_eq h.lg rfl).mpr ((jgR_eq (h.st (s := 0) (by omega)) rfl).mpr ⟨⟨_, h.lg⟩, s_reqZ h hb ⟨⟨_, h.tab (t := 0) (by omega)⟩, s_rootQ h (t := 0) (by omega) (hs _) k⟩⟩)
theorem q_rootH (h : jRq L R V T w) (hs : ∀ x, jSz R 0 x ≤ 4) (hb : jSlotOf R 0 x ≠ -1) (k : P (jRoot R 0 (jSlotOf R 0 x)) w) : w_X8_rootOfFlakesByHalvesZ κ w (L 316) x P := by
  unfold w_X8_rootOfFlakesByHalvesZ w_X8_rootOfFlakesByHalvesZ_b0
  exact (jgR_eq h.lg rfl).mpr ((jgR_eq (h.st (s := 0) (by omega)) rfl).mpr ⟨⟨_, h.lg⟩, s_reqZ h hb ⟨⟨_, h.tab (t := 0) (by omega)⟩, s_halves h (t := 0) (by omega) (hs _) k⟩⟩)
theorem jB2_nar (b : Bool) : narrow .boolean (.int (jB2 b)) = .int (jB2 b) := by cases b <;> rfl
theorem q_isValid (h : jRq L R V T w) (hs : ∀ x, jSz R 0 x ≤ 4) (hb : jSlotOf R 0 x ≠ -1) (k : ∀ w', jRq L R V T w' → P (jB2 (jHolds R (jSlotOf R 0 x))) w') : w_X8_isValidZ κ w (L 316) x P := by
  unfold w_X8_isValidZ w_X8_isValidZ_b0
  exact (jgR_eq h.lg rfl).mpr ⟨⟨_, h.lg⟩, s_reqZ h hb ⟨⟨_, h.sv⟩, s_holds h hs (fun w1 h1 => ⟨jB2_nar _, k w1 h1⟩)⟩⟩
theorem q_isBranchValid (h : jRq L R V T w) (hs : ∀ x, jSz R 0 x ≤ 4) (hb : jSlotOf R 0 x ≠ -1) (k : ∀ w', jRq L R V T w' → P (jB2 (decide (jLow R (jSlotOf R 0 x) = -1))) w') : w_X8_isBranchValidZ κ w (L 316) x P := by
  unfold w_X8_isBranchValidZ w_X8_isBranchValidZ_b0
  refine (jgR_eq h.lg rfl).mpr ⟨⟨_, h.lg⟩, s_reqZ h hb ⟨⟨_, h.sv⟩, s_low h hs (fun w1 h1 => ?_)⟩⟩
  have k := k w1 h1
  by_cases hl : jLow R (jSlotOf R 0 x) = -1
  · rw [if_pos hl]
    simp only [hl, decide_true, jB2, if_true] at k
    exact ⟨rfl, k⟩
  · rw [if_neg hl]
    simp only [hl, decide_false, jB2, Bool.false_eq_true, if_false] at k
    exact ⟨rfl, k⟩
theorem q_isInBranch (h : jRq L R V T w) (hb : jSlotOf R 0 x ≠ -1) (hb2 : jSlotOf R 0 y ≠ -1) (k : P (jB2 (jRch R 16 (jSlotOf R 0 y) (jSlotOf R 0 x))) w) : w_X8_isInBranchZ κ w (L 316) x y P := by
  unfold w_X8_isInBranchZ w_X8_isInBranchZ_b0
  exact ⟨⟨_, h.lg⟩, s_reqZ h hb ((jgR_eq h.lg rfl).mpr ⟨⟨_, h.lg⟩, s_reqZ h hb2 ⟨⟨_, h.sv⟩, s_reachQ h ⟨jB2_nar _, k⟩⟩⟩)⟩
theorem q_childCount (h : jRq L R V T w) (hb : jSlotOf R 0 x ≠ -1) (k : P (jKid R (jSlotOf R 0 x)) w) : w_X8_childCountZ κ w (L 316) x P := by
  unfold w_X8_childCountZ w_X8_childCountZ_b0
  exact (jgR_eq h.lg rfl).mpr ⟨⟨_, h.lg⟩, s_reqZ h hb ⟨⟨_, h.sv⟩, s_kidsQ h k⟩⟩
theorem q_meltSize (h : jRq L R V T w) (hb : jSlotOf R 0 x ≠ -1) (k : P (jCt (fun i => jRch R 16 (nI i) (jSlotOf R 0 x))) w) : w_X8_meltSizeZ κ w (L 316) x P := by
  unfold w_X8_meltSizeZ w_X8_meltSizeZ_b0
  exact (jgR_eq h.lg rfl).mpr ⟨⟨_, h.lg⟩, s_reqZ h hb ⟨⟨_, h.sv⟩, s_reachingQ h k⟩⟩
theorem q_repairsNeeded (h : jRq L R V T w) (hs : ∀ x, jSz R 0 x ≤ 4) (hb : jSlotOf R 0 x ≠ -1) (k : ∀ w', jRq L R V T w' → P (jRp R (jSlotOf R 0 x)) w') : w_X8_repairsNeededZ κ w (L 316) x P := by
  unfold w_X8_repairsNeededZ w_X8_repairsNeededZ_b0
  exact (jgR_eq h.lg rfl).mpr ⟨⟨_, h.lg⟩, s_reqZ h hb ⟨⟨_, h.sv⟩, s_repairs h hs k⟩⟩
theorem q_flakeCount (h : jRq L R V T w) (hb : jSlotOf R 0 x ≠ -1) (k : P (jSz R 0 (jSlotOf R 0 x)) w) : w_X8_flakeCountZ κ w (L 316) x P := by
  unfold w_X8_flakeCountZ w_X8_flakeCountZ_b0
  exact (jgR_eq h.lg rfl).mpr ((jgR_eq (h.st (s := 0) (by omega)) rfl).mpr ⟨⟨_, h.lg⟩, s_reqZ h hb ⟨⟨_, h.tab (t := 0) (by omega)⟩, s_sizeQ h (t := 0) (by omega) k⟩⟩)
theorem q_collected (h : jRq L R V T w) (hb : ¬ x < 0 ∧ ¬ V 0 ≤ x) (k : P (jSz R 1 x) w) : w_X8_collectedZ κ w (L 316) x P := by
  unfold w_X8_collectedZ w_X8_collectedZ_b0
  exact ⟨⟨_, h.lg⟩, s_reqHZ h hb ((jgR_eq h.lg rfl).mpr ((jgR_eq (h.st (s := 0) (by omega)) rfl).mpr ⟨⟨_, h.tab (t := 1) (by omega)⟩, s_sizeQ h (t := 1) (by omega) k⟩))⟩
theorem q_blocksBy (h : jRq L R V T w) (hb : ¬ x < 0 ∧ ¬ V 0 ≤ x) (k : P (jCt (fun i => decide (jGt R 0 2 (nI i) = x))) w) : w_X8_blocksByZ κ w (L 316) x P := by
  unfold w_X8_blocksByZ w_X8_blocksByZ_b0
  exact ⟨⟨_, h.lg⟩, s_reqHZ h hb ((jgR_eq h.lg rfl).mpr ⟨⟨_, h.sv⟩, s_writtenByQ h k⟩)⟩
end JAsk
