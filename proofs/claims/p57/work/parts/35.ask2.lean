/-! ===== the face: more questions, the snapshot ===== -/
section JAsk2
variable {κ : Nat → Nat} {L : Nat → Nat} {R : Nat → Nat → Int32} {V : Nat → Int32} {T : Nat → List Int32} {w : va_W} {P : Int32 → va_W → Prop} {E : String → va_W → Prop} {x y : Int32}
theorem q_forkOf (h : jRq L R V T w) (hb : jSlotOf R 0 x ≠ -1) (hb2 : jSlotOf R 0 y ≠ -1) (k : P (jGt R 0 0 (jFk R 16 (jSlotOf R 0 x) (jSlotOf R 0 y))) w) : w_X8_forkOfZ κ w (L 316) x y P := by
  unfold w_X8_forkOfZ w_X8_forkOfZ_b0
  refine ⟨⟨_, h.lg⟩, s_reqZ h hb ((jgR_eq h.lg rfl).mpr ((jgR_eq (h.st (s := 0) (by omega)) rfl).mpr ((jgR_eq h.lg rfl).mpr ⟨⟨_, h.lg⟩, s_reqZ h hb2 ⟨⟨_, h.sv⟩, s_forkQ h ?_⟩⟩)))⟩
  exact ⟨⟨_, h.row (r := 0) (by omega)⟩, s_gq h 0 (by omega) (by omega) (by omega) k⟩
theorem q_flakeAt (h : jRq L R V T w) (hb : jSlotOf R 0 x ≠ -1) (hp : ¬ y < 0 ∧ ¬ jSz R 0 (jSlotOf R 0 x) ≤ y) (k : P (jFl R 0 (jSlotOf R 0 x) y) w) : w_X8_flakeAtZ κ w (L 316) x y P := by
  unfold w_X8_flakeAtZ w_X8_flakeAtZ_b0
  refine ⟨⟨_, h.lg⟩, s_reqZ h hb ((jgR_eq h.lg rfl).mpr ((jgR_eq (h.st (s := 0) (by omega)) rfl).mpr ⟨⟨_, h.tab (t := 0) (by omega)⟩, s_hasPosQ h (t := 0) (by omega) ?_⟩))⟩
  refine jif_b (fun hu => absurd hp (of_decide_eq_false hu)) (fun _ => ?_)
  exact (jgR_eq h.lg rfl).mpr ((jgR_eq (h.st (s := 0) (by omega)) rfl).mpr ⟨⟨_, h.tab (t := 0) (by omega)⟩, s_flakeQ h (t := 0) (by omega) k⟩)
theorem q_atHeight (h : jRq L R V T w) {i : Nat} (hi : i < 16) (k : P (jCt (fun j => jUsed R 0 (nI j) && decide (jHgt R (nI j) = nI i))) w) : w_X8_blocksAtHeightZ κ w (L 316) (nI i) P := by
  unfold w_X8_blocksAtHeightZ w_X8_blocksAtHeightZ_b0
  rw [if_neg (nI_pos (by omega)), if_pos (show nI i < (16 : Int32) from nI_lt (b := 16) hi (by decide))]
  exact (jgR_eq h.lg rfl).mpr ⟨⟨_, h.sv⟩, s_atHeightQ h k⟩
theorem q_followed (h : jRq L R V T w) (hb : ¬ x < 0 ∧ ¬ V 0 ≤ x) (k : P (jGt R 0 0 (jGt R 0 8 x)) w) : w_X8_followedZ κ w (L 316) x P := by
  unfold w_X8_followedZ w_X8_followedZ_b0
  refine ⟨⟨_, h.lg⟩, s_reqHZ h hb ((jgR_eq h.lg rfl).mpr ((jgR_eq (h.st (s := 0) (by omega)) rfl).mpr ((jgR_eq h.lg rfl).mpr ((jgR_eq (h.st (s := 0) (by omega)) rfl).mpr ⟨⟨_, h.row (r := 8) (by omega)⟩, s_gq h 8 (by omega) (by omega) (by omega) ?_⟩))))⟩
  exact ⟨⟨_, h.row (r := 0) (by omega)⟩, s_gq h 0 (by omega) (by omega) (by omega) k⟩
theorem q_nextHash (h : jRq L R V T w) (hb : ¬ x < 0 ∧ ¬ V 0 ≤ x) (hs : jSz R 1 x ≤ 4) (k : ∀ w', jRq L R V T w' → P (jHw (jGt R 0 3 (jGt R 0 8 x)) (jRoot R 1 x) x (jNon (jGt R 0 3 (jGt R 0 8 x)) (jRoot R 1 x) x)) w') : w_X8_nextHashZ κ w (L 316) x P := by
  unfold w_X8_nextHashZ w_X8_nextHashZ_b0
  refine ⟨⟨_, h.lg⟩, s_reqHZ h hb ((jgR_eq h.lg rfl).mpr ((jgR_eq (h.st (s := 0) (by omega)) rfl).mpr ((jgR_eq h.lg rfl).mpr ((jgR_eq (h.st (s := 0) (by omega)) rfl).mpr ⟨⟨_, h.row (r := 8) (by omega)⟩, s_gq h 8 (by omega) (by omega) (by omega) ?_⟩))))⟩
  refine ⟨⟨_, h.row (r := 3) (by omega)⟩, s_gq h 3 (by omega) (by omega) (by omega) ?_⟩
  exact (jgR_eq h.lg rfl).mpr ((jgR_eq (h.st (s := 0) (by omega)) rfl).mpr ⟨⟨_, h.tab (t := 1) (by omega)⟩, s_rootQ h (t := 1) (by omega) hs (fun w1 h1 => s_sealed (k w1 h1))⟩)
theorem q_written (h : jRq L R V T w) (k : P (V 2) w) : w_X8_writtenTotal κ w (L 316) P := by
  unfold w_X8_writtenTotal w_X8_writtenTotal_b0
  exact (jgR_eq h.lg rfl).mpr ((jgI_eq (h.st (s := 0) (by omega)) rfl).mpr k)
theorem q_melted (h : jRq L R V T w) (k : P (V 3) w) : w_X8_meltedTotal κ w (L 316) P := by
  unfold w_X8_meltedTotal w_X8_meltedTotal_b0
  exact (jgR_eq h.lg rfl).mpr ((jgI_eq (h.st (s := 0) (by omega)) rfl).mpr k)
theorem q_hills (h : jRq L R V T w) (k : P (V 0) w) : w_X8_hillCount κ w (L 316) P := by
  unfold w_X8_hillCount w_X8_hillCount_b0
  exact (jgR_eq h.lg rfl).mpr ((jgI_eq (h.st (s := 0) (by omega)) rfl).mpr k)
theorem q_consistent (h : jRq L R V T w) (hs : ∀ x, jSz R 0 x ≤ 4) (k : ∀ w', jRq L R V T w' → P (jB2 (jAllL (fun j => jAgr R (nI j)) 16 0 && jAllL (fun j => jStp R (nI j)) 16 0 && decide (V 2 = (V 3 + jCt (fun i => jUsed R 0 (nI i))) - 1))) w') : w_X8_isConsistent κ w (L 316) P := by
  unfold w_X8_isConsistent w_X8_isConsistent_b0
  refine (jgR_eq h.lg rfl).mpr ⟨⟨_, h.sv⟩, s_agree h hs (fun w1 h1 => ?_)⟩
  have k := k w1 h1
  refine jif_b (fun hu => ?_) (fun hu => ?_)
  · simp only [hu, Bool.false_and, jB2, Bool.false_eq_true, if_false] at k
    exact ⟨rfl, k⟩
  · refine (jgR_eq h1.lg rfl).mpr ⟨⟨_, h1.sv⟩, s_steps h1 ?_⟩
    refine jif_b (fun hv => ?_) (fun hv => ?_)
    · simp only [hu, hv, Bool.and_false, Bool.false_and, jB2, Bool.false_eq_true, if_false] at k
      exact ⟨rfl, k⟩
    · refine (jgR_eq h1.lg rfl).mpr ((jgI_eq (h1.st (s := 0) (by omega)) rfl).mpr ((jgR_eq h1.lg rfl).mpr ((jgI_eq (h1.st (s := 0) (by omega)) rfl).mpr ((jgR_eq h1.lg rfl).mpr ⟨⟨_, h1.sv⟩, s_blocksQ h1 ?_⟩))))
      by_cases he : V 2 = (V 3 + jCt (fun i => jUsed R 0 (nI i))) - 1
      · rw [if_pos he]
        rw [hu, hv, decide_eq_true he] at k
        exact ⟨rfl, k⟩
      · rw [if_neg he]
        rw [hu, hv, decide_eq_false he] at k
        exact ⟨rfl, k⟩
theorem q_mean (h : jRq L R V T w) {P : UInt64 → va_W → Prop} (hpos : ¬ jCt (fun i => jTip R (nI i)) ≤ 0) (hn : vf_n64 (FP.ddiv (FP.i2d (jSumT R)) (FP.i2d (jCt (fun i => jTip R (nI i)))))) (k : P (FP.ddiv (FP.i2d (jSumT R)) (FP.i2d (jCt (fun i => jTip R (nI i))))) w) : w_X8_meanTipHeight κ w (L 316) P := by
  unfold w_X8_meanTipHeight w_X8_meanTipHeight_b0
  refine (jgR_eq h.lg rfl).mpr ⟨⟨_, h.sv⟩, s_tipsQ h ?_⟩
  rw [if_neg hpos]
  refine (jgR_eq h.lg rfl).mpr ⟨⟨_, h.sv⟩, ?_⟩
  obtain ⟨R1, e, h1⟩ := h
  refine s_sumTips h1 ?_
  have e9 : jSumT R1 = jSumT R := by unfold jSumT; simp only [jTip_q e, jHgt_q e]
  rw [e9]
  exact ⟨hn, k⟩
theorem q_share (h : jRq L R V T w) (hs : ∀ x, jSz R 0 x ≤ 4) {P : UInt32 → va_W → Prop} (hpos : ¬ jCt (fun i => jUsed R 0 (nI i)) ≤ 0) (hn : vf_n32 (FP.fdiv (FP.i2f (jHold R)) (FP.i2f (jCt (fun i => jUsed R 0 (nI i)))))) (k : ∀ w', jRq L R V T w' → P (FP.fdiv (FP.i2f (jHold R)) (FP.i2f (jCt (fun i => jUsed R 0 (nI i))))) w') : w_X8_validShare κ w (L 316) P := by
  unfold w_X8_validShare w_X8_validShare_b0
  refine (jgR_eq h.lg rfl).mpr ⟨⟨_, h.sv⟩, s_blocksQ h ?_⟩
  rw [if_neg hpos]
  exact (jgR_eq h.lg rfl).mpr ⟨⟨_, h.sv⟩, s_holding h hs (fun w1 h1 => ⟨hn, k w1 h1⟩)⟩
theorem q_save (h : jRq L R V T w) (k : ∀ w', jRq L (jCpR R 1 0) (jSetV (jCpV V 1 0) 46 1) T w' → P (jCt (fun i => jUsed (jCpR R 1 0) 0 (nI i))) w') : w_X8_save κ w (L 316) P := by
  unfold w_X8_save w_X8_save_b0
  refine (jgR_eq h.lg rfl).mpr ((jgR_eq h.lg rfl).mpr ⟨⟨_, h.st (s := 1) (by omega)⟩, s_copyQ h (s := 1) (u := 0) (by omega) (by omega) (by omega) (fun w1 h1 => ?_)⟩)
  refine s_pv46 h1 (fun w2 h2 => ?_)
  exact (jgR_eq h2.lg rfl).mpr ⟨⟨_, h2.sv⟩, s_blocksQ h2 (k w2 h2)⟩
theorem q_restore (h : jRq L R V T w) (k1 : V 46 = 0 → E "java/lang/IllegalStateException" w) (k0 : ¬ V 46 = 0 → ∀ w', jRq L (jCpR R 0 1) (jSetV (jCpV V 0 1) 45 0) T w' → P (jCt (fun i => jUsed (jCpR R 0 1) 0 (nI i))) w') : w_X8_restore κ w (L 316) P E := by
  unfold w_X8_restore w_X8_restore_b0
  refine (jgI_eq h.lg rfl).mpr ?_
  by_cases h0 : V 46 = 0
  · rw [if_pos h0]; exact k1 h0
  · rw [if_neg h0]
    refine (jgR_eq h.lg rfl).mpr ((jgR_eq h.lg rfl).mpr ⟨⟨_, h.st (s := 0) (by omega)⟩, s_copyQ h (s := 0) (u := 1) (by omega) (by omega) (by omega) (fun w1 h1 => ?_)⟩)
    refine (jgR_eq h1.lg rfl).mpr ⟨⟨_, h1.hi⟩, s_forget h1 (fun w2 h2 => ?_)⟩
    exact (jgR_eq h2.lg rfl).mpr ⟨⟨_, h2.sv⟩, s_blocksQ h2 (k0 h0 w2 h2)⟩
end JAsk2
