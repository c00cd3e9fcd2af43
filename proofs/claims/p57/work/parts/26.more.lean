/-! ===== counts of valid blocks, the best, the steps, halves ===== -/
section JMore
variable {κ : Nat → Nat} {L : Nat → Nat} {R : Nat → Nat → Int32} {V : Nat → Int32} {T : Nat → List Int32} {w : va_W}
theorem jUsed_q {R' : Nat → Nat → Int32} (e : ∀ r, jScr r = false → R' r = R r) {x : Int32} : jUsed R' 0 x = jUsed R 0 x := by
  unfold jUsed; rw [jGt_q e (by omega) (by omega) (by omega)]
theorem jHt_q {R' : Nat → Nat → Int32} (e : ∀ r, jScr r = false → R' r = R r) : ∀ (n c : Nat) (x : Int32), jHt R' n c x = jHt R n c x := by
  intro n
  induction n with
  | zero => intro c x; rfl
  | succ n ih => intro c x; simp only [jHt, jGt_q e (show 1 < 12 by omega) (show 1 ≠ 7 by omega) (show 1 ≠ 11 by omega), ih]
theorem jHgt_q {R' : Nat → Nat → Int32} (e : ∀ r, jScr r = false → R' r = R r) {x : Int32} : jHgt R' x = jHgt R x := by
  unfold jHgt; rw [jGt_q e (by omega) (by omega) (by omega), jHt_q e]
theorem jRk_q {R' : Nat → Nat → Int32} (e : ∀ r, jScr r = false → R' r = R r) {x y : Int32} : jRk R' x y = jRk R x y := by
  unfold jRk; simp only [jHgt_q e, jGt_q e (show 3 < 12 by omega) (show 3 ≠ 7 by omega) (show 3 ≠ 11 by omega), jGt_q e (show 0 < 12 by omega) (show 0 ≠ 7 by omega) (show 0 ≠ 11 by omega)]
theorem s_usedQ (h : jRq L R V T w) {x : Int32} {P : Int32 → va_W → Prop} (k : P (jB2 (jUsed R 0 x)) w) : w_X5_isUsed κ w (L 300) x P := by
  obtain ⟨R1, e, h1⟩ := h
  refine s_isUsed h1 (s := 0) (by omega) ?_
  rw [jUsed_q e]; exact k
theorem s_heightQ (h : jRq L R V T w) {x : Int32} {P : Int32 → va_W → Prop} (k : P (jHgt R x) w) : w_X6_heightByWalk κ w (L 311) x P := by
  obtain ⟨R1, e, h1⟩ := h
  refine s_height h1 ?_
  rw [jHgt_q e]; exact k
theorem s_ranksQ (h : jRq L R V T w) {x y : Int32} {P : Int32 → va_W → Prop} (k : P (jB2 (jRk R x y)) w) : w_X6_ranksBefore κ w (L 311) x y P := by
  obtain ⟨R1, e, h1⟩ := h
  refine s_ranks h1 ?_
  rw [jRk_q e]; exact k
def jHold (R : Nat → Nat → Int32) : Int32 := jCt (fun i => jUsed R 0 (nI i) && jHolds R (nI i))
theorem s_holding (h : jRq L R V T w) (hs : ∀ x, jSz R 0 x ≤ 4) {P : Int32 → va_W → Prop} (k : ∀ w', jRq L R V T w' → P (jHold R) w') : w_X6_countHolding κ w (L 311) P := by
  unfold w_X6_countHolding w_X6_countHolding_b0
  refine jLoop (Q := fun _ w' => jRq L R V T w') (F := fun n w a i => w_X6_countHolding_b4 n κ w (L 311) a i P) (P := P) 16 (fun (a : Int32) i => if (jUsed R 0 (nI i) && jHolds R (nI i)) = true then a + 1 else a) ?_ ?_ jFu 0 0 w h (by omega) (by rw [jFu_eq]; omega) k
  · intro n w' a h' hp
    show w_X6_countHolding_b4 (n + 1) κ w' (L 311) a (nI 16) P
    rw [w_X6_countHolding_b4, if_pos j16_self]
    exact hp
  · intro n w' a i h' hi hk
    show w_X6_countHolding_b4 (n + 1) κ w' (L 311) a (nI i) P
    rw [w_X6_countHolding_b4, if_neg (j16_le hi)]
    refine (jgR_eq h'.sv rfl).mpr ⟨⟨_, h'.st (s := 0) (by omega)⟩, s_usedQ h' ?_⟩
    refine jif_b (fun hu => ?_) (fun hu => ?_)
    · simp only [hu, Bool.false_and, Bool.false_eq_true, if_false] at hk
      unfold w_X6_countHolding_b32
      rw [nI_1]
      exact hk w' h'
    · simp only [hu, Bool.true_and] at hk
      refine ⟨⟨_, h'.sv⟩, s_holds h' hs (fun w2 h2 => ?_)⟩
      refine jif_b (fun hv => ?_) (fun hv => ?_)
      · simp only [hv, Bool.false_eq_true, if_false] at hk
        unfold w_X6_countHolding_b32
        rw [nI_1]
        exact hk w2 h2
      · simp only [hv, if_true] at hk
        unfold w_X6_countHolding_b32
        rw [nI_1]
        exact hk w2 h2
theorem s_best (h : jRq L R V T w) (hs : ∀ x, jSz R 0 x ≤ 4) {P : Int32 → va_W → Prop} (k : ∀ w', jRq L R V T w' → P (jBest R) w') : w_X6_best κ w (L 311) P := by
  unfold w_X6_best w_X6_best_b0
  refine jLoop (Q := fun _ w' => jRq L R V T w') (F := fun n w a i => w_X6_best_b4 n κ w (L 311) a i P) (P := P) 16 (fun (a : Int32) i => if (jUsed R 0 (nI i) && jRk R (nI i) a && decide (jLow R (nI i) = -1)) = true then nI i else a) ?_ ?_ jFu 0 0 w h (by omega) (by rw [jFu_eq]; omega) k
  · intro n w' a h' hp
    show w_X6_best_b4 (n + 1) κ w' (L 311) a (nI 16) P
    rw [w_X6_best_b4, if_pos j16_self]
    exact hp
  · intro n w' a i h' hi hk
    show w_X6_best_b4 (n + 1) κ w' (L 311) a (nI i) P
    rw [w_X6_best_b4, if_neg (j16_le hi)]
    refine (jgR_eq h'.sv rfl).mpr ⟨⟨_, h'.st (s := 0) (by omega)⟩, s_usedQ h' ?_⟩
    refine jif_b (fun hu => ?_) (fun hu => ?_)
    · simp only [hu, Bool.false_and, Bool.false_eq_true, if_false] at hk
      unfold w_X6_best_b41
      rw [nI_1]
      exact hk w' h'
    · simp only [hu, Bool.true_and] at hk
      refine ⟨⟨_, h'.sv⟩, s_ranksQ h' ?_⟩
      refine jif_b (fun hv => ?_) (fun hv => ?_)
      · simp only [hv, Bool.false_and, Bool.false_eq_true, if_false] at hk
        unfold w_X6_best_b41
        rw [nI_1]
        exact hk w' h'
      · simp only [hv, Bool.true_and] at hk
        refine ⟨⟨_, h'.sv⟩, s_low h' hs (fun w2 h2 => ?_)⟩
        by_cases hl : jLow R (nI i) = -1
        · rw [if_pos hl]
          simp only [hl, decide_true, if_true] at hk
          unfold w_X6_best_b41
          rw [nI_1]
          exact hk w2 h2
        · rw [if_neg hl]
          simp only [hl, decide_false, Bool.false_eq_true, if_false] at hk
          unfold w_X6_best_b41
          rw [nI_1]
          exact hk w2 h2
/-- every block's hash but the root's is a step -/
def jAllL (p : Nat → Bool) : Nat → Nat → Bool
  | 0, _ => true
  | n + 1, i => if p i = true then jAllL p n (i + 1) else false
def jStp (R : Nat → Nat → Int32) (x : Int32) : Bool := decide (x = 0) || !jUsed R 0 x || decide (jrem (jGt R 0 3 x) 4 = 0)
theorem s_stepsL (h : jRq L R V T w) {P : Int32 → va_W → Prop} : ∀ n i : Nat, i ≤ 16 → 16 < n + i → P (jB2 (jAllL (fun j => jStp R (nI j)) (16 - i) i)) w → w_X6_hashesAreSteps_b2 n κ w (L 311) (nI i) P := by
  intro n
  induction n with
  | zero => intro i h1 h2; omega
  | succ n ih =>
    intro i h1 h2 k
    rw [w_X6_hashesAreSteps_b2]
    by_cases hi : i = 16
    · subst hi
      rw [if_pos j16_self]
      exact k
    · rw [if_neg (j16_le (by omega))]
      rw [show 16 - i = (16 - (i + 1)) + 1 by omega, jAllL] at k
      by_cases h0 : nI i = 0
      · rw [if_pos h0]
        simp only [jStp, h0, decide_true, Bool.true_or, if_true] at k
        unfold w_X6_hashesAreSteps_b41
        rw [nI_1]
        exact ih (i + 1) (by omega) (by omega) k
      · rw [if_neg h0]
        refine (jgR_eq h.sv rfl).mpr ⟨⟨_, h.st (s := 0) (by omega)⟩, s_usedQ h ?_⟩
        refine jif_b (fun hu => ?_) (fun hu => ?_)
        · simp only [jStp, h0, hu, decide_false, Bool.not_false, Bool.or_true, Bool.true_or, if_true] at k
          unfold w_X6_hashesAreSteps_b41
          rw [nI_1]
          exact ih (i + 1) (by omega) (by omega) k
        · refine s_svat h 3 (by omega) ?_
          by_cases hz : jrem (jGt R 0 3 (nI i)) 4 = 0
          · rw [if_pos hz]
            simp only [jStp, h0, hu, hz, decide_false, decide_true, Bool.not_true, Bool.or_true, if_true] at k
            unfold w_X6_hashesAreSteps_b41
            rw [nI_1]
            exact ih (i + 1) (by omega) (by omega) k
          · rw [if_neg hz]
            simp only [jStp, h0, hu, hz, decide_false, Bool.not_true, Bool.or_self, Bool.false_eq_true, if_false] at k
            exact k
theorem s_steps (h : jRq L R V T w) {P : Int32 → va_W → Prop} (k : P (jB2 (jAllL (fun j => jStp R (nI j)) 16 0)) w) : w_X6_hashesAreSteps κ w (L 311) P := by
  unfold w_X6_hashesAreSteps w_X6_hashesAreSteps_b0
  exact s_stepsL h jFu 0 (by omega) (by rw [jFu_eq]; omega) k
end JMore
