/-! ===== the survey: what its reading methods answer; laid by wip/p57/pure/mk23.py ===== -/
theorem jif_b {b : Bool} {X Y : Prop} (h0 : b = false → X) (h1 : b = true → Y) : if jB2 b = 0 then X else Y := by
  cases b with
  | false => rw [if_pos (show jB2 false = 0 from rfl)]; exact h0 rfl
  | true => rw [if_neg (show ¬ jB2 true = 0 by decide)]; exact h1 rfl
def jCt (p : Nat → Bool) : Int32 := jIter (fun (a : Int32) i => if p i = true then a + 1 else a) 16 0 0
/-- height by the way to the root -/
def jHt (R : Nat → Nat → Int32) : Nat → Nat → Int32 → Int32
  | 0, c, _ => nI c
  | n + 1, c, x => if x = -1 then nI c else jHt R n (c + 1) (jGt R 0 1 x)
def jHgt (R : Nat → Nat → Int32) (x : Int32) : Int32 := jHt R 16 0 (jGt R 0 1 x)
def jRch (R : Nat → Nat → Int32) : Nat → Int32 → Int32 → Bool
  | 0, _, _ => false
  | n + 1, x, y => if x = -1 then false else if x = y then true else jRch R n (jGt R 0 1 x) y
def jKid (R : Nat → Nat → Int32) (x : Int32) : Int32 := jCt (fun i => decide (jGt R 0 1 (nI i) = x))
def jTip (R : Nat → Nat → Int32) (x : Int32) : Bool := jUsed R 0 x && decide (jKid R x = 0)
def jRk (R : Nat → Nat → Int32) (x y : Int32) : Bool := if jHgt R x = jHgt R y then (if jGt R 0 3 x = jGt R 0 3 y then !decide (jGt R 0 0 y ≤ jGt R 0 0 x) else !decide (jGt R 0 3 y ≤ jGt R 0 3 x)) else !decide (jHgt R x ≤ jHgt R y)
def jFk (R : Nat → Nat → Int32) : Nat → Int32 → Int32 → Int32
  | 0, _, _ => 0
  | n + 1, x, y => if x = -1 then 0 else if jRch R 16 y x = true then x else jFk R n (jGt R 0 1 x) y
section JSurvey
variable {κ : Nat → Nat} {L : Nat → Nat} {R : Nat → Nat → Int32} {V : Nat → Int32} {T : Nat → List Int32} {w : va_W}
theorem s_gt (h : jRep L R V T w) (j : Nat) (hj : j < 12) {x : Int32} {P : Int32 → va_W → Prop} (k : P (jGt R 0 j x) w) : w_X3_at κ w (L j) x P := by
  refine s_at h (by omega) ?_
  unfold jGt at k
  rw [Nat.mul_zero, Nat.zero_add] at k
  exact k
theorem s_heightL (h : jRep L R V T w) {P : Int32 → va_W → Prop} : ∀ (n c : Nat) (x : Int32), c ≤ 16 → 16 < n + c → P (jHt R (16 - c) c x) w → w_X6_heightByWalk_b14 n κ w (L 311) (nI c) x P := by
  intro n
  induction n with
  | zero => intro c x h1 h2; omega
  | succ n ih =>
    intro c x h1 h2 k
    rw [w_X6_heightByWalk_b14]
    by_cases hc : c = 16
    · subst hc
      have k : P (nI 16) w := k
      by_cases hx : x = -1
      · rw [if_pos hx]; exact k
      · rw [if_neg hx, if_pos j16_self]; exact k
    · rw [show 16 - c = (16 - (c + 1)) + 1 by omega, jHt] at k
      by_cases hx : x = -1
      · rw [if_pos hx] at k ⊢; exact k
      · rw [if_neg hx] at k ⊢
        rw [if_neg (j16_le (by omega))]
        refine (jgR_eq h.sv rfl).mpr ((jgR_eq (h.st (s := 0) (by omega)) rfl).mpr ⟨⟨_, h.row (r := 1) (by omega)⟩, s_gt h 1 (by omega) ?_⟩)
        rw [nI_1]
        exact ih (c + 1) _ (by omega) (by omega) k
theorem s_height (h : jRep L R V T w) {x : Int32} {P : Int32 → va_W → Prop} (k : P (jHgt R x) w) : w_X6_heightByWalk κ w (L 311) x P := by
  unfold w_X6_heightByWalk w_X6_heightByWalk_b0
  refine (jgR_eq h.sv rfl).mpr ((jgR_eq (h.st (s := 0) (by omega)) rfl).mpr ⟨⟨_, h.row (r := 1) (by omega)⟩, s_gt h 1 (by omega) ?_⟩)
  exact s_heightL h jFu 0 _ (by omega) (by rw [jFu_eq]; omega) k
theorem s_reachL (h : jRep L R V T w) {y : Int32} {P : Int32 → va_W → Prop} : ∀ (n c : Nat) (x : Int32), c ≤ 16 → 16 < n + c → P (jB2 (jRch R (16 - c) x y)) w → w_X6_reaches_b5 n κ w (L 311) y x (nI c) P := by
  intro n
  induction n with
  | zero => intro c x h1 h2; omega
  | succ n ih =>
    intro c x h1 h2 k
    rw [w_X6_reaches_b5]
    by_cases hc : c = 16
    · subst hc
      have k : P 0 w := k
      by_cases hx : x = -1
      · rw [if_pos hx]; exact k
      · rw [if_neg hx, if_pos j16_self]; exact k
    · rw [show 16 - c = (16 - (c + 1)) + 1 by omega, jRch] at k
      by_cases hx : x = -1
      · rw [if_pos hx] at k ⊢; exact k
      · rw [if_neg hx] at k ⊢
        rw [if_neg (j16_le (by omega))]
        by_cases hy : x = y
        · rw [if_pos hy] at k ⊢; exact k
        · rw [if_neg hy] at k ⊢
          refine (jgR_eq h.sv rfl).mpr ((jgR_eq (h.st (s := 0) (by omega)) rfl).mpr ⟨⟨_, h.row (r := 1) (by omega)⟩, s_gt h 1 (by omega) ?_⟩)
          rw [nI_1]
          exact ih (c + 1) _ (by omega) (by omega) k
theorem s_reach (h : jRep L R V T w) {x y : Int32} {P : Int32 → va_W → Prop} (k : P (jB2 (jRch R 16 x y)) w) : w_X6_reaches κ w (L 311) x y P := by
  unfold w_X6_reaches w_X6_reaches_b0
  exact s_reachL h jFu 0 _ (by omega) (by rw [jFu_eq]; omega) k
theorem s_blocks (h : jRep L R V T w) {P : Int32 → va_W → Prop} (k : P (jCt (fun i => jUsed R 0 (nI i))) w) : w_X6_countBlocks κ w (L 311) P := by
  unfold w_X6_countBlocks w_X6_countBlocks_b0
  refine jLoop (Q := fun _ w' => w' = w) (F := fun n w a i => w_X6_countBlocks_b4 n κ w (L 311) a i P) (P := P) 16 (fun (a : Int32) i => if jUsed R 0 (nI i) = true then a + 1 else a) ?_ ?_ jFu 0 0 w rfl (by omega) (by rw [jFu_eq]; omega) (fun w' e => by cases e; exact k)
  · intro n w' a e hp
    cases e
    show w_X6_countBlocks_b4 (n + 1) κ _ (L 311) a (nI 16) P
    rw [w_X6_countBlocks_b4, if_pos j16_self]
    exact hp
  · intro n w' a i e hi hk
    cases e
    have hk := hk _ rfl
    show w_X6_countBlocks_b4 (n + 1) κ _ (L 311) a (nI i) P
    rw [w_X6_countBlocks_b4, if_neg (j16_le hi)]
    refine (jgR_eq h.sv rfl).mpr ⟨⟨_, h.st (s := 0) (by omega)⟩, s_isUsed h (s := 0) (by omega) ?_⟩
    refine jif_b (fun hu => ?_) (fun hu => ?_)
    · simp only [hu, Bool.false_eq_true, if_false] at hk
      unfold w_X6_countBlocks_b24
      rw [nI_1]
      exact hk
    · simp only [hu, if_true] at hk
      unfold w_X6_countBlocks_b24
      rw [nI_1]
      exact hk
theorem s_kids (h : jRep L R V T w) {x : Int32} {P : Int32 → va_W → Prop} (k : P (jKid R x) w) : w_X6_countChildren κ w (L 311) x P := by
  unfold w_X6_countChildren w_X6_countChildren_b0
  refine jLoop (Q := fun _ w' => w' = w) (F := fun n w a i => w_X6_countChildren_b4 n κ w (L 311) x a i P) (P := P) 16 (fun (a : Int32) i => if decide (jGt R 0 1 (nI i) = x) = true then a + 1 else a) ?_ ?_ jFu 0 0 w rfl (by omega) (by rw [jFu_eq]; omega) (fun w' e => by cases e; exact k)
  · intro n w' a e hp
    cases e
    show w_X6_countChildren_b4 (n + 1) κ _ (L 311) x a (nI 16) P
    rw [w_X6_countChildren_b4, if_pos j16_self]
    exact hp
  · intro n w' a i e hi hk
    cases e
    have hk := hk _ rfl
    show w_X6_countChildren_b4 (n + 1) κ _ (L 311) x a (nI i) P
    rw [w_X6_countChildren_b4, if_neg (j16_le hi)]
    refine (jgR_eq h.sv rfl).mpr ((jgR_eq (h.st (s := 0) (by omega)) rfl).mpr ⟨⟨_, h.row (r := 1) (by omega)⟩, s_gt h 1 (by omega) ?_⟩)
    split
    · rename_i hu
      simp only [hu, decide_true, if_true] at hk
      unfold w_X6_countChildren_b28
      rw [nI_1]
      exact hk
    · rename_i hu
      simp only [hu, decide_false, Bool.false_eq_true, if_false] at hk
      unfold w_X6_countChildren_b28
      rw [nI_1]
      exact hk
theorem s_writtenBy (h : jRep L R V T w) {x : Int32} {P : Int32 → va_W → Prop} (k : P (jCt (fun i => decide (jGt R 0 2 (nI i) = x))) w) : w_X6_countWrittenBy κ w (L 311) x P := by
  unfold w_X6_countWrittenBy w_X6_countWrittenBy_b0
  refine jLoop (Q := fun _ w' => w' = w) (F := fun n w a i => w_X6_countWrittenBy_b4 n κ w (L 311) x a i P) (P := P) 16 (fun (a : Int32) i => if decide (jGt R 0 2 (nI i) = x) = true then a + 1 else a) ?_ ?_ jFu 0 0 w rfl (by omega) (by rw [jFu_eq]; omega) (fun w' e => by cases e; exact k)
  · intro n w' a e hp
    cases e
    show w_X6_countWrittenBy_b4 (n + 1) κ _ (L 311) x a (nI 16) P
    rw [w_X6_countWrittenBy_b4, if_pos j16_self]
    exact hp
  · intro n w' a i e hi hk
    cases e
    have hk := hk _ rfl
    show w_X6_countWrittenBy_b4 (n + 1) κ _ (L 311) x a (nI i) P
    rw [w_X6_countWrittenBy_b4, if_neg (j16_le hi)]
    refine (jgR_eq h.sv rfl).mpr ((jgR_eq (h.st (s := 0) (by omega)) rfl).mpr ⟨⟨_, h.row (r := 2) (by omega)⟩, s_gt h 2 (by omega) ?_⟩)
    split
    · rename_i hu
      simp only [hu, decide_true, if_true] at hk
      unfold w_X6_countWrittenBy_b28
      rw [nI_1]
      exact hk
    · rename_i hu
      simp only [hu, decide_false, Bool.false_eq_true, if_false] at hk
      unfold w_X6_countWrittenBy_b28
      rw [nI_1]
      exact hk
theorem s_reaching (h : jRep L R V T w) {x : Int32} {P : Int32 → va_W → Prop} (k : P (jCt (fun i => jRch R 16 (nI i) x)) w) : w_X6_countReaching κ w (L 311) x P := by
  unfold w_X6_countReaching w_X6_countReaching_b0
  refine jLoop (Q := fun _ w' => w' = w) (F := fun n w a i => w_X6_countReaching_b4 n κ w (L 311) x a i P) (P := P) 16 (fun (a : Int32) i => if jRch R 16 (nI i) x = true then a + 1 else a) ?_ ?_ jFu 0 0 w rfl (by omega) (by rw [jFu_eq]; omega) (fun w' e => by cases e; exact k)
  · intro n w' a e hp
    cases e
    show w_X6_countReaching_b4 (n + 1) κ _ (L 311) x a (nI 16) P
    rw [w_X6_countReaching_b4, if_pos j16_self]
    exact hp
  · intro n w' a i e hi hk
    cases e
    have hk := hk _ rfl
    show w_X6_countReaching_b4 (n + 1) κ _ (L 311) x a (nI i) P
    rw [w_X6_countReaching_b4, if_neg (j16_le hi)]
    refine ⟨⟨_, h.sv⟩, s_reach h ?_⟩
    refine jif_b (fun hu => ?_) (fun hu => ?_)
    · simp only [hu, Bool.false_eq_true, if_false] at hk
      unfold w_X6_countReaching_b22
      rw [nI_1]
      exact hk
    · simp only [hu, if_true] at hk
      unfold w_X6_countReaching_b22
      rw [nI_1]
      exact hk
theorem s_tip (h : jRep L R V T w) {x : Int32} {P : Int32 → va_W → Prop} (k : P (jB2 (jTip R x)) w) : w_X6_isTip κ w (L 311) x P := by
  unfold w_X6_isTip w_X6_isTip_b0
  unfold jTip at k
  refine (jgR_eq h.sv rfl).mpr ⟨⟨_, h.st (s := 0) (by omega)⟩, s_isUsed h (s := 0) (by omega) ?_⟩
  refine jif_b (fun hu => ?_) (fun hu => ?_)
  · rw [hu] at k
    exact ⟨rfl, k⟩
  · rw [hu] at k
    refine ⟨⟨_, h.sv⟩, s_kids h ?_⟩
    split
    · rename_i hz
      simp only [hz, decide_true, Bool.and_self, jB2, if_true] at k
      exact ⟨rfl, k⟩
    · rename_i hz
      simp only [hz, decide_false, Bool.and_false, jB2, Bool.false_eq_true, if_false] at k
      exact ⟨rfl, k⟩
theorem s_tips (h : jRep L R V T w) {P : Int32 → va_W → Prop} (k : P (jCt (fun i => jTip R (nI i))) w) : w_X6_countTips κ w (L 311) P := by
  unfold w_X6_countTips w_X6_countTips_b0
  refine jLoop (Q := fun _ w' => w' = w) (F := fun n w a i => w_X6_countTips_b4 n κ w (L 311) a i P) (P := P) 16 (fun (a : Int32) i => if jTip R (nI i) = true then a + 1 else a) ?_ ?_ jFu 0 0 w rfl (by omega) (by rw [jFu_eq]; omega) (fun w' e => by cases e; exact k)
  · intro n w' a e hp
    cases e
    show w_X6_countTips_b4 (n + 1) κ _ (L 311) a (nI 16) P
    rw [w_X6_countTips_b4, if_pos j16_self]
    exact hp
  · intro n w' a i e hi hk
    cases e
    have hk := hk _ rfl
    show w_X6_countTips_b4 (n + 1) κ _ (L 311) a (nI i) P
    rw [w_X6_countTips_b4, if_neg (j16_le hi)]
    refine ⟨⟨_, h.sv⟩, s_tip h ?_⟩
    refine jif_b (fun hu => ?_) (fun hu => ?_)
    · simp only [hu, Bool.false_eq_true, if_false] at hk
      unfold w_X6_countTips_b21
      rw [nI_1]
      exact hk
    · simp only [hu, if_true] at hk
      unfold w_X6_countTips_b21
      rw [nI_1]
      exact hk
theorem s_ranks (h : jRep L R V T w) {x y : Int32} {P : Int32 → va_W → Prop} (k : P (jB2 (jRk R x y)) w) : w_X6_ranksBefore κ w (L 311) x y P := by
  unfold w_X6_ranksBefore w_X6_ranksBefore_b0
  unfold jRk at k
  refine ⟨⟨_, h.sv⟩, s_height h ⟨⟨_, h.sv⟩, s_height h ?_⟩⟩
  by_cases h1 : jHgt R x = jHgt R y
  · rw [if_pos h1] at k ⊢
    refine (jgR_eq h.sv rfl).mpr ((jgR_eq (h.st (s := 0) (by omega)) rfl).mpr ⟨⟨_, h.row (r := 3) (by omega)⟩, s_gt h 3 (by omega) ?_⟩)
    refine (jgR_eq h.sv rfl).mpr ((jgR_eq (h.st (s := 0) (by omega)) rfl).mpr ⟨⟨_, h.row (r := 3) (by omega)⟩, s_gt h 3 (by omega) ?_⟩)
    by_cases h2 : jGt R 0 3 x = jGt R 0 3 y
    · rw [if_pos h2] at k ⊢
      refine (jgR_eq h.sv rfl).mpr ((jgR_eq (h.st (s := 0) (by omega)) rfl).mpr ⟨⟨_, h.row (r := 0) (by omega)⟩, s_gt h 0 (by omega) ?_⟩)
      refine (jgR_eq h.sv rfl).mpr ((jgR_eq (h.st (s := 0) (by omega)) rfl).mpr ⟨⟨_, h.row (r := 0) (by omega)⟩, s_gt h 0 (by omega) ?_⟩)
      by_cases h3 : jGt R 0 0 y ≤ jGt R 0 0 x
      · rw [if_pos h3]
        simp only [h3, decide_true, Bool.not_true, jB2, Bool.false_eq_true, if_false] at k
        exact ⟨rfl, k⟩
      · rw [if_neg h3]
        simp only [h3, decide_false, Bool.not_false, jB2, if_true] at k
        exact ⟨rfl, k⟩
    · rw [if_neg h2] at k ⊢
      refine (jgR_eq h.sv rfl).mpr ((jgR_eq (h.st (s := 0) (by omega)) rfl).mpr ⟨⟨_, h.row (r := 3) (by omega)⟩, s_gt h 3 (by omega) ?_⟩)
      refine (jgR_eq h.sv rfl).mpr ((jgR_eq (h.st (s := 0) (by omega)) rfl).mpr ⟨⟨_, h.row (r := 3) (by omega)⟩, s_gt h 3 (by omega) ?_⟩)
      by_cases h3 : jGt R 0 3 y ≤ jGt R 0 3 x
      · rw [if_pos h3]
        simp only [h3, decide_true, Bool.not_true, jB2, Bool.false_eq_true, if_false] at k
        exact ⟨rfl, k⟩
      · rw [if_neg h3]
        simp only [h3, decide_false, Bool.not_false, jB2, if_true] at k
        exact ⟨rfl, k⟩
  · rw [if_neg h1] at k ⊢
    by_cases h3 : jHgt R x ≤ jHgt R y
    · rw [if_pos h3]
      simp only [h3, decide_true, Bool.not_true, jB2, Bool.false_eq_true, if_false] at k
      exact ⟨rfl, k⟩
    · rw [if_neg h3]
      simp only [h3, decide_false, Bool.not_false, jB2, if_true] at k
      exact ⟨rfl, k⟩
theorem s_tipsBefore (h : jRep L R V T w) {x : Int32} {P : Int32 → va_W → Prop} (k : P (jCt (fun i => jTip R (nI i) && jRk R (nI i) x)) w) : w_X6_countTipsBefore κ w (L 311) x P := by
  unfold w_X6_countTipsBefore w_X6_countTipsBefore_b0
  refine jLoop (Q := fun _ w' => w' = w) (F := fun n w a i => w_X6_countTipsBefore_b4 n κ w (L 311) x a i P) (P := P) 16 (fun (a : Int32) i => if (jTip R (nI i) && jRk R (nI i) x) = true then a + 1 else a) ?_ ?_ jFu 0 0 w rfl (by omega) (by rw [jFu_eq]; omega) (fun w' e => by cases e; exact k)
  · intro n w' a e hp
    cases e
    show w_X6_countTipsBefore_b4 (n + 1) κ _ (L 311) x a (nI 16) P
    rw [w_X6_countTipsBefore_b4, if_pos j16_self]
    exact hp
  · intro n w' a i e hi hk
    cases e
    have hk := hk _ rfl
    show w_X6_countTipsBefore_b4 (n + 1) κ _ (L 311) x a (nI i) P
    rw [w_X6_countTipsBefore_b4, if_neg (j16_le hi)]
    refine ⟨⟨_, h.sv⟩, s_tip h ?_⟩
    refine jif_b (fun hu => ?_) (fun hu => ?_)
    · simp only [hu, Bool.false_and, Bool.false_eq_true, if_false] at hk
      unfold w_X6_countTipsBefore_b30
      rw [nI_1]
      exact hk
    · simp only [hu, Bool.true_and] at hk
      refine ⟨⟨_, h.sv⟩, s_ranks h ?_⟩
      refine jif_b (fun hu => ?_) (fun hu => ?_)
      · simp only [hu, Bool.false_eq_true, if_false] at hk
        unfold w_X6_countTipsBefore_b30
        rw [nI_1]
        exact hk
      · simp only [hu, if_true] at hk
        unfold w_X6_countTipsBefore_b30
        rw [nI_1]
        exact hk
theorem s_atHeight (h : jRep L R V T w) {x : Int32} {P : Int32 → va_W → Prop} (k : P (jCt (fun i => jUsed R 0 (nI i) && decide (jHgt R (nI i) = x))) w) : w_X6_countAtHeight κ w (L 311) x P := by
  unfold w_X6_countAtHeight w_X6_countAtHeight_b0
  refine jLoop (Q := fun _ w' => w' = w) (F := fun n w a i => w_X6_countAtHeight_b4 n κ w (L 311) x a i P) (P := P) 16 (fun (a : Int32) i => if (jUsed R 0 (nI i) && decide (jHgt R (nI i) = x)) = true then a + 1 else a) ?_ ?_ jFu 0 0 w rfl (by omega) (by rw [jFu_eq]; omega) (fun w' e => by cases e; exact k)
  · intro n w' a e hp
    cases e
    show w_X6_countAtHeight_b4 (n + 1) κ _ (L 311) x a (nI 16) P
    rw [w_X6_countAtHeight_b4, if_pos j16_self]
    exact hp
  · intro n w' a i e hi hk
    cases e
    have hk := hk _ rfl
    show w_X6_countAtHeight_b4 (n + 1) κ _ (L 311) x a (nI i) P
    rw [w_X6_countAtHeight_b4, if_neg (j16_le hi)]
    refine (jgR_eq h.sv rfl).mpr ⟨⟨_, h.st (s := 0) (by omega)⟩, s_isUsed h (s := 0) (by omega) ?_⟩
    refine jif_b (fun hu => ?_) (fun hu => ?_)
    · simp only [hu, Bool.false_and, Bool.false_eq_true, if_false] at hk
      unfold w_X6_countAtHeight_b33
      rw [nI_1]
      exact hk
    · simp only [hu, Bool.true_and] at hk
      refine ⟨⟨_, h.sv⟩, s_height h ?_⟩
      split
      · rename_i hu
        simp only [hu, decide_true, if_true] at hk
        unfold w_X6_countAtHeight_b33
        rw [nI_1]
        exact hk
      · rename_i hu
        simp only [hu, decide_false, Bool.false_eq_true, if_false] at hk
        unfold w_X6_countAtHeight_b33
        rw [nI_1]
        exact hk
def jSumT (R : Nat → Nat → Int32) : Int32 := jIter (fun (a : Int32) i => if jTip R (nI i) = true then a + jHgt R (nI i) else a) 16 0 0
theorem s_sumTips (h : jRep L R V T w) {P : Int32 → va_W → Prop} (k : P (jSumT R) w) : w_X6_sumOfTipHeights κ w (L 311) P := by
  unfold w_X6_sumOfTipHeights w_X6_sumOfTipHeights_b0
  refine jLoop (Q := fun _ w' => w' = w) (F := fun n w a i => w_X6_sumOfTipHeights_b4 n κ w (L 311) a i P) (P := P) 16 (fun (a : Int32) i => if jTip R (nI i) = true then a + jHgt R (nI i) else a) ?_ ?_ jFu 0 0 w rfl (by omega) (by rw [jFu_eq]; omega) (fun w' e => by cases e; exact k)
  · intro n w' a e hp
    cases e
    show w_X6_sumOfTipHeights_b4 (n + 1) κ _ (L 311) a (nI 16) P
    rw [w_X6_sumOfTipHeights_b4, if_pos j16_self]
    exact hp
  · intro n w' a i e hi hk
    cases e
    have hk := hk _ rfl
    show w_X6_sumOfTipHeights_b4 (n + 1) κ _ (L 311) a (nI i) P
    rw [w_X6_sumOfTipHeights_b4, if_neg (j16_le hi)]
    refine ⟨⟨_, h.sv⟩, s_tip h ?_⟩
    refine jif_b (fun hu => ?_) (fun hu => ?_)
    · simp only [hu, Bool.false_eq_true, if_false] at hk
      unfold w_X6_sumOfTipHeights_b26
      rw [nI_1]
      exact hk
    · simp only [hu, if_true] at hk
      refine ⟨⟨_, h.sv⟩, s_height h ?_⟩
      unfold w_X6_sumOfTipHeights_b26
      rw [nI_1]
      exact hk
def jTipAt (R : Nat → Nat → Int32) (x : Int32) : Int32 := jFind (fun j => jTip R (nI j) && decide (jCt (fun i => jTip R (nI i) && jRk R (nI i) (nI j)) = x)) 16 0
theorem s_tipRankedL (h : jRep L R V T w) {x : Int32} {P : Int32 → va_W → Prop} : ∀ n i : Nat, i ≤ 16 → 16 < n + i → P (jFind (fun j => jTip R (nI j) && decide (jCt (fun i => jTip R (nI i) && jRk R (nI i) (nI j)) = x)) (16 - i) i) w → w_X6_tipRanked_b2 n κ w (L 311) x (nI i) P := by
  intro n
  induction n with
  | zero => intro i h1 h2; omega
  | succ n ih =>
    intro i h1 h2 k
    rw [w_X6_tipRanked_b2]
    by_cases hi : i = 16
    · subst hi
      rw [if_pos j16_self]
      exact k
    · rw [if_neg (j16_le (by omega))]
      rw [show 16 - i = (16 - (i + 1)) + 1 by omega, jFind] at k
      refine ⟨⟨_, h.sv⟩, s_tip h ?_⟩
      refine jif_b (fun hu => ?_) (fun hu => ?_)
      · simp only [hu, Bool.false_and, Bool.false_eq_true, if_false] at k
        unfold w_X6_tipRanked_b27
        rw [nI_1]
        exact ih (i + 1) (by omega) (by omega) k
      · refine ⟨⟨_, h.sv⟩, s_tipsBefore h ?_⟩
        split
        · rename_i hz
          simp only [hu, hz, decide_true, Bool.and_self, if_true] at k
          exact k
        · rename_i hz
          simp only [hu, hz, decide_false, Bool.and_false, Bool.false_eq_true, if_false] at k
          unfold w_X6_tipRanked_b27
          rw [nI_1]
          exact ih (i + 1) (by omega) (by omega) k
theorem s_tipRanked (h : jRep L R V T w) {x : Int32} {P : Int32 → va_W → Prop} (k : P (jTipAt R x) w) : w_X6_tipRanked κ w (L 311) x P := by
  unfold w_X6_tipRanked w_X6_tipRanked_b0
  exact s_tipRankedL h jFu 0 (by omega) (by rw [jFu_eq]; omega) k
theorem s_forkL (h : jRep L R V T w) {y : Int32} {P : Int32 → va_W → Prop} : ∀ (n c : Nat) (x : Int32), c ≤ 16 → 16 < n + c → P (jFk R (16 - c) x y) w → w_X6_fork_b5 n κ w (L 311) y x (nI c) P := by
  intro n
  induction n with
  | zero => intro c x h1 h2; omega
  | succ n ih =>
    intro c x h1 h2 k
    rw [w_X6_fork_b5]
    by_cases hc : c = 16
    · subst hc
      have k : P 0 w := k
      by_cases hx : x = -1
      · rw [if_pos hx]; exact k
      · rw [if_neg hx, if_pos j16_self]; exact k
    · rw [show 16 - c = (16 - (c + 1)) + 1 by omega, jFk] at k
      by_cases hx : x = -1
      · rw [if_pos hx] at k ⊢; exact k
      · rw [if_neg hx] at k ⊢
        rw [if_neg (j16_le (by omega))]
        refine ⟨⟨_, h.sv⟩, s_reach h ?_⟩
        refine jif_b (fun hu => ?_) (fun hu => ?_)
        · rw [if_neg (by rw [hu]; decide)] at k
          refine (jgR_eq h.sv rfl).mpr ((jgR_eq (h.st (s := 0) (by omega)) rfl).mpr ⟨⟨_, h.row (r := 1) (by omega)⟩, s_gt h 1 (by omega) ?_⟩)
          rw [nI_1]
          exact ih (c + 1) _ (by omega) (by omega) k
        · rw [if_pos hu] at k
          exact k
theorem s_fork (h : jRep L R V T w) {x y : Int32} {P : Int32 → va_W → Prop} (k : P (jFk R 16 x y) w) : w_X6_fork κ w (L 311) x y P := by
  unfold w_X6_fork w_X6_fork_b0
  exact s_forkL h jFu 0 _ (by omega) (by rw [jFu_eq]; omega) k
end JSurvey
