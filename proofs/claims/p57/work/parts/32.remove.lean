/-! ===== melting ===== -/
def jRd2 (L : Nat → Nat) (R : Nat → Nat → Int32) (V : Nat → Int32) (T : Nat → List Int32) (D : Nat → Int32) (w : va_W) : Prop := ∃ R', (∀ r, jScr r = false → R' r = R r) ∧ R' 133 = D ∧ jRep L R' V T w
/-- the marks of those that melt -/
def jDm (R : Nat → Nat → Int32) (m : Int32) (D : Nat → Int32) (i : Nat) : Nat → Int32 := jWr 16 D (nI i) (jB2 (jRch R 16 (nI i) m))
def jHl (D : Nat → Int32) (pa : Int32) (R : Nat → Nat → Int32) (i : Nat) : Nat → Nat → Int32 := if jRd 16 D (jGt R 0 8 (nI i)) = 1 then jPut R 0 8 (nI i) pa else R
def jFr (R : Nat → Nat → Int32) (x : Int32) : Nat → Nat → Int32 := jPut (jPut (jPut R 0 0 x (-1)) 0 1 x (-1)) 0 2 x (-1)
def jFrS (D : Nat → Int32) (a : (Nat → Nat → Int32) × Int32) (i : Nat) : (Nat → Nat → Int32) × Int32 := if jRd 16 D (nI i) = 1 then (jFr a.1 (nI i), a.2 + 1) else a
section JRemove
variable {κ : Nat → Nat} {L : Nat → Nat} {R : Nat → Nat → Int32} {V : Nat → Int32} {T : Nat → List Int32} {w : va_W} {D : Nat → Int32}
theorem jRd2.q (h : jRd2 L R V T D w) : jRq L R V T w := by
  obtain ⟨R1, e, -, h1⟩ := h; exact ⟨R1, e, h1⟩
theorem jRch_q {R' : Nat → Nat → Int32} (e : ∀ r, jScr r = false → R' r = R r) : ∀ (n : Nat) (x y : Int32), jRch R' n x y = jRch R n x y := by
  intro n
  induction n with
  | zero => intro x y; rfl
  | succ n ih => intro x y; simp only [jRch, jGt_q e (show 1 < 12 by omega) (show 1 ≠ 7 by omega) (show 1 ≠ 11 by omega), ih]
theorem s_reachQ (h : jRq L R V T w) {x y : Int32} {P : Int32 → va_W → Prop} (k : P (jB2 (jRch R 16 x y)) w) : w_X6_reaches κ w (L 311) x y P := by
  obtain ⟨R1, e, h1⟩ := h
  refine s_reach h1 ?_
  rw [jRch_q e]; exact k
theorem s_atD (h : jRd2 L R V T D w) {x : Int32} {P : Int32 → va_W → Prop} (k : P (jRd 16 D x) w) : w_X3_at κ w (L 133) x P := by
  obtain ⟨R1, e, hD, h1⟩ := h
  refine s_at h1 (by omega) ?_
  rw [hD]; exact k
theorem s_putDm (h : jRd2 L R V T D w) {x v : Int32} {P : va_W → Prop} (k : ∀ w', jRd2 L R V T (jWr 16 D x v) w' → P w') : w_X3_put κ w (L 133) x v P := by
  obtain ⟨R1, e, hD, h1⟩ := h
  refine s_put h1 (by omega) (fun w' h' => k w' ⟨_, ?_, ?_, h'⟩)
  · intro r hr
    rw [jSetR_ne (fun e9 => by rw [e9] at hr; revert hr; decide)]
    exact e r hr
  · rw [jSetR_eq, hD]; rfl
theorem s_putD (h : jRd2 L R V T D w) (j : Nat) (hj : j < 12) (h7 : j ≠ 7) (h11 : j ≠ 11) {x v : Int32} {P : va_W → Prop} (k : ∀ w', jRd2 L (jPut R 0 j x v) V T D w' → P w') : w_X3_put κ w (L j) x v P := by
  obtain ⟨R1, e, hD, h1⟩ := h
  refine s_put h1 (by omega) (fun w' h' => k w' ⟨_, ?_, ?_, h'⟩)
  · have e2 := e (12 * 0 + j) (jScr_st hj h7 h11)
    rw [Nat.mul_zero, Nat.zero_add] at e2
    unfold jPut
    rw [Nat.mul_zero, Nat.zero_add, ← e2]
    exact jSetR_q e
  · rw [jSetR_ne (by omega)]; exact hD
theorem s_freeD (h : jRd2 L R V T D w) {x : Int32} {P : va_W → Prop} (k : ∀ w', jRd2 L (jFr R x) V T D w' → P w') : w_X5_free κ w (L 300) x P := by
  unfold w_X5_free w_X5_free_b0
  refine (jgR_eq (h.q.st (s := 0) (by omega)) rfl).mpr ⟨⟨_, h.q.row (r := 0) (by omega)⟩, s_putD h 0 (by omega) (by omega) (by omega) (fun w1 h1 => ?_)⟩
  refine (jgR_eq (h1.q.st (s := 0) (by omega)) rfl).mpr ⟨⟨_, h1.q.row (r := 1) (by omega)⟩, s_putD h1 1 (by omega) (by omega) (by omega) (fun w2 h2 => ?_)⟩
  exact (jgR_eq (h2.q.st (s := 0) (by omega)) rfl).mpr ⟨⟨_, h2.q.row (r := 2) (by omega)⟩, s_putD h2 2 (by omega) (by omega) (by omega) k⟩
theorem s_rm3 {P : Int32 → va_W → Prop} : ∀ (n i : Nat) (a : (Nat → Nat → Int32) × Int32) (w : va_W), jRd2 L a.1 V T D w → i ≤ 16 → 16 < n + i → (∀ w', jRd2 L (jIter (jFrS D) (16 - i) i a).1 (jSetV V 3 (V 3 + (jIter (jFrS D) (16 - i) i a).2)) T D w' → P (jIter (jFrS D) (16 - i) i a).2 w') → w_X7_remove_b127 n κ w (L 312) a.2 (nI i) P := by
  intro n
  induction n with
  | zero => intro i a w h h1 h2; omega
  | succ n ih =>
    intro i a w h h1 h2 k
    rw [w_X7_remove_b127]
    by_cases hi : i = 16
    · subst hi
      rw [if_pos j16_self]
      have k : ∀ w', jRd2 L a.1 (jSetV V 3 (V 3 + a.2)) T D w' → P a.2 w' := k
      refine (jgR_eq h.q.wk rfl).mpr ((jgI_eq (h.q.st (s := 0) (by omega)) rfl).mpr ?_)
      obtain ⟨R1, e, hD, h1⟩ := h
      refine s_putS h1 (s := 0) (by omega) 3 (by omega) (fun w' h' => k w' ⟨R1, e, hD, ?_⟩)
      exact h'
    · rw [if_neg (j16_le (by omega))]
      rw [show 16 - i = (16 - (i + 1)) + 1 by omega] at k
      simp only [jIter] at k
      refine (jgR_eq h.q.wk rfl).mpr ⟨⟨_, h.q.row (r := 133) (by omega)⟩, s_atD h ?_⟩
      by_cases hd : jRd 16 D (nI i) = 1
      · rw [if_pos hd]
        have e9 : jFrS D a i = (jFr a.1 (nI i), a.2 + 1) := by unfold jFrS; rw [if_pos hd]
        rw [e9] at k
        refine (jgR_eq h.q.wk rfl).mpr ⟨⟨_, h.q.st (s := 0) (by omega)⟩, s_freeD h (fun w1 h1 => ?_)⟩
        unfold w_X7_remove_b159
        rw [nI_1]
        exact ih (i + 1) (jFr a.1 (nI i), a.2 + 1) w1 h1 (by omega) (by omega) k
      · rw [if_neg hd]
        have e9 : jFrS D a i = a := by unfold jFrS; rw [if_neg hd]
        rw [e9] at k
        unfold w_X7_remove_b159
        rw [nI_1]
        exact ih (i + 1) a w h (by omega) (by omega) k
/-- what melting leaves: the hills' rows, then the freed; and how many -/
def jRm (D : Nat → Int32) (pa : Int32) (H : Nat) (R : Nat → Nat → Int32) : (Nat → Nat → Int32) × Int32 := jIter (jFrS D) 16 0 (jIter (jHl D pa) H 0 R, 0)
theorem s_rm2 {pa : Int32} {H : Nat} (hH : H ≤ 4) (hV : V 0 = nI H) {P : Int32 → va_W → Prop} : ∀ (n i : Nat) (R : Nat → Nat → Int32) (w : va_W), jRd2 L R V T D w → i ≤ H → H < n + i → (∀ w', jRd2 L (jIter (jFrS D) 16 0 (jIter (jHl D pa) (H - i) i R, 0)).1 (jSetV V 3 (V 3 + (jIter (jFrS D) 16 0 (jIter (jHl D pa) (H - i) i R, 0)).2)) T D w' → P (jIter (jFrS D) 16 0 (jIter (jHl D pa) (H - i) i R, 0)).2 w') → w_X7_remove_b67 n κ w (L 312) pa (nI i) P := by
  intro n
  induction n with
  | zero => intro i R w h h1 h2; omega
  | succ n ih =>
    intro i R w h h1 h2 k
    rw [w_X7_remove_b67]
    refine (jgR_eq h.q.wk rfl).mpr ((jgI_eq (h.q.st (s := 0) (by omega)) rfl).mpr ?_)
    rw [show V (4 * 0) = nI H from hV]
    by_cases hi : i = H
    · subst hi
      rw [if_pos (Int32.le_refl _)]
      rw [Nat.sub_self] at k
      exact s_rm3 jFu 0 (R, 0) w h (by omega) (by rw [jFu_eq]; omega) k
    · rw [if_neg (nI_ge (by omega) (by omega))]
      rw [show H - i = (H - (i + 1)) + 1 by omega] at k
      simp only [jIter] at k
      refine (jgR_eq h.q.wk rfl).mpr ((jgR_eq h.q.wk rfl).mpr ((jgR_eq (h.q.st (s := 0) (by omega)) rfl).mpr ⟨⟨_, h.q.row (r := 8) (by omega)⟩, s_gq h.q 8 (by omega) (by omega) (by omega) ?_⟩))
      refine ⟨⟨_, h.q.row (r := 133) (by omega)⟩, s_atD h ?_⟩
      by_cases hd : jRd 16 D (jGt R 0 8 (nI i)) = 1
      · rw [if_pos hd]
        have e9 : jHl D pa R i = jPut R 0 8 (nI i) pa := by unfold jHl; rw [if_pos hd]
        rw [e9] at k
        refine (jgR_eq h.q.wk rfl).mpr ((jgR_eq (h.q.st (s := 0) (by omega)) rfl).mpr ⟨⟨_, h.q.row (r := 8) (by omega)⟩, s_putD h 8 (by omega) (by omega) (by omega) (fun w1 h1 => ?_)⟩)
        unfold w_X7_remove_b115
        rw [nI_1]
        exact ih (i + 1) _ w1 h1 (by omega) (by omega) k
      · rw [if_neg hd]
        have e9 : jHl D pa R i = R := by unfold jHl; rw [if_neg hd]
        rw [e9] at k
        unfold w_X7_remove_b115
        rw [nI_1]
        exact ih (i + 1) _ w h (by omega) (by omega) k
theorem s_rm1 {m pa : Int32} {H : Nat} (hH : H ≤ 4) (hV : V 0 = nI H) {P : Int32 → va_W → Prop} : ∀ (n i : Nat) (D : Nat → Int32) (w : va_W), jRd2 L R V T D w → i ≤ 16 → 16 < n + i → (∀ w', jRq L (jRm (jIter (jDm R m) (16 - i) i D) pa H R).1 (jSetV V 3 (V 3 + (jRm (jIter (jDm R m) (16 - i) i D) pa H R).2)) T w' → P (jRm (jIter (jDm R m) (16 - i) i D) pa H R).2 w') → w_X7_remove_b24 n κ w (L 312) m pa (nI i) P := by
  intro n
  induction n with
  | zero => intro i D w h h1 h2; omega
  | succ n ih =>
    intro i D w h h1 h2 k
    rw [w_X7_remove_b24]
    by_cases hi : i = 16
    · subst hi
      rw [if_pos j16_self]
      rw [Nat.sub_self] at k
      exact s_rm2 hH hV jFu 0 R w h (by omega) (by rw [jFu_eq]; omega) (fun w' h' => k w' h'.q)
    · rw [if_neg (j16_le (by omega))]
      rw [show 16 - i = (16 - (i + 1)) + 1 by omega] at k
      simp only [jIter] at k
      refine (jgR_eq h.q.wk rfl).mpr ((jgR_eq h.q.wk rfl).mpr ⟨⟨_, h.q.sv⟩, s_reachQ h.q ?_⟩)
      refine jif_b (fun hu => ?_) (fun hu => ?_)
      · have e9 : jDm R m D i = jWr 16 D (nI i) 0 := by unfold jDm; rw [hu]; rfl
        rw [e9] at k
        unfold w_X7_remove_b55
        refine ⟨⟨_, h.q.row (r := 133) (by omega)⟩, s_putDm h (fun w1 h1 => ?_)⟩
        rw [nI_1]
        exact ih (i + 1) _ w1 h1 (by omega) (by omega) k
      · have e9 : jDm R m D i = jWr 16 D (nI i) 1 := by unfold jDm; rw [hu]; rfl
        rw [e9] at k
        unfold w_X7_remove_b55
        refine ⟨⟨_, h.q.row (r := 133) (by omega)⟩, s_putDm h (fun w1 h1 => ?_)⟩
        rw [nI_1]
        exact ih (i + 1) _ w1 h1 (by omega) (by omega) k
theorem s_remove (h : jRq L R V T w) {x : Int32} {H : Nat} (hH : H ≤ 4) (hV : V 0 = nI H) {P : Int32 → va_W → Prop} (k : ∀ D w', jRq L (jRm (jIter (jDm R (jSlotOf R 0 x)) 16 0 D) (jGt R 0 1 (jSlotOf R 0 x)) H R).1 (jSetV V 3 (V 3 + (jRm (jIter (jDm R (jSlotOf R 0 x)) 16 0 D) (jGt R 0 1 (jSlotOf R 0 x)) H R).2)) T w' → P (jRm (jIter (jDm R (jSlotOf R 0 x)) 16 0 D) (jGt R 0 1 (jSlotOf R 0 x)) H R).2 w') : w_X7_remove κ w (L 312) x P := by
  unfold w_X7_remove w_X7_remove_b0
  refine (jgR_eq h.wk rfl).mpr ⟨⟨_, h.st (s := 0) (by omega)⟩, s_slotOfQ h ?_⟩
  refine s_wkat h 1 (by omega) ?_
  obtain ⟨R1, e, h1⟩ := h
  exact s_rm1 hH hV jFu 0 (R1 133) w ⟨R1, e, rfl, h1⟩ (by omega) (by rw [jFu_eq]; omega) (k (R1 133))
end JRemove
