/-! ===== the changes carried out ===== -/
def jAdd (R : Nat → Nat → Int32) (x v : Int32) : Nat → Nat → Int32 := jPut (jPut R 0 10 (x * 4 + jSz R 1 x) v) 0 9 x (jSz R 1 x + 1)
def jSeal (R : Nat → Nat → Int32) (x : Int32) : Nat → Nat → Int32 :=
  jPut (jPut R 0 4 x (jNon (jGt R 0 3 (jGt R 0 1 x)) (jRoot R 0 x) (jGt R 0 2 x))) 0 3 x (jHw (jGt R 0 3 (jGt R 0 1 x)) (jRoot R 0 x) (jGt R 0 2 x) (jNon (jGt R 0 3 (jGt R 0 1 x)) (jRoot R 0 x) (jGt R 0 2 x)))
def jTkS (x y : Int32) (R : Nat → Nat → Int32) (p : Nat) : Nat → Nat → Int32 := jPut R 0 6 (x * 4 + nI p) (jFl R 1 y (nI p))
def jTake (R : Nat → Nat → Int32) (x y : Int32) (m : Nat) : Nat → Nat → Int32 := jPut (jIter (jTkS x y) m 0 R) 0 5 x (nI m)
section JChange
variable {κ : Nat → Nat} {L : Nat → Nat} {R : Nat → Nat → Int32} {V : Nat → Int32} {T : Nat → List Int32} {w : va_W}
theorem jGt_put {j i : Nat} {x v y : Int32} (h : i ≠ j) : jGt (jPut R 0 j x v) 0 i y = jGt R 0 i y := by
  unfold jGt jPut
  rw [jSetR_ne (by omega)]
theorem s_clearQ (h : jRq L R V T w) {x : Int32} {P : va_W → Prop} (k : ∀ w', jRq L (jPut R 0 9 x 0) V T w' → P w') : w_X0_clear κ w (L 279) x P := by
  unfold w_X0_clear w_X0_clear_b0
  exact (jgR_eq (h.tab (t := 1) (by omega)) rfl).mpr ⟨⟨_, h.row (r := 9) (by omega)⟩, s_putQ h 9 (by omega) (by omega) (by omega) k⟩
theorem s_replaceQ (h : jRq L R V T w) {x y v : Int32} {P : va_W → Prop} (k : ∀ w', jRq L (jPut R 0 6 (x * 4 + y) v) V T w' → P w') : w_X0_replace κ w (L 278) x y v P := by
  unfold w_X0_replace w_X0_replace_b0
  exact (jgR_eq (h.tab (t := 0) (by omega)) rfl).mpr ⟨⟨_, h.row (r := 6) (by omega)⟩, s_putQ h 6 (by omega) (by omega) (by omega) k⟩
theorem s_at9 (h : jRq L R V T w) {x : Int32} {P : Int32 → va_W → Prop} (k : P (jSz R 1 x) w) : w_X3_at κ w (L 9) x P := s_gq h 9 (by omega) (by omega) (by omega) k
theorem s_addQ (h : jRq L R V T w) {x v : Int32} {P : va_W → Prop} (k : ∀ w', jRq L (jAdd R x v) V T w' → P w') : w_X0_add κ w (L 279) x v P := by
  unfold w_X0_add w_X0_add_b0
  refine (jgR_eq (h.tab (t := 1) (by omega)) rfl).mpr ⟨⟨_, h.row (r := 9) (by omega)⟩, s_at9 h ?_⟩
  refine (jgR_eq (h.tab (t := 1) (by omega)) rfl).mpr ⟨⟨_, h.row (r := 10) (by omega)⟩, s_putQ h 10 (by omega) (by omega) (by omega) (fun w1 h1 => ?_)⟩
  exact (jgR_eq (h1.tab (t := 1) (by omega)) rfl).mpr ⟨⟨_, h1.row (r := 9) (by omega)⟩, s_putQ h1 9 (by omega) (by omega) (by omega) k⟩
theorem s_raise (h : jRq L R V T w) {P : Int32 → va_W → Prop} (k : ∀ w', jRq L (jPut (jPut R 0 8 (V 0) 0) 0 9 (V 0) 0) (jSetV V 0 (V 0 + 1)) T w' → P (V 0) w') : w_X7_raiseHill κ w (L 312) P := by
  unfold w_X7_raiseHill w_X7_raiseHill_b0
  refine (jgR_eq h.wk rfl).mpr ((jgI_eq (h.st (s := 0) (by omega)) rfl).mpr ?_)
  refine (jgR_eq h.wk rfl).mpr ((jgR_eq (h.st (s := 0) (by omega)) rfl).mpr ⟨⟨_, h.row (r := 8) (by omega)⟩, s_putQ h 8 (by omega) (by omega) (by omega) (fun w1 h1 => ?_)⟩)
  refine (jgR_eq h1.wk rfl).mpr ((jgR_eq (h1.st (s := 0) (by omega)) rfl).mpr ⟨⟨_, h1.tab (t := 1) (by omega)⟩, s_clearQ h1 (fun w2 h2 => ?_)⟩)
  refine (jgR_eq h2.wk rfl).mpr ((jgI_eq (h2.st (s := 0) (by omega)) rfl).mpr (s_putSQ h2 0 (by omega) (fun w3 h3 => k w3 h3)))
theorem s_holdW (h : jRq L R V T w) {x v : Int32} {P : Int32 → va_W → Prop} (k : ∀ w', jRq L (jAdd R x v) V T w' → P (jSz (jAdd R x v) 1 x) w') : w_X7_hold κ w (L 312) x v P := by
  unfold w_X7_hold w_X7_hold_b0
  refine (jgR_eq h.wk rfl).mpr ((jgR_eq (h.st (s := 0) (by omega)) rfl).mpr ⟨⟨_, h.tab (t := 1) (by omega)⟩, s_addQ h (fun w1 h1 => ?_)⟩)
  exact (jgR_eq h1.wk rfl).mpr ((jgR_eq (h1.st (s := 0) (by omega)) rfl).mpr ⟨⟨_, h1.tab (t := 1) (by omega)⟩, s_sizeQ h1 (t := 1) (by omega) (k w1 h1)⟩)
theorem s_turn (h : jRq L R V T w) {x y : Int32} {P : Int32 → va_W → Prop} (k : ∀ w', jRq L (jPut R 0 8 x (jSlotOf R 0 y)) V T w' → P (jGt R 0 0 (jGt R 0 8 x)) w') : w_X7_turn κ w (L 312) x y P := by
  unfold w_X7_turn w_X7_turn_b0
  refine (jgR_eq h.wk rfl).mpr ((jgR_eq (h.st (s := 0) (by omega)) rfl).mpr ?_)
  refine (jgR_eq h.wk rfl).mpr ((jgR_eq (h.st (s := 0) (by omega)) rfl).mpr ⟨⟨_, h.row (r := 8) (by omega)⟩, s_gq h 8 (by omega) (by omega) (by omega) ?_⟩)
  refine ⟨⟨_, h.row (r := 0) (by omega)⟩, s_gq h 0 (by omega) (by omega) (by omega) ?_⟩
  refine (jgR_eq h.wk rfl).mpr ((jgR_eq (h.st (s := 0) (by omega)) rfl).mpr ((jgR_eq h.wk rfl).mpr ⟨⟨_, h.st (s := 0) (by omega)⟩, s_slotOfQ h ?_⟩))
  exact ⟨⟨_, h.row (r := 8) (by omega)⟩, s_putQ h 8 (by omega) (by omega) (by omega) k⟩
theorem s_swap (h : jRq L R V T w) {x y z : Int32} {P : Int32 → va_W → Prop} (k : ∀ w', jRq L (jPut R 0 6 (jSlotOf R 0 x * 4 + y) z) V T w' → P (jFl R 0 (jSlotOf R 0 x) y) w') : w_X7_swap κ w (L 312) x y z P := by
  unfold w_X7_swap w_X7_swap_b0
  refine (jgR_eq h.wk rfl).mpr ⟨⟨_, h.st (s := 0) (by omega)⟩, s_slotOfQ h ?_⟩
  refine (jgR_eq h.wk rfl).mpr ((jgR_eq (h.st (s := 0) (by omega)) rfl).mpr ⟨⟨_, h.tab (t := 0) (by omega)⟩, s_flakeQ h (t := 0) (by omega) ?_⟩)
  exact (jgR_eq h.wk rfl).mpr ((jgR_eq (h.st (s := 0) (by omega)) rfl).mpr ⟨⟨_, h.tab (t := 0) (by omega)⟩, s_replaceQ h k⟩)
theorem s_wkat (h : jRq L R V T w) (j : Nat) (hj : j < 5) {x : Int32} {K : Int32 → va_W → Prop} (k : K (jGt R 0 j x) w) : jgR' w (L 312) 10 0 (fun r1 => jgR' w r1 8 j (fun r2 => (jRc w r2 6 ∧ w_X3_at κ w r2 x K))) := by
  refine (jgR_eq h.wk rfl).mpr ?_
  refine (jgR_eq (v := L j) (h.st (s := 0) (by omega)) ?_).mpr ⟨⟨_, h.row (r := j) (by omega)⟩, s_gq h j (by omega) (by omega) (by omega) k⟩
  rcases (show j = 0 ∨ j = 1 ∨ j = 2 ∨ j = 3 ∨ j = 4 by omega) with rfl | rfl | rfl | rfl | rfl <;> rfl
theorem s_seal (h : jRq L R V T w) {x : Int32} (hs : jSz R 0 x ≤ 4) {P : va_W → Prop} (k : ∀ w', jRq L (jSeal R x) V T w' → P w') : w_X7_seal κ w (L 312) x P := by
  unfold w_X7_seal w_X7_seal_b0
  refine (jgR_eq h.wk rfl).mpr ((jgR_eq (h.st (s := 0) (by omega)) rfl).mpr ?_)
  refine s_wkat h 1 (by omega) ?_
  refine ⟨⟨_, h.row (r := 3) (by omega)⟩, s_gq h 3 (by omega) (by omega) (by omega) ?_⟩
  refine (jgR_eq h.wk rfl).mpr ((jgR_eq (h.st (s := 0) (by omega)) rfl).mpr ⟨⟨_, h.tab (t := 0) (by omega)⟩, s_rootQ h (t := 0) (by omega) hs (fun w1 h1 => ?_)⟩)
  refine s_wkat h1 2 (by omega) ?_
  refine s_nonce ?_
  refine (jgR_eq h1.wk rfl).mpr ((jgR_eq (h1.st (s := 0) (by omega)) rfl).mpr ⟨⟨_, h1.row (r := 4) (by omega)⟩, s_putQ h1 4 (by omega) (by omega) (by omega) (fun w2 h2 => ?_)⟩)
  refine (jgR_eq h2.wk rfl).mpr ((jgR_eq (h2.st (s := 0) (by omega)) rfl).mpr ?_)
  refine s_wkat h2 2 (by omega) ?_
  rw [jGt_put (by omega)]
  refine s_hashWith ?_
  exact ⟨⟨_, h2.row (r := 3) (by omega)⟩, s_putQ h2 3 (by omega) (by omega) (by omega) k⟩
theorem s_mend (h : jRq L R V T w) (hs : ∀ x, jSz R 0 x ≤ 4) {x : Int32} {P : Int32 → va_W → Prop} (k : ∀ w', jRq L (jSeal R (jSlotOf R 0 x)) V T w' → P (jGt (jSeal R (jSlotOf R 0 x)) 0 3 (jSlotOf R 0 x)) w') : w_X7_mend κ w (L 312) x P := by
  unfold w_X7_mend w_X7_mend_b0
  refine (jgR_eq h.wk rfl).mpr ⟨⟨_, h.st (s := 0) (by omega)⟩, s_slotOfQ h ⟨⟨_, h.wk⟩, s_seal h (hs _) (fun w1 h1 => ?_)⟩⟩
  exact s_wkat h1 3 (by omega) (k w1 h1)
theorem s_takeL {x y : Int32} {m : Nat} (hm : m ≤ 4) {P : va_W → Prop} : ∀ (n i : Nat) (R : Nat → Nat → Int32) (w : va_W), jRq L R V T w → i ≤ m → m < n + i → (∀ w', jRq L (jPut (jIter (jTkS x y) (m - i) i R) 0 5 x (nI m)) V T w' → P w') → w_X0_takeList_b13 n κ w (L 278) x (L 279) y (nI m) (nI i) P := by
  intro n
  induction n with
  | zero => intro i R w h h1 h2; omega
  | succ n ih =>
    intro i R w h h1 h2 k
    rw [w_X0_takeList_b13]
    by_cases hi : i = m
    · subst hi
      rw [if_pos (Int32.le_refl _)]
      rw [Nat.sub_self] at k
      exact (jgR_eq (h.tab (t := 0) (by omega)) rfl).mpr ⟨⟨_, h.row (r := 5) (by omega)⟩, s_putQ h 5 (by omega) (by omega) (by omega) k⟩
    · rw [if_neg (nI_ge (by omega) (by omega))]
      rw [show m - i = (m - (i + 1)) + 1 by omega, jIter] at k
      refine (jgR_eq (h.tab (t := 0) (by omega)) rfl).mpr ((jgR_eq (h.tab (t := 1) (by omega)) rfl).mpr ⟨⟨_, h.row (r := 10) (by omega)⟩, s_gq h 10 (by omega) (by omega) (by omega) ?_⟩)
      refine ⟨⟨_, h.row (r := 6) (by omega)⟩, s_putQ h 6 (by omega) (by omega) (by omega) (fun w1 h1 => ?_)⟩
      rw [nI_1]
      exact ih (i + 1) _ w1 h1 (by omega) (by omega) k
theorem s_take (h : jRq L R V T w) {x y : Int32} {m : Nat} (hm : m ≤ 4) (hz : jSz R 1 y = nI m) {P : va_W → Prop} (k : ∀ w', jRq L (jTake R x y m) V T w' → P w') : w_X0_takeList κ w (L 278) x (L 279) y P := by
  unfold w_X0_takeList w_X0_takeList_b0
  refine (jgR_eq (h.tab (t := 1) (by omega)) rfl).mpr ⟨⟨_, h.row (r := 9) (by omega)⟩, s_at9 h ?_⟩
  rw [hz]
  exact s_takeL hm jFu 0 R w h (by omega) (by rw [jFu_eq]; omega) k
end JChange
