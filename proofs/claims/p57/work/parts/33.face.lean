/-! ===== the face: changes ===== -/
def jEx (n : Nat) : String := match n with
  | 3 => "java/lang/IndexOutOfBoundsException"
  | 4 => "java/util/NoSuchElementException"
  | 5 => "java/lang/IllegalArgumentException"
  | 6 => "java/lang/IllegalStateException"
  | _ => "java/lang/UnsupportedOperationException"
def jEn (κ : Nat → Nat) : Prop := ∀ i j, i < 6 → j < 6 → κ (2 + i) = κ (2 + j) → i = j
section JFace
variable {κ : Nat → Nat} {L : Nat → Nat} {R : Nat → Nat → Int32} {V : Nat → Int32} {T : Nat → List Int32} {w : va_W}
theorem jEn.ne (h : jEn κ) {a b : Nat} (ha : 2 ≤ a) (ha2 : a < 8) (hb : 2 ≤ b) (hb2 : b < 8) (hab : a ≠ b) : ¬ κ a = κ b := by
  intro e
  have := h (a - 2) (b - 2) (by omega) (by omega) (by rw [show 2 + (a - 2) = a by omega, show 2 + (b - 2) = b by omega]; exact e)
  omega
theorem s_throwFor (hκ : jEn κ) {n : Nat} (h2 : 2 ≤ n) (h7 : n < 8) {P : va_W → Prop} {E : String → va_W → Prop} (k0 : n = 2 → P w) (k1 : n ≠ 2 → E (jEx n) w) : w_X8_throwFor κ w (κ n) P E := by
  unfold w_X8_throwFor w_X8_throwFor_b0
  have hne : ∀ a, 2 ≤ a → a < 8 → n ≠ a → ¬ κ n = κ a := fun a g1 g2 g3 => hκ.ne h2 h7 g1 g2 g3
  rcases (show n = 2 ∨ n = 3 ∨ n = 4 ∨ n = 5 ∨ n = 6 ∨ n = 7 by omega) with rfl | rfl | rfl | rfl | rfl | rfl
  · rw [if_neg (hne 3 (by omega) (by omega) (by omega)), if_neg (hne 4 (by omega) (by omega) (by omega)), if_neg (hne 5 (by omega) (by omega) (by omega)), if_neg (hne 6 (by omega) (by omega) (by omega)), if_neg (hne 7 (by omega) (by omega) (by omega))]
    exact k0 rfl
  · rw [if_pos rfl]; exact k1 (by omega)
  · rw [if_neg (hne 3 (by omega) (by omega) (by omega)), if_pos rfl]; exact k1 (by omega)
  · rw [if_neg (hne 3 (by omega) (by omega) (by omega)), if_neg (hne 4 (by omega) (by omega) (by omega)), if_pos rfl]; exact k1 (by omega)
  · rw [if_neg (hne 3 (by omega) (by omega) (by omega)), if_neg (hne 4 (by omega) (by omega) (by omega)), if_neg (hne 5 (by omega) (by omega) (by omega)), if_pos rfl]; exact k1 (by omega)
  · rw [if_neg (hne 3 (by omega) (by omega) (by omega)), if_neg (hne 4 (by omega) (by omega) (by omega)), if_neg (hne 5 (by omega) (by omega) (by omega)), if_neg (hne 6 (by omega) (by omega) (by omega)), if_pos rfl]; exact k1 (by omega)
theorem s_admit (h : jRq L R V T w) (hκ : jEn κ) {n : Nat} (h2 : 2 ≤ n) (h7 : n < 8) {j : Nat} (hj : j < 8) (hv : V 44 = nI j) {P : va_W → Prop} {E : String → va_W → Prop} (k0 : n = 2 → ∀ w', jRq L (jCpR R (3 + j) 0) (jKpV V j) T w' → P w') (k1 : n ≠ 2 → E (jEx n) w) : w_X8_admit κ w (L 316) (κ n) P E := by
  unfold w_X8_admit w_X8_admit_b0
  refine s_throwFor hκ h2 h7 (fun hn => ?_) k1
  exact (jgR_eq h.lg rfl).mpr ((jgR_eq h.lg rfl).mpr ⟨⟨_, h.hi⟩, s_keep h hj hv (k0 hn)⟩)
theorem jf_in {R : Nat → Nat → Int32} {V : Nat → Int32} {x y z : Int32} : (2 ≤ jfRaise V ∧ jfRaise V < 8) ∧ (2 ≤ jfHold R V x y ∧ jfHold R V x y < 8) ∧ (2 ≤ jfAppend R V x ∧ jfAppend R V x < 8) ∧ (2 ≤ jfTurn R V x y ∧ jfTurn R V x y < 8) ∧ (2 ≤ jfRemove R x ∧ jfRemove R x < 8) ∧ (2 ≤ jfSwap R x y z ∧ jfSwap R x y z < 8) ∧ (2 ≤ jfMend R x ∧ jfMend R x < 8) := by
  have hr : 2 ≤ jfRemove R x ∧ jfRemove R x < 8 := by
    unfold jfRemove
    (repeat' split) <;> omega
  refine ⟨?_, ?_, ?_, ?_, hr, ?_, ?_⟩
  · unfold jfRaise; split <;> omega
  · unfold jfHold
    (repeat' split) <;> omega
  · unfold jfAppend
    (repeat' split) <;> omega
  · unfold jfTurn
    (repeat' split) <;> omega
  · unfold jfSwap
    (repeat' split) <;> omega
  · unfold jfMend
    split
    · split <;> omega
    · exact hr
variable {j : Nat} {P : Int32 → va_W → Prop} {E : String → va_W → Prop}
theorem s_addHill (h : jRq L R V T w) (hκ : jEn κ) (hj : j < 8) (hv : V 44 = nI j) (k1 : jfRaise V ≠ 2 → E (jEx (jfRaise V)) w) (k0 : jfRaise V = 2 → ∀ w', jRq L (jCpR R (3 + j) 0) (jKpV V j) T w' → w_X7_raiseHill κ w' (L 312) P) : w_X8_addHill κ w (L 316) P E := by
  unfold w_X8_addHill w_X8_addHill_b0
  have hf := (jf_in (R := R) (V := V) (x := 0) (y := 0) (z := 0)).1
  refine (jgR_eq h.lg rfl).mpr ⟨⟨_, h.wk⟩, s_fRaise h ⟨⟨_, h.lg⟩, s_admit h hκ hf.1 hf.2 hj hv (fun e w1 h1 => ?_) k1⟩⟩
  exact (jgR_eq h1.lg rfl).mpr ⟨⟨_, h1.wk⟩, k0 e w1 h1⟩
theorem s_collect (h : jRq L R V T w) (hκ : jEn κ) (hj : j < 8) (hv : V 44 = nI j) {x y : Int32} (k1 : jfHold R V x y ≠ 2 → E (jEx (jfHold R V x y)) w) (k0 : jfHold R V x y = 2 → ∀ w', jRq L (jCpR R (3 + j) 0) (jKpV V j) T w' → w_X7_hold κ w' (L 312) x y P) : w_X8_collect κ w (L 316) x y P E := by
  unfold w_X8_collect w_X8_collect_b0
  have hf := (jf_in (R := R) (V := V) (x := x) (y := y) (z := 0)).2.1
  refine (jgR_eq h.lg rfl).mpr ⟨⟨_, h.wk⟩, s_fHold h ⟨⟨_, h.lg⟩, s_admit h hκ hf.1 hf.2 hj hv (fun e w1 h1 => ?_) k1⟩⟩
  exact (jgR_eq h1.lg rfl).mpr ⟨⟨_, h1.wk⟩, k0 e w1 h1⟩
theorem s_writeF (h : jRq L R V T w) (hκ : jEn κ) (hs : ∀ x, jSz R 0 x ≤ 4) (hj : j < 8) (hv : V 44 = nI j) {x : Int32} (k1 : jfAppend R V x ≠ 2 → ∀ w', jRq L R V T w' → E (jEx (jfAppend R V x)) w') (k0 : jfAppend R V x = 2 → ∀ w', jRq L (jCpR R (3 + j) 0) (jKpV V j) T w' → w_X7_append κ w' (L 312) x P) : w_X8_write κ w (L 316) x P E := by
  unfold w_X8_write w_X8_write_b0
  have hf := (jf_in (R := R) (V := V) (x := x) (y := 0) (z := 0)).2.2.1
  refine (jgR_eq h.lg rfl).mpr ⟨⟨_, h.wk⟩, s_fAppend h hs (fun w9 h9 => ⟨⟨_, h9.lg⟩, s_admit h9 hκ hf.1 hf.2 hj hv (fun e w1 h1 => ?_) (fun e => k1 e w9 h9)⟩)⟩
  exact (jgR_eq h1.lg rfl).mpr ⟨⟨_, h1.wk⟩, k0 e w1 h1⟩
theorem s_followF (h : jRq L R V T w) (hκ : jEn κ) (hj : j < 8) (hv : V 44 = nI j) {x y : Int32} (k1 : jfTurn R V x y ≠ 2 → E (jEx (jfTurn R V x y)) w) (k0 : jfTurn R V x y = 2 → ∀ w', jRq L (jCpR R (3 + j) 0) (jKpV V j) T w' → w_X7_turn κ w' (L 312) x y P) : w_X8_follow κ w (L 316) x y P E := by
  unfold w_X8_follow w_X8_follow_b0
  have hf := (jf_in (R := R) (V := V) (x := x) (y := y) (z := 0)).2.2.2.1
  refine (jgR_eq h.lg rfl).mpr ⟨⟨_, h.wk⟩, s_fTurn h ⟨⟨_, h.lg⟩, s_admit h hκ hf.1 hf.2 hj hv (fun e w1 h1 => ?_) k1⟩⟩
  exact (jgR_eq h1.lg rfl).mpr ⟨⟨_, h1.wk⟩, k0 e w1 h1⟩
theorem s_meltF (h : jRq L R V T w) (hκ : jEn κ) (hj : j < 8) (hv : V 44 = nI j) {x : Int32} (k1 : jfRemove R x ≠ 2 → E (jEx (jfRemove R x)) w) (k0 : jfRemove R x = 2 → ∀ w', jRq L (jCpR R (3 + j) 0) (jKpV V j) T w' → w_X7_remove κ w' (L 312) x P) : w_X8_melt κ w (L 316) x P E := by
  unfold w_X8_melt w_X8_melt_b0
  have hf := (jf_in (R := R) (V := V) (x := x) (y := 0) (z := 0)).2.2.2.2.1
  refine (jgR_eq h.lg rfl).mpr ⟨⟨_, h.wk⟩, s_fRemove h ⟨⟨_, h.lg⟩, s_admit h hκ hf.1 hf.2 hj hv (fun e w1 h1 => ?_) k1⟩⟩
  exact (jgR_eq h1.lg rfl).mpr ⟨⟨_, h1.wk⟩, k0 e w1 h1⟩
theorem s_replaceF (h : jRq L R V T w) (hκ : jEn κ) (hj : j < 8) (hv : V 44 = nI j) {x y z : Int32} (k1 : jfSwap R x y z ≠ 2 → E (jEx (jfSwap R x y z)) w) (k0 : jfSwap R x y z = 2 → ∀ w', jRq L (jCpR R (3 + j) 0) (jKpV V j) T w' → w_X7_swap κ w' (L 312) x y z P) : w_X8_replaceFlake κ w (L 316) x y z P E := by
  unfold w_X8_replaceFlake w_X8_replaceFlake_b0
  have hf := (jf_in (R := R) (V := V) (x := x) (y := y) (z := z)).2.2.2.2.2.1
  refine (jgR_eq h.lg rfl).mpr ⟨⟨_, h.wk⟩, s_fSwap h ⟨⟨_, h.lg⟩, s_admit h hκ hf.1 hf.2 hj hv (fun e w1 h1 => ?_) k1⟩⟩
  exact (jgR_eq h1.lg rfl).mpr ⟨⟨_, h1.wk⟩, k0 e w1 h1⟩
theorem s_repairF (h : jRq L R V T w) (hκ : jEn κ) (hs : ∀ x, jSz R 0 x ≤ 4) (hj : j < 8) (hv : V 44 = nI j) {x : Int32} (k1 : jfMend R x ≠ 2 → ∀ w', jRq L R V T w' → E (jEx (jfMend R x)) w') (k0 : jfMend R x = 2 → ∀ w', jRq L (jCpR R (3 + j) 0) (jKpV V j) T w' → w_X7_mend κ w' (L 312) x P) : w_X8_repair κ w (L 316) x P E := by
  unfold w_X8_repair w_X8_repair_b0
  have hf := (jf_in (R := R) (V := V) (x := x) (y := 0) (z := 0)).2.2.2.2.2.2
  refine (jgR_eq h.lg rfl).mpr ⟨⟨_, h.wk⟩, s_fMend h hκ hs (fun w9 h9 => ⟨⟨_, h9.lg⟩, s_admit h9 hκ hf.1 hf.2 hj hv (fun e w1 h1 => ?_) (fun e => k1 e w9 h9)⟩)⟩
  exact (jgR_eq h1.lg rfl).mpr ⟨⟨_, h1.wk⟩, k0 e w1 h1⟩
theorem s_undoF (h : jRq L R V T w) {i : Nat} (hi : i < 8) (hv : jrem ((V 44 + 8) - 1) 8 = nI i) (k1 : V 45 = 0 → E "java/lang/IllegalStateException" w) (k0 : ¬ V 45 = 0 → ∀ w', jRq L (jCpR R 0 (3 + i)) (jTbV V i) T w' → P (V 45 - 1) w') : w_X8_undo κ w (L 316) P E := by
  unfold w_X8_undo w_X8_undo_b0
  refine (jgR_eq h.lg rfl).mpr ((jgI_eq h.hi rfl).mpr ?_)
  by_cases h0 : V 45 = 0
  · rw [if_pos h0]; exact k1 h0
  · rw [if_neg h0]
    refine (jgR_eq h.lg rfl).mpr ((jgR_eq h.lg rfl).mpr ⟨⟨_, h.hi⟩, s_back h hi hv (fun w1 h1 => ?_)⟩)
    refine (jgR_eq h1.lg rfl).mpr ((jgI_eq h1.hi rfl).mpr ?_)
    have := k0 h0 w1 h1
    rw [show jTbV V i 45 = V 45 - 1 from by simp [jTbV, jSetV]]
    exact this
end JFace
