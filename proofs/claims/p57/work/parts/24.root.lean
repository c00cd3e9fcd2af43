/-! ===== roots of flakes, hashes, nonces; laid by wip/p57/pure/mk24.py ===== -/
/-- rows that tell nothing between calls: the lists, the marks, the doomed -/
def jScr (r : Nat) : Bool := decide (r < 132) && (decide (r % 12 = 7) || decide (r % 12 = 11)) || decide (r = 132) || decide (r = 133)
def jRq (L : Nat → Nat) (R : Nat → Nat → Int32) (V : Nat → Int32) (T : Nat → List Int32) (w : va_W) : Prop := ∃ R', (∀ r, jScr r = false → R' r = R r) ∧ jRep L R' V T w
theorem jRW {n : Nat} {f : Nat → Int32} {x y v : Int32} (hx : ¬ x < 0) (hn : ¬ Int32.ofNat n ≤ x) (hy : ¬ y < 0) : jRd n (jWr n f x v) y = if x = y then v else jRd n f y := by
  unfold jWr jRd
  rw [if_neg hx, if_neg hn, if_neg hy, if_neg hy]
  by_cases hxy : x = y
  · subst hxy
    rw [if_neg hn, if_pos rfl]
    simp [upd]
  · rw [if_neg hxy]
    by_cases h : Int32.ofNat n ≤ y
    · rw [if_pos h, if_pos h]
    · rw [if_neg h, if_neg h]
      have : y.toNatClampNeg ≠ x.toNatClampNeg := by
        intro e
        obtain ⟨a, ha, rfl⟩ := nI_of hx
        obtain ⟨b, hb, rfl⟩ := nI_of hy
        rw [nI_clamp ha, nI_clamp hb] at e
        exact hxy (by rw [e])
      simp [upd, this]
def jCo (x y : Int32) : Int32 := jrem (((31 * x) + (17 * y)) + 7) 997
def jHw (p r wr no : Int32) : Int32 := jrem ((((61 * p) + (29 * r)) + (13 * wr)) + no) 9973
/-- the size of an owner's list, and its flakes -/
def jSz (R : Nat → Nat → Int32) (t : Nat) (x : Int32) : Int32 := jRd (jLn (jTb t)) (R (jTb t)) x
def jFl (R : Nat → Nat → Int32) (t : Nat) (x y : Int32) : Int32 := jRd (jLn (jTb t + 1)) (R (jTb t + 1)) (x * 4 + y)
def jRoot (R : Nat → Nat → Int32) (t : Nat) (x : Int32) : Int32 :=
  if jSz R t x = 1 then jFl R t x 0
  else if jSz R t x = 2 then jCo (jFl R t x 0) (jFl R t x 1)
  else if jSz R t x = 3 then jCo (jCo (jFl R t x 0) (jFl R t x 1)) (jCo (jFl R t x 2) (jFl R t x 2))
  else if jSz R t x = 4 then jCo (jCo (jFl R t x 0) (jFl R t x 1)) (jCo (jFl R t x 2) (jFl R t x 3))
  else 0
theorem jLn_list {t : Nat} (h : t < 22) : jLn (jTb t + 2) = 4 := by
  unfold jTb
  split
  · rw [show 12 * (t / 2) + 5 + 2 = 12 * (t / 2) + 7 by omega, jLn_st (by omega) (by omega)]; rfl
  · rw [show 12 * (t / 2) + 9 + 2 = 12 * (t / 2) + 11 by omega, jLn_st (by omega) (by omega)]; rfl
theorem jScr_list {t : Nat} (h : t < 22) : jScr (jTb t + 2) = true := by
  unfold jScr jTb
  split
  · rw [show (12 * (t / 2) + 5 + 2) % 12 = 7 by omega]; simp; omega
  · rw [show (12 * (t / 2) + 9 + 2) % 12 = 11 by omega]; simp; omega
section JRoot
variable {κ : Nat → Nat} {L : Nat → Nat} {R : Nat → Nat → Int32} {V : Nat → Int32} {T : Nat → List Int32} {w : va_W}
theorem s_combine {x y : Int32} {P : Int32 → va_W → Prop} (k : P (jCo x y) w) : w_X8_combine κ w x y P := k
theorem s_hashWith {p r wr no : Int32} {P : Int32 → va_W → Prop} (k : P (jHw p r wr no) w) : w_X8_hashWith κ w p r wr no P := k
theorem s_root1 (h : jRep L R V T w) {t : Nat} (ht : t < 22) {x : Int32} {P : Int32 → va_W → Prop} (k : ∀ w', jRq L R V T w' → P (jFl R t x 0) w') : w_X0_rootByLists_b17 jFu κ w (L (278 + t)) x 1 0 P := by
  have hb := jTb_lt ht
  rw [jFu_eq]
  rw [w_X0_rootByLists_b17, if_neg (by decide)]
  refine (jgR_eq (h.tab ht) rfl).mpr ((jgR_eq (h.tab ht) rfl).mpr ⟨⟨_, h.row (by omega)⟩, s_at h (by omega) ⟨⟨_, h.row (by omega)⟩, s_put h (by omega) (fun w1 h1 => ?_)⟩⟩)
  rw [w_X0_rootByLists_b17, if_pos (by decide), jFu_eq]
  try dsimp only
  rw [w_X0_rootByLists_b50, if_neg (by decide), if_pos (by decide)]
  unfold w_X0_rootByLists_b151
  refine (jgR_eq (h1.tab ht) rfl).mpr ⟨⟨_, h1.row (by omega)⟩, s_at h1 (by omega) ?_⟩
  have e9 := k _ ⟨_, ?_, h1⟩
  · refine cast (congrArg (fun v => P v _) ?_) e9
    simp (disch := omega) only [jSetR_eq, jSetR_ne, jLn_list ht]
    simp (config := { maxSteps := 2000000 }) (disch := decide) only [jRW, jFl]
    simp (config := { decide := true }) only [if_true, if_false]
    first | done | rfl
  · intro r hr
    have hne : r ≠ jTb t + 2 := fun e => by rw [e, jScr_list ht] at hr; cases hr
    simp only [jSetR_ne hne]
theorem s_root2 (h : jRep L R V T w) {t : Nat} (ht : t < 22) {x : Int32} {P : Int32 → va_W → Prop} (k : ∀ w', jRq L R V T w' → P (jCo (jFl R t x 0) (jFl R t x 1)) w') : w_X0_rootByLists_b17 jFu κ w (L (278 + t)) x 2 0 P := by
  have hb := jTb_lt ht
  rw [jFu_eq]
  rw [w_X0_rootByLists_b17, if_neg (by decide)]
  refine (jgR_eq (h.tab ht) rfl).mpr ((jgR_eq (h.tab ht) rfl).mpr ⟨⟨_, h.row (by omega)⟩, s_at h (by omega) ⟨⟨_, h.row (by omega)⟩, s_put h (by omega) (fun w1 h1 => ?_)⟩⟩)
  rw [w_X0_rootByLists_b17, if_neg (by decide)]
  refine (jgR_eq (h1.tab ht) rfl).mpr ((jgR_eq (h1.tab ht) rfl).mpr ⟨⟨_, h1.row (by omega)⟩, s_at h1 (by omega) ⟨⟨_, h1.row (by omega)⟩, s_put h1 (by omega) (fun w2 h2 => ?_)⟩⟩)
  rw [w_X0_rootByLists_b17, if_pos (by decide), jFu_eq]
  try dsimp only
  rw [w_X0_rootByLists_b50, if_neg (by decide), if_neg (by decide), jFu_eq]
  try dsimp only
  rw [w_X0_rootByLists_b70, if_neg (by decide)]
  refine (jgR_eq (h2.tab ht) rfl).mpr ⟨⟨_, h2.row (by omega)⟩, s_at h2 (by omega) ?_⟩
  rw [if_neg (by decide)]
  refine (jgR_eq (h2.tab ht) rfl).mpr ⟨⟨_, h2.row (by omega)⟩, s_at h2 (by omega) ?_⟩
  unfold w_X0_rootByLists_b118
  refine (jgR_eq (h2.tab ht) rfl).mpr (s_combine ⟨⟨_, h2.row (by omega)⟩, s_put h2 (by omega) (fun w3 h3 => ?_)⟩)
  try dsimp only
  rw [w_X0_rootByLists_b70, if_pos (by decide)]
  try dsimp only
  rw [w_X0_rootByLists_b50, if_neg (by decide), if_pos (by decide)]
  unfold w_X0_rootByLists_b151
  refine (jgR_eq (h3.tab ht) rfl).mpr ⟨⟨_, h3.row (by omega)⟩, s_at h3 (by omega) ?_⟩
  have e9 := k _ ⟨_, ?_, h3⟩
  · refine cast (congrArg (fun v => P v _) ?_) e9
    simp (disch := omega) only [jSetR_eq, jSetR_ne, jLn_list ht]
    simp (config := { maxSteps := 2000000 }) (disch := decide) only [jRW, jFl]
    simp (config := { decide := true }) only [if_true, if_false]
    first | done | rfl
  · intro r hr
    have hne : r ≠ jTb t + 2 := fun e => by rw [e, jScr_list ht] at hr; cases hr
    simp only [jSetR_ne hne]
theorem s_root3 (h : jRep L R V T w) {t : Nat} (ht : t < 22) {x : Int32} {P : Int32 → va_W → Prop} (k : ∀ w', jRq L R V T w' → P (jCo (jCo (jFl R t x 0) (jFl R t x 1)) (jCo (jFl R t x 2) (jFl R t x 2))) w') : w_X0_rootByLists_b17 jFu κ w (L (278 + t)) x 3 0 P := by
  have hb := jTb_lt ht
  rw [jFu_eq]
  rw [w_X0_rootByLists_b17, if_neg (by decide)]
  refine (jgR_eq (h.tab ht) rfl).mpr ((jgR_eq (h.tab ht) rfl).mpr ⟨⟨_, h.row (by omega)⟩, s_at h (by omega) ⟨⟨_, h.row (by omega)⟩, s_put h (by omega) (fun w1 h1 => ?_)⟩⟩)
  rw [w_X0_rootByLists_b17, if_neg (by decide)]
  refine (jgR_eq (h1.tab ht) rfl).mpr ((jgR_eq (h1.tab ht) rfl).mpr ⟨⟨_, h1.row (by omega)⟩, s_at h1 (by omega) ⟨⟨_, h1.row (by omega)⟩, s_put h1 (by omega) (fun w2 h2 => ?_)⟩⟩)
  rw [w_X0_rootByLists_b17, if_neg (by decide)]
  refine (jgR_eq (h2.tab ht) rfl).mpr ((jgR_eq (h2.tab ht) rfl).mpr ⟨⟨_, h2.row (by omega)⟩, s_at h2 (by omega) ⟨⟨_, h2.row (by omega)⟩, s_put h2 (by omega) (fun w3 h3 => ?_)⟩⟩)
  rw [w_X0_rootByLists_b17, if_pos (by decide), jFu_eq]
  try dsimp only
  rw [w_X0_rootByLists_b50, if_neg (by decide), if_neg (by decide), jFu_eq]
  try dsimp only
  rw [w_X0_rootByLists_b70, if_neg (by decide)]
  refine (jgR_eq (h3.tab ht) rfl).mpr ⟨⟨_, h3.row (by omega)⟩, s_at h3 (by omega) ?_⟩
  rw [if_neg (by decide)]
  refine (jgR_eq (h3.tab ht) rfl).mpr ⟨⟨_, h3.row (by omega)⟩, s_at h3 (by omega) ?_⟩
  unfold w_X0_rootByLists_b118
  refine (jgR_eq (h3.tab ht) rfl).mpr (s_combine ⟨⟨_, h3.row (by omega)⟩, s_put h3 (by omega) (fun w4 h4 => ?_)⟩)
  try dsimp only
  rw [w_X0_rootByLists_b70, if_neg (by decide)]
  refine (jgR_eq (h4.tab ht) rfl).mpr ⟨⟨_, h4.row (by omega)⟩, s_at h4 (by omega) ?_⟩
  rw [if_pos (by decide)]
  unfold w_X0_rootByLists_b118
  refine (jgR_eq (h4.tab ht) rfl).mpr (s_combine ⟨⟨_, h4.row (by omega)⟩, s_put h4 (by omega) (fun w5 h5 => ?_)⟩)
  try dsimp only
  rw [w_X0_rootByLists_b70, if_pos (by decide)]
  try dsimp only
  rw [w_X0_rootByLists_b50, if_neg (by decide), if_neg (by decide), jFu_eq]
  try dsimp only
  rw [w_X0_rootByLists_b70, if_neg (by decide)]
  refine (jgR_eq (h5.tab ht) rfl).mpr ⟨⟨_, h5.row (by omega)⟩, s_at h5 (by omega) ?_⟩
  rw [if_neg (by decide)]
  refine (jgR_eq (h5.tab ht) rfl).mpr ⟨⟨_, h5.row (by omega)⟩, s_at h5 (by omega) ?_⟩
  unfold w_X0_rootByLists_b118
  refine (jgR_eq (h5.tab ht) rfl).mpr (s_combine ⟨⟨_, h5.row (by omega)⟩, s_put h5 (by omega) (fun w6 h6 => ?_)⟩)
  try dsimp only
  rw [w_X0_rootByLists_b70, if_pos (by decide)]
  try dsimp only
  rw [w_X0_rootByLists_b50, if_neg (by decide), if_pos (by decide)]
  unfold w_X0_rootByLists_b151
  refine (jgR_eq (h6.tab ht) rfl).mpr ⟨⟨_, h6.row (by omega)⟩, s_at h6 (by omega) ?_⟩
  have e9 := k _ ⟨_, ?_, h6⟩
  · refine cast (congrArg (fun v => P v _) ?_) e9
    simp (disch := omega) only [jSetR_eq, jSetR_ne, jLn_list ht]
    simp (config := { maxSteps := 2000000 }) (disch := decide) only [jRW, jFl]
    simp (config := { decide := true }) only [if_true, if_false]
    first | done | rfl
  · intro r hr
    have hne : r ≠ jTb t + 2 := fun e => by rw [e, jScr_list ht] at hr; cases hr
    simp only [jSetR_ne hne]
theorem s_root4 (h : jRep L R V T w) {t : Nat} (ht : t < 22) {x : Int32} {P : Int32 → va_W → Prop} (k : ∀ w', jRq L R V T w' → P (jCo (jCo (jFl R t x 0) (jFl R t x 1)) (jCo (jFl R t x 2) (jFl R t x 3))) w') : w_X0_rootByLists_b17 jFu κ w (L (278 + t)) x 4 0 P := by
  have hb := jTb_lt ht
  rw [jFu_eq]
  rw [w_X0_rootByLists_b17, if_neg (by decide)]
  refine (jgR_eq (h.tab ht) rfl).mpr ((jgR_eq (h.tab ht) rfl).mpr ⟨⟨_, h.row (by omega)⟩, s_at h (by omega) ⟨⟨_, h.row (by omega)⟩, s_put h (by omega) (fun w1 h1 => ?_)⟩⟩)
  rw [w_X0_rootByLists_b17, if_neg (by decide)]
  refine (jgR_eq (h1.tab ht) rfl).mpr ((jgR_eq (h1.tab ht) rfl).mpr ⟨⟨_, h1.row (by omega)⟩, s_at h1 (by omega) ⟨⟨_, h1.row (by omega)⟩, s_put h1 (by omega) (fun w2 h2 => ?_)⟩⟩)
  rw [w_X0_rootByLists_b17, if_neg (by decide)]
  refine (jgR_eq (h2.tab ht) rfl).mpr ((jgR_eq (h2.tab ht) rfl).mpr ⟨⟨_, h2.row (by omega)⟩, s_at h2 (by omega) ⟨⟨_, h2.row (by omega)⟩, s_put h2 (by omega) (fun w3 h3 => ?_)⟩⟩)
  rw [w_X0_rootByLists_b17, if_neg (by decide)]
  refine (jgR_eq (h3.tab ht) rfl).mpr ((jgR_eq (h3.tab ht) rfl).mpr ⟨⟨_, h3.row (by omega)⟩, s_at h3 (by omega) ⟨⟨_, h3.row (by omega)⟩, s_put h3 (by omega) (fun w4 h4 => ?_)⟩⟩)
  rw [w_X0_rootByLists_b17, if_pos (by decide), jFu_eq]
  try dsimp only
  rw [w_X0_rootByLists_b50, if_neg (by decide), if_neg (by decide), jFu_eq]
  try dsimp only
  rw [w_X0_rootByLists_b70, if_neg (by decide)]
  refine (jgR_eq (h4.tab ht) rfl).mpr ⟨⟨_, h4.row (by omega)⟩, s_at h4 (by omega) ?_⟩
  rw [if_neg (by decide)]
  refine (jgR_eq (h4.tab ht) rfl).mpr ⟨⟨_, h4.row (by omega)⟩, s_at h4 (by omega) ?_⟩
  unfold w_X0_rootByLists_b118
  refine (jgR_eq (h4.tab ht) rfl).mpr (s_combine ⟨⟨_, h4.row (by omega)⟩, s_put h4 (by omega) (fun w5 h5 => ?_)⟩)
  try dsimp only
  rw [w_X0_rootByLists_b70, if_neg (by decide)]
  refine (jgR_eq (h5.tab ht) rfl).mpr ⟨⟨_, h5.row (by omega)⟩, s_at h5 (by omega) ?_⟩
  rw [if_neg (by decide)]
  refine (jgR_eq (h5.tab ht) rfl).mpr ⟨⟨_, h5.row (by omega)⟩, s_at h5 (by omega) ?_⟩
  unfold w_X0_rootByLists_b118
  refine (jgR_eq (h5.tab ht) rfl).mpr (s_combine ⟨⟨_, h5.row (by omega)⟩, s_put h5 (by omega) (fun w6 h6 => ?_)⟩)
  try dsimp only
  rw [w_X0_rootByLists_b70, if_pos (by decide)]
  try dsimp only
  rw [w_X0_rootByLists_b50, if_neg (by decide), if_neg (by decide), jFu_eq]
  try dsimp only
  rw [w_X0_rootByLists_b70, if_neg (by decide)]
  refine (jgR_eq (h6.tab ht) rfl).mpr ⟨⟨_, h6.row (by omega)⟩, s_at h6 (by omega) ?_⟩
  rw [if_neg (by decide)]
  refine (jgR_eq (h6.tab ht) rfl).mpr ⟨⟨_, h6.row (by omega)⟩, s_at h6 (by omega) ?_⟩
  unfold w_X0_rootByLists_b118
  refine (jgR_eq (h6.tab ht) rfl).mpr (s_combine ⟨⟨_, h6.row (by omega)⟩, s_put h6 (by omega) (fun w7 h7 => ?_)⟩)
  try dsimp only
  rw [w_X0_rootByLists_b70, if_pos (by decide)]
  try dsimp only
  rw [w_X0_rootByLists_b50, if_neg (by decide), if_pos (by decide)]
  unfold w_X0_rootByLists_b151
  refine (jgR_eq (h7.tab ht) rfl).mpr ⟨⟨_, h7.row (by omega)⟩, s_at h7 (by omega) ?_⟩
  have e9 := k _ ⟨_, ?_, h7⟩
  · refine cast (congrArg (fun v => P v _) ?_) e9
    simp (disch := omega) only [jSetR_eq, jSetR_ne, jLn_list ht]
    simp (config := { maxSteps := 2000000 }) (disch := decide) only [jRW, jFl]
    simp (config := { decide := true }) only [if_true, if_false]
    first | done | rfl
  · intro r hr
    have hne : r ≠ jTb t + 2 := fun e => by rw [e, jScr_list ht] at hr; cases hr
    simp only [jSetR_ne hne]
theorem s_rootLists (h : jRep L R V T w) {t : Nat} (ht : t < 22) {x : Int32} (hs : jSz R t x ≤ 4) {P : Int32 → va_W → Prop} (k : ∀ w', jRq L R V T w' → P (jRoot R t x) w') : w_X0_rootByLists κ w (L (278 + t)) x P := by
  have hb := jTb_lt ht
  unfold w_X0_rootByLists w_X0_rootByLists_b0
  refine (jgR_eq (h.tab ht) rfl).mpr ⟨⟨_, h.row (by omega)⟩, s_at h (by omega) ?_⟩
  show (if 0 < jSz R t x then _ else _)
  unfold jRoot at k
  by_cases h0 : 0 < jSz R t x
  · rw [if_pos h0]
    have hc : jSz R t x = 1 ∨ jSz R t x = 2 ∨ jSz R t x = 3 ∨ jSz R t x = 4 := by
      obtain ⟨j, hj, hx⟩ := nI_of2 (M := 4) (n := 4) rfl (fun h9 => by
        have := Int32.lt_iff_toInt_lt.mp h9
        have := Int32.lt_iff_toInt_lt.mp h0
        omega) hs
      rw [hx] at h0 ⊢
      rcases (show j = 0 ∨ j = 1 ∨ j = 2 ∨ j = 3 ∨ j = 4 by omega) with rfl | rfl | rfl | rfl | rfl
      · exact absurd h0 (by decide)
      · exact Or.inl rfl
      · exact Or.inr (Or.inl rfl)
      · exact Or.inr (Or.inr (Or.inl rfl))
      · exact Or.inr (Or.inr (Or.inr rfl))
    rcases hc with e | e | e | e
    · have e' : jRd (jLn (jTb t)) (R (jTb t)) x = 1 := e
      rw [e] at k
      rw [e']
      simp (config := { decide := true }) only [if_true, if_false] at k
      exact s_root1 h ht k
    · have e' : jRd (jLn (jTb t)) (R (jTb t)) x = 2 := e
      rw [e] at k
      rw [e']
      simp (config := { decide := true }) only [if_true, if_false] at k
      exact s_root2 h ht k
    · have e' : jRd (jLn (jTb t)) (R (jTb t)) x = 3 := e
      rw [e] at k
      rw [e']
      simp (config := { decide := true }) only [if_true, if_false] at k
      exact s_root3 h ht k
    · have e' : jRd (jLn (jTb t)) (R (jTb t)) x = 4 := e
      rw [e] at k
      rw [e']
      simp (config := { decide := true }) only [if_true, if_false] at k
      exact s_root4 h ht k
  · rw [if_neg h0]
    have hz : ∀ m : Int32, 0 < m → ¬ jSz R t x = m := fun m hm e => h0 (by rw [e]; exact hm)
    rw [if_neg (hz 1 (by decide)), if_neg (hz 2 (by decide)), if_neg (hz 3 (by decide)), if_neg (hz 4 (by decide))] at k
    exact k w ⟨R, fun _ _ => rfl, h⟩
end JRoot
