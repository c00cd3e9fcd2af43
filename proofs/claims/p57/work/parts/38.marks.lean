/-! ===== common flakes ===== -/
def jRk2 (L : Nat → Nat) (R : Nat → Nat → Int32) (V : Nat → Int32) (T : Nat → List Int32) (M : Nat → Int32) (w : va_W) : Prop := ∃ R', (∀ r, jScr r = false → R' r = R r) ∧ R' 132 = M ∧ jRep L R' V T w
def jMkS (R : Nat → Nat → Int32) (x mk : Int32) (M : Nat → Int32) (p : Nat) : Nat → Int32 := jWr 100 M (jFl R 0 x (nI p)) (jRd 100 M (jFl R 0 x (nI p)) ||| mk)
def jMk (R : Nat → Nat → Int32) (mk : Int32) : Nat → Int32 → (Nat → Int32) → (Nat → Int32)
  | 0, _, M => M
  | n + 1, x, M => if x = -1 then M else jMk R mk n (jGt R 0 1 x) (jIter (jMkS R x mk) (jSz R 0 x).toNatClampNeg 0 M)
def jCm (R : Nat → Nat → Int32) (x y : Int32) : Int32 := jIter (fun (a : Int32) i => if jRd 100 (jMk R 2 16 y (jMk R 1 16 x (fun _ => 0))) (nI i) = 3 then a + 1 else a) 100 0 0
section JMarks
variable {κ : Nat → Nat} {L : Nat → Nat} {R : Nat → Nat → Int32} {V : Nat → Int32} {T : Nat → List Int32} {w : va_W} {M : Nat → Int32}
theorem jRk2.q (h : jRk2 L R V T M w) : jRq L R V T w := by
  obtain ⟨R1, e, -, h1⟩ := h; exact ⟨R1, e, h1⟩
theorem s_atM (h : jRk2 L R V T M w) {x : Int32} {P : Int32 → va_W → Prop} (k : P (jRd 100 M x) w) : w_X3_at κ w (L 132) x P := by
  obtain ⟨R1, e, hD, h1⟩ := h
  refine s_at h1 (by omega) ?_
  rw [hD]; exact k
theorem s_putM (h : jRk2 L R V T M w) {x v : Int32} {P : va_W → Prop} (k : ∀ w', jRk2 L R V T (jWr 100 M x v) w' → P w') : w_X3_put κ w (L 132) x v P := by
  obtain ⟨R1, e, hD, h1⟩ := h
  refine s_put h1 (by omega) (fun w' h' => k w' ⟨_, ?_, ?_, h'⟩)
  · intro r hr
    rw [jSetR_ne (fun e9 => by rw [e9] at hr; revert hr; decide)]
    exact e r hr
  · rw [jSetR_eq, hD]; rfl
theorem s_markI {x mk : Int32} {m c : Nat} (hm : m ≤ 4) {K5 : va_W → Nat → Int32 → Int32 → Int32 → Prop} {P : va_W → Prop} : ∀ (n p : Nat) (M : Nat → Int32) (w : va_W), jRk2 L R V T M w → p ≤ m → m < n + p → (∀ w', jRk2 L R V T (jIter (jMkS R x mk) (m - p) p M) w' → K5 w' (L 311) mk (jGt R 0 1 x) (nI (c + 1))) → w_X6_markFlakes_b33 n κ w (L 311) mk x (nI c) (nI m) (nI p) K5 P := by
  intro n
  induction n with
  | zero => intro p M w h h1 h2; omega
  | succ n ih =>
    intro p M w h h1 h2 k
    rw [w_X6_markFlakes_b33]
    by_cases hp : p = m
    · subst hp
      rw [if_pos (Int32.le_refl _)]
      rw [Nat.sub_self] at k
      refine s_svat h.q 1 (by omega) ?_
      rw [nI_1]
      exact k w h
    · rw [if_neg (nI_ge (by omega) (by omega))]
      rw [show m - p = (m - (p + 1)) + 1 by omega] at k
      simp only [jIter] at k
      refine (jgR_eq h.q.sv rfl).mpr ((jgR_eq (h.q.st (s := 0) (by omega)) rfl).mpr ⟨⟨_, h.q.tab (t := 0) (by omega)⟩, s_flakeQ h.q (t := 0) (by omega) ?_⟩)
      refine (jgR_eq h.q.sv rfl).mpr ((jgR_eq h.q.sv rfl).mpr ⟨⟨_, h.q.row (r := 132) (by omega)⟩, s_atM h ?_⟩)
      refine ⟨⟨_, h.q.row (r := 132) (by omega)⟩, s_putM h (fun w1 h1 => ?_)⟩
      rw [nI_1]
      exact ih (p + 1) _ w1 h1 (by omega) (by omega) k
theorem s_markL (hs : ∀ x, jSz R 0 x ≤ 4) {mk : Int32} {P : va_W → Prop} : ∀ (n c : Nat) (x : Int32) (M : Nat → Int32) (w : va_W), jRk2 L R V T M w → c ≤ 16 → 16 < n + c → (∀ w', jRk2 L R V T (jMk R mk (16 - c) x M) w' → P w') → w_X6_markFlakes_b5 n κ w (L 311) mk x (nI c) P := by
  intro n
  induction n with
  | zero => intro c x M w h h1 h2; omega
  | succ n ih =>
    intro c x M w h h1 h2 k
    rw [w_X6_markFlakes_b5]
    by_cases hc : c = 16
    · subst hc
      have k : P w := k w h
      by_cases hx : x = -1
      · rw [if_pos hx]; exact k
      · rw [if_neg hx, if_pos j16_self]; exact k
    · rw [show 16 - c = (16 - (c + 1)) + 1 by omega] at k
      simp only [jMk] at k
      by_cases hx : x = -1
      · rw [if_pos hx] at k ⊢; exact k w h
      · rw [if_neg hx] at k ⊢
        rw [if_neg (j16_le (by omega))]
        refine (jgR_eq h.q.sv rfl).mpr ((jgR_eq (h.q.st (s := 0) (by omega)) rfl).mpr ⟨⟨_, h.q.tab (t := 0) (by omega)⟩, s_sizeQ h.q (t := 0) (by omega) ?_⟩)
        by_cases h0 : jSz R 0 x < 0
        · have hz : (jSz R 0 x).toNatClampNeg = 0 := by
            have := Int32.lt_iff_toInt_lt.mp h0
            rw [Int32.toNatClampNeg]
            have e0 : (0 : Int32).toInt = 0 := rfl
            omega
          rw [hz] at k
          rw [jFu_eq, w_X6_markFlakes_b33, if_pos (Int32.le_of_lt h0)]
          refine s_svat h.q 1 (by omega) ?_
          rw [nI_1]
          exact ih (c + 1) _ M w h (by omega) (by omega) k
        · obtain ⟨m, hm, he⟩ := nI_of h0
          have hm4 : m ≤ 4 := by
            have := hs x
            rw [he] at this
            exact (nI_leI (a := m) (b := 4) hm (by decide)).mp this
          rw [he, nI_clamp hm] at k
          rw [he]
          exact s_markI (m := m) hm4 jFu 0 M w h (by omega) (by rw [jFu_eq]; omega) (fun w1 h1 => ih (c + 1) _ _ w1 h1 (by omega) (by omega) k)
theorem s_common (h : jRq L R V T w) (hs : ∀ x, jSz R 0 x ≤ 4) {x y : Int32} {P : Int32 → va_W → Prop} (k : ∀ w', jRq L R V T w' → P (jCm R x y) w') : w_X6_countCommonFlakes κ w (L 311) x y P := by
  unfold w_X6_countCommonFlakes w_X6_countCommonFlakes_b0
  refine (jgR_eq h.sv rfl).mpr ⟨⟨_, h.row (r := 132) (by omega)⟩, ?_⟩
  obtain ⟨R1, e, h1⟩ := h
  refine s_fill h1 (r := 132) (by omega) (fun w2 h2 => ?_)
  have hM : jIter (jFlS 0) (jLn 132) 0 (R1 132) = fun _ => 0 := by
    funext j
    rw [jFill_at]
    by_cases hj : 0 ≤ j ∧ j < 0 + jLn 132
    · rw [if_pos hj]
    · rw [if_neg hj]; exact h1.1.2 132 j (by omega)
  have g2 : jRk2 L R V T (fun _ => 0) w2 := ⟨_, fun r hr => by rw [jSetR_ne (fun e9 => by rw [e9] at hr; revert hr; decide)]; exact e r hr, by rw [jSetR_eq]; exact hM, h2⟩
  refine ⟨⟨_, g2.q.sv⟩, ?_⟩
  refine s_markL hs jFu 0 x _ w2 g2 (by omega) (by rw [jFu_eq]; omega) (fun w3 g3 => ?_)
  refine ⟨⟨_, g3.q.sv⟩, ?_⟩
  refine s_markL hs jFu 0 y _ w3 g3 (by omega) (by rw [jFu_eq]; omega) (fun w4 g4 => ?_)
  have g4 : jRk2 L R V T (jMk R 2 16 y (jMk R 1 16 x (fun _ => 0))) w4 := g4
  unfold jCm at k
  generalize hMM : jMk R 2 16 y (jMk R 1 16 x (fun _ => 0)) = MM at g4 k
  refine jLoop (Q := fun _ w' => w' = w4) (F := fun n w a i => w_X6_countCommonFlakes_b25 n κ w (L 311) a i P) (P := P) 100 (fun (a : Int32) i => if jRd 100 MM (nI i) = 3 then a + 1 else a) ?_ ?_ jFu 0 0 w4 rfl (by omega) (by rw [jFu_eq]; omega) (fun w' e => by cases e; exact k _ g4.q)
  · intro n w' a e hp
    cases e
    show w_X6_countCommonFlakes_b25 (n + 1) κ _ (L 311) a (nI 100) P
    rw [w_X6_countCommonFlakes_b25, if_pos (show (100 : Int32) ≤ nI 100 from jN_self 100)]
    exact hp
  · intro n w' a i e hi hk
    cases e
    have hk := hk _ rfl
    show w_X6_countCommonFlakes_b25 (n + 1) κ _ (L 311) a (nI i) P
    rw [w_X6_countCommonFlakes_b25, if_neg (show ¬ (100 : Int32) ≤ nI i from jN_le (N := 100) (by decide) hi)]
    refine (jgR_eq g4.q.sv rfl).mpr ⟨⟨_, g4.q.row (r := 132) (by omega)⟩, s_atM g4 ?_⟩
    by_cases h3 : jRd 100 MM (nI i) = 3
    · rw [if_pos h3]
      simp only [if_pos h3] at hk
      unfold w_X6_countCommonFlakes_b48
      rw [nI_1]
      exact hk
    · rw [if_neg h3]
      simp only [if_neg h3] at hk
      unfold w_X6_countCommonFlakes_b48
      rw [nI_1]
      exact hk
end JMarks
