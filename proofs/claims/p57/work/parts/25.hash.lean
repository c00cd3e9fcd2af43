/-! ===== validity, nonces, the best block ===== -/
def jNonL (p r wr : Int32) : Nat → Nat → Int32
  | 0, _ => 0
  | n + 1, i => if jrem (jHw p r wr (nI i)) 4 = 0 then nI i else jNonL p r wr n (i + 1)
/-- the least nonce -/
def jNon (p r wr : Int32) : Int32 := jNonL p r wr 9973 0
def jHolds (R : Nat → Nat → Int32) (x : Int32) : Bool := if x = 0 then true else decide (jGt R 0 3 x = jHw (jGt R 0 3 (jGt R 0 1 x)) (jRoot R 0 x) (jGt R 0 2 x) (jGt R 0 4 x))
def jLb (R : Nat → Nat → Int32) : Nat → Int32 → Int32 → Int32
  | 0, b, _ => b
  | n + 1, b, x => if x = -1 then b else jLb R n (if jHolds R x = true then b else x) (jGt R 0 1 x)
def jLow (R : Nat → Nat → Int32) (x : Int32) : Int32 := jLb R 16 (-1) x
def jBest (R : Nat → Nat → Int32) : Int32 := jIter (fun (a : Int32) i => if (jUsed R 0 (nI i) && jRk R (nI i) a && decide (jLow R (nI i) = -1)) = true then nI i else a) 16 0 0
theorem j9_le {i : Nat} (h : i < 9973) : ¬ (9973 : Int32) ≤ nI i := jN_le (N := 9973) (by decide) h
theorem j9_self : (9973 : Int32) ≤ nI 9973 := jN_self 9973
section JHash
variable {κ : Nat → Nat} {L : Nat → Nat} {R : Nat → Nat → Int32} {V : Nat → Int32} {T : Nat → List Int32} {w : va_W}
theorem s_nonL {p r wr : Int32} {P : Int32 → va_W → Prop} : ∀ n i : Nat, i ≤ 9973 → 9973 < n + i → P (jNonL p r wr (9973 - i) i) w → w_X8_leastNonce_b2 n κ w p r wr (nI i) P := by
  intro n
  induction n with
  | zero => intro i h1 h2; omega
  | succ n ih =>
    intro i h1 h2 k
    rw [w_X8_leastNonce_b2]
    by_cases hi : i = 9973
    · subst hi
      rw [if_pos j9_self]
      rw [Nat.sub_self] at k
      exact k
    · rw [if_neg (j9_le (by omega))]
      rw [show 9973 - i = (9973 - (i + 1)) + 1 by omega, jNonL] at k
      refine s_hashWith ?_
      by_cases hz : jrem (jHw p r wr (nI i)) 4 = 0
      · rw [if_pos hz] at k ⊢; exact k
      · rw [if_neg hz] at k ⊢
        rw [nI_1]
        exact ih (i + 1) (by omega) (by omega) k
theorem s_nonce {p r wr : Int32} {P : Int32 → va_W → Prop} (k : P (jNon p r wr) w) : w_X8_leastNonce κ w p r wr P := by
  unfold w_X8_leastNonce w_X8_leastNonce_b0
  exact s_nonL jFu 0 (by omega) (by rw [jFu_eq]; omega) k
theorem s_sealed {p r wr : Int32} {P : Int32 → va_W → Prop} (k : P (jHw p r wr (jNon p r wr)) w) : w_X8_sealedHash κ w p r wr P := by
  unfold w_X8_sealedHash w_X8_sealedHash_b0
  exact s_nonce (s_hashWith k)
/-- what does not stand in the scratch rows -/
theorem jGt_q {R' : Nat → Nat → Int32} (e : ∀ r, jScr r = false → R' r = R r) {j : Nat} (hj : j < 12) (h7 : j ≠ 7) (h11 : j ≠ 11) {x : Int32} : jGt R' 0 j x = jGt R 0 j x := by
  unfold jGt
  rw [e (12 * 0 + j) (by unfold jScr; simp; omega)]
theorem jTb_ns {t : Nat} (h : t < 22) : jScr (jTb t) = false ∧ jScr (jTb t + 1) = false := by
  unfold jScr jTb
  split
  · rw [show (12 * (t / 2) + 5) % 12 = 5 by omega, show (12 * (t / 2) + 5 + 1) % 12 = 6 by omega]
    simp; omega
  · rw [show (12 * (t / 2) + 9) % 12 = 9 by omega, show (12 * (t / 2) + 9 + 1) % 12 = 10 by omega]
    simp; omega
theorem jSz_q {R' : Nat → Nat → Int32} (e : ∀ r, jScr r = false → R' r = R r) {t : Nat} (h : t < 22) {x : Int32} : jSz R' t x = jSz R t x := by
  unfold jSz; rw [e _ (jTb_ns h).1]
theorem jFl_q {R' : Nat → Nat → Int32} (e : ∀ r, jScr r = false → R' r = R r) {t : Nat} (h : t < 22) {x y : Int32} : jFl R' t x y = jFl R t x y := by
  unfold jFl; rw [e _ (jTb_ns h).2]
theorem jRoot_q {R' : Nat → Nat → Int32} (e : ∀ r, jScr r = false → R' r = R r) {t : Nat} (h : t < 22) {x : Int32} : jRoot R' t x = jRoot R t x := by
  unfold jRoot; simp only [jSz_q e h, jFl_q e h]
theorem jRq.of (h : jRep L R V T w) : jRq L R V T w := ⟨R, fun _ _ => rfl, h⟩
theorem jRq.tr {R' : Nat → Nat → Int32} (e : ∀ r, jScr r = false → R' r = R r) (h : jRq L R' V T w) : jRq L R V T w := by
  obtain ⟨R2, e2, h2⟩ := h
  exact ⟨R2, fun r hr => (e2 r hr).trans (e r hr), h2⟩
theorem s_rootQ (h : jRq L R V T w) {t : Nat} (ht : t < 22) {x : Int32} (hs : jSz R t x ≤ 4) {P : Int32 → va_W → Prop} (k : ∀ w', jRq L R V T w' → P (jRoot R t x) w') : w_X0_rootByLists κ w (L (278 + t)) x P := by
  obtain ⟨R1, e, h1⟩ := h
  refine s_rootLists h1 ht (by rw [jSz_q e ht]; exact hs) (fun w' hw => ?_)
  rw [jRoot_q e ht]
  exact k w' (jRq.tr e hw)
theorem s_gq (h : jRq L R V T w) (j : Nat) (hj : j < 12) (h7 : j ≠ 7) (h11 : j ≠ 11) {x : Int32} {P : Int32 → va_W → Prop} (k : P (jGt R 0 j x) w) : w_X3_at κ w (L j) x P := by
  obtain ⟨R1, e, h1⟩ := h
  refine s_gt h1 j hj ?_
  rw [jGt_q e hj h7 h11]
  exact k
theorem jRq.sv (h : jRq L R V T w) : jlk w (L 311) = some (.inr (9, [.ref (L 300), .ref (L 132)])) := by
  obtain ⟨R1, e, h1⟩ := h; exact h1.sv
theorem jRq.st (h : jRq L R V T w) {s : Nat} (hs : s < 11) : jlk w (L (300 + s)) = some (.inr (8, [.ref (L (12 * s)), .ref (L (12 * s + 1)), .ref (L (12 * s + 2)), .ref (L (12 * s + 3)), .ref (L (12 * s + 4)), .ref (L (278 + 2 * s)), .ref (L (12 * s + 8)), .ref (L (279 + 2 * s)), .int (V (4 * s)), .int (V (4 * s + 1)), .int (V (4 * s + 2)), .int (V (4 * s + 3))])) := by
  obtain ⟨R1, e, h1⟩ := h; exact h1.st hs
theorem jRq.row (h : jRq L R V T w) {r : Nat} (hr : r < 139) : jlk w (L r) = some (.inr (6, [.ref (L (139 + r))])) := by
  obtain ⟨R1, e, h1⟩ := h; exact h1.row hr
theorem jRq.tab (h : jRq L R V T w) {t : Nat} (ht : t < 22) : jlk w (L (278 + t)) = some (.inr (4, [.ref (L (jTb t)), .ref (L (jTb t + 1)), .ref (L (jTb t + 2))])) := by
  obtain ⟨R1, e, h1⟩ := h; exact h1.tab ht
/-- a state's row, by way of the survey -/
theorem s_svat (h : jRq L R V T w) (j : Nat) (hj : j < 5) {x : Int32} {K : Int32 → va_W → Prop} (k : K (jGt R 0 j x) w) : jgR' w (L 311) 9 0 (fun r1 => jgR' w r1 8 j (fun r2 => (jRc w r2 6 ∧ w_X3_at κ w r2 x K))) := by
  refine (jgR_eq h.sv rfl).mpr ?_
  refine (jgR_eq (v := L j) (h.st (s := 0) (by omega)) ?_).mpr ⟨⟨_, h.row (r := j) (by omega)⟩, s_gq h j (by omega) (by omega) (by omega) k⟩
  rcases (show j = 0 ∨ j = 1 ∨ j = 2 ∨ j = 3 ∨ j = 4 by omega) with rfl | rfl | rfl | rfl | rfl <;> rfl
theorem s_holds (h : jRq L R V T w) (hs : ∀ x, jSz R 0 x ≤ 4) {x : Int32} {P : Int32 → va_W → Prop} (k : ∀ w', jRq L R V T w' → P (jB2 (jHolds R x)) w') : w_X6_holds κ w (L 311) x P := by
  unfold w_X6_holds w_X6_holds_b0
  unfold jHolds at k
  by_cases h0 : x = 0
  · rw [if_pos h0] at k ⊢
    exact k w h
  · rw [if_neg h0] at k ⊢
    refine (jgR_eq h.sv rfl).mpr ((jgR_eq (h.st (s := 0) (by omega)) rfl).mpr ?_)
    refine s_svat h 1 (by omega) ?_
    refine ⟨⟨_, h.row (r := 3) (by omega)⟩, s_gq h 3 (by omega) (by omega) (by omega) ?_⟩
    refine (jgR_eq h.sv rfl).mpr ((jgR_eq (h.st (s := 0) (by omega)) rfl).mpr ⟨⟨_, h.tab (t := 0) (by omega)⟩, s_rootQ h (t := 0) (by omega) (hs x) (fun w1 h1 => ?_)⟩)
    refine s_svat h1 3 (by omega) ?_
    refine s_svat h1 2 (by omega) ?_
    refine s_svat h1 4 (by omega) ?_
    refine s_hashWith ?_
    have k := k w1 h1
    split
    · rename_i he
      simp only [he, decide_true, jB2, if_true] at k
      exact ⟨rfl, k⟩
    · rename_i he
      simp only [he, decide_false, jB2, Bool.false_eq_true, if_false] at k
      exact ⟨rfl, k⟩
theorem s_lowL (hs : ∀ x, jSz R 0 x ≤ 4) {P : Int32 → va_W → Prop} : ∀ (n c : Nat) (b x : Int32) (w : va_W), jRq L R V T w → c ≤ 16 → 16 < n + c → (∀ w', jRq L R V T w' → P (jLb R (16 - c) b x) w') → w_X6_lowestBroken_b7 n κ w (L 311) b x (nI c) P := by
  intro n
  induction n with
  | zero => intro c b x w h h1 h2; omega
  | succ n ih =>
    intro c b x w h h1 h2 k
    rw [w_X6_lowestBroken_b7]
    by_cases hc : c = 16
    · subst hc
      have k : P b w := k w h
      by_cases hx : x = -1
      · rw [if_pos hx]; exact k
      · rw [if_neg hx, if_pos j16_self]; exact k
    · rw [show 16 - c = (16 - (c + 1)) + 1 by omega] at k
      simp only [jLb] at k
      by_cases hx : x = -1
      · rw [if_pos hx] at k ⊢; exact k w h
      · rw [if_neg hx] at k ⊢
        rw [if_neg (j16_le (by omega))]
        refine ⟨⟨_, h.sv⟩, s_holds h hs (fun w1 h1 => ?_)⟩
        refine jif_b (fun hu => ?_) (fun hu => ?_)
        · rw [if_neg (by rw [hu]; decide)] at k
          unfold w_X6_lowestBroken_b29
          refine s_svat h1 1 (by omega) ?_
          rw [nI_1]
          exact ih (c + 1) _ _ _ h1 (by omega) (by omega) k
        · rw [if_pos hu] at k
          unfold w_X6_lowestBroken_b29
          refine s_svat h1 1 (by omega) ?_
          rw [nI_1]
          exact ih (c + 1) _ _ _ h1 (by omega) (by omega) k
theorem s_low (h : jRq L R V T w) (hs : ∀ x, jSz R 0 x ≤ 4) {x : Int32} {P : Int32 → va_W → Prop} (k : ∀ w', jRq L R V T w' → P (jLow R x) w') : w_X6_lowestBroken κ w (L 311) x P := by
  unfold w_X6_lowestBroken w_X6_lowestBroken_b0
  exact s_lowL hs jFu 0 (-1) x w h (by omega) (by rw [jFu_eq]; omega) k
end JHash
