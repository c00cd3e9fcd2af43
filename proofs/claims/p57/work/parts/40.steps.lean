/-! ===== a script's step: which change ===== -/
section JSteps
variable {κ : Nat → Nat} {L : Nat → Nat} {R : Nat → Nat → Int32} {V : Nat → Int32} {T : Nat → List Int32} {w : va_W}
def jfOf (R : Nat → Nat → Int32) (V : Nat → Int32) (t a b c : Int32) : Nat := if t = 0 then jfRaise V else if t = 1 then jfHold R V a b else if t = 2 then jfAppend R V a else if t = 3 then jfTurn R V a b else if t = 4 then jfRemove R a else if t = 5 then jfSwap R a b c else jfMend R a
theorem s_refusalOf (h : jRq L R V T w) (hκ : jEn κ) (hs : ∀ x, jSz R 0 x ≤ 4) {t a b c : Int32} {P : Nat → va_W → Prop} (k : ∀ w', jRq L R V T w' → P (κ (jfOf R V t a b c)) w') : w_X7_refusalOf κ w (L 312) t a b c P := by
  unfold w_X7_refusalOf w_X7_refusalOf_b0
  unfold jfOf at k
  by_cases h0 : t = 0
  · rw [if_pos h0] at k ⊢; exact ⟨⟨_, h.wk⟩, s_fRaise h (k w h)⟩
  rw [if_neg h0] at k ⊢
  by_cases h1 : t = 1
  · rw [if_pos h1] at k ⊢; exact ⟨⟨_, h.wk⟩, s_fHold h (k w h)⟩
  rw [if_neg h1] at k ⊢
  by_cases h2 : t = 2
  · rw [if_pos h2] at k ⊢; exact ⟨⟨_, h.wk⟩, s_fAppend h hs k⟩
  rw [if_neg h2] at k ⊢
  by_cases h3 : t = 3
  · rw [if_pos h3] at k ⊢; exact ⟨⟨_, h.wk⟩, s_fTurn h (k w h)⟩
  rw [if_neg h3] at k ⊢
  by_cases h4 : t = 4
  · rw [if_pos h4] at k ⊢; exact ⟨⟨_, h.wk⟩, s_fRemove h (k w h)⟩
  rw [if_neg h4] at k ⊢
  by_cases h5 : t = 5
  · rw [if_pos h5] at k ⊢; exact ⟨⟨_, h.wk⟩, s_fSwap h (k w h)⟩
  rw [if_neg h5] at k ⊢
  exact ⟨⟨_, h.wk⟩, s_fMend h hκ hs k⟩
theorem jfOf_in {t a b c : Int32} : 2 ≤ jfOf R V t a b c ∧ jfOf R V t a b c < 8 := by
  obtain ⟨g1, g2, g3, g4, g5, g6, g7⟩ := jf_in (R := R) (V := V) (x := a) (y := b) (z := c)
  unfold jfOf
  (repeat' split) <;> assumption
end JSteps
