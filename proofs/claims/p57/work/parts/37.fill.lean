/-! ===== rows filled ===== -/
section JFill
variable {κ : Nat → Nat} {L : Nat → Nat} {R : Nat → Nat → Int32} {V : Nat → Int32} {T : Nat → List Int32} {w : va_W}
def jFlS (v : Int32) (f : Nat → Int32) (i : Nat) : Nat → Int32 := upd f i v
theorem s_fillL {r : Nat} (hr : r < 139) {v : Int32} {P : va_W → Prop} : ∀ (n i : Nat) (R : Nat → Nat → Int32) (w : va_W), jRep L R V T w → i ≤ jLn r → jLn r < n + i → (∀ w', jRep L (jSetR R r (jIter (jFlS v) (jLn r - i) i (R r))) V T w' → P w') → w_J7_fill_53178_b5 n κ w (L (139 + r)) v (nI i) (nI (jLn r)) P := by
  intro n
  induction n with
  | zero => intro i R w h h1 h2; omega
  | succ n ih =>
    intro i R w h h1 h2 k
    rw [w_J7_fill_53178_b5]
    by_cases hi : i = jLn r
    · rw [← hi, if_pos (Int32.le_refl _)]
      rw [← hi, Nat.sub_self] at k
      simp only [jIter] at k
      rw [jSetR_self] at k
      exact k w h
    · have hl := jLn_31 r
      rw [if_neg (nI_ge (by omega) hl)]
      refine (jSi_eq (h.arr hr) (nI_in (by omega) hl)).mpr ?_
      rw [nI_clamp (by omega), nI_1]
      refine ih (i + 1) (jSetR R r (upd (R r) i v)) _ (h.putR hr _ ?_) (by omega) (by omega) ?_
      · intro j hj
        show (if j = i then v else R r j) = 0
        rw [if_neg (by omega)]
        exact h.1.2 r j hj
      · rw [show jLn r - i = (jLn r - (i + 1)) + 1 by omega] at k
        simp only [jIter] at k
        rw [jSetR_eq]
        intro w' h'
        refine k w' (h'.to ?_ rfl)
        funext j
        unfold jSetR
        by_cases hj : j = r
        · rw [if_pos hj, if_pos hj]; rfl
        · rw [if_neg hj, if_neg hj, if_neg hj]
theorem s_fill (h : jRep L R V T w) {r : Nat} (hr : r < 139) {v : Int32} {P : va_W → Prop} (k : ∀ w', jRep L (jSetR R r (jIter (jFlS v) (jLn r) 0 (R r))) V T w' → P w') : w_X3_fill κ w (L r) v P := by
  unfold w_X3_fill w_X3_fill_b0
  refine (jgR_eq (h.row hr) rfl).mpr ?_
  unfold w_J7_fill_53178 w_J7_fill_53178_b0
  refine (jAl_eq (h.arr hr) (by decide)).mpr ?_
  have hl := jLn_lt r
  exact s_fillL hr jFu 0 R w h (by omega) (by rw [jFu_eq]; omega) k
/-- a filled row, told at once -/
theorem jFill_at {v : Int32} : ∀ (n i : Nat) (f : Nat → Int32) (k : Nat), jIter (jFlS v) n i f k = if i ≤ k ∧ k < i + n then v else f k := by
  intro n
  induction n with
  | zero => intro i f k; rw [if_neg (by omega)]; rfl
  | succ n ih =>
    intro i f k
    rw [jIter, ih]
    by_cases h1 : i + 1 ≤ k ∧ k < i + 1 + n
    · rw [if_pos h1, if_pos (by omega)]
    · rw [if_neg h1]
      show (if k = i then v else f k) = _
      by_cases h2 : k = i
      · rw [if_pos h2, if_pos (by omega)]
      · rw [if_neg h2, if_neg (by omega)]
end JFill
