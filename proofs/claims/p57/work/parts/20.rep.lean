/-! ===== the ledger's cells, named: rows 0..138, their arrays 139.., tables 278.., states 300.., survey 311, work 312, history 313, ring 314, script 315, ledger 316, builders 317, 318 ===== -/
def jLn (r : Nat) : Nat := if r < 132 then [16, 16, 16, 16, 16, 16, 64, 4, 4, 4, 16, 4].getD (r % 12) 0 else if r = 132 then 100 else if r = 133 then 16 else 60
/-- the first row of a table -/
def jTb (t : Nat) : Nat := 12 * (t / 2) + (if t % 2 = 0 then 5 else 9)
def jCell (L : Nat → Nat) (R : Nat → Nat → Int32) (V : Nat → Int32) (i : Nat) : va_E :=
  if i < 139 then .inr (6, [.ref (L (139 + i))])
  else if i < 278 then .inl (0, jLn (i - 139), .inl (R (i - 139)))
  else if i < 300 then .inr (4, [.ref (L (jTb (i - 278))), .ref (L (jTb (i - 278) + 1)), .ref (L (jTb (i - 278) + 2))])
  else if i < 311 then .inr (8, [.ref (L (12 * (i - 300))), .ref (L (12 * (i - 300) + 1)), .ref (L (12 * (i - 300) + 2)), .ref (L (12 * (i - 300) + 3)), .ref (L (12 * (i - 300) + 4)), .ref (L (278 + 2 * (i - 300))), .ref (L (12 * (i - 300) + 8)), .ref (L (279 + 2 * (i - 300))), .int (V (4 * (i - 300))), .int (V (4 * (i - 300) + 1)), .int (V (4 * (i - 300) + 2)), .int (V (4 * (i - 300) + 3))])
  else if i = 311 then .inr (9, [.ref (L 300), .ref (L 132)])
  else if i = 312 then .inr (10, [.ref (L 300), .ref (L 311), .ref (L 133)])
  else if i = 313 then .inr (5, [.ref (L 314), .int (V 44), .int (V 45)])
  else if i = 314 then .inl (2, 8, .inr (.inr (.inr (.inr (fun j => if j < 8 then some (L (303 + j)) else none)))))
  else if i = 315 then .inr (7, [.ref (L 317), .ref (L 134), .ref (L 135), .ref (L 136), .ref (L 137), .ref (L 138), .int (V 49), .int (V 50), .int (V 51)])
  else .inr (11, [.ref (L 300), .ref (L 311), .ref (L 312), .ref (L 313), .ref (L 301), .int (V 46), .ref (L 302), .ref (L 315), .ref (L 318), .int (V 47), .int (V 48)])
def jInj (L : Nat → Nat) : Prop := ∀ i j, i < 319 → j < 319 → L i = L j → i = j
/-- a builder's cell and its bytes -/
def jSb1 (L : Nat → Nat) (t : List Int32) (w : va_W) (a q : Nat) : Prop := ∃ (n : Nat) (f : Nat → Int32) (m9 : Int32), jlk w a = some (.inr (1, [.ref q, .int 0, .int m9, .int (Int32.ofNat t.length)])) ∧ jlk w q = some (.inl (1, n, .inl f)) ∧ t.length ≤ n ∧ n ≤ 400 ∧ (∀ i, i < t.length → f i = t.getD i 0) ∧ (∀ i, fits .byte (.int (f i)) = true) ∧ ∀ i, i < 319 → L i ≠ q
def jRep (L : Nat → Nat) (R : Nat → Nat → Int32) (V : Nat → Int32) (T : Nat → List Int32) (w : va_W) : Prop :=
  (jInj L ∧ ∀ r k, jLn r ≤ k → R r k = 0) ∧ (∀ i, i < 317 → jlk w (L i) = some (jCell L R V i)) ∧ ∃ q0 q1 : Nat, q0 ≠ q1 ∧ jSb1 L (T 0) w (L 317) q0 ∧ jSb1 L (T 1) w (L 318) q1 ∧ (T 3 ≠ [] → jlk w (L 320) = some (.inl (0, 4, .inl (fun i => (T 2).getD i 0))) ∧ (∀ i, i < 319 → L i ≠ L 320) ∧ q0 ≠ L 320 ∧ q1 ≠ L 320)
section JCell
variable {L : Nat → Nat} {R : Nat → Nat → Int32} {V : Nat → Int32} {T : Nat → List Int32} {w : va_W}
theorem jCell_row {r : Nat} (h : r < 139) : jCell L R V r = .inr (6, [.ref (L (139 + r))]) := by simp [jCell, h]
theorem jCell_arr {r : Nat} (h : r < 139) : jCell L R V (139 + r) = .inl (0, jLn r, .inl (R r)) := by
  simp [jCell, show ¬ 139 + r < 139 by omega, show 139 + r < 278 by omega]
theorem jCell_tab {t : Nat} (h : t < 22) : jCell L R V (278 + t) = .inr (4, [.ref (L (jTb t)), .ref (L (jTb t + 1)), .ref (L (jTb t + 2))]) := by
  simp [jCell, show ¬ 278 + t < 139 by omega, show ¬ 278 + t < 278 by omega, show 278 + t < 300 by omega]
theorem jCell_st {s : Nat} (h : s < 11) : jCell L R V (300 + s) = .inr (8, [.ref (L (12 * s)), .ref (L (12 * s + 1)), .ref (L (12 * s + 2)), .ref (L (12 * s + 3)), .ref (L (12 * s + 4)), .ref (L (278 + 2 * s)), .ref (L (12 * s + 8)), .ref (L (279 + 2 * s)), .int (V (4 * s)), .int (V (4 * s + 1)), .int (V (4 * s + 2)), .int (V (4 * s + 3))]) := by
  simp [jCell, show ¬ 300 + s < 139 by omega, show ¬ 300 + s < 278 by omega, show ¬ 300 + s < 300 by omega, show 300 + s < 311 by omega]
theorem jCell_low {V' : Nat → Int32} {j : Nat} (h1 : j < 300) : jCell L R V' j = jCell L R V j := by
  by_cases g1 : j < 139
  · rw [jCell_row g1, jCell_row g1]
  · by_cases g2 : j < 278
    · obtain ⟨k, rfl⟩ : ∃ k, j = 139 + k := ⟨j - 139, by omega⟩
      rw [jCell_arr (by omega), jCell_arr (by omega)]
    · obtain ⟨t, rfl⟩ : ∃ t, j = 278 + t := ⟨j - 278, by omega⟩
      rw [jCell_tab (by omega), jCell_tab (by omega)]
theorem jRep.row (h : jRep L R V T w) {r : Nat} (hr : r < 139) : jlk w (L r) = some (.inr (6, [.ref (L (139 + r))])) := by
  rw [h.2.1 r (by omega), jCell_row hr]
theorem jRep.arr (h : jRep L R V T w) {r : Nat} (hr : r < 139) : jlk w (L (139 + r)) = some (.inl (0, jLn r, .inl (R r))) := by
  rw [h.2.1 (139 + r) (by omega), jCell_arr hr]
theorem jRep.tab (h : jRep L R V T w) {t : Nat} (ht : t < 22) : jlk w (L (278 + t)) = some (.inr (4, [.ref (L (jTb t)), .ref (L (jTb t + 1)), .ref (L (jTb t + 2))])) := by
  rw [h.2.1 (278 + t) (by omega), jCell_tab ht]
theorem jRep.st (h : jRep L R V T w) {s : Nat} (hs : s < 11) : jlk w (L (300 + s)) = some (.inr (8, [.ref (L (12 * s)), .ref (L (12 * s + 1)), .ref (L (12 * s + 2)), .ref (L (12 * s + 3)), .ref (L (12 * s + 4)), .ref (L (278 + 2 * s)), .ref (L (12 * s + 8)), .ref (L (279 + 2 * s)), .int (V (4 * s)), .int (V (4 * s + 1)), .int (V (4 * s + 2)), .int (V (4 * s + 3))])) := by
  rw [h.2.1 (300 + s) (by omega), jCell_st hs]
theorem jRep.sv (h : jRep L R V T w) : jlk w (L 311) = some (.inr (9, [.ref (L 300), .ref (L 132)])) := h.2.1 311 (by omega)
theorem jRep.wk (h : jRep L R V T w) : jlk w (L 312) = some (.inr (10, [.ref (L 300), .ref (L 311), .ref (L 133)])) := h.2.1 312 (by omega)
theorem jRep.hi (h : jRep L R V T w) : jlk w (L 313) = some (.inr (5, [.ref (L 314), .int (V 44), .int (V 45)])) := h.2.1 313 (by omega)
theorem jRep.ring (h : jRep L R V T w) : jlk w (L 314) = some (.inl (2, 8, .inr (.inr (.inr (.inr (fun j => if j < 8 then some (L (303 + j)) else none)))))) := h.2.1 314 (by omega)
theorem jRep.sc (h : jRep L R V T w) : jlk w (L 315) = some (.inr (7, [.ref (L 317), .ref (L 134), .ref (L 135), .ref (L 136), .ref (L 137), .ref (L 138), .int (V 49), .int (V 50), .int (V 51)])) := h.2.1 315 (by omega)
theorem jRep.lg (h : jRep L R V T w) : jlk w (L 316) = some (.inr (11, [.ref (L 300), .ref (L 311), .ref (L 312), .ref (L 313), .ref (L 301), .int (V 46), .ref (L 302), .ref (L 315), .ref (L 318), .int (V 47), .int (V 48)])) := h.2.1 316 (by omega)
/-- a write to a cell among the named ones -/
theorem jRep.write (h : jRep L R V T w) {i : Nat} (hi : i < 317) {R' : Nat → Nat → Int32} {V' : Nat → Int32} {x : va_E} (hx : jCell L R' V' i = x) (ho : ∀ j, j < 317 → j ≠ i → jCell L R' V' j = jCell L R V j) (hz : ∀ r k, jLn r ≤ k → R' r k = 0) : jRep L R' V' T (jst w (L i) x) := by
  obtain ⟨⟨hL, -⟩, h1, q0, q1, h2, h3, h4, h5⟩ := h
  have hne : ∀ j, j < 319 → j ≠ i → L j ≠ L i := fun j hj hji e => hji (hL j i hj (by omega) e)
  refine ⟨⟨hL, hz⟩, fun j hj => ?_, q0, q1, h2, ?_, ?_, fun h9 => ⟨by rw [jst_ne (fun e => (h5 h9).2.1 i (by omega) e.symm)]; exact (h5 h9).1, (h5 h9).2⟩⟩
  · by_cases hji : j = i
    · subst hji
      rw [jst_self (h1 j hj), hx]
    · rw [jst_ne (hne j (by omega) hji), h1 j hj, ho j hj hji]
  · obtain ⟨n, f, m9, g1, g2, g3, g4, g5, g6⟩ := h3
    exact ⟨n, f, m9, by rw [jst_ne (hne 317 (by omega) (by omega))]; exact g1, by rw [jst_ne (fun e => g6.2 i (by omega) e.symm)]; exact g2, g3, g4, g5, g6⟩
  · obtain ⟨n, f, m9, g1, g2, g3, g4, g5, g6⟩ := h4
    exact ⟨n, f, m9, by rw [jst_ne (hne 318 (by omega) (by omega))]; exact g1, by rw [jst_ne (fun e => g6.2 i (by omega) e.symm)]; exact g2, g3, g4, g5, g6⟩
/-- a row's new contents -/
def jSetR (R : Nat → Nat → Int32) (r : Nat) (f : Nat → Int32) : Nat → Nat → Int32 := fun k => if k = r then f else R k
theorem jRep.putR (h : jRep L R V T w) {r : Nat} (hr : r < 139) (f : Nat → Int32) (hf : ∀ k, jLn r ≤ k → f k = 0) : jRep L (jSetR R r f) V T (jst w (L (139 + r)) (.inl (0, jLn r, .inl f))) := by
  refine h.write (i := 139 + r) (by omega) ?_ ?_ ?_
  · rw [jCell_arr hr]; simp [jSetR]
  · intro j hj hji
    by_cases h1 : j < 139
    · rw [jCell_row h1, jCell_row h1]
    · by_cases h2 : j < 278
      · obtain ⟨k, rfl⟩ : ∃ k, j = 139 + k := ⟨j - 139, by omega⟩
        rw [jCell_arr (by omega), jCell_arr (by omega)]
        simp [jSetR, show k ≠ r by omega]
      · simp [jCell, h1, h2]
  · intro j k hk
    by_cases hj : j = r
    · subst hj; simp only [jSetR, if_true]; exact hf k hk
    · simp only [jSetR, if_neg hj]; exact h.1.2 j k hk
def jSetV (V : Nat → Int32) (i : Nat) (v : Int32) : Nat → Int32 := fun k => if k = i then v else V k
theorem jRep.putS (h : jRep L R V T w) {s : Nat} (hs : s < 11) (k : Nat) (hk : k < 4) (v : Int32) {x : va_E} (hx : jCell L R (jSetV V (4 * s + k) v) (300 + s) = x) : jRep L R (jSetV V (4 * s + k) v) T (jst w (L (300 + s)) x) := by
  refine h.write (i := 300 + s) (by omega) hx ?_ h.1.2
  intro j hj hji
  by_cases h1 : j < 300
  · exact jCell_low h1
  · by_cases h2 : j < 311
    · obtain ⟨t, rfl⟩ : ∃ t, j = 300 + t := ⟨j - 300, by omega⟩
      rw [jCell_st (by omega), jCell_st (by omega)]
      simp only [jSetV, show ¬ 4 * t = 4 * s + k by omega, show ¬ 4 * t + 1 = 4 * s + k by omega, show ¬ 4 * t + 2 = 4 * s + k by omega, show ¬ 4 * t + 3 = 4 * s + k by omega, if_false]
    · simp only [jCell, show ¬ j < 139 by omega, show ¬ j < 278 by omega, h1, h2, if_false, jSetV, show ¬ 44 = 4 * s + k by omega, show ¬ 45 = 4 * s + k by omega, show ¬ 46 = 4 * s + k by omega, show ¬ 47 = 4 * s + k by omega, show ¬ 48 = 4 * s + k by omega, show ¬ 49 = 4 * s + k by omega, show ¬ 50 = 4 * s + k by omega, show ¬ 51 = 4 * s + k by omega]
/-- a scalar that is not a state's -/
theorem jRep.putX (h : jRep L R V T w) {i n : Nat} (hn : 44 ≤ n) (hi : 311 ≤ i ∧ i < 317) (v : Int32) {x : va_E} (hx : jCell L R (jSetV V n v) i = x) (ho : ∀ j, 311 ≤ j → j < 317 → j ≠ i → jCell L R (jSetV V n v) j = jCell L R V j) : jRep L R (jSetV V n v) T (jst w (L i) x) := by
  refine h.write (i := i) hi.2 hx ?_ h.1.2
  intro j hj hji
  by_cases h2 : j < 311
  · by_cases h1 : j < 300
    · exact jCell_low h1
    · obtain ⟨t, rfl⟩ : ∃ t, j = 300 + t := ⟨j - 300, by omega⟩
      rw [jCell_st (by omega), jCell_st (by omega)]
      simp only [jSetV, show ¬ 4 * t = n by omega, show ¬ 4 * t + 1 = n by omega, show ¬ 4 * t + 2 = n by omega, show ¬ 4 * t + 3 = n by omega, if_false]
  · exact ho j (by omega) hj hji
end JCell
/-- what 'at' answers -/
def jRd (n : Nat) (f : Nat → Int32) (x : Int32) : Int32 := if x < 0 then -1 else if Int32.ofNat n ≤ x then -1 else f x.toNatClampNeg
/-- what 'put' makes of a row -/
def jWr (n : Nat) (f : Nat → Int32) (x v : Int32) : Nat → Int32 := if x < 0 then f else if Int32.ofNat n ≤ x then f else upd f x.toNatClampNeg v
theorem jLn_lt (r : Nat) : jLn r ≤ 100 := by
  unfold jLn
  split
  · have : ∀ k, k < 12 → [16, 16, 16, 16, 16, 16, 64, 4, 4, 4, 16, 4].getD k 0 ≤ 100 := by decide
    exact this _ (Nat.mod_lt _ (by decide))
  · split
    · decide
    · split <;> decide
theorem jIn_of {x : Int32} {n : Nat} (hn : n < 2 ^ 31) (h0 : ¬ x < 0) (h1 : ¬ Int32.ofNat n ≤ x) : vp_in x n := by
  intro h
  rcases h with h | h
  · exact h0 h
  · apply h1
    rw [Int32.le_iff_toInt_le]
    have h0' : 0 ≤ x.toInt := by
      rcases Int.lt_or_le x.toInt 0 with h | h
      · exact absurd (Int32.lt_iff_toInt_lt.mpr h) h0
      · exact h
    have e1 : (Int32.ofNat n).toInt = n := nI_toInt hn
    have e2 : (x.toNatClampNeg : Int) = x.toInt := by
      rw [Int32.toNatClampNeg]; omega
    omega
