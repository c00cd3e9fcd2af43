/-! ===== the fresh ledger ===== -/
def oP (k : Nat) : Nat := [0, 2, 4, 6, 8, 11, 13, 15, 17, 20, 22, 24].getD k 0
def pos (i : Nat) : Nat :=
  if i < 132 then sP (i / 12) + 1 + oP (i % 12)
  else if i = 132 then 29 else if i = 133 then 32 else if i < 139 then 309 + 2 * (i - 134)
  else if i < 271 then sP ((i - 139) / 12) + 2 + oP ((i - 139) % 12)
  else if i = 271 then 30 else if i = 272 then 33 else if i < 278 then 310 + 2 * (i - 273)
  else if i < 300 then sP ((i - 278) / 2) + 1 + (if (i - 278) % 2 = 0 then 10 else 19)
  else if i < 311 then sP (i - 300)
  else if i = 311 then 28 else if i = 312 then 31 else if i = 313 then 34 else if i = 314 then 35 else if i = 315 then 306 else if i = 316 then 0 else if i = 317 then 307 else 319
def gR0 (r : Nat) : Nat → Int32 := if r < 132 then (if r % 12 = 0 then upd (gFi 16 (-1)) 0 0 else if r % 12 = 1 then gFi 16 (-1) else if r % 12 = 2 then gFi 16 (-1) else if r % 12 = 3 then upd (gFi 16 0) 0 1 else fun _ => 0) else fun _ => 0
def gV0 (i : Nat) : Int32 := if i < 44 then (if i % 4 = 1 then 1 else 0) else if i = 47 then -1 else if i = 48 then -1 else 0
section JRep0
variable {A : Nat → Nat} {E : Nat → va_E} {w : va_W}
theorem pos_inj : ∀ i, i < 319 → ∀ j, j < 319 → pos i = pos j → i = j := by decide +kernel
theorem pos_lt : ∀ i, i < 319 → pos i < 321 := by decide +kernel
theorem pos_ne : ∀ i, i < 319 → pos i ≠ 308 ∧ pos i ≠ 320 := by decide +kernel
theorem gFi_0 {n : Nat} : gFi n 0 = fun _ => 0 := by
  funext i; unfold gFi; split <;> rfl
theorem pos_row {s k : Nat} (hs : s < 11) (hk : k < 12) : pos (12 * s + k) = sP s + 1 + oP k := by
  unfold pos
  rw [if_pos (by omega), show (12 * s + k) / 12 = s by omega, show (12 * s + k) % 12 = k by omega]
theorem pos_arr {s k : Nat} (hs : s < 11) (hk : k < 12) : pos (139 + (12 * s + k)) = sP s + 2 + oP k := by
  unfold pos
  rw [if_neg (by omega), if_neg (by omega), if_neg (by omega), if_neg (by omega), if_pos (by omega), show (139 + (12 * s + k) - 139) / 12 = s by omega, show (139 + (12 * s + k) - 139) % 12 = k by omega]
theorem pos_tab {s e : Nat} (hs : s < 11) (he : e < 2) : pos (278 + (2 * s + e)) = sP s + 1 + (if e = 0 then 10 else 19) := by
  unfold pos
  rw [if_neg (by omega), if_neg (by omega), if_neg (by omega), if_neg (by omega), if_neg (by omega), if_neg (by omega), if_neg (by omega), if_neg (by omega), if_pos (by omega), show (278 + (2 * s + e) - 278) / 2 = s by omega, show (278 + (2 * s + e) - 278) % 2 = e by omega]
theorem pos_st {s : Nat} (hs : s < 11) : pos (300 + s) = sP s := by
  unfold pos
  rw [if_neg (by omega), if_neg (by omega), if_neg (by omega), if_neg (by omega), if_neg (by omega), if_neg (by omega), if_neg (by omega), if_neg (by omega), if_neg (by omega), if_pos (by omega), show 300 + s - 300 = s by omega]
theorem jTb_0 {s : Nat} : jTb (2 * s) = 12 * s + 5 := by unfold jTb; rw [if_pos (by omega)]; omega
theorem jTb_1 {s : Nat} : jTb (2 * s + 1) = 12 * s + 9 := by unfold jTb; rw [if_neg (by omega)]; omega
theorem gR0_z : ∀ r k, jLn r ≤ k → gR0 r k = 0 := by
  intro r k h
  unfold gR0
  by_cases hr : r < 132
  · rw [if_pos hr]
    have hl : r % 12 < 4 → 16 ≤ k := fun h4 => by
      unfold jLn at h
      rw [if_pos hr] at h
      rcases (show r % 12 = 0 ∨ r % 12 = 1 ∨ r % 12 = 2 ∨ r % 12 = 3 by omega) with e | e | e | e <;> rw [e] at h <;> exact h
    by_cases h0 : r % 12 = 0
    · rw [if_pos h0]
      have := hl (by omega)
      show (if k = 0 then 0 else gFi 16 (-1) k) = 0
      rw [if_neg (by omega)]; unfold gFi; rw [if_neg (by omega)]
    rw [if_neg h0]
    by_cases h1 : r % 12 = 1
    · rw [if_pos h1]
      have := hl (by omega)
      unfold gFi; rw [if_neg (by omega)]
    rw [if_neg h1]
    by_cases h2 : r % 12 = 2
    · rw [if_pos h2]
      have := hl (by omega)
      unfold gFi; rw [if_neg (by omega)]
    rw [if_neg h2]
    by_cases h3 : r % 12 = 3
    · rw [if_pos h3]
      have := hl (by omega)
      show (if k = 0 then 1 else gFi 16 0 k) = 0
      rw [if_neg (by omega)]; unfold gFi; rw [if_neg (by omega)]
    rw [if_neg h3]
  · rw [if_neg hr]
theorem gR0_st {s k : Nat} (hs : s < 11) (hk : k < 12) : gR0 (12 * s + k) = if k = 0 then upd (gFi 16 (-1)) 0 0 else if k = 1 then gFi 16 (-1) else if k = 2 then gFi 16 (-1) else if k = 3 then upd (gFi 16 0) 0 1 else fun _ => 0 := by
  unfold gR0
  rw [if_pos (by omega), show (12 * s + k) % 12 = k by omega]
theorem made_cell (hm : gMade A E) : ∀ i, i < 317 → E (pos i) = jCell (fun i => A (pos i)) gR0 gV0 i := by
  obtain ⟨m0, m1, ⟨m2, m3, m4⟩, ⟨m5, m6, m7⟩, ⟨m8, m9⟩, ⟨m10, m11, m12⟩, m13, ⟨m14, m15⟩⟩ := hm
  intro i hi
  by_cases h1 : i < 139
  · rw [jCell_row h1]
    try dsimp only
    by_cases h2 : i < 132
    · obtain ⟨s, k, hs, hk, rfl⟩ : ∃ s k, s < 11 ∧ k < 12 ∧ i = 12 * s + k := ⟨i / 12, i % 12, by omega, Nat.mod_lt _ (by omega), by omega⟩
      rw [pos_row hs hk, pos_arr hs hk]
      obtain ⟨-, b⟩ := m1 s hs
      rcases (show k = 0 ∨ k = 1 ∨ k = 2 ∨ k = 3 ∨ k = 4 ∨ k = 5 ∨ k = 6 ∨ k = 7 ∨ k = 8 ∨ k = 9 ∨ k = 10 ∨ k = 11 by omega) with rfl | rfl | rfl | rfl | rfl | rfl | rfl | rfl | rfl | rfl | rfl | rfl
      · exact b 0 (by omega)
      · exact (b 2 (by omega)).trans (by rw [show sP s + 2 + oP 1 = sP s + 1 + 3 from by show sP s + 2 + 2 = _; omega]; rfl)
      · exact (b 4 (by omega)).trans (by rw [show sP s + 2 + oP 2 = sP s + 1 + 5 from by show sP s + 2 + 4 = _; omega]; rfl)
      · exact (b 6 (by omega)).trans (by rw [show sP s + 2 + oP 3 = sP s + 1 + 7 from by show sP s + 2 + 6 = _; omega]; rfl)
      · exact (b 8 (by omega)).trans (by rw [show sP s + 2 + oP 4 = sP s + 1 + 9 from by show sP s + 2 + 8 = _; omega]; rfl)
      · exact (b 11 (by omega)).trans (by rw [show sP s + 2 + oP 5 = sP s + 1 + 12 from by show sP s + 2 + 11 = _; omega]; rfl)
      · exact (b 13 (by omega)).trans (by rw [show sP s + 2 + oP 6 = sP s + 1 + 14 from by show sP s + 2 + 13 = _; omega]; rfl)
      · exact (b 15 (by omega)).trans (by rw [show sP s + 2 + oP 7 = sP s + 1 + 16 from by show sP s + 2 + 15 = _; omega]; rfl)
      · exact (b 17 (by omega)).trans (by rw [show sP s + 2 + oP 8 = sP s + 1 + 18 from by show sP s + 2 + 17 = _; omega]; rfl)
      · exact (b 20 (by omega)).trans (by rw [show sP s + 2 + oP 9 = sP s + 1 + 21 from by show sP s + 2 + 20 = _; omega]; rfl)
      · exact (b 22 (by omega)).trans (by rw [show sP s + 2 + oP 10 = sP s + 1 + 23 from by show sP s + 2 + 22 = _; omega]; rfl)
      · exact (b 24 (by omega)).trans (by rw [show sP s + 2 + oP 11 = sP s + 1 + 25 from by show sP s + 2 + 24 = _; omega]; rfl)
    · rcases (show i = 132 ∨ i = 133 ∨ i = 134 ∨ i = 135 ∨ i = 136 ∨ i = 137 ∨ i = 138 by omega) with rfl | rfl | rfl | rfl | rfl | rfl | rfl
      · exact m3
      · exact m6
      · exact (m13 0 (by omega)).1
      · exact (m13 1 (by omega)).1
      · exact (m13 2 (by omega)).1
      · exact (m13 3 (by omega)).1
      · exact (m13 4 (by omega)).1
  by_cases h2 : i < 278
  · obtain ⟨r, rfl⟩ : ∃ r, i = 139 + r := ⟨i - 139, by omega⟩
    rw [jCell_arr (by omega)]
    by_cases h3 : r < 132
    · obtain ⟨s, k, hs, hk, rfl⟩ : ∃ s k, s < 11 ∧ k < 12 ∧ r = 12 * s + k := ⟨r / 12, r % 12, by omega, Nat.mod_lt _ (by omega), by omega⟩
      rw [pos_arr hs hk, gR0_st hs hk, jLn_st hs hk]
      obtain ⟨-, b⟩ := m1 s hs
      have bb : ∀ j, j < 26 → ∀ p, p = sP s + 1 + j → E p = stE A (sP s + 1) j := fun j hj p hp => by rw [hp]; exact b j hj
      rcases (show k = 0 ∨ k = 1 ∨ k = 2 ∨ k = 3 ∨ k = 4 ∨ k = 5 ∨ k = 6 ∨ k = 7 ∨ k = 8 ∨ k = 9 ∨ k = 10 ∨ k = 11 by omega) with rfl | rfl | rfl | rfl | rfl | rfl | rfl | rfl | rfl | rfl | rfl | rfl
      · exact bb 1 (by omega) _ (by show sP s + 2 + 0 = _; omega)
      · exact bb 3 (by omega) _ (by show sP s + 2 + 2 = _; omega)
      · exact bb 5 (by omega) _ (by show sP s + 2 + 4 = _; omega)
      · exact bb 7 (by omega) _ (by show sP s + 2 + 6 = _; omega)
      · refine (bb 9 (by omega) _ (by show sP s + 2 + 8 = _; omega)).trans ?_
        show (.inl (0, 16, .inl (gFi 16 0)) : va_E) = _
        rw [gFi_0]; rfl
      · refine (bb 12 (by omega) _ (by show sP s + 2 + 11 = _; omega)).trans ?_
        show (.inl (0, 16, .inl (gFi 16 0)) : va_E) = _
        rw [gFi_0]; rfl
      · refine (bb 14 (by omega) _ (by show sP s + 2 + 13 = _; omega)).trans ?_
        show (.inl (0, 64, .inl (gFi 64 0)) : va_E) = _
        rw [gFi_0]; rfl
      · refine (bb 16 (by omega) _ (by show sP s + 2 + 15 = _; omega)).trans ?_
        show (.inl (0, 4, .inl (gFi 4 0)) : va_E) = _
        rw [gFi_0]; rfl
      · refine (bb 18 (by omega) _ (by show sP s + 2 + 17 = _; omega)).trans ?_
        show (.inl (0, 4, .inl (gFi 4 0)) : va_E) = _
        rw [gFi_0]; rfl
      · refine (bb 21 (by omega) _ (by show sP s + 2 + 20 = _; omega)).trans ?_
        show (.inl (0, 4, .inl (gFi 4 0)) : va_E) = _
        rw [gFi_0]; rfl
      · refine (bb 23 (by omega) _ (by show sP s + 2 + 22 = _; omega)).trans ?_
        show (.inl (0, 16, .inl (gFi 16 0)) : va_E) = _
        rw [gFi_0]; rfl
      · refine (bb 25 (by omega) _ (by show sP s + 2 + 24 = _; omega)).trans ?_
        show (.inl (0, 4, .inl (gFi 4 0)) : va_E) = _
        rw [gFi_0]; rfl
    · rcases (show r = 132 ∨ r = 133 ∨ r = 134 ∨ r = 135 ∨ r = 136 ∨ r = 137 ∨ r = 138 by omega) with rfl | rfl | rfl | rfl | rfl | rfl | rfl
      · refine m4.trans ?_; rw [gFi_0]; rfl
      · refine m7.trans ?_; rw [gFi_0]; rfl
      · refine (m13 0 (by omega)).2.trans ?_; rw [gFi_0]; rfl
      · refine (m13 1 (by omega)).2.trans ?_; rw [gFi_0]; rfl
      · refine (m13 2 (by omega)).2.trans ?_; rw [gFi_0]; rfl
      · refine (m13 3 (by omega)).2.trans ?_; rw [gFi_0]; rfl
      · refine (m13 4 (by omega)).2.trans ?_; rw [gFi_0]; rfl
  by_cases h3 : i < 300
  · obtain ⟨s, e, hs, he, rfl⟩ : ∃ s e, s < 11 ∧ e < 2 ∧ i = 278 + (2 * s + e) := ⟨(i - 278) / 2, (i - 278) % 2, by omega, Nat.mod_lt _ (by omega), by omega⟩
    rw [jCell_tab (by omega), pos_tab hs he]
    try dsimp only
    obtain ⟨-, b⟩ := m1 s hs
    rcases (show e = 0 ∨ e = 1 by omega) with rfl | rfl
    · rw [show 2 * s + 0 = 2 * s from rfl, jTb_0, if_pos rfl, show 12 * s + 5 + 1 = 12 * s + 6 by omega, show 12 * s + 5 + 2 = 12 * s + 7 by omega, pos_row hs (by omega), pos_row hs (by omega), pos_row hs (by omega)]
      exact b 10 (by omega)
    · rw [jTb_1, if_neg (by omega), show 12 * s + 9 + 1 = 12 * s + 10 by omega, show 12 * s + 9 + 2 = 12 * s + 11 by omega, pos_row hs (by omega), pos_row hs (by omega), pos_row hs (by omega)]
      exact b 19 (by omega)
  by_cases h4 : i < 311
  · obtain ⟨s, rfl⟩ : ∃ s, i = 300 + s := ⟨i - 300, by omega⟩
    have hs : s < 11 := by omega
    rw [jCell_st hs, pos_st hs]
    try dsimp only
    obtain ⟨a, -⟩ := m1 s hs
    rw [show 12 * s = 12 * s + 0 by omega, pos_row hs (by omega), pos_row hs (show 0 + 1 < 12 by omega), pos_row hs (show 0 + 2 < 12 by omega), pos_row hs (show 0 + 3 < 12 by omega), pos_row hs (show 0 + 4 < 12 by omega), pos_row hs (show 0 + 8 < 12 by omega), show 278 + 2 * s = 278 + (2 * s + 0) by omega, pos_tab hs (by omega), show 279 + 2 * s = 278 + (2 * s + 1) by omega, pos_tab hs (by omega)]
    rw [a]
    unfold stC gV0
    rw [if_pos (show 4 * s < 44 by omega), if_pos (show 4 * s + 1 < 44 by omega), if_pos (show 4 * s + 2 < 44 by omega), if_pos (show 4 * s + 3 < 44 by omega), if_neg (show ¬ 4 * s % 4 = 1 by omega), if_pos (show (4 * s + 1) % 4 = 1 by omega), if_neg (show ¬ (4 * s + 2) % 4 = 1 by omega), if_neg (show ¬ (4 * s + 3) % 4 = 1 by omega)]
    rfl
  rcases (show i = 311 ∨ i = 312 ∨ i = 313 ∨ i = 314 ∨ i = 315 ∨ i = 316 by omega) with rfl | rfl | rfl | rfl | rfl | rfl
  · exact m2
  · exact m5
  · exact m8
  · refine m9.trans ?_
    have ef : (fun j => if j < 8 then some (A (36 + 27 * j)) else none) = fun j => if j < 8 then some (A (pos (303 + j))) else none := by
      funext j
      by_cases hj : j < 8
      · rw [if_pos hj, if_pos hj, show 303 + j = 300 + (3 + j) by omega, pos_st (by omega)]
        unfold sP
        rw [if_neg (by omega), if_neg (by omega), if_neg (by omega), show 3 + j - 3 = j by omega]
      · rw [if_neg hj, if_neg hj]
    rw [ef]; rfl
  · exact m10
  · exact m0
theorem made_rep (h : jW 321 A E w) (hm : gMade A E) : jRq (fun i => A (pos i)) gR0 gV0 (fun _ => []) w := by
  obtain ⟨-, -, -, -, -, ⟨-, m11, m12⟩, -, ⟨m14, m15⟩⟩ := id hm
  have c := made_cell hm
  refine ⟨gR0, fun _ _ => rfl, ⟨fun i j hi hj e => pos_inj i hi j hj (h.1 _ _ (pos_lt i hi) (pos_lt j hj) e), gR0_z⟩, fun i hi => ?_, A 308, A 320, fun e => ?_, ⟨16, fun _ => 0, 0, ?_, ?_, Nat.zero_le _, by omega, fun i hi => absurd hi (Nat.not_lt_zero _), fun _ => rfl, fun i hi e => ?_⟩, ⟨16, fun _ => 0, 0, ?_, ?_, Nat.zero_le _, by omega, fun i hi => absurd hi (Nat.not_lt_zero _), fun _ => rfl, fun i hi e => ?_⟩, fun e => absurd rfl e⟩
  · rw [h.2 (pos i) (pos_lt i (by omega)), c i hi]
  · have := h.1 308 320 (by omega) (by omega) e
    omega
  · have := h.2 307 (by omega)
    rw [m11] at this; exact this
  · rw [h.2 308 (by omega), m12]
  · exact (pos_ne i hi).1 (h.1 _ 308 (pos_lt i hi) (by omega) e)
  · have := h.2 319 (by omega)
    rw [m14] at this; exact this
  · rw [h.2 320 (by omega), m15]
  · exact (pos_ne i hi).2 (h.1 _ 320 (pos_lt i hi) (by omega) e)
end JRep0
