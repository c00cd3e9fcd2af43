/-! ===== other scalars, copies of states, the history, append; laid by wip/p57/pure/mk31.py ===== -/
section JHist
variable {κ : Nat → Nat} {L : Nat → Nat} {R : Nat → Nat → Int32} {V : Nat → Int32} {T : Nat → List Int32} {w : va_W}
theorem jRq.hi (h : jRq L R V T w) : jlk w (L 313) = some (.inr (5, [.ref (L 314), .int (V 44), .int (V 45)])) := by
  obtain ⟨R1, e, h1⟩ := h; exact h1.hi
theorem jRq.ring (h : jRq L R V T w) : jlk w (L 314) = some (.inl (2, 8, .inr (.inr (.inr (.inr (fun j => if j < 8 then some (L (303 + j)) else none)))))) := by
  obtain ⟨R1, e, h1⟩ := h; exact h1.ring
theorem jRq.sc (h : jRq L R V T w) : jlk w (L 315) = some (.inr (7, [.ref (L 317), .ref (L 134), .ref (L 135), .ref (L 136), .ref (L 137), .ref (L 138), .int (V 49), .int (V 50), .int (V 51)])) := by
  obtain ⟨R1, e, h1⟩ := h; exact h1.sc
theorem jRq.lg (h : jRq L R V T w) : jlk w (L 316) = some (.inr (11, [.ref (L 300), .ref (L 311), .ref (L 312), .ref (L 313), .ref (L 301), .int (V 46), .ref (L 302), .ref (L 315), .ref (L 318), .int (V 47), .int (V 48)])) := by
  obtain ⟨R1, e, h1⟩ := h; exact h1.lg
theorem s_pv44 (h : jRq L R V T w) {v : Int32} {P : va_W → Prop} (k : ∀ w', jRq L R (jSetV V 44 v) T w' → P w') : jpV w (L 313) 5 1 (.int v) P := by
  refine (jpV_eq h.hi (Nat.le_of_ble_eq_true rfl)).mpr ?_
  obtain ⟨R1, e, h1⟩ := h
  refine k _ ⟨R1, e, h1.putX (i := 313) (n := 44) (by omega) (by omega) v ?_ ?_⟩
  · simp [jCell, jSetV]
  · intro j g1 g2 g3
    rcases (show j = 311 ∨ j = 312 ∨ j = 313 ∨ j = 314 ∨ j = 315 ∨ j = 316 by omega) with rfl | rfl | rfl | rfl | rfl | rfl <;> first | rfl | (exact absurd rfl g3) | simp [jCell, jSetV]
theorem s_pv45 (h : jRq L R V T w) {v : Int32} {P : va_W → Prop} (k : ∀ w', jRq L R (jSetV V 45 v) T w' → P w') : jpV w (L 313) 5 2 (.int v) P := by
  refine (jpV_eq h.hi (Nat.le_of_ble_eq_true rfl)).mpr ?_
  obtain ⟨R1, e, h1⟩ := h
  refine k _ ⟨R1, e, h1.putX (i := 313) (n := 45) (by omega) (by omega) v ?_ ?_⟩
  · simp [jCell, jSetV]
  · intro j g1 g2 g3
    rcases (show j = 311 ∨ j = 312 ∨ j = 313 ∨ j = 314 ∨ j = 315 ∨ j = 316 by omega) with rfl | rfl | rfl | rfl | rfl | rfl <;> first | rfl | (exact absurd rfl g3) | simp [jCell, jSetV]
theorem s_pv46 (h : jRq L R V T w) {v : Int32} {P : va_W → Prop} (k : ∀ w', jRq L R (jSetV V 46 v) T w' → P w') : jpV w (L 316) 11 5 (.int v) P := by
  refine (jpV_eq h.lg (Nat.le_of_ble_eq_true rfl)).mpr ?_
  obtain ⟨R1, e, h1⟩ := h
  refine k _ ⟨R1, e, h1.putX (i := 316) (n := 46) (by omega) (by omega) v ?_ ?_⟩
  · simp [jCell, jSetV]
  · intro j g1 g2 g3
    rcases (show j = 311 ∨ j = 312 ∨ j = 313 ∨ j = 314 ∨ j = 315 ∨ j = 316 by omega) with rfl | rfl | rfl | rfl | rfl | rfl <;> first | rfl | (exact absurd rfl g3) | simp [jCell, jSetV]
theorem s_pv47 (h : jRq L R V T w) {v : Int32} {P : va_W → Prop} (k : ∀ w', jRq L R (jSetV V 47 v) T w' → P w') : jpV w (L 316) 11 9 (.int v) P := by
  refine (jpV_eq h.lg (Nat.le_of_ble_eq_true rfl)).mpr ?_
  obtain ⟨R1, e, h1⟩ := h
  refine k _ ⟨R1, e, h1.putX (i := 316) (n := 47) (by omega) (by omega) v ?_ ?_⟩
  · simp [jCell, jSetV]
  · intro j g1 g2 g3
    rcases (show j = 311 ∨ j = 312 ∨ j = 313 ∨ j = 314 ∨ j = 315 ∨ j = 316 by omega) with rfl | rfl | rfl | rfl | rfl | rfl <;> first | rfl | (exact absurd rfl g3) | simp [jCell, jSetV]
theorem s_pv48 (h : jRq L R V T w) {v : Int32} {P : va_W → Prop} (k : ∀ w', jRq L R (jSetV V 48 v) T w' → P w') : jpV w (L 316) 11 10 (.int v) P := by
  refine (jpV_eq h.lg (Nat.le_of_ble_eq_true rfl)).mpr ?_
  obtain ⟨R1, e, h1⟩ := h
  refine k _ ⟨R1, e, h1.putX (i := 316) (n := 48) (by omega) (by omega) v ?_ ?_⟩
  · simp [jCell, jSetV]
  · intro j g1 g2 g3
    rcases (show j = 311 ∨ j = 312 ∨ j = 313 ∨ j = 314 ∨ j = 315 ∨ j = 316 by omega) with rfl | rfl | rfl | rfl | rfl | rfl <;> first | rfl | (exact absurd rfl g3) | simp [jCell, jSetV]
theorem s_pv49 (h : jRq L R V T w) {v : Int32} {P : va_W → Prop} (k : ∀ w', jRq L R (jSetV V 49 v) T w' → P w') : jpV w (L 315) 7 6 (.int v) P := by
  refine (jpV_eq h.sc (Nat.le_of_ble_eq_true rfl)).mpr ?_
  obtain ⟨R1, e, h1⟩ := h
  refine k _ ⟨R1, e, h1.putX (i := 315) (n := 49) (by omega) (by omega) v ?_ ?_⟩
  · simp [jCell, jSetV]
  · intro j g1 g2 g3
    rcases (show j = 311 ∨ j = 312 ∨ j = 313 ∨ j = 314 ∨ j = 315 ∨ j = 316 by omega) with rfl | rfl | rfl | rfl | rfl | rfl <;> first | rfl | (exact absurd rfl g3) | simp [jCell, jSetV]
theorem s_pv50 (h : jRq L R V T w) {v : Int32} {P : va_W → Prop} (k : ∀ w', jRq L R (jSetV V 50 v) T w' → P w') : jpV w (L 315) 7 7 (.int v) P := by
  refine (jpV_eq h.sc (Nat.le_of_ble_eq_true rfl)).mpr ?_
  obtain ⟨R1, e, h1⟩ := h
  refine k _ ⟨R1, e, h1.putX (i := 315) (n := 50) (by omega) (by omega) v ?_ ?_⟩
  · simp [jCell, jSetV]
  · intro j g1 g2 g3
    rcases (show j = 311 ∨ j = 312 ∨ j = 313 ∨ j = 314 ∨ j = 315 ∨ j = 316 by omega) with rfl | rfl | rfl | rfl | rfl | rfl <;> first | rfl | (exact absurd rfl g3) | simp [jCell, jSetV]
theorem s_pv51 (h : jRq L R V T w) {v : Int32} {P : va_W → Prop} (k : ∀ w', jRq L R (jSetV V 51 v) T w' → P w') : jpV w (L 315) 7 8 (.int v) P := by
  refine (jpV_eq h.sc (Nat.le_of_ble_eq_true rfl)).mpr ?_
  obtain ⟨R1, e, h1⟩ := h
  refine k _ ⟨R1, e, h1.putX (i := 315) (n := 51) (by omega) (by omega) v ?_ ?_⟩
  · simp [jCell, jSetV]
  · intro j g1 g2 g3
    rcases (show j = 311 ∨ j = 312 ∨ j = 313 ∨ j = 314 ∨ j = 315 ∨ j = 316 by omega) with rfl | rfl | rfl | rfl | rfl | rfl <;> first | rfl | (exact absurd rfl g3) | simp [jCell, jSetV]
theorem s_copyQ (h : jRq L R V T w) {s u : Nat} (hs : s < 11) (hu : u < 11) (hsu : s ≠ u) {P : va_W → Prop} (k : ∀ w', jRq L (jCpR R s u) (jCpV V s u) T w' → P w') : w_X5_copyFrom κ w (L (300 + s)) (L (300 + u)) P := by
  obtain ⟨R1, e, h1⟩ := h
  refine s_copyS h1 hs hu hsu (fun w' h' => k w' ⟨_, fun r hr => ?_, h'⟩)
  unfold jCpR
  by_cases hc : 12 * s ≤ r ∧ r < 12 * s + 12 ∧ r % 12 ≠ 7 ∧ r % 12 ≠ 11
  · rw [if_pos hc, if_pos hc]
    refine e _ ?_
    unfold jScr
    simp
    omega
  · rw [if_neg hc, if_neg hc]
    exact e r hr
theorem jCpV_hi {s u i : Nat} (hs : s < 11) (hi : 44 ≤ i) : jCpV V s u i = V i := by
  unfold jCpV; rw [if_neg (by omega)]
def jKpV (V : Nat → Int32) (j : Nat) : Nat → Int32 := jSetV (jSetV (jCpV V (3 + j) 0) 44 (jrem (V 44 + 1) 8)) 45 (jmin (V 45 + 1) 8)
theorem s_keep (h : jRq L R V T w) {j : Nat} (hj : j < 8) (hv : V 44 = nI j) {P : va_W → Prop} (k : ∀ w', jRq L (jCpR R (3 + j) 0) (jKpV V j) T w' → P w') : w_X1_keep κ w (L 313) (L 300) P := by
  unfold w_X1_keep w_X1_keep_b0
  have hin : vp_in (nI j) 8 := nI_in hj (by decide)
  have hcl : (nI j).toNatClampNeg = j := nI_clamp (by omega)
  refine (jgI_eq h.hi rfl).mpr ?_
  rw [hv, if_neg (nI_pos (by omega))]
  refine (jgI_eq h.hi rfl).mpr ((jgR_eq h.hi rfl).mpr ((jAl_eq h.ring (by decide)).mpr ?_))
  rw [hv, if_neg (show ¬ Int32.ofNat 8 ≤ nI j from jN_le (N := 8) (by decide) hj)]
  refine (jgR_eq h.hi rfl).mpr ((jgI_eq h.hi rfl).mpr ((jLq_eq (r := L (303 + j)) h.ring (by rw [hv]; exact hin) (by rw [hv, hcl]; simp [hj])).mpr ?_))
  refine (jgR_eq h.hi rfl).mpr ((jgI_eq h.hi rfl).mpr ((jLq_eq (r := L (303 + j)) h.ring (by rw [hv]; exact hin) (by rw [hv, hcl]; simp [hj])).mpr ?_))
  rw [show 303 + j = 300 + (3 + j) by omega]
  refine ⟨⟨_, h.st (s := 3 + j) (by omega)⟩, s_copyQ h (s := 3 + j) (u := 0) (by omega) (by omega) (by omega) (fun w1 h1 => ?_)⟩
  unfold w_X1_keep_b44
  refine (jgI_eq h1.hi rfl).mpr (s_pv44 h1 (fun w2 h2 => ?_))
  refine (jgI_eq h2.hi rfl).mpr (s_pv45 h2 (fun w3 h3 => ?_))
  rw [jSetV_ne (show 45 ≠ 44 by decide), jCpV_hi (by omega) (by omega), jCpV_hi (by omega) (by omega)] at h3
  exact k w3 h3
def jTbV (V : Nat → Int32) (j : Nat) : Nat → Int32 := jSetV (jCpV (jSetV V 44 (nI j)) 0 (3 + j)) 45 (V 45 - 1)
theorem s_back (h : jRq L R V T w) {j : Nat} (hj : j < 8) (hv : jrem ((V 44 + 8) - 1) 8 = nI j) {P : va_W → Prop} (k : ∀ w', jRq L (jCpR R 0 (3 + j)) (jTbV V j) T w' → P w') : w_X1_takeBack κ w (L 313) (L 300) P := by
  unfold w_X1_takeBack w_X1_takeBack_b0
  have hin : vp_in (nI j) 8 := nI_in hj (by decide)
  have hcl : (nI j).toNatClampNeg = j := nI_clamp (by omega)
  refine (jgI_eq h.hi rfl).mpr ?_
  rw [hv]
  refine s_pv44 h (fun w1 h1 => ?_)
  have h44 : jSetV V 44 (nI j) 44 = nI j := by simp [jSetV]
  refine (jgI_eq h1.hi rfl).mpr ?_
  rw [h44, if_neg (nI_pos (by omega))]
  refine (jgI_eq h1.hi rfl).mpr ((jgR_eq h1.hi rfl).mpr ((jAl_eq h1.ring (by decide)).mpr ?_))
  rw [h44, if_neg (show ¬ Int32.ofNat 8 ≤ nI j from jN_le (N := 8) (by decide) hj)]
  refine (jgR_eq h1.hi rfl).mpr ((jgI_eq h1.hi rfl).mpr ((jLq_eq (r := L (303 + j)) h1.ring (by rw [h44]; exact hin) (by rw [h44, hcl]; simp [hj])).mpr ?_))
  refine (jgR_eq h1.hi rfl).mpr ((jgI_eq h1.hi rfl).mpr ((jLq_eq (r := L (303 + j)) h1.ring (by rw [h44]; exact hin) (by rw [h44, hcl]; simp [hj])).mpr ?_))
  rw [show 303 + j = 300 + (3 + j) by omega]
  refine ⟨⟨_, h1.st (s := 0) (by omega)⟩, s_copyQ h1 (s := 0) (u := 3 + j) (by omega) (by omega) (by omega) (fun w2 h2 => ?_)⟩
  unfold w_X1_takeBack_b60
  refine (jgI_eq h2.hi rfl).mpr (s_pv45 h2 (fun w3 h3 => ?_))
  rw [jCpV_hi (by omega) (by omega), jSetV_ne (show 45 ≠ 44 by decide)] at h3
  exact k w3 h3
theorem s_forget (h : jRq L R V T w) {P : va_W → Prop} (k : ∀ w', jRq L R (jSetV V 45 0) T w' → P w') : w_X1_forget κ w (L 313) P := by
  unfold w_X1_forget w_X1_forget_b0
  exact s_pv45 h k
/-- append's rows, before the seal; m flakes are held -/
def jAp0 (R : Nat → Nat → Int32) (V : Nat → Int32) (x : Int32) (m : Nat) : Nat → Nat → Int32 :=
  jTake (jPut (jPut (jPut R 0 0 (jFreeSlot R 0) (V 1)) 0 1 (jFreeSlot R 0) (jGt R 0 8 x)) 0 2 (jFreeSlot R 0) x) (jFreeSlot R 0) x m
def jAp (R : Nat → Nat → Int32) (V : Nat → Int32) (x : Int32) (m : Nat) : Nat → Nat → Int32 :=
  jPut (jPut (jSeal (jAp0 R V x m) (jFreeSlot R 0)) 0 9 x 0) 0 8 x (jFreeSlot R 0)
theorem jSz1_put {j : Nat} {x v y : Int32} (h : j ≠ 9) : jSz (jPut R 0 j x v) 1 y = jSz R 1 y := by
  show jRd (jLn 9) (jPut R 0 j x v 9) y = jRd (jLn 9) (R 9) y
  unfold jPut
  rw [jSetR_ne (by omega)]
theorem s_append (h : jRq L R V T w) {x : Int32} {m : Nat} (hm : m ≤ 4) (hz : jSz R 1 x = nI m) (hs : jSz (jAp0 R V x m) 0 (jFreeSlot R 0) ≤ 4) {P : Int32 → va_W → Prop} (k : ∀ w', jRq L (jAp R V x m) (jSetV (jSetV V 1 (V 1 + 1)) 2 (V 2 + 1)) T w' → P (V 1) w') : w_X7_append κ w (L 312) x P := by
  unfold w_X7_append w_X7_append_b0
  refine (jgR_eq h.wk rfl).mpr ⟨⟨_, h.st (s := 0) (by omega)⟩, s_freeSlotQ h ?_⟩
  refine (jgR_eq h.wk rfl).mpr ((jgI_eq (h.st (s := 0) (by omega)) rfl).mpr ?_)
  refine (jgR_eq h.wk rfl).mpr ((jgR_eq (h.st (s := 0) (by omega)) rfl).mpr ⟨⟨_, h.row (r := 0) (by omega)⟩, s_putQ h 0 (by omega) (by omega) (by omega) (fun w1 h1 => ?_)⟩)
  refine (jgR_eq h1.wk rfl).mpr ((jgR_eq (h1.st (s := 0) (by omega)) rfl).mpr ?_)
  refine (jgR_eq h1.wk rfl).mpr ((jgR_eq (h1.st (s := 0) (by omega)) rfl).mpr ⟨⟨_, h1.row (r := 8) (by omega)⟩, s_gq h1 8 (by omega) (by omega) (by omega) ?_⟩)
  rw [jGt_put (by omega)]
  refine ⟨⟨_, h1.row (r := 1) (by omega)⟩, s_putQ h1 1 (by omega) (by omega) (by omega) (fun w2 h2 => ?_)⟩
  refine (jgR_eq h2.wk rfl).mpr ((jgR_eq (h2.st (s := 0) (by omega)) rfl).mpr ⟨⟨_, h2.row (r := 2) (by omega)⟩, s_putQ h2 2 (by omega) (by omega) (by omega) (fun w3 h3 => ?_)⟩)
  refine (jgR_eq h3.wk rfl).mpr ((jgR_eq (h3.st (s := 0) (by omega)) rfl).mpr ?_)
  refine (jgR_eq h3.wk rfl).mpr ((jgR_eq (h3.st (s := 0) (by omega)) rfl).mpr ⟨⟨_, h3.tab (t := 0) (by omega)⟩, s_take h3 hm (by rw [jSz1_put (by omega), jSz1_put (by omega), jSz1_put (by omega)]; exact hz) (fun w4 h4 => ?_)⟩)
  refine ⟨⟨_, h4.wk⟩, s_seal h4 hs (fun w5 h5 => ?_)⟩
  refine (jgR_eq h5.wk rfl).mpr ((jgR_eq (h5.st (s := 0) (by omega)) rfl).mpr ⟨⟨_, h5.tab (t := 1) (by omega)⟩, s_clearQ h5 (fun w6 h6 => ?_)⟩)
  refine (jgR_eq h6.wk rfl).mpr ((jgR_eq (h6.st (s := 0) (by omega)) rfl).mpr ⟨⟨_, h6.row (r := 8) (by omega)⟩, s_putQ h6 8 (by omega) (by omega) (by omega) (fun w7 h7 => ?_)⟩)
  refine (jgR_eq h7.wk rfl).mpr ((jgI_eq (h7.st (s := 0) (by omega)) rfl).mpr (s_putSQ h7 1 (by omega) (fun w8 h8 => ?_)))
  refine (jgR_eq h8.wk rfl).mpr ((jgI_eq (h8.st (s := 0) (by omega)) rfl).mpr (s_putSQ h8 2 (by omega) (fun w9 h9 => k w9 ?_)))
  exact h9
end JHist
