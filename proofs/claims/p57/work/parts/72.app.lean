/-! ===== what a written block shows ===== -/
section GApp
variable {R R' : Nat → Nat → Int32} {V : Nat → Int32} {B : Nat}
/-- two books that agree on a part of the tree that is closed under parents -/
theorem jLow_part (h : jT1 R) (h' : jT1 R') {D : Nat → Prop} (hD : ∀ z, D z → gU R z = true ∧ gU R' z = true ∧ gP R' z = gP R z ∧ (z ≠ 0 → D (gP R z))) (e : ∀ z, D z → R' 3 z = R 3 z ∧ R' 2 z = R 2 z ∧ R' 4 z = R 4 z ∧ jRoot R' 0 (nI z) = jRoot R 0 (nI z)) : ∀ z, gU R z = true → D z → jLow R' (nI z) = jLow R (nI z) ∧ jHolds R' (nI z) = jHolds R (nI z) := by
  refine h.tree.ind (fun z hz ih hd => ?_)
  have z16 := gU_16 hz
  by_cases h0 : z = 0
  · subst h0; exact ⟨by rw [h.low0, h'.low0], by rw [jHolds_0, jHolds_0]⟩
  · obtain ⟨-, u', p', dp⟩ := hD z hd
    have dp := dp h0
    obtain ⟨pu, pu', -, -⟩ := hD _ dp
    have p16 := gU_16 pu
    obtain ⟨a3, a2, a4, ar⟩ := e z hd
    obtain ⟨b3, -, -, -⟩ := e _ dp
    have hh : jHolds R' (nI z) = jHolds R (nI z) := by
      rw [h.holds_s hz h0, h'.holds_s u' h0, p', ar]
      simp only [jGt_5 (R := R) (show 3 < 6 by omega) z16, jGt_5 (R := R') (show 3 < 6 by omega) z16, jGt_5 (R := R) (show 3 < 6 by omega) p16, jGt_5 (R := R') (show 3 < 6 by omega) p16, jGt_5 (R := R) (show 2 < 6 by omega) z16, jGt_5 (R := R') (show 2 < 6 by omega) z16, jGt_5 (R := R) (show 4 < 6 by omega) z16, jGt_5 (R := R') (show 4 < 6 by omega) z16, a3, a2, a4, b3]
    refine ⟨?_, hh⟩
    rw [h.low_s hz h0, h'.low_s u' h0, p', (ih h0 dp).1, hh]
theorem jRoot_rows {x : Nat} (hx : x < 16) (e5 : R' 5 x = R 5 x) (e6 : ∀ p, p < 4 → R' 6 (4 * x + p) = R 6 (4 * x + p)) : jRoot R' 0 (nI x) = jRoot R 0 (nI x) := by
  have es : jSz R' 0 (nI x) = jSz R 0 (nI x) := by rw [jSz0 hx, jSz0 hx, e5]
  have ef : ∀ p, p < 4 → jFl R' 0 (nI x) (nI p) = jFl R 0 (nI x) (nI p) := fun p hp => by rw [jFl0 hx hp, jFl0 hx hp, e6 p hp]
  have f0 := ef 0 (by omega)
  have f1 := ef 1 (by omega)
  have f2 := ef 2 (by omega)
  have f3 := ef 3 (by omega)
  unfold jRoot
  rw [es]
  rw [show (0 : Int32) = nI 0 from rfl, show (1 : Int32) = nI 1 from rfl, show (2 : Int32) = nI 2 from rfl, show (3 : Int32) = nI 3 from rfl, f0, f1, f2, f3]
/-- the rows after a block is written -/
theorem k_app (h : jTree R V B) (hB : B < 2 ^ 30) {f x q m : Nat} (hf : f < 16) (hf0 : f ≠ 0) (hfu : gU R f = false) (ef : jFreeSlot R 0 = nI f) (hx : x < 4) (eq : R 8 x = nI q) (hq : gU R q = true) (hm : m ≤ 4) (ez : R 9 x = nI m) :
    ∃ R' nx, R' = jAp R V (nI x) m ∧ V 1 = nI (nx + 1) ∧ nx ≤ B ∧ gU R' f = true ∧ gN R' f = nx + 1 ∧ gP R' f = q ∧ R' 3 f = jNh R (nI x) ∧ R' 2 f = nI x ∧ R' 5 f = nI m ∧ R' 8 x = nI f ∧ R' 9 x = nI 0 ∧ gC (fun i => decide (R' 2 i = nI x)) = gC (fun i => decide (R 2 i = nI x)) + 1 ∧ (∀ z, gU R z = true → gU R' z = true ∧ gN R' z = gN R z) ∧ (jLow R (nI q) = -1 → jLow R' (nI f) = -1) := by
  obtain ⟨k1, k2⟩ := k_append h hB hf hf0 hfu ef hx eq hq hm ez
  have hT := h
  obtain ⟨h1, h2, h3, ⟨nx, me, g1, g2, g3, g4, g5, g6⟩, -⟩ := h
  obtain ⟨t1, t2, t3, t4, t5⟩ := gAp0_t hT hB (x := x) (m := m) hf hf0 hfu hq g2 g1 g6
  obtain ⟨r0, r1, r2, r5, r6, rr⟩ := gAp0_r (R := R) (f := f) (x := x) (q := q) (m := m) (v := V 1)
  have hroot := gAp0_root (R := R) (f := f) (x := x) (q := q) (m := m) (v := V 1) hf hx hm ez
  have hq16 := gU_16 hq
  have hqf : q ≠ f := fun e => by rw [e, hfu] at hq; cases hq
  have hSh : gSh (gAp0 R f x q m (V 1)) f = jNh R (nI x) := by
    unfold gSh gSn jNh
    rw [t4, hroot, r2, rr 3 (by omega) (by omega) (by omega) (by omega) (by omega)]
    simp only [if_true]
    rw [jGt_8 hx, eq, jGt_5 (by omega) hq16]
  have hSn : gSn (gAp0 R f x q m (V 1)) f = jNon (R 3 q) (jRoot (gAp0 R f x q m (V 1)) 0 (nI f)) (nI x) := by
    unfold gSn
    rw [t4, r2, rr 3 (by omega) (by omega) (by omega) (by omega) (by omega)]
    simp only [if_true]
  have hNh : jNh R (nI x) = jHw (R 3 q) (jRoot (gAp0 R f x q m (V 1)) 0 (nI f)) (nI x) (jNon (R 3 q) (jRoot (gAp0 R f x q m (V 1)) 0 (nI f)) (nI x)) := by
    unfold jNh
    rw [hroot, jGt_8 hx, eq, jGt_5 (by omega) hq16]
  rw [hSh, hSn] at k1
  generalize hRR : jAp R V (nI x) m = R' at k1 k2
  have k2' := k2.1
  -- rows of the new book
  have z : ∀ r, r ≠ 4 → r ≠ 3 → r ≠ 9 → r ≠ 8 → R' r = gAp0 R f x q m (V 1) r := fun r a b c d => by rw [k1, gPut_ne d, gPut_ne c, gPut_ne b, gPut_ne a]
  have e3 : ∀ i, R' 3 i = if i = f then jNh R (nI x) else R 3 i := fun i => by
    rw [k1, gPut_ne (by omega), gPut_ne (by omega), gPut_s, gPut_ne (by omega), rr 3 (by omega) (by omega) (by omega) (by omega) (by omega)]
  have e4 : ∀ i, R' 4 i = if i = f then jNon (R 3 q) (jRoot (gAp0 R f x q m (V 1)) 0 (nI f)) (nI x) else R 4 i := fun i => by
    rw [k1, gPut_ne (by omega), gPut_ne (by omega), gPut_ne (by omega), gPut_s, rr 4 (by omega) (by omega) (by omega) (by omega) (by omega)]
  have e2 : ∀ i, R' 2 i = if i = f then nI x else R 2 i := fun i => by rw [z 2 (by omega) (by omega) (by omega) (by omega), r2]
  have e5 : ∀ i, R' 5 i = if i = f then nI m else R 5 i := fun i => by rw [z 5 (by omega) (by omega) (by omega) (by omega), r5]
  have e6 : ∀ i, R' 6 i = gAp0 R f x q m (V 1) 6 i := fun i => by rw [z 6 (by omega) (by omega) (by omega) (by omega)]
  have zu : gU R' = gU (gAp0 R f x q m (V 1)) := gU_c (z 0 (by omega) (by omega) (by omega) (by omega))
  have zn : gN R' = gN (gAp0 R f x q m (V 1)) := gN_c (z 0 (by omega) (by omega) (by omega) (by omega))
  have zp : gP R' = gP (gAp0 R f x q m (V 1)) := gP_c (z 1 (by omega) (by omega) (by omega) (by omega))
  have hfu2 : gU R' f = true := by rw [zu, t2, decide_eq_true rfl, Bool.or_true]
  have old : ∀ i, gU R i = true → i ≠ f := fun i hi e => by rw [e, hfu] at hi; cases hi
  have uold : ∀ i, gU R i = true → gU R' i = true := fun i hi => by rw [zu, t2, hi]; rfl
  have hrf : jRoot R' 0 (nI f) = jRoot (gAp0 R f x q m (V 1)) 0 (nI f) := jRoot_rows hf (by rw [e5, r5]) (fun p _ => e6 _)
  refine ⟨R', nx, rfl, g2, g1, hfu2, by rw [zn, t5], by rw [zp, t4], by rw [e3, if_pos rfl], by rw [e2, if_pos rfl], by rw [e5, if_pos rfl], ?_, ?_, ?_, fun z9 hz => ⟨uold z9 hz, ?_⟩, fun hl => ?_⟩
  · rw [k1, gPut_s, if_pos rfl]
  · rw [k1, gPut_ne (by omega), gPut_s, if_pos rfl]; rfl
  · have e9 : gC (fun i => decide (R' 2 i = nI x)) = gS (fun i => gI (decide (R 2 i = nI x)) + (if i = f then 1 else 0)) 16 := gS_congr 16 (fun i hi => by
      try dsimp only
      rw [e2]
      by_cases hif : i = f
      · rw [if_pos hif, if_pos hif, decide_eq_true rfl]
        have : R 2 i = -1 := by rw [hif]; exact (h1.2.2.2.1 f hf (gU_no hf hfu)).2
        rw [this, decide_eq_false (fun e => nI_m1 (a := x) (by omega) e.symm)]; rfl
      · rw [if_neg hif, if_neg hif]; rfl)
    rw [e9, gS_add, gS_one (f := fun i => if i = f then 1 else 0) 16 hf (fun i _ hi => by (try dsimp only); rw [if_neg hi])]
    try dsimp only
    rw [if_pos rfl]; rfl
  · rw [zn]; exact (t3 z9 (old z9 hz)).2
  · -- its branch is valid
    have pf : gP R' f = q := by rw [zp, t4]
    have hq' := uold q hq
    have part := jLow_part (R := R) (R' := R') h1 k2' (D := fun i => gU R i = true) (fun i hi => ⟨hi, uold i hi, by rw [zp]; exact (t3 i (old i hi)).1, fun h0 => (h1.p hi h0).2.2.1⟩) (fun i hi => by
      have hif := old i hi
      refine ⟨by rw [e3, if_neg hif], by rw [e2, if_neg hif], by rw [e4, if_neg hif], jRoot_rows (gU_16 hi) (by rw [e5, if_neg hif]) (fun p hp => ?_)⟩
      rw [e6, r6]
      simp only [if_neg (show ¬ (4 * f ≤ 4 * i + p ∧ 4 * i + p < 4 * f + m) from fun g => hif (by omega))])
    rw [k2'.low_s hfu2 hf0, pf, (part q hq hq).1, hl, if_pos rfl, k2'.holds_s hfu2 hf0, pf, if_pos]
    rw [decide_eq_true_eq, hrf]
    simp only [jGt_5 (R := R') (show 3 < 6 by omega) hf, jGt_5 (R := R') (show 3 < 6 by omega) hq16, jGt_5 (R := R') (show 2 < 6 by omega) hf, jGt_5 (R := R') (show 4 < 6 by omega) hf]
    rw [e3, if_pos rfl, e3, if_neg hqf, e2, if_pos rfl, e4, if_pos rfl]
    exact hNh
end GApp
