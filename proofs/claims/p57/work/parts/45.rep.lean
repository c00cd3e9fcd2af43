/-! ===== repairs needed, told along the branch ===== -/
section GRep
variable {R : Nat → Nat → Int32}
theorem jIter_r {α : Type} (st : α → Nat → α) : ∀ n i a, jIter st (n + 1) i a = st (jIter st n i a) (i + n) := by
  intro n
  induction n with
  | zero => intro i a; rfl
  | succ n ih =>
    intro i a
    rw [jIter, ih (i + 1)]
    rw [jIter, show i + 1 + n = i + (n + 1) by omega]
theorem jIter_c {α : Type} {f g : α → Nat → α} : ∀ n i a, (∀ k a, i ≤ k → k < i + n → f a k = g a k) → jIter f n i a = jIter g n i a := by
  intro n
  induction n with
  | zero => intro i a _; rfl
  | succ n ih =>
    intro i a h
    rw [jIter, jIter, h i a (by omega) (by omega)]
    exact ih _ _ (fun k a h1 h2 => h k a (by omega) (by omega))
/-- one block's turn of the repairs that are foretold -/
def jRpF (R : Nat → Nat → Int32) (y : Int32) (a : Int32 × Int32) : Int32 × Int32 :=
  if jGt R 0 3 y = jHw a.1 (jRoot R 0 y) (jGt R 0 2 y) (jGt R 0 4 y) then (jGt R 0 3 y, a.2)
  else (jHw a.1 (jRoot R 0 y) (jGt R 0 2 y) (jNon a.1 (jRoot R 0 y) (jGt R 0 2 y)), a.2 + 1)
def jRpA (R : Nat → Nat → Int32) (x : Int32) : Int32 × Int32 := jIter (jRpS R (jHN R x) x) (jHN R x) 1 (jGt R 0 3 0, 0)
theorem jRp_A {x : Int32} : jRp R x = (jRpA R x).2 := rfl
theorem jT1.hn (h : jT1 R) {x : Nat} (hx : gU R x = true) : jHN R (nI x) = gD (gP R) x := by
  have e := h.hgt hx
  rw [jHgt_N] at e
  exact (nI_eq (by have := jHN_le (R := R) (x := nI x); omega) (by have := h.tree.d_le hx; omega)).mp e
theorem jT1.rpA0 (h : jT1 R) : jRpA R (nI 0) = (jGt R 0 3 0, 0) := by
  unfold jRpA
  rw [h.hn h.u0, gD_0]; rfl
theorem jT1.rpAs (h : jT1 R) {x : Nat} (hx : gU R x = true) (h0 : x ≠ 0) : jRpA R (nI x) = jRpF R (nI x) (jRpA R (nI (gP R x))) := by
  obtain ⟨-, -, hp, -⟩ := h.p hx h0
  have hd := h.tree.d_s hx h0
  unfold jRpA
  rw [h.hn hx, h.hn hp, hd, jIter_r]
  have e : jIter (jRpS R (gD (gP R) (gP R x) + 1) (nI x)) (gD (gP R) (gP R x)) 1 (jGt R 0 3 0, 0) = jIter (jRpS R (gD (gP R) (gP R x)) (nI (gP R x))) (gD (gP R) (gP R x)) 1 (jGt R 0 3 0, 0) := by
    refine jIter_c _ _ _ (fun k a h1 h2 => ?_)
    unfold jRpS
    rw [show gD (gP R) (gP R x) + 1 - k = (gD (gP R) (gP R x) - k) + 1 by omega, jAnc, h.g1p hx h0]
  rw [e]
  unfold jRpS
  rw [show gD (gP R) (gP R x) + 1 - (1 + gD (gP R) (gP R x)) = 0 by omega]
  rfl
theorem jT1.rp_le (h : jT1 R) : ∀ x, gU R x = true → ∃ c, (jRpA R (nI x)).2 = nI c ∧ c ≤ gD (gP R) x := by
  refine h.tree.ind (fun x hx ih => ?_)
  by_cases h0 : x = 0
  · subst h0; rw [h.rpA0]; exact ⟨0, rfl, Nat.zero_le _⟩
  · obtain ⟨c, e, hc⟩ := ih h0
    rw [h.rpAs hx h0, h.tree.d_s hx h0]
    unfold jRpF
    split
    · exact ⟨c, e, by omega⟩
    · refine ⟨c + 1, ?_, by omega⟩
      show (jRpA R (nI (gP R x))).2 + 1 = _
      rw [e, nI_1]
theorem jT1.rp_mono (h : jT1 R) {x : Nat} (hx : gU R x = true) (h0 : x ≠ 0) {c : Nat} (hc : (jRpA R (nI (gP R x))).2 = nI c) : (jRpA R (nI x)).2 = nI c ∨ (jRpA R (nI x)).2 = nI (c + 1) := by
  rw [h.rpAs hx h0]
  unfold jRpF
  split
  · exact Or.inl hc
  · refine Or.inr ?_
    show (jRpA R (nI (gP R x))).2 + 1 = _
    rw [hc, nI_1]
theorem jT1.holds_s (h : jT1 R) {x : Nat} (hx : gU R x = true) (h0 : x ≠ 0) : jHolds R (nI x) = decide (jGt R 0 3 (nI x) = jHw (jGt R 0 3 (nI (gP R x))) (jRoot R 0 (nI x)) (jGt R 0 2 (nI x)) (jGt R 0 4 (nI x))) := by
  have := gU_16 hx
  unfold jHolds
  rw [if_neg (fun e : nI x = 0 => h0 ((nI_eq (b := 0) (by omega) (by omega)).mp e)), h.g1p hx h0]
/-- a valid branch needs none, and is foretold as it is; a broken one needs some -/
theorem jT1.rp_c (h : jT1 R) : ∀ x, gU R x = true → (jLow R (nI x) = -1 → jRpA R (nI x) = (jGt R 0 3 (nI x), 0)) ∧ (¬ jLow R (nI x) = -1 → ∃ c, (jRpA R (nI x)).2 = nI (c + 1)) := by
  refine h.tree.ind (fun x hx ih => ?_)
  by_cases h0 : x = 0
  · subst h0; exact ⟨fun _ => h.rpA0, fun e => absurd h.low0 e⟩
  · obtain ⟨i1, i2⟩ := ih h0
    rw [h.low_s hx h0, h.rpAs hx h0]
    by_cases hl : jLow R (nI (gP R x)) = -1
    · rw [if_pos hl]
      rw [i1 hl]
      unfold jRpF
      cases hh : jHolds R (nI x) with
      | true =>
        rw [h.holds_s hx h0, decide_eq_true_eq] at hh
        rw [if_pos rfl, if_pos hh]
        exact ⟨fun _ => rfl, fun e => absurd rfl e⟩
      | false =>
        rw [h.holds_s hx h0, decide_eq_false_iff_not] at hh
        have := gU_16 hx
        rw [if_neg (by decide), if_neg hh]
        exact ⟨fun e => absurd e (nI_m1 (by omega)), fun _ => ⟨0, rfl⟩⟩
    · rw [if_neg hl]
      obtain ⟨c, hc⟩ := i2 hl
      refine ⟨fun e => absurd e hl, fun _ => ?_⟩
      unfold jRpF
      split
      · exact ⟨c, hc⟩
      · refine ⟨c + 1, ?_⟩
        show (jRpA R (nI (gP R x))).2 + 1 = _
        rw [hc, nI_1]
/-- two books that differ in one block's seal alone: what is foretold after it is the same, one less -/
theorem jRp_seal {R' : Nat → Nat → Int32} (h : jT1 R) (h' : jT1 R') (eu : gU R' = gU R) (ep : gP R' = gP R) {y : Nat} (hy : gU R y = true) (hy0 : y ≠ 0) (hl : jLow R (nI (gP R y)) = -1) (hb : jHolds R (nI y) = false)
    (e2 : ∀ z, gU R z = true → jGt R' 0 2 (nI z) = jGt R 0 2 (nI z)) (er : ∀ z, gU R z = true → jRoot R' 0 (nI z) = jRoot R 0 (nI z)) (e3 : ∀ z, gU R z = true → z ≠ y → jGt R' 0 3 (nI z) = jGt R 0 3 (nI z) ∧ jGt R' 0 4 (nI z) = jGt R 0 4 (nI z))
    (en : jGt R' 0 4 (nI y) = jNon (jGt R 0 3 (nI (gP R y))) (jRoot R 0 (nI y)) (jGt R 0 2 (nI y))) (eh : jGt R' 0 3 (nI y) = jHw (jGt R 0 3 (nI (gP R y))) (jRoot R 0 (nI y)) (jGt R 0 2 (nI y)) (jNon (jGt R 0 3 (nI (gP R y))) (jRoot R 0 (nI y)) (jGt R 0 2 (nI y)))) :
    (∀ x, gU R x = true → gA (gP R) x y = true → (jRpA R (nI x)).1 = (jRpA R' (nI x)).1 ∧ (jRpA R (nI x)).2 = (jRpA R' (nI x)).2 + 1) ∧ jHolds R' (nI y) = true ∧ jLow R' (nI y) = -1 := by
  have hT := h.tree
  obtain ⟨-, -, hpu, hpn⟩ := h.p hy hy0
  have hpy : gP R y ≠ y := fun e => by rw [e] at hpn; omega
  -- below the block nothing has changed
  have low : ∀ x, gU R x = true → gA (gP R) x y = false → jRpA R' (nI x) = jRpA R (nI x) ∧ jLow R' (nI x) = jLow R (nI x) := by
    refine hT.ind (fun x hx ih ha => ?_)
    by_cases h0 : x = 0
    · subst h0
      rw [h.rpA0, h'.rpA0, h.low0, h'.low0]
      have := (e3 0 hx (fun e => hy0 e.symm)).1
      exact ⟨by rw [show (0 : Int32) = nI 0 from rfl, this], rfl⟩
    · have hxy : x ≠ y := fun e => by rw [e, gA_r] at ha; cases ha
      rw [hT.a_s hx h0 hxy] at ha
      obtain ⟨i1, i2⟩ := ih h0 ha
      have hx' : gU R' x = true := by rw [eu]; exact hx
      obtain ⟨g3, g4⟩ := e3 x hx hxy
      rw [h.rpAs hx h0, h'.rpAs hx' h0, ep, i1, h.low_s hx h0, h'.low_s hx' h0, ep, i2]
      refine ⟨by unfold jRpF; rw [g3, g4, er x hx, e2 x hx], ?_⟩
      have hp0 : gP R x ≠ y := fun e => by rw [e, gA_r] at ha; cases ha
      rw [h.holds_s hx h0, h'.holds_s hx' h0, ep, g3, g4, er x hx, e2 x hx, (e3 _ (h.p hx h0).2.2.1 hp0).1]
  have hpa : gA (gP R) (gP R y) y = false := by
    cases ha : gA (gP R) (gP R y) y with
    | false => rfl
    | true => have := (hT.a_u _ hpu ha).2.2.1; omega
  obtain ⟨l1, l2⟩ := low _ hpu hpa
  have hy' : gU R' y = true := by rw [eu]; exact hy
  have ep3 := (e3 _ hpu hpy).1
  have hol : jHolds R' (nI y) = true := by
    rw [h'.holds_s hy' hy0, ep, ep3, er y hy, e2 y hy, en, eh, decide_eq_true_eq]
  refine ⟨hT.ind (fun x hx ih ha => ?_), hol, ?_⟩
  · by_cases hxy : x = y
    · subst hxy
      have hb2 := hb
      rw [h.holds_s hx hy0, decide_eq_false_iff_not] at hb2
      rw [h.rpAs hx hy0, h'.rpAs hy' hy0, ep, l1, (h.rp_c _ hpu).1 hl]
      unfold jRpF
      rw [if_neg hb2, e2 x hx, er x hx, en, if_pos eh, eh]
      exact ⟨rfl, rfl⟩
    · by_cases h0 : x = 0
      · subst h0
        rw [gA_z (fun e => hxy e.symm)] at ha; cases ha
      · rw [hT.a_s hx h0 hxy] at ha
        obtain ⟨i1, i2⟩ := ih h0 ha
        have hx' : gU R' x = true := by rw [eu]; exact hx
        obtain ⟨g3, g4⟩ := e3 x hx hxy
        rw [h.rpAs hx h0, h'.rpAs hx' h0, ep]
        unfold jRpF
        rw [g3, g4, er x hx, e2 x hx, ← i1]
        split
        · exact ⟨rfl, i2⟩
        · refine ⟨rfl, ?_⟩
          show (jRpA R (nI (gP R x))).2 + 1 = (jRpA R' (nI (gP R x))).2 + 1 + 1
          rw [i2]
  · rw [h'.low_s hy' hy0, ep, l2, hl, if_pos rfl, if_pos hol]
end GRep
