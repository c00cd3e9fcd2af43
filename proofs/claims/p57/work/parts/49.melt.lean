/-! ===== the changes keep it: melting ===== -/
section GMelt
variable {R : Nat → Nat → Int32} {V : Nat → Int32} {B : Nat} {D : Nat → Int32}
theorem jB2_1 (b : Bool) : jB2 b = 1 ↔ b = true := by cases b <;> simp [jB2]
theorem gDm_l {m : Int32} : ∀ n i D, i + n ≤ 16 → ∀ j, jIter (jDm R m) n i D j = if i ≤ j ∧ j < i + n then jB2 (jRch R 16 (nI j) m) else D j := by
  intro n
  induction n with
  | zero => intro i D _ j; rw [if_neg (by omega)]; rfl
  | succ n ih =>
    intro i D h j
    rw [jIter, ih (i + 1) _ (by omega)]
    by_cases h1 : i + 1 ≤ j ∧ j < i + 1 + n
    · rw [if_pos h1, if_pos (by omega)]
    · rw [if_neg h1]
      unfold jDm
      rw [jWr_n (by omega) (by omega)]
      show (if j = i then _ else D j) = _
      by_cases h2 : j = i
      · rw [if_pos h2, if_pos (by omega), h2]
      · rw [if_neg h2, if_neg (by omega)]
theorem gHl_l {pa : Int32} : ∀ n i R, i + n ≤ 4 → (∀ r, r ≠ 8 → jIter (jHl D pa) n i R r = R r) ∧ ∀ j, jIter (jHl D pa) n i R 8 j = if (i ≤ j ∧ j < i + n) ∧ jRd 16 D (R 8 j) = 1 then pa else R 8 j := by
  intro n
  induction n with
  | zero => intro i R _; exact ⟨fun r _ => rfl, fun j => by rw [if_neg (by omega)]; rfl⟩
  | succ n ih =>
    intro i R h
    obtain ⟨i1, i2⟩ := ih (i + 1) (jHl D pa R i) (by omega)
    have e : jHl D pa R i = if jRd 16 D (R 8 i) = 1 then gPut R 8 i pa else R := by
      unfold jHl
      rw [jGt_8 (by omega), jPut_g (k := 8) (by omega) (show i < 4 by omega)]
    refine ⟨fun r hr => ?_, fun j => ?_⟩
    · rw [jIter, i1 r hr, e]
      split
      · exact gPut_ne hr
      · rfl
    · rw [jIter, i2 j]
      by_cases hj : j = i
      · subst hj
        rw [if_neg (by omega), e]
        by_cases hd : jRd 16 D (R 8 j) = 1
        · rw [if_pos hd, if_pos ⟨by omega, hd⟩, gPut_s, if_pos rfl]
        · rw [if_neg hd, if_neg (fun g => hd g.2)]
      · have e8 : jHl D pa R i 8 j = R 8 j := by
          rw [e]
          split
          · rw [gPut_s, if_neg hj]
          · rfl
        rw [e8]
        by_cases hd : jRd 16 D (R 8 j) = 1
        · by_cases hi : i + 1 ≤ j ∧ j < i + 1 + n
          · rw [if_pos ⟨hi, hd⟩, if_pos ⟨by omega, hd⟩]
          · rw [if_neg (fun g => hi g.1), if_neg (fun g => hi (by omega))]
        · rw [if_neg (fun g => hd g.2), if_neg (fun g => hd g.2)]
theorem jFr_g {i : Nat} (h : i < 16) : jFr R (nI i) = gPut (gPut (gPut R 0 i (-1)) 1 i (-1)) 2 i (-1) := by
  unfold jFr
  rw [jPut_g (k := 0) (by omega) (show i < 16 from h), jPut_g (k := 1) (by omega) (show i < 16 from h), jPut_g (k := 2) (by omega) (show i < 16 from h)]
theorem gFr_l : ∀ n i (a : (Nat → Nat → Int32) × Int32), i + n ≤ 16 → (∀ r, 3 ≤ r → (jIter (jFrS D) n i a).1 r = a.1 r) ∧ (∀ r j, r < 3 → (jIter (jFrS D) n i a).1 r j = if (i ≤ j ∧ j < i + n) ∧ D j = 1 then -1 else a.1 r j) := by
  intro n
  induction n with
  | zero => intro i a _; exact ⟨fun r _ => rfl, fun r j _ => by rw [if_neg (by omega)]; rfl⟩
  | succ n ih =>
    intro i a h
    obtain ⟨i1, i2⟩ := ih (i + 1) (jFrS D a i) (by omega)
    have e : (jFrS D a i).1 = if D i = 1 then gPut (gPut (gPut a.1 0 i (-1)) 1 i (-1)) 2 i (-1) else a.1 := by
      unfold jFrS
      rw [jRd_n (by omega) (by omega), jFr_g (by omega)]
      split <;> rfl
    refine ⟨fun r hr => ?_, fun r j hr => ?_⟩
    · rw [jIter, i1 r hr, e]
      split
      · rw [gPut_ne (by omega), gPut_ne (by omega), gPut_ne (by omega)]
      · rfl
    · rw [jIter, i2 r j hr]
      have er : (jFrS D a i).1 r j = if j = i ∧ D i = 1 then -1 else a.1 r j := by
        rw [e]
        by_cases hd : D i = 1
        · rw [if_pos hd]
          rcases (show r = 0 ∨ r = 1 ∨ r = 2 by omega) with rfl | rfl | rfl
          · rw [gPut_ne (by omega), gPut_ne (by omega), gPut_s]
            by_cases hj : j = i
            · rw [if_pos hj, if_pos ⟨hj, hd⟩]
            · rw [if_neg hj, if_neg (fun g => hj g.1)]
          · rw [gPut_ne (by omega), gPut_s]
            by_cases hj : j = i
            · rw [if_pos hj, if_pos ⟨hj, hd⟩]
            · rw [if_neg hj, if_neg (fun g => hj g.1), gPut_ne (by omega)]
          · rw [gPut_s]
            by_cases hj : j = i
            · rw [if_pos hj, if_pos ⟨hj, hd⟩]
            · rw [if_neg hj, if_neg (fun g => hj g.1), gPut_ne (by omega), gPut_ne (by omega)]
        · rw [if_neg hd, if_neg (fun g => hd g.2)]
      rw [er]
      by_cases hj : j = i
      · subst hj
        rw [if_neg (by omega)]
        by_cases hd : D j = 1
        · rw [if_pos ⟨rfl, hd⟩, if_pos ⟨by omega, hd⟩]
        · rw [if_neg (fun g => hd g.2), if_neg (fun g => hd g.2)]
      · rw [if_neg (fun g : j = i ∧ D i = 1 => hj g.1)]
        by_cases hd : D j = 1
        · by_cases hi : i + 1 ≤ j ∧ j < i + 1 + n
          · rw [if_pos ⟨hi, hd⟩, if_pos ⟨by omega, hd⟩]
          · rw [if_neg (fun g => hi g.1), if_neg (fun g => hi (by omega))]
        · rw [if_neg (fun g => hd g.2), if_neg (fun g => hd g.2)]
theorem gFr_c : ∀ n i (a : (Nat → Nat → Int32) × Int32) (c : Nat), i + n ≤ 16 → a.2 = nI c → (jIter (jFrS D) n i a).2 = nI (c + gS (fun k => gI (decide (D (i + k) = 1))) n) := by
  intro n
  induction n with
  | zero => intro i a c _ h; exact h
  | succ n ih =>
    intro i a c h hc
    have e : ∀ m, gS (fun k => gI (decide (D (i + k) = 1))) (m + 1) = gI (decide (D i = 1)) + gS (fun k => gI (decide (D (i + 1 + k) = 1))) m := by
      intro m
      induction m with
      | zero => simp [gS]
      | succ m ihm =>
        rw [gS, ihm]
        simp only [gS]
        rw [show i + (m + 1) = i + 1 + m by omega]; omega
    rw [jIter, e n]
    have e2 : (jFrS D a i).2 = nI (c + gI (decide (D i = 1))) := by
      unfold jFrS
      rw [jRd_n (by omega) (by omega)]
      by_cases hd : D i = 1
      · rw [if_pos hd, decide_eq_true hd]
        show a.2 + 1 = _
        rw [hc, nI_1]; rfl
      · rw [if_neg hd, decide_eq_false hd]; exact hc
    rw [ih (i + 1) _ _ (by omega) e2]
    congr 1; omega
/-- what melting makes of the book -/
theorem k_remove (h : jTree R V B) {s hc : Nat} (hs : gU R s = true) (h0 : s ≠ 0) (ehc : V 0 = nI hc) (hhc : hc ≤ 4) {Q : (Nat → Nat → Int32) × Int32} (eQ : Q = jRm (jIter (jDm R (nI s)) 16 0 D) (jGt R 0 1 (nI s)) hc R) :
    Q.2 = nI (gC (fun i => gU R i && gA (gP R) i s)) ∧ jTree Q.1 (jSetV V 3 (V 3 + Q.2)) B ∧ (∀ i, gU Q.1 i = (gU R i && !gA (gP R) i s)) ∧ (∀ i, gU Q.1 i = true → gP Q.1 i = gP R i ∧ gN Q.1 i = gN R i) ∧ (∀ j, j < hc → ∀ q, gU R q = true → R 8 j = nI q → Q.1 8 j = nI (if gA (gP R) q s = true then gP R s else q)) ∧ gC (gU Q.1) + gC (fun i => gU R i && gA (gP R) i s) = gC (gU R) := by
  have hT := h
  obtain ⟨h1, h2, h3, ⟨nx, me, g1, g2, g3, g4, g5, g6⟩, ⟨hc', h5, h6, h7⟩⟩ := h
  have : hc' = hc := (nI_eq (by omega) (by omega)).mp (h6.symm.trans ehc)
  subst this
  have hG := h1.tree
  obtain ⟨-, hp16, hpu, hpn⟩ := h1.p hs h0
  have hs16 := gU_16 hs
  -- the marks
  have hD : ∀ j, j < 16 → jIter (jDm R (nI s)) 16 0 D j = jB2 (gU R j && gA (gP R) j s) := fun j hj => by
    rw [gDm_l 16 0 D (by omega) j, if_pos (by omega)]
    cases hu : gU R j with
    | true => rw [h1.rch hu hs16]; rfl
    | false => rw [h1.rchN hj hu hs]; rfl
  rw [h1.g1p hs h0] at eQ
  generalize hDD : jIter (jDm R (nI s)) 16 0 D = DD at hD eQ
  unfold jRm at eQ
  obtain ⟨a1, a2⟩ := gHl_l (D := DD) (pa := nI (gP R s)) hc' 0 R (by omega)
  obtain ⟨b1, b2⟩ := gFr_l (D := DD) 16 0 (jIter (jHl DD (nI (gP R s))) hc' 0 R, 0) (by omega)
  have b3 := gFr_c (D := DD) 16 0 (jIter (jHl DD (nI (gP R s))) hc' 0 R, 0) 0 (by omega) rfl
  rw [← eQ] at b1 b2 b3
  dsimp only at b1 b2 b3
  have row : ∀ r, 3 ≤ r → r ≠ 8 → Q.1 r = R r := fun r g g8 => by rw [b1 r g]; exact a1 r g8
  have row3 : ∀ r j, r < 3 → j < 16 → Q.1 r j = if (gU R j && gA (gP R) j s) = true then -1 else R r j := fun r j hr hj => by
    rw [b2 r j hr, a1 r (by omega), hD j hj]
    by_cases hm : (gU R j && gA (gP R) j s) = true
    · rw [if_pos hm, if_pos ⟨by omega, by rw [hm]; rfl⟩]
    · rw [if_neg hm, if_neg (fun g => hm ((jB2_1 _).mp g.2))]
  have hcnt : Q.2 = nI (gC (fun i => gU R i && gA (gP R) i s)) := by
    rw [b3, Nat.zero_add]
    congr 1
    refine gS_congr 16 (fun i hi => ?_)
    dsimp only
    rw [Nat.zero_add, hD i hi]
    cases (gU R i && gA (gP R) i s) <;> rfl
  have hu' : ∀ i, gU Q.1 i = (gU R i && !gA (gP R) i s) := fun i => by
    by_cases hi : i < 16
    · unfold gU
      rw [row3 0 i (by omega) hi]
      have hb : decide (i < 16) = true := decide_eq_true hi
      cases hu : gU R i with
      | false =>
        have := gU_no hi hu
        rw [Bool.false_and, if_neg (by decide), this]
        unfold gU at hu
        simp [this]
      | true =>
        have hne := gU_ne hu
        cases ha : gA (gP R) i s with
        | true => simp
        | false => simp [hi, hne]
    · unfold gU
      simp [hi]
  have uu : ∀ i, gU Q.1 i = true → gU R i = true ∧ gA (gP R) i s = false := fun i hi => by
    rw [hu'] at hi
    simpa using hi
  have keep : ∀ i r, gU Q.1 i = true → r < 3 → Q.1 r i = R r i := fun i r hi hr => by
    obtain ⟨k1, k2⟩ := uu i hi
    rw [row3 r i hr (gU_16 k1), k1, k2, if_neg (by decide)]
  have hps : gA (gP R) (gP R s) s = false := by
    cases ha : gA (gP R) (gP R s) s with
    | false => rfl
    | true => have := (hG.a_u _ hpu ha).2.2.1; omega
  have h0s : gA (gP R) 0 s = false := gA_z h0
  have hsum : gC (gU Q.1) + gC (fun i => gU R i && gA (gP R) i s) = gC (gU R) := by
    unfold gC
    rw [← gS_add]
    refine gS_congr 16 (fun i _ => ?_)
    dsimp only
    rw [hu']
    cases gU R i <;> cases gA (gP R) i s <;> rfl
  have hP : ∀ i, gU Q.1 i = true → gP Q.1 i = gP R i ∧ gN Q.1 i = gN R i := fun i hi => by
    unfold gP gN
    rw [keep i 0 hi (by omega), keep i 1 hi (by omega)]; exact ⟨rfl, rfl⟩
  have h8 : ∀ j, j < hc' → ∀ q, gU R q = true → R 8 j = nI q → Q.1 8 j = nI (if gA (gP R) q s = true then gP R s else q) := fun j hj q hq e8 => by
    rw [b1 8 (by omega), a2 j, e8, jRd_n (gU_16 hq) (by omega), hD q (gU_16 hq), hq]
    cases ha : gA (gP R) q s with
    | true => rw [if_pos ⟨by omega, rfl⟩, if_pos rfl]
    | false => rw [if_neg (fun g => absurd g.2 (by decide)), if_neg (by decide)]
  have h0u : gU Q.1 0 = true := by rw [hu', h1.u0, h0s]; rfl
  refine ⟨hcnt, ⟨⟨?_, ?_, ?_, ?_, ?_, ?_⟩, h2.c (row 5 (by omega) (by omega)) (row 6 (by omega) (by omega)) (row 9 (by omega) (by omega)) (row 10 (by omega) (by omega)), ?_, ?_, ?_⟩, hu', hP, h8, hsum⟩
  · rw [keep 0 0 h0u (by omega)]; exact h1.1
  · intro i hi hn
    have hx : gU Q.1 i = true := gU_of hi hn
    rw [keep i 0 hx (by omega)]
    exact h1.2.1 i hi (gU_ne (uu i hx).1)
  · rw [keep 0 1 h0u (by omega)]; exact h1.2.2.1
  · intro i hi hn
    rw [row3 1 i (by omega) hi, row3 2 i (by omega) hi]
    by_cases hm : (gU R i && gA (gP R) i s) = true
    · rw [if_pos hm, if_pos hm]; exact ⟨rfl, rfl⟩
    · rw [if_neg hm, if_neg hm]
      rw [row3 0 i (by omega) hi, if_neg hm] at hn
      exact h1.2.2.2.1 i hi hn
  · intro i hi hi0
    obtain ⟨k1, k2⟩ := uu i hi
    obtain ⟨e1, e2, e3, e4⟩ := h1.p k1 hi0
    have his : i ≠ s := fun e => by rw [e, gA_r] at k2; cases k2
    have hpq : gU Q.1 (gP R i) = true := by
      rw [hu', e3]
      rw [hG.a_s k1 hi0 his] at k2
      rw [k2]; rfl
    refine ⟨gP R i, by rw [keep i 1 hi (by omega)]; exact e1, hpq, ?_⟩
    rw [keep i 0 hi (by omega), keep _ 0 hpq (by omega), (h1.n k1).1, (h1.n e3).1]
    exact (nI_ltI (h1.n e3).2 (h1.n k1).2).mpr e4
  · intro i j hi hj
    rw [keep i 0 hi (by omega), keep j 0 hj (by omega)]
    exact h1.2.2.2.2.2 i j (uu i hi).1 (uu j hj).1
  · unfold jTS
    rw [row 3 (by omega) (by omega)]
    refine ⟨h3.1, fun i hi hi0 => ?_⟩
    rw [keep i 2 hi (by omega)]
    exact h3.2 i (uu i hi).1 hi0
  · refine ⟨nx, me + gC (fun i => gU R i && gA (gP R) i s), g1, by rw [jSetV_ne (by omega)]; exact g2, by rw [jSetV_ne (by omega)]; exact g3, ?_, by omega, fun i hi => ?_⟩
    · simp only [jSetV, if_true]; rw [g4, hcnt, nI_add]
    · rw [(hP i hi).2]; exact g6 i (uu i hi).1
  · refine ⟨hc', h5, by rw [jSetV_ne (by omega)]; exact h6, fun j hj => ?_⟩
    obtain ⟨q, k1, k2⟩ := h7 j hj
    refine ⟨if gA (gP R) q s = true then gP R s else q, ?_, h8 j hj q k1 k2⟩
    rw [hu']
    by_cases ha : gA (gP R) q s = true
    · rw [if_pos ha, hpu, hps]; rfl
    · have ha' : gA (gP R) q s = false := by simpa using ha
      rw [if_neg ha, k1, ha']; rfl
end GMelt
