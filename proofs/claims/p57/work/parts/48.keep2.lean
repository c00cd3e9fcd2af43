/-! ===== the changes keep it: a block written, a branch melted ===== -/
def gTk (R : Nat → Nat → Int32) (f x i n : Nat) : Nat → Nat → Int32 := fun r => if r = 6 then (fun j => if 4 * f + i ≤ j ∧ j < 4 * f + i + n then R 10 (4 * x + (j - 4 * f)) else R 6 j) else R r
section GKeep2
variable {R R' : Nat → Nat → Int32} {V V' : Nat → Int32} {B : Nat}
theorem gTk_ne {f x i n r : Nat} (h : r ≠ 6) : gTk R f x i n r = R r := by unfold gTk; rw [if_neg h]
theorem jTake_l {f x : Nat} (hf : f < 16) (hx : x < 4) : ∀ n i R, i + n ≤ 4 → jIter (jTkS (nI f) (nI x)) n i R = gTk R f x i n := by
  intro n
  induction n with
  | zero =>
    intro i R _
    funext r
    show R r = gTk R f x i 0 r
    unfold gTk
    by_cases hr : r = 6
    · subst hr; rw [if_pos rfl]; funext j; rw [if_neg (by omega)]
    · rw [if_neg hr]
  | succ n ih =>
    intro i R h
    rw [jIter, ih (i + 1) _ (by omega)]
    have e : jTkS (nI f) (nI x) R i = gPut R 6 (4 * f + i) (R 10 (4 * x + i)) := by
      unfold jTkS
      rw [jFl1 hx (by omega), j4, jPut_g (k := 6) (by omega) (show 4 * f + i < 64 by omega)]
    rw [e]
    funext r
    by_cases hr : r = 6
    · subst hr
      funext j
      simp only [gTk, if_true]
      rw [gPut_ne (by omega), gPut_s]
      by_cases h1 : 4 * f + (i + 1) ≤ j ∧ j < 4 * f + (i + 1) + n
      · rw [if_pos h1, if_pos (by omega)]
      · rw [if_neg h1]
        by_cases h2 : j = 4 * f + i
        · rw [if_pos h2, if_pos (by omega)]; congr 1; omega
        · rw [if_neg h2, if_neg (by omega)]
    · rw [gTk_ne hr, gTk_ne hr, gPut_ne hr]
/-- a written block's rows before its seal: f its slot, q the parent, v its number -/
def gAp0 (R : Nat → Nat → Int32) (f x q m : Nat) (v : Int32) : Nat → Nat → Int32 := gPut (gTk (gPut (gPut (gPut R 0 f v) 1 f (nI q)) 2 f (nI x)) f x 0 m) 5 f (nI m)
theorem jAp0_g {f x q m : Nat} (hf : f < 16) (hx : x < 4) (hm : m ≤ 4) (ef : jFreeSlot R 0 = nI f) (eq : R 8 x = nI q) : jAp0 R V (nI x) m = gAp0 R f x q m (V 1) := by
  unfold jAp0 jTake gAp0
  rw [ef, jGt_8 hx, eq, jPut_g (k := 0) (by omega) (show f < 16 from hf), jPut_g (k := 1) (by omega) (show f < 16 from hf), jPut_g (k := 2) (by omega) (show f < 16 from hf), jTake_l hf hx m 0 _ (by omega), jPut_g (k := 5) (by omega) (show f < 16 from hf)]
theorem gAp0_r {f x q m : Nat} {v : Int32} : (gAp0 R f x q m v 0 = fun j => if j = f then v else R 0 j) ∧ (gAp0 R f x q m v 1 = fun j => if j = f then nI q else R 1 j) ∧ (gAp0 R f x q m v 2 = fun j => if j = f then nI x else R 2 j) ∧ (gAp0 R f x q m v 5 = fun j => if j = f then nI m else R 5 j) ∧ (gAp0 R f x q m v 6 = fun j => if 4 * f ≤ j ∧ j < 4 * f + m then R 10 (4 * x + (j - 4 * f)) else R 6 j) ∧ ∀ r, r ≠ 0 → r ≠ 1 → r ≠ 2 → r ≠ 5 → r ≠ 6 → gAp0 R f x q m v r = R r := by
  unfold gAp0
  refine ⟨?_, ?_, ?_, ?_, ?_, ?_⟩
  · rw [gPut_ne (by omega), gTk_ne (by omega), gPut_ne (by omega), gPut_ne (by omega)]; funext j; rw [gPut_s]
  · rw [gPut_ne (by omega), gTk_ne (by omega), gPut_ne (by omega)]; funext j; rw [gPut_s, gPut_ne (by omega)]
  · rw [gPut_ne (by omega), gTk_ne (by omega)]; funext j; rw [gPut_s, gPut_ne (by omega), gPut_ne (by omega)]
  · funext j; rw [gPut_s, gTk_ne (by omega), gPut_ne (by omega), gPut_ne (by omega), gPut_ne (by omega)]
  · rw [gPut_ne (by omega)]
    funext j
    simp only [gTk, if_true, Nat.add_zero]
    rw [gPut_ne (show 10 ≠ 2 by omega), gPut_ne (show 10 ≠ 1 by omega), gPut_ne (show 10 ≠ 0 by omega), gPut_ne (show 6 ≠ 2 by omega), gPut_ne (show 6 ≠ 1 by omega), gPut_ne (show 6 ≠ 0 by omega)]
  · intro r h0 h1 h2 h5 h6
    rw [gPut_ne h5, gTk_ne h6, gPut_ne h2, gPut_ne h1, gPut_ne h0]
theorem jFree_c (h : jT1 R) : (∃ f, f < 16 ∧ f ≠ 0 ∧ gU R f = false ∧ jFreeSlot R 0 = nI f) ∨ ((∀ i, i < 16 → gU R i = true) ∧ jFreeSlot R 0 = -1) := by
  unfold jFreeSlot
  rcases jFind_c (fun j => !jUsed R 0 (nI j)) 16 0 with ⟨k, -, h2, h3, -, h5⟩ | ⟨h1, h2⟩
  · have hk : gU R k = false := by
      have h3 : (!jUsed R 0 (nI k)) = true := h3
      rw [jUsed_g (by omega)] at h3
      simpa using h3
    refine Or.inl ⟨k, by omega, ?_, hk, h5⟩
    rintro rfl
    rw [h.u0] at hk; cases hk
  · refine Or.inr ⟨fun i hi => ?_, h2⟩
    have h1 : (!jUsed R 0 (nI i)) = false := h1 i (by omega) (by omega)
    rw [jUsed_g hi] at h1
    simpa using h1
/-- the tree with one block more -/
theorem gAp0_t (h : jTree R V B) (hB : B < 2 ^ 30) {f x q m : Nat} (hf : f < 16) (hf0 : f ≠ 0) (hfu : gU R f = false) (hq : gU R q = true) {nx : Nat} (ex : V 1 = nI (nx + 1)) (hnx : nx ≤ B) (hb : ∀ i, gU R i = true → gN R i ≤ nx) :
    jT1 (gAp0 R f x q m (V 1)) ∧ (∀ i, gU (gAp0 R f x q m (V 1)) i = (gU R i || decide (i = f))) ∧ (∀ i, i ≠ f → gP (gAp0 R f x q m (V 1)) i = gP R i ∧ gN (gAp0 R f x q m (V 1)) i = gN R i) ∧ gP (gAp0 R f x q m (V 1)) f = q ∧ gN (gAp0 R f x q m (V 1)) f = nx + 1 := by
  obtain ⟨h1, -, -, -, -⟩ := h
  obtain ⟨r0, r1, r2, -, -, -⟩ := gAp0_r (R := R) (f := f) (x := x) (q := q) (m := m) (v := V 1)
  generalize gAp0 R f x q m (V 1) = R2 at r0 r1 r2
  have hq16 := gU_16 hq
  have hqf : q ≠ f := fun e => by rw [e, hfu] at hq; cases hq
  have u2 : ∀ i, gU R2 i = (gU R i || decide (i = f)) := fun i => by
    by_cases hif : i = f
    · subst hif
      rw [hfu, decide_eq_true rfl]
      exact gU_of hf (by rw [r0, ex]; simp only [if_true]; exact nI_m1 (by omega))
    · unfold gU
      rw [r0]; simp only [if_neg hif, decide_eq_false hif, Bool.or_false]
  have p2 : ∀ i, i ≠ f → gP R2 i = gP R i ∧ gN R2 i = gN R i := fun i hi => by
    unfold gP gN
    rw [r0, r1]; simp only [if_neg hi]; exact ⟨trivial, trivial⟩
  have hn1 : ∀ i, gU R i = true → R 0 i < nI (nx + 1) := fun i hi => by
    rw [(h1.n hi).1, nI_ltI (h1.n hi).2 (by omega)]
    have := hb i hi; omega
  have uu : ∀ i, gU R2 i = true → i ≠ f → gU R i = true := fun i hi hif => by
    rw [u2, decide_eq_false hif, Bool.or_false] at hi; exact hi
  refine ⟨⟨?_, ?_, ?_, ?_, ?_, ?_⟩, u2, p2, ?_, ?_⟩
  · rw [r0]; simp only [if_neg (fun e : 0 = f => hf0 e.symm)]; exact h1.1
  · intro i hi
    rw [r0]
    by_cases hif : i = f
    · simp only [if_pos hif, ex]; exact fun _ => nI_pos (by omega)
    · simp only [if_neg hif]; exact h1.2.1 i hi
  · rw [r1]; simp only [if_neg (fun e : 0 = f => hf0 e.symm)]; exact h1.2.2.1
  · intro i hi
    rw [r0, r1, r2]
    by_cases hif : i = f
    · simp only [if_pos hif, ex]; exact fun e => absurd e (nI_m1 (by omega))
    · simp only [if_neg hif]; exact h1.2.2.2.1 i hi
  · intro i hi hi0
    rw [r0, r1]
    by_cases hif : i = f
    · simp only [if_pos hif]
      refine ⟨q, rfl, by rw [u2, hq]; rfl, ?_⟩
      rw [if_neg hqf, ex]; exact hn1 q hq
    · simp only [if_neg hif]
      obtain ⟨p, g1, g2, g3⟩ := h1.2.2.2.2.1 i (uu i hi hif) hi0
      refine ⟨p, g1, by rw [u2, g2]; rfl, ?_⟩
      have hpf : p ≠ f := fun e => by rw [e, hfu] at g2; cases g2
      rw [if_neg hpf]; exact g3
  · intro i j hi hj
    rw [r0]
    by_cases hif : i = f
    · by_cases hjf : j = f
      · intro _; rw [hif, hjf]
      · simp only [if_pos hif, if_neg hjf, ex]
        intro e
        have := hn1 j (uu j hj hjf)
        rw [← e] at this
        exact (Int32.lt_irrefl this).elim
    · by_cases hjf : j = f
      · simp only [if_neg hif, if_pos hjf, ex]
        intro e
        have := hn1 i (uu i hi hif)
        rw [e] at this
        exact (Int32.lt_irrefl this).elim
      · simp only [if_neg hif, if_neg hjf]
        exact h1.2.2.2.2.2 i j (uu i hi hif) (uu j hj hjf)
  · unfold gP; rw [r1]; simp only [if_true]; exact nI_clamp (by omega)
  · unfold gN; rw [r0]; simp only [if_true]; rw [ex]; exact nI_clamp (by omega)
theorem gAp0_root {f x q m : Nat} {v : Int32} (hf : f < 16) (hx : x < 4) (hm : m ≤ 4) (ez : R 9 x = nI m) : jRoot (gAp0 R f x q m v) 0 (nI f) = jRoot R 1 (nI x) := by
  obtain ⟨-, -, -, r5, r6, -⟩ := gAp0_r (R := R) (f := f) (x := x) (q := q) (m := m) (v := v)
  have hs : jSz (gAp0 R f x q m v) 0 (nI f) = nI m := by rw [jSz0 hf, r5]; simp only [if_true]
  have hs1 : jSz R 1 (nI x) = nI m := by rw [jSz1 hx]; exact ez
  have hl : ∀ p, p < m → jFl (gAp0 R f x q m v) 0 (nI f) (nI p) = jFl R 1 (nI x) (nI p) := fun p hp => by
    rw [jFl0 hf (by omega), jFl1 hx (by omega), r6]
    simp only [if_pos (show 4 * f ≤ 4 * f + p ∧ 4 * f + p < 4 * f + m by omega)]
    congr 1; omega
  unfold jRoot
  rw [hs, hs1]
  rcases (show m = 0 ∨ m = 1 ∨ m = 2 ∨ m = 3 ∨ m = 4 by omega) with rfl | rfl | rfl | rfl | rfl
  · rw [if_neg (by decide), if_neg (by decide), if_neg (by decide), if_neg (by decide), if_neg (by decide), if_neg (by decide), if_neg (by decide), if_neg (by decide)]
  · rw [if_pos (by decide), if_pos (by decide)]
    exact hl 0 (by omega)
  · rw [if_neg (by decide), if_pos (by decide), if_neg (by decide), if_pos (by decide)]
    have a := hl 0 (by omega)
    have b := hl 1 (by omega)
    show jCo (jFl _ 0 (nI f) (nI 0)) (jFl _ 0 (nI f) (nI 1)) = jCo (jFl _ 1 (nI x) (nI 0)) (jFl _ 1 (nI x) (nI 1))
    rw [a, b]
  · rw [if_neg (by decide), if_neg (by decide), if_pos (by decide), if_neg (by decide), if_neg (by decide), if_pos (by decide)]
    have a := hl 0 (by omega)
    have b := hl 1 (by omega)
    have c := hl 2 (by omega)
    show jCo (jCo (jFl _ 0 (nI f) (nI 0)) (jFl _ 0 (nI f) (nI 1))) (jCo (jFl _ 0 (nI f) (nI 2)) (jFl _ 0 (nI f) (nI 2))) = jCo (jCo (jFl _ 1 (nI x) (nI 0)) (jFl _ 1 (nI x) (nI 1))) (jCo (jFl _ 1 (nI x) (nI 2)) (jFl _ 1 (nI x) (nI 2)))
    rw [a, b, c]
  · rw [if_neg (by decide), if_neg (by decide), if_neg (by decide), if_pos (by decide), if_neg (by decide), if_neg (by decide), if_neg (by decide), if_pos (by decide)]
    have a := hl 0 (by omega)
    have b := hl 1 (by omega)
    have c := hl 2 (by omega)
    have d := hl 3 (by omega)
    show jCo (jCo (jFl _ 0 (nI f) (nI 0)) (jFl _ 0 (nI f) (nI 1))) (jCo (jFl _ 0 (nI f) (nI 2)) (jFl _ 0 (nI f) (nI 3))) = jCo (jCo (jFl _ 1 (nI x) (nI 0)) (jFl _ 1 (nI x) (nI 1))) (jCo (jFl _ 1 (nI x) (nI 2)) (jFl _ 1 (nI x) (nI 3)))
    rw [a, b, c, d]
/-- the book with a block more, sealed -/
theorem k_append (h : jTree R V B) (hB : B < 2 ^ 30) {f x q m : Nat} (hf : f < 16) (hf0 : f ≠ 0) (hfu : gU R f = false) (ef : jFreeSlot R 0 = nI f) (hx : x < 4) (eq : R 8 x = nI q) (hq : gU R q = true) (hm : m ≤ 4) (ez : R 9 x = nI m) :
    jAp R V (nI x) m = gPut (gPut (gPut (gPut (gAp0 R f x q m (V 1)) 4 f (gSn (gAp0 R f x q m (V 1)) f)) 3 f (gSh (gAp0 R f x q m (V 1)) f)) 9 x 0) 8 x (nI f) ∧ jTree (jAp R V (nI x) m) (jSetV (jSetV V 1 (V 1 + 1)) 2 (V 2 + 1)) (B + 1) := by
  have hT := h
  obtain ⟨h1, h2, h3, ⟨nx, me, g1, g2, g3, g4, g5, g6⟩, ⟨hc, h5, h6, h7⟩⟩ := h
  obtain ⟨t1, t2, t3, t4, t5⟩ := gAp0_t hT hB (x := x) (m := m) hf hf0 hfu hq g2 g1 g6
  obtain ⟨r0, r1, r2, r5, r6, rr⟩ := gAp0_r (R := R) (f := f) (x := x) (q := q) (m := m) (v := V 1)
  have hfu2 : gU (gAp0 R f x q m (V 1)) f = true := by rw [t2, decide_eq_true rfl, Bool.or_true]
  have e1 : jAp R V (nI x) m = gPut (gPut (gPut (gPut (gAp0 R f x q m (V 1)) 4 f (gSn (gAp0 R f x q m (V 1)) f)) 3 f (gSh (gAp0 R f x q m (V 1)) f)) 9 x 0) 8 x (nI f) := by
    unfold jAp
    rw [jAp0_g hf hx hm ef eq, ef, jSeal_g t1 hfu2 hf0, jPut_g (k := 9) (by omega) (show x < 4 from hx), jPut_g (k := 8) (by omega) (show x < 4 from hx)]
  refine ⟨e1, ?_⟩
  rw [e1]
  have f2 : jTF (gAp0 R f x q m (V 1)) := by
    obtain ⟨f1, f2, f3, f4, f5⟩ := h2
    unfold jTF
    rw [rr 9 (by omega) (by omega) (by omega) (by omega) (by omega), rr 10 (by omega) (by omega) (by omega) (by omega) (by omega), r5, r6]
    refine ⟨fun i hi => ?_, ?_, fun i hi => ?_, f4, f5⟩
    · by_cases hif : i = f
      · simp only [if_pos hif]; exact ⟨m, hm, rfl⟩
      · simp only [if_neg hif]; exact f1 i hi
    · simp only [if_neg (fun e : 0 = f => hf0 e.symm)]; exact f2
    · by_cases hif : 4 * f ≤ i ∧ i < 4 * f + m
      · simp only [if_pos hif]; exact f5 _ (by omega)
      · simp only [if_neg hif]; exact f3 i hi
  have hsh : ∃ c, c < 2494 ∧ gSh (gAp0 R f x q m (V 1)) f = nI (4 * c) := by
    refine gSh_s t1 f2 hfu2 hf0 ⟨x, hx, by rw [r2]; simp only [if_true]⟩ ?_
    rw [t4, rr 3 (by omega) (by omega) (by omega) (by omega) (by omega)]
    exact h3.h hq
  generalize gSn (gAp0 R f x q m (V 1)) f = N at *
  generalize gSh (gAp0 R f x q m (V 1)) f = H at *
  generalize gAp0 R f x q m (V 1) = R2 at *
  have z : ∀ r, r ≠ 4 → r ≠ 3 → r ≠ 9 → r ≠ 8 → gPut (gPut (gPut (gPut R2 4 f N) 3 f H) 9 x 0) 8 x (nI f) r = R2 r := fun r a b c d => by rw [gPut_ne d, gPut_ne c, gPut_ne b, gPut_ne a]
  have zu := gU_c (R := R2) (z 0 (by omega) (by omega) (by omega) (by omega))
  have zn := gN_c (R := R2) (z 0 (by omega) (by omega) (by omega) (by omega))
  have hcf : gC (gU R2) = gC (gU R) + 1 := by
    have : gC (gU R2) = gS (fun i => gI (gU R i) + gI (decide (i = f))) 16 := gS_congr 16 (fun i _ => by
      rw [t2]
      by_cases hif : i = f
      · subst hif; rw [hfu, decide_eq_true rfl]; rfl
      · rw [decide_eq_false hif, Bool.or_false]; rfl)
    rw [this, gS_add, gS_one (f := fun i => gI (decide (i = f))) 16 hf (fun i _ hi => by rw [decide_eq_false hi]; rfl), decide_eq_true rfl]; rfl
  refine ⟨t1.c (z 0 (by omega) (by omega) (by omega) (by omega)) (z 1 (by omega) (by omega) (by omega) (by omega)) (z 2 (by omega) (by omega) (by omega) (by omega)), ?_, ?_, ?_, ?_⟩
  · obtain ⟨f1, f2, f3, f4, f5⟩ := f2
    unfold jTF
    rw [z 5 (by omega) (by omega) (by omega) (by omega), z 6 (by omega) (by omega) (by omega) (by omega), z 10 (by omega) (by omega) (by omega) (by omega)]
    refine ⟨f1, f2, f3, fun i hi => ?_, f5⟩
    rw [gPut_ne (by omega), gPut_s, gPut_ne (by omega), gPut_ne (by omega)]
    by_cases hi2 : i = x
    · rw [if_pos hi2]; exact ⟨0, by omega, rfl⟩
    · rw [if_neg hi2]; exact f4 i hi
  · unfold jTS
    rw [zu, z 2 (by omega) (by omega) (by omega) (by omega), gPut_ne (by omega), gPut_ne (by omega)]
    refine ⟨?_, fun i hi hi0 => ?_⟩
    · rw [gPut_s, if_neg (fun e => hf0 e.symm), gPut_ne (by omega), rr 3 (by omega) (by omega) (by omega) (by omega) (by omega)]; exact h3.1
    · rw [gPut_s, gPut_ne (by omega), rr 3 (by omega) (by omega) (by omega) (by omega) (by omega), r2]
      by_cases hif : i = f
      · simp only [if_pos hif]
        obtain ⟨c, hc1, hc2⟩ := hsh
        exact ⟨⟨c, hc1, hc2⟩, x, hx, rfl⟩
      · simp only [if_neg hif]
        rw [t2, decide_eq_false hif, Bool.or_false] at hi
        exact h3.2 i hi hi0
  · refine ⟨nx + 1, me, by omega, ?_, ?_, ?_, ?_, ?_⟩
    · simp only [jSetV, show ¬ (1 = 2) by omega, if_false, if_true]; rw [g2, nI_1]
    · simp only [jSetV, if_true]; rw [g3, nI_1]
    · simp only [jSetV, show ¬ (3 = 2) by omega, show ¬ (3 = 1) by omega, if_false]; exact g4
    · rw [zu, hcf]; omega
    · rw [zu, zn]
      intro i hi
      by_cases hif : i = f
      · rw [hif, t5]; omega
      · rw [(t3 i hif).2]
        rw [t2, decide_eq_false hif, Bool.or_false] at hi
        have := g6 i hi; omega
  · refine ⟨hc, h5, by simp only [jSetV, show ¬ (0 = 2) by omega, show ¬ (0 = 1) by omega, if_false]; exact h6, fun j hj => ?_⟩
    rw [zu, gPut_s]
    by_cases hjx : j = x
    · rw [if_pos hjx]; exact ⟨f, hfu2, rfl⟩
    · rw [if_neg hjx, gPut_ne (by omega), gPut_ne (by omega), gPut_ne (by omega), rr 8 (by omega) (by omega) (by omega) (by omega) (by omega)]
      obtain ⟨q2, a, b⟩ := h7 j hj
      exact ⟨q2, by rw [t2, a]; rfl, b⟩
end GKeep2
