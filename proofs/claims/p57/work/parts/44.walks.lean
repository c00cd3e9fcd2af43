/-! ===== search, the lowest broken, forks, the best ===== -/
section GWalks
variable {R : Nat → Nat → Int32}
theorem jDpL_c {rec : Int32 → Int32} {fr v : Int32} (hv : ¬ v = -1) : ∀ m i, (∀ k, i ≤ k → k < i + m → jGt R 0 1 (nI k) = fr → rec (nI k) = v ∨ rec (nI k) = -1) → ((∃ k, i ≤ k ∧ k < i + m ∧ jGt R 0 1 (nI k) = fr ∧ rec (nI k) = v) → jDpL R rec fr m i = v) ∧ ((∀ k, i ≤ k → k < i + m → jGt R 0 1 (nI k) = fr → rec (nI k) = -1) → jDpL R rec fr m i = -1) := by
  intro m
  induction m with
  | zero => intro i _; exact ⟨fun ⟨k, h1, h2, _⟩ => by omega, fun _ => rfl⟩
  | succ m ih =>
    intro i hc
    obtain ⟨i1, i2⟩ := ih (i + 1) (fun k h1 h2 => hc k (by omega) (by omega))
    rw [jDpL]
    by_cases hp : jGt R 0 1 (nI i) = fr
    · rw [if_pos hp]
      rcases hc i (by omega) (by omega) hp with e | e
      · rw [if_neg (by rw [e]; exact hv)]
        exact ⟨fun _ => e, fun h => absurd ((h i (by omega) (by omega) hp).symm.trans e).symm hv⟩
      · rw [if_pos e]
        refine ⟨fun ⟨k, h1, h2, h3, h4⟩ => i1 ⟨k, ?_, by omega, h3, h4⟩, fun h => i2 (fun k h1 h2 => h k (by omega) (by omega))⟩
        rcases Nat.lt_or_ge i k with g | g
        · omega
        · have : k = i := by omega
          subst this
          exact absurd (h4.symm.trans e) hv
    · rw [if_neg hp]
      refine ⟨fun ⟨k, h1, h2, h3, h4⟩ => i1 ⟨k, ?_, by omega, h3, h4⟩, fun h => i2 (fun k h1 h2 => h k (by omega) (by omega))⟩
      rcases Nat.lt_or_ge i k with g | g
      · omega
      · have : k = i := by omega
        subst this
        exact absurd h3 hp
theorem jT1.child (h : jT1 R) {c x : Nat} (hc : c < 16) (hx : x < 16) (e : jGt R 0 1 (nI c) = nI x) : gU R c = true ∧ c ≠ 0 ∧ gP R c = x := by
  rw [h.g1 hc] at e
  by_cases hu : gU R c = true ∧ c ≠ 0
  · rw [if_pos hu] at e
    exact ⟨hu.1, hu.2, (nI_eq (by have := (h.p hu.1 hu.2).2.1; omega) (by omega)).mp e⟩
  · rw [if_neg hu] at e
    exact absurd e.symm (nI_m1 (by omega))
theorem jT1.dp (h : jT1 R) {t : Nat} (ht : gU R t = true) : ∀ n d fr, gU R fr = true → gD (gP R) fr = d → 16 < n + d → jDp R (nI t) n d (nI fr) = if gA (gP R) t fr = true then nI (gD (gP R) t) else -1 := by
  have hT := h.tree
  have ht16 := gU_16 ht
  intro n
  induction n with
  | zero => intro d fr hf hd h1; have := hT.d_le hf; omega
  | succ n ih =>
    intro d fr hf hd h1
    have hf16 := gU_16 hf
    have hd15 := hT.d_le hf
    rw [jDp]
    by_cases hft : fr = t
    · subst hft
      rw [if_pos rfl, if_pos gA_r, hd]
    · rw [if_neg (fun e => hft ((nI_eq (by omega) (by omega)).mp e)), if_pos (by omega)]
      have hrec : ∀ k, k < 16 → jGt R 0 1 (nI k) = nI fr → jDp R (nI t) n (d + 1) (nI k) = if gA (gP R) t k = true then nI (gD (gP R) t) else -1 := fun k hk e => by
        obtain ⟨g1, g2, g3⟩ := h.child hk hf16 e
        exact ih (d + 1) k g1 (by rw [hT.d_s g1 g2, g3, hd]) (by omega)
      have hv : ¬ nI (gD (gP R) t) = -1 := nI_m1 (by have := hT.d_le ht; omega)
      obtain ⟨i1, i2⟩ := jDpL_c (R := R) (rec := fun x => jDp R (nI t) n (d + 1) x) (fr := nI fr) hv 16 0 (fun k _ h2 e => by
        show jDp R (nI t) n (d + 1) (nI k) = _ ∨ _
        rw [hrec k (by omega) e]
        by_cases ha : gA (gP R) t k = true
        · rw [if_pos ha]; exact Or.inl rfl
        · rw [if_neg ha]; exact Or.inr rfl)
      by_cases ha : gA (gP R) t fr = true
      · rw [if_pos ha]
        obtain ⟨c, g1, g2, g3, g4⟩ := hT.a_c t ht (fun e => hft e.symm) ha
        refine i1 ⟨c, by omega, by have := gU_16 g1; omega, by rw [h.g1p g1 g2, g3], ?_⟩
        show jDp R (nI t) n (d + 1) (nI c) = _
        rw [hrec c (gU_16 g1) (by rw [h.g1p g1 g2, g3]), if_pos g4]
      · rw [if_neg ha]
        refine i2 (fun k _ h2 e => ?_)
        show jDp R (nI t) n (d + 1) (nI k) = _
        rw [hrec k (by omega) e, if_neg ?_]
        intro g
        obtain ⟨g1, g2, g3⟩ := h.child (by omega) hf16 e
        refine ha ?_
        have := hT.a_p g1 g2 t ht g
        rw [g3] at this; exact this
theorem jT1.srch (h : jT1 R) {t : Nat} (ht : gU R t = true) : jSrch R (nI t) = nI (gD (gP R) t) := by
  unfold jSrch
  have := h.dp ht 20 0 0 h.u0 gD_0 (by omega)
  rw [if_pos (h.tree.a_0 t ht)] at this
  exact this
theorem jT1.fork1 (h : jT1 R) {x : Nat} (hx : gU R x = true) : jFk R 16 (nI x) (nI x) = nI x := by
  have := gU_16 hx
  rw [jFk, if_neg (nI_m1 (by omega)), if_pos (by rw [h.rch hx this]; exact gA_r)]
theorem jT1.fork0 (h : jT1 R) {x : Nat} (hx : gU R x = true) : jFk R 16 (nI 0) (nI x) = nI 0 := by
  rw [jFk, if_neg (nI_m1 (by omega)), if_pos (by rw [h.rch hx (by omega)]; exact h.tree.a_0 x hx)]
/-- the lowest broken -/
theorem jLb_m1 {b : Int32} : ∀ n, jLb R n b (-1) = b := by
  intro n
  cases n with
  | zero => rfl
  | succ n => rw [jLb, if_pos rfl]
theorem jHolds_0 : jHolds R (nI 0) = true := by unfold jHolds; rw [if_pos (show nI 0 = 0 from rfl)]
theorem jLb_s (n : Nat) (b x : Int32) : jLb R (n + 1) b x = if x = -1 then b else jLb R n (if jHolds R x = true then b else x) (jGt R 0 1 x) := rfl
theorem jT1.lb (h : jT1 R) : ∀ n x, gU R x = true → ∀ b, jLb R n b (nI x) = if jLb R n (-1) (nI x) = -1 then b else jLb R n (-1) (nI x) := by
  intro n
  induction n with
  | zero => intro x _ b; rw [jLb, jLb, if_pos rfl]
  | succ n ih =>
    intro x hx b
    have hx16 := gU_16 hx
    rw [jLb_s n b, jLb_s n (-1), if_neg (nI_m1 (by omega)), if_neg (nI_m1 (by omega))]
    have hn : ¬ nI x = -1 := nI_m1 (by omega)
    by_cases h0 : x = 0
    · subst h0
      rw [h.g10, jLb_m1, jLb_m1]
      rw [if_pos jHolds_0, if_pos jHolds_0, if_pos rfl]
    · rw [h.g1p hx h0]
      have hp := (h.p hx h0).2.2.1
      cases hh : jHolds R (nI x) with
      | true => simp only [if_true]; exact ih _ hp b
      | false =>
        simp only [Bool.false_eq_true, if_false]
        rw [ih _ hp (nI x)]
        by_cases hl : jLb R n (-1) (nI (gP R x)) = -1
        · rw [if_pos hl, if_neg hn]
        · rw [if_neg hl, if_neg hl]
theorem jT1.lb_st (h : jT1 R) : ∀ m x, gU R x = true → gDf (gP R) m x < m → ∀ b, jLb R (m + 1) b (nI x) = jLb R m b (nI x) := by
  intro m
  induction m with
  | zero => intro x _ h1; omega
  | succ m ih =>
    intro x hx h1 b
    have hx16 := gU_16 hx
    rw [jLb_s (m + 1) b, jLb_s m b, if_neg (nI_m1 (by omega)), if_neg (nI_m1 (by omega))]
    by_cases h0 : x = 0
    · subst h0; rw [h.g10, jLb_m1, jLb_m1]
    · rw [h.g1p hx h0]
      rw [gDf_s m x, if_neg h0] at h1
      exact ih _ (h.p hx h0).2.2.1 (by omega) _
theorem jT1.low0 (h : jT1 R) : jLow R (nI 0) = -1 := by
  unfold jLow
  rw [jLb_s 15 (-1), if_neg (nI_m1 (by omega)), h.g10, jLb_m1, if_pos jHolds_0]
theorem jT1.low_s (h : jT1 R) {x : Nat} (hx : gU R x = true) (h0 : x ≠ 0) : jLow R (nI x) = if jLow R (nI (gP R x)) = -1 then (if jHolds R (nI x) = true then -1 else nI x) else jLow R (nI (gP R x)) := by
  have hx16 := gU_16 hx
  have hp := (h.p hx h0).2.2.1
  have e := h.lb_st 16 x hx (by have := h.tree.d_le hx; unfold gD at this; omega) (-1)
  show jLb R 16 (-1) (nI x) = _
  rw [← e, jLb_s 16 (-1), if_neg (nI_m1 (by omega)), h.g1p hx h0, h.lb 16 _ hp]
  rfl
theorem jT1.low_c (h : jT1 R) : ∀ x, gU R x = true → (jLow R (nI x) = -1 ∧ ∀ z, gA (gP R) x z = true → jHolds R (nI z) = true) ∨ (∃ y, gU R y = true ∧ y ≠ 0 ∧ jLow R (nI x) = nI y ∧ gA (gP R) x y = true ∧ jHolds R (nI y) = false ∧ jLow R (nI (gP R y)) = -1) := by
  have hT := h.tree
  refine hT.ind (fun x hx ih => ?_)
  have hx16 := gU_16 hx
  by_cases h0 : x = 0
  · subst h0
    refine Or.inl ⟨h.low0, fun z hz => ?_⟩
    by_cases hz0 : z = 0
    · subst hz0; exact jHolds_0
    · rw [gA_z hz0] at hz; cases hz
  · rw [h.low_s hx h0]
    rcases ih h0 with ⟨g1, g2⟩ | ⟨y, g1, g2, g3, g4, g5, g6⟩
    · rw [if_pos g1]
      cases hh : jHolds R (nI x) with
      | true =>
        refine Or.inl ⟨rfl, fun z hz => ?_⟩
        by_cases hxz : x = z
        · subst hxz; exact hh
        · rw [hT.a_s hx h0 hxz] at hz; exact g2 z hz
      | false => exact Or.inr ⟨x, hx, h0, by rw [if_neg (by decide)], gA_r, hh, g1⟩
    · have hy := gU_16 g1
      rw [g3, if_neg (nI_m1 (by omega))]
      refine Or.inr ⟨y, g1, g2, rfl, ?_, g5, g6⟩
      by_cases hxy : x = y
      · subst hxy; exact gA_r
      · rw [hT.a_s hx h0 hxy]; exact g4
/-- rank: the higher first -/
theorem jT1.rk (h : jT1 R) {x y : Nat} (hx : gU R x = true) (hy : gU R y = true) : (jRk R (nI x) (nI y) = true → gD (gP R) y ≤ gD (gP R) x) ∧ (jRk R (nI x) (nI y) = false → gD (gP R) x ≤ gD (gP R) y) := by
  have h1 := h.tree.d_le hx
  have h2 := h.tree.d_le hy
  unfold jRk
  rw [h.hgt hx, h.hgt hy]
  by_cases he : gD (gP R) x = gD (gP R) y
  · exact ⟨fun _ => by omega, fun _ => by omega⟩
  · rw [if_neg (fun e => he ((nI_eq (by omega) (by omega)).mp e))]
    simp only [Bool.not_eq_true', decide_eq_false_iff_not, Bool.not_eq_false', decide_eq_true_eq]
    rw [nI_leI (by omega) (by omega)]
    exact ⟨fun g => by omega, fun g => g⟩
theorem jT1.bestL (h : jT1 R) : ∀ n i s, gU R s = true → jLow R (nI s) = -1 → i + n ≤ 16 → ∃ t, jIter (fun (a : Int32) i => if (jUsed R 0 (nI i) && jRk R (nI i) a && decide (jLow R (nI i) = -1)) = true then nI i else a) n i (nI s) = nI t ∧ gU R t = true ∧ jLow R (nI t) = -1 ∧ gD (gP R) s ≤ gD (gP R) t ∧ ∀ k, i ≤ k → k < i + n → gU R k = true → jLow R (nI k) = -1 → gD (gP R) k ≤ gD (gP R) t := by
  intro n
  induction n with
  | zero => intro i s h1 h2 h3; exact ⟨s, rfl, h1, h2, Nat.le_refl _, fun k g1 g2 => by omega⟩
  | succ n ih =>
    intro i s h1 h2 h3
    rw [jIter]
    by_cases hc : (jUsed R 0 (nI i) && jRk R (nI i) (nI s) && decide (jLow R (nI i) = -1)) = true
    · rw [if_pos hc]
      simp only [Bool.and_eq_true, decide_eq_true_eq] at hc
      rw [jUsed_g (by omega)] at hc
      obtain ⟨t, g1, g2, g3, g4, g5⟩ := ih (i + 1) i hc.1.1 hc.2 (by omega)
      have hr := (h.rk hc.1.1 h1).1 hc.1.2
      refine ⟨t, g1, g2, g3, by omega, fun k q1 q2 q3 q4 => ?_⟩
      by_cases hk : k = i
      · subst hk; exact g4
      · exact g5 k (by omega) (by omega) q3 q4
    · rw [if_neg hc]
      obtain ⟨t, g1, g2, g3, g4, g5⟩ := ih (i + 1) s h1 h2 (by omega)
      refine ⟨t, g1, g2, g3, g4, fun k q1 q2 q3 q4 => ?_⟩
      by_cases hk : k = i
      · subst hk
        rw [jUsed_g (by omega), q3, q4] at hc
        have hf : jRk R (nI k) (nI s) = false := by
          cases hr : jRk R (nI k) (nI s) with
          | false => rfl
          | true => rw [hr] at hc; exact absurd (by decide) hc
        have := (h.rk q3 h1).2 hf
        omega
      · exact g5 k (by omega) (by omega) q3 q4
theorem jT1.best (h : jT1 R) : ∃ t, jBest R = nI t ∧ gU R t = true ∧ jLow R (nI t) = -1 ∧ ∀ k, gU R k = true → jLow R (nI k) = -1 → gD (gP R) k ≤ gD (gP R) t := by
  obtain ⟨t, g1, g2, g3, -, g5⟩ := h.bestL 16 0 0 h.u0 h.low0 (by omega)
  exact ⟨t, g1, g2, g3, fun k hk hl => g5 k (by omega) (by have := gU_16 hk; omega) hk hl⟩
end GWalks
