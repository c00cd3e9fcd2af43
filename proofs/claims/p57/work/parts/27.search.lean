/-! ===== heights by search, roots by halves, both ways ===== -/
def jDpL (R : Nat → Nat → Int32) (rec : Int32 → Int32) (fr : Int32) : Nat → Nat → Int32
  | 0, _ => -1
  | m + 1, i => if jGt R 0 1 (nI i) = fr then (if rec (nI i) = -1 then jDpL R rec fr m (i + 1) else rec (nI i)) else jDpL R rec fr m (i + 1)
def jDp (R : Nat → Nat → Int32) (tg : Int32) : Nat → Nat → Int32 → Int32
  | 0, d, _ => nI d
  | n + 1, d, fr => if fr = tg then nI d else if d < 16 then jDpL R (fun x => jDp R tg n (d + 1) x) fr 16 0 else -1
section JSearch
variable {κ : Nat → Nat} {L : Nat → Nat} {R : Nat → Nat → Int32} {V : Nat → Int32} {T : Nat → List Int32} {w : va_W}
theorem s_dpL (h : jRq L R V T w) {RC : va_W → Nat → Int32 → Int32 → Int32 → (Int32 → va_W → Prop) → Prop} {rec : Int32 → Int32} {fr tg : Int32} {d : Nat} (hRC : ∀ (x : Int32) (P : Int32 → va_W → Prop), P (rec x) w → RC w (L 1) x tg (nI (d + 1)) P) {P : Int32 → va_W → Prop} : ∀ n i : Nat, i ≤ 16 → 16 < n + i → P (jDpL R rec fr (16 - i) i) w → w_X6_depthBelow_b18 n κ RC w (L 1) fr tg (nI d) (nI i) P := by
  intro n
  induction n with
  | zero => intro i h1 h2; omega
  | succ n ih =>
    intro i h1 h2 k
    rw [w_X6_depthBelow_b18]
    by_cases hi : i = 16
    · subst hi
      rw [if_pos j16_self]
      exact k
    · rw [if_neg (j16_le (by omega))]
      rw [show 16 - i = (16 - (i + 1)) + 1 by omega, jDpL] at k
      refine ⟨⟨_, h.row (r := 1) (by omega)⟩, s_gq h 1 (by omega) (by omega) (by omega) ?_⟩
      by_cases hp : jGt R 0 1 (nI i) = fr
      · rw [if_pos hp] at k ⊢
        rw [nI_1]
        refine hRC _ _ ?_
        by_cases hz : rec (nI i) = -1
        · rw [if_pos hz] at k ⊢
          unfold w_X6_depthBelow_b56
          rw [nI_1]
          exact ih (i + 1) (by omega) (by omega) k
        · rw [if_neg hz] at k ⊢
          exact k
      · rw [if_neg hp] at k ⊢
        unfold w_X6_depthBelow_b56
        rw [nI_1]
        exact ih (i + 1) (by omega) (by omega) k
theorem s_dp (h : jRq L R V T w) {tg : Int32} : ∀ (n d : Nat) (fr : Int32) (P : Int32 → va_W → Prop), d ≤ 16 → 16 < n + d → P (jDp R tg n d fr) w → w_X6_depthBelow_r n κ w (L 1) fr tg (nI d) P := by
  intro n
  induction n with
  | zero => intro d fr P h1 h2; omega
  | succ n ih =>
    intro d fr P h1 h2 k
    rw [w_X6_depthBelow_r]
    unfold w_X6_depthBelow_b0
    rw [jDp] at k
    by_cases he : fr = tg
    · rw [if_pos he] at k ⊢; exact k
    · rw [if_neg he] at k ⊢
      by_cases hd : d < 16
      · rw [if_pos hd] at k
        rw [if_pos (show nI d < (16 : Int32) from nI_lt (a := d) (b := 16) hd (by decide))]
        exact s_dpL h (rec := fun x => jDp R tg n (d + 1) x) (fun x P9 k9 => ih (d + 1) x P9 (by omega) (by omega) k9) jFu 0 (by omega) (by rw [jFu_eq]; omega) k
      · rw [if_neg hd] at k
        rw [if_neg (show ¬ nI d < (16 : Int32) from nI_nlt (a := d) (b := 16) (by omega) (by omega))]
        exact k
def jSrch (R : Nat → Nat → Int32) (x : Int32) : Int32 := jDp R x 20 0 0
theorem s_search (h : jRq L R V T w) {x : Int32} {P : Int32 → va_W → Prop} (k : P (jSrch R x) w) : w_X6_heightBySearch κ w (L 311) x P := by
  unfold w_X6_heightBySearch w_X6_heightBySearch_b0
  refine (jgR_eq h.sv rfl).mpr ((jgR_eq (h.st (s := 0) (by omega)) rfl).mpr ?_)
  exact s_dp h 20 0 0 _ (by omega) (by omega) k
theorem j4 {i a : Nat} : nI i * 4 + nI a = nI (4 * i + a) := by
  rw [show nI i * 4 = nI (4 * i) from by show Int32.ofNat i * Int32.ofNat 4 = Int32.ofNat (4 * i); rw [← Int32.ofNat_mul, Nat.mul_comm], nI_add]
/-- an owner whose list is not empty is in its row -/
theorem jSz_in {t : Nat} {x : Int32} (h : 0 < jSz R t x) : ∃ i : Nat, i < 100 ∧ x = nI i := by
  unfold jSz jRd at h
  by_cases h0 : x < 0
  · rw [if_pos h0] at h; exact absurd h (by decide)
  · rw [if_neg h0] at h
    by_cases h1 : Int32.ofNat (jLn (jTb t)) ≤ x
    · rw [if_pos h1] at h; exact absurd h (by decide)
    · obtain ⟨i, hi, rfl⟩ := nI_of h0
      have hl := jLn_lt (jTb t)
      refine ⟨i, ?_, rfl⟩
      rcases Nat.lt_or_ge i (jLn (jTb t)) with g | g
      · omega
      · exact absurd (nI_le g hi) h1
theorem jRq.rowt (h : jRq L R V T w) {t : Nat} (ht : t < 22) : jlk w (L (jTb t + 1)) = some (.inr (6, [.ref (L (139 + (jTb t + 1)))])) := h.row (by have := jTb_lt ht; omega)
theorem s_atf (h : jRq L R V T w) {t : Nat} (ht : t < 22) {i a : Nat} {P : Int32 → va_W → Prop} (k : P (jFl R t (nI i) (nI a)) w) : w_X3_at κ w (L (jTb t + 1)) (nI (4 * i + a)) P := by
  obtain ⟨R1, e, h1⟩ := h
  have hb := jTb_lt ht
  refine s_at h1 (by omega) ?_
  rw [← jFl_q e ht] at k
  unfold jFl at k
  rw [j4] at k
  exact k
/-- one flake; two; three or four -/
theorem s_half1 (h : jRq L R V T w) {t : Nat} (ht : t < 22) {i a n : Nat} {e9 : Int32} {P : Int32 → va_W → Prop} (k : P (jFl R t (nI i) (nI a)) w) : w_X0_rootOfHalf_r (n + 1) κ w (L (jTb t + 1)) (nI (4 * i + a)) e9 1 P := by
  rw [w_X0_rootOfHalf_r]
  unfold w_X0_rootOfHalf_b0
  rw [if_neg (by decide)]
  exact ⟨⟨_, h.rowt ht⟩, s_atf h ht k⟩
theorem s_half2 (h : jRq L R V T w) {t : Nat} (ht : t < 22) {i a m n : Nat} (hi : i < 100) (ha : a < 8) (hm : m < 8) {P : Int32 → va_W → Prop} (k : P (if m ≤ a + 1 then jCo (jFl R t (nI i) (nI a)) (jFl R t (nI i) (nI a)) else jCo (jFl R t (nI i) (nI a)) (jFl R t (nI i) (nI (a + 1)))) w) : w_X0_rootOfHalf_r (n + 2) κ w (L (jTb t + 1)) (nI (4 * i + a)) (nI (4 * i + m)) 2 P := by
  rw [w_X0_rootOfHalf_r]
  unfold w_X0_rootOfHalf_b0
  rw [if_pos (by decide), show (2 : Int32) / 2 = 1 from by decide]
  refine s_half1 h ht ?_
  rw [show nI (4 * i + a) + 1 = nI (4 * i + (a + 1)) from nI_1 _]
  by_cases hc : m ≤ a + 1
  · rw [if_pos hc] at k
    rw [if_pos (nI_le (by omega) (by omega))]
    exact k
  · rw [if_neg hc] at k
    rw [if_neg (nI_ge (by omega) (by omega))]
    exact s_half1 h ht k
theorem s_half4 (h : jRq L R V T w) {t : Nat} (ht : t < 22) {i m : Nat} (hi : i < 100) (hm : m = 3 ∨ m = 4) {P : Int32 → va_W → Prop} (k : P (jCo (jCo (jFl R t (nI i) (nI 0)) (jFl R t (nI i) (nI 1))) (if m = 3 then jCo (jFl R t (nI i) (nI 2)) (jFl R t (nI i) (nI 2)) else jCo (jFl R t (nI i) (nI 2)) (jFl R t (nI i) (nI 3)))) w) : w_X0_rootOfHalf_r 12 κ w (L (jTb t + 1)) (nI (4 * i + 0)) (nI (4 * i + m)) 4 P := by
  rw [w_X0_rootOfHalf_r]
  unfold w_X0_rootOfHalf_b0
  rw [if_pos (by decide), show (4 : Int32) / 2 = 2 from by decide]
  refine s_half2 (n := 9) h ht hi (by omega) (by omega) ?_
  rw [if_neg (show ¬ m ≤ 0 + 1 by omega)]
  rw [show nI (4 * i + 0) + 2 = nI (4 * i + 2) from nI_add (4 * i + 0) 2]
  rw [if_neg (show ¬ nI (4 * i + m) ≤ nI (4 * i + 2) from nI_ge (by omega) (by omega))]
  refine s_half2 (n := 9) h ht hi (by omega) (by omega) ?_
  rcases hm with rfl | rfl
  · rw [if_pos (by omega)]
    exact k
  · rw [if_neg (by omega)]
    exact k
theorem s_halves (h : jRq L R V T w) {t : Nat} (ht : t < 22) {x : Int32} (hs : jSz R t x ≤ 4) {P : Int32 → va_W → Prop} (k : P (jRoot R t x) w) : w_X0_rootByHalves κ w (L (278 + t)) x P := by
  have hb := jTb_lt ht
  have hat : ∀ K : Int32 → va_W → Prop, K (jSz R t x) w → w_X3_at κ w (L (jTb t)) x K := fun K kk => by
    obtain ⟨R1, e, h1⟩ := h
    refine s_at h1 (by omega) ?_
    rw [← jSz_q e ht] at kk
    exact kk
  unfold w_X0_rootByHalves w_X0_rootByHalves_b0
  refine (jgR_eq (h.tab ht) rfl).mpr ⟨⟨_, h.row (by omega)⟩, hat _ ?_⟩
  unfold jRoot at k
  by_cases h0 : 0 < jSz R t x
  · rw [if_pos h0]
    obtain ⟨i, hi, rfl⟩ := jSz_in h0
    have hc : jSz R t (nI i) = 1 ∨ jSz R t (nI i) = 2 ∨ jSz R t (nI i) = 3 ∨ jSz R t (nI i) = 4 := by
      obtain ⟨j, hj, hx⟩ := nI_of2 (M := 4) (n := 4) rfl (fun h9 => by
        have := Int32.lt_iff_toInt_lt.mp h9
        have := Int32.lt_iff_toInt_lt.mp h0
        omega) hs
      rw [hx] at h0 ⊢
      rcases (show j = 0 ∨ j = 1 ∨ j = 2 ∨ j = 3 ∨ j = 4 by omega) with rfl | rfl | rfl | rfl | rfl
      · exact absurd h0 (by decide)
      · exact Or.inl rfl
      · exact Or.inr (Or.inl rfl)
      · exact Or.inr (Or.inr (Or.inl rfl))
      · exact Or.inr (Or.inr (Or.inr rfl))
    have e0 : nI i * 4 = nI (4 * i + 0) := by
      have := j4 (i := i) (a := 0)
      rwa [nI_0, Int32.add_zero] at this
    rw [jFu_eq]
    rcases hc with e | e | e | e
    · rw [e] at k ⊢
      simp (config := { decide := true }) only [if_true, if_false] at k
      rw [w_X0_rootByHalves_b20, if_neg (by decide), if_pos (by decide)]
      unfold w_X0_rootByHalves_b41
      refine (jgR_eq (h.tab ht) rfl).mpr ?_
      unfold w_X0_rootOfHalf
      rw [e0]
      exact s_half1 (n := 11) h ht k
    · rw [e] at k ⊢
      simp (config := { decide := true }) only [if_true, if_false] at k
      rw [w_X0_rootByHalves_b20, if_neg (by decide), if_neg (by decide)]
      rw [w_X0_rootByHalves_b20, if_neg (by decide), if_pos (by decide)]
      unfold w_X0_rootByHalves_b41
      refine (jgR_eq (h.tab ht) rfl).mpr ?_
      unfold w_X0_rootOfHalf
      rw [show nI i * 4 + 2 = nI (4 * i + 2) from j4 (a := 2), e0, show (1 : Int32) * 2 = 2 from by decide]
      exact s_half2 (n := 10) h ht hi (by omega) (by omega) k
    · rw [e] at k ⊢
      simp (config := { decide := true }) only [if_true, if_false] at k
      rw [w_X0_rootByHalves_b20, if_neg (by decide), if_neg (by decide)]
      rw [w_X0_rootByHalves_b20, if_neg (by decide), if_neg (by decide)]
      rw [w_X0_rootByHalves_b20, if_neg (by decide), if_pos (by decide)]
      unfold w_X0_rootByHalves_b41
      refine (jgR_eq (h.tab ht) rfl).mpr ?_
      unfold w_X0_rootOfHalf
      rw [show nI i * 4 + 3 = nI (4 * i + 3) from j4 (a := 3), e0, show (1 : Int32) * 2 * 2 = 4 from by decide]
      exact s_half4 h ht hi (Or.inl rfl) k
    · rw [e] at k ⊢
      simp (config := { decide := true }) only [if_true, if_false] at k
      rw [w_X0_rootByHalves_b20, if_neg (by decide), if_neg (by decide)]
      rw [w_X0_rootByHalves_b20, if_neg (by decide), if_neg (by decide)]
      rw [w_X0_rootByHalves_b20, if_neg (by decide), if_pos (by decide)]
      unfold w_X0_rootByHalves_b41
      refine (jgR_eq (h.tab ht) rfl).mpr ?_
      unfold w_X0_rootOfHalf
      rw [show nI i * 4 + 4 = nI (4 * i + 4) from j4 (a := 4), e0, show (1 : Int32) * 2 * 2 = 4 from by decide]
      exact s_half4 h ht hi (Or.inr rfl) k
  · rw [if_neg h0]
    have hz : ∀ m : Int32, 0 < m → ¬ jSz R t x = m := fun m hm e => h0 (by rw [e]; exact hm)
    rw [if_neg (hz 1 (by decide)), if_neg (hz 2 (by decide)), if_neg (hz 3 (by decide)), if_neg (hz 4 (by decide))] at k
    exact k
def jAgr (R : Nat → Nat → Int32) (x : Int32) : Bool := !jUsed R 0 x || decide (jHgt R x = jSrch R x)
theorem s_agreeL (hs : ∀ x, jSz R 0 x ≤ 4) {P : Int32 → va_W → Prop} : ∀ (n i : Nat) (w : va_W), jRq L R V T w → i ≤ 16 → 16 < n + i → (∀ w', jRq L R V T w' → P (jB2 (jAllL (fun j => jAgr R (nI j)) (16 - i) i)) w') → w_X6_waysAgree_b2 n κ w (L 311) (nI i) P := by
  intro n
  induction n with
  | zero => intro i w h h1 h2; omega
  | succ n ih =>
    intro i w h h1 h2 k
    rw [w_X6_waysAgree_b2]
    by_cases hi : i = 16
    · subst hi
      rw [if_pos j16_self]
      exact k w h
    · rw [if_neg (j16_le (by omega))]
      rw [show 16 - i = (16 - (i + 1)) + 1 by omega] at k
      simp only [jAllL] at k
      refine (jgR_eq h.sv rfl).mpr ⟨⟨_, h.st (s := 0) (by omega)⟩, s_usedQ h ?_⟩
      refine jif_b (fun hu => ?_) (fun hu => ?_)
      · simp only [jAgr, hu, Bool.not_false, Bool.true_or, if_true] at k
        unfold w_X6_waysAgree_b59
        rw [nI_1]
        exact ih (i + 1) w h (by omega) (by omega) k
      · refine ⟨⟨_, h.sv⟩, s_heightQ h ⟨⟨_, h.sv⟩, s_search h ?_⟩⟩
        by_cases he : jHgt R (nI i) = jSrch R (nI i)
        · rw [if_pos he]
          simp only [jAgr, hu, he, decide_true, Bool.not_true, Bool.or_true, if_true] at k
          refine (jgR_eq h.sv rfl).mpr ((jgR_eq (h.st (s := 0) (by omega)) rfl).mpr ⟨⟨_, h.tab (t := 0) (by omega)⟩, s_rootQ h (t := 0) (by omega) (hs _) (fun w1 h1 => ?_)⟩)
          refine (jgR_eq h1.sv rfl).mpr ((jgR_eq (h1.st (s := 0) (by omega)) rfl).mpr ⟨⟨_, h1.tab (t := 0) (by omega)⟩, s_halves h1 (t := 0) (by omega) (hs _) ?_⟩)
          rw [if_pos rfl]
          unfold w_X6_waysAgree_b59
          rw [nI_1]
          exact ih (i + 1) w1 h1 (by omega) (by omega) k
        · rw [if_neg he]
          simp only [jAgr, hu, he, decide_false, Bool.not_true, Bool.or_self, Bool.false_eq_true, if_false] at k
          exact k w h
theorem s_agree (h : jRq L R V T w) (hs : ∀ x, jSz R 0 x ≤ 4) {P : Int32 → va_W → Prop} (k : ∀ w', jRq L R V T w' → P (jB2 (jAllL (fun j => jAgr R (nI j)) 16 0)) w') : w_X6_waysAgree κ w (L 311) P := by
  unfold w_X6_waysAgree w_X6_waysAgree_b0
  exact s_agreeL hs jFu 0 w h (by omega) (by rw [jFu_eq]; omega) k
end JSearch
