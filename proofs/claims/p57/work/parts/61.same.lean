/-! ===== what the live state's rows alone decide ===== -/
def gEr (R' R : Nat → Nat → Int32) : Prop := ∀ k, gRw k ∨ k = 4 → R' k = R k
section GSame
variable {R R' : Nat → Nat → Int32} {V V' : Nat → Int32} {x y z : Int32}
theorem gEq.r (h : gEq R' V' R V) : gEr R' R := fun k hk => by
  rcases hk with hk | hk
  · exact h.1 k hk
  · subst hk; exact h.1 4 ⟨by omega, by omega⟩
theorem jGt_e (e : gEr R' R) {j : Nat} (hj : j < 12) (h7 : j ≠ 7) (h11 : j ≠ 11) : jGt R' 0 j x = jGt R 0 j x := by
  unfold jGt
  rw [Nat.mul_zero, Nat.zero_add, e j (Or.inl ⟨by omega, h7⟩)]
theorem jSz_e (e : gEr R' R) {t : Nat} (ht : t < 2) : jSz R' t x = jSz R t x := by
  unfold jSz
  rcases (show t = 0 ∨ t = 1 by omega) with rfl | rfl
  · rw [show jTb 0 = 5 from rfl, e 5 (Or.inl ⟨by omega, by omega⟩)]
  · rw [show jTb 1 = 9 from rfl, e 9 (Or.inl ⟨by omega, by omega⟩)]
theorem jFl_e (e : gEr R' R) {t : Nat} (ht : t < 2) : jFl R' t x y = jFl R t x y := by
  unfold jFl
  rcases (show t = 0 ∨ t = 1 by omega) with rfl | rfl
  · rw [show jTb 0 + 1 = 6 from rfl, e 6 (Or.inl ⟨by omega, by omega⟩)]
  · rw [show jTb 1 + 1 = 10 from rfl, e 10 (Or.inl ⟨by omega, by omega⟩)]
theorem jRoot_e (e : gEr R' R) {t : Nat} (ht : t < 2) : jRoot R' t x = jRoot R t x := by
  unfold jRoot; simp only [jSz_e e ht, jFl_e e ht]
theorem jUsed_e (e : gEr R' R) : jUsed R' 0 x = jUsed R 0 x := by
  unfold jUsed; rw [jGt_e e (by omega) (by omega) (by omega)]
theorem jSlotOf_e (e : gEr R' R) : jSlotOf R' 0 x = jSlotOf R 0 x := by
  unfold jSlotOf
  simp only [jGt_e e (show 0 < 12 by omega) (show 0 ≠ 7 by omega) (show 0 ≠ 11 by omega)]
theorem jFreeSlot_e (e : gEr R' R) : jFreeSlot R' 0 = jFreeSlot R 0 := by
  unfold jFreeSlot
  simp only [jUsed_e e]
theorem jHolds_e (e : gEr R' R) : jHolds R' x = jHolds R x := by
  unfold jHolds
  simp only [jGt_e e (show 1 < 12 by omega) (show 1 ≠ 7 by omega) (show 1 ≠ 11 by omega), jGt_e e (show 2 < 12 by omega) (show 2 ≠ 7 by omega) (show 2 ≠ 11 by omega), jGt_e e (show 3 < 12 by omega) (show 3 ≠ 7 by omega) (show 3 ≠ 11 by omega), jGt_e e (show 4 < 12 by omega) (show 4 ≠ 7 by omega) (show 4 ≠ 11 by omega), jRoot_e e (show 0 < 2 by omega)]
theorem jLb_e (e : gEr R' R) : ∀ (n : Nat) (b x : Int32), jLb R' n b x = jLb R n b x := by
  intro n
  induction n with
  | zero => intro b x; rfl
  | succ n ih => intro b x; simp only [jLb, jHolds_e e, jGt_e e (show 1 < 12 by omega) (show 1 ≠ 7 by omega) (show 1 ≠ 11 by omega), ih]
theorem jLow_e (e : gEr R' R) : jLow R' x = jLow R x := jLb_e e _ _ _
theorem jRch_e (e : gEr R' R) : ∀ (n : Nat) (x y : Int32), jRch R' n x y = jRch R n x y := by
  intro n
  induction n with
  | zero => intro x y; rfl
  | succ n ih => intro x y; simp only [jRch, jGt_e e (show 1 < 12 by omega) (show 1 ≠ 7 by omega) (show 1 ≠ 11 by omega), ih]
theorem jfRaise_e (h : gEq R' V' R V) : jfRaise V' = jfRaise V := by unfold jfRaise; rw [h.2 0 (by omega)]
theorem jfHold_e (h : gEq R' V' R V) : jfHold R' V' x y = jfHold R V x y := by unfold jfHold; rw [h.2 0 (by omega), jSz_e h.r (by omega)]
theorem jfAppend_e (h : gEq R' V' R V) : jfAppend R' V' x = jfAppend R V x := by unfold jfAppend; rw [h.2 0 (by omega), jFreeSlot_e h.r, jGt_e h.r (by omega) (by omega) (by omega), jLow_e h.r]
theorem jfTurn_e (h : gEq R' V' R V) : jfTurn R' V' x y = jfTurn R V x y := by unfold jfTurn; rw [h.2 0 (by omega), jSlotOf_e h.r]
theorem jfRemove_e (h : gEr R' R) : jfRemove R' x = jfRemove R x := by unfold jfRemove; rw [jSlotOf_e h]
theorem jfSwap_e (h : gEr R' R) : jfSwap R' x y z = jfSwap R x y z := by unfold jfSwap; rw [jSlotOf_e h, jSz_e h (by omega)]
theorem jfMend_e (h : gEr R' R) : jfMend R' x = jfMend R x := by unfold jfMend; rw [jfRemove_e h, jSlotOf_e h, jHolds_e h]
theorem gU_e (e : gEr R' R) : gU R' = gU R := gU_c (e 0 (Or.inl ⟨by omega, by omega⟩))
theorem gN_e (e : gEr R' R) : gN R' = gN R := gN_c (e 0 (Or.inl ⟨by omega, by omega⟩))
theorem gP_e (e : gEr R' R) : gP R' = gP R := gP_c (e 1 (Or.inl ⟨by omega, by omega⟩))
end GSame
/-! ===== a change that can be undone ===== -/
def gOp (R : Nat → Nat → Int32) (V : Nat → Int32) (R' : Nat → Nat → Int32) (V' : Nat → Int32) : Prop := gFr R V R' V' ∧ ∀ m S U, m < 8 → gBk R V m S U → gBk R' V' (m + 1) S U
section GOp
variable {κ : Nat → Nat} {L : Nat → Nat} {R R2 : Nat → Nat → Int32} {V V2 : Nat → Int32} {T : Nat → List Int32} {w : va_W} {B B' : Nat} {P : Int32 → va_W → Prop} {x y z : Int32}
theorem gKeep (h : jInv R V B) {j : Nat} (hj : j < 8) (hv : V 44 = nI j) (hB : B ≤ B') (ht : jTree R2 V2 B') (hl : gLv (jCpR R (3 + j) 0) (jKpV V j) R2 V2) : jInv R2 V2 B' ∧ gOp R V R2 V2 := by
  obtain ⟨k1, k2, k3⟩ := h.keep hj hv
  exact ⟨k1.live hB hl.1 hl.2 ht, k3.tr (gFr.live hl.1 hl.2), fun m S U hm hb => (hb.keep hm hj hv).live (by omega) hl.1 hl.2⟩
theorem jInv.j (h : jInv R V B) : ∃ j, j < 8 ∧ V 44 = nI j := by
  obtain ⟨-, ⟨j, k, h1, -, h2, -⟩, -⟩ := h; exact ⟨j, h1, h2⟩
theorem u_addHill (h : jRq L R V T w) (hi : jInv R V B) (hκ : jEn κ) (k1 : P (-100000000) w) (k0 : ∀ R' V' v w', jRq L R' V' T w' → jInv R' V' B → gOp R V R' V' → ¬ v < 0 → P v w') : w_L_addHill κ w (L 316) P := by
  obtain ⟨j, hj, hv⟩ := hi.j
  obtain ⟨i1, i2, -⟩ := hi.keep hj hv
  unfold w_L_addHill w_L_addHill_b0
  refine ⟨⟨_, h.lg⟩, s_addHill h hκ hj hv (fun e => ?_) (fun e w1 h1 => ?_)⟩
  · have : jfRaise V = 6 := by unfold jfRaise at e ⊢; split <;> simp_all
    rw [this]; simp (config := { decide := true }) only [jEx, if_true]; exact k1
  · exact t_raise h1 i1.t0 (by rw [jfRaise_e i2]; exact e) (fun R' V' v w' g1 g2 g3 g4 => by
      obtain ⟨a, b⟩ := gKeep hi hj hv (Nat.le_refl _) g2 g3
      exact k0 R' V' v w' g1 a b g4)
theorem u_collect (h : jRq L R V T w) (hi : jInv R V B) (hκ : jEn κ) (k1 : jfHold R V x y ≠ 2 → P (-100000000) w) (k0 : ∀ R' V' v w', jRq L R' V' T w' → jInv R' V' B → gOp R V R' V' → ¬ v < 0 → P v w') : w_L_collect κ w (L 316) x y P := by
  obtain ⟨j, hj, hv⟩ := hi.j
  obtain ⟨i1, i2, -⟩ := hi.keep hj hv
  refine l_collect h hκ hj hv k1 (fun e w1 h1 => ?_)
  exact t_hold h1 i1.t0 (by rw [jfHold_e i2]; exact e) (fun R' V' v w' g1 g2 g3 g4 => by
      obtain ⟨a, b⟩ := gKeep hi hj hv (Nat.le_refl _) g2 g3
      exact k0 R' V' v w' g1 a b g4)
theorem u_write (h : jRq L R V T w) (hi : jInv R V B) (hB : B < 2 ^ 30) (hκ : jEn κ) (k1 : jfAppend R V x ≠ 2 → ∀ w', jRq L R V T w' → P (-100000000) w') (k0 : jfAppend R V x = 2 → ∀ R' V' v w', jRq L R' V' T w' → jInv R' V' (B + 1) → gOp R V R' V' → ¬ v < 0 → P v w') : w_L_writeBlock κ w (L 316) x P := by
  obtain ⟨j, hj, hv⟩ := hi.j
  obtain ⟨i1, i2, -⟩ := hi.keep hj hv
  refine l_writeBlock h hκ hi.t0.2.1.s0 hj hv k1 (fun e w1 h1 => ?_)
  exact t_append h1 i1.t0 hB (by rw [jfAppend_e i2]; exact e) (fun R' V' v w' g1 g2 g3 g4 => by
      obtain ⟨a, b⟩ := gKeep hi hj hv (Nat.le_succ _) g2 g3
      exact k0 e R' V' v w' g1 a b g4)
theorem u_follow (h : jRq L R V T w) (hi : jInv R V B) (hκ : jEn κ) (k1 : P (-100000000) w) (k0 : ∀ R' V' v w', jRq L R' V' T w' → jInv R' V' B → gOp R V R' V' → ¬ v < 0 → P v w') : w_L_follow κ w (L 316) x y P := by
  obtain ⟨j, hj, hv⟩ := hi.j
  obtain ⟨i1, i2, -⟩ := hi.keep hj hv
  unfold w_L_follow w_L_follow_b0
  refine ⟨⟨_, h.lg⟩, s_followF h hκ hj hv (fun e => ?_) (fun e w1 h1 => ?_)⟩
  · rcases jfTurn_v (R := R) (V := V) (a := x) (b := y) with g | g | g
    · exact absurd g e
    · rw [g]; simp (config := { decide := true }) only [jEx, if_true, if_false]; exact k1
    · rw [g]; simp (config := { decide := true }) only [jEx, if_true, if_false]; exact k1
  · exact t_turn h1 i1.t0 (by rw [jfTurn_e i2]; exact e) (fun R' V' v w' g1 g2 g3 g4 => by
      obtain ⟨a, b⟩ := gKeep hi hj hv (Nat.le_refl _) g2 g3
      exact k0 R' V' v w' g1 a b g4)
theorem u_melt (h : jRq L R V T w) (hi : jInv R V B) (hκ : jEn κ) (k1 : jfRemove R x ≠ 2 → P (-100000000) w) (k0 : ∀ R' V' v w', jRq L R' V' T w' → jInv R' V' B → gOp R V R' V' → ¬ v < 0 → P v w') : w_L_melt κ w (L 316) x P := by
  obtain ⟨j, hj, hv⟩ := hi.j
  obtain ⟨i1, i2, -⟩ := hi.keep hj hv
  unfold w_L_melt w_L_melt_b0
  refine ⟨⟨_, h.lg⟩, s_meltF h hκ hj hv (fun e => ?_) (fun e w1 h1 => ?_)⟩
  · have k1 := k1 e
    rcases jfRemove_v (R := R) (a := x) with g | g | g
    · exact absurd g e
    · rw [g]; simp (config := { decide := true }) only [jEx, if_true, if_false]; exact k1
    · rw [g]; simp (config := { decide := true }) only [jEx, if_true, if_false]; exact k1
  · exact t_remove h1 i1.t0 (by rw [jfRemove_e i2.r]; exact e) (fun R' V' v w' g1 g2 g3 g4 => by
      obtain ⟨a, b⟩ := gKeep hi hj hv (Nat.le_refl _) g2 g3
      exact k0 R' V' v w' g1 a b g4)
theorem u_replace (h : jRq L R V T w) (hi : jInv R V B) (hκ : jEn κ) (k1 : jfSwap R x y z ≠ 2 → P (-100000000) w) (k0 : ∀ R' V' v w', jRq L R' V' T w' → jInv R' V' B → gOp R V R' V' → ¬ v < 0 → P v w') : w_L_replaceFlake κ w (L 316) x y z P := by
  obtain ⟨j, hj, hv⟩ := hi.j
  obtain ⟨i1, i2, -⟩ := hi.keep hj hv
  unfold w_L_replaceFlake w_L_replaceFlake_b0
  refine ⟨⟨_, h.lg⟩, s_replaceF h hκ hj hv (fun e => ?_) (fun e w1 h1 => ?_)⟩
  · have k1 := k1 e
    rcases jfSwap_v (R := R) (a := x) (b := y) (c := z) with g | g | g | g
    · exact absurd g e
    · rw [g]; simp (config := { decide := true }) only [jEx, if_true, if_false]; exact k1
    · rw [g]; simp (config := { decide := true }) only [jEx, if_true, if_false]; exact k1
    · rw [g]; simp (config := { decide := true }) only [jEx, if_true, if_false]; exact k1
  · exact t_swap h1 i1.t0 (by rw [jfSwap_e i2.r]; exact e) (fun R' V' v w' g1 g2 g3 g4 => by
      obtain ⟨a, b⟩ := gKeep hi hj hv (Nat.le_refl _) g2 g3
      exact k0 R' V' v w' g1 a b g4)
/-- a repair: what it leaves is told whole -/
theorem l_repair (h : jRq L R V T w) (hi : jInv R V B) (hκ : jEn κ) (k1 : jfMend R x ≠ 2 → ∀ w', jRq L R V T w' → P (-100000000) w') {j : Nat} (hj : j < 8) (hv : V 44 = nI j) (k0 : jfMend R x = 2 → ∀ w', jRq L (jCpR R (3 + j) 0) (jKpV V j) T w' → w_X7_mend κ w' (L 312) x P) : w_L_repair κ w (L 316) x P := by
  unfold w_L_repair w_L_repair_b0
  refine ⟨⟨_, h.lg⟩, s_repairF h hκ hi.t0.2.1.s0 hj hv (fun e w9 h9 => ?_) k0⟩
  have k1 := k1 e w9 h9
  rcases jfMend_v (R := R) (a := x) with g | g | g | g
  · exact absurd g e
  · rw [g]; simp (config := { decide := true }) only [jEx, if_true, if_false]; exact k1
  · rw [g]; simp (config := { decide := true }) only [jEx, if_true, if_false]; exact k1
  · rw [g]; simp (config := { decide := true }) only [jEx, if_true, if_false]; exact k1
theorem u_repair (h : jRq L R V T w) (hi : jInv R V B) (hκ : jEn κ) (k1 : ∀ w', jRq L R V T w' → P (-100000000) w') (k0 : ∀ R' V' v w', jRq L R' V' T w' → jInv R' V' B → gOp R V R' V' → ¬ v < 0 → P v w') : w_L_repair κ w (L 316) x P := by
  obtain ⟨j, hj, hv⟩ := hi.j
  obtain ⟨i1, i2, -⟩ := hi.keep hj hv
  refine l_repair h hi hκ (fun _ => k1) hj hv (fun e w1 h1 => ?_)
  exact t_mend h1 i1.t0 (by rw [jfMend_e i2.r]; exact e) (fun R' V' v w' g1 g2 g3 g4 => by
      obtain ⟨a, b⟩ := gKeep hi hj hv (Nat.le_refl _) g2 g3
      exact k0 R' V' v w' g1 a b g4)
theorem u_undo (h : jRq L R V T w) (hi : jInv R V B) (k1 : V 45 = 0 → P (-100000000) w) (k0 : ¬ V 45 = 0 → ∀ R' V' v w', jRq L R' V' T w' → jInv R' V' B → gFr R V R' V' → (∀ m S U, m < 8 → gBk R V (m + 1) S U → gBk R' V' m S U) → ¬ v < 0 → P v w') : w_L_undo κ w (L 316) P := by
  obtain ⟨j, hj, hv⟩ := hi.j
  refine l_undo h (Nat.mod_lt (j + 7) (show 8 > 0 by omega)) (gBack hj hv) k1 (fun e w1 h1 => ?_)
  obtain ⟨a, b, c⟩ := hi.back hj hv e
  exact k0 e _ _ _ w1 h1 a b (fun m S U hm hb => (hb.back hm hj hv).2) c
theorem u_save (h : jRq L R V T w) (hi : jInv R V B) (k : ∀ R' V' v w', jRq L R' V' T w' → jInv R' V' B → gEq R' V' R V → v = nI (gC (gU R)) → ¬ V' 46 = 0 → gEq (jSh R' 1) (jSv V' 1) R V → P v w') : w_X8_save κ w (L 316) P := by
  have hi' := hi
  obtain ⟨-, ⟨j, k9, h1, h2, h3, h4⟩, -, h6⟩ := hi
  have e0 : gEq (jCpR R 1 0) (jSetV (jCpV V 1 0) 46 1) R V := by
    have := gCp_ne (R := R) (V := V) (V' := jSetV (jCpV V 1 0) 46 1) (s := 1) (u := 0) (t := 0) (by omega) (fun i hi => jSetV_ne (by omega))
    rw [jSh_0, jSv_0, jSh_0, jSv_0] at this; exact this
  refine q_save h (fun w1 g => k _ _ _ w1 g ?_ e0 ?_ (by simp [jSetV]) ?_)
  · refine hi'.cp (by omega) (by omega) (fun i hi => jSetV_ne (by omega)) ⟨j, k9, h1, h2, ?_, ?_⟩ ?_
    · rw [jSetV_ne (by omega), jCpV_hi (by omega) (by omega)]; exact h3
    · rw [jSetV_ne (by omega), jCpV_hi (by omega) (by omega)]; exact h4
    · rw [jSetV_ne (by omega), jCpV_hi (by omega) (by omega)]; exact h6
  · rw [jBlk_g, gU_e e0.r]
  · have := gCp_s (R := R) (V := V) (V' := jSetV (jCpV V 1 0) 46 1) (s := 1) (u := 0) (fun i hi => jSetV_ne (by omega))
    rw [jSh_0, jSv_0] at this; exact this
theorem u_restore (h : jRq L R V T w) (hi : jInv R V B) (k1 : V 46 = 0 → P (-100000000) w) (k0 : ¬ V 46 = 0 → ∀ R' V' v w', jRq L R' V' T w' → jInv R' V' B → gEq R' V' (jSh R 1) (jSv V 1) → v = nI (gC (gU (jSh R 1))) → V' 45 = 0 → P v w') : w_L_restore κ w (L 316) P := by
  have hi' := hi
  obtain ⟨-, ⟨j, k9, h1, h2, h3, h4⟩, -, h6⟩ := hi
  refine l_restore h k1 (fun e w1 g => ?_)
  have e0 : gEq (jCpR R 0 1) (jSetV (jCpV V 0 1) 45 0) (jSh R 1) (jSv V 1) := by
    have := gCp_s (R := R) (V := V) (V' := jSetV (jCpV V 0 1) 45 0) (s := 0) (u := 1) (fun i hi => jSetV_ne (by omega))
    rw [jSh_0, jSv_0] at this; exact this
  refine k0 e _ _ _ w1 g ?_ e0 ?_ (by simp [jSetV])
  · refine hi'.cp (by omega) (by omega) (fun i hi => jSetV_ne (by omega)) ⟨j, 0, h1, by omega, ?_, by simp [jSetV]; rfl⟩ ?_
    · rw [jSetV_ne (by omega), jCpV_hi (by omega) (by omega)]; exact h3
    · rw [jSetV_ne (by omega), jCpV_hi (by omega) (by omega)]; exact h6
  · rw [jBlk_g, gU_e e0.r]
end GOp
