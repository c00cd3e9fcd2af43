/-! ===== the law's own wrappers of questions ===== -/
section JWrap
variable {κ : Nat → Nat} {L : Nat → Nat} {R : Nat → Nat → Int32} {V : Nat → Int32} {T : Nat → List Int32} {w : va_W} {P : Int32 → va_W → Prop} {x y : Int32}
def jPar (R : Nat → Nat → Int32) (x : Int32) : Int32 := if jSlotOf R 0 x = -1 ∨ jSlotOf R 0 x = 0 then -1000 else jGt R 0 0 (jGt R 0 1 (jSlotOf R 0 x))
def jNoc (R : Nat → Nat → Int32) (x : Int32) : Int32 := if jSlotOf R 0 x = -1 ∨ jSlotOf R 0 x = 0 then -1000 else jGt R 0 4 (jSlotOf R 0 x)
def jFin (R : Nat → Nat → Int32) (x : Int32) : Int32 := if jSlotOf R 0 x = -1 ∨ jLow R (jSlotOf R 0 x) = -1 then -1000 else jGt R 0 0 (jLow R (jSlotOf R 0 x))
def jTpr (R : Nat → Nat → Int32) (x : Int32) : Int32 := if jTipAt R x = -1 then -1000 else jGt R 0 0 (jTipAt R x)
theorem l_parentOf (h : jRq L R V T w) (k : P (jPar R x) w) : w_L_parentOf κ w (L 316) x P := by
  unfold w_L_parentOf w_L_parentOf_b0
  unfold jPar at k
  refine ⟨⟨_, h.lg⟩, q_parentOf h (fun e => ?_) (fun g1 g2 => ?_)⟩
  · rw [if_pos e] at k
    rw [if_pos rfl]; exact k
  · rw [if_neg (fun e => e.elim g1 g2)] at k; exact k
theorem l_nonceOf (h : jRq L R V T w) (k : P (jNoc R x) w) : w_L_nonceOf κ w (L 316) x P := by
  unfold w_L_nonceOf w_L_nonceOf_b0
  unfold jNoc at k
  refine ⟨⟨_, h.lg⟩, q_nonceOf h (fun e => ?_) (fun g1 g2 => ?_)⟩
  · rw [if_pos e] at k
    rw [if_pos rfl]; exact k
  · rw [if_neg (fun e => e.elim g1 g2)] at k; exact k
theorem l_firstInvalid (h : jRq L R V T w) (hs : ∀ x, jSz R 0 x ≤ 4) (k : ∀ w', jRq L R V T w' → P (jFin R x) w') : w_L_firstInvalid κ w (L 316) x P := by
  unfold w_L_firstInvalid w_L_firstInvalid_b0
  unfold jFin at k
  refine ⟨⟨_, h.lg⟩, q_firstInvalid h hs (fun e w1 h1 => ?_) (fun g1 g2 w1 h1 => ?_)⟩
  · have k := k w1 h1
    rw [if_pos e] at k
    rw [if_pos rfl]; exact k
  · have k := k w1 h1
    rw [if_neg (fun e => e.elim g1 g2)] at k; exact k
theorem l_tipAtRank (h : jRq L R V T w) (k : P (jTpr R x) w) : w_L_tipAtRank κ w (L 316) x P := by
  unfold w_L_tipAtRank w_L_tipAtRank_b0
  unfold jTpr at k
  refine ⟨⟨_, h.lg⟩, q_tipAtRank h (fun e => ?_) (fun g1 => ?_)⟩
  · rw [if_pos e] at k
    rw [if_pos rfl]; exact k
  · rw [if_neg g1] at k; exact k
theorem l_combine (k : P (jCo x y) w) : w_L_combine κ w x y P := k
theorem q_writerOf (h : jRq L R V T w) (hb : jSlotOf R 0 x ≠ -1) (h0 : jSlotOf R 0 x ≠ 0) (k : P (jGt R 0 2 (jSlotOf R 0 x)) w) : w_X8_writerOfZ κ w (L 316) x P := by
  unfold w_X8_writerOfZ w_X8_writerOfZ_b0
  refine (jgR_eq h.lg rfl).mpr ((jgR_eq (h.st (s := 0) (by omega)) rfl).mpr ⟨⟨_, h.lg⟩, ?_⟩)
  unfold w_X8_requireWrittenZ w_X8_requireWrittenZ_b0
  refine (jgR_eq h.lg rfl).mpr ⟨⟨_, h.st (s := 0) (by omega)⟩, s_slotOfQ h ?_⟩
  rw [if_neg hb, if_neg h0]
  exact ⟨⟨_, h.row (r := 2) (by omega)⟩, s_gq h 2 (by omega) (by omega) (by omega) k⟩
/-- the number of the block at a rank, by counting up from 0: n turns -/
def jBa (R : Nat → Nat → Int32) : Nat → Int32 → Nat → Option Nat
  | 0, _, _ => none
  | n + 1, left, b => if 0 < left ∨ jSlotOf R 0 (nI b) = -1 then jBa R n (left - (if jSlotOf R 0 (nI b) = -1 then 0 else 1)) (b + 1) else some b
theorem l_blockAtL (h : jRq L R V T w) : ∀ (n : Nat) (left : Int32) (b c : Nat), jBa R n left b = some c → P (nI c) w → w_L_blockAt_b4 n κ w (L 316) left (nI b) P := by
  intro n
  induction n with
  | zero => intro left b c hc k; cases hc
  | succ n ih =>
    intro left b c hc k
    rw [jBa] at hc
    rw [w_L_blockAt_b4]
    have go : jBa R n (left - (if jSlotOf R 0 (nI b) = -1 then 0 else 1)) (b + 1) = some c → w_L_blockAt_b16 κ w (L 316) left (nI b) (fun w_ z_a0 z_x2 z_x3 => w_L_blockAt_b4 n κ w_ z_a0 z_x2 z_x3 P) P := by
      intro hc
      unfold w_L_blockAt_b16
      refine ⟨⟨_, h.lg⟩, q_exists h ?_⟩
      refine jif_b (fun hu => ?_) (fun hu => ?_)
      · have hb : jSlotOf R 0 (nI b) = -1 := Decidable.not_not.mp (of_decide_eq_false hu)
        rw [if_pos hb] at hc
        unfold w_L_blockAt_b30
        rw [nI_1]
        exact ih _ _ _ hc k
      · have hb : jSlotOf R 0 (nI b) ≠ -1 := of_decide_eq_true hu
        rw [if_neg hb] at hc
        unfold w_L_blockAt_b30
        rw [nI_1]
        exact ih _ _ _ hc k
    by_cases hl : 0 < left
    · rw [if_pos hl]
      rw [if_pos (Or.inl hl)] at hc
      exact go hc
    · rw [if_neg hl]
      refine ⟨⟨_, h.lg⟩, q_exists h ?_⟩
      refine jif_b (fun hu => ?_) (fun hu => ?_)
      · have hb : jSlotOf R 0 (nI b) = -1 := Decidable.not_not.mp (of_decide_eq_false hu)
        rw [if_pos (Or.inr hb)] at hc
        exact go hc
      · have hb : jSlotOf R 0 (nI b) ≠ -1 := of_decide_eq_true hu
        rw [if_neg (fun e => e.elim hl hb)] at hc
        cases hc
        exact k
theorem l_blockAt (h : jRq L R V T w) {c : Nat} (hc : jBa R 20000 x 0 = some c) (k : P (nI c) w) : w_L_blockAt κ w (L 316) x P := by
  unfold w_L_blockAt w_L_blockAt_b0
  rw [jFu_eq]
  exact l_blockAtL h 20000 x 0 c hc k
end JWrap
