/-! ===== more wrappers ===== -/
section JWrap2
variable {κ : Nat → Nat} {L : Nat → Nat} {R : Nat → Nat → Int32} {V : Nat → Int32} {T : Nat → List Int32} {w : va_W} {P : Int32 → va_W → Prop} {x y : Int32}
theorem q_different (h : jRq L R V T w) (hs : ∀ x, jSz R 0 x ≤ 4) (hb : jSlotOf R 0 x ≠ -1) (k : ∀ w', jRq L R V T w' → P (jCm R (jSlotOf R 0 x) (jSlotOf R 0 x)) w') : w_X8_differentFlakesZ κ w (L 316) x P := by
  unfold w_X8_differentFlakesZ w_X8_differentFlakesZ_b0
  exact ⟨⟨_, h.lg⟩, s_reqZ h hb ((jgR_eq h.lg rfl).mpr ⟨⟨_, h.sv⟩, s_common h hs k⟩)⟩
theorem q_commonF (h : jRq L R V T w) (hs : ∀ x, jSz R 0 x ≤ 4) (hb : jSlotOf R 0 x ≠ -1) (hb2 : jSlotOf R 0 y ≠ -1) (k : ∀ w', jRq L R V T w' → P (jCm R (jSlotOf R 0 x) (jSlotOf R 0 y)) w') : w_X8_commonFlakesZ κ w (L 316) x y P := by
  unfold w_X8_commonFlakesZ w_X8_commonFlakesZ_b0
  exact ⟨⟨_, h.lg⟩, s_reqZ h hb ((jgR_eq h.lg rfl).mpr ⟨⟨_, h.lg⟩, s_reqZ h hb2 ⟨⟨_, h.sv⟩, s_common h hs k⟩⟩)⟩
theorem l_failedCommand (h : jRq L R V T w) (k : P (if V 48 = -1 then -1000 else V 48) w) : w_L_failedCommand κ w (L 316) P := by
  unfold w_L_failedCommand w_L_failedCommand_b0
  refine ⟨⟨_, h.lg⟩, ?_⟩
  unfold w_X8_failedCommand w_X8_failedCommand_b0
  refine (jgI_eq h.lg rfl).mpr ?_
  by_cases h0 : V 48 = -1
  · rw [if_pos h0] at k ⊢
    show (if ("java/util/NoSuchElementException" : String) = "java/util/NoSuchElementException" then P (-1000) w else False)
    rw [if_pos rfl]; exact k
  · rw [if_neg h0] at k ⊢
    exact (jgI_eq h.lg rfl).mpr k
theorem l_undo (h : jRq L R V T w) {i : Nat} (hi : i < 8) (hv : jrem ((V 44 + 8) - 1) 8 = nI i) (k1 : V 45 = 0 → P (-100000000) w) (k0 : ¬ V 45 = 0 → ∀ w', jRq L (jCpR R 0 (3 + i)) (jTbV V i) T w' → P (V 45 - 1) w') : w_L_undo κ w (L 316) P := by
  unfold w_L_undo w_L_undo_b0
  exact ⟨⟨_, h.lg⟩, s_undoF h hi hv (fun e => by rw [if_pos rfl]; exact k1 e) k0⟩
theorem l_restore (h : jRq L R V T w) (k1 : V 46 = 0 → P (-100000000) w) (k0 : ¬ V 46 = 0 → ∀ w', jRq L (jCpR R 0 1) (jSetV (jCpV V 0 1) 45 0) T w' → P (jCt (fun i => jUsed (jCpR R 0 1) 0 (nI i))) w') : w_L_restore κ w (L 316) P := by
  unfold w_L_restore w_L_restore_b0
  exact ⟨⟨_, h.lg⟩, q_restore h (fun e => by rw [if_pos rfl]; exact k1 e) k0⟩
/-- what a refusal's class is among those that a wrapper catches -/
theorem jfHold_v {a b : Int32} : jfHold R V a b = 2 ∨ jfHold R V a b = 3 ∨ jfHold R V a b = 5 ∨ jfHold R V a b = 6 := by
  unfold jfHold
  (repeat' split) <;> simp
theorem jfAppend_v {a : Int32} : jfAppend R V a = 2 ∨ jfAppend R V a = 3 ∨ jfAppend R V a = 6 ∨ jfAppend R V a = 7 := by
  unfold jfAppend
  (repeat' split) <;> simp
theorem jfTurn_v {a b : Int32} : jfTurn R V a b = 2 ∨ jfTurn R V a b = 3 ∨ jfTurn R V a b = 4 := by
  unfold jfTurn
  (repeat' split) <;> simp
theorem jfRemove_v {a : Int32} : jfRemove R a = 2 ∨ jfRemove R a = 4 ∨ jfRemove R a = 5 := by
  unfold jfRemove
  (repeat' split) <;> simp
theorem jfSwap_v {a b c : Int32} : jfSwap R a b c = 2 ∨ jfSwap R a b c = 3 ∨ jfSwap R a b c = 4 ∨ jfSwap R a b c = 5 := by
  unfold jfSwap
  (repeat' split) <;> simp
theorem jfMend_v {a : Int32} : jfMend R a = 2 ∨ jfMend R a = 4 ∨ jfMend R a = 5 ∨ jfMend R a = 6 := by
  unfold jfMend
  have := jfRemove_v (R := R) (a := a)
  split
  · split <;> simp
  · rcases this with e | e | e <;> simp [e]
variable {j : Nat}
theorem l_collect (h : jRq L R V T w) (hκ : jEn κ) (hj : j < 8) (hv : V 44 = nI j) (k1 : jfHold R V x y ≠ 2 → P (-100000000) w) (k0 : jfHold R V x y = 2 → ∀ w', jRq L (jCpR R (3 + j) 0) (jKpV V j) T w' → w_X7_hold κ w' (L 312) x y P) : w_L_collect κ w (L 316) x y P := by
  unfold w_L_collect w_L_collect_b0
  refine ⟨⟨_, h.lg⟩, s_collect h hκ hj hv (fun e => ?_) k0⟩
  have k := k1 e
  rcases jfHold_v (R := R) (V := V) (a := x) (b := y) with g | g | g | g
  · exact absurd g e
  · rw [g]; simp (config := { decide := true }) only [jEx, if_true, if_false]; exact k
  · rw [g]; simp (config := { decide := true }) only [jEx, if_true, if_false]; exact k
  · rw [g]; simp (config := { decide := true }) only [jEx, if_true, if_false]; exact k
theorem l_writeBlock (h : jRq L R V T w) (hκ : jEn κ) (hs : ∀ x, jSz R 0 x ≤ 4) (hj : j < 8) (hv : V 44 = nI j) (k1 : jfAppend R V x ≠ 2 → ∀ w', jRq L R V T w' → P (-100000000) w') (k0 : jfAppend R V x = 2 → ∀ w', jRq L (jCpR R (3 + j) 0) (jKpV V j) T w' → w_X7_append κ w' (L 312) x P) : w_L_writeBlock κ w (L 316) x P := by
  unfold w_L_writeBlock w_L_writeBlock_b0
  refine ⟨⟨_, h.lg⟩, s_writeF h hκ hs hj hv (fun e w9 h9 => ?_) k0⟩
  have k := k1 e w9 h9
  rcases jfAppend_v (R := R) (V := V) (a := x) with g | g | g | g
  · exact absurd g e
  · rw [g]; simp (config := { decide := true }) only [jEx, if_true, if_false]; exact k
  · rw [g]; simp (config := { decide := true }) only [jEx, if_true, if_false]; exact k
  · rw [g]; simp (config := { decide := true }) only [jEx, if_true, if_false]; exact k
end JWrap2
