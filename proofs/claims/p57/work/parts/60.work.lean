/-! ===== the changes, carried out on what holds always ===== -/
def gLv (R : Nat → Nat → Int32) (V : Nat → Int32) (R' : Nat → Nat → Int32) (V' : Nat → Int32) : Prop := (∀ r, 12 ≤ r → R' r = R r) ∧ ∀ i, 4 ≤ i → V' i = V i
section JWork2
variable {κ : Nat → Nat} {L : Nat → Nat} {R : Nat → Nat → Int32} {V : Nat → Int32} {T : Nat → List Int32} {w : va_W} {B : Nat} {P : Int32 → va_W → Prop} {x y z : Int32}
theorem gPut_hi {k i r : Nat} {v : Int32} (hk : k < 12) (hr : 12 ≤ r) : gPut R k i v r = R r := gPut_ne (by omega)
/-- a hill that is there -/
theorem jHill {hc : Nat} (h4 : hc ≤ 4) (e : V 0 = nI hc) (hx : decide (¬ x < 0 ∧ ¬ V 0 ≤ x) = true) : ∃ a, a < hc ∧ x = nI a := by
  have hx := of_decide_eq_true hx
  obtain ⟨j, hj, ej⟩ := nI_of hx.1
  refine ⟨j, ?_, ej⟩
  have := hx.2
  rw [e, ej, nI_leI (by omega) hj] at this
  omega
theorem jHill_of {hc a : Nat} (h4 : hc ≤ 4) (e : V 0 = nI hc) (ha : a < hc) : ¬ nI a < 0 ∧ ¬ V 0 ≤ nI a := ⟨nI_pos (by omega), by rw [e, nI_leI (by omega) (by omega)]; omega⟩
theorem jIsF_n (h : jIsF x = true) : ∃ a, a < 100 ∧ x = nI a := by
  have h := of_decide_eq_true h
  obtain ⟨j, hj, ej⟩ := nI_of h.1
  refine ⟨j, ?_, ej⟩
  have := h.2
  rw [ej, show (100 : Int32) = nI 100 from rfl, nI_leI (by omega) hj] at this
  omega
theorem t_raise (h : jRq L R V T w) (ht : jTree R V B) (hf : jfRaise V = 2) (k : ∀ R' V' v w', jRq L R' V' T w' → jTree R' V' B → gLv R V R' V' → ¬ v < 0 → P v w') : w_X7_raiseHill κ w (L 312) P := by
  obtain ⟨hc, h4, e, -⟩ := ht.2.2.2.2
  have hl : hc < 4 := by
    unfold jfRaise at hf
    by_cases g : 4 ≤ V 0
    · rw [if_pos g] at hf; omega
    · rw [e, show (4 : Int32) = nI 4 from rfl, nI_leI (by omega) (by omega)] at g; omega
  refine s_raise h (fun w1 h1 => k _ _ _ w1 h1 (k_raise ht e hl) ⟨fun r hr => ?_, fun i hi => jSetV_ne (by omega)⟩ (by rw [e]; exact nI_pos (by omega)))
  rw [e, jPut_g (k := 8) (by omega) (show hc < 4 from hl), jPut_g (k := 9) (by omega) (show hc < 4 from hl), gPut_ne (by omega), gPut_ne (by omega)]
theorem t_hold (h : jRq L R V T w) (ht : jTree R V B) (hf : jfHold R V x y = 2) (k : ∀ R' V' v w', jRq L R' V' T w' → jTree R' V' B → gLv R V R' V' → ¬ v < 0 → P v w') : w_X7_hold κ w (L 312) x y P := by
  obtain ⟨hc, h4, e, -⟩ := ht.2.2.2.2
  unfold jfHold at hf
  by_cases g1 : decide (¬ x < 0 ∧ ¬ V 0 ≤ x) = false
  · rw [if_pos g1] at hf; omega
  rw [if_neg g1] at hf
  by_cases g2 : jIsF y = false
  · rw [if_pos g2] at hf; omega
  rw [if_neg g2] at hf
  obtain ⟨a, ha, rfl⟩ := jHill h4 e (by simpa using g1)
  obtain ⟨c, hc9, rfl⟩ := jIsF_n (by simpa using g2)
  obtain ⟨m, hm, em, es⟩ := jSz1_of ht.2.1 (show a < 4 by omega)
  have hm4 : m < 4 := by
    by_cases g3 : 4 ≤ jSz R 1 (nI a)
    · rw [if_pos g3] at hf; omega
    · rw [es, show (4 : Int32) = nI 4 from rfl, nI_leI (by omega) (by omega)] at g3; omega
  refine s_holdW h (fun w1 h1 => k _ _ _ w1 h1 (k_hold ht (by omega) hm4 em hc9) ⟨fun r hr => ?_, fun i hi => rfl⟩ ?_)
  · rw [jAdd_g (by omega) hm4 em, gPut_ne (by omega), gPut_ne (by omega)]
  · rw [jSz1 (by omega), jAdd_g (by omega) hm4 em, gPut_s, if_pos rfl]; exact nI_pos (by omega)
theorem t_turn (h : jRq L R V T w) (ht : jTree R V B) (hf : jfTurn R V x y = 2) (k : ∀ R' V' v w', jRq L R' V' T w' → jTree R' V' B → gLv R V R' V' → ¬ v < 0 → P v w') : w_X7_turn κ w (L 312) x y P := by
  obtain ⟨hc, h4, e, hq⟩ := ht.2.2.2.2
  have h1 := ht.1
  unfold jfTurn at hf
  by_cases g1 : decide (¬ x < 0 ∧ ¬ V 0 ≤ x) = false
  · rw [if_pos g1] at hf; omega
  rw [if_neg g1] at hf
  by_cases g2 : jSlotOf R 0 y = -1
  · rw [if_pos g2] at hf; omega
  obtain ⟨a, ha, rfl⟩ := jHill h4 e (by simpa using g1)
  rcases h1.slot_c y with ⟨s, s1, -, s3⟩ | ⟨-, s2⟩
  · obtain ⟨q, q1, q2⟩ := hq a ha
    refine s_turn h (fun w1 g => k _ _ _ w1 g (by rw [s3]; exact k_turn ht (by omega) s1) ⟨fun r hr => ?_, fun i hi => rfl⟩ ?_)
    · rw [jPut_g (k := 8) (by omega) (show a < 4 by omega), gPut_ne (by omega)]
    · rw [jGt_8 (by omega), q2, jGt_5 (by omega) (gU_16 q1), (h1.n q1).1]; exact nI_pos (h1.n q1).2
  · exact absurd s2 g2
theorem t_swap (h : jRq L R V T w) (ht : jTree R V B) (hf : jfSwap R x y z = 2) (k : ∀ R' V' v w', jRq L R' V' T w' → jTree R' V' B → gLv R V R' V' → ¬ v < 0 → P v w') : w_X7_swap κ w (L 312) x y z P := by
  have h1 := ht.1
  unfold jfSwap at hf
  by_cases g1 : jSlotOf R 0 x = -1
  · rw [if_pos g1] at hf; omega
  rw [if_neg g1] at hf
  by_cases g2 : decide (¬ y < 0 ∧ ¬ jSz R 0 (jSlotOf R 0 x) ≤ y) = false
  · rw [if_pos g2] at hf; omega
  rw [if_neg g2] at hf
  by_cases g3 : jIsF z = false
  · rw [if_pos g3] at hf; omega
  obtain ⟨c, hc9, rfl⟩ := jIsF_n (by simpa using g3)
  rcases h1.slot_c x with ⟨s, s1, -, s3⟩ | ⟨-, s2⟩
  · have s16 := gU_16 s1
    obtain ⟨m, hm, em⟩ := ht.2.1.1 s s16
    have g2 : ¬ y < 0 ∧ ¬ jSz R 0 (jSlotOf R 0 x) ≤ y := by simpa using g2
    obtain ⟨p, hp, rfl⟩ := nI_of g2.1
    have hpm : p < m := by
      have := g2.2
      rw [s3, jSz0 s16, em, nI_leI (by omega) hp] at this; omega
    refine s_swap h (fun w1 g => k _ _ _ w1 g (by rw [s3]; exact k_swap ht s16 (by omega) hc9) ⟨fun r hr => ?_, fun i hi => rfl⟩ ?_)
    · rw [s3, j4, jPut_g (k := 6) (by omega) (show 4 * s + p < 64 by omega), gPut_ne (by omega)]
    · rw [s3, jFl0 s16 (by omega)]
      obtain ⟨a, ha, ea⟩ := ht.2.1.2.2.1 (4 * s + p) (by omega)
      rw [ea]; exact nI_pos (by omega)
  · exact absurd s2 g1
theorem jfRemove_2 (h1 : jT1 R) (hf : jfRemove R x = 2) : ∃ s, gU R s = true ∧ s ≠ 0 ∧ x = nI (gN R s) ∧ jSlotOf R 0 x = nI s := by
  unfold jfRemove at hf
  rcases h1.slot_c x with ⟨s, s1, s2, s3⟩ | ⟨-, s2⟩
  · refine ⟨s, s1, ?_, s2, s3⟩
    rintro rfl
    rw [s3, if_neg (by decide), if_pos (by decide)] at hf; omega
  · rw [if_pos s2] at hf; omega
theorem jfMend_2 (h1 : jT1 R) (hf : jfMend R x = 2) : ∃ s, gU R s = true ∧ s ≠ 0 ∧ x = nI (gN R s) ∧ jSlotOf R 0 x = nI s ∧ jHolds R (nI s) = false := by
  unfold jfMend at hf
  by_cases g : jfRemove R x = 2
  · obtain ⟨s, s1, s2, s3, s4⟩ := jfRemove_2 h1 g
    refine ⟨s, s1, s2, s3, s4, ?_⟩
    rw [if_pos g] at hf
    by_cases hh : jHolds R (jSlotOf R 0 x) = false
    · rw [s4] at hh; exact hh
    · rw [if_neg hh] at hf; omega
  · rw [if_neg g] at hf; exact absurd hf g
theorem t_mend (h : jRq L R V T w) (ht : jTree R V B) (hf : jfMend R x = 2) (k : ∀ R' V' v w', jRq L R' V' T w' → jTree R' V' B → gLv R V R' V' → ¬ v < 0 → P v w') : w_X7_mend κ w (L 312) x P := by
  have h1 := ht.1
  obtain ⟨s, s1, s2, -, s4, -⟩ := jfMend_2 h1 hf
  have s16 := gU_16 s1
  have ht2 := k_mend ht s1 s2
  refine s_mend h ht.2.1.s0 (fun w1 g => k _ _ _ w1 g (by rw [s4]; exact ht2) ⟨fun r hr => ?_, fun i hi => rfl⟩ ?_)
  · rw [s4, jSeal_g h1 s1 s2, gPut_ne (by omega), gPut_ne (by omega)]
  · rw [s4, jGt_5 (by omega) s16]
    have hu : gU (jSeal R (nI s)) s = true := by
      rw [gU_c (R := R) (by rw [jSeal_g h1 s1 s2, gPut_ne (by omega), gPut_ne (by omega)])]; exact s1
    obtain ⟨a, ha, ea⟩ := ht2.2.2.1.h hu
    rw [ea]; exact nI_pos (by omega)
theorem t_append (h : jRq L R V T w) (ht : jTree R V B) (hB : B < 2 ^ 30) (hf : jfAppend R V x = 2) (k : ∀ R' V' v w', jRq L R' V' T w' → jTree R' V' (B + 1) → gLv R V R' V' → ¬ v < 0 → P v w') : w_X7_append κ w (L 312) x P := by
  obtain ⟨hc, h4, e, hq⟩ := ht.2.2.2.2
  have h1 := ht.1
  unfold jfAppend at hf
  by_cases g1 : decide (¬ x < 0 ∧ ¬ V 0 ≤ x) = false
  · rw [if_pos g1] at hf; omega
  rw [if_neg g1] at hf
  by_cases g2 : jFreeSlot R 0 = -1
  · rw [if_pos g2] at hf; omega
  obtain ⟨a, ha, rfl⟩ := jHill h4 e (by simpa using g1)
  rcases jFree_c h1 with ⟨f, f1, f2, f3, f4⟩ | ⟨-, f2⟩
  · obtain ⟨q, q1, q2⟩ := hq a ha
    obtain ⟨m, hm, em, es⟩ := jSz1_of ht.2.1 (show a < 4 by omega)
    obtain ⟨ka, kb⟩ := k_append ht hB f1 f2 f3 f4 (show a < 4 by omega) q2 q1 hm em
    have hs : jSz (jAp0 R V (nI a) m) 0 (jFreeSlot R 0) ≤ 4 := by
      obtain ⟨-, -, -, r5, -⟩ := gAp0_r (R := R) (f := f) (x := a) (q := q) (m := m) (v := V 1)
      rw [jAp0_g f1 (by omega) hm f4 q2, f4, jSz0 f1, r5]
      simp only [if_true]
      exact (nI_leI (b := 4) (by omega) (by omega)).mpr hm
    refine s_append h hm es hs (fun w1 g => k _ _ _ w1 g kb ⟨fun r hr => ?_, fun i hi => ?_⟩ ?_)
    · obtain ⟨-, -, -, -, -, rr⟩ := gAp0_r (R := R) (f := f) (x := a) (q := q) (m := m) (v := V 1)
      rw [ka, gPut_ne (by omega), gPut_ne (by omega), gPut_ne (by omega), gPut_ne (by omega)]
      exact rr r (by omega) (by omega) (by omega) (by omega) (by omega)
    · rw [jSetV_ne (by omega), jSetV_ne (by omega)]
    · obtain ⟨nx, me, g1, g2, -⟩ := ht.2.2.2.1
      rw [g2]; exact nI_pos (by omega)
  · exact absurd f2 g2
theorem jHl_hi {D : Nat → Int32} {pa : Int32} : ∀ n i R, i + n ≤ 4 → ∀ r, r ≠ 8 → jIter (jHl D pa) n i R r = R r := fun n i R h r hr => (gHl_l n i R h).1 r hr
theorem t_remove (h : jRq L R V T w) (ht : jTree R V B) (hf : jfRemove R x = 2) (k : ∀ R' V' v w', jRq L R' V' T w' → jTree R' V' B → gLv R V R' V' → ¬ v < 0 → P v w') : w_X7_remove κ w (L 312) x P := by
  obtain ⟨hc, h4, e, hq⟩ := ht.2.2.2.2
  have h1 := ht.1
  obtain ⟨s, s1, s2, -, s4⟩ := jfRemove_2 h1 hf
  refine s_remove h h4 e (fun D w1 g => ?_)
  obtain ⟨a1, a2, -⟩ := k_remove (D := D) ht s1 s2 e h4 rfl
  rw [s4] at g ⊢
  refine k _ _ _ w1 g a2 ⟨fun r hr => ?_, fun i hi => jSetV_ne (by omega)⟩ (by rw [a1]; have := gC_16 (fun i => gU R i && gA (gP R) i s); exact nI_pos (by omega))
  unfold jRm
  rw [(gFr_l 16 0 _ (by omega)).1 r (by omega)]
  exact (gHl_l hc 0 R (by omega)).1 r (by omega)
theorem t_carry (h : jRq L R V T w) (ht : jTree R V B) (hB : B < 2 ^ 30) {t a b c : Int32} (hf : jfOf R V t a b c = 2) (k : ∀ R' V' v w', jRq L R' V' T w' → jTree R' V' (B + 1) → gLv R V R' V' → P v w') : w_X7_carryOut κ w (L 312) t a b c P := by
  unfold w_X7_carryOut w_X7_carryOut_b0
  unfold jfOf at hf
  have k2 : ∀ R' V' v w', jRq L R' V' T w' → jTree R' V' B → gLv R V R' V' → ¬ v < 0 → P v w' := fun R' V' v w' g1 g2 g3 _ => k R' V' v w' g1 (g2.mono (by omega)) g3
  by_cases h0 : t = 0
  · rw [if_pos h0] at hf ⊢; exact ⟨⟨_, h.wk⟩, t_raise h ht hf k2⟩
  rw [if_neg h0] at hf ⊢
  by_cases h1 : t = 1
  · rw [if_pos h1] at hf ⊢; exact ⟨⟨_, h.wk⟩, t_hold h ht hf k2⟩
  rw [if_neg h1] at hf ⊢
  by_cases h2 : t = 2
  · rw [if_pos h2] at hf ⊢; exact ⟨⟨_, h.wk⟩, t_append h ht hB hf (fun R' V' v w' g1 g2 g3 _ => k R' V' v w' g1 g2 g3)⟩
  rw [if_neg h2] at hf ⊢
  by_cases h3 : t = 3
  · rw [if_pos h3] at hf ⊢; exact ⟨⟨_, h.wk⟩, t_turn h ht hf k2⟩
  rw [if_neg h3] at hf ⊢
  by_cases h4 : t = 4
  · rw [if_pos h4] at hf ⊢; exact ⟨⟨_, h.wk⟩, t_remove h ht hf k2⟩
  rw [if_neg h4] at hf ⊢
  by_cases h5 : t = 5
  · rw [if_pos h5] at hf ⊢; exact ⟨⟨_, h.wk⟩, t_swap h ht hf k2⟩
  rw [if_neg h5] at hf ⊢
  exact ⟨⟨_, h.wk⟩, t_mend h ht hf k2⟩
end JWork2
