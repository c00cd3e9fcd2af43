/-! ===== the law's own root; one block's checks ===== -/
def jK (L : Nat → Nat) (R : Nat → Nat → Int32) (V : Nat → Int32) (w : va_W) : Prop := ∃ T : Nat → List Int32, T 0 = [] ∧ T 3 = [] ∧ jRq L R V T w
section JBlock
variable {κ : Nat → Nat} {L : Nat → Nat} {R : Nat → Nat → Int32} {V : Nat → Int32} {w : va_W} {B : Nat} {P : Int32 → va_W → Prop}
theorem jK.of {T : Nat → List Int32} (h : jRq L R V T w) (h0 : T 0 = []) (h3 : T 3 = []) : jK L R V w := ⟨T, h0, h3, h⟩
theorem s_rootL (h1 : jT1 R) {x m : Nat} (hx : gU R x = true) (hm : m ≤ 4) (em : R 5 x = nI m) : ∀ (n i : Nat) (T : Nat → List Int32) (w : va_W), i ≤ m → m < n + i → jRq L R V T w → T 3 ≠ [] → (T 2).length = 4 → (∀ p, p < i → (T 2).getD p 0 = jFl R 0 (nI x) (nI p)) → (∀ T' w', T' 0 = T 0 → jRq L R V T' w' → P (jRoot R 0 (nI x)) w') → w_L_root_b13 n κ w (L 316) (nI (gN R x)) (nI m) (L 320) (nI i) P := by
  intro n
  have hx16 := gU_16 hx
  have hsl := h1.slot hx
  have hne : jSlotOf R 0 (nI (gN R x)) ≠ -1 := by rw [hsl]; exact nI_m1 (by omega)
  have esz : jSz R 0 (nI x) = nI m := by rw [jSz0 hx16]; exact em
  induction n with
  | zero => intro i T w a b; omega
  | succ n ih =>
    intro i T w a b h h3 hl hp k
    rw [w_L_root_b13]
    by_cases hi : i = m
    · rw [if_pos ((nI_leI (by omega) (by omega)).mpr (by omega))]
      have k := k T w rfl h
      unfold jRoot at k
      rw [esz] at k
      have ld : ∀ (p : Nat), p < m → ∀ K : Int32 → Prop, K (jFl R 0 (nI x) (nI p)) → jLd w (L 320) 0 (nI p) K := fun p hpm K kk => s_xld h h3 (by omega) (by rw [hp p (by omega)]; exact kk)
      rcases (show m = 0 ∨ m = 1 ∨ m = 2 ∨ m = 3 ∨ m = 4 by omega) with rfl | rfl | rfl | rfl | rfl
      · rw [if_pos (by decide)]
        simp (config := { decide := true }) only [if_false] at k
        exact k
      · rw [if_neg (by decide), if_pos (by decide)]
        rw [if_pos (by decide)] at k
        exact ld 0 (by omega) _ k
      · rw [if_neg (by decide), if_neg (by decide), if_pos (by decide)]
        rw [if_neg (by decide), if_pos (by decide)] at k
        exact ld 0 (by omega) _ (ld 1 (by omega) _ k)
      · rw [if_neg (by decide), if_neg (by decide), if_neg (by decide), if_pos (by decide)]
        rw [if_neg (by decide), if_neg (by decide), if_pos (by decide)] at k
        exact ld 0 (by omega) _ (ld 1 (by omega) _ (l_combine (ld 2 (by omega) _ (ld 2 (by omega) _ (l_combine (l_combine k))))))
      · rw [if_neg (by decide), if_neg (by decide), if_neg (by decide), if_neg (by decide)]
        rw [if_neg (by decide), if_neg (by decide), if_neg (by decide), if_pos (by decide)] at k
        exact ld 0 (by omega) _ (ld 1 (by omega) _ (l_combine (ld 2 (by omega) _ (ld 3 (by omega) _ (l_combine (l_combine k))))))
    · rw [if_neg (fun e => hi (by have := (nI_leI (by omega) (by omega)).mp e; omega))]
      refine ⟨⟨_, h.lg⟩, q_flakeAt h hne ⟨nI_pos (by omega), by rw [hsl, esz, nI_leI (by omega) (by omega)]; omega⟩ ?_⟩
      rw [hsl]
      refine s_xst h h3 hl (by omega) (fun w2 h2 => ?_)
      rw [nI_1]
      refine ih (i + 1) _ w2 (by omega) (by omega) h2 (by rw [jT_ne (by omega)]; exact h3) (by rw [jT_self, List.length_set]; exact hl) (fun p hpi => ?_) (fun T' w' e h' => k T' w' (by rw [e, jT_ne (by omega)]) h')
      rw [jT_self]
      by_cases hpe : p = i
      · subst hpe
        simp [List.getD, hl, show p < 4 by omega]
      · have := hp p (by omega)
        rw [← this]
        simp [List.getD, List.getElem?_set_ne (show i ≠ p from fun e => hpe e.symm)]
theorem l_root (h : jK L R V w) (h1 : jT1 R) (hf : jTF R) {x : Nat} (hx : gU R x = true) (k : ∀ w', jK L R V w' → P (jRoot R 0 (nI x)) w') : w_L_root κ w (L 316) (nI (gN R x)) P := by
  obtain ⟨T, t0, t3, h⟩ := h
  have hx16 := gU_16 hx
  have hsl := h1.slot hx
  obtain ⟨m, hm, em⟩ := hf.1 x hx16
  unfold w_L_root w_L_root_b0
  refine ⟨⟨_, h.lg⟩, q_flakeCount h (by rw [hsl]; exact nI_m1 (by omega)) ⟨by decide, by decide, fun q hq => ?_⟩⟩
  rw [hsl, jSz0 hx16, em]
  have ha := h.alloc hq
  have := s_rootL (κ := κ) (P := P) h1 hx hm em jFu 0 _ _ (Nat.zero_le _) (by rw [jFu_eq]; omega) ha (by rw [jT_self]; exact List.cons_ne_nil _ _) (by rw [jT_ne (by omega), jT_self]; rfl) (fun p hp => absurd hp (Nat.not_lt_zero _)) (fun T' w' e h' => k w' ⟨_, (jT_ne (by omega)).trans (e.trans ((jT_ne (by omega)).trans ((jT_ne (by omega)).trans t0))), jT_self, h'.drop⟩)
  exact this
/-- who is first invalid -/
theorem jFin_c (h1 : jT1 R) {x : Nat} (hx : gU R x = true) : (jLow R (nI x) = -1 ∧ jFin R (nI (gN R x)) = -1000) ∨ (∃ y, gU R y = true ∧ y ≠ 0 ∧ jLow R (nI x) = nI y ∧ jFin R (nI (gN R x)) = nI (gN R y)) := by
  have hx16 := gU_16 hx
  unfold jFin
  rw [h1.slot hx]
  rcases h1.low_c x hx with ⟨a, -⟩ | ⟨y, a, b, c, -, -, -⟩
  · exact Or.inl ⟨a, by rw [if_pos (Or.inr a)]⟩
  · have hy := gU_16 a
    refine Or.inr ⟨y, a, b, c, ?_⟩
    rw [if_neg (fun e => e.elim (nI_m1 (by omega)) (by rw [c]; exact nI_m1 (by omega))), c, jGt_5 (by omega) hy, (h1.n a).1]
theorem nI_k {a : Nat} (h : a < 2 ^ 31) : ¬ nI a = -1000 := fun e => nI_pos h (by rw [e]; decide)
theorem jPar_g (h1 : jT1 R) {x : Nat} (hx : gU R x = true) : jPar R (nI (gN R x)) = if x = 0 then -1000 else nI (gN R (gP R x)) := by
  have hx16 := gU_16 hx
  unfold jPar
  rw [h1.slot hx]
  by_cases h0 : x = 0
  · subst h0; rw [if_pos (Or.inr (show nI 0 = 0 from rfl)), if_pos rfl]
  · obtain ⟨-, p2, p3, -⟩ := h1.p hx h0
    rw [if_neg (fun e => e.elim (nI_m1 (by omega)) (fun e => h0 ((nI_eq (b := 0) (by omega) (by omega)).mp e))), if_neg h0, h1.g1p hx h0, jGt_5 (by omega) p2, (h1.n p3).1]
/-- one check more: a number equals what it is compared with -/
theorem jB2_dec (p : Prop) [Decidable p] : jB2 (decide p) = if p then 1 else 0 := by
  by_cases h : p
  · rw [decide_eq_true h, if_pos h]; rfl
  · rw [decide_eq_false h, if_neg h]; rfl
theorem l_bk401 (h : jK L R V w) (ht : jTree R V B) {x : Nat} (hx : gU R x = true) (k : ∀ w', jK L R V w' → P 1 w') : w_L_isBlock_b401 κ w (L 316) (nI (gN R x)) (nI (gD (gP R) x)) 1 P := by
  have h1 := ht.1
  have hx16 := gU_16 hx
  have hd := h1.tree.d_le hx
  obtain ⟨en, hn⟩ := h1.n hx
  have hsl := h1.slot hx
  have hne : jSlotOf R 0 (nI (gN R x)) ≠ -1 := by rw [hsl]; exact nI_m1 (by omega)
  have hs0 : jSlotOf R 0 0 = nI 0 := by
    have := h1.slot h1.u0
    rw [h1.n0] at this; exact this
  obtain ⟨T, t0, t3, h⟩ := h
  obtain ⟨c, ec, hc⟩ := h1.cm ht.2.1 hx
  unfold w_L_isBlock_b401
  rw [if_neg (by decide)]
  refine ⟨⟨_, h.lg⟩, q_different h ht.2.1.s0 hne (fun w1 h => ⟨⟨_, h.lg⟩, q_commonF h ht.2.1.s0 hne hne (fun w2 h => ?_)⟩)⟩
  try dsimp only
  rw [if_pos rfl]
  refine ⟨⟨_, h.lg⟩, q_different h ht.2.1.s0 hne (fun w3 h => ?_)⟩
  try dsimp only
  rw [hsl, ec, show 4 * nI (gD (gP R) x) = nI (4 * gD (gP R) x) from nI_mul 4 _, if_neg (fun e => by have := (nI_ltI (by omega) (by omega)).mp e; omega)]
  refine ⟨⟨_, h.lg⟩, q_forkOf h hne hne ?_⟩
  try dsimp only
  rw [hsl, h1.fork1 hx, jGt_5 (by omega) hx16, en, if_pos rfl]
  refine ⟨⟨_, h.lg⟩, q_forkOf h (by rw [hs0]; decide) hne ?_⟩
  try dsimp only
  rw [hs0, hsl, h1.fork0 hx, jGt_5 (by omega) (by omega), h1.1, if_pos rfl]
  refine ⟨⟨_, h.lg⟩, q_renderBranch h h1 hx (fun t w4 l1 l2 h4 => ?_)⟩
  try dsimp only
  rw [show 2 * nI (gD (gP R) x) + 1 = nI (2 * gD (gP R) x + 1) from by rw [show 2 * nI (gD (gP R) x) = nI (2 * gD (gP R) x) from nI_mul 2 _, nI_1], if_neg (fun e => by have := (nI_ltI (by omega) (by omega)).mp e; omega)]
  refine ⟨⟨_, h4.lg⟩, q_renderBlock h4 h1 ht.2.1 ht.2.2.1 hx (fun t w5 l1 l2 h5 => ?_)⟩
  try dsimp only
  rw [if_neg (fun e : nI t.length < 3 => by have := (nI_ltI (b := 3) (by omega) (by omega)).mp e; omega)]
  unfold w_L_isBlock_b481
  exact ⟨rfl, k w5 ⟨_, by rw [jT_ne (by omega), jT_ne (by omega)]; exact t0, by rw [jT_ne (by omega), jT_ne (by omega)]; exact t3, h5⟩⟩
theorem jRpA_ne (h : jT1 R) : ∀ {x : Nat}, gU R x = true → ¬ jLow R (nI x) = -1 → (jRpA R (nI x)).2 ≠ nI 0 := by
  have key : ∀ x, gU R x = true → ¬ jLow R (nI x) = -1 → ∃ c, (jRpA R (nI x)).2 = nI (c + 1) ∧ c < 16 := by
    intro x hx hl
    obtain ⟨c, e, hc⟩ := h.rp_le x hx
    have hd := h.tree.d_le hx
    refine h.tree.ind (Q := fun x => ¬ jLow R (nI x) = -1 → ∃ c, (jRpA R (nI x)).2 = nI (c + 1) ∧ c < 16) (fun x hx ih hl => ?_) x hx hl
    have hd := h.tree.d_le hx
    by_cases h0 : x = 0
    · subst h0; exact absurd h.low0 hl
    · obtain ⟨c0, e0, hc0⟩ := h.rp_le (gP R x) (h.p hx h0).2.2.1
      have hdp := h.tree.d_le (h.p hx h0).2.2.1
      rw [h.low_s hx h0] at hl
      by_cases hp : jLow R (nI (gP R x)) = -1
      · rw [if_pos hp] at hl
        have hh : jHolds R (nI x) = false := by
          cases hb : jHolds R (nI x) with
          | false => rfl
          | true => rw [hb, if_pos rfl] at hl; exact absurd rfl hl
        rw [h.holds_s hx h0, decide_eq_false_iff_not] at hh
        rw [h.rpAs hx h0, (h.rp_c _ (h.p hx h0).2.2.1).1 hp]
        unfold jRpF
        rw [if_neg hh]
        exact ⟨0, rfl, by omega⟩
      · obtain ⟨c1, e1, hc1⟩ := ih h0 hp
        have ec : c0 = c1 + 1 := (nI_eq (by omega) (by omega)).mp (e0.symm.trans e1)
        rcases h.rp_mono hx h0 e0 with g | g
        · exact ⟨c1, by rw [g, ec], hc1⟩
        · exact ⟨c0, g, by omega⟩
  intro x hx hl e
  obtain ⟨c, e1, hc⟩ := key x hx hl
  have := (nI_eq (a := c + 1) (b := 0) (by omega) (by omega)).mp (e1.symm.trans e)
  omega
theorem l_bk357 (h : jK L R V w) (ht : jTree R V B) {x : Nat} (hx : gU R x = true) (k : ∀ w', jK L R V w' → P 1 w') : w_L_isBlock_b357 κ w (L 316) (nI (gN R x)) (nI (gD (gP R) x)) (jFin R (nI (gN R x))) P := by
  have h1 := ht.1
  have hx16 := gU_16 hx
  have hd := h1.tree.d_le hx
  have hsl := h1.slot hx
  have hne : jSlotOf R 0 (nI (gN R x)) ≠ -1 := by rw [hsl]; exact nI_m1 (by omega)
  obtain ⟨T, t0, t3, h⟩ := h
  obtain ⟨c, ec, hc⟩ := h1.rp_le x hx
  have er : jRp R (nI x) = nI c := ec
  -- the last of these
  have fin : ∀ w', jRq L R V T w' → ∀ s, w_L_isBlock_b383 κ w' (L 316) (nI (gN R x)) (nI (gD (gP R) x)) s s P := fun w' h s => by
    unfold w_L_isBlock_b383
    rw [if_pos rfl]
    refine ⟨⟨_, h.lg⟩, q_repairsNeeded h ht.2.1.s0 hne (fun w2 h => ?_)⟩
    try dsimp only
    rw [hsl, er, if_neg (fun e => by have := (nI_ltI (by omega) (by omega)).mp e; omega)]
    exact l_bk401 ⟨T, t0, t3, h⟩ ht hx k
  unfold w_L_isBlock_b357
  refine ⟨⟨_, h.lg⟩, q_repairsNeeded h ht.2.1.s0 hne (fun w1 h => ?_)⟩
  try dsimp only
  rw [hsl, er]
  unfold w_L_isBlock_b370
  rcases jFin_c h1 hx with ⟨a, b⟩ | ⟨y, a, b, cc, d⟩
  · have : (jRpA R (nI x)).2 = 0 := by rw [(h1.rp_c x hx).1 a]
    rw [ec] at this
    rw [if_pos (by rw [this]; decide), b, if_pos rfl]
    exact fin w1 h 0
  · have hy := gU_16 a
    have hpos : ¬ nI c ≤ 0 := fun e => by
      have e0 : c = 0 := by have := (nI_leI (b := 0) (by omega) (by omega)).mp e; omega
      exact jRpA_ne h1 hx (by rw [cc]; exact nI_m1 (by omega)) (by rw [ec, e0])
    rw [if_neg hpos, d, if_neg (nI_k (h1.n a).2)]
    exact fin w1 h 1
end JBlock
