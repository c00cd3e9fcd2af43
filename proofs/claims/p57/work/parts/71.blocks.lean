/-! ===== all blocks' checks ===== -/
section JBlocks
variable {κ : Nat → Nat} {L : Nat → Nat} {R : Nat → Nat → Int32} {V : Nat → Int32} {w : va_W} {B : Nat} {P : Int32 → va_W → Prop}
theorem gS_and (q r : Nat → Bool) : gS (fun y => gI (q y) * gI (r y)) 16 = gC (fun y => q y && r y) := gS_congr 16 (fun y _ => by
  try dsimp only
  cases q y <;> cases r y <;> rfl)
theorem l_bs161 (h : jK L R V w) (ht : jTree R V B) (k : ∀ w', jK L R V w' → P 1 w') : ∀ n i, i ≤ 16 → 16 < n + i → w_L_areBlocks_b161 n κ w (L 316) (nI (gC (gT R))) (nI (gC (fun i => gU R i && jHolds R (nI i)))) (nI (gC (gU R))) 1 (nI (gS (fun k => gC (fun j => gU R j && decide (gD (gP R) j = k))) i)) (nI i) P := by
  intro n
  have h1 := ht.1
  have h16 := gC_16 (gU R)
  have hv16 := gC_16 (fun i => gU R i && jHolds R (nI i))
  have hup : 0 < gC (gU R) := gC_pos (by omega) h1.u0
  obtain ⟨T, t0, t3, h⟩ := h
  induction n with
  | zero => intro i a b; omega
  | succ n ih =>
    intro i a b
    rw [w_L_areBlocks_b161]
    by_cases hi : i = 16
    · rw [if_pos (show (16 : Int32) ≤ nI i from (nI_leI (a := 16) (by omega) (by omega)).mpr (by omega)), if_neg (by decide), hi, h1.allH, if_pos rfl]
      refine ⟨⟨_, h.lg⟩, q_tipCount h ?_⟩
      try dsimp only
      rw [jTips_g, if_pos rfl]
      refine l_tipAtRank h ?_
      try dsimp only
      have et : jTpr R (nI (gC (gT R))) = -1000 := by
        unfold jTpr
        rw [h1.tipNo ht.2.2.1 (Nat.le_refl _) (by have := gC_16 (gT R); omega), if_pos rfl]
      rw [et, if_pos rfl]
      obtain ⟨f1, f2⟩ := f32_ok (gC (fun i => gU R i && jHolds R (nI i))) (by omega) (gC (gU R)) (by omega) hup
      refine ⟨⟨_, h.lg⟩, q_share h ht.2.1.s0 ?_ ?_ (fun w2 h2 => ⟨f1, ?_⟩)⟩
      · rw [jBlk_g]
        intro e
        have := (nI_leI (b := 0) (by omega) (by omega)).mp e; omega
      · rw [jBlk_g, jHold_g]; exact f1
      · rw [jBlk_g, jHold_g, if_pos f2]
        refine l_tips ⟨T, t0, t3, h2⟩ ht (fun w3 h3 => ?_)
        rw [if_neg (by decide)]
        unfold w_L_areBlocks_b241
        exact ⟨rfl, k w3 h3⟩
    · rw [if_neg (fun e : (16 : Int32) ≤ nI i => hi (by have := (nI_leI (a := 16) (by omega) (by omega)).mp e; omega))]
      refine ⟨⟨_, h.lg⟩, q_atHeight h (show i < 16 by omega) ?_⟩
      rw [h1.atH (show i < 16 by omega), nI_add, nI_1]
      exact ih (i + 1) (by omega) (by omega)
theorem l_bs56 (ht : jTree R V B) (hB : B < 19000) {bst : Nat} (hb : gU R bst = true) (hbs : ∀ k, gU R k = true → jLow R (nI k) = -1 → gD (gP R) k ≤ gD (gP R) bst) (k : ∀ w', jK L R V w' → P 1 w') : ∀ (n r : Nat) (w : va_W), r ≤ gC (gU R) → gC (gU R) < n + r → jK L R V w → w_L_areBlocks_b56 n κ w (L 316) (nI (gS (fun i => gI (gT R (gSl R i))) r)) (nI (gS (fun i => gI (jHolds R (nI (gSl R i)))) r)) (nI (gC (gU R))) (nI (gN R bst)) 1 (nI r) P := by
  intro n
  have h1 := ht.1
  have h16 := gC_16 (gU R)
  obtain ⟨nx, me, g1, -, -, -, -, g6⟩ := ht.2.2.2.1
  have s0 := ht.2.1.s0
  have hsb := h1.slot hb
  have hb16 := gU_16 hb
  have hnb : jSlotOf R 0 (nI (gN R bst)) ≠ -1 := by rw [hsb]; exact nI_m1 (by omega)
  induction n with
  | zero => intro r w a b; omega
  | succ n ih =>
    intro r w a b hK
    rw [w_L_areBlocks_b56, if_neg (by decide)]
    by_cases hr : r = gC (gU R)
    · rw [if_pos ((nI_leI (by omega) (by omega)).mpr (by omega)), hr]
      rw [h1.sums (by omega) g6 (fun y => gI (gT R y)), h1.sums (by omega) g6 (fun y => gI (jHolds R (nI y))), gS_and, gS_and]
      have et : gC (fun y => gU R y && gT R y) = gC (gT R) := gC_congr (fun i hi => by
        cases hu : gU R i with
        | true => rfl
        | false =>
          cases hh : gT R i with
          | false => rfl
          | true => rw [gT_u hi hh] at hu; cases hu)
      rw [et]
      unfold w_L_areBlocks_b155
      exact l_bs161 hK ht k jFu 0 (Nat.zero_le _) (by rw [jFu_eq]; omega)
    · rw [if_neg (fun e => hr (by have := (nI_leI (by omega) (by omega)).mp e; omega))]
      obtain ⟨c1, c2, c3, c4, c5⟩ := ht.sl hB (i := r) (by omega)
      have c16 := gU_16 c1
      have hne : jSlotOf R 0 (nI (gN R (gSl R r))) ≠ -1 := by rw [c5]; exact nI_m1 (by omega)
      obtain ⟨T, t0, t3, h⟩ := hK
      refine l_blockAt h c2 ⟨⟨_, h.lg⟩, q_childCount h hne ?_⟩
      rw [c5]
      -- from the tip's flag on
      have go : ∀ f, f = gI (gT R (gSl R r)) → w_L_areBlocks_b90 κ w (L 316) (nI (gS (fun i => gI (jHolds R (nI (gSl R i)))) r)) (nI (gC (gU R))) (nI (gN R bst)) (nI r) (nI (gN R (gSl R r))) (nI f) (nI (gS (fun i => gI (gT R (gSl R i))) r)) (fun w_ z_a0 z_x1 z_x2 z_x3 z_x4 z_x5 z_x6 => w_L_areBlocks_b56 n κ w_ z_a0 z_x1 z_x2 z_x3 z_x4 z_x5 z_x6 P) P := fun f ef => by
        unfold w_L_areBlocks_b90
        refine ⟨⟨_, h.lg⟩, q_isValid h s0 hne (fun w2 h2 => ?_)⟩
        rw [c5, nI_add, ef]
        have go2 : ∀ f2, f2 = gI (jHolds R (nI (gSl R r))) → w_L_areBlocks_b107 κ w2 (L 316) (nI (gS (fun i => gI (gT R (gSl R i))) r + gI (gT R (gSl R r)))) (nI (gC (gU R))) (nI (gN R bst)) (nI r) (nI (gN R (gSl R r))) (nI f2) (nI (gS (fun i => gI (jHolds R (nI (gSl R i)))) r)) (fun w_ z_a0 z_x1 z_x2 z_x3 z_x4 z_x5 z_x6 => w_L_areBlocks_b56 n κ w_ z_a0 z_x1 z_x2 z_x3 z_x4 z_x5 z_x6 P) P := fun f2 ef2 => by
          unfold w_L_areBlocks_b107
          refine l_isBlock ⟨T, t0, t3, h2⟩ ht hB c1 (fun w3 h3 => ?_)
          rw [if_neg (by decide), nI_add, ef2]
          obtain ⟨T3, u0, u3, h3⟩ := h3
          have nxt : ∀ w', jRq L R V T3 w' → w_L_areBlocks_b142 κ w' (L 316) (nI (gS (fun i => gI (gT R (gSl R i))) r + gI (gT R (gSl R r)))) (nI (gS (fun i => gI (jHolds R (nI (gSl R i)))) r + gI (jHolds R (nI (gSl R r))))) (nI (gC (gU R))) (nI (gN R bst)) (nI r) (fun w_ z_a0 z_x1 z_x2 z_x3 z_x4 z_x5 z_x6 => w_L_areBlocks_b56 n κ w_ z_a0 z_x1 z_x2 z_x3 z_x4 z_x5 z_x6 P) P := fun w' h' => by
            unfold w_L_areBlocks_b142 w_L_areBlocks_b147
            rw [nI_1]
            exact ih (r + 1) w' (by omega) (by omega) ⟨T3, u0, u3, h'⟩
          refine ⟨⟨_, h3.lg⟩, q_isBranchValid h3 s0 hne (fun w4 h4 => ?_)⟩
          rw [c5]
          refine jif_b (fun hu => nxt w4 h4) (fun hu => ?_)
          have hl : jLow R (nI (gSl R r)) = -1 := of_decide_eq_true hu
          have hle := hbs _ c1 hl
          refine ⟨⟨_, h4.lg⟩, q_heightOf h4 hne ⟨⟨_, h4.lg⟩, q_heightOf h4 hnb ?_⟩⟩
          rw [c5, hsb, h1.hgt c1, h1.hgt hb]
          have d1 := h1.tree.d_le c1
          have d2 := h1.tree.d_le hb
          rw [if_neg (fun e => absurd ((nI_ltI (a := gD (gP R) bst) (b := gD (gP R) (gSl R r)) (by omega) (by omega)).mp e) (by omega))]
          exact nxt w4 h4
        refine jif_b (fun hu => ?_) (fun hu => ?_)
        · exact go2 0 (by rw [hu]; rfl)
        · exact go2 1 (by rw [hu]; rfl)
      have hk := h1.gT_k c1
      by_cases h0 : jKid R (nI (gSl R r)) = 0
      · rw [if_pos h0]
        exact go 1 (by rw [hk, decide_eq_true h0]; rfl)
      · rw [if_neg h0]
        exact go 0 (by rw [hk, decide_eq_false h0]; rfl)
theorem l_areBlocks (h : jK L R V w) (ht : jTree R V B) (hB : B < 19000) (k : ∀ w', jK L R V w' → P 1 w') : w_L_areBlocks κ w (L 316) P := by
  have h1 := ht.1
  have s0 := ht.2.1.s0
  have h16 := gC_16 (gU R)
  have hup : 0 < gC (gU R) := gC_pos (by omega) h1.u0
  obtain ⟨T, t0, t3, h⟩ := h
  obtain ⟨b, b1, b2, b3, b4⟩ := h1.best
  have hb16 := gU_16 b2
  have hsb := h1.slot b2
  have hnb : jSlotOf R 0 (nI (gN R b)) ≠ -1 := by rw [hsb]; exact nI_m1 (by omega)
  obtain ⟨nx, me, g1, g2, g3, g4, g5, g6⟩ := ht.2.2.2.1
  unfold w_L_areBlocks w_L_areBlocks_b0
  refine ⟨⟨_, h.lg⟩, q_blockCount h ⟨⟨_, h.lg⟩, q_best h s0 (fun w1 h => ⟨⟨_, h.lg⟩, q_consistent h s0 (fun w2 h => ?_)⟩)⟩⟩
  have ewr : V 2 = (V 3 + nI (gC (gU R))) - 1 := by
    rw [g3, g4, nI_add, show nI (me + gC (gU R)) - 1 = nI (me + gC (gU R) - 1) from nI_sub (b := 1) (by omega)]
    congr 1; omega
  rw [jBlk_g, b1, jGt_5 (by omega) hb16, (h1.n b2).1]
  rw [h1.agree, h1.steps ht.2.2.1, decide_eq_true ewr]
  rw [if_neg (show ¬ jB2 (true && true && true) = 0 by decide)]
  refine ⟨⟨_, h.lg⟩, q_isBranchValid h s0 hnb (fun w3 h => ?_)⟩
  rw [hsb, b3, decide_eq_true rfl, if_neg (show ¬ jB2 true = 0 by decide)]
  refine ⟨⟨_, h.lg⟩, q_written h ⟨⟨_, h.lg⟩, q_melted h ?_⟩⟩
  rw [if_pos ewr]
  unfold w_L_areBlocks_b51
  exact l_bs56 ht hB b2 b4 k 17 0 w3 (Nat.zero_le _) (by omega) ⟨T, t0, t3, h⟩
end JBlocks
