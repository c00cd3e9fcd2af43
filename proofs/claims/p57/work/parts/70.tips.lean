/-! ===== the tips' checks ===== -/
section JTips
variable {κ : Nat → Nat} {L : Nat → Nat} {R : Nat → Nat → Int32} {V : Nat → Int32} {w : va_W} {B : Nat} {P : Int32 → va_W → Prop}
theorem nI_gt {a b : Nat} (ha : a < 2 ^ 30) (hb : b < 2 ^ 30) : 0 < nI a - nI b ↔ b < a := by
  rw [Int32.lt_iff_toInt_lt, Int32.toInt_sub, nI_toInt (by omega), nI_toInt (by omega), Int.bmod_eq_of_le (by omega) (by omega)]
  have e0 : (0 : Int32).toInt = 0 := rfl
  omega
theorem nI_sz {a b : Nat} (ha : a < 2 ^ 30) (hb : b < 2 ^ 30) : nI a - nI b = 0 ↔ a = b := by
  rw [← Int32.toInt_inj, Int32.toInt_sub, nI_toInt (by omega), nI_toInt (by omega), Int.bmod_eq_of_le (by omega) (by omega)]
  have e0 : (0 : Int32).toInt = 0 := rfl
  omega
theorem jTpr_g (h1 : jT1 R) (hS : jTS R) {i : Nat} (hi : i < gC (gT R)) : jTpr R (nI i) = nI (gN R (gTs R i)) ∧ gU R (gTs R i) = true ∧ jKid R (nI (gTs R i)) = 0 := by
  obtain ⟨a, b, c, d⟩ := h1.tipAt hS hi
  have hu := gT_u b a
  refine ⟨?_, hu, ?_⟩
  · unfold jTpr
    rw [d, if_neg (nI_m1 (by omega)), jGt_5 (by omega) b, (h1.n hu).1]
  · rw [h1.gT_k hu] at a
    exact of_decide_eq_true a
theorem l_tips (h : jK L R V w) (ht : jTree R V B) (k : ∀ w', jK L R V w' → P 1 w') : w_L_areTips κ w (L 316) (nI (gC (gT R))) P := by
  have h1 := ht.1
  have hS := ht.2.2.1
  have h16 := gC_16 (gT R)
  have hp := h1.tip1
  obtain ⟨T, t0, t3, h⟩ := h
  have sumle : gS (fun i => gD (gP R) (gTs R i)) (gC (gT R)) ≤ 240 := by
    have := gS_le (f := fun i => gD (gP R) (gTs R i)) (g := fun _ => 15) (gC (gT R)) (fun i hi => h1.tree.d_le (jTpr_g h1 hS hi).2.1)
    rw [gS_const] at this; omega
  have fin : w_L_areTips_b146 κ w (L 316) (nI (gC (gT R))) (nI (gS (fun i => gD (gP R) (gTs R i)) (gC (gT R)))) 1 P := by
    unfold w_L_areTips_b146
    rw [if_neg (by decide)]
    have es : jSumT R = nI (gS (fun i => gD (gP R) (gTs R i)) (gC (gT R))) := by rw [h1.sumT, h1.sumR hS]
    obtain ⟨f1, f2⟩ := f64_ok (gS (fun i => gD (gP R) (gTs R i)) (gC (gT R))) (by omega) (gC (gT R)) (by omega) hp
    refine ⟨⟨_, h.lg⟩, q_mean h ?_ ?_ ⟨f1, ?_⟩⟩
    · rw [jTips_g]
      intro e
      have := (nI_leI (b := 0) (by omega) (by omega)).mp e; omega
    · rw [jTips_g, es]; exact f1
    · rw [jTips_g, es, if_pos f2]
      unfold w_L_areTips_b168
      exact ⟨rfl, k w ⟨T, t0, t3, h⟩⟩
  have loop : ∀ n r, 1 ≤ r → r ≤ gC (gT R) → gC (gT R) < n + r → w_L_areTips_b31 n κ w (L 316) (nI (gC (gT R))) (nI (gS (fun i => gD (gP R) (gTs R i)) r)) 1 (nI r) P := by
    intro n
    induction n with
    | zero => intro r _ a b; omega
    | succ n ih =>
      intro r r1 a b
      rw [w_L_areTips_b31, if_neg (by decide)]
      by_cases hr : r = gC (gT R)
      · rw [if_pos ((nI_leI (by omega) (by omega)).mpr (by omega)), hr]
        exact fin
      · rw [if_neg (fun e => hr (by have := (nI_leI (by omega) (by omega)).mp e; omega))]
        obtain ⟨a1, a2, a3⟩ := jTpr_g h1 hS (i := r - 1) (by omega)
        obtain ⟨b1, b2, b3⟩ := jTpr_g h1 hS (i := r) (by omega)
        obtain ⟨ta, ta2, ta3, -⟩ := h1.tipAt hS (i := r - 1) (by omega)
        obtain ⟨tb, tb2, tb3, -⟩ := h1.tipAt hS (i := r) (by omega)
        have hsa := h1.slot a2
        have hsb := h1.slot b2
        have hna : jSlotOf R 0 (nI (gN R (gTs R (r - 1)))) ≠ -1 := by rw [hsa]; exact nI_m1 (by omega)
        have hnb : jSlotOf R 0 (nI (gN R (gTs R r))) ≠ -1 := by rw [hsb]; exact nI_m1 (by omega)
        obtain ⟨ea, la⟩ := hS.hn a2
        obtain ⟨eb, lb⟩ := hS.hn b2
        have da := h1.tree.d_le a2
        have db := h1.tree.d_le b2
        have hne : gTs R (r - 1) ≠ gTs R r := fun e => by rw [e, tb3] at ta3; omega
        have hrk : gRk R (gTs R (r - 1)) (gTs R r) = true := by
          rcases h1.rk_tot a2 b2 hne with g | g
          · exact g
          · have := h1.tau_mono tb2 tb g; omega
        rw [show nI r - 1 = nI (r - 1) from nI_sub (b := 1) (by omega)]
        refine l_tipAtRank h (l_tipAtRank h ?_)
        try dsimp only
        rw [a1, b1]
        refine ⟨⟨_, h.lg⟩, q_heightOf h hna ⟨⟨_, h.lg⟩, q_heightOf h hnb ⟨⟨_, h.lg⟩, q_hashOf h hnb ⟨⟨_, h.lg⟩, q_hashOf h hna ⟨⟨_, h.lg⟩, q_heightOf h hnb ⟨⟨_, h.lg⟩, q_childCount h hnb ?_⟩⟩⟩⟩⟩⟩
        try dsimp only
        rw [hsa, hsb, h1.hgt a2, h1.hgt b2, jGt_5 (by omega) tb2, jGt_5 (by omega) ta2, ea, eb, b3, if_pos rfl, nI_add]
        have go : w_L_areTips_b134 κ w (L 316) (nI (gC (gT R))) (nI (gS (fun i => gD (gP R) (gTs R i)) r + gD (gP R) (gTs R r))) (nI r) (fun w_ z_a0 z_x1 z_x2 z_x3 z_x4 => w_L_areTips_b31 n κ w_ z_a0 z_x1 z_x2 z_x3 z_x4 P) P := by
          unfold w_L_areTips_b134 w_L_areTips_b139
          rw [nI_1]
          exact ih (r + 1) (by omega) (by omega) (by omega)
        rw [gRk_iff] at hrk
        have q1 := nI_gt (a := gD (gP R) (gTs R (r - 1))) (b := gD (gP R) (gTs R r)) (by omega) (by omega)
        have q2 := nI_sz (a := gD (gP R) (gTs R (r - 1))) (b := gD (gP R) (gTs R r)) (by omega) (by omega)
        have q3 := nI_gt (a := gHs R (gTs R r)) (b := gHs R (gTs R (r - 1))) (by omega) (by omega)
        have q4 := nI_sz (a := gHs R (gTs R r)) (b := gHs R (gTs R (r - 1))) (by omega) (by omega)
        have q5 := nI_leI (h1.n b2).2 (h1.n a2).2
        rcases hrk with g | ⟨g, gg | ⟨g2, g3⟩⟩
        · rw [if_pos (q1.mpr g)]
          exact go
        · rw [if_neg (fun e => absurd (q1.mp e) (by omega)), if_pos (q2.mpr g), if_pos (q3.mpr gg)]
          exact go
        · rw [if_neg (fun e => absurd (q1.mp e) (by omega)), if_pos (q2.mpr g), if_neg (fun e => absurd (q3.mp e) (by omega)), if_pos (q4.mpr g2.symm), if_neg (fun e => absurd (q5.mp e) (by omega))]
          exact go
  obtain ⟨z1, z2, z3⟩ := jTpr_g h1 hS (i := 0) hp
  have hsz := h1.slot z2
  have hz16 := gU_16 z2
  have hnz : jSlotOf R 0 (nI (gN R (gTs R 0))) ≠ -1 := by rw [hsz]; exact nI_m1 (by omega)
  have z1' : jTpr R 0 = nI (gN R (gTs R 0)) := z1
  unfold w_L_areTips w_L_areTips_b0
  refine l_tipAtRank h ?_
  try dsimp only
  rw [z1']
  refine ⟨⟨_, h.lg⟩, q_heightOf h hnz (l_tipAtRank h ?_)⟩
  try dsimp only
  rw [z1']
  refine ⟨⟨_, h.lg⟩, q_childCount h hnz ?_⟩
  try dsimp only
  rw [hsz, z3, if_pos rfl, h1.hgt z2]
  unfold w_L_areTips_b27
  have := loop 17 1 (by omega) (by omega) (by omega)
  have e1 : gS (fun i => gD (gP R) (gTs R i)) 1 = gD (gP R) (gTs R 0) := by
    show 0 + gD (gP R) (gTs R 0) = _; omega
  rw [e1] at this
  exact this
end JTips
