/-! ===== one block's checks, whole ===== -/
section JBlock2
variable {κ : Nat → Nat} {L : Nat → Nat} {R : Nat → Nat → Int32} {V : Nat → Int32} {w : va_W} {B : Nat} {P : Int32 → va_W → Prop}
def gKs (R : Nat → Nat → Int32) (x : Nat) (y : Nat) : Bool := decide (y ≠ 0) && decide (gP R y = x)
theorem jK.q (h : jK L R V w) : ∃ T : Nat → List Int32, T 0 = [] ∧ T 3 = [] ∧ jRq L R V T w := h
theorem l_bk310 (h : jK L R V w) (ht : jTree R V B) {x : Nat} (hx : gU R x = true) {x4 : Int32} (e4 : x4 = if x = 0 then 1 else 0) (k : ∀ w', jK L R V w' → P 1 w') : w_L_isBlock_b310 κ w (L 316) (nI (gN R x)) (jPar R (nI (gN R x))) x4 (nI (gD (gP R) x)) (jFin R (nI (gN R x))) (nI (gC (fun y => gU R y && gKs R x y))) (nI (gC (fun y => gU R y && gA (gP R) y x))) 1 P := by
  have h1 := ht.1
  have hx16 := gU_16 hx
  have hsl := h1.slot hx
  have hne : jSlotOf R 0 (nI (gN R x)) ≠ -1 := by rw [hsl]; exact nI_m1 (by omega)
  obtain ⟨T, t0, t3, h⟩ := h
  unfold w_L_isBlock_b310
  rw [if_neg (by decide)]
  refine ⟨⟨_, h.lg⟩, q_childCount h hne ?_⟩
  try dsimp only
  have ek : gC (fun i => gU R i && decide (i ≠ 0) && decide (gP R i = x)) = gC (fun y => gU R y && gKs R x y) := gC_congr (fun i _ => by unfold gKs; rw [Bool.and_assoc])
  rw [hsl, h1.kid hx16, ek, if_pos rfl]
  refine ⟨⟨_, h.lg⟩, q_meltSize h hne ?_⟩
  try dsimp only
  rw [hsl, h1.reaching hx, if_pos rfl]
  by_cases h0 : x = 0
  · rw [e4, if_pos h0, if_neg (by decide)]
    exact l_bk357 ⟨T, t0, t3, h⟩ ht hx k
  · rw [e4, if_neg h0, if_pos rfl]
    refine ⟨⟨_, h.lg⟩, q_hashOf h hne ?_⟩
    try dsimp only
    obtain ⟨⟨a, ha, ea⟩, -⟩ := ht.2.2.1.2 x hx h0
    rw [hsl, jGt_5 (by omega) hx16, ea, show (4 : Int32) = nI 4 from rfl, jrem_n (by omega) (by omega), show 4 * a % 4 = 0 by omega, if_pos (show nI 0 = 0 from rfl)]
    rw [jPar_g h1 hx, if_neg h0]
    obtain ⟨-, -, p3, p4⟩ := h1.p hx h0
    rw [if_neg (fun e => by have := (nI_leI (h1.n hx).2 (h1.n p3).2).mp e; omega)]
    exact l_bk357 ⟨T, t0, t3, h⟩ ht hx k
theorem l_bk221 (h : jK L R V w) (ht : jTree R V B) {x : Nat} (hx : gU R x = true) {x4 : Int32} (e4 : x4 = if x = 0 then 1 else 0) (k : ∀ w', jK L R V w' → P 1 w') : w_L_isBlock_b221 κ w (L 316) (nI (gN R x)) (jPar R (nI (gN R x))) (jRoot R 0 (nI x)) x4 (nI (gD (gP R) x)) (jB2 (jHolds R (nI x))) (jFin R (nI (gN R x))) (nI (gC (fun y => gU R y && gKs R x y))) (nI (gC (fun y => gU R y && gA (gP R) y x))) x4 P := by
  have h1 := ht.1
  have hx16 := gU_16 hx
  have hsl := h1.slot hx
  have hne : jSlotOf R 0 (nI (gN R x)) ≠ -1 := by rw [hsl]; exact nI_m1 (by omega)
  obtain ⟨T, t0, t3, h⟩ := h
  have s0 := ht.2.1.s0
  unfold w_L_isBlock_b221
  rw [if_pos rfl]
  refine ⟨⟨_, h.lg⟩, q_root h s0 hne (fun w1 h => ?_)⟩
  try dsimp only
  rw [hsl, if_pos rfl]
  refine ⟨⟨_, h.lg⟩, q_rootH h s0 hne ?_⟩
  try dsimp only
  rw [hsl, if_pos rfl]
  refine ⟨⟨_, h.lg⟩, q_heightOf h hne ?_⟩
  try dsimp only
  rw [hsl, h1.hgt hx, if_pos rfl]
  refine ⟨⟨_, h.lg⟩, q_heightFromRoot h hne ?_⟩
  try dsimp only
  rw [hsl, h1.srch hx, if_pos rfl]
  refine ⟨⟨_, h.lg⟩, q_isValid h s0 hne (fun w2 h => ?_)⟩
  try dsimp only
  rw [hsl, if_pos rfl]
  refine l_firstInvalid h s0 (fun w3 h => ?_)
  try dsimp only
  rw [if_pos rfl]
  refine ⟨⟨_, h.lg⟩, q_isBranchValid h s0 hne (fun w4 h => ?_)⟩
  try dsimp only
  rw [hsl]
  unfold w_L_isBlock_b302
  rcases jFin_c h1 hx with ⟨a, b⟩ | ⟨y, a, b, c, d⟩
  · rw [if_pos b, if_pos (by rw [a, decide_eq_true rfl]; rfl)]
    exact l_bk310 ⟨T, t0, t3, h⟩ ht hx e4 k
  · have hy := gU_16 a
    rw [if_neg (by rw [d]; exact nI_k (h1.n a).2), if_pos (by rw [c, decide_eq_false (nI_m1 (by omega))]; rfl)]
    exact l_bk310 ⟨T, t0, t3, h⟩ ht hx e4 k
theorem l_bk146 (ht : jTree R V B) (hB : B < 19000) {x : Nat} (hx : gU R x = true) {x4 : Int32} (e4 : x4 = if x = 0 then 1 else 0) (k : ∀ w', jK L R V w' → P 1 w') : ∀ (n r : Nat) (w : va_W), r ≤ gC (gU R) → gC (gU R) < n + r → jK L R V w → w_L_isBlock_b146 n κ w (L 316) (nI (gN R x)) (jPar R (nI (gN R x))) (jRoot R 0 (nI x)) x4 (nI (gD (gP R) x)) (jB2 (jHolds R (nI x))) (jFin R (nI (gN R x))) (nI (gS (fun i => gI (gKs R x (gSl R i))) r)) (nI (gS (fun i => gI (gA (gP R) (gSl R i) x)) r)) (nI r) P := by
  intro n
  have h1 := ht.1
  have h16 := gC_16 (gU R)
  have hx16 := gU_16 hx
  have hsl := h1.slot hx
  have hne : jSlotOf R 0 (nI (gN R x)) ≠ -1 := by rw [hsl]; exact nI_m1 (by omega)
  obtain ⟨nx, me, g1, -, -, -, -, g6⟩ := ht.2.2.2.1
  induction n with
  | zero => intro r w a b; omega
  | succ n ih =>
    intro r w a b h
    have hK := h
    obtain ⟨T, t0, t3, h⟩ := h
    rw [w_L_isBlock_b146]
    refine ⟨⟨_, h.lg⟩, q_blockCount h ?_⟩
    try dsimp only
    rw [jBlk_g]
    by_cases hr : r = gC (gU R)
    · rw [if_pos ((nI_leI (by omega) (by omega)).mpr (by omega)), hr]
      rw [h1.sums (by omega) g6 (fun y => gI (gKs R x y)), h1.sums (by omega) g6 (fun y => gI (gA (gP R) y x))]
      have eS : ∀ q : Nat → Bool, gS (fun y => gI (gU R y) * gI (q y)) 16 = gC (fun y => gU R y && q y) := fun q => gS_congr 16 (fun y _ => by
        try dsimp only
        cases gU R y <;> cases q y <;> rfl)
      rw [eS, eS]
      have fin := l_bk221 (κ := κ) hK ht hx e4 k
      by_cases h0 : x = 0
      · rw [if_pos (by rw [jPar_g h1 hx, if_pos h0])]
        rw [e4, if_pos h0] at fin ⊢
        exact fin
      · rw [if_neg (by rw [jPar_g h1 hx, if_neg h0]; exact nI_k (h1.n (h1.p hx h0).2.2.1).2)]
        rw [e4, if_neg h0] at fin ⊢
        exact fin
    · rw [if_neg (fun e => hr (by have := (nI_leI (by omega) (by omega)).mp e; omega))]
      obtain ⟨c1, c2, c3, c4, c5⟩ := ht.sl hB (i := r) (by omega)
      have c16 := gU_16 c1
      have hne2 : jSlotOf R 0 (nI (gN R (gSl R r))) ≠ -1 := by rw [c5]; exact nI_m1 (by omega)
      refine l_blockAt h c2 (l_parentOf h ?_)
      try dsimp only
      have eks : (jPar R (nI (gN R (gSl R r))) = nI (gN R x)) ↔ gKs R x (gSl R r) = true := by
        rw [jPar_g h1 c1]
        unfold gKs
        by_cases h0 : gSl R r = 0
        · rw [if_pos h0]
          refine ⟨fun e => absurd e.symm (nI_k (h1.n hx).2), fun e => ?_⟩
          rw [decide_eq_false (fun g => g h0), Bool.false_and] at e; cases e
        · rw [if_neg h0, decide_eq_true (show gSl R r ≠ 0 from h0), Bool.true_and, decide_eq_true_eq]
          obtain ⟨-, -, p3, -⟩ := h1.p c1 h0
          refine ⟨fun e => h1.tree.2.2.2 _ _ p3 hx ((nI_eq (h1.n p3).2 (h1.n hx).2).mp e), fun e => by rw [e]⟩
      have go : ∀ (w' : va_W) (f : Nat), jRq L R V T w' → f = gI (gKs R x (gSl R r)) → w_L_isBlock_b180 κ w' (L 316) (nI (gN R x)) (jPar R (nI (gN R x))) (jRoot R 0 (nI x)) x4 (nI (gD (gP R) x)) (jB2 (jHolds R (nI x))) (jFin R (nI (gN R x))) (nI (gS (fun i => gI (gA (gP R) (gSl R i) x)) r)) (nI r) (nI (gN R (gSl R r))) (nI f) (nI (gS (fun i => gI (gKs R x (gSl R i))) r)) (fun w_ z_a0 z_x1 z_x2 z_x3 z_x4 z_x5 z_x6 z_x7 z_x8 z_x9 z_x10 => w_L_isBlock_b146 n κ w_ z_a0 z_x1 z_x2 z_x3 z_x4 z_x5 z_x6 z_x7 z_x8 z_x9 z_x10 P) P := fun w' f h' ef => by
        unfold w_L_isBlock_b180 w_L_isBlock_b200
        refine ⟨⟨_, h'.lg⟩, q_isInBranch h' hne hne2 ?_⟩
        rw [c5, hsl, h1.rch c1 hx16, nI_add, nI_1, ef]
        have ih := ih (r + 1) w' (by omega) (by omega) ⟨T, t0, t3, h'⟩
        have e1 : gS (fun i => gI (gKs R x (gSl R i))) (r + 1) = gS (fun i => gI (gKs R x (gSl R i))) r + gI (gKs R x (gSl R r)) := rfl
        have e2 : gS (fun i => gI (gA (gP R) (gSl R i) x)) (r + 1) = gS (fun i => gI (gA (gP R) (gSl R i) x)) r + gI (gA (gP R) (gSl R r) x) := rfl
        rw [e1, e2] at ih
        refine jif_b (fun hu => ?_) (fun hu => ?_)
        · rw [hu, show gI false = 0 from rfl] at ih
          rw [show (0 : Int32) = nI 0 from rfl, nI_add]
          exact ih
        · rw [hu, show gI true = 1 from rfl] at ih
          rw [show (1 : Int32) = nI 1 from rfl, nI_add]
          exact ih
      by_cases hk : jPar R (nI (gN R (gSl R r))) = nI (gN R x)
      · rw [if_pos hk]
        exact go w 1 h (by rw [eks.mp hk]; rfl)
      · rw [if_neg hk]
        refine go w 0 h ?_
        have : gKs R x (gSl R r) = false := by
          cases hh : gKs R x (gSl R r) with
          | false => rfl
          | true => exact absurd (eks.mpr hh) hk
        rw [this]; rfl
theorem l_isBlock (h : jK L R V w) (ht : jTree R V B) (hB : B < 19000) {x : Nat} (hx : gU R x = true) (k : ∀ w', jK L R V w' → P 1 w') : w_L_isBlock κ w (L 316) (nI (gN R x)) P := by
  have h1 := ht.1
  have hx16 := gU_16 hx
  have hsl := h1.slot hx
  have hne : jSlotOf R 0 (nI (gN R x)) ≠ -1 := by rw [hsl]; exact nI_m1 (by omega)
  have s0 := ht.2.1.s0
  obtain ⟨T, t0, t3, h⟩ := h
  unfold w_L_isBlock w_L_isBlock_b0
  refine l_parentOf h (l_root ⟨T, t0, t3, h⟩ h1 ht.2.1 hx (fun w1 hK => ?_))
  clear h t0 t3 T
  obtain ⟨T, t0, t3, h⟩ := hK
  by_cases h0 : x = 0
  · rw [if_pos (show nI (gN R x) = 0 from by rw [h0, h1.n0]; rfl)]
    unfold w_L_isBlock_b21
    rw [if_neg (by decide)]
    unfold w_L_isBlock_b39
    rw [if_neg (by decide)]
    unfold w_L_isBlock_b86 w_L_isBlock_b91
    rw [if_neg (by decide)]
    unfold w_L_isBlock_b135
    have fin := l_bk146 (κ := κ) (P := P) ht hB hx (x4 := 1) (by rw [if_pos h0]) k 17 0 w1 (Nat.zero_le _) (by have := gC_16 (gU R); omega) ⟨T, t0, t3, h⟩
    have ed : nI (gD (gP R) x) = 0 := by rw [h0, gD_0]; rfl
    have eh : jB2 (jHolds R (nI x)) = 1 := by rw [h0, jHolds_0]; rfl
    have ef : jFin R (nI (gN R x)) = -1000 := by
      rcases jFin_c h1 hx with ⟨-, b⟩ | ⟨y, a, -, c, -⟩
      · exact b
      · rw [h0, h1.low0] at c; exact absurd c.symm (nI_m1 (by have := gU_16 a; omega))
    rw [ed, eh, ef] at fin
    exact fin
  · rw [if_neg (fun e : nI (gN R x) = 0 => h0 (h1.tree.2.2.2 x 0 hx h1.u0 (by rw [h1.n0]; exact (nI_eq (b := 0) (h1.n hx).2 (by omega)).mp e)))]
    obtain ⟨p1, p2, p3, p4⟩ := h1.p hx h0
    have hslp := h1.slot p3
    have hnep : jSlotOf R 0 (nI (gN R (gP R x))) ≠ -1 := by rw [hslp]; exact nI_m1 (by omega)
    have epar : jPar R (nI (gN R x)) = nI (gN R (gP R x)) := by rw [jPar_g h1 hx, if_neg h0]
    have fin : ∀ w', jRq L R V T w' → _ := fun w' h' => l_bk146 (κ := κ) (P := P) ht hB hx (x4 := 0) (by rw [if_neg h0]) k 17 0 w' (Nat.zero_le _) (by have := gC_16 (gU R); omega) ⟨T, t0, t3, h'⟩
    rw [epar] at fin ⊢
    unfold w_L_isBlock_b21
    rw [if_pos rfl]
    refine ⟨⟨_, h.lg⟩, q_heightOf h hnep ?_⟩
    try dsimp only
    rw [hslp, h1.hgt p3, nI_1, ← h1.tree.d_s hx h0]
    unfold w_L_isBlock_b39
    rw [if_pos rfl]
    refine ⟨⟨_, h.lg⟩, q_hashOf h hne ⟨⟨_, h.lg⟩, q_hashOf h hnep ⟨⟨_, h.lg⟩, q_writerOf h hne (by rw [hsl]; exact fun e => h0 ((nI_eq (b := 0) (by omega) (by omega)).mp e)) ⟨⟨_, h.lg⟩, ?_⟩⟩⟩⟩
    rw [hsl, hslp]
    have nz : w_X8_nonceOfZ κ w1 (L 316) (nI (gN R x)) (fun v4 w4 => if jGt R 0 3 (nI x) = jrem (61 * jGt R 0 3 (nI (gP R x)) + 29 * jRoot R 0 (nI x) + 13 * jGt R 0 2 (nI x) + v4) 9973 then w_L_isBlock_b86 κ w4 (L 316) (nI (gN R x)) (nI (gN R (gP R x))) (jRoot R 0 (nI x)) 0 (nI (gD (gP R) x)) P else w_L_isBlock_b91 κ w4 (L 316) (nI (gN R x)) (nI (gN R (gP R x))) (jRoot R 0 (nI x)) 0 (nI (gD (gP R) x)) 0 P) := by
      unfold w_X8_nonceOfZ w_X8_nonceOfZ_b0
      refine (jgR_eq h.lg rfl).mpr ((jgR_eq (h.st (s := 0) (by omega)) rfl).mpr ⟨⟨_, h.lg⟩, ?_⟩)
      unfold w_X8_requireWrittenZ w_X8_requireWrittenZ_b0
      refine (jgR_eq h.lg rfl).mpr ⟨⟨_, h.st (s := 0) (by omega)⟩, s_slotOfQ h ?_⟩
      rw [if_neg hne, hsl, if_neg (fun e : nI x = 0 => h0 ((nI_eq (b := 0) (by omega) (by omega)).mp e))]
      refine ⟨⟨_, h.row (r := 4) (by omega)⟩, s_gq h 4 (by omega) (by omega) (by omega) ?_⟩
      try dsimp only
      have eh := h1.holds_s hx h0
      have go : ∀ b : Bool, jHolds R (nI x) = b → w_L_isBlock_b91 κ w1 (L 316) (nI (gN R x)) (nI (gN R (gP R x))) (jRoot R 0 (nI x)) 0 (nI (gD (gP R) x)) (jB2 b) P := fun b eb => by
        unfold w_L_isBlock_b91
        rw [if_pos rfl]
        refine l_firstInvalid h s0 (fun w2 h2 => ?_)
        try dsimp only
        have hls := h1.low_s hx h0
        have hq16 : gP R x < 16 := p2
        rcases jFin_c h1 p3 with ⟨a, bb⟩ | ⟨y, a, b2, c, d⟩
        · rw [if_pos bb]
          rw [if_pos a] at hls
          have fin := fin w2 h2
          rw [eb] at fin hls
          unfold w_L_isBlock_b135
          refine jif_b (fun hu => ?_) (fun hu => ?_)
          · rw [hu] at hls fin ⊢
            rw [if_neg (by decide)] at hls
            have ef : jFin R (nI (gN R x)) = nI (gN R x) := by
              unfold jFin
              rw [hsl, hls, if_neg (fun e => e.elim (nI_m1 (by omega)) (nI_m1 (by omega))), jGt_5 (by omega) hx16, (h1.n hx).1]
            rw [ef] at fin
            exact fin
          · rw [hu] at hls fin ⊢
            rw [if_pos rfl] at hls
            have ef : jFin R (nI (gN R x)) = -1000 := by
              unfold jFin
              rw [hsl, hls, if_pos (Or.inr rfl)]
            rw [ef] at fin
            exact fin
        · have hy := gU_16 a
          rw [if_neg (by rw [d]; exact nI_k (h1.n a).2)]
          refine l_firstInvalid h2 s0 (fun w3 h3 => ?_)
          have fin := fin w3 h3
          rw [eb] at fin
          rw [if_neg (by rw [c]; exact nI_m1 (by omega))] at hls
          have ef : jFin R (nI (gN R x)) = jFin R (nI (gN R (gP R x))) := by
            unfold jFin
            rw [hsl, hslp, hls]
            rw [if_neg (fun e => e.elim (nI_m1 (by omega)) (by rw [c]; exact nI_m1 (by omega))), if_neg (fun e => e.elim (nI_m1 (by omega)) (by rw [c]; exact nI_m1 (by omega)))]
          rw [ef] at fin
          unfold w_L_isBlock_b135
          exact fin
      have ehw : jHw (jGt R 0 3 (nI (gP R x))) (jRoot R 0 (nI x)) (jGt R 0 2 (nI x)) (jGt R 0 4 (nI x)) = jrem (61 * jGt R 0 3 (nI (gP R x)) + 29 * jRoot R 0 (nI x) + 13 * jGt R 0 2 (nI x) + jGt R 0 4 (nI x)) 9973 := rfl
      rw [ehw] at eh
      by_cases hh : jGt R 0 3 (nI x) = jrem (61 * jGt R 0 3 (nI (gP R x)) + 29 * jRoot R 0 (nI x) + 13 * jGt R 0 2 (nI x) + jGt R 0 4 (nI x)) 9973
      · rw [if_pos hh]
        unfold w_L_isBlock_b86
        exact go true (by rw [eh, decide_eq_true hh])
      · rw [if_neg hh]
        exact go false (by rw [eh, decide_eq_false hh])
    exact nz
end JBlock2
