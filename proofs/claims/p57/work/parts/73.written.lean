/-! ===== a hill writes what was foretold ===== -/
section JWritten
variable {κ : Nat → Nat} {L : Nat → Nat} {R R' : Nat → Nat → Int32} {V V' : Nat → Int32} {w : va_W} {B : Nat} {P : Int32 → va_W → Prop} {x : Int32}
theorem s_reqWZ {T : Nat → List Int32} (h : jRq L R V T w) (hb : jSlotOf R 0 x ≠ -1) (h0 : jSlotOf R 0 x ≠ 0) (k : P (jSlotOf R 0 x) w) : w_X8_requireWrittenZ κ w (L 316) x P := by
  unfold w_X8_requireWrittenZ w_X8_requireWrittenZ_b0
  refine (jgR_eq h.lg rfl).mpr ⟨⟨_, h.st (s := 0) (by omega)⟩, s_slotOfQ h ?_⟩
  rw [if_neg hb, if_neg h0]; exact k
theorem q_parentOfZ {T : Nat → List Int32} (h : jRq L R V T w) (hb : jSlotOf R 0 x ≠ -1) (h0 : jSlotOf R 0 x ≠ 0) (k : P (jGt R 0 0 (jGt R 0 1 (jSlotOf R 0 x))) w) : w_X8_parentOfZ κ w (L 316) x P := by
  unfold w_X8_parentOfZ w_X8_parentOfZ_b0
  refine (jgR_eq h.lg rfl).mpr ((jgR_eq (h.st (s := 0) (by omega)) rfl).mpr ((jgR_eq h.lg rfl).mpr ((jgR_eq (h.st (s := 0) (by omega)) rfl).mpr ⟨⟨_, h.lg⟩, s_reqWZ h hb h0 ?_⟩)))
  exact ⟨⟨_, h.row (r := 1) (by omega)⟩, s_gq h 1 (by omega) (by omega) (by omega) ⟨⟨_, h.row (r := 0) (by omega)⟩, s_gq h 0 (by omega) (by omega) (by omega) k⟩⟩
theorem jNh_e (e : gEr R' R) : jNh R' x = jNh R x := by
  unfold jNh
  simp only [jGt_e e (show 8 < 12 by omega) (show 8 ≠ 7 by omega) (show 8 ≠ 11 by omega), jGt_e e (show 3 < 12 by omega) (show 3 ≠ 7 by omega) (show 3 ≠ 11 by omega), jRoot_e e (show 1 < 2 by omega)]
theorem jFree_iff (h1 : jT1 R) : jFreeSlot R 0 = -1 ↔ ¬ gC (gU R) < 16 := by
  have h16 := gC_16 (gU R)
  have all : gC (fun _ => true) = 16 := by decide
  rcases jFree_c h1 with ⟨f, f1, f2, f3, f4⟩ | ⟨f1, f2⟩
  · have : gC (gU R) < gC (fun _ => true) := gC_lt f1 (fun _ _ _ => rfl) f3 rfl
    rw [f4]
    exact ⟨fun e => absurd e (nI_m1 (by omega)), fun e => absurd (by omega) e⟩
  · have : gC (gU R) = gC (fun _ => true) := gC_congr (fun i hi => by rw [f1 i hi])
    exact ⟨fun _ => by omega, fun _ => f2⟩
theorem l_isWritten (h : jK L R V w) (hi : jInv R V B) (hB : B + 1 < 19000) (hκ : jEn κ) {hc a : Nat} (e0 : V 0 = nI hc) (h4 : hc ≤ 4) (ha : a < hc) (k : ∀ R' V' w', jK L R' V' w' → jInv R' V' (B + 1) → gEq R' V' R V → gFr R V R' V' → P 1 w') : w_L_isWritten κ w (L 316) (nI a) P := by
  have ht := hi.t0
  have h1 := ht.1
  have h16 := gC_16 (gU R)
  have hh := jHill_of h4 e0 ha
  obtain ⟨hc', g4, e0', hq⟩ := ht.2.2.2.2
  have : hc' = hc := (nI_eq (by omega) (by omega)).mp (e0'.symm.trans e0)
  subst this
  obtain ⟨q, q1, q2⟩ := hq a ha
  have hq16 := gU_16 q1
  have hsq := h1.slot q1
  have hnq : jSlotOf R 0 (nI (gN R q)) ≠ -1 := by rw [hsq]; exact nI_m1 (by omega)
  obtain ⟨m, hm, em, es⟩ := jSz1_of ht.2.1 (show a < 4 by omega)
  obtain ⟨T, t0, t3, h⟩ := h
  obtain ⟨j, hj, hv⟩ := hi.j
  obtain ⟨i1, i2, i3⟩ := hi.keep hj hv
  have er := i2.r
  have hcould : jfAppend R V (nI a) = 2 ↔ (decide (gC (gU R) < 16) && decide (jLow R (nI q) = -1)) = true := by
    unfold jfAppend
    rw [if_neg (by rw [decide_eq_true hh]; decide), jGt_8 (by omega), q2]
    by_cases hf : jFreeSlot R 0 = -1
    · rw [if_pos hf, decide_eq_false ((jFree_iff h1).mp hf)]
      simp
    · rw [if_neg hf]
      have : gC (gU R) < 16 := Decidable.not_not.mp (fun g => hf ((jFree_iff h1).mpr g))
      rw [decide_eq_true this, Bool.true_and, decide_eq_true_eq]
      by_cases hl : jLow R (nI q) = -1
      · rw [if_pos hl]; simp [hl]
      · rw [if_neg hl]; simp [hl]
  have main : ∀ (s0 : Int32) (w' : va_W), s0 = jB2 (decide (gC (gU R) < 16) && decide (jLow R (nI q) = -1)) → jRq L R V T w' → w_L_isWritten_b56 κ w' (L 316) (nI a) (jDg R V) (nI (gN R q)) (jNh R (nI a)) (nI m) (nI (gC (fun i => decide (R 2 i = nI a)))) s0 P := by
    intro s0 w' es0 h
    unfold w_L_isWritten_b56
    refine l_writeBlock h hκ ht.2.1.s0 hj hv (fun hf w1 h1' => ?_) (fun hf w1 h1' => ?_)
    · rw [if_pos rfl]
      have : (decide (gC (gU R) < 16) && decide (jLow R (nI q) = -1)) = false := by
        cases hcc : (decide (gC (gU R) < 16) && decide (jLow R (nI q) = -1)) with
        | false => rfl
        | true => exact absurd (hcould.mpr hcc) hf
      rw [es0, this, if_pos (show jB2 false = 0 from rfl)]
      refine l_digest h1' ht (by omega) (fun w2 h2 => ?_)
      rw [lg_cmp_self, if_pos rfl]
      unfold w_L_isWritten_b91
      exact ⟨rfl, k R V w2 ⟨T, t0, t3, h2⟩ (hi.mono (by omega)) gEq.refl gFr.refl⟩
    · have hco := hcould.mp hf
      rw [hco] at es0
      rw [Bool.and_eq_true, decide_eq_true_eq, decide_eq_true_eq] at hco
      -- the book after it was kept
      have ht1 := i1.t0
      have r8 : jCpR R (3 + j) 0 8 a = nI q := by rw [er 8 (Or.inl ⟨by omega, by omega⟩)]; exact q2
      have r9 : jCpR R (3 + j) 0 9 a = nI m := by rw [er 9 (Or.inl ⟨by omega, by omega⟩)]; exact em
      have uq : gU (jCpR R (3 + j) 0) q = true := by rw [gU_e er]; exact q1
      rcases jFree_c ht1.1 with ⟨f, f1, f2, f3, f4⟩ | ⟨f1, -⟩
      · obtain ⟨R2, nx, x1, x2, x3, x4, x5, x6, x7, x8, x9, x10, x11, x12, x13, x14⟩ := k_app ht1 (by omega) f1 f2 f3 f4 (show a < 4 by omega) r8 uq hm r9
        obtain ⟨ka, kb⟩ := k_append ht1 (by omega) f1 f2 f3 f4 (show a < 4 by omega) r8 uq hm r9
        have es1 : jSz (jCpR R (3 + j) 0) 1 (nI a) = nI m := by rw [jSz1 (by omega)]; exact r9
        have hs : jSz (jAp0 (jCpR R (3 + j) 0) (jKpV V j) (nI a) m) 0 (jFreeSlot (jCpR R (3 + j) 0) 0) ≤ 4 := by
          obtain ⟨-, -, -, r5, -⟩ := gAp0_r (R := jCpR R (3 + j) 0) (f := f) (x := a) (q := q) (m := m) (v := jKpV V j 1)
          rw [jAp0_g f1 (by omega) hm f4 r8, f4, jSz0 f1, r5]
          simp only [if_true]
          exact (nI_leI (b := 4) (by omega) (by omega)).mpr hm
        refine s_append h1' hm es1 hs (fun w2 h2 => ?_)
        have hlv : gLv (jCpR R (3 + j) 0) (jKpV V j) (jAp (jCpR R (3 + j) 0) (jKpV V j) (nI a) m) (jSetV (jSetV (jKpV V j) 1 (jKpV V j 1 + 1)) 2 (jKpV V j 2 + 1)) := by
          refine ⟨fun r hr => ?_, fun i hi => by rw [jSetV_ne (by omega), jSetV_ne (by omega)]⟩
          obtain ⟨-, -, -, -, -, rr⟩ := gAp0_r (R := jCpR R (3 + j) 0) (f := f) (x := a) (q := q) (m := m) (v := jKpV V j 1)
          rw [ka, gPut_ne (by omega), gPut_ne (by omega), gPut_ne (by omega), gPut_ne (by omega)]
          exact rr r (by omega) (by omega) (by omega) (by omega) (by omega)
        obtain ⟨iA, oA⟩ := gKeep hi hj hv (Nat.le_succ B) kb hlv
        have eV0 : jSetV (jSetV (jKpV V j) 1 (jKpV V j 1 + 1)) 2 (jKpV V j 2 + 1) 0 = nI hc' := by
          rw [jSetV_ne (by omega), jSetV_ne (by omega), i2.2 0 (by omega)]; exact e0
        generalize hV2 : jSetV (jSetV (jKpV V j) 1 (jKpV V j 1 + 1)) 2 (jKpV V j 2 + 1) = V2 at h2 kb iA oA eV0
        rw [← x1] at h2 kb iA oA
        rw [x2]
        have t2 := kb.1
        have hh2 := jHill_of h4 eV0 ha
        have hsf : jSlotOf R2 0 (nI (nx + 1)) = nI f := by
          have := t2.slot x4
          rw [x5] at this; exact this
        have hnf : jSlotOf R2 0 (nI (nx + 1)) ≠ -1 := by rw [hsf]; exact nI_m1 (by omega)
        have hf0 : jSlotOf R2 0 (nI (nx + 1)) ≠ 0 := by rw [hsf]; exact fun e => f2 ((nI_eq (b := 0) (by omega) (by omega)).mp e)
        have uq2 := x13 q uq
        rw [if_neg (fun e : nI (nx + 1) = -100000000 => nI_pos (n := nx + 1) (by omega) (by rw [e]; decide)), es0, if_neg (show ¬ jB2 true = 0 by decide)]
        refine ⟨⟨_, h2.lg⟩, q_hashOf h2 hnf ?_⟩
        rw [hsf, jGt_5 (by omega) f1, x7, if_pos (jNh_e er)]
        refine ⟨⟨_, h2.lg⟩, q_parentOfZ h2 hnf hf0 ?_⟩
        rw [hsf, t2.g1p x4 f2, x6, jGt_5 (by omega) hq16, (t2.n uq2.1).1, uq2.2, gN_e er, if_pos rfl]
        refine ⟨⟨_, h2.lg⟩, q_writerOf h2 hnf hf0 ?_⟩
        rw [hsf, jGt_5 (by omega) f1, x8, if_pos rfl]
        refine ⟨⟨_, h2.lg⟩, q_flakeCount h2 hnf ?_⟩
        rw [hsf, jSz0 f1, x9, if_pos rfl]
        refine ⟨⟨_, h2.lg⟩, q_followed h2 hh2 ?_⟩
        rw [jGt_8 (by omega), x10, jGt_5 (by omega) f1, (t2.n x4).1, x5, if_pos rfl]
        refine ⟨⟨_, h2.lg⟩, q_collected h2 hh2 ?_⟩
        rw [jSz1 (by omega), x11, if_pos (show nI 0 = 0 from rfl)]
        refine ⟨⟨_, h2.lg⟩, q_blocksBy h2 hh2 ?_⟩
        have eby : jCt (fun i => decide (jGt R2 0 2 (nI i) = nI a)) = nI (gC (fun i => decide (R 2 i = nI a))) + 1 := by
          rw [jCt_eq, nI_1]
          have e9 : gC (fun i => decide (jGt R2 0 2 (nI i) = nI a)) = gC (fun i => decide (R2 2 i = nI a)) := gC_congr (fun i hi => by rw [jGt_5 (by omega) hi])
          rw [e9, x12, er 2 (Or.inl ⟨by omega, by omega⟩)]
        rw [if_pos eby]
        refine ⟨⟨_, h2.lg⟩, q_isBranchValid h2 kb.2.1.s0 hnf (fun w3 h3 => ?_)⟩
        have hlf : jLow R2 (nI f) = -1 := x14 (by rw [jLow_e er]; exact hco.2)
        rw [hsf, hlf, decide_eq_true rfl, if_neg (show ¬ jB2 true = 0 by decide)]
        have hbk := l_isBlock (κ := κ) (P := fun v10 w10 => if v10 = 0 then w_L_isWritten_b192 κ w10 (L 316) (jDg R V) P else w_L_isWritten_b193 κ w10 (L 316) (jDg R V) 1 P) ⟨T, t0, t3, h3⟩ kb (by omega) x4 (fun w4 h4' => ?_)
        · rw [x5] at hbk; exact hbk
        · rw [if_neg (by decide)]
          obtain ⟨T4, u0, u3, h4'⟩ := h4'
          unfold w_L_isWritten_b193
          rw [if_neg (by decide)]
          have b1 := oA.2 0 R V (by omega) (gBk.z hi)
          obtain ⟨j2, hj2, hv2⟩ := iA.j
          refine u_undo h4' iA (fun e => absurd e (b1.back (by omega) hj2 hv2).1) (fun _ R3 V3 v w5 h5 c1 c2 c3 c4 => ?_)
          have e3 := (c3 0 R V (by omega) b1).at0
          rw [if_neg c4]
          refine l_digest h5 c1.t0 (by omega) (fun w6 h6 => ?_)
          rw [jDg_e e3, lg_cmp_self, if_pos rfl]
          unfold w_L_isWritten_b221
          exact ⟨rfl, k R3 V3 w6 ⟨T4, u0, u3, h6⟩ c1 e3 (oA.1.tr c2)⟩
      · have : gC (gU (jCpR R (3 + j) 0)) = 16 := by
          have all : gC (fun _ => true) = 16 := by decide
          rw [← all]
          exact gC_congr (fun i hi => by rw [f1 i hi])
        rw [gU_e er] at this
        omega
  unfold w_L_isWritten w_L_isWritten_b0
  refine l_digest h ht (by omega) (fun w1 h => ⟨⟨_, h.lg⟩, q_followed h hh ⟨⟨_, h.lg⟩, q_nextHash h hh (ht.2.1.s1 _) (fun w2 h => ⟨⟨_, h.lg⟩, q_collected h hh ⟨⟨_, h.lg⟩, q_blocksBy h hh ⟨⟨_, h.lg⟩, q_blockCount h ?_⟩⟩⟩)⟩⟩)
  have eby : jCt (fun i => decide (jGt R 0 2 (nI i) = nI a)) = nI (gC (fun i => decide (R 2 i = nI a))) := by
    rw [jCt_eq]
    exact congrArg nI (gC_congr (fun i hi => by rw [jGt_5 (by omega) hi]))
  have efo : jGt R 0 0 (jGt R 0 8 (nI a)) = nI (gN R q) := by rw [jGt_8 (by omega), q2, jGt_5 (by omega) hq16, (h1.n q1).1]
  rw [jBlk_g, eby, efo, es]
  by_cases hc16 : gC (gU R) < 16
  · rw [if_neg (fun e : (16 : Int32) ≤ nI (gC (gU R)) => by have := (nI_leI (a := 16) (by omega) (by omega)).mp e; omega)]
    refine ⟨⟨_, h.lg⟩, q_isBranchValid h ht.2.1.s0 hnq (fun w3 h3 => ?_)⟩
    rw [hsq]
    refine jif_b (fun hu => ?_) (fun hu => ?_)
    · unfold w_L_isWritten_b55
      exact main 0 w3 (by rw [hu, Bool.and_false]; rfl) h3
    · exact main 1 w3 (by rw [hu, decide_eq_true hc16]; rfl) h3
  · rw [if_pos (show (16 : Int32) ≤ nI (gC (gU R)) from (nI_leI (a := 16) (by omega) (by omega)).mpr (by omega))]
    unfold w_L_isWritten_b55
    exact main 0 w2 (by rw [decide_eq_false hc16, Bool.false_and]; rfl) h
end JWritten
