/-! ===== repairs as foretold; all that fits ===== -/
section JRepaired
variable {κ : Nat → Nat} {L : Nat → Nat} {R R' : Nat → Nat → Int32} {V V' : Nat → Int32} {w : va_W} {B : Nat} {P : Int32 → va_W → Prop}
/-- undone again, all of them -/
theorem l_rp140 {R0 : Nat → Nat → Int32} {V0 : Nat → Int32} (hB : B < 19000) {N : Nat} (hN : N ≤ 8) (k : ∀ R' V' w', jK L R' V' w' → jInv R' V' B → gEq R' V' R0 V0 → gFr R0 V0 R' V' → P 1 w') : ∀ (n i : Nat) (R : Nat → Nat → Int32) (V : Nat → Int32) (w : va_W), i ≤ N → N < n + i → jK L R V w → jInv R V B → gBk R V (N - i) R0 V0 → gFr R0 V0 R V → w_L_isRepaired_b140 n κ w (L 316) (jDg R0 V0) (nI N) 1 (nI i) P := by
  intro n
  induction n with
  | zero => intro i R V w a b; omega
  | succ n ih =>
    intro i R V w a b h hi hb hf
    obtain ⟨T, t0, t3, h⟩ := h
    rw [w_L_isRepaired_b140]
    by_cases hin : i = N
    · subst hin
      rw [if_pos (Int32.le_refl _), if_neg (by decide)]
      rw [Nat.sub_self] at hb
      refine l_digest h hi.t0 (by omega) (fun w6 h6 => ?_)
      rw [jDg_e hb.at0, lg_cmp_self, if_pos rfl]
      unfold w_L_isRepaired_b191
      exact ⟨rfl, k R V w6 ⟨T, t0, t3, h6⟩ hi hb.at0 hf⟩
    · rw [if_neg (nI_ge (by omega) (by omega)), if_neg (by decide)]
      rw [show N - i = (N - (i + 1)) + 1 by omega] at hb
      obtain ⟨j, hj, hv⟩ := hi.j
      refine u_undo h hi (fun e => absurd e (hb.back (by omega) hj hv).1) (fun _ R3 V3 v w5 h5 c1 c2 c3 c4 => ?_)
      rw [if_neg c4]
      unfold w_L_isRepaired_b164
      rw [nI_1]
      exact ih (i + 1) R3 V3 w5 (by omega) (by omega) ⟨T, t0, t3, h5⟩ c1 (c3 _ R0 V0 (by omega) hb) (hf.tr c2)
theorem l_isRepaired (h : jK L R V w) (hi : jInv R V B) (hB : B < 19000) (hκ : jEn κ) {x : Nat} (hx : gU R x = true) (k : ∀ R' V' w', jK L R' V' w' → jInv R' V' B → gEq R' V' R V → gFr R V R' V' → P 1 w') : w_L_isRepaired κ w (L 316) (nI (gN R x)) P := by
  have ht := hi.t0
  have h1 := ht.1
  have hx16 := gU_16 hx
  have hsl := h1.slot hx
  have hne : jSlotOf R 0 (nI (gN R x)) ≠ -1 := by rw [hsl]; exact nI_m1 (by omega)
  obtain ⟨T, t0, t3, h⟩ := h
  obtain ⟨c, ec, hc⟩ := h1.rp_le x hx
  have hd := h1.tree.d_le hx
  have er : jRp R (nI x) = nI c := ec
  -- from the end of the repairs on
  have und : ∀ (N : Nat) (R1 : Nat → Nat → Int32) (V1 : Nat → Int32) (w1 : va_W), N ≤ 8 → jK L R1 V1 w1 → jInv R1 V1 B → gBk R1 V1 N R V → gFr R V R1 V1 → w_L_isRepaired_b130 κ w1 (L 316) (jDg R V) (nI N) P := fun N R1 V1 w1 hN a b cc d => by
    unfold w_L_isRepaired_b130 w_L_isRepaired_b135
    exact l_rp140 hB hN k 11 0 R1 V1 w1 (Nat.zero_le _) (by omega) a b cc d
  unfold w_L_isRepaired w_L_isRepaired_b0
  refine l_digest h ht (by omega) (fun w1 h => ⟨⟨_, h.lg⟩, q_repairsNeeded h ht.2.1.s0 hne (fun w2 h => ?_)⟩)
  rw [hsl, er]
  unfold w_L_isRepaired_b27
  by_cases h8 : 8 < c
  · rw [if_pos (show (8 : Int32) < nI c from (nI_ltI (a := 8) (by omega) (by omega)).mpr h8)]
    rw [w_L_isRepaired_b29, if_pos (show (8 : Int32) < nI c from (nI_ltI (a := 8) (by omega) (by omega)).mpr h8)]
    unfold w_L_isRepaired_b103
    rw [if_pos (show (8 : Int32) < nI c from (nI_ltI (a := 8) (by omega) (by omega)).mpr h8)]
    exact und 0 R V w2 (by omega) ⟨T, t0, t3, h⟩ hi (gBk.z hi) gFr.refl
  · rw [if_neg (fun e : (8 : Int32) < nI c => h8 ((nI_ltI (a := 8) (by omega) (by omega)).mp e))]
    have loop : ∀ (n i : Nat) (R1 : Nat → Nat → Int32) (V1 : Nat → Int32) (w1 : va_W), i ≤ c → c < n + i → jRq L R1 V1 T w1 → jInv R1 V1 B → gBk R1 V1 i R V → gFr R V R1 V1 → gU R1 = gU R → gN R1 = gN R → (jRpA R1 (nI x)).2 = nI (c - i) → w_L_isRepaired_b29 n κ w1 (L 316) (nI (gN R x)) (jDg R V) (nI c) (nI i) 1 P := by
      intro n
      induction n with
      | zero => intro i R1 V1 w1 a b; omega
      | succ n ih =>
        intro i R1 V1 w1 a b h hi1 hb hf eu en erp
        have ht1 := hi1.t0
        have g1 := ht1.1
        have hx1 : gU R1 x = true := by rw [eu]; exact hx
        have hs1 : jSlotOf R1 0 (nI (gN R x)) = nI x := by rw [← en]; exact g1.slot hx1
        have hn1 : jSlotOf R1 0 (nI (gN R x)) ≠ -1 := by rw [hs1]; exact nI_m1 (by omega)
        rw [w_L_isRepaired_b29, if_neg (fun e : (8 : Int32) < nI c => h8 ((nI_ltI (a := 8) (by omega) (by omega)).mp e)), if_neg (by decide)]
        have hfin := jFin_c g1 hx1
        rw [show gN R1 x = gN R x from by rw [en]] at hfin
        refine l_firstInvalid h ht1.2.1.s0 (fun w3 h => ?_)
        rcases hfin with ⟨f1, f2⟩ | ⟨y, y1, y2, y3, y4⟩
        · rw [f2, if_pos rfl]
          have hci : c - i = 0 := by
            have := (g1.rp_c x hx1).1 f1
            rw [this] at erp
            have erp : nI 0 = nI (c - i) := erp
            exact ((nI_eq (by omega) (by omega)).mp erp).symm
          have hic : i = c := by omega
          subst hic
          unfold w_L_isRepaired_b103
          rw [if_neg (fun e : (8 : Int32) < nI i => h8 ((nI_ltI (a := 8) (by omega) (by omega)).mp e)), if_neg (by decide), if_pos rfl]
          refine ⟨⟨_, h.lg⟩, q_isBranchValid h ht1.2.1.s0 hn1 (fun w4 h4 => ?_)⟩
          rw [hs1, f1, decide_eq_true rfl, if_neg (show ¬ jB2 true = 0 by decide)]
          exact und i R1 V1 w4 (by omega) ⟨T, t0, t3, h4⟩ hi1 hb hf
        · have y16 := gU_16 y1
          rw [y4, if_neg (nI_k (g1.n y1).2)]
          refine l_firstInvalid h ht1.2.1.s0 (fun w4 h4 => ?_)
          rw [y4]
          have hlt : i < c := by
            rcases Nat.lt_or_ge i c with g | g
            · exact g
            · exfalso
              exact jRpA_ne g1 hx1 (by rw [y3]; exact nI_m1 (by omega)) (by rw [erp, show c - i = 0 by omega])
          rw [if_neg (nI_ge hlt (by omega))]
          -- the lowest broken block is repaired
          obtain ⟨yl, ya, yh, yp⟩ : jLow R1 (nI x) = nI y ∧ gA (gP R1) x y = true ∧ jHolds R1 (nI y) = false ∧ jLow R1 (nI (gP R1 y)) = -1 := by
            rcases g1.low_c x hx1 with ⟨z1, -⟩ | ⟨z, z1, z2, z3, z4, z5, z6⟩
            · rw [z1] at y3; exact absurd y3.symm (nI_m1 (by omega))
            · have hzy : z = y := (nI_eq (by have := gU_16 z1; omega) (by omega)).mp (z3.symm.trans y3)
              subst hzy
              exact ⟨z3, z4, z5, z6⟩
          obtain ⟨j, hj, hv⟩ := hi1.j
          obtain ⟨i1, i2, i3⟩ := hi1.keep hj hv
          have er1 := i2.r
          have hsy : jSlotOf R1 0 (nI (gN R1 y)) = nI y := g1.slot y1
          have hny : jSlotOf R1 0 (nI (gN R1 y)) ≠ -1 := by rw [hsy]; exact nI_m1 (by omega)
          have hmend : jfMend R1 (nI (gN R1 y)) = 2 := by
            have hrm : jfRemove R1 (nI (gN R1 y)) = 2 := by
              unfold jfRemove
              rw [if_neg hny, hsy, if_neg (fun e : nI y = 0 => y2 ((nI_eq (b := 0) (by omega) (by omega)).mp e))]
            unfold jfMend
            rw [if_pos hrm, hsy, if_pos yh]
          refine l_repair h4 hi1 hκ (fun e => absurd hmend e) hj hv (fun _ w5 h5 => ?_)
          have ht2 := i1.t0
          have uy : gU (jCpR R1 (3 + j) 0) y = true := by rw [gU_e er1]; exact y1
          have hsy2 : jSlotOf (jCpR R1 (3 + j) 0) 0 (nI (gN R1 y)) = nI y := by rw [jSlotOf_e er1]; exact hsy
          have kb := k_mend ht2 uy y2
          have sg := jSeal_g ht2.1 uy y2
          refine s_mend h5 ht2.2.1.s0 (fun w6 h6 => ?_)
          rw [hsy2] at h6 ⊢
          have hlv : gLv (jCpR R1 (3 + j) 0) (jKpV V1 j) (jSeal (jCpR R1 (3 + j) 0) (nI y)) (jKpV V1 j) := by
            refine ⟨fun r hr => ?_, fun _ _ => rfl⟩
            rw [sg, gPut_ne (by omega), gPut_ne (by omega)]
          obtain ⟨iA, oA⟩ := gKeep hi1 hj hv (Nat.le_refl B) kb hlv
          -- the rows of the repaired book
          have hr : ∀ r, r ≠ 4 → r ≠ 3 → jSeal (jCpR R1 (3 + j) 0) (nI y) r = jCpR R1 (3 + j) 0 r := fun r a b => by rw [sg, gPut_ne b, gPut_ne a]
          have hr3 : ∀ i, jSeal (jCpR R1 (3 + j) 0) (nI y) 3 i = if i = y then gSh (jCpR R1 (3 + j) 0) y else R1 3 i := fun i => by
            rw [sg, gPut_s, gPut_ne (by omega), er1 3 (Or.inl ⟨by omega, by omega⟩)]
          have hr4 : ∀ i, jSeal (jCpR R1 (3 + j) 0) (nI y) 4 i = if i = y then gSn (jCpR R1 (3 + j) 0) y else R1 4 i := fun i => by
            rw [sg, gPut_ne (by omega), gPut_s, er1 4 (Or.inr rfl)]
          generalize hSS : jSeal (jCpR R1 (3 + j) 0) (nI y) = R2 at h6 kb iA oA hr hr3 hr4
          have t2 := kb.1
          have eu2 : gU R2 = gU R1 := (gU_c (hr 0 (by omega) (by omega))).trans (gU_e er1)
          have en2 : gN R2 = gN R1 := (gN_c (hr 0 (by omega) (by omega))).trans (gN_e er1)
          have ep2 : gP R2 = gP R1 := (gP_c (hr 1 (by omega) (by omega))).trans (gP_e er1)
          have rw2 : ∀ r, r ≠ 4 → r ≠ 3 → r < 11 → r ≠ 7 → R2 r = R1 r := fun r a b c d => (hr r a b).trans (er1 r (Or.inl ⟨c, d⟩))
          have hroot : ∀ z, gU R1 z = true → jRoot R2 0 (nI z) = jRoot R1 0 (nI z) := fun z hz => jRoot_rows (gU_16 hz) (by rw [rw2 5 (by omega) (by omega) (by omega) (by omega)]) (fun p _ => by rw [rw2 6 (by omega) (by omega) (by omega) (by omega)])
          obtain ⟨p1, p2, p3, p4⟩ := g1.p y1 y2
          have eSn : gSn (jCpR R1 (3 + j) 0) y = jNon (R1 3 (gP R1 y)) (jRoot R1 0 (nI y)) (R1 2 y) := by
            unfold gSn
            rw [gP_e er1, jRoot_e er1 (by omega), er1 3 (Or.inl ⟨by omega, by omega⟩), er1 2 (Or.inl ⟨by omega, by omega⟩)]
          have eSh : gSh (jCpR R1 (3 + j) 0) y = jHw (R1 3 (gP R1 y)) (jRoot R1 0 (nI y)) (R1 2 y) (jNon (R1 3 (gP R1 y)) (jRoot R1 0 (nI y)) (R1 2 y)) := by
            unfold gSh
            rw [eSn, gP_e er1, jRoot_e er1 (by omega), er1 3 (Or.inl ⟨by omega, by omega⟩), er1 2 (Or.inl ⟨by omega, by omega⟩)]
          obtain ⟨s1, s2, -⟩ := jRp_seal (R := R1) (R' := R2) g1 t2 eu2 ep2 y1 y2 yp yh
            (fun z hz => by rw [jGt_5 (by omega) (gU_16 hz), jGt_5 (by omega) (gU_16 hz), rw2 2 (by omega) (by omega) (by omega) (by omega)]) hroot
            (fun z hz hzy => by
              rw [jGt_5 (by omega) (gU_16 hz), jGt_5 (by omega) (gU_16 hz), jGt_5 (by omega) (gU_16 hz), jGt_5 (by omega) (gU_16 hz), hr3, hr4, if_neg hzy, if_neg hzy]
              exact ⟨rfl, rfl⟩)
            (by rw [jGt_5 (by omega) y16, jGt_5 (by omega) p2, jGt_5 (by omega) y16, hr4, if_pos rfl]; exact eSn)
            (by rw [jGt_5 (by omega) y16, jGt_5 (by omega) p2, jGt_5 (by omega) y16, hr3, if_pos rfl]; exact eSh)
          have hcnt := (s1 x hx1 ya).2
          have hu2 : gU R2 y = true := by rw [eu2]; exact y1
          have hs2 : jSlotOf R2 0 (nI (gN R1 y)) = nI y := by rw [← en2]; exact t2.slot hu2
          have hn2 : jSlotOf R2 0 (nI (gN R1 y)) ≠ -1 := by rw [hs2]; exact nI_m1 (by omega)
          refine ⟨⟨_, h6.lg⟩, q_hashOf h6 hn2 ?_⟩
          rw [hs2, if_pos rfl]
          refine ⟨⟨_, h6.lg⟩, q_isValid h6 kb.2.1.s0 hn2 (fun w7 h7 => ?_)⟩
          rw [hs2, s2, if_neg (show ¬ jB2 true = 0 by decide)]
          unfold w_L_isRepaired_b95
          rw [nI_1]
          refine ih (i + 1) R2 (jKpV V1 j) w7 (by omega) (by omega) h7 iA (oA.2 i R V (by omega) hb) (hf.tr oA.1) (eu2.trans eu) (en2.trans en) ?_
          have e1 : nI (c - i) = (jRpA R2 (nI x)).2 + 1 := by rw [← erp]; exact hcnt
          have e2 : nI (c - i) = nI (c - (i + 1)) + 1 := by rw [nI_1]; congr 1; omega
          rw [e2] at e1
          have e3 := congrArg (fun z : Int32 => z - 1) e1
          rw [Int32.add_sub_cancel, Int32.add_sub_cancel] at e3
          exact e3.symm
    exact loop 10 0 R V w2 (Nat.zero_le _) (by omega) h hi (gBk.z hi) gFr.refl rfl rfl (by rw [Nat.sub_zero]; exact ec)
end JRepaired
