/-! ===== a block melts as foretold ===== -/
section JMelted
variable {κ : Nat → Nat} {L : Nat → Nat} {R R' : Nat → Nat → Int32} {V V' : Nat → Int32} {w : va_W} {B : Nat} {P : Int32 → va_W → Prop}
def gQ8 (R : Nat → Nat → Int32) (i : Nat) : Nat := (R 8 i).toNatClampNeg
def gVal (R : Nat → Nat → Int32) (x i : Nat) : Int32 := if gA (gP R) (gQ8 R i) x = true then jPar R (nI (gN R x)) else nI (gN R (gQ8 R i))
theorem gQ8_ok (ht : jTree R V B) {hc i : Nat} (h4 : hc ≤ 4) (e0 : V 0 = nI hc) (hi : i < hc) : gU R (gQ8 R i) = true ∧ R 8 i = nI (gQ8 R i) := by
  obtain ⟨hc', g4, e0', hq⟩ := ht.2.2.2.2
  have : hc' = hc := (nI_eq (by omega) (by omega)).mp (e0'.symm.trans e0)
  subst this
  obtain ⟨q, q1, q2⟩ := hq i hi
  have : gQ8 R i = q := by unfold gQ8; rw [q2, nI_clamp (by have := gU_16 q1; omega)]
  rw [this]; exact ⟨q1, q2⟩
/-- the last part: undone, and as before -/
theorem l_mt207 {L9 : Nat → Nat} {q : Nat} (e9 : L9 = jLx L q) {R0 : Nat → Nat → Int32} {V0 : Nat → Int32} {T : Nat → List Int32} (h : jRq L9 R V T w) (t0 : T 0 = []) (hi : jInv R V B) (hB : B < 19000) (hb : gBk R V 1 R0 V0) (hf : gFr R0 V0 R V) (k : ∀ R' V' w', jK L R' V' w' → jInv R' V' B → gEq R' V' R0 V0 → gFr R0 V0 R' V' → P 1 w') {a8 : Int32} (h8 : a8 = 1) : w_L_isMelted_b207 κ w (L9 316) (jDg R0 V0) a8 P := by
  subst h8
  unfold w_L_isMelted_b207
  rw [if_neg (by decide)]
  obtain ⟨j, hj, hv⟩ := hi.j
  refine u_undo h hi (fun e => absurd e (hb.back (by omega) hj hv).1) (fun _ R3 V3 v w5 h5 c1 c2 c3 c4 => ?_)
  have e3 := (c3 0 R0 V0 (by omega) hb).at0
  rw [if_neg c4]
  refine l_digest h5 c1.t0 (by omega) (fun w6 h6 => ?_)
  rw [jDg_e e3, lg_cmp_self, if_pos rfl]
  unfold w_L_isMelted_b233
  subst e9
  exact ⟨rfl, k R3 V3 w6 ⟨_, (jT_ne (by omega)).trans t0, jT_self, h6.drop⟩ c1 e3 (hf.tr c2)⟩
theorem l_mt166 {L9 : Nat → Nat} {q : Nat} (e9 : L9 = jLx L q) {R0 : Nat → Nat → Int32} {V0 : Nat → Int32} {T : Nat → List Int32} (h : jRq L9 R V T w) (t0 : T 0 = []) (t3 : T 3 ≠ []) (hi : jInv R V B) (hB : B < 19000) (hb : gBk R V 1 R0 V0) (hf : gFr R0 V0 R V) (k : ∀ R' V' w', jK L R' V' w' → jInv R' V' B → gEq R' V' R0 V0 → gFr R0 V0 R' V' → P 1 w') {hc : Nat} (h4 : hc ≤ 4) (e0 : V 0 = nI hc) (hval : ∀ i, i < hc → (T 2).getD i 0 = jGt R 0 0 (jGt R 0 8 (nI i))) : ∀ n i, i ≤ hc → hc < n + i → w_L_isMelted_b166 n κ w (L9 316) (jDg R0 V0) (L9 320) 1 (nI i) P := by
  intro n
  induction n with
  | zero => intro i a b; omega
  | succ n ih =>
    intro i a b
    rw [w_L_isMelted_b166, if_neg (by decide)]
    refine ⟨⟨_, h.lg⟩, q_hills h ?_⟩
    rw [e0]
    by_cases hic : i = hc
    · rw [if_pos ((nI_leI (by omega) (by omega)).mpr (by omega))]
      exact l_mt207 e9 h t0 hi hB hb hf k rfl
    · rw [if_neg (fun e => hic (by have := (nI_leI (by omega) (by omega)).mp e; omega))]
      have hh := jHill_of h4 e0 (show i < hc by omega)
      refine ⟨⟨_, h.lg⟩, q_followed h hh (s_xld h t3 (show i < 4 by omega) ?_)⟩
      rw [hval i (by omega), if_pos rfl]
      unfold w_L_isMelted_b199
      rw [nI_1]
      exact ih (i + 1) (by omega) (by omega)
theorem l_isMelted (h : jK L R V w) (hi : jInv R V B) (hB : B < 19000) (hκ : jEn κ) {x : Nat} (hx : gU R x = true) (k : ∀ R' V' w', jK L R' V' w' → jInv R' V' B → gEq R' V' R V → gFr R V R' V' → P 1 w') : w_L_isMelted κ w (L 316) (nI (gN R x)) P := by
  have ht := hi.t0
  have h1 := ht.1
  have h16 := gC_16 (gU R)
  have hc16 := gC_16 (fun i => gU R i && gA (gP R) i x)
  have hx16 := gU_16 hx
  have hsl := h1.slot hx
  have hne : jSlotOf R 0 (nI (gN R x)) ≠ -1 := by rw [hsl]; exact nI_m1 (by omega)
  obtain ⟨hc, h4, e0, -⟩ := ht.2.2.2.2
  obtain ⟨T, t0, t3, h⟩ := h
  obtain ⟨j, hj, hv⟩ := hi.j
  obtain ⟨i1, i2, i3⟩ := hi.keep hj hv
  have er := i2.r
  unfold w_L_isMelted w_L_isMelted_b0
  refine l_digest h ht (by omega) (fun w1 h => ⟨⟨_, h.lg⟩, q_meltSize h hne ⟨⟨_, h.lg⟩, q_blockCount h ⟨⟨_, h.lg⟩, q_melted h (l_parentOf h ⟨by decide, by decide, fun q hq => ?_⟩)⟩⟩⟩)
  rw [hsl, h1.reaching hx, jBlk_g]
  have ha := h.alloc hq
  -- once the array is filled: the melting
  have fin : ∀ (L9 : Nat → Nat) (T9 : Nat → List Int32) (w9 : va_W), L9 = jLx L q → jRq L9 R V T9 w9 → T9 0 = [] → T9 3 ≠ [] → (∀ p, p < hc → (T9 2).getD p 0 = gVal R x p) → w_L_melt κ w9 (L9 316) (nI (gN R x)) (fun v2 w2 => (if v2 = (-100000000) then (if nI (gN R x) = 0 then w_L_digest κ w2 (L9 316) (fun v6 w6 => (if (lg_cmp v6 (jDg R V)) = 0 then w_L_isMelted_b116 κ w6 1 P else w_L_isMelted_b115 κ w6 P)) else w_L_isMelted_b115 κ w2 P) else (if v2 = nI (gC (fun i => gU R i && gA (gP R) i x)) then (jRc w2 (L9 316) 11 ∧ w_X8_blockCount κ w2 (L9 316) (fun v3 w3 => (if v3 = (nI (gC (gU R)) - nI (gC (fun i => gU R i && gA (gP R) i x))) then (jRc w3 (L9 316) 11 ∧ w_X8_meltedTotal κ w3 (L9 316) (fun v4 w4 => (if v4 = (V 3 + nI (gC (fun i => gU R i && gA (gP R) i x))) then (jRc w4 (L9 316) 11 ∧ w_X8_exists κ w4 (L9 316) (nI (gN R x)) (fun v5 w5 => (if v5 = 0 then w_L_isMelted_b161 κ w5 (L9 316) (jDg R V) (L9 320) 1 P else w_L_isMelted_b160 κ w5 (L9 316) (jDg R V) (L9 320) P))) else w_L_isMelted_b160 κ w4 (L9 316) (jDg R V) (L9 320) P))) else w_L_isMelted_b160 κ w3 (L9 316) (jDg R V) (L9 320) P))) else w_L_isMelted_b160 κ w2 (L9 316) (jDg R V) (L9 320) P))) := by
    intro L9 T9 w9 e9 h u0 u3 hval
    unfold w_L_melt w_L_melt_b0
    refine ⟨⟨_, h.lg⟩, s_meltF h hκ hj hv (fun e => ?_) (fun e w1 h1' => ?_)⟩
    · -- refused: the root
      have hx0 : x = 0 := by
        by_cases h0 : x = 0
        · exact h0
        · exfalso
          apply e
          unfold jfRemove
          rw [if_neg hne, hsl, if_neg (fun e : nI x = 0 => h0 ((nI_eq (b := 0) (by omega) (by omega)).mp e))]
      have e5 : jfRemove R (nI (gN R x)) = 5 := by
        unfold jfRemove
        rw [if_neg hne, hsl, if_pos (show nI x = 0 from by rw [hx0]; rfl)]
      rw [e5]
      simp (config := { decide := true }) only [jEx, if_true, if_false]
      rw [if_pos (show nI (gN R x) = 0 from by rw [hx0, h1.n0]; rfl)]
      refine l_digest h ht (by omega) (fun w2 h2 => ?_)
      rw [lg_cmp_self, if_pos rfl]
      unfold w_L_isMelted_b116
      subst e9
      exact ⟨rfl, k R V w2 ⟨_, (jT_ne (by omega)).trans u0, jT_self, h2.drop⟩ hi gEq.refl gFr.refl⟩
    · -- melted
      have ht1 := i1.t0
      have e1 : jfRemove (jCpR R (3 + j) 0) (nI (gN R x)) = 2 := by rw [jfRemove_e er]; exact e
      obtain ⟨s, s1, s2, s3, s4⟩ := jfRemove_2 ht1.1 e1
      have hsx : s = x := by
        rw [jSlotOf_e er, hsl] at s4
        exact ((nI_eq (by omega) (by have := gU_16 s1; omega)).mp s4).symm
      subst hsx
      have eV0 : jKpV V j 0 = nI hc := by rw [i2.2 0 (by omega)]; exact e0
      refine s_remove h1' h4 eV0 (fun D w2 h2 => ?_)
      obtain ⟨a1, a2, a3, a4, a5, a6⟩ := k_remove (D := D) ht1 s1 s2 eV0 h4 rfl
      rw [s4] at h2 ⊢
      have hlv : gLv (jCpR R (3 + j) 0) (jKpV V j) (jRm (jIter (jDm (jCpR R (3 + j) 0) (nI s)) 16 0 D) (jGt (jCpR R (3 + j) 0) 0 1 (nI s)) hc (jCpR R (3 + j) 0)).1 (jSetV (jKpV V j) 3 (jKpV V j 3 + (jRm (jIter (jDm (jCpR R (3 + j) 0) (nI s)) 16 0 D) (jGt (jCpR R (3 + j) 0) 0 1 (nI s)) hc (jCpR R (3 + j) 0)).2)) := by
        refine ⟨fun r hr => ?_, fun i hi => jSetV_ne (by omega)⟩
        unfold jRm
        rw [(gFr_l 16 0 _ (by omega)).1 r (by omega)]
        exact (gHl_l hc 0 _ (by omega)).1 r (by omega)
      generalize hQ : jRm (jIter (jDm (jCpR R (3 + j) 0) (nI s)) 16 0 D) (jGt (jCpR R (3 + j) 0) 0 1 (nI s)) hc (jCpR R (3 + j) 0) = Q at a1 a2 a3 a4 a5 a6 h2 hlv
      obtain ⟨iA, oA⟩ := gKeep hi hj hv (Nat.le_refl B) a2 hlv
      have t2 := a2.1
      rw [gU_e er, gP_e er] at a1 a3 a6
      rw [gP_e er] at a4 a5
      rw [gN_e er] at a4
      rw [gU_e er] at a5
      rw [a1] at *
      rw [if_neg (fun e : nI _ = -100000000 => nI_pos (n := gC (fun i => gU R i && gA (gP R) i s)) (by omega) (by rw [e]; decide)), if_pos rfl]
      refine ⟨⟨_, h2.lg⟩, q_blockCount h2 ?_⟩
      have ebc : jCt (fun i => jUsed Q.1 0 (nI i)) = nI (gC (gU R)) - nI (gC (fun i => gU R i && gA (gP R) i s)) := by
        rw [jBlk_g, nI_sub (by omega)]
        congr 1; omega
      rw [if_pos ebc]
      refine ⟨⟨_, h2.lg⟩, q_melted h2 ?_⟩
      have eme : jSetV (jKpV V j) 3 (jKpV V j 3 + nI (gC (fun i => gU R i && gA (gP R) i s))) 3 = V 3 + nI (gC (fun i => gU R i && gA (gP R) i s)) := by
        simp only [jSetV, if_true]
        rw [i2.2 3 (by omega)]
      rw [if_pos eme]
      refine ⟨⟨_, h2.lg⟩, q_exists h2 ?_⟩
      have hex : jSlotOf Q.1 0 (nI (gN R s)) = -1 := by
        refine (t2.slotE (h1.n hx).2).mpr (fun y hy e => ?_)
        rw [(a4 y hy).2] at e
        rw [a3] at hy
        rw [Bool.and_eq_true] at hy
        have hys : y = s := h1.tree.2.2.2 y s hy.1 hx e
        rw [hys, gA_r] at hy
        exact absurd hy.2 (by decide)
      rw [hex, decide_eq_false (fun g => g rfl), if_pos (show jB2 false = 0 from rfl)]
      unfold w_L_isMelted_b161
      have eV0' : jSetV (jKpV V j) 3 (jKpV V j 3 + nI (gC (fun i => gU R i && gA (gP R) i s))) 0 = nI hc := by rw [jSetV_ne (by omega)]; exact eV0
      refine l_mt166 e9 h2 u0 u3 iA hB (oA.2 0 R V (by omega) (gBk.z hi)) oA.1 k h4 eV0' (fun i hic => ?_) jFu 0 (Nat.zero_le _) (by rw [jFu_eq]; omega)
      obtain ⟨g1, g2⟩ := gQ8_ok ht h4 e0 hic
      have g28 : jCpR R (3 + j) 0 8 i = nI (gQ8 R i) := by rw [er 8 (Or.inl ⟨by omega, by omega⟩)]; exact g2
      have h8 := a5 i hic (gQ8 R i) g1 g28
      rw [hval i hic, jGt_8 (by omega), h8]
      unfold gVal
      obtain ⟨-, p2, p3, p4⟩ := h1.p hx s2
      have hps : gA (gP R) (gP R s) s = false := by
        cases haa : gA (gP R) (gP R s) s with
        | false => rfl
        | true => have := (h1.tree.a_u _ p3 haa).2.2.1; omega
      by_cases hA : gA (gP R) (gQ8 R i) s = true
      · rw [if_pos hA, if_pos hA, jPar_g h1 hx, if_neg s2]
        have hu : gU Q.1 (gP R s) = true := by rw [a3, p3, hps]; rfl
        rw [jGt_5 (by omega) p2, (t2.n hu).1, (a4 _ hu).2]
      · rw [if_neg hA, if_neg hA]
        have hA' : gA (gP R) (gQ8 R i) s = false := by simpa using hA
        have hu : gU Q.1 (gQ8 R i) = true := by rw [a3, g1, hA']; rfl
        rw [jGt_5 (by omega) (gU_16 g1), (t2.n hu).1, (a4 _ hu).2]
  -- the array is filled
  have loop : ∀ (L9 : Nat → Nat), L9 = jLx L q → ∀ (n i : Nat) (T9 : Nat → List Int32) (w9 : va_W), i ≤ hc → hc < n + i → jRq L9 R V T9 w9 → T9 0 = [] → T9 3 ≠ [] → (T9 2).length = 4 → (∀ p, p < i → (T9 2).getD p 0 = gVal R x p) → w_L_isMelted_b39 n κ w9 (L9 316) (nI (gN R x)) (jDg R V) (nI (gC (fun i => gU R i && gA (gP R) i x))) (nI (gC (gU R))) (V 3) (jPar R (nI (gN R x))) (L9 320) (nI i) P := by
    intro L9 e9 n
    induction n with
    | zero => intro i T9 w9 a b; omega
    | succ n ih =>
      intro i T9 w9 a b h u0 u3 hl hp
      rw [w_L_isMelted_b39]
      refine ⟨⟨_, h.lg⟩, q_hills h ?_⟩
      rw [e0]
      by_cases hic : i = hc
      · rw [if_pos ((nI_leI (by omega) (by omega)).mpr (by omega))]
        exact fin L9 T9 w9 e9 h u0 u3 (fun p hpc => hp p (by omega))
      · rw [if_neg (fun e => hic (by have := (nI_leI (by omega) (by omega)).mp e; omega))]
        have hh := jHill_of h4 e0 (show i < hc by omega)
        obtain ⟨g1, g2⟩ := gQ8_ok ht h4 e0 (show i < hc by omega)
        have hsq := h1.slot g1
        have g16 := gU_16 g1
        have hnq : jSlotOf R 0 (nI (gN R (gQ8 R i))) ≠ -1 := by rw [hsq]; exact nI_m1 (by omega)
        have efo : jGt R 0 0 (jGt R 0 8 (nI i)) = nI (gN R (gQ8 R i)) := by rw [jGt_8 (by omega), g2, jGt_5 (by omega) g16, (h1.n g1).1]
        have nxt : ∀ v, v = gVal R x i → w_L_isMelted_b77 κ w9 (L9 316) (nI (gN R x)) (jDg R V) (nI (gC (fun i => gU R i && gA (gP R) i x))) (nI (gC (gU R))) (V 3) (jPar R (nI (gN R x))) (L9 320) (nI i) v (nI i) (L9 320) (fun w_ z_a0 z_x1 z_l2 z_x4 z_x5 z_x6 z_x7 z_a8 z_x9 => w_L_isMelted_b39 n κ w_ z_a0 z_x1 z_l2 z_x4 z_x5 z_x6 z_x7 z_a8 z_x9 P) P := fun v ev => by
          unfold w_L_isMelted_b77
          refine s_xst h u3 hl (show i < 4 by omega) (fun w2 h2 => ?_)
          rw [nI_1]
          refine ih (i + 1) _ w2 (by omega) (by omega) h2 ((jT_ne (by omega)).trans u0) (by rw [jT_ne (by omega)]; exact u3) (by rw [jT_self, List.length_set]; exact hl) (fun p hpi => ?_)
          rw [jT_self]
          by_cases hpe : p = i
          · subst hpe
            rw [← ev]
            simp [List.getD, hl, show p < 4 by omega]
          · rw [← hp p (by omega)]
            simp [List.getD, List.getElem?_set_ne (show i ≠ p from fun e => hpe e.symm)]
        refine ⟨⟨_, h.lg⟩, q_followed h hh ?_⟩
        rw [efo]
        refine ⟨⟨_, h.lg⟩, q_isInBranch h hne hnq ?_⟩
        rw [hsl, hsq, h1.rch g1 hx16]
        refine jif_b (fun hu => ?_) (fun hu => ?_)
        · refine ⟨⟨_, h.lg⟩, q_followed h hh ?_⟩
          rw [efo]
          exact nxt _ (by unfold gVal; rw [hu, if_neg (by decide)])
        · exact nxt _ (by unfold gVal; rw [hu, if_pos rfl])
  exact loop (jLx L q) rfl jFu 0 _ _ (Nat.zero_le _) (by rw [jFu_eq]; omega) ha ((jT_ne (by omega)).trans ((jT_ne (by omega)).trans t0)) (by rw [jT_self]; exact List.cons_ne_nil _ _) (by rw [jT_ne (by omega), jT_self]; rfl) (fun p hp => absurd hp (Nat.not_lt_zero _))
end JMelted
