/-! ===== the law's digest: of the live state alone ===== -/
def jNh (R : Nat → Nat → Int32) (x : Int32) : Int32 := jHw (jGt R 0 3 (jGt R 0 8 x)) (jRoot R 1 x) x (jNon (jGt R 0 3 (jGt R 0 8 x)) (jRoot R 1 x) x)
def jDh (R : Nat → Nat → Int32) (l : Int64) (i : Nat) : Int64 := (31 * ((31 * ((31 * l) + Int32.toInt64 (jGt R 0 0 (jGt R 0 8 (nI i))))) + Int32.toInt64 (jSz R 1 (nI i)))) + Int32.toInt64 (jNh R (nI i))
def jDf (R : Nat → Nat → Int32) (s : Int32) (l : Int64) (p : Nat) : Int64 := (31 * l) + Int32.toInt64 (jFl R 0 s (nI p))
def jBn (R : Nat → Nat → Int32) (i : Nat) : Nat := (jBa R 20000 (nI i) 0).getD 0
def jDb (R : Nat → Nat → Int32) (l : Int64) (i : Nat) : Int64 :=
  jIter (jDf R (jSlotOf R 0 (nI (jBn R i)))) (jSz R 0 (jSlotOf R 0 (nI (jBn R i)))).toNatClampNeg 0 ((31 * ((31 * ((31 * ((31 * l) + Int32.toInt64 (nI (jBn R i)))) + Int32.toInt64 (jPar R (nI (jBn R i))))) + Int32.toInt64 (jGt R 0 3 (jSlotOf R 0 (nI (jBn R i)))))) + Int32.toInt64 (jNoc R (nI (jBn R i))))
def jDg (R : Nat → Nat → Int32) (V : Nat → Int32) : Int64 := jIter (jDb R) (gC (gU R)) 0 (jIter (jDh R) (V 0).toNatClampNeg 0 (((7 * Int32.toInt64 (V 2)) + (11 * Int32.toInt64 (V 3))) + Int32.toInt64 (V 0)))
section JDigest
variable {κ : Nat → Nat} {L : Nat → Nat} {R R' : Nat → Nat → Int32} {V V' : Nat → Int32} {T : Nat → List Int32} {w : va_W} {B : Nat} {x : Int32}
theorem jBa_e (e : gEr R' R) : ∀ n l b, jBa R' n l b = jBa R n l b := by
  intro n
  induction n with
  | zero => intro l b; rfl
  | succ n ih => intro l b; simp only [jBa, jSlotOf_e e, ih]
theorem jDg_e (h : gEq R' V' R V) : jDg R' V' = jDg R V := by
  have e := h.r
  have eh : jDh R' = jDh R := by
    funext l i
    unfold jDh jNh
    simp only [jGt_e e (show 0 < 12 by omega) (show 0 ≠ 7 by omega) (show 0 ≠ 11 by omega), jGt_e e (show 8 < 12 by omega) (show 8 ≠ 7 by omega) (show 8 ≠ 11 by omega), jGt_e e (show 3 < 12 by omega) (show 3 ≠ 7 by omega) (show 3 ≠ 11 by omega), jSz_e e (show 1 < 2 by omega), jRoot_e e (show 1 < 2 by omega)]
  have ef : jDf R' = jDf R := by
    funext s l p
    unfold jDf
    rw [jFl_e e (by omega)]
  have eb : jDb R' = jDb R := by
    funext l i
    unfold jDb jBn jPar jNoc
    simp only [ef, jBa_e e, jSlotOf_e e, jSz_e e (show 0 < 2 by omega), jGt_e e (show 0 < 12 by omega) (show 0 ≠ 7 by omega) (show 0 ≠ 11 by omega), jGt_e e (show 1 < 12 by omega) (show 1 ≠ 7 by omega) (show 1 ≠ 11 by omega), jGt_e e (show 3 < 12 by omega) (show 3 ≠ 7 by omega) (show 3 ≠ 11 by omega), jGt_e e (show 4 < 12 by omega) (show 4 ≠ 7 by omega) (show 4 ≠ 11 by omega)]
  unfold jDg
  rw [eh, eb, gU_e e, h.2 0 (by omega), h.2 2 (by omega), h.2 3 (by omega)]
/-- the rank's block, told by its slot -/
theorem jTree.sl (h : jTree R V B) (hB : B < 19000) {i : Nat} (hi : i < gC (gU R)) : gU R (gSl R i) = true ∧ jBa R 20000 (nI i) 0 = some (gN R (gSl R i)) ∧ gRho R (gSl R i) = i ∧ jBn R i = gN R (gSl R i) ∧ jSlotOf R 0 (nI (gN R (gSl R i))) = nI (gSl R i) := by
  obtain ⟨h1, -, -, ⟨nx, me, g1, -, -, -, -, g6⟩, -⟩ := h
  obtain ⟨a, b, c⟩ := h1.sl (by omega) g6 hi
  refine ⟨a, b, c, ?_, h1.slot a⟩
  unfold jBn; rw [b]; rfl
theorem s_dgF (h1 : jT1 R) {P : Int64 → va_W → Prop} {K : va_W → Nat → Int64 → Int32 → Prop} {y m : Nat} (hy : gU R y = true) (hm : m ≤ 4) (em : jSz R 0 (nI y) = nI m) {x3 : Int32} : ∀ (n i : Nat) (l : Int64) (w : va_W), i ≤ m → m < n + i → jRq L R V T w → (∀ w', jRq L R V T w' → K w' (L 316) (jIter (jDf R (nI y)) (m - i) i l) (x3 + 1)) → w_L_digest_b143 n κ w (L 316) l x3 (nI (gN R y)) (nI i) K P := by
  intro n
  have hy16 := gU_16 hy
  have hsl := h1.slot hy
  have hne : jSlotOf R 0 (nI (gN R y)) ≠ -1 := by rw [hsl]; exact nI_m1 (by omega)
  induction n with
  | zero => intro i l w a b; omega
  | succ n ih =>
    intro i l w a b h k
    rw [w_L_digest_b143]
    refine ⟨⟨_, h.lg⟩, q_flakeCount h hne ?_⟩
    rw [hsl, em]
    by_cases hi : i = m
    · subst hi
      rw [if_pos (Int32.le_refl _)]
      rw [Nat.sub_self] at k
      exact k w h
    · rw [if_neg (nI_ge (by omega) (by omega))]
      refine ⟨⟨_, h.lg⟩, q_flakeAt h hne ⟨nI_pos (by omega), by rw [hsl, em, nI_leI (by omega) (by omega)]; omega⟩ ?_⟩
      rw [hsl, nI_1]
      rw [show m - i = (m - (i + 1)) + 1 by omega, jIter] at k
      exact ih (i + 1) _ w (by omega) (by omega) h k
theorem s_dgB (ht : jTree R V B) (hB : B < 19000) {P : Int64 → va_W → Prop} : ∀ (n i : Nat) (l : Int64) (w : va_W), i ≤ gC (gU R) → gC (gU R) < n + i → jRq L R V T w → (∀ w', jRq L R V T w' → P (jIter (jDb R) (gC (gU R) - i) i l) w') → w_L_digest_b79 n κ w (L 316) l (nI i) P := by
  intro n
  have h1 := ht.1
  have h16 := gC_16 (gU R)
  induction n with
  | zero => intro i l w a b; omega
  | succ n ih =>
    intro i l w a b h k
    rw [w_L_digest_b79]
    refine ⟨⟨_, h.lg⟩, q_blockCount h ?_⟩
    rw [jBlk_g]
    by_cases hi : i = gC (gU R)
    · rw [if_pos ((nI_leI (by omega) (by omega)).mpr (by omega))]
      rw [show gC (gU R) - i = 0 by omega] at k
      exact k w h
    · rw [if_neg (fun e => hi (by have := (nI_leI (by omega) (by omega)).mp e; omega))]
      obtain ⟨c1, c2, c3, c4, c5⟩ := ht.sl hB (i := i) (by omega)
      have c16 := gU_16 c1
      obtain ⟨m, hm, em⟩ := ht.2.1.1 _ c16
      refine l_blockAt h c2 (l_parentOf h ⟨⟨_, h.lg⟩, q_hashOf h (by rw [c5]; exact nI_m1 (by omega)) (l_nonceOf h ?_)⟩)
      refine s_dgF h1 c1 hm (by rw [jSz0 c16]; exact em) jFu 0 _ w (by omega) (by rw [jFu_eq]; omega) h (fun w2 h2 => ?_)
      rw [nI_1]
      refine ih (i + 1) _ w2 (by omega) (by omega) h2 ?_
      rw [show gC (gU R) - i = (gC (gU R) - (i + 1)) + 1 by omega, jIter] at k
      have e9 : jDb R l i = jIter (jDf R (nI (gSl R i))) (m - 0) 0 ((31 * ((31 * ((31 * ((31 * l) + Int32.toInt64 (nI (gN R (gSl R i))))) + Int32.toInt64 (jPar R (nI (gN R (gSl R i)))))) + Int32.toInt64 (jGt R 0 3 (jSlotOf R 0 (nI (gN R (gSl R i))))))) + Int32.toInt64 (jNoc R (nI (gN R (gSl R i))))) := by
        unfold jDb
        rw [c4, c5, jSz0 c16, em, nI_clamp (by omega)]; rfl
      rw [e9] at k
      exact k
theorem s_dgH (ht : jTree R V B) (hB : B < 19000) {hc : Nat} (h4 : hc ≤ 4) (e0 : V 0 = nI hc) {P : Int64 → va_W → Prop} : ∀ (n i : Nat) (l : Int64) (w : va_W), i ≤ hc → hc < n + i → jRq L R V T w → (∀ w', jRq L R V T w' → P (jIter (jDb R) (gC (gU R)) 0 (jIter (jDh R) (hc - i) i l)) w') → w_L_digest_b28 n κ w (L 316) l (nI i) P := by
  intro n
  have h16 := gC_16 (gU R)
  induction n with
  | zero => intro i l w a b; omega
  | succ n ih =>
    intro i l w a b h k
    rw [w_L_digest_b28]
    refine ⟨⟨_, h.lg⟩, q_hills h ?_⟩
    rw [e0]
    by_cases hi : i = hc
    · subst hi
      rw [if_pos (Int32.le_refl _)]
      rw [Nat.sub_self] at k
      exact s_dgB ht hB 17 0 _ w (Nat.zero_le _) (by omega) h k
    · rw [if_neg (nI_ge (by omega) (by omega))]
      have hh := jHill_of h4 e0 (show i < hc by omega)
      refine ⟨⟨_, h.lg⟩, q_followed h hh ⟨⟨_, h.lg⟩, q_collected h hh ⟨⟨_, h.lg⟩, q_nextHash h hh (ht.2.1.s1 _) (fun w2 h2 => ?_)⟩⟩⟩
      rw [nI_1]
      rw [show hc - i = (hc - (i + 1)) + 1 by omega, jIter] at k
      exact ih (i + 1) _ w2 (by omega) (by omega) h2 k
theorem l_digest (h : jRq L R V T w) (ht : jTree R V B) (hB : B < 19000) {P : Int64 → va_W → Prop} (k : ∀ w', jRq L R V T w' → P (jDg R V) w') : w_L_digest κ w (L 316) P := by
  unfold w_L_digest w_L_digest_b0
  obtain ⟨hc, h4, e0, -⟩ := ht.2.2.2.2
  refine ⟨⟨_, h.lg⟩, q_written h ⟨⟨_, h.lg⟩, q_melted h ⟨⟨_, h.lg⟩, q_hills h ?_⟩⟩⟩
  refine s_dgH ht hB h4 e0 jFu 0 _ w (Nat.zero_le _) (by rw [jFu_eq]; omega) h (fun w2 h2 => ?_)
  have k := k w2 h2
  unfold jDg at k
  rw [e0, nI_clamp (show hc < 2 ^ 31 by omega)] at k
  rw [e0]
  exact k
end JDigest
