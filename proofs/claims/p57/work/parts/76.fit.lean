/-! ===== all that fits ===== -/
section JFit
variable {κ : Nat → Nat} {L : Nat → Nat} {R : Nat → Nat → Int32} {V : Nat → Int32} {w : va_W} {B : Nat} {P : Int32 → va_W → Prop}
theorem l_ft33 {R0 : Nat → Nat → Int32} {V0 : Nat → Int32} (hB : B < 19000) (hκ : jEn κ) (k : ∀ R' V' w', jK L R' V' w' → jInv R' V' B → gEq R' V' R0 V0 → gFr R0 V0 R' V' → P 1 w') : ∀ (n i : Nat) (R : Nat → Nat → Int32) (V : Nat → Int32) (w : va_W), i < 18 → 17 < 2 * n + i → jK L R V w → jInv R V B → gEq R V R0 V0 → gFr R0 V0 R V → w_L_isFit_b33 n κ w (L 316) 1 (nI i) P := by
  intro n
  induction n with
  | zero => intro i R V w a b; omega
  | succ n ih =>
    intro i R V w a b h hi he hf
    have hK := h
    obtain ⟨T, t0, t3, h⟩ := h
    have ht := hi.t0
    have h16 := gC_16 (gU R)
    rw [w_L_isFit_b33, if_neg (by decide)]
    refine ⟨⟨_, h.lg⟩, q_blockCount h ?_⟩
    rw [jBlk_g]
    by_cases hin : gC (gU R) ≤ i
    · rw [if_pos ((nI_leI (by omega) (by omega)).mpr hin)]
      unfold w_L_isFit_b81
      exact ⟨rfl, k R V w hK hi he hf⟩
    · rw [if_neg (fun e => hin ((nI_leI (by omega) (by omega)).mp e))]
      obtain ⟨c1, c2, c3, c4, c5⟩ := ht.sl hB (i := i) (by omega)
      refine l_blockAt h c2 (l_isMelted hK hi hB hκ c1 (fun R1 V1 w1 h1 i1 e1 f1 => ?_))
      rw [if_neg (by decide)]
      have ht1 := i1.t0
      have eu := gU_e e1.r
      obtain ⟨d1, d2, d3, d4, d5⟩ := ht1.sl hB (i := i) (by rw [eu]; omega)
      have hK1 := h1
      obtain ⟨T1, u0, u3, h1⟩ := h1
      refine l_blockAt h1 d2 (l_isRepaired hK1 i1 hB hκ d1 (fun R2 V2 w2 h2 i2 e2 f2 => ?_))
      rw [if_neg (by decide)]
      unfold w_L_isFit_b74
      rw [show nI i + 2 = nI (i + 2) from nI_add i 2]
      exact ih (i + 2) R2 V2 w2 (by omega) (by omega) h2 i2 (e2.tr (e1.tr he)) (hf.tr (f1.tr f2))
theorem l_ft7 {R0 : Nat → Nat → Int32} {V0 : Nat → Int32} (hB : B + 5 < 19000) (hκ : jEn κ) {hc : Nat} (h4 : hc ≤ 4) (e0 : V0 0 = nI hc) (k : ∀ R' V' w', jK L R' V' w' → jInv R' V' (B + 4) → gEq R' V' R0 V0 → gFr R0 V0 R' V' → P 1 w') : ∀ (n i : Nat) (R : Nat → Nat → Int32) (V : Nat → Int32) (w : va_W), i ≤ hc → hc < n + i → jK L R V w → jInv R V (B + i) → gEq R V R0 V0 → gFr R0 V0 R V → w_L_isFit_b7 n κ w (L 316) 1 (nI i) P := by
  intro n
  induction n with
  | zero => intro i R V w a b; omega
  | succ n ih =>
    intro i R V w a b h hi he hf
    have hK := h
    obtain ⟨T, t0, t3, h⟩ := h
    rw [w_L_isFit_b7, if_neg (by decide)]
    have eV : V 0 = nI hc := (he.2 0 (by omega)).trans e0
    refine ⟨⟨_, h.lg⟩, q_hills h ?_⟩
    rw [eV]
    by_cases hin : i = hc
    · rw [if_pos ((nI_leI (by omega) (by omega)).mpr (by omega))]
      unfold w_L_isFit_b31
      exact l_ft33 (B := B + 4) (by omega) hκ k 9 0 R V w (by omega) (by omega) hK (hi.mono (by omega)) he hf
    · rw [if_neg (fun e => hin (by have := (nI_leI (by omega) (by omega)).mp e; omega))]
      refine l_isWritten hK hi (by omega) hκ eV h4 (by omega) (fun R1 V1 w1 h1 i1 e1 f1 => ?_)
      rw [nI_1]
      exact ih (i + 1) R1 V1 w1 (by omega) (by omega) h1 i1 (e1.tr he) (hf.tr f1)
theorem l_isFit (h : jK L R V w) (hi : jInv R V B) (hB : B + 5 < 19000) (hκ : jEn κ) (k : ∀ R' V' w', jK L R' V' w' → jInv R' V' (B + 4) → gEq R' V' R V → gFr R V R' V' → P 1 w') : w_L_isFit κ w (L 316) P := by
  have ht := hi.t0
  obtain ⟨hc, h4, e0, -⟩ := ht.2.2.2.2
  unfold w_L_isFit w_L_isFit_b0
  refine l_areBlocks h ht (by omega) (fun w1 h1 => ?_)
  exact l_ft7 hB hκ h4 e0 k 5 0 R V w1 (Nat.zero_le _) (by omega) h1 hi gEq.refl gFr.refl
end JFit
