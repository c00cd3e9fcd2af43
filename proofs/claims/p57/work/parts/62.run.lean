/-! ===== a script run ===== -/
section JBound
/-- no step without a sign read -/
theorem mS_b {t : List Int32} {e s : Nat} : s ≤ (mS t e s).2 := by unfold mS; split <;> simp
theorem mD_b {t : List Int32} {s : Nat} : s ≤ (mD t s).2 ∧ (¬ (mD t s).1 = -1 → s + 1 ≤ (mD t s).2) := by
  unfold mD
  (repeat' split) <;> simp
theorem mN_b {t : List Int32} {s : Nat} : s ≤ (mN t s).2 ∧ (¬ (mN t s).1 = -1 → s + 1 ≤ (mN t s).2) := by
  unfold mN
  have h1 := mD_b (t := t) (s := s)
  have h2 := mD_b (t := t) (s := (mD t s).2)
  by_cases a : (mD t s).1 = -1
  · rw [if_pos a]; exact ⟨h1.1, fun g => absurd rfl g⟩
  · rw [if_neg a]
    have h1' := h1.2 a
    have h2' := h2.1
    by_cases b : (mD t (mD t s).2).1 = -1
    · rw [if_pos b]; exact ⟨by dsimp only; omega, fun _ => by dsimp only; omega⟩
    · rw [if_neg b]; exact ⟨by dsimp only; omega, fun _ => by dsimp only; omega⟩
theorem mW_b {t : List Int32} : ∀ (r : List Nat) (s : Nat), s ≤ (mW t r s).2 ∧ ((mW t r s).1 = true → (mW t r s).2 = s + r.length) := by
  intro r
  induction r with
  | nil => intro s; exact ⟨Nat.le_refl _, fun _ => rfl⟩
  | cons c r ih =>
    intro s
    rw [mW]
    by_cases h : pS t s = nI c
    · rw [if_pos h]
      obtain ⟨a, b⟩ := ih (s + 1)
      exact ⟨by omega, fun g => by rw [b g, List.length_cons]; omega⟩
    · rw [if_neg h]; exact ⟨Nat.le_refl _, fun g => by cases g⟩
def mB (s k : Nat) (r : Bool × Nat × Nat) : Prop := r.2.2 + s ≤ k + r.2.1
theorem mL_b {t : List Int32} : ∀ (n s k : Nat), (mL t n s k).2.2 + s ≤ k + (mL t n s k).2.1 + 1 := by
  intro n
  induction n with
  | zero => intro s k; show k + 1 + s ≤ k + s + 1; omega
  | succ n ih =>
    intro s k
    rw [mL]
    have h1 : s ≤ (mS t 44 s).2 := mS_b
    have h1' : (mS t 44 s).1 = true → (mS t 44 s).2 = s + 1 := by unfold mS; split <;> simp
    have h2 := mN_b (t := t) (s := (mS t 44 s).2)
    by_cases a : (mS t 44 s).1 = true
    · rw [if_pos a]
      have h1' := h1' a
      by_cases b : (mN t (mS t 44 s).2).1 = -1
      · rw [if_pos b]; dsimp only; omega
      · rw [if_neg b]
        have := ih (mN t (mS t 44 s).2).2 (k + 1)
        omega
    · rw [if_neg a]; dsimp only; omega
theorem mWr_b {t : List Int32} {s k : Nat} : mB s k (mWr t s k) := by
  unfold mB mWr
  have h1 := mD_b (t := t) (s := s)
  by_cases a : (mD t s).1 = -1
  · rw [if_pos a]; dsimp only; omega
  · rw [if_neg a]
    have := mL_b (t := t) 60 (mD t s).2 k
    have := h1.2 a
    omega
theorem mFo_b {t : List Int32} {s k : Nat} : mB s k (mFo t s k) := by
  unfold mB mFo
  have h1 := mD_b (t := t) (s := s)
  have h2 : (mD t s).2 ≤ (mS t 32 (mD t s).2).2 := mS_b
  have h3 := mN_b (t := t) (s := (mS t 32 (mD t s).2).2)
  by_cases a : (mD t s).1 = -1
  · rw [if_pos a]; dsimp only; omega
  · rw [if_neg a]
    have := h1.2 a
    by_cases b : (mS t 32 (mD t s).2).1 = true
    · rw [if_pos b]
      by_cases c : (mN t (mS t 32 (mD t s).2).2).1 = -1
      · rw [if_pos c]; dsimp only; omega
      · rw [if_neg c]; dsimp only; omega
    · rw [if_neg b]; dsimp only; omega
theorem mSw_b {t : List Int32} {s k : Nat} : mB s k (mSw t s k) := by
  unfold mB mSw
  have h1 := mN_b (t := t) (s := s)
  have h2 : (mN t s).2 ≤ (mS t 32 (mN t s).2).2 := mS_b
  have h3 := mD_b (t := t) (s := (mS t 32 (mN t s).2).2)
  have h4 : (mD t (mS t 32 (mN t s).2).2).2 ≤ (mS t 32 (mD t (mS t 32 (mN t s).2).2).2).2 := mS_b
  have h5 := mN_b (t := t) (s := (mS t 32 (mD t (mS t 32 (mN t s).2).2).2).2)
  by_cases a : (mN t s).1 = -1
  · rw [if_pos a]; dsimp only; omega
  · rw [if_neg a]
    have := h1.2 a
    by_cases b : (mS t 32 (mN t s).2).1 = true
    · rw [if_pos b]
      by_cases c : (mD t (mS t 32 (mN t s).2).2).1 = -1
      · rw [if_pos c]; dsimp only; omega
      · rw [if_neg c]
        by_cases d : (mS t 32 (mD t (mS t 32 (mN t s).2).2).2).1 = true
        · rw [if_pos d]
          by_cases e : (mN t (mS t 32 (mD t (mS t 32 (mN t s).2).2).2).2).1 = -1
          · rw [if_pos e]; dsimp only; omega
          · rw [if_neg e]; dsimp only; omega
        · rw [if_neg d]; dsimp only; omega
    · rw [if_neg b]; dsimp only; omega
theorem mMM_b {t : List Int32} {s k : Nat} : mB s k (mMM t s k) := by
  unfold mB mMM
  generalize jTxt.getD (if pS t s = 108 then 5 else 6) [] = r
  have h1 := mW_b (t := t) r s
  have h2 := mN_b (t := t) (s := (mW t r s).2)
  by_cases a : (mW t r s).1 = true
  · rw [if_pos a]
    by_cases b : (mN t (mW t r s).2).1 = -1
    · rw [if_pos b]; dsimp only; omega
    · rw [if_neg b]
      have := h2.2 b
      dsimp only; omega
  · rw [if_neg a]; dsimp only; omega
theorem mU_b {t : List Int32} {u s k : Nat} {f : List Int32 → Nat → Nat → Bool × Nat × Nat} (hf : ∀ s2, mB s2 k (f t s2 k)) : mB s k (mU t u f s k) := by
  unfold mU
  have h1 := mW_b (t := t) (jTxt.getD u []) s
  by_cases a : (mW t (jTxt.getD u []) s).1 = true
  · rw [if_pos a]
    have := hf (mW t (jTxt.getD u []) s).2
    unfold mB at this ⊢; omega
  · rw [if_neg a]; unfold mB; dsimp only; omega
theorem mC_b {t : List Int32} {s k : Nat} : mB s k (mC t s k) := by
  unfold mC
  split
  · exact mU_b (fun _ => mFo_b)
  · split
    · unfold mU
      have h1 := mW_b (t := t) (jTxt.getD 0 []) s
      have hl : (jTxt.getD 0 []).length = 4 := rfl
      by_cases a : (mW t (jTxt.getD 0 []) s).1 = true
      · rw [if_pos a]
        have := h1.2 a
        unfold mB mHi; dsimp only; omega
      · rw [if_neg a]; unfold mB; dsimp only; omega
    · split
      · exact mU_b (fun _ => mMM_b)
      · split
        · exact mU_b (fun _ => mSw_b)
        · split
          · exact mU_b (fun _ => mWr_b)
          · unfold mB; dsimp only; omega
theorem mP_b {t : List Int32} : ∀ n s k c, (mP t n s k c).2.2.1 + s ≤ k + (mP t n s k c).2.1 := by
  intro n
  induction n with
  | zero => intro s k c; show k + s ≤ k + s; omega
  | succ n ih =>
    intro s k c
    rw [mP]
    have h1 : mB s k (mC t s k) := mC_b
    unfold mB at h1
    have h2 : (mC t s k).2.1 ≤ (mS t 59 (mC t s k).2.1).2 := mS_b
    by_cases a : (mC t s k).1 = true
    · rw [if_pos a]
      by_cases b : (mS t 59 (mC t s k).2.1).1 = true
      · rw [if_pos b]
        have := ih (mS t 59 (mC t s k).2.1).2 (mC t s k).2.2 (c + 1)
        omega
      · rw [if_neg b]; dsimp only; omega
    · rw [if_neg a]; dsimp only; omega
end JBound
section JRun
variable {κ : Nat → Nat} {L : Nat → Nat} {R : Nat → Nat → Int32} {V : Nat → Int32} {T : Nat → List Int32} {w : va_W} {B : Nat} {P : Int32 → va_W → Prop} {E : String → va_W → Prop}
theorem s_keep2 (h : jRq L R V T w) {j : Nat} (hj : j < 8) (hv : V 44 = nI j) {P : va_W → Prop} (k : ∀ w', jRq L (jCpR R (3 + j) 2) (jSetV (jSetV (jCpV V (3 + j) 2) 44 (jrem (V 44 + 1) 8)) 45 (jmin (V 45 + 1) 8)) T w' → P w') : w_X1_keep κ w (L 313) (L 302) P := by
  unfold w_X1_keep w_X1_keep_b0
  have hin : vp_in (nI j) 8 := nI_in hj (by decide)
  have hcl : (nI j).toNatClampNeg = j := nI_clamp (by omega)
  refine (jgI_eq h.hi rfl).mpr ?_
  rw [hv, if_neg (nI_pos (by omega))]
  refine (jgI_eq h.hi rfl).mpr ((jgR_eq h.hi rfl).mpr ((jAl_eq h.ring (by decide)).mpr ?_))
  rw [hv, if_neg (show ¬ Int32.ofNat 8 ≤ nI j from jN_le (N := 8) (by decide) hj)]
  refine (jgR_eq h.hi rfl).mpr ((jgI_eq h.hi rfl).mpr ((jLq_eq (r := L (303 + j)) h.ring (by rw [hv]; exact hin) (by rw [hv, hcl]; simp [hj])).mpr ?_))
  refine (jgR_eq h.hi rfl).mpr ((jgI_eq h.hi rfl).mpr ((jLq_eq (r := L (303 + j)) h.ring (by rw [hv]; exact hin) (by rw [hv, hcl]; simp [hj])).mpr ?_))
  rw [show 303 + j = 300 + (3 + j) by omega]
  refine ⟨⟨_, h.st (s := 3 + j) (by omega)⟩, s_copyQ h (s := 3 + j) (u := 2) (by omega) (by omega) (by omega) (fun w1 h1 => ?_)⟩
  unfold w_X1_keep_b44
  refine (jgI_eq h1.hi rfl).mpr (s_pv44 h1 (fun w2 h2 => ?_))
  refine (jgI_eq h2.hi rfl).mpr (s_pv45 h2 (fun w3 h3 => ?_))
  rw [jSetV_ne (show 45 ≠ 44 by decide), jCpV_hi (by omega) (by omega), jCpV_hi (by omega) (by omega)] at h3
  exact k w3 h3
theorem s_atX (h : jRq L R V T w) {r : Nat} (hr : 134 ≤ r) (hr2 : r < 139) {x : Int32} {Q : Int32 → va_W → Prop} (kk : Q (jRd (jLn r) (R r) x) w) : w_X3_at κ w (L r) x Q := by
  obtain ⟨R1, e, h1⟩ := h
  have es : jScr r = false := by unfold jScr; simp; omega
  refine s_at h1 hr2 ?_
  rw [e r es]; exact kk
/-- the script's steps: from before, to all done or one refused -/
theorem s_runL (hκ : jEn κ) {Ra : Nat → Nat → Int32} {Va : Nat → Int32} {k9 j : Nat} (hk : k9 ≤ 60) (h49 : Va 49 = nI k9) (h44 : Va 44 = nI j) (hj : j < 8) (hn : ∀ i, i < 60 → ¬ Ra 138 i < 0)
    (kE : ∀ R' V' B' v w', jRq L R' V' T w' → jTree R' V' B' → gLv Ra Va R' V' → ¬ v < 0 → ∀ w2, jRq L (jCpR R' 0 2) (jCpV (jSetV V' 48 v) 0 2) T w2 → E "java/lang/IllegalStateException" w2)
    (kP : ∀ R' V' B' w', B' ≤ B + 60 → jRq L R' V' T w' → jTree R' V' B' → gLv Ra Va R' V' → ∀ w2, jRq L (jCpR R' (3 + j) 2) (jSetV (jSetV (jCpV V' (3 + j) 2) 44 (jrem (V' 44 + 1) 8)) 45 (jmin (V' 45 + 1) 8)) T w2 → P (V' 50) w2) (hB : B < 2 ^ 29) :
    ∀ (n i : Nat) (R' : Nat → Nat → Int32) (V' : Nat → Int32) (w : va_W), i ≤ k9 → k9 < n + i → jRq L R' V' T w → jTree R' V' (B + i) → gLv Ra Va R' V' → w_X8_runScript_b54 n κ w (L 316) (nI i) P E := by
  intro n
  induction n with
  | zero => intro i R' V' w h1 h2; omega
  | succ n ih =>
    intro i R' V' w h1 h2 h ht hl
    rw [w_X8_runScript_b54]
    refine (jgR_eq h.lg rfl).mpr ((jgI_eq h.sc rfl).mpr ?_)
    rw [hl.2 49 (by omega), h49]
    by_cases hi : i = k9
    · rw [if_pos ((nI_leI (by omega) (by omega)).mpr (by omega))]
      refine (jgR_eq h.lg rfl).mpr ((jgR_eq h.lg rfl).mpr ⟨⟨_, h.hi⟩, s_keep2 h hj (by rw [hl.2 44 (by omega)]; exact h44) (fun w2 h2 => ?_)⟩)
      refine (jgR_eq h2.lg rfl).mpr ((jgI_eq h2.sc rfl).mpr ?_)
      rw [jSetV_ne (by omega), jSetV_ne (by omega), jCpV_hi (by omega) (by omega)]
      exact kP R' V' (B + i) w (by omega) h ht hl w2 h2
    · rw [if_neg (fun e => hi (by have := (nI_leI (by omega) (by omega)).mp e; omega))]
      refine (jgR_eq h.lg rfl).mpr ((jgR_eq h.sc rfl).mpr ⟨⟨_, h.row (r := 134) (by omega)⟩, s_atX h (r := 134) (by omega) (by omega) ?_⟩)
      refine (jgR_eq h.lg rfl).mpr ((jgR_eq h.sc rfl).mpr ⟨⟨_, h.row (r := 135) (by omega)⟩, s_atX h (r := 135) (by omega) (by omega) ?_⟩)
      refine (jgR_eq h.lg rfl).mpr ((jgR_eq h.sc rfl).mpr ⟨⟨_, h.row (r := 136) (by omega)⟩, s_atX h (r := 136) (by omega) (by omega) ?_⟩)
      refine (jgR_eq h.lg rfl).mpr ((jgR_eq h.sc rfl).mpr ⟨⟨_, h.row (r := 137) (by omega)⟩, s_atX h (r := 137) (by omega) (by omega) ?_⟩)
      refine (jgR_eq h.lg rfl).mpr ⟨⟨_, h.wk⟩, s_refusalOf h hκ ht.2.1.s0 (fun w1 g1 => ?_)⟩
      generalize jRd (jLn 134) (R' 134) (nI i) = t
      generalize jRd (jLn 135) (R' 135) (nI i) = a
      generalize jRd (jLn 136) (R' 136) (nI i) = b
      generalize jRd (jLn 137) (R' 137) (nI i) = c
      by_cases hf : jfOf R' V' t a b c = 2
      · rw [if_pos (by rw [hf])]
        refine (jgR_eq g1.lg rfl).mpr ⟨⟨_, g1.wk⟩, t_carry g1 ht (by omega) hf (fun R2 V2 v w2 g2 t2 l2 => ?_)⟩
        rw [nI_1]
        exact ih (i + 1) R2 V2 w2 (by omega) (by omega) g2 t2 ⟨fun r hr => (l2.1 r hr).trans (hl.1 r hr), fun q hq => (l2.2 q hq).trans (hl.2 q hq)⟩
      · rw [if_neg (fun e => by
          obtain ⟨q1, q2⟩ := jfOf_in (R := R') (V := V') (t := t) (a := a) (b := b) (c := c)
          exact hκ.ne q1 q2 (by omega) (by omega) hf e)]
        refine (jgR_eq g1.lg rfl).mpr ((jgR_eq g1.sc rfl).mpr ⟨⟨_, g1.row (r := 138) (by omega)⟩, s_atX g1 (r := 138) (by omega) (by omega) ?_⟩)
        rw [show jLn 138 = 60 from rfl, jRd_n (show i < 60 by omega) (by omega)]
        refine s_pv48 g1 (fun w2 g2 => ?_)
        refine (jgR_eq g2.lg rfl).mpr ((jgR_eq g2.lg rfl).mpr ⟨⟨_, g2.st (s := 0) (by omega)⟩, s_copyQ g2 (s := 0) (u := 2) (by omega) (by omega) (by omega) (fun w3 g3 => ?_)⟩)
        exact kE R' V' (B + i) _ w1 g1 ht hl (by rw [hl.1 138 (by omega)]; exact hn i (by omega)) w3 g3
end JRun
