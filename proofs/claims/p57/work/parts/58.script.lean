/-! ===== the script: its readers told by functions of the text alone ===== -/
def pS (t : List Int32) (s : Nat) : Int32 := if s < t.length then t.getD s 0 else -1
def mS (t : List Int32) (e s : Nat) : Bool × Nat := if pS t s = nI e then (true, s + 1) else (false, s)
def mW (t : List Int32) : List Nat → Nat → Bool × Nat
  | [], s => (true, s)
  | c :: r, s => if pS t s = nI c then mW t r (s + 1) else (false, s)
def mD (t : List Int32) (s : Nat) : Int32 × Nat := if pS t s < 48 then (-1, s) else if pS t s ≤ 57 then (pS t s - 48, s + 1) else (-1, s)
def mN (t : List Int32) (s : Nat) : Int32 × Nat := if (mD t s).1 = -1 then (-1, (mD t s).2) else if (mD t (mD t s).2).1 = -1 then ((mD t s).1, (mD t (mD t s).2).2) else (10 * (mD t s).1 + (mD t (mD t s).2).1, (mD t (mD t s).2).2)
def mL (t : List Int32) : Nat → Nat → Nat → Bool × Nat × Nat
  | 0, s, k => (true, s, k + 1)
  | n + 1, s, k => if (mS t 44 s).1 = true then (if (mN t (mS t 44 s).2).1 = -1 then (false, (mN t (mS t 44 s).2).2, k) else mL t n (mN t (mS t 44 s).2).2 (k + 1)) else (true, (mS t 44 s).2, k + 1)
def mWr (t : List Int32) (s k : Nat) : Bool × Nat × Nat := if (mD t s).1 = -1 then (false, (mD t s).2, k) else mL t 60 (mD t s).2 k
def mFo (t : List Int32) (s k : Nat) : Bool × Nat × Nat :=
  if (mD t s).1 = -1 then (false, (mD t s).2, k) else if (mS t 32 (mD t s).2).1 = true then (if (mN t (mS t 32 (mD t s).2).2).1 = -1 then (false, (mN t (mS t 32 (mD t s).2).2).2, k) else (true, (mN t (mS t 32 (mD t s).2).2).2, k + 1)) else (false, (mS t 32 (mD t s).2).2, k)
def mSw (t : List Int32) (s k : Nat) : Bool × Nat × Nat :=
  if (mN t s).1 = -1 then (false, (mN t s).2, k) else if (mS t 32 (mN t s).2).1 = true then (if (mD t (mS t 32 (mN t s).2).2).1 = -1 then (false, (mD t (mS t 32 (mN t s).2).2).2, k) else if (mS t 32 (mD t (mS t 32 (mN t s).2).2).2).1 = true then (if (mN t (mS t 32 (mD t (mS t 32 (mN t s).2).2).2).2).1 = -1 then (false, (mN t (mS t 32 (mD t (mS t 32 (mN t s).2).2).2).2).2, k) else (true, (mN t (mS t 32 (mD t (mS t 32 (mN t s).2).2).2).2).2, k + 1)) else (false, (mS t 32 (mD t (mS t 32 (mN t s).2).2).2).2, k)) else (false, (mS t 32 (mN t s).2).2, k)
def mMM (t : List Int32) (s k : Nat) : Bool × Nat × Nat :=
  if (mW t (jTxt.getD (if pS t s = 108 then 5 else 6) []) s).1 = true then (if (mN t (mW t (jTxt.getD (if pS t s = 108 then 5 else 6) []) s).2).1 = -1 then (false, (mN t (mW t (jTxt.getD (if pS t s = 108 then 5 else 6) []) s).2).2, k) else (true, (mN t (mW t (jTxt.getD (if pS t s = 108 then 5 else 6) []) s).2).2, k + 1)) else (false, (mW t (jTxt.getD (if pS t s = 108 then 5 else 6) []) s).2, k)
def mHi (t : List Int32) (s k : Nat) : Bool × Nat × Nat := (true, s, k + 1)
def mU (t : List Int32) (u : Nat) (f : List Int32 → Nat → Nat → Bool × Nat × Nat) (s k : Nat) : Bool × Nat × Nat := if (mW t (jTxt.getD u []) s).1 = true then f t (mW t (jTxt.getD u []) s).2 k else (false, (mW t (jTxt.getD u []) s).2, k)
def mC (t : List Int32) (s k : Nat) : Bool × Nat × Nat :=
  if pS t s = 102 then mU t 2 mFo s k else if pS t s = 104 then mU t 0 mHi s k else if pS t s = 109 then mU t 4 mMM s k else if pS t s = 115 then mU t 3 mSw s k else if pS t s = 119 then mU t 1 mWr s k else (false, s, k)
def mP (t : List Int32) : Nat → Nat → Nat → Nat → Bool × Nat × Nat × Nat
  | 0, s, k, c => (false, s, k, c)
  | n + 1, s, k, c => if (mC t s k).1 = true then (if (mS t 59 (mC t s k).2.1).1 = true then mP t n (mS t 59 (mC t s k).2.1).2 (mC t s k).2.2 (c + 1) else (decide ((mS t 59 (mC t s k).2.1).2 = t.length), (mS t 59 (mC t s k).2.1).2, (mC t s k).2.2, c + 1)) else (false, (mC t s k).2.1, (mC t s k).2.2, c)
/-- all signs below 128 -/
def gCh (t : List Int32) : Prop := t.length ≤ 60 ∧ ∀ i, i < t.length → ∃ c, c < 128 ∧ t.getD i 0 = nI c
/-- the script's rows and scalars, at s, k, c -/
def jPs (L : Nat → Nat) (R : Nat → Nat → Int32) (V : Nat → Int32) (T : Nat → List Int32) (s k c : Nat) (w : va_W) : Prop := ∃ R' V', (∀ r, r < 134 → R' r = R r) ∧ (∀ i, i < 49 → V' i = V i) ∧ V' 49 = nI k ∧ V' 50 = nI c ∧ V' 51 = nI s ∧ (∀ i, i < 60 → ¬ R' 138 i < 0) ∧ jRq L R' V' T w ∧ s ≤ (T 0).length ∧ gCh (T 0) ∧ c ≤ 60
section JScript
variable {κ : Nat → Nat} {L : Nat → Nat} {R : Nat → Nat → Int32} {V : Nat → Int32} {T : Nat → List Int32} {w : va_W} {s k c : Nat} {P : Int32 → va_W → Prop}
theorem jPs.scr (h : jPs L R V T s k c w) : jRc w (L 315) 7 := by
  obtain ⟨R', V', -, -, -, -, -, -, h, -⟩ := h; exact ⟨_, h.sc⟩
theorem pS_c {t : List Int32} (h : gCh t) {s : Nat} : pS t s = -1 ∧ t.length ≤ s ∨ s < t.length ∧ ∃ c, c < 128 ∧ pS t s = nI c := by
  unfold pS
  by_cases hs : s < t.length
  · obtain ⟨c, hc, e⟩ := h.2 s hs
    exact Or.inr ⟨hs, c, hc, by rw [if_pos hs]; exact e⟩
  · exact Or.inl ⟨by rw [if_neg hs], by omega⟩
theorem s_sign (h : jPs L R V T s k c w) (kk : P (pS (T 0) s) w) : w_X4_sign κ w (L 315) P := by
  obtain ⟨R', V', e1, e2, e3, e4, e5, e6, h, e7, e8, e9⟩ := h
  have hl := e8.1
  unfold w_X4_sign w_X4_sign_b0
  refine (jgI_eq h.sc rfl).mpr ?_
  rw [e5, if_neg (nI_pos (by omega))]
  refine (jgI_eq h.sc rfl).mpr ((jgR_eq h.sc rfl).mpr ⟨h.sbc (b := 0) (by omega), s_lenQ h (b := 0) (by omega) ?_⟩)
  rw [e5]
  by_cases hs : (T 0).length ≤ s
  · rw [if_pos ((nI_leI (by omega) (by omega)).mpr hs)]
    unfold w_X4_sign_b35 w_X4_sign_b36
    unfold pS at kk
    rw [if_neg (by omega)] at kk; exact kk
  · rw [if_neg (fun e => hs ((nI_leI (by omega) (by omega)).mp e))]
    refine (jgR_eq h.sc rfl).mpr ((jgI_eq h.sc rfl).mpr ⟨h.sbc (b := 0) (by omega), ?_⟩)
    rw [e5]
    obtain ⟨ch, hc, ec⟩ := e8.2 s (by omega)
    obtain ⟨R1, f1, h1⟩ := h
    refine s_sbAt h1 (b := 0) (by omega) (by omega) hc ec ?_
    unfold w_X4_sign_b36
    unfold pS at kk
    rw [if_pos (by omega), ec] at kk; exact kk
/-- one sign on -/
theorem jPs.inc (h : jPs L R V T s k c w) (hs : s < (T 0).length) {Q : va_W → Prop} (kk : ∀ w', jPs L R V T (s + 1) k c w' → Q w') : jgI w (L 315) 7 8 (fun v2 => jpV w (L 315) 7 8 (.int (v2 + 1)) (fun w3 => Q w3)) := by
  obtain ⟨R', V', e1, e2, e3, e4, e5, e6, h, e7, e8, e9⟩ := h
  refine (jgI_eq h.sc rfl).mpr ?_
  rw [e5, nI_1]
  refine s_pv51 h (fun w' h' => kk w' ⟨R', _, e1, fun i hi => ?_, ?_, ?_, ?_, e6, h', by omega, e8, e9⟩)
  · rw [jSetV_ne (by omega)]; exact e2 i hi
  · rw [jSetV_ne (by omega)]; exact e3
  · rw [jSetV_ne (by omega)]; exact e4
  · simp [jSetV]
theorem s_rdS (h : jPs L R V T s k c w) {e : Nat} (he : e < 128) (kk : ∀ w', jPs L R V T (mS (T 0) e s).2 k c w' → P (jB2 (mS (T 0) e s).1) w') : w_X4_readSign κ w (L 315) (nI e) P := by
  unfold w_X4_readSign w_X4_readSign_b0
  have hg : gCh (T 0) := by obtain ⟨_, _, _, _, _, _, _, _, _, _, e8, _⟩ := h; exact e8
  refine ⟨h.scr, s_sign h ?_⟩
  unfold mS at kk
  by_cases hp : pS (T 0) s = nI e
  · rw [if_pos hp] at kk ⊢
    refine h.inc ?_ kk
    rcases pS_c hg (s := s) with ⟨a, -⟩ | ⟨a, -⟩
    · rw [a] at hp; exact absurd hp.symm (nI_m1 (by omega))
    · exact a
  · rw [if_neg hp] at kk ⊢
    exact kk w h
theorem gD_at {l : List Nat} {i : Nat} (h : i < l.length) : l[i] = l.getD i 0 := by simp [List.getD, h]
theorem jTxt_c : ∀ u, u < 27 → ∀ x ∈ jTxt.getD u [], x < 128 := by decide +kernel
theorem jTxt_l : ∀ u, u < 27 → (jTxt.getD u []).length ≤ 60 := by decide +kernel
theorem s_kLen {u : Nat} (hu : u < 27) (kk : P (nI (jLen u)) w) : w_J0_length_8abf5 κ w u P := by
  unfold w_J0_length_8abf5 w_J0_length_8abf5_b0 w_J0_coder_7d493 w_J0_coder_7d493_b0 w_J0_coder_7d493_b14
  refine ⟨hu, hu, hu, hu, rfl, ?_⟩
  show P (jshr (nI (jLen u)) 0) w
  rw [jshr0]; exact kk
theorem s_kAt {u i x : Nat} (hu : u < 27) (hi : i < jLen u) (ex : jByt u i = x) (hx : x < 128) (kk : P (nI x) w) : w_J0_charAt_5068e κ w u (nI i) P := by
  have hl : jLen u ≤ 60 := jTxt_l u hu
  unfold w_J0_charAt_5068e w_J0_charAt_5068e_b0 w_J0_isLatin1_aae02 w_J0_isLatin1_aae02_b0 w_J0_isLatin1_aae02_b18
  refine ⟨hu, hu, rfl, ?_⟩
  try dsimp only
  rw [if_neg (by decide)]
  refine ⟨hu, ?_⟩
  unfold w_J1_charAt_3b067 w_J1_charAt_3b067_b0 w_J0_checkIndex_df160
  rw [nI_clamp (by omega), ex, ji2c_c x hx]
  exact ⟨hu, nI_pos (by omega), (nI_ltI (by omega) (by omega)).mpr hi, hu, nI_in hi (by omega), nar_c x hx, nar_c x hx, kk⟩
theorem s_rdWL {u : Nat} (hu : u < 27) : ∀ (n i s : Nat) (w : va_W), jPs L R V T s k c w → i ≤ jLen u → jLen u < n + i → (∀ w', jPs L R V T (mW (T 0) ((jTxt.getD u []).drop i) s).2 k c w' → P (jB2 (mW (T 0) ((jTxt.getD u []).drop i) s).1) w') → w_X4_readWord_b2 n κ w (L 315) u (nI i) P := by
  intro n
  have hl : jLen u ≤ 60 := jTxt_l u hu
  induction n with
  | zero => intro i s w _ h1 h2; omega
  | succ n ih =>
    intro i s w h h1 h2 kk
    rw [w_X4_readWord_b2]
    refine ⟨hu, s_kLen hu ?_⟩
    by_cases hi : jLen u ≤ i
    · rw [if_pos ((nI_leI (by omega) (by omega)).mpr hi)]
      rw [List.drop_eq_nil_of_le hi] at kk
      exact kk w h
    · rw [if_neg (fun e => hi ((nI_leI (by omega) (by omega)).mp e))]
      have hil : i < (jTxt.getD u []).length := Nat.lt_of_not_le hi
      have ed : (jTxt.getD u []).drop i = jByt u i :: (jTxt.getD u []).drop (i + 1) := by
        rw [List.drop_eq_getElem_cons hil, gD_at hil]; rfl
      have hx : jByt u i < 128 := jTxt_c u hu _ (List.mem_of_mem_drop (i := i) (by rw [ed]; exact List.mem_cons_self))
      rw [ed] at kk
      refine ⟨hu, s_kAt hu (Nat.lt_of_not_le hi) rfl hx ⟨h.scr, s_rdS h hx (fun w1 g1 => ?_)⟩⟩
      rw [mW] at kk
      unfold mS at g1 ⊢
      by_cases hp : pS (T 0) s = nI (jByt u i)
      · rw [if_pos hp] at g1 kk ⊢
        rw [if_neg (show ¬ jB2 (true, s + 1).1 = 0 from (by decide : ¬ (1 : Int32) = 0)), nI_1]
        exact ih (i + 1) (s + 1) w1 g1 (by omega) (by omega) kk
      · rw [if_neg hp] at g1 kk ⊢
        rw [if_pos (show jB2 (false, s).1 = 0 from rfl)]
        exact kk w1 g1
theorem s_rdW (h : jPs L R V T s k c w) {u : Nat} (hu : u < 27) (kk : ∀ w', jPs L R V T (mW (T 0) (jTxt.getD u []) s).2 k c w' → P (jB2 (mW (T 0) (jTxt.getD u []) s).1) w') : w_X4_readWord κ w (L 315) u P := by
  unfold w_X4_readWord w_X4_readWord_b0
  have hl : jLen u ≤ 60 := jTxt_l u hu
  exact s_rdWL hu jFu 0 s w h (Nat.zero_le _) (by rw [jFu_eq]; omega) kk
theorem s_rdD (h : jPs L R V T s k c w) (kk : ∀ w', jPs L R V T (mD (T 0) s).2 k c w' → P (mD (T 0) s).1 w') : w_X4_readDigit κ w (L 315) P := by
  unfold w_X4_readDigit w_X4_readDigit_b0
  have hg : gCh (T 0) := by obtain ⟨_, _, _, _, _, _, _, _, _, _, e8, _⟩ := h; exact e8
  refine ⟨h.scr, s_sign h ?_⟩
  unfold mD at kk
  by_cases h48 : pS (T 0) s < 48
  · rw [if_pos h48] at kk ⊢
    unfold w_X4_readDigit_b17
    exact kk w h
  · rw [if_neg h48] at kk ⊢
    by_cases h57 : pS (T 0) s ≤ 57
    · rw [if_pos h57] at kk ⊢
      refine h.inc ?_ kk
      rcases pS_c hg (s := s) with ⟨a, -⟩ | ⟨a, -⟩
      · rw [a] at h48; exact absurd (by decide) h48
      · exact a
    · rw [if_neg h57] at kk ⊢
      unfold w_X4_readDigit_b17
      exact kk w h
theorem s_rdN (h : jPs L R V T s k c w) (kk : ∀ w', jPs L R V T (mN (T 0) s).2 k c w' → P (mN (T 0) s).1 w') : w_X4_readNumber κ w (L 315) P := by
  unfold w_X4_readNumber w_X4_readNumber_b0
  unfold mN at kk
  refine ⟨h.scr, s_rdD h (fun w1 h1 => ?_)⟩
  by_cases ha : (mD (T 0) s).1 = -1
  · rw [if_pos ha] at kk ⊢; exact kk w1 h1
  · rw [if_neg ha] at kk ⊢
    refine ⟨h1.scr, s_rdD h1 (fun w2 h2 => ?_)⟩
    unfold w_X4_readNumber_b32
    by_cases hb : (mD (T 0) (mD (T 0) s).2).1 = -1
    · rw [if_pos hb] at kk ⊢; exact kk w2 h2
    · rw [if_neg hb] at kk ⊢; exact kk w2 h2
theorem jWr_nn {f : Nat → Int32} {x v : Int32} (hf : ∀ i, i < 60 → ¬ f i < 0) (hv : ¬ v < 0) : ∀ i, i < 60 → ¬ jWr 60 f x v i < 0 := by
  intro i hi
  unfold jWr
  by_cases h0 : x < 0
  · rw [if_pos h0]; exact hf i hi
  · rw [if_neg h0]
    by_cases h1 : Int32.ofNat 60 ≤ x
    · rw [if_pos h1]; exact hf i hi
    · rw [if_neg h1]
      show ¬ (if i = x.toNatClampNeg then v else f i) < 0
      split
      · exact hv
      · exact hf i hi
theorem s_putX (h : jRq L R V T w) {r : Nat} (hr : 134 ≤ r) (hr2 : r < 139) {x v : Int32} {Q : va_W → Prop} (kk : ∀ w', jRq L (jSetR R r (jWr (jLn r) (R r) x v)) V T w' → Q w') : w_X3_put κ w (L r) x v Q := by
  obtain ⟨R1, e, h1⟩ := h
  have es : jScr r = false := by unfold jScr; simp; omega
  refine s_put h1 hr2 (fun w' h' => kk w' ⟨_, ?_, h'⟩)
  rw [← e r es]
  exact jSetR_q e
theorem s_addStep (h : jPs L R V T s k c w) {x1 x2 x3 x4 : Int32} (kk : ∀ w', jPs L R V T s (k + 1) c w' → P 1 w') : w_X4_addStep κ w (L 315) x1 x2 x3 x4 P := by
  obtain ⟨R', V', e1, e2, e3, e4, e5, e6, h, e7, e8, e9⟩ := h
  unfold w_X4_addStep w_X4_addStep_b0
  refine (jgR_eq h.sc rfl).mpr ((jgI_eq h.sc rfl).mpr ⟨⟨_, h.row (r := 134) (by omega)⟩, s_putX h (r := 134) (by omega) (by omega) (fun w1 h1 => ?_)⟩)
  refine (jgR_eq h1.sc rfl).mpr ((jgI_eq h1.sc rfl).mpr ⟨⟨_, h1.row (r := 135) (by omega)⟩, s_putX h1 (r := 135) (by omega) (by omega) (fun w2 h2 => ?_)⟩)
  refine (jgR_eq h2.sc rfl).mpr ((jgI_eq h2.sc rfl).mpr ⟨⟨_, h2.row (r := 136) (by omega)⟩, s_putX h2 (r := 136) (by omega) (by omega) (fun w3 h3 => ?_)⟩)
  refine (jgR_eq h3.sc rfl).mpr ((jgI_eq h3.sc rfl).mpr ⟨⟨_, h3.row (r := 137) (by omega)⟩, s_putX h3 (r := 137) (by omega) (by omega) (fun w4 h4 => ?_)⟩)
  refine (jgR_eq h4.sc rfl).mpr ((jgI_eq h4.sc rfl).mpr ((jgI_eq h4.sc rfl).mpr ⟨⟨_, h4.row (r := 138) (by omega)⟩, s_putX h4 (r := 138) (by omega) (by omega) (fun w5 h5 => ?_)⟩))
  refine (jgI_eq h5.sc rfl).mpr ?_
  rw [e3, nI_1]
  refine s_pv49 h5 (fun w6 h6 => kk w6 ⟨_, _, fun r hr => ?_, fun i hi => ?_, ?_, ?_, ?_, ?_, h6, e7, e8, e9⟩)
  · rw [jSetR_ne (by omega), jSetR_ne (by omega), jSetR_ne (by omega), jSetR_ne (by omega), jSetR_ne (by omega)]; exact e1 r hr
  · rw [jSetV_ne (by omega)]; exact e2 i hi
  · simp [jSetV]
  · rw [jSetV_ne (by omega)]; exact e4
  · rw [jSetV_ne (by omega)]; exact e5
  · rw [jSetR_eq]
    rw [jSetR_ne (show 138 ≠ 137 by omega), jSetR_ne (show 138 ≠ 136 by omega), jSetR_ne (show 138 ≠ 135 by omega), jSetR_ne (show 138 ≠ 134 by omega)]
    exact jWr_nn e6 (by rw [e4]; exact nI_pos (by omega))
end JScript
