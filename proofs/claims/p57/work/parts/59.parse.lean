/-! ===== the script: its commands, and the whole ===== -/
section JParse
variable {κ : Nat → Nat} {L : Nat → Nat} {R : Nat → Nat → Int32} {V : Nat → Int32} {T : Nat → List Int32} {w : va_W} {s k c : Nat} {P : Int32 → va_W → Prop}
theorem jifS {t : List Int32} {e s : Nat} {X Y : Prop} (h0 : (mS t e s).1 = false → X) (h1 : (mS t e s).1 = true → Y) : if jB2 (mS t e s).1 = 0 then X else Y := jif_b h0 h1
theorem s_wr56 (h : jPs L R V T s k c w) {x1 : Int32} (kk : ∀ w', jPs L R V T s (k + 1) c w' → P 1 w') : w_X4_readWriting_b56 κ w (L 315) x1 P := by
  unfold w_X4_readWriting_b56
  exact ⟨h.scr, s_addStep h (fun w1 h1 => ⟨rfl, kk w1 h1⟩)⟩
theorem s_wrL {x1 : Int32} : ∀ (n i s k : Nat) (w : va_W), i ≤ 60 → 60 < n + i → jPs L R V T s k c w → (∀ w', jPs L R V T (mL (T 0) (60 - i) s k).2.1 (mL (T 0) (60 - i) s k).2.2 c w' → P (jB2 (mL (T 0) (60 - i) s k).1) w') → w_X4_readWriting_b14 n κ w (L 315) x1 (nI i) P := by
  intro n
  induction n with
  | zero => intro i s k w h1 h2; omega
  | succ n ih =>
    intro i s k w h1 h2 h kk
    rw [w_X4_readWriting_b14]
    by_cases hi : i = 60
    · subst hi
      rw [if_pos (show (60 : Int32) ≤ nI 60 from Int32.le_refl _)]
      exact s_wr56 h kk
    · rw [if_neg (fun e : (60 : Int32) ≤ nI i => by have := (nI_leI (a := 60) (by omega) (by omega)).mp e; omega)]
      rw [show 60 - i = (60 - (i + 1)) + 1 by omega] at kk
      simp only [mL] at kk
      refine ⟨h.scr, s_rdS (e := 44) h (by omega) (fun w1 g1 => ?_)⟩
      refine jifS (fun hu => ?_) (fun hu => ?_)
      · rw [if_neg (by rw [hu]; decide)] at kk
        exact s_wr56 g1 kk
      · rw [if_pos hu] at kk
        refine ⟨g1.scr, s_rdN g1 (fun w2 g2 => ?_)⟩
        by_cases hm : (mN (T 0) (mS (T 0) 44 s).2).1 = -1
        · rw [if_pos hm] at kk ⊢; exact kk w2 g2
        · rw [if_neg hm] at kk ⊢
          refine ⟨g2.scr, s_addStep g2 (fun w3 g3 => ?_)⟩
          rw [nI_1]
          exact ih (i + 1) _ _ w3 (by omega) (by omega) g3 kk
theorem s_rdWr (h : jPs L R V T s k c w) (kk : ∀ w', jPs L R V T (mWr (T 0) s k).2.1 (mWr (T 0) s k).2.2 c w' → P (jB2 (mWr (T 0) s k).1) w') : w_X4_readWriting κ w (L 315) P := by
  unfold w_X4_readWriting w_X4_readWriting_b0
  unfold mWr at kk
  refine ⟨h.scr, s_rdD h (fun w1 h1 => ?_)⟩
  by_cases ha : (mD (T 0) s).1 = -1
  · rw [if_pos ha] at kk ⊢; exact kk w1 h1
  · rw [if_neg ha] at kk ⊢
    exact s_wrL jFu 0 _ _ w1 (by omega) (by rw [jFu_eq]; omega) h1 kk
theorem s_rdFo (h : jPs L R V T s k c w) (kk : ∀ w', jPs L R V T (mFo (T 0) s k).2.1 (mFo (T 0) s k).2.2 c w' → P (jB2 (mFo (T 0) s k).1) w') : w_X4_readFollowing κ w (L 315) P := by
  unfold w_X4_readFollowing w_X4_readFollowing_b0
  unfold mFo at kk
  refine ⟨h.scr, s_rdD h (fun w1 h1 => ?_)⟩
  by_cases ha : (mD (T 0) s).1 = -1
  · rw [if_pos ha] at kk ⊢; unfold w_X4_readFollowing_b19; exact kk w1 h1
  · rw [if_neg ha] at kk ⊢
    refine ⟨h1.scr, s_rdS (e := 32) h1 (by omega) (fun w2 h2 => ?_)⟩
    refine jifS (fun hu => ?_) (fun hu => ?_)
    · rw [if_neg (by rw [hu]; decide)] at kk
      unfold w_X4_readFollowing_b19; exact kk w2 h2
    · rw [if_pos hu] at kk
      refine ⟨h2.scr, s_rdN h2 (fun w3 h3 => ?_)⟩
      by_cases hb : (mN (T 0) (mS (T 0) 32 (mD (T 0) s).2).2).1 = -1
      · rw [if_pos hb] at kk ⊢; unfold w_X4_readFollowing_b46 w_X4_readFollowing_b47; exact ⟨rfl, kk w3 h3⟩
      · rw [if_neg hb] at kk ⊢
        refine ⟨h3.scr, s_addStep h3 (fun w4 h4 => ?_)⟩
        rw [if_neg (by decide)]
        unfold w_X4_readFollowing_b47; exact ⟨rfl, kk w4 h4⟩
theorem s_rdSw (h : jPs L R V T s k c w) (kk : ∀ w', jPs L R V T (mSw (T 0) s k).2.1 (mSw (T 0) s k).2.2 c w' → P (jB2 (mSw (T 0) s k).1) w') : w_X4_readSwapping κ w (L 315) P := by
  unfold w_X4_readSwapping w_X4_readSwapping_b0
  unfold mSw at kk
  refine ⟨h.scr, s_rdN h (fun w1 h1 => ?_)⟩
  by_cases ha : (mN (T 0) s).1 = -1
  · rw [if_pos ha] at kk ⊢; unfold w_X4_readSwapping_b19; exact kk w1 h1
  · rw [if_neg ha] at kk ⊢
    refine ⟨h1.scr, s_rdS (e := 32) h1 (by omega) (fun w2 h2 => ?_)⟩
    refine jifS (fun hu => ?_) (fun hu => ?_)
    · rw [if_neg (by rw [hu]; decide)] at kk
      unfold w_X4_readSwapping_b19; exact kk w2 h2
    · rw [if_pos hu] at kk
      refine ⟨h2.scr, s_rdD h2 (fun w3 h3 => ?_)⟩
      by_cases hb : (mD (T 0) (mS (T 0) 32 (mN (T 0) s).2).2).1 = -1
      · rw [if_pos hb] at kk ⊢; unfold w_X4_readSwapping_b40; exact kk w3 h3
      · rw [if_neg hb] at kk ⊢
        refine ⟨h3.scr, s_rdS (e := 32) h3 (by omega) (fun w4 h4 => ?_)⟩
        refine jifS (fun hv => ?_) (fun hv => ?_)
        · rw [if_neg (by rw [hv]; decide)] at kk
          unfold w_X4_readSwapping_b40; exact kk w4 h4
        · rw [if_pos hv] at kk
          refine ⟨h4.scr, s_rdN h4 (fun w5 h5 => ?_)⟩
          by_cases hd : (mN (T 0) (mS (T 0) 32 (mD (T 0) (mS (T 0) 32 (mN (T 0) s).2).2).2).2).1 = -1
          · rw [if_pos hd] at kk ⊢; unfold w_X4_readSwapping_b67 w_X4_readSwapping_b68; exact ⟨rfl, kk w5 h5⟩
          · rw [if_neg hd] at kk ⊢
            refine ⟨h5.scr, s_addStep h5 (fun w6 h6 => ?_)⟩
            rw [if_neg (by decide)]
            unfold w_X4_readSwapping_b68; exact ⟨rfl, kk w6 h6⟩
theorem s_rdMM (h : jPs L R V T s k c w) (kk : ∀ w', jPs L R V T (mMM (T 0) s k).2.1 (mMM (T 0) s k).2.2 c w' → P (jB2 (mMM (T 0) s k).1) w') : w_X4_readMeltingOrMending κ w (L 315) P := by
  unfold w_X4_readMeltingOrMending w_X4_readMeltingOrMending_b0
  unfold mMM at kk
  have go : ∀ (x1 : Int32) (u : Nat), u < 27 → (∀ w', jPs L R V T (if (mW (T 0) (jTxt.getD u []) s).1 = true then (if (mN (T 0) (mW (T 0) (jTxt.getD u []) s).2).1 = -1 then (false, (mN (T 0) (mW (T 0) (jTxt.getD u []) s).2).2, k) else (true, (mN (T 0) (mW (T 0) (jTxt.getD u []) s).2).2, k + 1)) else (false, (mW (T 0) (jTxt.getD u []) s).2, k)).2.1 (if (mW (T 0) (jTxt.getD u []) s).1 = true then (if (mN (T 0) (mW (T 0) (jTxt.getD u []) s).2).1 = -1 then (false, (mN (T 0) (mW (T 0) (jTxt.getD u []) s).2).2, k) else (true, (mN (T 0) (mW (T 0) (jTxt.getD u []) s).2).2, k + 1)) else (false, (mW (T 0) (jTxt.getD u []) s).2, k)).2.2 c w' → P (jB2 (if (mW (T 0) (jTxt.getD u []) s).1 = true then (if (mN (T 0) (mW (T 0) (jTxt.getD u []) s).2).1 = -1 then (false, (mN (T 0) (mW (T 0) (jTxt.getD u []) s).2).2, k) else (true, (mN (T 0) (mW (T 0) (jTxt.getD u []) s).2).2, k + 1)) else (false, (mW (T 0) (jTxt.getD u []) s).2, k)).1) w') → w_X4_readMeltingOrMending_b27 κ w (L 315) x1 u (L 315) P := by
    intro x1 u hu kk
    unfold w_X4_readMeltingOrMending_b27
    refine ⟨h.scr, s_rdW h hu (fun w1 h1 => ?_)⟩
    refine jif_b (fun ha => ?_) (fun ha => ?_)
    · rw [if_neg (by rw [ha]; decide)] at kk; exact kk w1 h1
    · rw [if_pos ha] at kk
      refine ⟨h1.scr, s_rdN h1 (fun w2 h2 => ?_)⟩
      by_cases hb : (mN (T 0) (mW (T 0) (jTxt.getD u []) s).2).1 = -1
      · rw [if_pos hb] at kk ⊢; unfold w_X4_readMeltingOrMending_b69 w_X4_readMeltingOrMending_b70; exact ⟨rfl, kk w2 h2⟩
      · rw [if_neg hb] at kk ⊢
        have fin : ∀ x, w_X4_readMeltingOrMending_b56 κ w2 (mN (T 0) (mW (T 0) (jTxt.getD u []) s).2).1 x (L 315) P := fun x => by
          unfold w_X4_readMeltingOrMending_b56
          refine ⟨h2.scr, s_addStep h2 (fun w4 h4 => ?_)⟩
          rw [if_neg (by decide)]
          unfold w_X4_readMeltingOrMending_b70; exact ⟨rfl, kk w4 h4⟩
        split
        · exact fin 6
        · exact fin 4
  refine ⟨h.scr, s_sign h ?_⟩
  unfold w_X4_readMeltingOrMending_b14
  by_cases h108 : pS (T 0) s = 108
  · rw [if_pos h108, if_neg (by decide)]
    rw [if_pos h108] at kk
    exact go 1 5 (by omega) kk
  · rw [if_neg h108, if_pos rfl]
    rw [if_neg h108] at kk
    exact go 0 6 (by omega) kk
theorem s_rdC (h : jPs L R V T s k c w) (kk : ∀ w', jPs L R V T (mC (T 0) s k).2.1 (mC (T 0) s k).2.2 c w' → P (jB2 (mC (T 0) s k).1) w') : w_X4_readCommand κ w (L 315) P := by
  unfold w_X4_readCommand w_X4_readCommand_b0
  unfold mC at kk
  refine ⟨h.scr, s_sign h ?_⟩
  have wd : ∀ {u : Nat} (hu : u < 27) {f : List Int32 → Nat → Nat → Bool × Nat × Nat} {F : va_W → (Int32 → va_W → Prop) → Prop} (hF : ∀ (s2 : Nat) (w1 : va_W) (Q : Int32 → va_W → Prop), jPs L R V T s2 k c w1 → (∀ w', jPs L R V T (f (T 0) s2 k).2.1 (f (T 0) s2 k).2.2 c w' → Q (jB2 (f (T 0) s2 k).1) w') → F w1 Q), (∀ w', jPs L R V T (mU (T 0) u f s k).2.1 (mU (T 0) u f s k).2.2 c w' → P (jB2 (mU (T 0) u f s k).1) w') → w_X4_readWord κ w (L 315) u (fun v3 w3 => if v3 = 0 then P 0 w3 else (jRc w3 (L 315) 7 ∧ F w3 (fun v4 w4 => if v4 = 0 then P 0 w4 else P 1 w4))) := by
    intro u hu f F hF kk
    unfold mU at kk
    refine s_rdW h hu (fun w1 h1 => ?_)
    refine jif_b (fun ha => ?_) (fun ha => ?_)
    · rw [if_neg (by rw [ha]; decide)] at kk; exact kk w1 h1
    · rw [if_pos ha] at kk
      refine ⟨h1.scr, hF _ w1 _ h1 (fun w2 h2 => ?_)⟩
      have kk := kk w2 h2
      refine jif_b (fun hb => ?_) (fun hb => ?_)
      · rw [hb] at kk; exact kk
      · rw [hb] at kk; exact kk
  by_cases h1 : pS (T 0) s = 102
  · rw [if_pos h1] at kk ⊢
    exact ⟨h.scr, wd (by omega) (F := fun w1 Q => w_X4_readFollowing κ w1 (L 315) Q) (fun s2 w1 Q g kq => s_rdFo g kq) kk⟩
  rw [if_neg h1] at kk ⊢
  by_cases h2 : pS (T 0) s = 104
  · rw [if_pos h2] at kk ⊢
    refine ⟨h.scr, s_rdW h (u := 0) (by omega) (fun w1 g1 => ?_)⟩
    unfold mU at kk
    refine jif_b (fun ha => ?_) (fun ha => ?_)
    · rw [if_neg (by rw [ha]; decide)] at kk
      unfold w_X4_readCommand_b80 w_X4_readCommand_b81; exact ⟨rfl, kk w1 g1⟩
    · rw [if_pos ha] at kk
      refine ⟨g1.scr, s_addStep g1 (fun w2 g2 => ?_)⟩
      rw [if_neg (by decide)]
      unfold w_X4_readCommand_b81; exact ⟨rfl, kk w2 g2⟩
  rw [if_neg h2] at kk ⊢
  by_cases h3 : pS (T 0) s = 109
  · rw [if_pos h3] at kk ⊢
    exact ⟨h.scr, wd (by omega) (F := fun w1 Q => w_X4_readMeltingOrMending κ w1 (L 315) Q) (fun s2 w1 Q g kq => s_rdMM g kq) kk⟩
  rw [if_neg h3] at kk ⊢
  by_cases h4 : pS (T 0) s = 115
  · rw [if_pos h4] at kk ⊢
    exact ⟨h.scr, wd (by omega) (F := fun w1 Q => w_X4_readSwapping κ w1 (L 315) Q) (fun s2 w1 Q g kq => s_rdSw g kq) kk⟩
  rw [if_neg h4] at kk ⊢
  by_cases h5 : pS (T 0) s = 119
  · rw [if_pos h5] at kk ⊢
    exact ⟨h.scr, wd (by omega) (F := fun w1 Q => w_X4_readWriting κ w1 (L 315) Q) (fun s2 w1 Q g kq => s_rdWr g kq) kk⟩
  rw [if_neg h5] at kk ⊢
  exact kk w h
theorem jPs.incC (h : jPs L R V T s k c w) (hc : c < 60) {Q : va_W → Prop} (kk : ∀ w', jPs L R V T s k (c + 1) w' → Q w') : jgI w (L 315) 7 7 (fun v2 => jpV w (L 315) 7 7 (.int (v2 + 1)) (fun w3 => Q w3)) := by
  obtain ⟨R', V', e1, e2, e3, e4, e5, e6, h, e7, e8, e9⟩ := h
  refine (jgI_eq h.sc rfl).mpr ?_
  rw [e4, nI_1]
  refine s_pv50 h (fun w' h' => kk w' ⟨R', _, e1, fun i hi => ?_, ?_, ?_, ?_, e6, h', e7, e8, by omega⟩)
  · rw [jSetV_ne (by omega)]; exact e2 i hi
  · rw [jSetV_ne (by omega)]; exact e3
  · simp [jSetV]
  · rw [jSetV_ne (by omega)]; exact e5
theorem s_parseL : ∀ (n i s k : Nat) (w : va_W), i ≤ 60 → 60 < n + i → jPs L R V T s k i w → (∀ w', jPs L R V T (mP (T 0) (60 - i) s k i).2.1 (mP (T 0) (60 - i) s k i).2.2.1 (mP (T 0) (60 - i) s k i).2.2.2 w' → P (jB2 (mP (T 0) (60 - i) s k i).1) w') → w_X4_parse_b17 n κ w (L 315) (nI i) P := by
  intro n
  induction n with
  | zero => intro i s k w h1 h2; omega
  | succ n ih =>
    intro i s k w h1 h2 h kk
    rw [w_X4_parse_b17]
    by_cases hi : i = 60
    · subst hi
      rw [if_pos (show (60 : Int32) ≤ nI 60 from Int32.le_refl _)]
      exact kk w h
    · rw [if_neg (fun e : (60 : Int32) ≤ nI i => by have := (nI_leI (a := 60) (by omega) (by omega)).mp e; omega)]
      rw [show 60 - i = (60 - (i + 1)) + 1 by omega] at kk
      simp only [mP] at kk
      refine ⟨h.scr, s_rdC h (fun w1 g1 => ?_)⟩
      refine jif_b (fun hu => ?_) (fun hu => ?_)
      · rw [if_neg (by rw [hu]; decide)] at kk
        exact kk w1 g1
      · rw [if_pos hu] at kk
        refine g1.incC (by omega) (fun w2 g2 => ⟨g2.scr, s_rdS (e := 59) g2 (by omega) (fun w3 g3 => ?_)⟩)
        refine jifS (fun hv => ?_) (fun hv => ?_)
        · rw [if_neg (by rw [hv]; decide)] at kk
          have kk := kk w3 g3
          obtain ⟨R', V', e1, e2, e3, e4, e5, e6, g, e7, e8, e9⟩ := g3
          have hl := e8.1
          refine (jgI_eq g.sc rfl).mpr ((jgR_eq g.sc rfl).mpr ⟨g.sbc (b := 0) (by omega), s_lenQ g (b := 0) (by omega) ?_⟩)
          rw [e5]
          unfold w_X4_parse_b70
          by_cases he : (mS (T 0) 59 (mC (T 0) s k).2.1).2 = (T 0).length
          · rw [if_pos (by rw [he])]
            rw [decide_eq_true he] at kk
            exact ⟨rfl, kk⟩
          · rw [if_neg (fun e => he ((nI_eq (by omega) (by omega)).mp e))]
            rw [decide_eq_false he] at kk
            exact ⟨rfl, kk⟩
        · rw [if_pos hv] at kk
          rw [nI_1]
          exact ih (i + 1) _ _ w3 (by omega) (by omega) g3 kk
/-- a script's form: what is read of it, by its text alone -/
def mF (t : List Int32) : Bool × Nat × Nat × Nat := mP t 60 0 0 0
theorem s_parse (h : jRq L R V T w) (hc : gCh (T 0)) (hn : ∀ i, i < 60 → ¬ R 138 i < 0) (kk : ∀ w', jPs L R V T (mF (T 0)).2.1 (mF (T 0)).2.2.1 (mF (T 0)).2.2.2 w' → P (jB2 (mF (T 0)).1) w') : w_X4_parse κ w (L 315) P := by
  unfold w_X4_parse w_X4_parse_b0
  refine s_pv51 h (fun w1 h1 => s_pv49 h1 (fun w2 h2 => s_pv50 h2 (fun w3 h3 => ?_)))
  refine s_parseL jFu 0 0 0 w3 (by omega) (by rw [jFu_eq]; omega) ⟨R, _, fun _ _ => rfl, fun i hi => ?_, ?_, ?_, ?_, hn, h3, Nat.zero_le _, hc, Nat.zero_le _⟩ kk
  · rw [jSetV_ne (by omega), jSetV_ne (by omega), jSetV_ne (by omega)]
  · rw [jSetV_ne (by omega)]; simp [jSetV]; rfl
  · simp [jSetV]; rfl
  · rw [jSetV_ne (by omega), jSetV_ne (by omega)]; simp [jSetV]; rfl
end JParse
