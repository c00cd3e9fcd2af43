/-! ===== a script run, whole ===== -/
section JRun2
variable {κ : Nat → Nat} {L : Nat → Nat} {R : Nat → Nat → Int32} {V : Nat → Int32} {T : Nat → List Int32} {w : va_W} {B : Nat} {P : Int32 → va_W → Prop}
theorem gBk.of {R R' : Nat → Nat → Int32} {V V' : Nat → Int32} {m : Nat} {S : Nat → Nat → Int32} {U : Nat → Int32} (h : gBk R V m S U) (h44 : V' 44 = V 44) (h45 : V' 45 = V 45) (h0 : gEq R' V' R V) (hr : ∀ s, 3 ≤ s → s < 11 → gEq (jSh R' s) (jSv V' s) (jSh R s) (jSv V s)) : gBk R' V' m S U := by
  obtain ⟨j, k, h1, h2, h3, h4, h5, h6⟩ := h
  refine ⟨j, k, h1, h2, h44.trans h3, h45.trans h4, h5, ?_⟩
  by_cases hm : m = 0
  · rw [if_pos hm] at h6 ⊢
    rw [jSh_0, jSv_0] at h6 ⊢
    exact h0.tr h6
  · rw [if_neg hm] at h6 ⊢
    have := Nat.mod_lt (j + 8 - m) (show 8 > 0 by omega)
    exact (hr _ (by omega) (by omega)).tr h6
/-- what a script's run leaves, refused or done -/
theorem u_runScript (h : jRq L R V T w) (hi : jInv R V B) (hB : B < 2 ^ 29) (hκ : jEn κ) (hc : gCh (T 0))
    (k1 : ∀ R' V' w', jRq L R' V' (jT T 0 []) w' → jInv R' V' (B + 60) → gFr R V R' V' → (∀ m S U, gBk R V m S U → gBk R' V' m S U) → gEq R' V' R V → ((mF (T 0)).1 = true → ¬ V' 48 < 0) → P (-100000000) w')
    (k0 : ∀ R' V' v w', jRq L R' V' (jT T 0 []) w' → jInv R' V' (B + 60) → gOp R V R' V' → ¬ v < 0 → P v w') : w_L_runScript κ w (L 316) P := by
  unfold w_L_runScript w_L_runScript_b0 w_X8_runScript w_X8_runScript_b0
  refine ⟨⟨_, h.lg⟩, (jgR_eq h.lg rfl).mpr ⟨⟨_, h.sc⟩, s_parse h hc hi.2.2.1 (fun w1 g1 => ?_)⟩⟩
  have hb := mP_b (t := T 0) 60 0 0 0
  have hk9 : (mF (T 0)).2.2.1 ≤ 60 := by
    obtain ⟨_, _, _, _, _, _, _, _, _, e7, e8, _⟩ := g1
    have := e8.1
    unfold mF at e7 ⊢
    omega
  obtain ⟨R1, V1, e1, e2, e3, e4, e5, e6, g1, e7, e8, e9⟩ := g1
  refine (jgR_eq g1.lg rfl).mpr ⟨⟨_, g1.sc⟩, ?_⟩
  unfold w_X4_empty w_X4_empty_b0
  refine (jgR_eq g1.sc rfl).mpr ⟨g1.sbc (b := 0) (by omega), s_sb0Q g1 (b := 0) (by omega) (fun w2 g2 => ?_)⟩
  -- what parsing leaves
  have ev : ∀ s, s < 11 → gEq (jSh R1 s) (jSv V1 s) (jSh R s) (jSv V s) := fun s hs => ⟨fun k hk => e1 _ (by have := hk.1; omega), fun i hi => e2 _ (by omega)⟩
  have e0 : gEq R1 V1 R V := by have := ev 0 (by omega); rw [jSh_0, jSv_0, jSh_0, jSv_0] at this; exact this
  have i1 : jInv R1 V1 B := by
    obtain ⟨a1, ⟨j, k, a2, a3, a4, a5⟩, a6, a7⟩ := hi
    exact ⟨fun s hs => (a1 s hs).eq (ev s hs), ⟨j, k, a2, a3, by rw [e2 44 (by omega)]; exact a4, by rw [e2 45 (by omega)]; exact a5⟩, e6, by rw [e2 48 (by omega)]; exact a7⟩
  have f1 : gFr R V R1 V1 := ⟨fun k hk => e1 _ (by have := hk.1; omega), fun i hi => e2 _ (by omega), e2 46 (by omega)⟩
  have b1 : ∀ m S U, gBk R V m S U → gBk R1 V1 m S U := fun m S U hm => hm.of (e2 44 (by omega)) (e2 45 (by omega)) e0 (fun s _ hs => ev s hs)
  refine jif_b (fun hu => ?_) (fun hu => ?_)
  · refine (jgR_eq g2.lg rfl).mpr ((jgI_eq g2.sc rfl).mpr (s_pv47 g2 (fun w3 g3 => ?_)))
    try dsimp only
    rw [if_pos rfl]
    have hi2 : jInv R1 (jSetV V1 47 (V1 51)) (B + 60) := by
      obtain ⟨a1, ⟨j, k, a2, a3, a4, a5⟩, a6, a7⟩ := i1
      exact ⟨fun s hs => ((a1 s hs).mono (by omega)).eq ⟨fun _ _ => rfl, fun i hi => jSetV_ne (by omega)⟩, ⟨j, k, a2, a3, by rw [jSetV_ne (by omega)]; exact a4, by rw [jSetV_ne (by omega)]; exact a5⟩, a6, by rw [jSetV_ne (by omega)]; exact a7⟩
    refine k1 R1 _ w3 g3 hi2 (f1.tr ⟨fun _ _ => rfl, fun i hi => jSetV_ne (by omega), jSetV_ne (by omega)⟩) (fun m S U hm => (b1 m S U hm).of (jSetV_ne (by omega)) (jSetV_ne (by omega)) ⟨fun _ _ => rfl, fun i hi => jSetV_ne (by omega)⟩ (fun s _ hs => ⟨fun _ _ => rfl, fun i hi => jSetV_ne (by omega)⟩)) ?_ (fun e => by rw [hu] at e; cases e)
    exact gEq.tr ⟨fun _ _ => rfl, fun i hi => jSetV_ne (by omega)⟩ e0
  · refine (jgR_eq g2.lg rfl).mpr ((jgR_eq g2.lg rfl).mpr ⟨⟨_, g2.st (s := 2) (by omega)⟩, s_copyQ g2 (s := 2) (u := 0) (by omega) (by omega) (by omega) (fun w3 g3 => ?_)⟩)
    have i1' := i1
    obtain ⟨a1, ⟨j, k, a2, a3, a4, a5⟩, a6, a7⟩ := i1
    -- before the steps: state 2 is the live one
    have hi3 : ∀ i, 44 ≤ i → jCpV V1 2 0 i = V1 i := fun i hi => jCpV_hi (by omega) hi
    have i3 : jInv (jCpR R1 2 0) (jCpV V1 2 0) B := i1'.cp (by omega) (by omega) (fun _ _ => rfl) ⟨j, k, a2, a3, by rw [hi3 44 (by omega)]; exact a4, by rw [hi3 45 (by omega)]; exact a5⟩ (by rw [hi3 48 (by omega)]; exact a7)
    have ne : ∀ t, t ≠ 2 → gEq (jSh (jCpR R1 2 0) t) (jSv (jCpV V1 2 0) t) (jSh R1 t) (jSv V1 t) := fun t ht => gCp_ne ht (fun _ _ => rfl)
    have e20 : gEq (jSh (jCpR R1 2 0) 2) (jSv (jCpV V1 2 0) 2) R V := by
      have := gCp_s (R := R1) (V := V1) (V' := jCpV V1 2 0) (s := 2) (u := 0) (fun _ _ => rfl)
      rw [jSh_0, jSv_0] at this; exact this.tr e0
    have e138 : (jCpR R1 2 0) 138 = R1 138 := by unfold jCpR; rw [if_neg (by omega)]
    have f3 : gFr R1 V1 (jCpR R1 2 0) (jCpV V1 2 0) := ⟨fun q hq => (ne 1 (by omega)).1 q hq, fun i hi => (ne 1 (by omega)).2 i hi, hi3 46 (by omega)⟩
    have e30 : gEq (jCpR R1 2 0) (jCpV V1 2 0) R1 V1 := by have := ne 0 (by omega); rw [jSh_0, jSv_0, jSh_0, jSv_0] at this; exact this
    have b3 : ∀ m S U, gBk R V m S U → gBk (jCpR R1 2 0) (jCpV V1 2 0) m S U := fun m S U hm => (b1 m S U hm).of (hi3 44 (by omega)) (hi3 45 (by omega)) e30 (fun s h3 hs => ne s (by omega))
    refine s_runL (B := B) hκ (Ra := jCpR R1 2 0) (Va := jCpV V1 2 0) (k9 := (mF (T 0)).2.2.1) (j := j) hk9 (by rw [hi3 49 (by omega)]; exact e3) (by rw [hi3 44 (by omega)]; exact a4) a2 (by rw [e138]; exact e6) (fun R' V' B' v w4 _ ht hl hv w5 g5 => ?_) (fun R' V' B' w4 hB' _ ht hl w5 g5 => ?_) hB jFu 0 _ _ w3 (Nat.zero_le _) (by rw [jFu_eq]; omega) g3 i3.t0 ⟨fun _ _ => rfl, fun _ _ => rfl⟩
    · try dsimp only
      rw [if_neg (by decide), if_pos rfl]
      -- a step refused: the live state is the one before
      have lv : ∀ t, t < 11 → t ≠ 0 → gEq (jSh (jCpR R' 0 2) t) (jSv (jCpV (jSetV V' 48 v) 0 2) t) (jSh (jCpR R1 2 0) t) (jSv (jCpV V1 2 0) t) := fun t ht h0 => by
        refine (gCp_ne (V := jSetV V' 48 v) h0 (fun _ _ => rfl)).tr ⟨fun q hq => hl.1 _ (by omega), fun i hi => ?_⟩
        show jSetV V' 48 v (4 * t + i) = _
        rw [jSetV_ne (by omega)]; exact hl.2 _ (by omega)
      have l0 : gEq (jCpR R' 0 2) (jCpV (jSetV V' 48 v) 0 2) R V := by
        have := gCp_s (R := R') (V := jSetV V' 48 v) (V' := jCpV (jSetV V' 48 v) 0 2) (s := 0) (u := 2) (fun _ _ => rfl)
        rw [jSh_0, jSv_0] at this
        refine this.tr (gEq.tr ⟨fun q hq => hl.1 _ (by omega), fun i hi => ?_⟩ e20)
        show jSetV V' 48 v (4 * 2 + i) = _
        rw [jSetV_ne (by omega)]; exact hl.2 _ (by omega)
      have hh : ∀ i, 44 ≤ i → i ≠ 48 → jCpV (jSetV V' 48 v) 0 2 i = V1 i := fun i h4 h8 => by
        rw [jCpV_hi (by omega) h4, jSetV_ne h8, hl.2 i (by omega), hi3 i h4]
      have h48 : jCpV (jSetV V' 48 v) 0 2 48 = v := by rw [jCpV_hi (by omega) (by omega)]; simp [jSetV]
      have r138 : jCpR R' 0 2 138 = R1 138 := by
        have : jCpR R' 0 2 138 = R' 138 := by unfold jCpR; rw [if_neg (by omega)]
        rw [this, hl.1 138 (by omega), e138]
      refine k1 _ _ w5 g5 ⟨fun s hs => ?_, ⟨j, k, a2, a3, by rw [hh 44 (by omega) (by omega)]; exact a4, by rw [hh 45 (by omega) (by omega)]; exact a5⟩, by rw [r138]; exact e6, Or.inr (by rw [h48]; exact hv)⟩ ?_ (fun m S U hm => ?_) l0 (fun _ => by rw [h48]; exact hv)
      · by_cases h0 : s = 0
        · subst h0
          rw [jSh_0, jSv_0]; exact (hi.t0.mono (by omega)).eq l0
        · exact ((i3.1 s hs).mono (by omega)).eq (lv s hs h0)
      · exact f1.tr (f3.tr ⟨fun q hq => (lv 1 (by omega) (by omega)).1 q hq, fun i hi => (lv 1 (by omega) (by omega)).2 i hi, by rw [hh 46 (by omega) (by omega), hi3 46 (by omega)]⟩)
      · exact (b3 m S U hm).of (by rw [hh 44 (by omega) (by omega), hi3 44 (by omega)]) (by rw [hh 45 (by omega) (by omega), hi3 45 (by omega)]) (l0.tr (e0.sym.tr e30.sym)) (fun s h3 hs => lv s hs (by omega))
    · -- all done: the state before is kept
      have h44' : V' 44 = nI j := by rw [hl.2 44 (by omega), hi3 44 (by omega)]; exact a4
      have h45' : V' 45 = nI k := by rw [hl.2 45 (by omega), hi3 45 (by omega)]; exact a5
      have lo : ∀ i, i < 44 → jSetV (jSetV (jCpV V' (3 + j) 2) 44 (jrem (V' 44 + 1) 8)) 45 (jmin (V' 45 + 1) 8) i = jCpV V' (3 + j) 2 i := fun i hi => by rw [jSetV_ne (by omega), jSetV_ne (by omega)]
      have q44 : jSetV (jSetV (jCpV V' (3 + j) 2) 44 (jrem (V' 44 + 1) 8)) 45 (jmin (V' 45 + 1) 8) 44 = nI ((j + 1) % 8) := by
        rw [jSetV_ne (by omega)]
        simp only [jSetV, if_true]
        rw [h44', nI_1, show (8 : Int32) = nI 8 from rfl, jrem_n (by omega) (by omega)]
      have q45 : jSetV (jSetV (jCpV V' (3 + j) 2) 44 (jrem (V' 44 + 1) 8)) 45 (jmin (V' 45 + 1) 8) 45 = nI (if k < 8 then k + 1 else 8) := jKpV_45 (V := V') (j := j) a3 h45'
      have q46 : ∀ i, 46 ≤ i → jSetV (jSetV (jCpV V' (3 + j) 2) 44 (jrem (V' 44 + 1) 8)) 45 (jmin (V' 45 + 1) 8) i = V1 i := fun i hi => by
        rw [jSetV_ne (by omega), jSetV_ne (by omega), jCpV_hi (by omega) (by omega), hl.2 i (by omega), hi3 i (by omega)]
      have lv : ∀ t, t < 11 → t ≠ 0 → t ≠ 3 + j → gEq (jSh (jCpR R' (3 + j) 2) t) (jSv (jSetV (jSetV (jCpV V' (3 + j) 2) 44 (jrem (V' 44 + 1) 8)) 45 (jmin (V' 45 + 1) 8)) t) (jSh (jCpR R1 2 0) t) (jSv (jCpV V1 2 0) t) := fun t ht h0 h3 =>
        (gCp_ne h3 (fun i hi => lo _ (by omega))).tr ⟨fun q hq => hl.1 _ (by omega), fun i hi => hl.2 _ (by omega)⟩
      have l3 : gEq (jSh (jCpR R' (3 + j) 2) (3 + j)) (jSv (jSetV (jSetV (jCpV V' (3 + j) 2) 44 (jrem (V' 44 + 1) 8)) 45 (jmin (V' 45 + 1) 8)) (3 + j)) R V :=
        (gCp_s (fun i hi => lo _ (by omega))).tr (gEq.tr ⟨fun q hq => hl.1 _ (by omega), fun i hi => hl.2 _ (by omega)⟩ e20)
      have l0 : gEq (jCpR R' (3 + j) 2) (jSetV (jSetV (jCpV V' (3 + j) 2) 44 (jrem (V' 44 + 1) 8)) 45 (jmin (V' 45 + 1) 8)) R' V' := by
        have := gCp_ne (R := R') (V := V') (V' := jSetV (jSetV (jCpV V' (3 + j) 2) 44 (jrem (V' 44 + 1) 8)) 45 (jmin (V' 45 + 1) 8)) (s := 3 + j) (u := 2) (t := 0) (by omega) (fun i hi => lo _ (by omega))
        rw [jSh_0, jSv_0, jSh_0, jSv_0] at this; exact this
      have r138 : jCpR R' (3 + j) 2 138 = R1 138 := by
        have : jCpR R' (3 + j) 2 138 = R' 138 := by unfold jCpR; rw [if_neg (by omega)]
        rw [this, hl.1 138 (by omega), e138]
      have hjm := Nat.mod_lt (j + 1) (show 8 > 0 by omega)
      refine k0 _ _ _ w5 g5 ⟨fun s hs => ?_, ⟨(j + 1) % 8, _, hjm, ?_, q44, q45⟩, by rw [r138]; exact e6, by rw [q46 48 (by omega)]; exact a7⟩ ⟨?_, fun m S U hm hb => ?_⟩ ?_
      · by_cases h0 : s = 0
        · subst h0
          rw [jSh_0, jSv_0]; exact (ht.mono (by omega)).eq l0
        · by_cases h3 : s = 3 + j
          · subst h3
            exact (hi.t0.mono (by omega)).eq l3
          · exact ((i3.1 s hs).mono (by omega)).eq (lv s hs h0 h3)
      · split <;> omega
      · exact f1.tr (f3.tr ⟨fun q hq => (lv 1 (by omega) (by omega) (by omega)).1 q hq, fun i hi => (lv 1 (by omega) (by omega) (by omega)).2 i hi, by rw [q46 46 (by omega), hi3 46 (by omega)]⟩)
      · obtain ⟨j2, k2, c1, c2, c3, c4, c5, c6⟩ := hb
        have ej : j2 = j := (nI_eq (by omega) (by omega)).mp (c3.symm.trans ((e2 44 (by omega)).symm.trans a4))
        have ek : k2 = k := (nI_eq (by omega) (by omega)).mp (c4.symm.trans ((e2 45 (by omega)).symm.trans a5))
        subst ej; subst ek
        refine ⟨(j2 + 1) % 8, _, hjm, ?_, q44, q45, ?_, ?_⟩
        · split <;> omega
        · split <;> omega
        · rw [if_neg (by omega), show ((j2 + 1) % 8 + 8 - (m + 1)) % 8 = (j2 + 8 - m) % 8 by omega]
          by_cases h0 : m = 0
          · subst h0
            rw [if_pos rfl, jSh_0, jSv_0] at c6
            rw [show (j2 + 8 - 0) % 8 = j2 by omega]
            exact l3.tr c6
          · rw [if_neg h0] at c6
            have hm8 := Nat.mod_lt (j2 + 8 - m) (show 8 > 0 by omega)
            exact (lv _ (by omega) (by omega) (by omega)).tr ((ne _ (by omega)).tr ((ev _ (by omega)).tr c6))
      · rw [hl.2 50 (by omega), hi3 50 (by omega), e4]; exact nI_pos (by omega)
end JRun2
