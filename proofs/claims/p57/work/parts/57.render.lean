/-! ===== the output's texts ===== -/
section JRender
variable {κ : Nat → Nat} {L : Nat → Nat} {R : Nat → Nat → Int32} {V : Nat → Int32} {T : Nat → List Int32} {w : va_W}
theorem s_lenQ (h : jRq L R V T w) {b : Nat} (hb : b < 2) {P : Int32 → va_W → Prop} (k : P (nI (T b).length) w) : w_J4_length_8abf5 κ w (L (317 + b)) P := by
  obtain ⟨R1, e, h1⟩ := h; exact s_sbLen h1 hb k
theorem s_sbCQ (h : jRq L R V T w) {b c : Nat} (hb : b < 2) (hc : c < 128) (hl : (T b).length < 200) {P : Nat → va_W → Prop} (k : ∀ w', jRq L R V (jT T b (T b ++ [nI c])) w' → P (L (317 + b)) w') : w_J4_append_cf468 κ w (L (317 + b)) (nI c) P := by
  obtain ⟨R1, e, h1⟩ := h; exact s_sbC h1 hb hc hl (fun w' h' => k w' ⟨R1, e, h'⟩)
theorem s_sbIQ (h : jRq L R V T w) {b c : Nat} (hb : b < 2) (hc : c < 2 ^ 31) (hl : (T b).length + 10 ≤ 200) {P : Nat → va_W → Prop} (k : ∀ t w', (T b).length < t.length → t.length ≤ (T b).length + 10 → jRq L R V (jT T b t) w' → P (L (317 + b)) w') : w_J4_append_bf812 κ w (L (317 + b)) (nI c) P := by
  obtain ⟨R1, e, h1⟩ := h; exact s_sbI h1 hb hc hl (fun t w' a b h' => k t w' a b ⟨R1, e, h'⟩)
theorem s_sb0Q (h : jRq L R V T w) {b : Nat} (hb : b < 2) {P : va_W → Prop} (k : ∀ w', jRq L R V (jT T b []) w' → P w') : w_J4_setLength_d00df κ w (L (317 + b)) 0 P := by
  obtain ⟨R1, e, h1⟩ := h; exact s_sb0 h1 hb (fun w' h' => k w' ⟨R1, e, h'⟩)
theorem jRq.sbc (h : jRq L R V T w) {b : Nat} (hb : b < 2) : jRc w (L (317 + b)) 1 := by
  obtain ⟨R1, e, h1⟩ := h
  obtain ⟨q, n, f, m9, g1, -⟩ := h1.sb hb
  exact ⟨_, g1⟩
variable {P : Int32 → va_W → Prop}
theorem s_brEnd (h : jRq L R V T w) (k : P (nI (T 1).length) w) : w_X8_renderBranchZ_b83 κ w (L 316) P := by
  unfold w_X8_renderBranchZ_b83
  exact (jgR_eq h.lg rfl).mpr ⟨h.sbc (b := 1) (by omega), s_lenQ h (b := 1) (by omega) k⟩
theorem s_br46 (h : jRq L R V T w) (h1 : jT1 R) {x : Nat} (hx : gU R x = true) (hl : (T 1).length + 10 ≤ 200) {x4 : Int32} {K : va_W → Nat → Int32 → Int32 → Prop} (k : ∀ t w', (T 1).length < t.length → t.length ≤ (T 1).length + 10 → jRq L R V (jT T 1 t) w' → K w' (L 316) (jGt R 0 1 (nI x)) (x4 + 1)) : w_X8_renderBranchZ_b46 κ w (L 316) (nI x) x4 K P := by
  unfold w_X8_renderBranchZ_b46
  have hx16 := gU_16 hx
  obtain ⟨en, hn⟩ := h1.n hx
  refine (jgR_eq h.lg rfl).mpr ((jgR_eq h.lg rfl).mpr ((jgR_eq (h.st (s := 0) (by omega)) rfl).mpr ⟨⟨_, h.row (r := 0) (by omega)⟩, s_gq h 0 (by omega) (by omega) (by omega) ⟨h.sbc (b := 1) (by omega), ?_⟩⟩))
  rw [jGt_5 (by omega) hx16, en]
  refine s_sbIQ h (b := 1) (by omega) hn hl (fun t w1 a1 a2 h1 => ?_)
  exact (jgR_eq h1.lg rfl).mpr ((jgR_eq (h1.st (s := 0) (by omega)) rfl).mpr ⟨⟨_, h1.row (r := 1) (by omega)⟩, s_gq h1 1 (by omega) (by omega) (by omega) (k t w1 a1 a2 h1)⟩)
theorem s_br19 (h1 : jT1 R) : ∀ (n x st : Nat) (T : Nat → List Int32) (w : va_W), gU R x = true → gD (gP R) x + st ≤ 15 → gD (gP R) x + 1 < n → (T 1).length ≤ 11 * st → (st = 0 ∨ 2 * st ≤ (T 1).length + 1) → jRq L R V T w → (∀ t w', 2 * (st + gD (gP R) x) + 1 ≤ t.length → t.length ≤ 200 → jRq L R V (jT T 1 t) w' → P (nI t.length) w') → w_X8_renderBranchZ_b19 n κ w (L 316) (nI x) (nI st) P := by
  intro n
  induction n with
  | zero => intro x st T w _ _ h; omega
  | succ n ih =>
    intro x st T w hx hd hn hl hs h k
    have hx16 := gU_16 hx
    rw [w_X8_renderBranchZ_b19, if_neg (nI_m1 (by omega)), if_neg (fun e : (16 : Int32) ≤ nI st => by have := (nI_leI (a := 16) (by omega) (by omega)).mp e; omega)]
    -- one number is told, then the rest
    have go : ∀ (T2 : Nat → List Int32) (w2 : va_W), (∀ t, jT T2 1 t = jT T 1 t) → (T2 1).length ≤ 11 * st + 1 → 2 * st ≤ (T2 1).length → jRq L R V T2 w2 → w_X8_renderBranchZ_b46 κ w2 (L 316) (nI x) (nI st) (fun w_ z_a0 z_x3 z_x4 => w_X8_renderBranchZ_b19 n κ w_ z_a0 z_x3 z_x4 P) P := by
      intro T2 w2 eT l2 m2 h2
      refine s_br46 h2 h1 hx (by omega) (fun t w3 a1 a2 h3 => ?_)
      try dsimp only
      rw [eT] at h3
      rw [nI_1]
      by_cases h0 : x = 0
      · subst h0
        rw [h1.g10]
        cases n with
        | zero => omega
        | succ n =>
          rw [w_X8_renderBranchZ_b19, if_pos rfl]
          refine s_brEnd h3 ?_
          rw [jT_self]
          rw [gD_0] at k
          exact k t w3 (by omega) (by omega) h3
      · obtain ⟨-, -, p3, -⟩ := h1.p hx h0
        have d2 := h1.tree.d_s hx h0
        rw [h1.g1p hx h0]
        refine ih _ (st + 1) _ w3 p3 (by omega) (by omega) (by rw [jT_self]; omega) (Or.inr (by rw [jT_self]; omega)) h3 (fun t2 w4 b1 b2 h4 => ?_)
        rw [jT_jT] at h4
        exact k t2 w4 (by omega) b2 h4
    by_cases h0 : st = 0
    · subst h0
      rw [if_pos (show nI 0 ≤ 0 from by decide)]
      exact go T w (fun t => rfl) (by omega) (by omega) h
    · rw [if_neg (fun e : nI st ≤ 0 => by have := (nI_leI (b := 0) (by omega) (by omega)).mp e; omega)]
      refine (jgR_eq h.lg rfl).mpr ⟨h.sbc (b := 1) (by omega), s_sbCQ (c := 45) h (b := 1) (by omega) (by omega) (by omega) (fun w2 h2 => ?_)⟩
      exact go _ w2 (fun t => jT_jT) (by rw [jT_self, List.length_append]; show (T 1).length + 1 ≤ _; omega) (by rw [jT_self, List.length_append]; show _ ≤ (T 1).length + 1; omega) h2
theorem q_renderBranch (h : jRq L R V T w) (h1 : jT1 R) {x : Nat} (hx : gU R x = true) (k : ∀ t w', 2 * gD (gP R) x + 1 ≤ t.length → t.length ≤ 200 → jRq L R V (jT T 1 t) w' → P (nI t.length) w') : w_X8_renderBranchZ κ w (L 316) (nI (gN R x)) P := by
  have hx16 := gU_16 hx
  unfold w_X8_renderBranchZ w_X8_renderBranchZ_b0
  refine ⟨⟨_, h.lg⟩, s_reqZ h (by rw [h1.slot hx]; exact nI_m1 (by omega)) ((jgR_eq h.lg rfl).mpr ⟨h.sbc (b := 1) (by omega), s_sb0Q h (b := 1) (by omega) (fun w2 h2 => ?_)⟩)⟩
  rw [h1.slot hx]
  have hd := h1.tree.d_le hx
  refine s_br19 h1 17 x 0 _ w2 hx (by omega) (by omega) (by rw [jT_self]; exact Nat.zero_le _) (Or.inl rfl) h2 (fun t w3 a1 a2 h3 => ?_)
  rw [jT_jT] at h3
  exact k t w3 (by omega) a2 h3
theorem s_bkEnd (h : jRq L R V T w) (k : P (nI (T 1).length) w) : w_X8_renderBlockZ_b178 κ w (L 316) P := by
  unfold w_X8_renderBlockZ_b178
  exact (jgR_eq h.lg rfl).mpr ⟨h.sbc (b := 1) (by omega), s_lenQ h (b := 1) (by omega) k⟩
theorem s_bk119 (hf : jTF R) {x m : Nat} (hx : x < 16) (hm : m ≤ 4) (ez : R 5 x = nI m) : ∀ (n i : Nat) (T : Nat → List Int32) (w : va_W), i ≤ m → m < n + i → 3 ≤ (T 1).length → (T 1).length ≤ 60 + 11 * i → jRq L R V T w → (∀ t w', 3 ≤ t.length → t.length ≤ 200 → jRq L R V (jT T 1 t) w' → P (nI t.length) w') → w_X8_renderBlockZ_b119 n κ w (L 316) (nI x) (nI m) (nI i) P := by
  intro n
  induction n with
  | zero => intro i T w h1 h2; omega
  | succ n ih =>
    intro i T w h1 h2 l1 l2 h k
    rw [w_X8_renderBlockZ_b119]
    by_cases hi : i = m
    · subst hi
      rw [if_pos (Int32.le_refl _)]
      refine (jgR_eq h.lg rfl).mpr ⟨⟨_, h.sv⟩, s_holds h hf.s0 (fun w2 h2 => ?_)⟩
      refine jif_b (fun hu => ?_) (fun hu => ?_)
      · refine (jgR_eq h2.lg rfl).mpr ⟨h2.sbc (b := 1) (by omega), s_sbCQ (c := 33) h2 (b := 1) (by omega) (by omega) (by omega) (fun w3 h3 => ?_)⟩
        refine s_bkEnd h3 ?_
        rw [jT_self]
        exact k _ w3 (by rw [List.length_append]; omega) (by rw [List.length_append]; show (T 1).length + 1 ≤ 200; omega) h3
      · refine s_bkEnd h2 ?_
        exact k (T 1) w2 l1 (by omega) (by rw [jT_id]; exact h2)
    · rw [if_neg (nI_ge (by omega) (by omega))]
      refine (jgR_eq h.lg rfl).mpr ⟨h.sbc (b := 1) (by omega), s_sbCQ (c := 44) h (b := 1) (by omega) (by omega) (by omega) (fun w2 h2 => ?_)⟩
      refine (jgR_eq h2.lg rfl).mpr ((jgR_eq (h2.st (s := 0) (by omega)) rfl).mpr ⟨⟨_, h2.tab (t := 0) (by omega)⟩, s_flakeQ h2 (t := 0) (by omega) ⟨h2.sbc (b := 1) (by omega), ?_⟩⟩)
      obtain ⟨a, ha, ea⟩ := hf.2.2.1 (4 * x + i) (by omega)
      rw [jFl0 hx (by omega), ea]
      have el : (jT T 1 (T 1 ++ [nI 44]) 1).length = (T 1).length + 1 := by rw [jT_self, List.length_append]; rfl
      refine s_sbIQ h2 (b := 1) (by omega) (by omega) (by omega) (fun t w3 a1 a2 h3 => ?_)
      rw [jT_jT] at h3
      rw [nI_1]
      refine ih (i + 1) _ w3 (by omega) (by omega) (by rw [jT_self]; omega) (by rw [jT_self]; omega) h3 (fun t2 w4 b1 b2 h4 => ?_)
      rw [jT_jT] at h4
      exact k t2 w4 b1 b2 h4
theorem q_renderBlock (h : jRq L R V T w) (h1 : jT1 R) (hf : jTF R) (hS : jTS R) {x : Nat} (hx : gU R x = true) (k : ∀ t w', 3 ≤ t.length → t.length ≤ 200 → jRq L R V (jT T 1 t) w' → P (nI t.length) w') : w_X8_renderBlockZ κ w (L 316) (nI (gN R x)) P := by
  have hx16 := gU_16 hx
  obtain ⟨en, hn⟩ := h1.n hx
  obtain ⟨a, ha, ea⟩ := hS.h hx
  obtain ⟨m, hm, em⟩ := hf.1 x hx16
  unfold w_X8_renderBlockZ w_X8_renderBlockZ_b0
  refine ⟨⟨_, h.lg⟩, s_reqZ h (by rw [h1.slot hx]; exact nI_m1 (by omega)) ((jgR_eq h.lg rfl).mpr ⟨h.sbc (b := 1) (by omega), s_sb0Q h (b := 1) (by omega) (fun w2 h2 => ?_)⟩)⟩
  rw [h1.slot hx]
  have e2 : (jT T 1 [] 1).length = 0 := by rw [jT_self]; rfl
  refine (jgR_eq h2.lg rfl).mpr ⟨h2.sbc (b := 1) (by omega), s_sbIQ h2 (b := 1) (by omega) hn (by omega) (fun t3 w3 a3 b3 h3 => ?_)⟩
  rw [jT_jT] at h3
  refine ⟨h3.sbc (b := 1) (by omega), s_sbCQ (c := 35) h3 (b := 1) (by omega) (by omega) (by rw [jT_self]; omega) (fun w4 h4 => ?_)⟩
  have e4 : (jT (jT T 1 t3) 1 (jT T 1 t3 1 ++ [nI 35]) 1).length = t3.length + 1 := by rw [jT_self, jT_self, List.length_append]; rfl
  refine (jgR_eq h4.lg rfl).mpr ((jgR_eq (h4.st (s := 0) (by omega)) rfl).mpr ⟨⟨_, h4.row (r := 3) (by omega)⟩, s_gq h4 3 (by omega) (by omega) (by omega) ⟨h4.sbc (b := 1) (by omega), ?_⟩⟩)
  rw [jGt_5 (by omega) hx16, ea]
  refine s_sbIQ h4 (b := 1) (by omega) (by omega) (by omega) (fun t5 w5 a5 b5 h5 => ?_)
  rw [jT_jT, jT_jT] at h5
  -- the flakes
  have go : ∀ (t : List Int32) (w6 : va_W), 3 ≤ t.length → t.length ≤ 60 → jRq L R V (jT T 1 t) w6 → w_X8_renderBlockZ_b104 κ w6 (L 316) (nI x) P := by
    intro t w6 l1 l2 h6
    unfold w_X8_renderBlockZ_b104
    refine (jgR_eq h6.lg rfl).mpr ((jgR_eq (h6.st (s := 0) (by omega)) rfl).mpr ⟨⟨_, h6.tab (t := 0) (by omega)⟩, s_sizeQ h6 (t := 0) (by omega) ?_⟩)
    rw [jSz0 hx16, em]
    refine s_bk119 hf hx16 hm em 5 0 _ w6 (by omega) (by omega) (by rw [jT_self]; exact l1) (by rw [jT_self]; omega) h6 (fun t2 w7 b1 b2 h7 => ?_)
    rw [jT_jT] at h7
    exact k t2 w7 b1 b2 h7
  by_cases h0 : x = 0
  · rw [if_pos (show nI x = 0 from by rw [h0]; rfl)]
    exact go t5 w5 (by omega) (by omega) h5
  · rw [if_neg (fun e : nI x = 0 => h0 ((nI_eq (b := 0) (by omega) (by omega)).mp e))]
    obtain ⟨p1, p2, p3, -⟩ := h1.p hx h0
    obtain ⟨pn, pb⟩ := h1.n p3
    obtain ⟨-, ⟨wr, hw, ew⟩⟩ := hS.2 x hx h0
    refine (jgR_eq h5.lg rfl).mpr ⟨h5.sbc (b := 1) (by omega), s_sbCQ (c := 60) h5 (b := 1) (by omega) (by omega) (by rw [jT_self]; omega) (fun w6 h6 => ?_)⟩
    rw [jT_jT, jT_self] at h6
    have e6 : (jT T 1 (t5 ++ [nI 60]) 1).length = t5.length + 1 := by rw [jT_self, List.length_append]; rfl
    refine (jgR_eq h6.lg rfl).mpr ((jgR_eq (h6.st (s := 0) (by omega)) rfl).mpr ((jgR_eq h6.lg rfl).mpr ((jgR_eq (h6.st (s := 0) (by omega)) rfl).mpr ⟨⟨_, h6.row (r := 1) (by omega)⟩, s_gq h6 1 (by omega) (by omega) (by omega) ⟨⟨_, h6.row (r := 0) (by omega)⟩, s_gq h6 0 (by omega) (by omega) (by omega) ⟨h6.sbc (b := 1) (by omega), ?_⟩⟩⟩)))
    rw [h1.g1p hx h0, jGt_5 (by omega) p2, pn]
    refine s_sbIQ h6 (b := 1) (by omega) pb (by omega) (fun t7 w7 a7 b7 h7 => ?_)
    rw [jT_jT] at h7
    refine (jgR_eq h7.lg rfl).mpr ⟨h7.sbc (b := 1) (by omega), s_sbCQ (c := 104) h7 (b := 1) (by omega) (by omega) (by rw [jT_self]; omega) (fun w8 h8 => ?_)⟩
    rw [jT_jT, jT_self] at h8
    have e8 : (jT T 1 (t7 ++ [nI 104]) 1).length = t7.length + 1 := by rw [jT_self, List.length_append]; rfl
    refine (jgR_eq h8.lg rfl).mpr ((jgR_eq (h8.st (s := 0) (by omega)) rfl).mpr ⟨⟨_, h8.row (r := 2) (by omega)⟩, s_gq h8 2 (by omega) (by omega) (by omega) ⟨h8.sbc (b := 1) (by omega), ?_⟩⟩)
    rw [jGt_5 (by omega) hx16, ew]
    refine s_sbIQ h8 (b := 1) (by omega) (by omega) (by omega) (fun t9 w9 a9 b9 h9 => ?_)
    rw [jT_jT] at h9
    exact go t9 w9 (by omega) (by omega) h9
end JRender
