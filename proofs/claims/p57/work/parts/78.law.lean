/-! ===== the law, from the object made ===== -/
section JLaw
variable {κ : Nat → Nat} {L : Nat → Nat} {R R' : Nat → Nat → Int32} {V V' : Nat → Int32} {w : va_W} {B : Nat} {P : Int32 → va_W → Prop}
/-- the snapshot is S, U -/
def gSn1 (R : Nat → Nat → Int32) (V : Nat → Int32) (S : Nat → Nat → Int32) (U : Nat → Int32) : Prop := gEq (jSh R 1) (jSv V 1) S U ∧ ¬ V 46 = 0
theorem gSn1.fr {S : Nat → Nat → Int32} {U : Nat → Int32} (h : gSn1 R V S U) (f : gFr R V R' V') : gSn1 R' V' S U := by
  refine ⟨gEq.tr ⟨fun k hk => ?_, fun i hi => ?_⟩ h.1, by rw [f.2.2]; exact h.2⟩
  · exact f.1 k hk
  · exact f.2.1 i hi
theorem l_314 {R0 : Nat → Nat → Int32} {V0 : Nat → Int32} (h : jK L R V w) (hi : jInv R V B) (hB : B < 19000) (hs : gSn1 R V R0 V0) (hb0 : jTree R0 V0 B) (k : ∀ w', P 1 w') : w_L_law_b314 κ w (L 316) (jDg R0 V0) (nI (gC (gU R0))) 1 P := by
  obtain ⟨T, t0, t3, h⟩ := h
  unfold w_L_law_b314
  rw [if_neg (by decide)]
  refine u_restore h hi (fun e => absurd e hs.2) (fun _ R' V' v w' h1 i1 e1 ev e45 => ?_)
  have e2 := e1.tr hs.1
  rw [ev, gU_e hs.1.r, if_pos rfl]
  refine l_digest h1 i1.t0 (by omega) (fun w2 h2 => ?_)
  rw [jDg_e e2, lg_cmp_self, if_pos rfl]
  refine u_undo h2 i1 (fun _ => ?_) (fun g => absurd e45 g)
  rw [if_pos rfl]
  unfold w_L_law_b352
  exact ⟨rfl, k _⟩
theorem l_255 {R0 : Nat → Nat → Int32} {V0 : Nat → Int32} (h : jK L R V w) (hi : jInv R V B) (hB : B + 1 < 19000) (hκ : jEn κ) (hs : gSn1 R V R0 V0) (hb0 : jTree R0 V0 B) (k : ∀ w', P 1 w') : w_L_law_b255 κ w (L 316) 1 (jDg R0 V0) (nI (gC (gU R0))) P := by
  obtain ⟨T, t0, t3, h⟩ := h
  have ht := hi.t0
  obtain ⟨hc, h4, e0, -⟩ := ht.2.2.2.2
  unfold w_L_law_b255
  -- from the writing on
  have go : ∀ (R1 : Nat → Nat → Int32) (V1 : Nat → Int32) (w1 : va_W), jRq L R1 V1 T w1 → jInv R1 V1 B → gSn1 R1 V1 R0 V0 → (jfAppend R1 V1 (nI 0) = 2 → ∃ m, m < 4 ∧ R1 9 0 = nI (m + 1)) → w_L_writeBlock κ w1 (L 316) 0 (fun v2 w2 => (if (1 : Int32) = 0 then w_L_law_b313 κ w2 (L 316) (jDg R0 V0) (nI (gC (gU R0))) P else (if v2 = (-100000000) then w_L_law_b309 κ w2 (L 316) (jDg R0 V0) (nI (gC (gU R0))) P else w_L_replaceFlake κ w2 (L 316) v2 0 43 (fun v3 w3 => (if v3 < 0 then w_L_law_b313 κ w3 (L 316) (jDg R0 V0) (nI (gC (gU R0))) P else w_L_areBlocks κ w3 (L 316) (fun v4 w4 => (if v4 = 0 then w_L_law_b313 κ w4 (L 316) (jDg R0 V0) (nI (gC (gU R0))) P else w_L_isRepaired κ w4 (L 316) v2 (fun v5 w5 => (if v5 = 0 then w_L_law_b313 κ w5 (L 316) (jDg R0 V0) (nI (gC (gU R0))) P else w_L_law_b309 κ w5 (L 316) (jDg R0 V0) (nI (gC (gU R0))) P))))))))) := by
    intro R1 V1 w1 h1 i1 s1 hm
    refine u_write9 (a := 0) h1 i1 (by omega) hκ (by omega) (fun _ w2 h2 => ?_) (fun ef R2 V2 w2 f h2 i2 o2 uf e5 => ?_)
    · rw [if_neg (by decide), if_pos rfl]
      unfold w_L_law_b309
      exact l_314 ⟨T, t0, t3, h2⟩ i1 (by omega) s1 hb0 k
    · obtain ⟨m, hm4, em⟩ := hm ef
      have t2 := i2.t0
      have f16 := gU_16 uf
      have hnf := (t2.1.n uf).2
      have hsf := t2.1.slot uf
      rw [if_neg (by decide), if_neg (fun e => nI_pos hnf (by rw [e]; decide))]
      have hsw : jfSwap R2 (nI (gN R2 f)) 0 43 = 2 := by
        unfold jfSwap
        rw [hsf, if_neg (nI_m1 (by omega)), jSz0 f16, e5, em]
        have hd : decide (¬ (0 : Int32) < 0 ∧ ¬ nI (m + 1) ≤ 0) = true := by
          refine decide_eq_true ⟨by decide, fun e => ?_⟩
          have := (nI_leI (a := m + 1) (b := 0) (by omega) (by omega)).mp e
          omega
        rw [if_neg (by rw [hd]; decide), if_neg (by decide)]
      refine u_replace6 h2 i2 hκ hsw (fun R3 V3 v w3 h3 i3 o3 u3 n3 hv => ?_)
      rw [if_neg hv]
      refine l_areBlocks ⟨T, t0, t3, h3⟩ i3.t0 (by omega) (fun w4 h4 => ?_)
      rw [if_neg (by decide), ← n3]
      refine l_isRepaired h4 i3 (by omega) hκ (by rw [u3]; exact uf) (fun R5 V5 w5 h5 i5 e5 f5 => ?_)
      rw [if_neg (by decide)]
      unfold w_L_law_b309
      exact l_314 h5 i5 (by omega) (((s1.fr o2.1).fr o3.1).fr f5) (hb0.mono (by omega)) k
  refine u_collect9 (a := 0) h hi hκ (fun hf => ?_) (fun R1 V1 v w1 m h1 i1 o1 hm e9 hv => ?_) (by omega)
  · refine go R V w h hi hs (fun ef => ?_)
    obtain ⟨m, hm, em, es⟩ := jSz1_of ht.2.1 (show 0 < 4 by omega)
    have hh : decide (¬ nI 0 < 0 ∧ ¬ V 0 ≤ nI 0) = true := by
      unfold jfAppend at ef
      by_cases g1 : decide (¬ nI 0 < 0 ∧ ¬ V 0 ≤ nI 0) = false
      · rw [if_pos g1] at ef; omega
      · simpa using g1
    have hm4 : m = 4 := by
      rcases Nat.lt_or_ge m 4 with g | g
      · exfalso
        apply hf
        unfold jfHold
        rw [if_neg (by rw [hh]; decide), if_neg (by decide), es, if_neg (fun e : (4 : Int32) ≤ nI m => by have := (nI_leI (a := 4) (by omega) (by omega)).mp e; omega)]
      · omega
    exact ⟨3, by omega, by rw [em, hm4]⟩
  · exact go R1 V1 w1 h1 i1 (hs.fr o1.1) (fun _ => ⟨m, hm, e9⟩)
theorem l_181 {R0 : Nat → Nat → Int32} {V0 : Nat → Int32} {B0 : Nat} (hB : B0 + 1300 < 19000) (hκ : jEn κ) (hb0 : jTree R0 V0 B0) (k : ∀ w', P 1 w') : ∀ (n i : Nat) (R : Nat → Nat → Int32) (V : Nat → Int32) (w : va_W), i ≤ 20 → 20 < n + i → jK L R V w → jInv R V (B0 + 60 * i) → gEq R V R0 V0 → gSn1 R V R0 V0 → w_L_law_b181 n κ w (L 316) 1 (jDg R0 V0) (nI (gC (gU R0))) (nI i) P := by
  intro n
  induction n with
  | zero => intro i R V w a b; omega
  | succ n ih =>
    intro i R V w a b hK hi he hs
    rw [w_L_law_b181, if_neg (by decide)]
    by_cases hin : i = 20
    · rw [if_pos (show (20 : Int32) ≤ nI i from (nI_leI (a := 20) (by omega) (by omega)).mpr (by omega))]
      exact l_255 hK hi (by omega) hκ hs (hb0.mono (by omega)) k
    · rw [if_neg (fun e : (20 : Int32) ≤ nI i => hin (by have := (nI_leI (a := 20) (by omega) (by omega)).mp e; omega))]
      obtain ⟨T, t0, t3, h⟩ := hK
      -- the digest is the same, then on
      have nxt : ∀ (R1 : Nat → Nat → Int32) (V1 : Nat → Int32) (T1 : Nat → List Int32) (w1 : va_W), jRq L R1 V1 T1 w1 → T1 0 = [] → T1 3 = [] → jInv R1 V1 (B0 + 60 * i + 60) → gEq R1 V1 R0 V0 → gSn1 R1 V1 R0 V0 → w_L_law_b233 κ w1 (L 316) (jDg R0 V0) (nI (gC (gU R0))) (nI i) (fun w_ z_a1 z_x3 z_l4 z_x6 z_x7 => w_L_law_b181 n κ w_ z_a1 z_x3 z_l4 z_x6 z_x7 P) P := by
        intro R1 V1 T1 w1 h1 u0 u3 i1 e1 s1
        unfold w_L_law_b233
        refine l_digest h1 i1.t0 (by omega) (fun w2 h2 => ?_)
        rw [jDg_e e1, lg_cmp_self, if_pos rfl]
        unfold w_L_law_b248
        rw [nI_1]
        exact ih (i + 1) R1 V1 w2 (by omega) (by omega) ⟨T1, u0, u3, h2⟩ (by rw [show B0 + 60 * (i + 1) = B0 + 60 * i + 60 by omega]; exact i1) e1 s1
      refine u_scr h t0 hi (by omega) hκ rfl (show i < 20 by omega) (fun R1 V1 T1 w1 h1 u i1 f1 b1 e1 hv => ?_) (fun R1 V1 T1 v w1 h1 u i1 o1 hv => ?_)
      · rw [if_pos rfl]
        refine l_failedCommand h1 ?_
        rw [if_neg (fun e : V1 48 = -1 => hv (by rw [e]; decide)), if_neg hv]
        exact nxt R1 V1 T1 w1 h1 u.1 (u.2.trans t3) i1 (e1.tr he) (hs.fr f1)
      · rw [if_neg (fun e : v = -100000000 => hv (by rw [e]; decide))]
        have hb := o1.2 0 R V (by omega) (gBk.z hi)
        obtain ⟨j, hj, hjv⟩ := i1.j
        refine u_undo h1 i1 (fun e => absurd e (hb.back (by omega) hj hjv).1) (fun _ R2 V2 v2 w2 h2 i2 f2 b2 hv2 => ?_)
        rw [if_neg hv2]
        exact nxt R2 V2 T1 w2 h2 u.1 (u.2.trans t3) i2 ((b2 0 R V (by omega) hb).at0.tr he) ((hs.fr o1.1).fr f2)
theorem s_cell {Ln : Nat} (hL : κ 200 = Ln) (hLn : Ln < 65536) {i : Nat} {P : Int32 → va_W → Prop} (k : ∀ v, P v w) : w_L_cell κ w 9 (nI i) P := by
  unfold w_L_cell w_L_cell_b0 w_L_cell_b22
  refine ⟨rfl, ?_⟩
  rw [hL]
  by_cases h0 : Int32.ofNat Ln = 0
  · rw [if_pos h0]; exact k _
  · rw [if_neg h0]
    have hp : 0 < Ln := by
      rcases Nat.eq_zero_or_pos Ln with g | g
      · subst g; exact absurd rfl h0
      · exact g
    obtain ⟨a, ha, ea⟩ := rem_in hp hLn (nI i)
    refine ⟨rfl, h0, rfl, ?_, k _⟩
    rw [show Int32.ofNat Ln = nI Ln from rfl, ea]
    exact nI_in ha (by omega)
theorem l_113 {Ln N : Nat} (hL : κ 200 = Ln) (hLn : Ln < 65536) (hκ : jEn κ) (hN : N ≤ 30) {B0 : Nat} (hB : B0 ≤ 100) (k : ∀ w', P 1 w') : ∀ (n i : Nat) (R : Nat → Nat → Int32) (V : Nat → Int32) (w : va_W), i ≤ N → N < n + i → jK L R V w → jInv R V (B0 + 60 * i) → w_L_law_b113 n κ w 9 (L 316) (nI N) (nI i) P := by
  intro n
  induction n with
  | zero => intro i R V w a b; omega
  | succ n ih =>
    intro i R V w a b hK hi
    rw [w_L_law_b113]
    by_cases hin : i = N
    · rw [if_pos ((nI_leI (by omega) (by omega)).mpr (by omega))]
      refine l_isFit hK hi (by omega) hκ (fun R1 V1 w1 h1 i1 _ _ => ?_)
      obtain ⟨T1, t0, t3, h1⟩ := h1
      -- save, and the scripts
      have go : ∀ (R2 : Nat → Nat → Int32) (V2 : Nat → Int32) (w2 : va_W), jRq L R2 V2 (jT T1 0 []) w2 → jInv R2 V2 (B0 + 60 * i + 4 + 60) → w_L_digest κ w2 (L 316) (fun v3 w3 => (jRc w3 (L 316) 11 ∧ w_X8_save κ w3 (L 316) (fun v4 w4 => w_L_law_b181 21 κ w4 (L 316) 1 v3 v4 0 P))) := by
        intro R2 V2 w2 h2 i2
        have u0 : (jT T1 0 []) 0 = [] := jT_self
        have u3 : (jT T1 0 []) 3 = [] := (jT_ne (by omega)).trans t3
        refine l_digest h2 i2.t0 (by omega) (fun w3 h3 => ⟨⟨_, h3.lg⟩, u_save h3 i2 (fun R4 V4 v w4 h4 i4 e4 ev e46 es => ?_)⟩)
        rw [ev]
        exact l_181 (B0 := B0 + 60 * i + 4 + 60) (by omega) hκ i2.t0 k 21 0 R4 V4 w4 (by omega) (by omega) ⟨_, u0, u3, h4⟩ (by rw [Nat.mul_zero, Nat.add_zero]; exact i4) e4 ⟨es, e46⟩
      refine u_runScript h1 i1 (by omega) hκ (by rw [t0]; exact ⟨Nat.zero_le _, fun i hi => absurd hi (Nat.not_lt_zero _)⟩) (fun R2 V2 w2 h2 i2 _ _ _ _ => go R2 V2 w2 h2 i2) (fun R2 V2 v w2 h2 i2 _ _ => go R2 V2 w2 h2 i2)
    · rw [if_neg (fun e => hin (by have := (nI_leI (by omega) (by omega)).mp e; omega))]
      obtain ⟨T, t0, t3, h⟩ := hK
      refine l_digest h hi.t0 (by omega) (fun w1 h1 => s_cell hL hLn (fun c => ?_))
      refine u_act h1 t0 hi (by omega) hκ (fun R2 V2 T2 v w2 h2 u i2 ef => ?_)
      have nxt : ∀ w3, jRq L R2 V2 T2 w3 → w_L_law_b150 κ w3 9 (L 316) (nI N) (nI i) (fun w_ z_c0 z_a1 z_x2 z_x3 => w_L_law_b113 n κ w_ z_c0 z_a1 z_x2 z_x3 P) P := fun w3 h3 => by
        unfold w_L_law_b150
        rw [nI_1]
        exact ih (i + 1) R2 V2 w3 (by omega) (by omega) ⟨T2, u.1, u.2.trans t3, h3⟩ (by rw [show B0 + 60 * (i + 1) = B0 + 60 * i + 60 by omega]; exact i2)
      by_cases hv : v = -100000000
      · rw [if_pos hv]
        refine l_digest h2 i2.t0 (by omega) (fun w3 h3 => ?_)
        rw [jDg_e (ef hv), lg_cmp_self, if_pos rfl]
        exact nxt w3 h3
      · rw [if_neg hv]
        exact nxt w2 h2
theorem l_10 {Ln : Nat} (hL : κ 200 = Ln) (hLn : Ln < 65536) (hκ : jEn κ) (k : ∀ w', P 1 w') : ∀ (n i : Nat) (R : Nat → Nat → Int32) (V : Nat → Int32) (w : va_W), i ≤ 3 → 3 < n + i → jK L R V w → jInv R V (10 * i) → w_L_law_b10 n κ w 9 (L 316) (nI i) P := by
  intro n
  induction n with
  | zero => intro i R V w a b; omega
  | succ n ih =>
    intro i R V w a b hK hi
    obtain ⟨T, t0, t3, h⟩ := hK
    rw [w_L_law_b10]
    by_cases hin : i = 3
    · rw [if_pos (show (3 : Int32) ≤ nI i from (nI_leI (a := 3) (by omega) (by omega)).mpr (by omega))]
      have go : ∀ (R1 : Nat → Nat → Int32) (V1 : Nat → Int32) (w1 : va_W), jRq L R1 V1 T w1 → jInv R1 V1 (10 * i) → (9 = 9 ∧ (if 30 ≤ (Int32.ofNat (κ 200)) then w_L_law_b110 κ w1 9 (L 316) 30 P else (9 = 9 ∧ w_L_law_b110 κ w1 9 (L 316) (Int32.ofNat (κ 200)) P))) := by
        intro R1 V1 w1 h1 i1
        refine ⟨rfl, ?_⟩
        rw [hL, show Int32.ofNat Ln = nI Ln from rfl]
        unfold w_L_law_b110
        by_cases h30 : 30 ≤ Ln
        · rw [if_pos (show (30 : Int32) ≤ nI Ln from (nI_leI (a := 30) (by omega) (by omega)).mpr h30)]
          exact l_113 hL hLn hκ (N := 30) (by omega) (B0 := 10 * i) (by omega) k 31 0 R1 V1 w1 (by omega) (by omega) ⟨T, t0, t3, h1⟩ (by rw [Nat.mul_zero, Nat.add_zero]; exact i1)
        · rw [if_neg (fun e : (30 : Int32) ≤ nI Ln => h30 ((nI_leI (a := 30) (by omega) (by omega)).mp e))]
          exact ⟨rfl, l_113 hL hLn hκ (N := Ln) (by omega) (B0 := 10 * i) (by omega) k 31 0 R1 V1 w1 (by omega) (by omega) ⟨T, t0, t3, h1⟩ (by rw [Nat.mul_zero, Nat.add_zero]; exact i1)⟩
      exact u_follow h hi hκ (go R V w h hi) (fun R1 V1 v w1 h1 i1 _ _ => go R1 V1 w1 h1 i1)
    · rw [if_neg (fun e : (3 : Int32) ≤ nI i => hin (by have := (nI_leI (a := 3) (by omega) (by omega)).mp e; omega))]
      have cl : ∀ (w1 : va_W) (p : Nat) (Q : Int32 → va_W → Prop), (∀ v, Q v w1) → w_L_cell κ w1 9 (nI p) Q := fun w1 p Q kq => s_cell hL hLn kq
      have co : ∀ (R1 : Nat → Nat → Int32) (V1 : Nat → Int32) (w1 : va_W) (y : Int32) (Bc : Nat) (Q : Int32 → va_W → Prop), jRq L R1 V1 T w1 → jInv R1 V1 Bc → (∀ R2 V2 v w2, jRq L R2 V2 T w2 → jInv R2 V2 Bc → Q v w2) → w_L_collect κ w1 (L 316) (nI i) y Q := fun R1 V1 w1 y Bc Q h1 i1 kq => u_collect h1 i1 hκ (fun _ => kq R1 V1 _ w1 h1 i1) (fun R2 V2 v w2 h2 i2 _ _ => kq R2 V2 v w2 h2 i2)
      have wr : ∀ (R1 : Nat → Nat → Int32) (V1 : Nat → Int32) (w1 : va_W) (Bc : Nat) (Q : Int32 → va_W → Prop), Bc < 100 → jRq L R1 V1 T w1 → jInv R1 V1 Bc → (∀ R2 V2 v w2, jRq L R2 V2 T w2 → jInv R2 V2 (Bc + 1) → Q v w2) → w_L_writeBlock κ w1 (L 316) (nI i) Q := fun R1 V1 w1 Bc Q hBc h1 i1 kq => u_write h1 i1 (by omega) hκ (fun _ w2 h2 => kq R1 V1 _ w2 h2 (i1.mono (by omega))) (fun _ R2 V2 v w2 h2 i2 _ _ => kq R2 V2 v w2 h2 i2)
      have ad : ∀ (Q : Int32 → va_W → Prop), (∀ R2 V2 v w2, jRq L R2 V2 T w2 → jInv R2 V2 (10 * i) → Q v w2) → w_L_addHill κ w (L 316) Q := fun Q kq => u_addHill h hi hκ (kq R V _ w h hi) (fun R2 V2 v w2 h2 i2 _ _ => kq R2 V2 v w2 h2 i2)
      refine ad _ (fun Ra Va va wa ha ia => cl wa i _ (fun c1 => co Ra Va wa _ _ _ ha ia (fun Rb Vb vb wb hb ib => cl wb i _ (fun c2 => co Rb Vb wb _ _ _ hb ib (fun Rc Vc vc wc hc ic => wr Rc Vc wc _ _ (by omega) hc ic (fun Rd Vd vd wd hd id => ?_))))))
      rw [nI_1]
      refine cl wd (i + 1) _ (fun c3 => co Rd Vd wd _ _ _ hd id (fun Re Ve ve we he ie => wr Re Ve we _ _ (by omega) he ie (fun Rf Vf vf wf hf jf => ?_)))
      exact ih (i + 1) Rf Vf wf (by omega) (by omega) ⟨T, t0, t3, hf⟩ (jf.mono (by omega))
end JLaw
