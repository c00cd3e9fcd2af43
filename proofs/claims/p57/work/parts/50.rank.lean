/-! ===== ranks: sums over ranks are sums over slots ===== -/
section GRank
variable {R : Nat → Nat → Int32}
theorem gS_rank {q : Nat → Bool} {rho sl : Nat → Nat} {m : Nat} (h1 : ∀ i, i < m → sl i < 16 ∧ q (sl i) = true ∧ rho (sl i) = i) (h2 : ∀ y, y < 16 → q y = true → rho y < m) (h3 : ∀ y z, y < 16 → z < 16 → q y = true → q z = true → rho y = rho z → y = z) (f : Nat → Nat) : gS (fun i => f (sl i)) m = gS (fun y => gI (q y) * f y) 16 := by
  have e1 : gS (fun i => f (sl i)) m = gS (fun i => gS (fun y => gI (q y && decide (rho y = i)) * f y) 16) m := by
    refine gS_congr m (fun i hi => ?_)
    obtain ⟨g1, g2, g3⟩ := h1 i hi
    rw [gS_one (a := sl i) 16 g1 (fun y hy hne => ?_)]
    · try dsimp only
      rw [g2, g3, decide_eq_true rfl]
      show f (sl i) = gI (true && true) * f (sl i)
      rw [show gI (true && true) = 1 from rfl, Nat.one_mul]
    · try dsimp only
      cases hq : q y with
      | false => rw [Bool.false_and, show gI false = 0 from rfl, Nat.zero_mul]
      | true =>
        by_cases hr : rho y = i
        · exact absurd (h3 y (sl i) hy g1 hq g2 (by rw [hr, g3])) hne
        · rw [decide_eq_false hr, Bool.and_false, show gI false = 0 from rfl, Nat.zero_mul]
  rw [e1, gS_swap]
  refine gS_congr 16 (fun y hy => ?_)
  cases hq : q y with
  | false => rw [gS_none (fun i _ => by rw [Bool.false_and, show gI false = 0 from rfl, Nat.zero_mul]), show gI false = 0 from rfl, Nat.zero_mul]
  | true =>
    rw [gS_one (a := rho y) m (h2 y hy hq) (fun i _ hne => by rw [Bool.true_and, decide_eq_false (fun e => hne e.symm), show gI false = 0 from rfl, Nat.zero_mul])]
    rw [decide_eq_true rfl]; rfl
/-- with a rank below m for each, apart, and as many as ranks: each rank is taken -/
theorem gS_onto {q : Nat → Bool} {rho : Nat → Nat} (h2 : ∀ y, y < 16 → q y = true → rho y < gC q) (h3 : ∀ y z, y < 16 → z < 16 → q y = true → q z = true → rho y = rho z → y = z) : ∀ i, i < gC q → ∃ y, y < 16 ∧ q y = true ∧ rho y = i := by
  have e : gS (fun i => gS (fun y => gI (q y && decide (rho y = i))) 16) (gC q) = gC q := by
    rw [gS_swap]
    refine gS_congr 16 (fun y hy => ?_)
    cases hq : q y with
    | false => rw [gS_none (fun i _ => by rw [Bool.false_and]; rfl)]; rfl
    | true =>
      rw [gS_one (a := rho y) (gC q) (h2 y hy hq) (fun i _ hne => by rw [Bool.true_and, decide_eq_false (fun e => hne e.symm)]; rfl), decide_eq_true rfl]; rfl
  have le1 : ∀ i, i < gC q → gS (fun y => gI (q y && decide (rho y = i))) 16 ≤ 1 := fun i _ => by
    by_cases hex : ∃ y, y < 16 ∧ q y = true ∧ rho y = i
    · obtain ⟨y, g1, g2, g3⟩ := hex
      rw [gS_one (a := y) 16 g1 (fun z hz hne => ?_)]
      · exact gI_le _
      · cases hq : q z with
        | false => rfl
        | true =>
          by_cases hr : rho z = i
          · exact absurd (h3 z y hz g1 hq g2 (by rw [hr, g3])) hne
          · rw [decide_eq_false hr]; rfl
    · rw [gS_none (fun y hy => ?_)]
      · omega
      · cases hq : q y with
        | false => rfl
        | true =>
          by_cases hr : rho y = i
          · exact absurd ⟨y, hy, hq, hr⟩ hex
          · rw [decide_eq_false hr]; rfl
  intro i hi
  have h := gS_full (gC q) le1 e i hi
  by_cases hex : ∃ y, y < 16 ∧ q y = true ∧ rho y = i
  · exact hex
  · rw [gS_none (fun y hy => ?_)] at h
    · omega
    · cases hq : q y with
      | false => rfl
      | true =>
        by_cases hr : rho y = i
        · exact absurd ⟨y, hy, hq, hr⟩ hex
        · rw [decide_eq_false hr]; rfl
/-- how many blocks have lesser numbers -/
def gRho (R : Nat → Nat → Int32) (y : Nat) : Nat := gC (fun z => gU R z && decide (gN R z < gN R y))
theorem jT1.rho_lt (h : jT1 R) {y : Nat} (hy : gU R y = true) : gRho R y < gC (gU R) := by
  unfold gRho
  refine gC_lt (gU_16 hy) (fun i _ hi => ?_) ?_ hy
  · simp only [Bool.and_eq_true] at hi; exact hi.1
  · simp
theorem jT1.rho_mono (h : jT1 R) {y z : Nat} (hy : gU R y = true) (hl : gN R y < gN R z) : gRho R y < gRho R z := by
  unfold gRho
  refine gC_lt (gU_16 hy) (fun i _ hi => ?_) ?_ ?_
  · simp only [Bool.and_eq_true, decide_eq_true_eq] at hi ⊢; exact ⟨hi.1, by omega⟩
  · simp
  · simp [hy, hl]
theorem jT1.rho_inj (h : jT1 R) {y z : Nat} (hy : gU R y = true) (hz : gU R z = true) (e : gRho R y = gRho R z) : y = z := by
  refine h.tree.2.2.2 y z hy hz ?_
  rcases Nat.lt_trichotomy (gN R y) (gN R z) with g | g | g
  · have := h.rho_mono hy g; omega
  · exact g
  · have := h.rho_mono hz g; omega
theorem jT1.slotE (h : jT1 R) {b : Nat} (hb : b < 2 ^ 31) : (jSlotOf R 0 (nI b) = -1 ↔ ∀ y, gU R y = true → gN R y ≠ b) := by
  rcases h.slot_c (nI b) with ⟨x, h1, h2, h3⟩ | ⟨h1, h2⟩
  · rw [h3]
    have := gU_16 h1
    refine ⟨fun e => absurd e (nI_m1 (by omega)), fun g => absurd ((nI_eq hb (h.n h1).2).mp h2).symm (g x h1)⟩
  · refine ⟨fun _ y hy e => h1 y hy (by rw [e]), fun _ => h2⟩
/-- the block at a rank, by counting -/
theorem jT1.baL (h : jT1 R) {nx : Nat} (hnx : nx < 2 ^ 30) (hb : ∀ i, gU R i = true → gN R i ≤ nx) : ∀ n l b, b ≤ nx + 1 → nx + 1 ≤ b + n → l < gC (fun z => gU R z && decide (b ≤ gN R z)) → ∃ y, gU R y = true ∧ jBa R n (nI l) b = some (gN R y) ∧ gC (fun z => gU R z && decide (b ≤ gN R z) && decide (gN R z < gN R y)) = l := by
  intro n
  induction n with
  | zero =>
    intro l b h1 h2 h3
    exfalso
    have : gC (fun z => gU R z && decide (b ≤ gN R z)) = 0 := gS_none (fun i _ => by
      try dsimp only
      cases hu : gU R i with
      | false => rfl
      | true => have := hb i hu; rw [decide_eq_false (by omega)]; rfl)
    omega
  | succ n ih =>
    intro l b h1 h2 h3
    rw [jBa]
    by_cases hex : ∃ y, gU R y = true ∧ gN R y = b
    · obtain ⟨y, hy, ey⟩ := hex
      have hslot : ¬ jSlotOf R 0 (nI b) = -1 := fun e => (h.slotE (by omega)).mp e y hy ey
      have hy16 := gU_16 hy
      -- one less from here on
      have hc : ∀ r : Nat → Bool, gC (fun z => gU R z && decide (b ≤ gN R z) && r z) = gC (fun z => gU R z && decide (b + 1 ≤ gN R z) && r z) + gI (r y) := fun r => by
        have : gC (fun z => gU R z && decide (b ≤ gN R z) && r z) = gS (fun z => gI (gU R z && decide (b + 1 ≤ gN R z) && r z) + (if z = y then gI (r y) else 0)) 16 := gS_congr 16 (fun z _ => by
          try dsimp only
          by_cases hzy : z = y
          · subst hzy
            rw [hy, decide_eq_true (show b ≤ gN R z by omega), decide_eq_false (show ¬ b + 1 ≤ gN R z by omega), if_pos rfl, Bool.true_and, Bool.true_and, Bool.true_and, Bool.false_and, show gI false = 0 from rfl, Nat.zero_add]
          · rw [if_neg hzy, Nat.add_zero]
            cases hu : gU R z with
            | false => rfl
            | true =>
              have hne : gN R z ≠ b := fun e => hzy (h.tree.2.2.2 z y hu hy (by rw [e, ey]))
              by_cases hb1 : b ≤ gN R z
              · rw [decide_eq_true hb1, decide_eq_true (show b + 1 ≤ gN R z by omega)]
              · rw [decide_eq_false hb1, decide_eq_false (show ¬ b + 1 ≤ gN R z by omega)])
        rw [this, gS_add, gS_one (f := fun z => if z = y then gI (r y) else 0) 16 hy16 (fun z _ hz => by (try dsimp only); rw [if_neg hz])]
        try dsimp only
        rw [if_pos rfl]; rfl
      by_cases hl : l = 0
      · subst hl
        rw [if_neg (fun e => e.elim (fun g => absurd g (by decide)) hslot)]
        refine ⟨y, hy, by rw [ey], gS_none (fun z _ => ?_)⟩
        rw [ey]
        try dsimp only
        by_cases hb1 : b ≤ gN R z
        · rw [decide_eq_false (show ¬ gN R z < b by omega), Bool.and_false]; rfl
        · rw [decide_eq_false hb1, Bool.and_false, Bool.false_and]; rfl
      · have hl16 : l < 16 := by have := gC_16 (fun z => gU R z && decide (b ≤ gN R z)); omega
        rw [if_pos (Or.inl (show 0 < nI l from (nI_ltI (a := 0) (b := l) (by omega) (by omega)).mpr (by omega))), if_neg hslot, show nI l - 1 = nI (l - 1) from nI_sub (b := 1) (by omega)]
        have hh := hc (fun _ => true)
        simp only [Bool.and_true] at hh
        rw [show gI true = 1 from rfl] at hh
        obtain ⟨y2, k1, k2, k3⟩ := ih (l - 1) (b + 1) (by have := hb y hy; omega) (by omega) (by omega)
        refine ⟨y2, k1, k2, ?_⟩
        rw [hc (fun z => decide (gN R z < gN R y2)), k3]
        have : gN R y < gN R y2 := by
          rcases Nat.lt_or_ge (gN R y) (gN R y2) with g | g
          · exact g
          · exfalso
            -- then nothing stands between, and y2 is no later than b
            have hz : gN R y2 ≤ b := by omega
            have hne : jBa R n (nI (l - 1)) (b + 1) = some (gN R y2) := k2
            have mono : ∀ n l b c, jBa R n l b = some c → b ≤ c := by
              intro n
              induction n with
              | zero => intro l b c e; cases e
              | succ n ih2 =>
                intro l b c e
                rw [jBa] at e
                split at e
                · have := ih2 _ _ _ e; omega
                · cases e; exact Nat.le_refl _
            have := mono _ _ _ _ hne
            omega
        rw [decide_eq_true this, show gI true = 1 from rfl]; omega
    · have hslot : jSlotOf R 0 (nI b) = -1 := (h.slotE (by omega)).mpr (fun y hy e => hex ⟨y, hy, e⟩)
      have hc : ∀ z, gU R z = true → (b ≤ gN R z ↔ b + 1 ≤ gN R z) := fun z hz => by
        have : gN R z ≠ b := fun e => hex ⟨z, hz, e⟩
        omega
      have hf : ∀ z, (gU R z && decide (b ≤ gN R z)) = (gU R z && decide (b + 1 ≤ gN R z)) := fun z => by
        cases hu : gU R z with
        | false => rfl
        | true =>
          have := hc z hu
          by_cases hb1 : b ≤ gN R z
          · rw [decide_eq_true hb1, decide_eq_true (this.mp hb1)]
          · rw [decide_eq_false hb1, decide_eq_false (fun g => hb1 (this.mpr g))]
      rw [if_pos (Or.inr hslot), if_pos hslot, show nI l - 0 = nI l from Int32.sub_zero _]
      simp only [hf] at h3 ⊢
      have hle : b ≤ nx := by
        rcases Nat.lt_or_ge nx b with g | g
        · exfalso
          have : gC (fun z => gU R z && decide (b + 1 ≤ gN R z)) = 0 := gS_none (fun i _ => by
            try dsimp only
            cases hu : gU R i with
            | false => rfl
            | true => have := hb i hu; rw [decide_eq_false (by omega)]; rfl)
          omega
        · exact g
      exact ih l (b + 1) (by omega) (by omega) h3
theorem jT1.ba (h : jT1 R) {nx : Nat} (hnx : nx < 19000) (hb : ∀ i, gU R i = true → gN R i ≤ nx) {i : Nat} (hi : i < gC (gU R)) : ∃ y, gU R y = true ∧ jBa R 20000 (nI i) 0 = some (gN R y) ∧ gRho R y = i := by
  have e0 : gC (fun z => gU R z && decide (0 ≤ gN R z)) = gC (gU R) := gC_congr (fun z _ => by simp)
  obtain ⟨y, g1, g2, g3⟩ := h.baL (by omega) hb 20000 i 0 (by omega) (by omega) (by rw [e0]; exact hi)
  refine ⟨y, g1, g2, ?_⟩
  rw [← g3]
  exact gC_congr (fun z _ => by simp)
/-- the slot of the block at a rank, and its number -/
def gSl (R : Nat → Nat → Int32) (i : Nat) : Nat := (jSlotOf R 0 (nI ((jBa R 20000 (nI i) 0).getD 0))).toNatClampNeg
theorem jT1.sl (h : jT1 R) {nx : Nat} (hnx : nx < 19000) (hb : ∀ i, gU R i = true → gN R i ≤ nx) {i : Nat} (hi : i < gC (gU R)) : gU R (gSl R i) = true ∧ jBa R 20000 (nI i) 0 = some (gN R (gSl R i)) ∧ gRho R (gSl R i) = i := by
  obtain ⟨y, g1, g2, g3⟩ := h.ba hnx hb hi
  have e : gSl R i = y := by
    unfold gSl
    rw [g2]
    show (jSlotOf R 0 (nI (gN R y))).toNatClampNeg = y
    rw [h.slot g1, nI_clamp (by have := gU_16 g1; omega)]
  rw [e]; exact ⟨g1, g2, g3⟩
/-- a sum over the ranks of all blocks -/
theorem jT1.sums (h : jT1 R) {nx : Nat} (hnx : nx < 19000) (hb : ∀ i, gU R i = true → gN R i ≤ nx) (f : Nat → Nat) : gS (fun i => f (gSl R i)) (gC (gU R)) = gS (fun y => gI (gU R y) * f y) 16 := by
  refine gS_rank (rho := gRho R) (fun i hi => ?_) (fun y _ hq => h.rho_lt hq) (fun y z _ _ hy hz e => h.rho_inj hy hz e) f
  obtain ⟨g1, -, g3⟩ := h.sl hnx hb hi
  exact ⟨gU_16 g1, g1, g3⟩
end GRank
