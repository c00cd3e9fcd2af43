/-! ===== tips, their order, their ranks ===== -/
def gT (R : Nat → Nat → Int32) (i : Nat) : Bool := jTip R (nI i)
def gHs (R : Nat → Nat → Int32) (i : Nat) : Nat := (R 3 i).toNatClampNeg
def gRk (R : Nat → Nat → Int32) (x y : Nat) : Bool := decide (gD (gP R) y < gD (gP R) x) || (decide (gD (gP R) x = gD (gP R) y) && (decide (gHs R x < gHs R y) || (decide (gHs R x = gHs R y) && decide (gN R x < gN R y))))
def gTau (R : Nat → Nat → Int32) (y : Nat) : Nat := gC (fun z => gT R z && gRk R z y)
section GTips
variable {R : Nat → Nat → Int32}
theorem jTS.hn (h : jTS R) {i : Nat} (hi : gU R i = true) : R 3 i = nI (gHs R i) ∧ gHs R i < 9976 := by
  obtain ⟨a, ha, e⟩ := h.h hi
  unfold gHs
  rw [e, nI_clamp (by omega)]; exact ⟨rfl, ha⟩
theorem jT1.rkN (h : jT1 R) (hs : jTS R) {x y : Nat} (hx : gU R x = true) (hy : gU R y = true) : jRk R (nI x) (nI y) = gRk R x y := by
  have x16 := gU_16 hx
  have y16 := gU_16 hy
  have dx := h.tree.d_le hx
  have dy := h.tree.d_le hy
  obtain ⟨ex, bx⟩ := hs.hn hx
  obtain ⟨ey, by9⟩ := hs.hn hy
  obtain ⟨nx, mx⟩ := h.n hx
  obtain ⟨ny, my⟩ := h.n hy
  unfold jRk gRk
  rw [h.hgt hx, h.hgt hy, jGt_5 (k := 3) (by omega) x16, jGt_5 (k := 3) (by omega) y16, jGt_5 (k := 0) (by omega) x16, jGt_5 (k := 0) (by omega) y16, ex, ey, nx, ny]
  simp only [nI_eq (show gD (gP R) x < 2 ^ 31 by omega) (show gD (gP R) y < 2 ^ 31 by omega), nI_leI (show gD (gP R) x < 2 ^ 31 by omega) (show gD (gP R) y < 2 ^ 31 by omega), nI_eq (show gHs R x < 2 ^ 31 by omega) (show gHs R y < 2 ^ 31 by omega), nI_leI (show gHs R y < 2 ^ 31 by omega) (show gHs R x < 2 ^ 31 by omega), nI_leI my mx]
  by_cases h1 : gD (gP R) x = gD (gP R) y
  · rw [if_pos h1, h1, decide_eq_false (Nat.lt_irrefl _), decide_eq_true rfl]
    by_cases h2 : gHs R x = gHs R y
    · rw [if_pos h2, h2, decide_eq_false (Nat.lt_irrefl (gHs R y)), decide_eq_true rfl]
      by_cases h3 : gN R y ≤ gN R x
      · rw [decide_eq_true h3, decide_eq_false (show ¬ gN R x < gN R y by omega)]; rfl
      · rw [decide_eq_false h3, decide_eq_true (show gN R x < gN R y by omega)]; rfl
    · rw [if_neg h2, decide_eq_false h2]
      by_cases h3 : gHs R y ≤ gHs R x
      · rw [decide_eq_true h3, decide_eq_false (show ¬ gHs R x < gHs R y by omega)]; rfl
      · rw [decide_eq_false h3, decide_eq_true (show gHs R x < gHs R y by omega)]; rfl
  · rw [if_neg h1, decide_eq_false h1]
    by_cases h3 : gD (gP R) x ≤ gD (gP R) y
    · rw [decide_eq_true h3, decide_eq_false (show ¬ gD (gP R) y < gD (gP R) x by omega)]; rfl
    · rw [decide_eq_false h3, decide_eq_true (show gD (gP R) y < gD (gP R) x by omega)]; rfl
theorem gRk_iff {x y : Nat} : gRk R x y = true ↔ (gD (gP R) y < gD (gP R) x ∨ gD (gP R) x = gD (gP R) y ∧ (gHs R x < gHs R y ∨ gHs R x = gHs R y ∧ gN R x < gN R y)) := by
  unfold gRk
  simp only [Bool.or_eq_true, Bool.and_eq_true, decide_eq_true_eq]
theorem gRk_ir {x : Nat} : gRk R x x = false := by
  cases hr : gRk R x x with
  | false => rfl
  | true => rw [gRk_iff] at hr; omega
theorem gRk_tr {x y z : Nat} (h1 : gRk R x y = true) (h2 : gRk R y z = true) : gRk R x z = true := by
  rw [gRk_iff] at *; omega
theorem jT1.rk_tot (h : jT1 R) {x y : Nat} (hx : gU R x = true) (hy : gU R y = true) (hxy : x ≠ y) : gRk R x y = true ∨ gRk R y x = true := by
  have hn : gN R x ≠ gN R y := fun e => hxy (h.tree.2.2.2 x y hx hy e)
  rw [gRk_iff, gRk_iff]; omega
theorem gT_u {i : Nat} (hi : i < 16) (h : gT R i = true) : gU R i = true := by
  unfold gT jTip at h
  rw [Bool.and_eq_true, jUsed_g hi] at h
  exact h.1
theorem jT1.gT_k (h : jT1 R) {i : Nat} (hi : gU R i = true) : gT R i = decide (jKid R (nI i) = 0) := by
  unfold gT jTip
  rw [jUsed_g (gU_16 hi), hi, Bool.true_and]
theorem jT1.tau_lt (h : jT1 R) {y : Nat} (hy : y < 16) (ht : gT R y = true) : gTau R y < gC (gT R) := by
  unfold gTau
  refine gC_lt hy (fun i _ hi => ?_) ?_ ht
  · rw [Bool.and_eq_true] at hi; exact hi.1
  · (try dsimp only); rw [gRk_ir, Bool.and_false]
theorem jT1.tau_mono (h : jT1 R) {y z : Nat} (hy : y < 16) (ht : gT R y = true) (hr : gRk R y z = true) : gTau R y < gTau R z := by
  unfold gTau
  refine gC_lt hy (fun i _ hi => ?_) ?_ ?_
  · rw [Bool.and_eq_true] at hi ⊢; exact ⟨hi.1, gRk_tr hi.2 hr⟩
  · (try dsimp only); rw [gRk_ir, Bool.and_false]
  · (try dsimp only); rw [ht, hr]; rfl
theorem jT1.tau_inj (h : jT1 R) {y z : Nat} (hy : y < 16) (hz : z < 16) (hty : gT R y = true) (htz : gT R z = true) (e : gTau R y = gTau R z) : y = z := by
  by_cases hyz : y = z
  · exact hyz
  · rcases h.rk_tot (gT_u hy hty) (gT_u hz htz) hyz with g | g
    · have := h.tau_mono hy hty g; omega
    · have := h.tau_mono hz htz g; omega
theorem jT1.tauC (h : jT1 R) (hs : jTS R) {y : Nat} (hy : gU R y = true) : jCt (fun i => jTip R (nI i) && jRk R (nI i) (nI y)) = nI (gTau R y) := by
  rw [jCt_eq]
  congr 1
  refine gC_congr (fun i hi => ?_)
  show (gT R i && jRk R (nI i) (nI y)) = _
  cases ht : gT R i with
  | false => rfl
  | true => rw [h.rkN hs (gT_u hi ht) hy]
/-- the slot of the tip at a rank -/
def gTs (R : Nat → Nat → Int32) (i : Nat) : Nat := (jTipAt R (nI i)).toNatClampNeg
theorem jT1.tipAt (h : jT1 R) (hs : jTS R) {i : Nat} (hi : i < gC (gT R)) : gT R (gTs R i) = true ∧ gTs R i < 16 ∧ gTau R (gTs R i) = i ∧ jTipAt R (nI i) = nI (gTs R i) := by
  have h16 := gC_16 (gT R)
  have key : ∀ y, y < 16 → ((jTip R (nI y) && decide (jCt (fun i => jTip R (nI i) && jRk R (nI i) (nI y)) = nI i)) = true ↔ gT R y = true ∧ gTau R y = i) := fun y hy => by
    show ((gT R y && _) = true) ↔ _
    cases ht : gT R y with
    | false => simp
    | true =>
      rw [h.tauC hs (gT_u hy ht), Bool.true_and, decide_eq_true_eq]
      have := h.tau_lt hy ht
      rw [nI_eq (by omega) (by omega)]
      simp
  obtain ⟨y, g1, g2, g3⟩ := gS_onto (q := gT R) (rho := gTau R) (fun y hy hq => h.tau_lt hy hq) (fun y z hy hz a b e => h.tau_inj hy hz a b e) i hi
  unfold gTs jTipAt
  rcases jFind_c (fun j => jTip R (nI j) && decide (jCt (fun i => jTip R (nI i) && jRk R (nI i) (nI j)) = nI i)) 16 0 with ⟨k, -, k2, k3, -, k5⟩ | ⟨k1, -⟩
  · rw [k5, nI_clamp (by omega)]
    obtain ⟨a, b⟩ := (key k (by omega)).mp k3
    exact ⟨a, by omega, b, rfl⟩
  · have := k1 y (by omega) (by omega)
    have h2 := (key y g1).mpr ⟨g2, g3⟩
    rw [h2] at this; cases this
theorem jT1.tipNo (h : jT1 R) (hs : jTS R) {i : Nat} (hi : gC (gT R) ≤ i) (hi2 : i < 2 ^ 31) : jTipAt R (nI i) = -1 := by
  unfold jTipAt
  rcases jFind_c (fun j => jTip R (nI j) && decide (jCt (fun i => jTip R (nI i) && jRk R (nI i) (nI j)) = nI i)) 16 0 with ⟨k, -, k2, k3, -, -⟩ | ⟨-, k1⟩
  · exfalso
    rw [Bool.and_eq_true, decide_eq_true_eq] at k3
    have ht : gT R k = true := k3.1
    have hk : k < 16 := by omega
    have := h.tau_lt hk ht
    rw [h.tauC hs (gT_u hk ht), nI_eq (by have := gC_16 (gT R); omega) hi2] at k3
    omega
  · exact k1
/-- the sum of the tips' heights, over slots and over ranks -/
theorem jIt_l (q : Nat → Bool) (v : Nat → Int32) (f : Nat → Nat) : ∀ n i a, (∀ k, i ≤ k → k < i + n → q k = true → v k = nI (f k)) → jIter (fun (a : Int32) i => if q i = true then a + v i else a) n i (nI a) = nI (a + gS (fun k => gI (q (i + k)) * f (i + k)) n) := by
  intro n
  induction n with
  | zero => intro i a _; rfl
  | succ n ih =>
    intro i a h
    have e : ∀ m, gS (fun k => gI (q (i + k)) * f (i + k)) (m + 1) = gI (q i) * f i + gS (fun k => gI (q (i + 1 + k)) * f (i + 1 + k)) m := by
      intro m
      induction m with
      | zero => simp [gS]
      | succ m ihm =>
        rw [gS, ihm]
        simp only [gS]
        rw [show i + (m + 1) = i + 1 + m by omega]; omega
    rw [jIter, e n]
    try dsimp only
    cases hq : q i with
    | false =>
      rw [if_neg (by decide), ih (i + 1) a (fun k h1 h2 => h k (by omega) (by omega)), show gI false = 0 from rfl, Nat.zero_mul, Nat.zero_add]
    | true =>
      rw [if_pos rfl, h i (by omega) (by omega) hq, nI_add, ih (i + 1) _ (fun k h1 h2 => h k (by omega) (by omega)), show gI true = 1 from rfl, Nat.one_mul]
      congr 1; omega
theorem jT1.sumT (h : jT1 R) : jSumT R = nI (gS (fun y => gI (gT R y) * gD (gP R) y) 16) := by
  unfold jSumT
  have := jIt_l (gT R) (fun i => jHgt R (nI i)) (gD (gP R)) 16 0 0 (fun k _ h2 hq => h.hgt (gT_u (by omega) hq))
  simp only [Nat.zero_add] at this
  exact this
theorem jT1.sumR (h : jT1 R) (hs : jTS R) : gS (fun i => gD (gP R) (gTs R i)) (gC (gT R)) = gS (fun y => gI (gT R y) * gD (gP R) y) 16 := by
  refine gS_rank (rho := gTau R) (fun i hi => ?_) (fun y hy hq => h.tau_lt hy hq) (fun y z hy hz a b e => h.tau_inj hy hz a b e) _
  obtain ⟨g1, g2, g3, -⟩ := h.tipAt hs hi
  exact ⟨g2, g1, g3⟩
/-- there is a tip: the greatest number -/
theorem jT1.tip1 (h : jT1 R) : 0 < gC (gT R) := by
  have : ∀ m, ∃ y, gU R y = true ∧ ∀ z, z < m → gU R z = true → gN R z ≤ gN R y := by
    intro m
    induction m with
    | zero => exact ⟨0, h.u0, fun z hz => by omega⟩
    | succ m ih =>
      obtain ⟨y, g1, g2⟩ := ih
      by_cases hm : gU R m = true ∧ gN R y < gN R m
      · refine ⟨m, hm.1, fun z hz hu => ?_⟩
        by_cases hzm : z = m
        · subst hzm; exact Nat.le_refl _
        · have := g2 z (by omega) hu; omega
      · refine ⟨y, g1, fun z hz hu => ?_⟩
        by_cases hzm : z = m
        · subst hzm
          rcases Nat.lt_or_ge (gN R y) (gN R z) with g | g
          · exact absurd ⟨hu, g⟩ hm
          · exact g
        · exact g2 z (by omega) hu
  obtain ⟨y, g1, g2⟩ := this 16
  have y16 := gU_16 g1
  have e : gC (fun i => gU R i && decide (i ≠ 0) && decide (gP R i = y)) = 0 := gS_none (fun i hi => by
    try dsimp only
    cases hu : gU R i with
    | false => rfl
    | true =>
      by_cases h0 : i = 0
      · subst h0; rw [decide_eq_false (show ¬ (0 : Nat) ≠ 0 from fun e => e rfl), Bool.and_false, Bool.false_and]; rfl
      · by_cases hp : gP R i = y
        · obtain ⟨-, -, -, k4⟩ := h.p hu h0
          have := g2 i hi hu
          rw [hp] at k4; omega
        · rw [decide_eq_false hp, Bool.and_false]; rfl)
  refine gC_pos y16 ?_
  rw [h.gT_k g1, h.kid y16, e]
  decide
end GTips
