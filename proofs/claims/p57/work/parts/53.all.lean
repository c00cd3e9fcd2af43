/-! ===== all states; what undo brings back ===== -/
def jSh (R : Nat → Nat → Int32) (s : Nat) : Nat → Nat → Int32 := fun k => R (12 * s + k)
def jSv (V : Nat → Int32) (s : Nat) : Nat → Int32 := fun i => V (4 * s + i)
/-- the rows that tell of a state -/
def gRw (k : Nat) : Prop := k < 11 ∧ k ≠ 7
def gEq (R : Nat → Nat → Int32) (V : Nat → Int32) (S : Nat → Nat → Int32) (U : Nat → Int32) : Prop := (∀ k, gRw k → R k = S k) ∧ ∀ i, i < 4 → V i = U i
def jInv (R : Nat → Nat → Int32) (V : Nat → Int32) (B : Nat) : Prop := (∀ s, s < 11 → jTree (jSh R s) (jSv V s) B) ∧ (∃ j k, j < 8 ∧ k ≤ 8 ∧ V 44 = nI j ∧ V 45 = nI k) ∧ (∀ i, i < 60 → ¬ R 138 i < 0) ∧ (V 48 = -1 ∨ ¬ V 48 < 0)
/-- after m times undo the state is S, U -/
def gBk (R : Nat → Nat → Int32) (V : Nat → Int32) (m : Nat) (S : Nat → Nat → Int32) (U : Nat → Int32) : Prop := ∃ j k, j < 8 ∧ k ≤ 8 ∧ V 44 = nI j ∧ V 45 = nI k ∧ m ≤ k ∧ gEq (jSh R (if m = 0 then 0 else 3 + (j + 8 - m) % 8)) (jSv V (if m = 0 then 0 else 3 + (j + 8 - m) % 8)) S U
/-- the snapshot stays -/
def gFr (R : Nat → Nat → Int32) (V : Nat → Int32) (R' : Nat → Nat → Int32) (V' : Nat → Int32) : Prop := (∀ k, gRw k → R' (12 + k) = R (12 + k)) ∧ (∀ i, i < 4 → V' (4 + i) = V (4 + i)) ∧ V' 46 = V 46
section GAll
variable {R R' R2 : Nat → Nat → Int32} {V V' V2 : Nat → Int32} {B m : Nat} {S : Nat → Nat → Int32} {U : Nat → Int32}
theorem jSh_0 : jSh R 0 = R := by funext k; unfold jSh; rw [Nat.mul_zero, Nat.zero_add]
theorem jSv_0 : jSv V 0 = V := by funext k; unfold jSv; rw [Nat.mul_zero, Nat.zero_add]
theorem gRw_0 : gRw 0 := ⟨by omega, by omega⟩
theorem gEq.refl : gEq R V R V := ⟨fun _ _ => rfl, fun _ _ => rfl⟩
theorem gEq.sym (h : gEq R V S U) : gEq S U R V := ⟨fun k hk => (h.1 k hk).symm, fun i hi => (h.2 i hi).symm⟩
theorem gEq.tr (h : gEq R V R' V') (h2 : gEq R' V' S U) : gEq R V S U := ⟨fun k hk => (h.1 k hk).trans (h2.1 k hk), fun i hi => (h.2 i hi).trans (h2.2 i hi)⟩
theorem gFr.refl : gFr R V R V := ⟨fun _ _ => rfl, fun _ _ => rfl, rfl⟩
theorem gFr.tr (h : gFr R V R' V') (h2 : gFr R' V' R2 V2) : gFr R V R2 V2 := ⟨fun k hk => (h2.1 k hk).trans (h.1 k hk), fun i hi => (h2.2.1 i hi).trans (h.2.1 i hi), h2.2.2.trans h.2.2⟩
theorem jTree.eq (h : jTree S U B) (e : gEq R V S U) : jTree R V B := by
  obtain ⟨h1, h2, h3, h4, h5⟩ := h
  have r : ∀ k, gRw k → R k = S k := e.1
  exact ⟨h1.c (r 0 ⟨by omega, by omega⟩) (r 1 ⟨by omega, by omega⟩) (r 2 ⟨by omega, by omega⟩), h2.c (r 5 ⟨by omega, by omega⟩) (r 6 ⟨by omega, by omega⟩) (r 9 ⟨by omega, by omega⟩) (r 10 ⟨by omega, by omega⟩), h3.c (r 0 ⟨by omega, by omega⟩) (r 2 ⟨by omega, by omega⟩) (r 3 ⟨by omega, by omega⟩), h4.c (r 0 ⟨by omega, by omega⟩) (e.2 1 (by omega)) (e.2 2 (by omega)) (e.2 3 (by omega)), h5.c (r 0 ⟨by omega, by omega⟩) (r 8 ⟨by omega, by omega⟩) (e.2 0 (by omega))⟩
theorem jInv.t0 (h : jInv R V B) : jTree R V B := by
  have := h.1 0 (by omega)
  rw [jSh_0, jSv_0] at this; exact this
theorem jInv.mono (h : jInv R V B) {B' : Nat} (hB : B ≤ B') : jInv R V B' := ⟨fun s hs => (h.1 s hs).mono hB, h.2⟩
/-- a change of the live state alone -/
theorem jInv.live (h : jInv R V B) {B' : Nat} (hB : B ≤ B') (eR : ∀ r, 12 ≤ r → R' r = R r) (eV : ∀ i, 4 ≤ i → V' i = V i) (ht : jTree R' V' B') : jInv R' V' B' := by
  obtain ⟨h1, ⟨j, k, h2, h3, h4, h5⟩, h6, h7⟩ := h
  refine ⟨fun s hs => ?_, ⟨j, k, h2, h3, by rw [eV 44 (by omega)]; exact h4, by rw [eV 45 (by omega)]; exact h5⟩, by rw [eR 138 (by omega)]; exact h6, by rw [eV 48 (by omega)]; exact h7⟩
  by_cases h0 : s = 0
  · subst h0; rw [jSh_0, jSv_0]; exact ht
  · refine ((h1 s hs).mono hB).eq ⟨fun k _ => ?_, fun i _ => ?_⟩
    · exact eR _ (by omega)
    · exact eV _ (by omega)
theorem gFr.live (eR : ∀ r, 12 ≤ r → R' r = R r) (eV : ∀ i, 4 ≤ i → V' i = V i) : gFr R V R' V' := ⟨fun k _ => eR _ (by omega), fun i _ => eV _ (by omega), eV 46 (by omega)⟩
theorem gBk.live (h : gBk R V m S U) (hm : 0 < m) (eR : ∀ r, 12 ≤ r → R' r = R r) (eV : ∀ i, 4 ≤ i → V' i = V i) : gBk R' V' m S U := by
  obtain ⟨j, k, h1, h2, h3, h4, h5, h6⟩ := h
  refine ⟨j, k, h1, h2, by rw [eV 44 (by omega)]; exact h3, by rw [eV 45 (by omega)]; exact h4, h5, ?_⟩
  rw [if_neg (by omega)] at h6 ⊢
  exact ⟨fun i hi => (eR _ (by omega)).trans (h6.1 i hi), fun i hi => (eV _ (by omega)).trans (h6.2 i hi)⟩
/-- copies -/
theorem jCpR_s {s u k : Nat} (hk : gRw k) : jCpR R s u (12 * s + k) = R (12 * u + k) := by
  obtain ⟨h1, h2⟩ := hk
  unfold jCpR
  have e : (12 * s + k) % 12 = k := by omega
  rw [e, if_pos ⟨by omega, by omega, h2, by omega⟩]
theorem jCpR_ne {s u t k : Nat} (hk : k < 12) (ht : t ≠ s) : jCpR R s u (12 * t + k) = R (12 * t + k) := by
  unfold jCpR
  rw [if_neg (by omega)]
theorem jCpV_s {s u i : Nat} (hi : i < 4) : jCpV V s u (4 * s + i) = V (4 * u + i) := by
  unfold jCpV
  rw [if_pos ⟨by omega, by omega⟩, show (4 * s + i) % 4 = i by omega]
theorem jCpV_ne {s u t i : Nat} (hi : i < 4) (ht : t ≠ s) : jCpV V s u (4 * t + i) = V (4 * t + i) := by
  unfold jCpV
  rw [if_neg (by omega)]
theorem gCp_s {s u : Nat} (eV : ∀ i, i < 4 → V' (4 * s + i) = jCpV V s u (4 * s + i)) : gEq (jSh (jCpR R s u) s) (jSv V' s) (jSh R u) (jSv V u) :=
  ⟨fun k hk => jCpR_s hk, fun i hi => (eV i hi).trans (jCpV_s hi)⟩
theorem gCp_ne {s u t : Nat} (ht : t ≠ s) (eV : ∀ i, i < 4 → V' (4 * t + i) = jCpV V s u (4 * t + i)) : gEq (jSh (jCpR R s u) t) (jSv V' t) (jSh R t) (jSv V t) :=
  ⟨fun k hk => jCpR_ne (by have := hk.1; omega) ht, fun i hi => (eV i hi).trans (jCpV_ne hi ht)⟩
/-- a copy between states -/
theorem jInv.cp (h : jInv R V B) {s u : Nat} (hs : s < 11) (hu : u < 11) (eV : ∀ i, i < 44 → V' i = jCpV V s u i) (hjk : ∃ j k, j < 8 ∧ k ≤ 8 ∧ V' 44 = nI j ∧ V' 45 = nI k) (h48 : V' 48 = -1 ∨ ¬ V' 48 < 0) : jInv (jCpR R s u) V' B := by
  refine ⟨fun t ht => ?_, hjk, ?_, h48⟩
  · by_cases hts : t = s
    · subst hts
      exact (h.1 u hu).eq (gCp_s (fun i hi => eV _ (by omega)))
    · exact (h.1 t ht).eq (gCp_ne hts (fun i hi => eV _ (by omega)))
  · have : jCpR R s u 138 = R 138 := by unfold jCpR; rw [if_neg (by omega)]
    rw [this]; exact h.2.2.1
theorem jKpV_lo {j i : Nat} (hi : i < 44) : jKpV V j i = jCpV V (3 + j) 0 i := by
  unfold jKpV
  rw [jSetV_ne (by omega), jSetV_ne (by omega)]
theorem jKpV_hi {j i : Nat} (hj : j < 8) (hi : 46 ≤ i) : jKpV V j i = V i := by
  unfold jKpV
  rw [jSetV_ne (by omega), jSetV_ne (by omega), jCpV_hi (by omega) (by omega)]
theorem jKpV_44 {j : Nat} (hj : j < 8) (h : V 44 = nI j) : jKpV V j 44 = nI ((j + 1) % 8) := by
  unfold jKpV
  rw [jSetV_ne (by omega)]
  simp only [jSetV, if_true]
  rw [h, nI_1, show (8 : Int32) = nI 8 from rfl, jrem_n (by omega) (by omega)]
theorem jKpV_45 {j k : Nat} (hk : k ≤ 8) (h : V 45 = nI k) : jKpV V j 45 = nI (if k < 8 then k + 1 else 8) := by
  unfold jKpV
  simp only [jSetV, if_true]
  rw [h, nI_1]
  unfold jmin
  by_cases h8 : k < 8
  · rw [if_pos h8, if_neg (show ¬ (8 : Int32) < nI (k + 1) from fun e => by have := (nI_ltI (a := 8) (by omega) (by omega)).mp e; omega)]
  · rw [if_neg h8, if_pos (show (8 : Int32) < nI (k + 1) from (nI_ltI (a := 8) (by omega) (by omega)).mpr (by omega))]; rfl
theorem jInv.keep (h : jInv R V B) {j : Nat} (hj : j < 8) (hv : V 44 = nI j) : jInv (jCpR R (3 + j) 0) (jKpV V j) B ∧ gEq (jCpR R (3 + j) 0) (jKpV V j) R V ∧ gFr R V (jCpR R (3 + j) 0) (jKpV V j) := by
  have hh := h
  obtain ⟨-, ⟨j', k, h2, h3, h4, h5⟩, -, h7⟩ := h
  refine ⟨hh.cp (by omega) (by omega) (fun i hi => jKpV_lo hi) ⟨(j + 1) % 8, _, Nat.mod_lt _ (by omega), ?_, jKpV_44 hj hv, jKpV_45 h3 h5⟩ (by rw [jKpV_hi hj (by omega)]; exact h7), ?_, ?_⟩
  · split <;> omega
  · have := gCp_ne (R := R) (V := V) (V' := jKpV V j) (s := 3 + j) (u := 0) (t := 0) (by omega) (fun i hi => jKpV_lo (by omega))
    rw [jSh_0, jSv_0, jSh_0, jSv_0] at this; exact this
  · refine ⟨fun k hk => ?_, fun i hi => ?_, jKpV_hi hj (by omega)⟩
    · have := jCpR_ne (R := R) (s := 3 + j) (u := 0) (t := 1) (k := k) (by have := hk.1; omega) (by omega); exact this
    · rw [jKpV_lo (by omega)]
      have := jCpV_ne (V := V) (s := 3 + j) (u := 0) (t := 1) (i := i) hi (by omega); exact this
theorem gBk.keep (h : gBk R V m S U) (hm : m < 8) {j : Nat} (hj : j < 8) (hv : V 44 = nI j) : gBk (jCpR R (3 + j) 0) (jKpV V j) (m + 1) S U := by
  obtain ⟨j', k, h1, h2, h3, h4, h5, h6⟩ := h
  have : j' = j := (nI_eq (by omega) (by omega)).mp (h3.symm.trans hv)
  subst this
  refine ⟨(j' + 1) % 8, _, Nat.mod_lt _ (by omega), ?_, jKpV_44 hj hv, jKpV_45 h2 h4, ?_, ?_⟩
  · split <;> omega
  · split <;> omega
  · rw [if_neg (by omega), show ((j' + 1) % 8 + 8 - (m + 1)) % 8 = (j' + 8 - m) % 8 by omega]
    by_cases h0 : m = 0
    · subst h0
      rw [if_pos rfl] at h6
      rw [show (j' + 8 - 0) % 8 = j' by omega]
      exact (gCp_s (fun i hi => jKpV_lo (by omega))).tr h6
    · rw [if_neg h0] at h6
      exact (gCp_ne (by omega) (fun i hi => jKpV_lo (by omega))).tr h6
theorem jTbV_lo {j i : Nat} (hj : j < 8) (hi : i < 44) : jTbV V j i = jCpV V 0 (3 + j) i := by
  unfold jTbV
  rw [jSetV_ne (by omega)]
  unfold jCpV
  split
  · exact jSetV_ne (by omega)
  · exact jSetV_ne (by omega)
theorem jTbV_hi {j i : Nat} (hj : j < 8) (hi : 46 ≤ i) : jTbV V j i = V i := by
  unfold jTbV
  rw [jSetV_ne (by omega), jCpV_hi (by omega) (by omega), jSetV_ne (by omega)]
theorem jTbV_44 {j : Nat} : jTbV V j 44 = nI j := by
  unfold jTbV
  rw [jSetV_ne (by omega), jCpV_hi (by omega) (by omega)]
  simp [jSetV]
theorem jTbV_45 {j : Nat} : jTbV V j 45 = V 45 - 1 := by
  unfold jTbV; simp [jSetV]
theorem gBack {j : Nat} (hj : j < 8) (h : V 44 = nI j) : jrem ((V 44 + 8) - 1) 8 = nI ((j + 7) % 8) := by
  rw [h, show (8 : Int32) = nI 8 from rfl, nI_add, show nI (j + 8) - 1 = nI (j + 7) from nI_sub (a := j + 8) (b := 1) (by omega), jrem_n (by omega) (by omega)]
/-- undo: what it leaves -/
theorem jInv.back (h : jInv R V B) {j : Nat} (hj : j < 8) (hv : V 44 = nI j) (h0 : ¬ V 45 = 0) : jInv (jCpR R 0 (3 + (j + 7) % 8)) (jTbV V ((j + 7) % 8)) B ∧ gFr R V (jCpR R 0 (3 + (j + 7) % 8)) (jTbV V ((j + 7) % 8)) ∧ ¬ (V 45 - 1 < 0) := by
  have hh := h
  obtain ⟨-, ⟨j', k, h2, h3, h4, h5⟩, -, h7⟩ := h
  have hk : k ≠ 0 := fun e => h0 (by rw [h5, e]; rfl)
  have hm := Nat.mod_lt (j + 7) (show 8 > 0 by omega)
  have e45 : V 45 - 1 = nI (k - 1) := by rw [h5]; exact nI_sub (b := 1) (by omega)
  refine ⟨hh.cp (by omega) (by omega) (fun i hi => jTbV_lo hm hi) ⟨(j + 7) % 8, k - 1, hm, by omega, jTbV_44, by rw [jTbV_45]; exact e45⟩ (by rw [jTbV_hi hm (by omega)]; exact h7), ⟨fun q hq => ?_, fun i hi => ?_, jTbV_hi hm (by omega)⟩, by rw [e45]; exact nI_pos (by omega)⟩
  · have := jCpR_ne (R := R) (s := 0) (u := 3 + (j + 7) % 8) (t := 1) (k := q) (by have := hq.1; omega) (by omega); exact this
  · rw [jTbV_lo hm (by omega)]
    have := jCpV_ne (V := V) (s := 0) (u := 3 + (j + 7) % 8) (t := 1) (i := i) hi (by omega); exact this
theorem gBk.back (h : gBk R V (m + 1) S U) (hm : m < 8) {j : Nat} (hj : j < 8) (hv : V 44 = nI j) : ¬ V 45 = 0 ∧ gBk (jCpR R 0 (3 + (j + 7) % 8)) (jTbV V ((j + 7) % 8)) m S U := by
  obtain ⟨j', k, h1, h2, h3, h4, h5, h6⟩ := h
  have : j' = j := (nI_eq (by omega) (by omega)).mp (h3.symm.trans hv)
  subst this
  have hm7 := Nat.mod_lt (j' + 7) (show 8 > 0 by omega)
  have e45 : V 45 - 1 = nI (k - 1) := by rw [h4]; exact nI_sub (b := 1) (by omega)
  refine ⟨fun e => ?_, (j' + 7) % 8, k - 1, hm7, by omega, jTbV_44, by rw [jTbV_45]; exact e45, by omega, ?_⟩
  · rw [h4, show (0 : Int32) = nI 0 from rfl, nI_eq (by omega) (by omega)] at e; omega
  · rw [if_neg (by omega)] at h6
    by_cases h0 : m = 0
    · subst h0
      rw [if_pos rfl]
      rw [show (j' + 8 - (0 + 1)) % 8 = (j' + 7) % 8 by omega] at h6
      exact (gCp_s (fun i hi => jTbV_lo hm7 (by omega))).tr h6
    · rw [if_neg h0, show ((j' + 7) % 8 + 8 - m) % 8 = (j' + 8 - (m + 1)) % 8 by omega]
      exact (gCp_ne (by omega) (fun i hi => jTbV_lo hm7 (by omega))).tr h6
theorem gBk.z (h : jInv R V B) : gBk R V 0 R V := by
  obtain ⟨-, ⟨j, k, h2, h3, h4, h5⟩, -, -⟩ := h
  refine ⟨j, k, h2, h3, h4, h5, Nat.zero_le _, ?_⟩
  rw [if_pos rfl, jSh_0, jSv_0]; exact gEq.refl
theorem gBk.at0 (h : gBk R V 0 S U) : gEq R V S U := by
  obtain ⟨j, k, -, -, -, -, -, h6⟩ := h
  rw [if_pos rfl, jSh_0, jSv_0] at h6; exact h6
end GAll
