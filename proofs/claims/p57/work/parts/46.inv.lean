/-! ===== what holds always of a state's rows ===== -/
def gPut (R : Nat → Nat → Int32) (k i : Nat) (v : Int32) : Nat → Nat → Int32 := fun r => if r = k then upd (R k) i v else R r
def jTF (R : Nat → Nat → Int32) : Prop := (∀ i, i < 16 → ∃ a, a ≤ 4 ∧ R 5 i = nI a) ∧ R 5 0 = nI 0 ∧ (∀ i, i < 64 → ∃ a, a < 100 ∧ R 6 i = nI a) ∧ (∀ i, i < 4 → ∃ a, a ≤ 4 ∧ R 9 i = nI a) ∧ (∀ i, i < 16 → ∃ a, a < 100 ∧ R 10 i = nI a)
def jTS (R : Nat → Nat → Int32) : Prop := R 3 0 = nI 1 ∧ ∀ i, gU R i = true → i ≠ 0 → (∃ a, a < 2494 ∧ R 3 i = nI (4 * a)) ∧ (∃ a, a < 4 ∧ R 2 i = nI a)
def jTC (R : Nat → Nat → Int32) (V : Nat → Int32) (B : Nat) : Prop := ∃ nx me, nx ≤ B ∧ V 1 = nI (nx + 1) ∧ V 2 = nI nx ∧ V 3 = nI me ∧ nx + 1 = me + gC (gU R) ∧ ∀ i, gU R i = true → gN R i ≤ nx
def jTH (R : Nat → Nat → Int32) (V : Nat → Int32) : Prop := ∃ hc, hc ≤ 4 ∧ V 0 = nI hc ∧ ∀ j, j < hc → ∃ q, gU R q = true ∧ R 8 j = nI q
def jTree (R : Nat → Nat → Int32) (V : Nat → Int32) (B : Nat) : Prop := jT1 R ∧ jTF R ∧ jTS R ∧ jTC R V B ∧ jTH R V
section GInv
variable {R : Nat → Nat → Int32} {V : Nat → Int32} {B : Nat}
theorem gPut_s {k i j : Nat} {v : Int32} : gPut R k i v k j = if j = i then v else R k j := by
  unfold gPut; rw [if_pos rfl]; rfl
theorem gPut_ne {k i r : Nat} {v : Int32} (h : r ≠ k) : gPut R k i v r = R r := by
  unfold gPut; rw [if_neg h]
theorem jWr_n {n i : Nat} {f : Nat → Int32} {v : Int32} (h : i < n) (hn : n < 2 ^ 31) : jWr n f (nI i) v = upd f i v := by
  unfold jWr
  rw [if_neg (nI_pos (by omega)), if_neg (show ¬ Int32.ofNat n ≤ nI i from fun e => absurd ((nI_leI (a := n) hn (by omega)).mp e) (by omega)), nI_clamp (by omega)]
theorem jPut_g {k i : Nat} {v : Int32} (hk : k < 12) (h : i < [16, 16, 16, 16, 16, 16, 64, 4, 4, 4, 16, 4].getD k 0) : jPut R 0 k (nI i) v = gPut R k i v := by
  unfold jPut gPut
  have e := jLn_st (s := 0) (k := k) (by omega) hk
  rw [Nat.mul_zero, Nat.zero_add] at e ⊢
  rw [jWr_n (by rw [e]; exact h) (jLn_31 k)]
  rfl
theorem jSz0 {i : Nat} (h : i < 16) : jSz R 0 (nI i) = R 5 i := by
  have := jGt_n (R := R) (k := 5) (i := i) (by omega) h
  exact this
theorem jSz1 {i : Nat} (h : i < 4) : jSz R 1 (nI i) = R 9 i := by
  have := jGt_n (R := R) (k := 9) (i := i) (by omega) h
  exact this
theorem jFl0 {i q : Nat} (h : i < 16) (hq : q < 4) : jFl R 0 (nI i) (nI q) = R 6 (4 * i + q) := by
  have := jGt_n (R := R) (k := 6) (i := 4 * i + q) (by omega) (show 4 * i + q < 64 by omega)
  rw [← j4] at this
  exact this
theorem jFl1 {i q : Nat} (h : i < 4) (hq : q < 4) : jFl R 1 (nI i) (nI q) = R 10 (4 * i + q) := by
  have := jGt_n (R := R) (k := 10) (i := 4 * i + q) (by omega) (show 4 * i + q < 16 by omega)
  rw [← j4] at this
  exact this
theorem jRd_le {n : Nat} {f : Nat → Int32} {M : Int32} (hM : (-1 : Int32) ≤ M) (hn : n < 2 ^ 31) (h : ∀ i, i < n → f i ≤ M) (x : Int32) : jRd n f x ≤ M := by
  unfold jRd
  by_cases h0 : x < 0
  · rw [if_pos h0]; exact hM
  · rw [if_neg h0]
    by_cases h1 : Int32.ofNat n ≤ x
    · rw [if_pos h1]; exact hM
    · rw [if_neg h1]
      exact h _ (jIn_lt (jIn_of hn h0 h1))
theorem jTF.s0 (h : jTF R) (x : Int32) : jSz R 0 x ≤ 4 := by
  refine jRd_le (n := jLn (jTb 0)) (f := R (jTb 0)) (by decide) (jLn_31 _) (fun i hi => ?_) x
  obtain ⟨a, ha, e⟩ := h.1 i hi
  rw [show R (jTb 0) i = R 5 i from rfl, e]
  exact (nI_leI (b := 4) (by omega) (by omega)).mpr ha
theorem jTF.s1 (h : jTF R) (x : Int32) : jSz R 1 x ≤ 4 := by
  refine jRd_le (n := jLn (jTb 1)) (f := R (jTb 1)) (by decide) (jLn_31 _) (fun i hi => ?_) x
  obtain ⟨a, ha, e⟩ := h.2.2.2.1 i hi
  rw [show R (jTb 1) i = R 9 i from rfl, e]
  exact (nI_leI (b := 4) (by omega) (by omega)).mpr ha
/-- roots are below 997 -/
theorem jrem_n {a b : Nat} (ha : a < 2 ^ 31) (hb : b < 2 ^ 31) : jrem (nI a) (nI b) = nI (a % b) := by
  unfold jrem
  have e1 : nI a / nI b = nI (a / b) := by
    apply Int32.toInt_inj.mp
    rw [Int32.toInt_div, nI_toInt ha, nI_toInt hb]
    have h2 : ((a : Int).tdiv (b : Int)) = ((a / b : Nat) : Int) := by
      rw [Int.tdiv_eq_ediv_of_nonneg (by omega)]; rfl
    rw [h2]
    have h3 : a / b ≤ a := Nat.div_le_self a b
    clear h2
    generalize a / b = q at h3 ⊢
    rw [nI_toInt (by omega)]
    exact Int.bmod_eq_of_le (by omega) (by omega)
  have e2 : nI (a / b) * nI b = nI (a / b * b) := (Int32.ofNat_mul _ _).symm
  rw [e1, e2, nI_sub (Nat.div_mul_le_self a b)]
  congr 1
  have := Nat.div_add_mod a b
  rw [Nat.mul_comm] at this
  omega
theorem nI_mul (a b : Nat) : nI a * nI b = nI (a * b) := (Int32.ofNat_mul a b).symm
theorem jCo_n {a b : Nat} (ha : a < 997) (hb : b < 997) : ∃ c, c < 997 ∧ jCo (nI a) (nI b) = nI c := by
  unfold jCo
  rw [show (31 : Int32) = nI 31 from rfl, show (17 : Int32) = nI 17 from rfl, show (7 : Int32) = nI 7 from rfl, show (997 : Int32) = nI 997 from rfl, nI_mul, nI_mul, nI_add, nI_add, jrem_n (by omega) (by omega)]
  exact ⟨_, Nat.mod_lt _ (by omega), rfl⟩
theorem jHw_n {p r a b : Nat} (hp : p < 9976) (hr : r < 997) (ha : a < 4) (hb : b < 9973) : jHw (nI p) (nI r) (nI a) (nI b) = nI ((61 * p + 29 * r + 13 * a + b) % 9973) := by
  unfold jHw
  rw [show (61 : Int32) = nI 61 from rfl, show (29 : Int32) = nI 29 from rfl, show (13 : Int32) = nI 13 from rfl, show (9973 : Int32) = nI 9973 from rfl, nI_mul, nI_mul, nI_mul, nI_add, nI_add, nI_add, jrem_n (by omega) (by omega)]
theorem jNonL_c {p r wr : Int32} : ∀ n i, (∃ k, i ≤ k ∧ k < i + n ∧ jrem (jHw p r wr (nI k)) 4 = 0 ∧ jNonL p r wr n i = nI k) ∨ (∀ k, i ≤ k → k < i + n → ¬ jrem (jHw p r wr (nI k)) 4 = 0) := by
  intro n
  induction n with
  | zero => intro i; exact Or.inr (fun k h1 h2 => by omega)
  | succ n ih =>
    intro i
    rw [jNonL]
    by_cases hz : jrem (jHw p r wr (nI i)) 4 = 0
    · rw [if_pos hz]; exact Or.inl ⟨i, by omega, by omega, hz, rfl⟩
    · rw [if_neg hz]
      rcases ih (i + 1) with ⟨k, h1, h2, h3, h4⟩ | h1
      · exact Or.inl ⟨k, by omega, by omega, h3, h4⟩
      · refine Or.inr (fun k g1 g2 => ?_)
        by_cases hk : k = i
        · subst hk; exact hz
        · exact h1 k (by omega) (by omega)
/-- a sealed hash: a step below 9973 -/
theorem jHw_s {p r a : Nat} (hp : p < 9976) (hr : r < 997) (ha : a < 4) : ∃ c, c < 2494 ∧ jHw (nI p) (nI r) (nI a) (jNon (nI p) (nI r) (nI a)) = nI (4 * c) := by
  have hc : (61 * p + 29 * r + 13 * a) % 9973 < 9973 := Nat.mod_lt _ (by omega)
  unfold jNon
  rcases jNonL_c (p := nI p) (r := nI r) (wr := nI a) 9973 0 with ⟨k, -, h2, h3, h4⟩ | h1
  · rw [h4, jHw_n hp hr ha (by omega)] at *
    have hm : (61 * p + 29 * r + 13 * a + k) % 9973 < 9973 := Nat.mod_lt _ (by omega)
    rw [show (4 : Int32) = nI 4 from rfl, jrem_n (by omega) (by omega), show (0 : Int32) = nI 0 from rfl, nI_eq (by omega) (by omega)] at h3
    exact ⟨(61 * p + 29 * r + 13 * a + k) % 9973 / 4, by omega, by congr 1; omega⟩
  · exfalso
    -- one of the nonces makes it 0
    have key := h1 ((9973 - (61 * p + 29 * r + 13 * a) % 9973) % 9973) (by omega) (by have := Nat.mod_lt (9973 - (61 * p + 29 * r + 13 * a) % 9973) (show 9973 > 0 by omega); omega)
    apply key
    have h5 : (9973 - (61 * p + 29 * r + 13 * a) % 9973) % 9973 < 9973 := Nat.mod_lt _ (by omega)
    rw [jHw_n hp hr ha h5]
    have h6 : (61 * p + 29 * r + 13 * a + (9973 - (61 * p + 29 * r + 13 * a) % 9973) % 9973) % 9973 = 0 := by omega
    rw [h6]
    decide
theorem jTF.root (h : jTF R) {i : Nat} (hi : i < 16) : ∃ c, c < 997 ∧ jRoot R 0 (nI i) = nI c := by
  obtain ⟨m, hm, e⟩ := h.1 i hi
  have hf : ∀ q, q < 4 → ∃ a, a < 997 ∧ jFl R 0 (nI i) (nI q) = nI a := fun q hq => by
    rw [jFl0 hi hq]
    obtain ⟨a, ha, e⟩ := h.2.2.1 (4 * i + q) (by omega)
    exact ⟨a, by omega, e⟩
  obtain ⟨a0, g0, f0⟩ := hf 0 (by omega)
  obtain ⟨a1, g1, f1⟩ := hf 1 (by omega)
  obtain ⟨a2, g2, f2⟩ := hf 2 (by omega)
  obtain ⟨a3, g3, f3⟩ := hf 3 (by omega)
  obtain ⟨c01, k01, e01⟩ := jCo_n g0 g1
  obtain ⟨c22, k22, e22⟩ := jCo_n g2 g2
  obtain ⟨c23, k23, e23⟩ := jCo_n g2 g3
  unfold jRoot
  rw [show (0 : Int32) = nI 0 from rfl, show (1 : Int32) = nI 1 from rfl, show (2 : Int32) = nI 2 from rfl, show (3 : Int32) = nI 3 from rfl, f0, f1, f2, f3, e01, e22, e23]
  split
  · exact ⟨a0, g0, rfl⟩
  · split
    · exact ⟨c01, k01, rfl⟩
    · split
      · exact jCo_n k01 k22
      · split
        · exact jCo_n k01 k23
        · exact ⟨0, by omega, rfl⟩
theorem jTS.h (h : jTS R) {i : Nat} (hi : gU R i = true) : ∃ a, a < 9976 ∧ R 3 i = nI a := by
  by_cases h0 : i = 0
  · subst h0; exact ⟨1, by omega, h.1⟩
  · obtain ⟨⟨a, ha, e⟩, -⟩ := h.2 i hi h0
    exact ⟨4 * a, by omega, e⟩
end GInv
