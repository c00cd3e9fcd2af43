/-! ===== how many kinds of flakes; heights and valid blocks counted ===== -/
section GKinds
variable {R : Nat → Nat → Int32}
/-- how many kinds bear both marks -/
def g3 (M : Nat → Int32) : Nat := gS (fun i => gI (decide (M i = 3))) 100
theorem g3_wr {M : Nat → Int32} {x v : Int32} : g3 (jWr 100 M x v) ≤ g3 M + 1 := by
  unfold jWr
  by_cases h0 : x < 0
  · rw [if_pos h0]; omega
  · rw [if_neg h0]
    by_cases h1 : Int32.ofNat 100 ≤ x
    · rw [if_pos h1]; omega
    · rw [if_neg h1]
      have ha : x.toNatClampNeg < 100 := jIn_lt (jIn_of (by decide) h0 h1)
      generalize x.toNatClampNeg = a at ha
      have : g3 (upd M a v) ≤ gS (fun i => gI (decide (M i = 3)) + (if i = a then 1 else 0)) 100 := gS_le 100 (fun i _ => by
        show gI (decide ((if i = a then v else M i) = 3)) ≤ _
        by_cases hi : i = a
        · rw [if_pos hi, if_pos hi]
          have := gI_le (decide (v = 3)); omega
        · rw [if_neg hi, if_neg hi]; omega)
      rw [gS_add, gS_one (f := fun i => if i = a then 1 else 0) 100 ha (fun i _ hi => by (try dsimp only); rw [if_neg hi])] at this
      try dsimp only at this
      rw [if_pos rfl] at this
      exact this
theorem g3_it {x mk : Int32} : ∀ n p M, g3 (jIter (jMkS R x mk) n p M) ≤ g3 M + n := by
  intro n
  induction n with
  | zero => intro p M; show g3 M ≤ g3 M + 0; rw [Nat.add_zero]; exact Nat.le_refl (g3 M)
  | succ n ih =>
    intro p M
    rw [jIter]
    have h1 := ih (p + 1) (jMkS R x mk M p)
    have h2 : g3 (jMkS R x mk M p) ≤ g3 M + 1 := g3_wr
    omega
theorem jTF.sz (h : jTF R) {x : Nat} (hx : x < 16) : (jSz R 0 (nI x)).toNatClampNeg ≤ 4 ∧ (x = 0 → (jSz R 0 (nI x)).toNatClampNeg = 0) := by
  obtain ⟨a, ha, e⟩ := h.1 x hx
  rw [jSz0 hx]
  refine ⟨by rw [e, nI_clamp (by omega)]; exact ha, fun h0 => ?_⟩
  rw [h0, h.2.1]; exact nI_clamp (by omega)
theorem g3_mk (h : jT1 R) (hf : jTF R) {mk : Int32} : ∀ n x, gU R x = true → ∀ M, g3 (jMk R mk n (nI x) M) ≤ g3 M + 4 * gDf (gP R) n x := by
  intro n
  induction n with
  | zero => intro x _ M; show g3 M ≤ g3 M + 4 * 0; rw [Nat.mul_zero, Nat.add_zero]; exact Nat.le_refl (g3 M)
  | succ n ih =>
    intro x hx M
    have hx16 := gU_16 hx
    obtain ⟨s1, s2⟩ := hf.sz hx16
    rw [jMk, if_neg (nI_m1 (by omega))]
    have h1 := g3_it (R := R) (x := nI x) (mk := mk) (jSz R 0 (nI x)).toNatClampNeg 0 M
    by_cases h0 : x = 0
    · subst h0
      rw [h.g10, s2 rfl]
      have : jMk R mk n (-1) (jIter (jMkS R (nI 0) mk) 0 0 M) = M := by
        cases n with
        | zero => rfl
        | succ n => rw [jMk, if_pos rfl]; rfl
      rw [this]; omega
    · rw [h.g1p hx h0, gDf_s n x, if_neg h0]
      have h2 := ih _ (h.p hx h0).2.2.1 (jIter (jMkS R (nI x) mk) (jSz R 0 (nI x)).toNatClampNeg 0 M)
      omega
/-- after the first way no kind bears both marks -/
theorem g1_wr {M : Nat → Int32} {x : Int32} (h : ∀ i, M i = 0 ∨ M i = 1) (i : Nat) : jWr 100 M x (jRd 100 M x ||| 1) i = 0 ∨ jWr 100 M x (jRd 100 M x ||| 1) i = 1 := by
  unfold jWr jRd
  by_cases h0 : x < 0
  · rw [if_pos h0]; exact h i
  · rw [if_neg h0, if_neg h0]
    by_cases h1 : Int32.ofNat 100 ≤ x
    · rw [if_pos h1]; exact h i
    · rw [if_neg h1, if_neg h1]
      show (if i = x.toNatClampNeg then _ else M i) = 0 ∨ (if i = x.toNatClampNeg then _ else M i) = 1
      split
      · rcases h x.toNatClampNeg with e | e <;> rw [e] <;> decide
      · exact h i
theorem g1_mk {n : Nat} : ∀ x M, (∀ i, M i = 0 ∨ M i = 1) → ∀ i, jMk R 1 n x M i = 0 ∨ jMk R 1 n x M i = 1 := by
  have it : ∀ x m p M, (∀ i, M i = 0 ∨ M i = 1) → ∀ i, jIter (jMkS R x 1) m p M i = 0 ∨ jIter (jMkS R x 1) m p M i = 1 := by
    intro x m
    induction m with
    | zero => intro p M h; exact h
    | succ m ih =>
      intro p M h
      rw [jIter]
      exact ih (p + 1) _ (fun i => g1_wr h i)
  induction n with
  | zero => intro x M h; exact h
  | succ n ih =>
    intro x M h
    rw [jMk]
    by_cases hx : x = -1
    · rw [if_pos hx]; exact h
    · rw [if_neg hx]; exact ih _ _ (it _ _ _ _ h)
theorem jT1.cm (h : jT1 R) (hf : jTF R) {x : Nat} (hx : gU R x = true) : ∃ c, jCm R (nI x) (nI x) = nI c ∧ c ≤ 4 * gD (gP R) x := by
  unfold jCm
  have h0 : g3 (jMk R 1 16 (nI x) (fun _ => 0)) = 0 := gS_none (fun i _ => by
    rcases g1_mk (R := R) (n := 16) (nI x) (fun _ => 0) (fun i => Or.inl rfl) i with e | e <;> rw [e] <;> decide)
  have h1 := g3_mk h hf (mk := 2) 16 x hx (jMk R 1 16 (nI x) (fun _ => 0))
  generalize jMk R 2 16 (nI x) (jMk R 1 16 (nI x) (fun _ => 0)) = MM at h1
  refine ⟨g3 MM, ?_, by rw [h0] at h1; unfold gD; omega⟩
  have e := jCt_l (fun i => decide (MM i = 3)) 100 0 0
  simp only [Nat.zero_add] at e
  unfold g3
  rw [← e]
  refine jIter_c 100 0 _ (fun k a _ h2 => ?_)
  rw [jRd_n (by omega) (by omega)]
  simp only [decide_eq_true_eq]
/-- the heights' counts make all blocks -/
theorem jT1.atH (h : jT1 R) {k : Nat} (hk : k < 16) : jCt (fun j => jUsed R 0 (nI j) && decide (jHgt R (nI j) = nI k)) = nI (gC (fun j => gU R j && decide (gD (gP R) j = k))) := by
  rw [jCt_eq]
  congr 1
  refine gC_congr (fun i hi => ?_)
  rw [jUsed_g hi]
  cases hu : gU R i with
  | false => rfl
  | true =>
    rw [h.hgt hu]
    have := h.tree.d_le hu
    by_cases e : gD (gP R) i = k
    · rw [e, decide_eq_true rfl, decide_eq_true rfl]
    · rw [decide_eq_false e, decide_eq_false (fun g => e ((nI_eq (by omega) (by omega)).mp g))]
theorem jT1.allH (h : jT1 R) : gS (fun k => gC (fun j => gU R j && decide (gD (gP R) j = k))) 16 = gC (gU R) := by
  unfold gC
  rw [gS_swap]
  refine gS_congr 16 (fun i hi => ?_)
  try dsimp only
  cases hu : gU R i with
  | false => exact gS_none (fun k _ => rfl)
  | true =>
    have := h.tree.d_le hu
    rw [gS_one (a := gD (gP R) i) 16 (by omega) (fun k _ hk => by (try dsimp only); rw [decide_eq_false (fun e => hk e.symm)]; rfl)]
    try dsimp only
    rw [decide_eq_true rfl]; rfl
theorem jHold_g : jHold R = nI (gC (fun i => gU R i && jHolds R (nI i))) := by
  unfold jHold
  rw [jCt_eq]
  exact congrArg nI (gC_congr (fun i hi => by rw [jUsed_g hi]))
theorem jBlk_g : jCt (fun i => jUsed R 0 (nI i)) = nI (gC (gU R)) := by
  rw [jCt_eq]
  exact congrArg nI (gC_congr (fun i hi => by rw [jUsed_g hi]))
theorem jTips_g : jCt (fun i => jTip R (nI i)) = nI (gC (gT R)) := jCt_eq _
theorem jT1.reaching (h : jT1 R) {y : Nat} (hy : gU R y = true) : jCt (fun i => jRch R 16 (nI i) (nI y)) = nI (gC (fun i => gU R i && gA (gP R) i y)) := by
  rw [jCt_eq]
  congr 1
  refine gC_congr (fun i hi => ?_)
  cases hu : gU R i with
  | false => rw [h.rchN hi hu hy]; rfl
  | true => rw [h.rch hu (gU_16 hy)]; rfl
/-- the questions of the consistency -/
theorem jAllL_t {q : Nat → Bool} : ∀ n i, (∀ k, i ≤ k → k < i + n → q k = true) → jAllL q n i = true := by
  intro n
  induction n with
  | zero => intro i _; rfl
  | succ n ih =>
    intro i h
    rw [jAllL, if_pos (h i (by omega) (by omega))]
    exact ih (i + 1) (fun k h1 h2 => h k (by omega) (by omega))
theorem jT1.agree (h : jT1 R) : jAllL (fun j => jAgr R (nI j)) 16 0 = true := by
  refine jAllL_t 16 0 (fun k _ h2 => ?_)
  unfold jAgr
  rw [jUsed_g (by omega)]
  cases hu : gU R k with
  | false => rfl
  | true => rw [h.hgt hu, h.srch hu, decide_eq_true rfl]; rfl
theorem jT1.steps (h : jT1 R) (hs : jTS R) : jAllL (fun j => jStp R (nI j)) 16 0 = true := by
  refine jAllL_t 16 0 (fun k _ h2 => ?_)
  unfold jStp
  rw [jUsed_g (by omega)]
  by_cases h0 : k = 0
  · subst h0; rfl
  · cases hu : gU R k with
    | false => simp
    | true =>
      obtain ⟨⟨a, ha, e⟩, -⟩ := hs.2 k hu h0
      rw [jGt_5 (k := 3) (by omega) (by omega), e, show (4 : Int32) = nI 4 from rfl, jrem_n (by omega) (by omega), show 4 * a % 4 = 0 by omega]
      simp; exact Or.inr rfl
end GKinds
