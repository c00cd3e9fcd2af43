/-! ===== trees of slots, without machine: u used, p the parent, n the number ===== -/
section GTree
def gTree (u : Nat → Bool) (p n : Nat → Nat) : Prop := u 0 = true ∧ (∀ i, u i = true → i < 16) ∧ (∀ i, u i = true → i ≠ 0 → u (p i) = true ∧ n (p i) < n i) ∧ (∀ i j, u i = true → u j = true → n i = n j → i = j)
def gDf (p : Nat → Nat) : Nat → Nat → Nat
  | 0, _ => 0
  | m + 1, x => if x = 0 then 0 else gDf p m (p x) + 1
def gAf (p : Nat → Nat) : Nat → Nat → Nat → Bool
  | 0, _, _ => false
  | m + 1, x, y => if x = y then true else if x = 0 then false else gAf p m (p x) y
/-- the height; is the second in the branch of the first -/
def gD (p : Nat → Nat) (x : Nat) : Nat := gDf p 16 x
def gA (p : Nat → Nat) (x y : Nat) : Bool := gAf p 16 x y
variable {u : Nat → Bool} {p n : Nat → Nat}
theorem gDf_s (m x : Nat) : gDf p (m + 1) x = if x = 0 then 0 else gDf p m (p x) + 1 := rfl
theorem gAf_s (m x y : Nat) : gAf p (m + 1) x y = if x = y then true else if x = 0 then false else gAf p m (p x) y := rfl
theorem gTree.ind (h : gTree u p n) {Q : Nat → Prop} (st : ∀ x, u x = true → (x ≠ 0 → Q (p x)) → Q x) : ∀ x, u x = true → Q x := by
  have key : ∀ m x, n x < m → u x = true → Q x := by
    intro m
    induction m with
    | zero => intro x h1; omega
    | succ m ih =>
      intro x h1 hx
      refine st x hx (fun h0 => ?_)
      obtain ⟨g1, g2⟩ := h.2.2.1 x hx h0
      exact ih (p x) (by omega) g1
  intro x hx
  exact key (n x + 1) x (by omega) hx
theorem gTree.df_b (h : gTree u p n) : ∀ m x, u x = true → gDf p m x < gC (fun j => u j && decide (n j ≤ n x)) := by
  intro m
  induction m with
  | zero =>
    intro x hx
    exact gC_pos (h.2.1 x hx) (by simp [hx])
  | succ m ih =>
    intro x hx
    rw [gDf_s m x]
    by_cases h0 : x = 0
    · rw [if_pos h0]
      exact gC_pos (h.2.1 x hx) (by simp [hx])
    · rw [if_neg h0]
      obtain ⟨g1, g2⟩ := h.2.2.1 x hx h0
      have i1 := ih (p x) g1
      have i2 : gC (fun j => u j && decide (n j ≤ n (p x))) < gC (fun j => u j && decide (n j ≤ n x)) := by
        refine gC_lt (h.2.1 x hx) (fun i _ hi => ?_) ?_ ?_
        · simp only [Bool.and_eq_true, decide_eq_true_eq] at hi ⊢
          exact ⟨hi.1, by omega⟩
        · simp only [hx, Bool.true_and, decide_eq_false_iff_not]; omega
        · simp [hx]
      omega
theorem gTree.df_le (h : gTree u p n) (m : Nat) {x : Nat} (hx : u x = true) : gDf p m x ≤ 15 := by
  have := h.df_b m x hx
  have := gC_16 (fun j => u j && decide (n j ≤ n x))
  omega
theorem gTree.df_st (h : gTree u p n) : ∀ m x, u x = true → gDf p m x < m → gDf p (m + 1) x = gDf p m x := by
  intro m
  induction m with
  | zero => intro x hx h1; omega
  | succ m ih =>
    intro x hx h1
    by_cases h0 : x = 0
    · subst h0; simp [gDf]
    · rw [gDf_s (m + 1) x, gDf_s m x, if_neg h0, if_neg h0]
      rw [gDf_s m x, if_neg h0] at h1
      rw [ih (p x) (h.2.2.1 x hx h0).1 (by omega)]
theorem gTree.d_le (h : gTree u p n) {x : Nat} (hx : u x = true) : gD p x ≤ 15 := h.df_le 16 hx
theorem gD_0 : gD p 0 = 0 := by simp [gD, gDf]
theorem gTree.d_s (h : gTree u p n) {x : Nat} (hx : u x = true) (h0 : x ≠ 0) : gD p x = gD p (p x) + 1 := by
  have h1 := h.df_st 16 x hx (by have := h.d_le hx; unfold gD at this; omega)
  rw [gDf_s 16 x, if_neg h0] at h1
  exact h1.symm
theorem gTree.af_st (h : gTree u p n) {y : Nat} : ∀ m x, u x = true → gDf p m x < m → gAf p (m + 1) x y = gAf p m x y := by
  intro m
  induction m with
  | zero => intro x hx h1; omega
  | succ m ih =>
    intro x hx h1
    rw [gAf_s (m + 1) x, gAf_s m x]
    by_cases hxy : x = y
    · rw [if_pos hxy, if_pos hxy]
    · rw [if_neg hxy, if_neg hxy]
      by_cases h0 : x = 0
      · rw [if_pos h0, if_pos h0]
      · rw [if_neg h0, if_neg h0]
        rw [gDf_s m x, if_neg h0] at h1
        exact ih (p x) (h.2.2.1 x hx h0).1 (by omega)
theorem gTree.af_16 (h : gTree u p n) {y : Nat} : ∀ k x, u x = true → gAf p (16 + k) x y = gA p x y := by
  intro k
  induction k with
  | zero => intro x hx; rfl
  | succ k ih =>
    intro x hx
    rw [← ih x hx]
    refine h.af_st (16 + k) x hx ?_
    have := h.df_le (16 + k) hx
    omega
theorem gA_r {x : Nat} : gA p x x = true := by simp [gA, gAf]
theorem gTree.a_s (h : gTree u p n) {x y : Nat} (hx : u x = true) (h0 : x ≠ 0) (hxy : x ≠ y) : gA p x y = gA p (p x) y := by
  have h1 := h.af_16 (y := y) 1 x hx
  rw [gAf_s 16 x, if_neg hxy, if_neg h0] at h1
  exact h1.symm
theorem gA_z {y : Nat} (hy : y ≠ 0) : gA p 0 y = false := by
  simp [gA, gAf, Ne.symm hy]
theorem gTree.a_0 (h : gTree u p n) : ∀ x, u x = true → gA p x 0 = true := by
  refine h.ind (fun x hx ih => ?_)
  by_cases h0 : x = 0
  · subst h0; exact gA_r
  · rw [h.a_s hx h0 h0]; exact ih h0
/-- who stands in a branch is used, not higher, and its number not greater -/
theorem gTree.a_u (h : gTree u p n) {y : Nat} : ∀ x, u x = true → gA p x y = true → u y = true ∧ gD p y ≤ gD p x ∧ n y ≤ n x ∧ (x ≠ y → gD p y < gD p x ∧ n y < n x) := by
  refine h.ind (fun x hx ih ha => ?_)
  by_cases hxy : x = y
  · subst hxy; exact ⟨hx, Nat.le_refl _, Nat.le_refl _, fun e => absurd rfl e⟩
  · by_cases h0 : x = 0
    · subst h0
      rw [gA_z (fun e => hxy e.symm)] at ha
      cases ha
    · rw [h.a_s hx h0 hxy] at ha
      obtain ⟨g1, g2, g3, -⟩ := ih h0 ha
      have := h.d_s hx h0
      have := (h.2.2.1 x hx h0).2
      exact ⟨g1, by omega, by omega, fun _ => ⟨by omega, by omega⟩⟩
theorem gTree.a_t (h : gTree u p n) {y z : Nat} (hyz : gA p y z = true) : ∀ x, u x = true → gA p x y = true → gA p x z = true := by
  refine h.ind (fun x hx ih ha => ?_)
  by_cases hxy : x = y
  · subst hxy; exact hyz
  · by_cases h0 : x = 0
    · subst h0
      rw [gA_z (fun e => hxy e.symm)] at ha
      cases ha
    · by_cases hxz : x = z
      · subst hxz; exact gA_r
      · rw [h.a_s hx h0 hxz]
        rw [h.a_s hx h0 hxy] at ha
        exact ih h0 ha
/-- into a branch by a child -/
theorem gTree.a_c (h : gTree u p n) {y : Nat} : ∀ x, u x = true → x ≠ y → gA p x y = true → ∃ c, u c = true ∧ c ≠ 0 ∧ p c = y ∧ gA p x c = true := by
  refine h.ind (fun x hx ih hxy ha => ?_)
  by_cases h0 : x = 0
  · subst h0
    rw [gA_z (fun e => hxy e.symm)] at ha
    cases ha
  · by_cases hp : p x = y
    · exact ⟨x, hx, h0, hp, gA_r⟩
    · rw [h.a_s hx h0 hxy] at ha
      obtain ⟨c, g1, g2, g3, g4⟩ := ih h0 hp ha
      refine ⟨c, g1, g2, g3, ?_⟩
      by_cases hxc : x = c
      · subst hxc; exact gA_r
      · rw [h.a_s hx h0 hxc]; exact g4
theorem gTree.a_p (h : gTree u p n) {c : Nat} (hc : u c = true) (h0 : c ≠ 0) : ∀ x, u x = true → gA p x c = true → gA p x (p c) = true := by
  refine h.a_t ?_
  by_cases hcp : c = p c
  · rw [← hcp]; exact gA_r
  · rw [h.a_s hc h0 hcp]; exact gA_r
end GTree
