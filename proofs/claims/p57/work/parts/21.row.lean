/-! ===== rows, tables, states: what their methods answer and change ===== -/
section JRow
variable {κ : Nat → Nat} {L : Nat → Nat} {R : Nat → Nat → Int32} {V : Nat → Int32} {T : Nat → List Int32} {w : va_W}
theorem jLn_31 (r : Nat) : jLn r < 2 ^ 31 := Nat.lt_of_le_of_lt (jLn_lt r) (by decide)
theorem jSetR_self {r : Nat} : jSetR R r (R r) = R := by
  funext k
  by_cases h : k = r
  · subst h; simp [jSetR]
  · simp [jSetR, h]
theorem jIn_lt {x : Int32} {n : Nat} (h : vp_in x n) : x.toNatClampNeg < n := Nat.not_le.mp fun q => h (Or.inr q)
theorem jWr_z {n : Nat} {f : Nat → Int32} {x v : Int32} (hn : n < 2 ^ 31) (hf : ∀ k, n ≤ k → f k = 0) : ∀ k, n ≤ k → jWr n f x v k = 0 := by
  intro k hk
  unfold jWr
  by_cases h0 : x < 0
  · rw [if_pos h0]; exact hf k hk
  · rw [if_neg h0]
    by_cases h1 : Int32.ofNat n ≤ x
    · rw [if_pos h1]; exact hf k hk
    · rw [if_neg h1]
      have := jIn_lt (jIn_of hn h0 h1)
      show (if k = x.toNatClampNeg then v else f k) = 0
      rw [if_neg (by omega)]; exact hf k hk
theorem s_at (h : jRep L R V T w) {r : Nat} (hr : r < 139) {x : Int32} {P : Int32 → va_W → Prop} (k : P (jRd (jLn r) (R r) x) w) : w_X3_at κ w (L r) x P := by
  unfold w_X3_at w_X3_at_b0
  unfold jRd at k
  by_cases h0 : x < 0
  · rw [if_pos h0] at k ⊢; exact k
  · rw [if_neg h0] at k ⊢
    refine (jgR_eq (h.row hr) rfl).mpr ?_
    refine (jAl_eq (h.arr hr) (by decide)).mpr ?_
    by_cases h1 : Int32.ofNat (jLn r) ≤ x
    · rw [if_pos h1] at k ⊢; exact k
    · rw [if_neg h1] at k ⊢
      refine (jgR_eq (h.row hr) rfl).mpr ?_
      exact (jLd_eq (h.arr hr) (jIn_of (jLn_31 r) h0 h1)).mpr k
theorem s_put (h : jRep L R V T w) {r : Nat} (hr : r < 139) {x v : Int32} {P : va_W → Prop} (k : ∀ w', jRep L (jSetR R r (jWr (jLn r) (R r) x v)) V T w' → P w') : w_X3_put κ w (L r) x v P := by
  unfold w_X3_put w_X3_put_b0
  have hz := jWr_z (x := x) (v := v) (jLn_31 r) (h.1.2 r)
  unfold jWr at k hz
  by_cases h0 : x < 0
  · rw [if_pos h0] at k ⊢
    rw [jSetR_self] at k
    exact k w h
  · rw [if_neg h0] at k ⊢
    refine (jgR_eq (h.row hr) rfl).mpr ?_
    refine (jAl_eq (h.arr hr) (by decide)).mpr ?_
    by_cases h1 : Int32.ofNat (jLn r) ≤ x
    · rw [if_pos h1] at k ⊢
      rw [jSetR_self] at k
      exact k w h
    · rw [if_neg h1] at k ⊢
      refine (jgR_eq (h.row hr) rfl).mpr ?_
      refine (jSi_eq (h.arr hr) (jIn_of (jLn_31 r) h0 h1)).mpr ?_
      refine k _ (h.putR hr _ ?_)
      intro j hj
      have := hz j hj
      rwa [if_neg h0, if_neg h1] at this
theorem s_copyR (h : jRep L R V T w) {a b : Nat} (ha : a < 139) (hb : b < 139) (hl : jLn a = jLn b) {P : va_W → Prop} (k : ∀ w', jRep L (jSetR R a (R b)) V T w' → P w') : w_X3_copyFrom κ w (L a) (L b) P := by
  unfold w_X3_copyFrom w_X3_copyFrom_b0
  refine (jgR_eq (h.row hb) rfl).mpr ?_
  refine (jgR_eq (h.row ha) rfl).mpr ?_
  refine (jgR_eq (h.row ha) rfl).mpr ?_
  refine (jAl_eq (h.arr ha) (by decide)).mpr ?_
  refine (jgR_eq (h.row hb) rfl).mpr ?_
  refine (jAl_eq (h.arr hb) (by decide)).mpr ?_
  have hm : jmin (Int32.ofNat (jLn a)) (Int32.ofNat (jLn b)) = Int32.ofNat (jLn a) := by
    rw [hl]; unfold jmin; split <;> rfl
  rw [hm]
  have hn : (Int32.ofNat (jLn a)).toNatClampNeg = jLn a := by
    have e1 : (Int32.ofNat (jLn a)).toInt = jLn a := nI_toInt (jLn_31 a)
    rw [Int32.toNatClampNeg, e1]; rfl
  have h0 : ¬ Int32.ofNat (jLn a) < 0 := by
    intro hh
    have e1 : (Int32.ofNat (jLn a)).toInt = jLn a := nI_toInt (jLn_31 a)
    have := Int32.lt_iff_toInt_lt.mp hh
    rw [e1] at this
    have e0 : (0 : Int32).toInt = 0 := rfl
    omega
  refine ⟨jLn b, jLn a, R b, R a, h.arr hb, h.arr ha, ⟨by decide, by decide, h0, ?_, ?_⟩, fun i _ => rfl, ?_⟩
  · rw [hn, hl]; show 0 + jLn b ≤ jLn b; omega
  · rw [hn]; show 0 + jLn a ≤ jLn a; omega
  · have hf : va_cpy (R b) (R a) (0 : Int32).toNatClampNeg (0 : Int32).toNatClampNeg (Int32.ofNat (jLn a)).toNatClampNeg = R b := by
      funext j
      rw [hn]
      show (if 0 ≤ j ∧ j < 0 + jLn a then R b (0 + (j - 0)) else R a j) = R b j
      by_cases hj : j < jLn a
      · rw [if_pos ⟨by omega, by omega⟩]; congr 1; omega
      · rw [if_neg (by omega), h.1.2 a j (by omega), h.1.2 b j (by omega)]
    rw [hf]
    exact k _ (h.putR ha _ (fun j hj => h.1.2 b j (by omega)))
theorem jTb_lt {t : Nat} (h : t < 22) : jTb t + 2 < 132 := by
  unfold jTb; split <;> omega
theorem s_size (h : jRep L R V T w) {t : Nat} (ht : t < 22) {x : Int32} {P : Int32 → va_W → Prop} (k : P (jRd (jLn (jTb t)) (R (jTb t)) x) w) : w_X0_size κ w (L (278 + t)) x P := by
  have hb := jTb_lt ht
  unfold w_X0_size w_X0_size_b0
  refine (jgR_eq (h.tab ht) rfl).mpr ⟨⟨_, h.row (by omega)⟩, s_at h (by omega) k⟩
theorem s_flake (h : jRep L R V T w) {t : Nat} (ht : t < 22) {x y : Int32} {P : Int32 → va_W → Prop} (k : P (jRd (jLn (jTb t + 1)) (R (jTb t + 1)) (x * 4 + y)) w) : w_X0_flake κ w (L (278 + t)) x y P := by
  have hb := jTb_lt ht
  unfold w_X0_flake w_X0_flake_b0
  exact (jgR_eq (h.tab ht) rfl).mpr ⟨⟨_, h.row (by omega)⟩, s_at h (by omega) k⟩
def jB2 (b : Bool) : Int32 := if b then 1 else 0
theorem s_hasPos (h : jRep L R V T w) {t : Nat} (ht : t < 22) {x y : Int32} {P : Int32 → va_W → Prop} (k : P (jB2 (decide (¬ y < 0 ∧ ¬ jRd (jLn (jTb t)) (R (jTb t)) x ≤ y))) w) : w_X0_hasPosition κ w (L (278 + t)) x y P := by
  have hb := jTb_lt ht
  unfold w_X0_hasPosition w_X0_hasPosition_b0
  by_cases h0 : y < 0
  · rw [if_pos h0]
    simp only [h0, not_true, false_and, decide_false, jB2] at k
    exact ⟨rfl, k⟩
  · rw [if_neg h0]
    refine (jgR_eq (h.tab ht) rfl).mpr ⟨⟨_, h.row (by omega)⟩, s_at h (by omega) ?_⟩
    by_cases h1 : jRd (jLn (jTb t)) (R (jTb t)) x ≤ y
    · rw [if_pos h1]
      simp only [h1, not_true, and_false, decide_false, jB2] at k
      exact ⟨rfl, k⟩
    · rw [if_neg h1]
      simp only [h0, h1, not_false_eq_true, and_self, decide_true, jB2] at k
      exact ⟨rfl, k⟩
theorem s_replace (h : jRep L R V T w) {t : Nat} (ht : t < 22) {x y v : Int32} {P : va_W → Prop} (k : ∀ w', jRep L (jSetR R (jTb t + 1) (jWr (jLn (jTb t + 1)) (R (jTb t + 1)) (x * 4 + y) v)) V T w' → P w') : w_X0_replace κ w (L (278 + t)) x y v P := by
  have hb := jTb_lt ht
  unfold w_X0_replace w_X0_replace_b0
  exact (jgR_eq (h.tab ht) rfl).mpr ⟨⟨_, h.row (by omega)⟩, s_put h (by omega) k⟩
theorem s_clear (h : jRep L R V T w) {t : Nat} (ht : t < 22) {x : Int32} {P : va_W → Prop} (k : ∀ w', jRep L (jSetR R (jTb t) (jWr (jLn (jTb t)) (R (jTb t)) x 0)) V T w' → P w') : w_X0_clear κ w (L (278 + t)) x P := by
  have hb := jTb_lt ht
  unfold w_X0_clear w_X0_clear_b0
  exact (jgR_eq (h.tab ht) rfl).mpr ⟨⟨_, h.row (by omega)⟩, s_put h (by omega) k⟩
theorem jSetR_ne {r j : Nat} {f : Nat → Int32} (h : j ≠ r) : jSetR R r f j = R j := by simp [jSetR, h]
theorem jSetR_eq {r : Nat} {f : Nat → Int32} : jSetR R r f r = f := by simp [jSetR]
theorem s_add (h : jRep L R V T w) {t : Nat} (ht : t < 22) {x v : Int32} {P : va_W → Prop} (k : ∀ w', jRep L (jSetR (jSetR R (jTb t + 1) (jWr (jLn (jTb t + 1)) (R (jTb t + 1)) (x * 4 + jRd (jLn (jTb t)) (R (jTb t)) x) v)) (jTb t) (jWr (jLn (jTb t)) (R (jTb t)) x (jRd (jLn (jTb t)) (R (jTb t)) x + 1))) V T w' → P w') : w_X0_add κ w (L (278 + t)) x v P := by
  have hb := jTb_lt ht
  unfold w_X0_add w_X0_add_b0
  refine (jgR_eq (h.tab ht) rfl).mpr ⟨⟨_, h.row (by omega)⟩, s_at h (by omega) ?_⟩
  refine (jgR_eq (h.tab ht) rfl).mpr ⟨⟨_, h.row (by omega)⟩, s_put h (by omega) (fun w1 h1 => ?_)⟩
  refine (jgR_eq (h1.tab ht) rfl).mpr ⟨⟨_, h1.row (by omega)⟩, s_put h1 (by omega) (fun w2 h2 => ?_)⟩
  rw [jSetR_ne (by omega)] at h2
  exact k w2 h2
theorem s_copyT (h : jRep L R V T w) {t u : Nat} (ht : t < 22) (hu : u < 22) (htu : t ≠ u) (hl0 : jLn (jTb t) = jLn (jTb u)) (hl1 : jLn (jTb t + 1) = jLn (jTb u + 1)) {P : va_W → Prop} (k : ∀ w', jRep L (jSetR (jSetR R (jTb t) (R (jTb u))) (jTb t + 1) (R (jTb u + 1))) V T w' → P w') : w_X0_copyFrom κ w (L (278 + t)) (L (278 + u)) P := by
  have hb := jTb_lt ht
  have hb2 := jTb_lt hu
  have hne : jTb u + 1 ≠ jTb t := by unfold jTb; split <;> split <;> omega
  unfold w_X0_copyFrom w_X0_copyFrom_b0
  refine (jgR_eq (h.tab ht) rfl).mpr ?_
  refine (jgR_eq (h.tab hu) rfl).mpr ⟨⟨_, h.row (by omega)⟩, s_copyR h (by omega) (by omega) hl0 (fun w1 h1 => ?_)⟩
  refine (jgR_eq (h1.tab ht) rfl).mpr ?_
  refine (jgR_eq (h1.tab hu) rfl).mpr ⟨⟨_, h1.row (by omega)⟩, s_copyR h1 (by omega) (by omega) hl1 (fun w2 h2 => ?_)⟩
  rw [jSetR_ne hne] at h2
  exact k w2 h2
end JRow
