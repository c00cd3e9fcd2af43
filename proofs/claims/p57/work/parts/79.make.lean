/-! ===== the object made: cells by their places ===== -/
def ext {α : Type} (A : Nat → α) (n : Nat) (x : α) : Nat → α := fun i => if i = n then x else A i
theorem ext_eq {α : Type} {A : Nat → α} {n : Nat} {x : α} : ext A n x n = x := by unfold ext; rw [if_pos rfl]
theorem ext_at {α : Type} {A : Nat → α} {n i : Nat} {x : α} (h : i = n) : ext A n x i = x := by unfold ext; rw [if_pos h]
theorem ext_ne {α : Type} {A : Nat → α} {n i : Nat} {x : α} (h : i ≠ n) : ext A n x i = A i := by unfold ext; rw [if_neg h]
def jW (n : Nat) (A : Nat → Nat) (E : Nat → va_E) (w : va_W) : Prop := (∀ i j, i < n → j < n → A i = A j → i = j) ∧ ∀ i, i < n → jlk w (A i) = some (E i)
section JMake
variable {κ : Nat → Nat} {n : Nat} {A A' : Nat → Nat} {E E' : Nat → va_E} {w : va_W}
theorem jW.cg (h : jW n A E w) (hA : ∀ i, i < n → A' i = A i) (hE : ∀ i, i < n → E' i = E i) : jW n A' E' w := by
  refine ⟨fun i j hi hj e => h.1 i j hi hj (by rw [← hA i hi, ← hA j hj]; exact e), fun i hi => ?_⟩
  rw [hA i hi, hE i hi]; exact h.2 i hi
theorem jW.push (h : jW n A E w) {q : Nat} (hq : jlk w q = none) (x : va_E) : jW (n + 1) (ext A n q) (ext E n x) (w ++ [(q, x)]) := by
  have ne : ∀ i, i < n → A i ≠ q := fun i hi e => by have := h.2 i hi; rw [e, hq] at this; cases this
  refine ⟨fun i j hi hj e => ?_, fun i hi => ?_⟩
  · by_cases h1 : i = n
    · by_cases h2 : j = n
      · rw [h1, h2]
      · rw [ext_at h1, ext_ne h2] at e
        exact absurd e.symm (ne j (by omega))
    · by_cases h2 : j = n
      · rw [ext_ne h1, ext_at h2] at e
        exact absurd e (ne i (by omega))
      · rw [ext_ne h1, ext_ne h2] at e
        exact h.1 i j (by omega) (by omega) e
  · by_cases h1 : i = n
    · rw [ext_at h1, ext_at h1]; exact jlk_new hq
    · rw [ext_ne h1, ext_ne h1]; exact jlk_old (h.2 i (by omega))
theorem jW.set (h : jW n A E w) {p : Nat} (hp : p < n) (x : va_E) : jW n A (ext E p x) (jst w (A p) x) := by
  refine ⟨h.1, fun i hi => ?_⟩
  by_cases h1 : i = p
  · rw [h1, ext_eq]; exact jst_self (h.2 p hp)
  · rw [ext_ne h1, jst_ne (fun e => h1 (h.1 i p hi hp e))]; exact h.2 i hi
theorem jW.put (h : jW n A E w) {p ci k : Nat} {fs : List Value} {x : Value} (hp : p < n) (e : E p = .inr (ci, fs)) (hk : k < fs.length) {Q : va_W → Prop} (kk : ∀ w', jW n A (ext E p (.inr (ci, fs.set k x))) w' → Q w') : jpV w (A p) ci k x Q :=
  (jpV_eq (by rw [h.2 p hp, e]) hk).mpr (kk _ (h.set hp _))
theorem i_fillL {p len : Nat} {v : Int32} (hp : p < n) (hl : len ≤ 100) {Q : va_W → Prop} : ∀ (m i : Nat) (f : Nat → Int32) (E : Nat → va_E) (w : va_W), jW n A E w → E p = .inl (0, len, .inl f) → i ≤ len → len < m + i → (∀ w', jW n A (ext E p (.inl (0, len, .inl (jIter (jFlS v) (len - i) i f)))) w' → Q w') → w_J7_fill_53178_b5 m κ w (A p) v (nI i) (nI len) Q := by
  intro m
  induction m with
  | zero => intro i f E w _ _ a b; omega
  | succ m ih =>
    intro i f E w h e a b k
    rw [w_J7_fill_53178_b5]
    by_cases hi : i = len
    · rw [if_pos ((nI_leI (by omega) (by omega)).mpr (by omega))]
      refine k w (h.cg (fun _ _ => rfl) (fun j hj => ?_))
      by_cases hj2 : j = p
      · rw [hj2, ext_eq, e, hi, Nat.sub_self]; rfl
      · rw [ext_ne hj2]
    · rw [if_neg (fun g => hi (by have := (nI_leI (by omega) (by omega)).mp g; omega))]
      refine (jSi_eq (by rw [h.2 p hp, e]) (nI_in (by omega) (by omega))).mpr ?_
      rw [nI_clamp (by omega), nI_1]
      refine ih (i + 1) (upd f i v) _ _ (h.set hp _) ext_eq (by omega) (by omega) (fun w' h' => k w' (h'.cg (fun _ _ => rfl) (fun j hj => ?_)))
      by_cases hj2 : j = p
      · rw [hj2, ext_eq, ext_eq, show len - i = (len - (i + 1)) + 1 by omega, jIter]; rfl
      · rw [ext_ne hj2, ext_ne hj2, ext_ne hj2]
def gFi (len : Nat) (c : Int32) : Nat → Int32 := fun j => if j < len then c else 0
/-- a row made: its array is the next place -/
theorem i_row (h : jW n A E w) {p : Nat} (hp : p < n) (e : E p = .inr (6, [.null])) {len : Nat} (h0 : 0 < len) (hl : len ≤ 100) {c : Int32} {Q : va_W → Prop} (k : ∀ r w', jW (n + 1) (ext A n r) (ext (ext E p (.inr (6, [.ref r]))) n (.inl (0, len, .inl (gFi len c)))) w' → Q w') : w_X3_init κ w (A p) (nI len) c Q := by
  unfold w_X3_init w_X3_init_b0
  rw [if_neg (fun g : nI len ≤ 0 => by have := (nI_leI (b := 0) (by omega) (by omega)).mp g; omega)]
  unfold w_X3_init_b14
  refine ⟨nI_pos (by omega), by rw [nI_clamp (by omega)]; exact hl, fun q hq => ?_⟩
  rw [nI_clamp (show len < 2 ^ 31 by omega)]
  have h1 := h.push hq (.inl (0, len, .inl (fun _ => 0)))
  have eA : ext A n q p = A p := ext_ne (by omega)
  have e1 : ext E n (.inl (0, len, .inl (fun _ => 0))) p = .inr (6, [.null]) := by rw [ext_ne (by omega)]; exact e
  rw [← eA]
  refine h1.put (by omega) e1 (Nat.le_of_ble_eq_true rfl) (fun w2 h2 => ?_)
  refine (jgR_eq (by rw [h2.2 p (by omega), ext_eq]) rfl).mpr ?_
  unfold w_J7_fill_53178 w_J7_fill_53178_b0
  have en : ext A n q n = q := ext_eq
  have e2 : ext (ext E n (.inl (0, len, .inl (fun _ => 0)))) p (.inr (6, [.null].set 0 (.ref q))) n = .inl (0, len, .inl (fun _ => 0)) := by rw [ext_ne (by omega), ext_eq]
  have h2n := h2.2 n (by omega)
  rw [e2, en] at h2n
  refine (jAl_eq h2n (by decide)).mpr ?_
  have := i_fillL (κ := κ) (p := n) (v := c) (Q := Q) (by omega) hl jFu 0 (fun _ => 0) _ w2 h2 e2 (Nat.zero_le _) (by rw [jFu_eq]; omega) (fun w3 h3 => k q w3 (h3.cg (fun _ _ => rfl) (fun j hj => ?_)))
  · rw [en] at this; exact this
  · by_cases hj2 : j = n
    · rw [hj2, ext_eq, ext_eq]
      congr 5
      funext i
      rw [jFill_at]
      unfold gFi
      by_cases hi : i < len
      · rw [if_pos hi, if_pos (by omega)]
      · rw [if_neg hi, if_neg (by omega)]
    · rw [ext_ne hj2, ext_ne hj2]
      by_cases hj3 : j = p
      · rw [hj3, ext_eq, ext_eq]; rfl
      · rw [ext_ne hj3, ext_ne hj3, ext_ne hj2]
/-- a field filled with a new row -/
theorem i_fld (h : jW n A E w) {p ci f : Nat} {fs : List Value} (hp : p < n) (e : E p = .inr (ci, fs)) (hf : f < fs.length) {len : Nat} (h0 : 0 < len) (hl : len ≤ 100) {c : Int32} {Q : va_W → Prop} (k : ∀ q r w', jW (n + 2) (ext (ext A n q) (n + 1) r) (ext (ext (ext E p (.inr (ci, fs.set f (.ref q)))) n (.inr (6, [.ref r]))) (n + 1) (.inl (0, len, .inl (gFi len c)))) w' → Q w') : ∀ q1 : Nat, jlk w q1 = none → (fun w1 => w_X3_init κ w1 q1 (nI len) c (fun w2 => jpV w2 (A p) ci f (.ref q1) (fun w3 => Q w3))) (w ++ [(q1, .inr (6, [.null]))]) := by
  intro q hq
  have h1 := h.push hq (.inr (6, [.null]))
  have en : ext A n q n = q := ext_eq
  have := i_row (κ := κ) (len := len) (c := c) (Q := fun w2 => jpV w2 (A p) ci f (.ref q) (fun w3 => Q w3)) h1 (p := n) (by omega) ext_eq h0 hl (fun r w2 h2 => ?_)
  · rw [en] at this; exact this
  · have eA : ext (ext A n q) (n + 1) r p = A p := by rw [ext_ne (by omega), ext_ne (by omega)]
    rw [← eA]
    refine h2.put (by omega) (by rw [ext_ne (by omega), ext_ne (by omega), ext_ne (by omega)]; exact e) hf (fun w3 h3 => k q r w3 (h3.cg (fun _ _ => rfl) (fun j hj => ?_)))
    by_cases j1 : j = n + 1
    · rw [ext_at j1, ext_ne (by omega), ext_at j1]
    · by_cases j2 : j = n
      · rw [ext_ne j1, ext_at j2, ext_ne (by omega), ext_ne j1, ext_at j2]
      · by_cases j3 : j = p
        · rw [ext_ne j1, ext_ne j2, ext_at j3, ext_at j3]
        · rw [ext_ne j1, ext_ne j2, ext_ne j3, ext_ne j3, ext_ne j1, ext_ne j2, ext_ne j2]
/-- a table made: its three rows are the next six places -/
theorem i_tab (h : jW n A E w) {p : Nat} (hp : p < n) (e : E p = .inr (4, [.null, .null, .null])) {own : Nat} (h0 : 0 < own) (hl : own ≤ 16) {Q : va_W → Prop} (k : ∀ q0 r0 q1 r1 q2 r2 w', jW (n + 6) (ext (ext (ext (ext (ext (ext A n q0) (n + 1) r0) (n + 2) q1) (n + 3) r1) (n + 4) q2) (n + 5) r2) (ext (ext (ext (ext (ext (ext (ext E p (.inr (4, [.ref q0, .ref q1, .ref q2]))) n (.inr (6, [.ref r0]))) (n + 1) (.inl (0, own, .inl (gFi own 0)))) (n + 2) (.inr (6, [.ref r1]))) (n + 3) (.inl (0, own * 4, .inl (gFi (own * 4) 0)))) (n + 4) (.inr (6, [.ref r2]))) (n + 5) (.inl (0, 4, .inl (gFi 4 0)))) w' → Q w') : w_X0_init κ w (A p) (nI own) Q := by
  unfold w_X0_init w_X0_init_b0
  refine i_fld h hp e (Nat.le_of_ble_eq_true rfl) h0 (by omega) (fun q0 r0 w1 h1 => ?_)
  rw [show nI own * 4 = nI (own * 4) from nI_mul own 4]
  have a1 : ext (ext A n q0) (n + 1) r0 p = A p := by rw [ext_ne (by omega), ext_ne (by omega)]
  rw [← a1]
  refine i_fld h1 (p := p) (by omega) (by rw [ext_ne (by omega), ext_ne (by omega), ext_eq]) (Nat.le_of_ble_eq_true rfl) (by omega) (by omega) (fun q1 r1 w2 h2 => ?_)
  have a2 : ext (ext (ext (ext A n q0) (n + 1) r0) (n + 2) q1) (n + 2 + 1) r1 p = ext (ext A n q0) (n + 1) r0 p := by rw [ext_ne (by omega), ext_ne (by omega)]
  rw [← a2]
  refine i_fld (len := 4) h2 (p := p) (by omega) (by rw [ext_ne (by omega), ext_ne (by omega), ext_eq]) (Nat.le_of_ble_eq_true rfl) (by omega) (by omega) (fun q2 r2 w3 h3 => ?_)
  refine k q0 r0 q1 r1 q2 r2 w3 (h3.cg (fun i hi => rfl) (fun j hj => ?_))
  rcases (show j = n + 5 ∨ j = n + 4 ∨ j = n + 3 ∨ j = n + 2 ∨ j = n + 1 ∨ j = n ∨ j = p ∨ (j ≠ n + 5 ∧ j ≠ n + 4 ∧ j ≠ n + 3 ∧ j ≠ n + 2 ∧ j ≠ n + 1 ∧ j ≠ n ∧ j ≠ p) by omega) with e | e | e | e | e | e | e | ⟨x1, x2, x3, x4, x5, x6, x7⟩
  · subst e; simp (disch := omega) only [ext_at, ext_ne]
  · subst e; simp (disch := omega) only [ext_at, ext_ne]
  · subst e; simp (disch := omega) only [ext_at, ext_ne]
  · subst e; simp (disch := omega) only [ext_at, ext_ne]
  · subst e; simp (disch := omega) only [ext_at, ext_ne]
  · subst e; simp (disch := omega) only [ext_at, ext_ne]
  · subst e; simp (disch := omega) only [ext_at, ext_ne]; rfl
  · simp (disch := omega) only [ext_at, ext_ne]
/-- a field filled with a new table -/
theorem i_tfl (h : jW n A E w) {p ci f : Nat} {fs : List Value} (hp : p < n) (e : E p = .inr (ci, fs)) (hf : f < fs.length) {own : Nat} (h0 : 0 < own) (hl : own ≤ 16) {Q : va_W → Prop} (k : ∀ q q0 r0 q1 r1 q2 r2 w', jW (n + 7) (ext (ext (ext (ext (ext (ext (ext A n q) (n + 1) q0) (n + 2) r0) (n + 3) q1) (n + 4) r1) (n + 5) q2) (n + 6) r2) (ext (ext (ext (ext (ext (ext (ext (ext E p (.inr (ci, fs.set f (.ref q)))) n (.inr (4, [.ref q0, .ref q1, .ref q2]))) (n + 1) (.inr (6, [.ref r0]))) (n + 2) (.inl (0, own, .inl (gFi own 0)))) (n + 3) (.inr (6, [.ref r1]))) (n + 4) (.inl (0, own * 4, .inl (gFi (own * 4) 0)))) (n + 5) (.inr (6, [.ref r2]))) (n + 6) (.inl (0, 4, .inl (gFi 4 0)))) w' → Q w') : ∀ q1 : Nat, jlk w q1 = none → (fun w1 => w_X0_init κ w1 q1 (nI own) (fun w2 => jpV w2 (A p) ci f (.ref q1) (fun w3 => Q w3))) (w ++ [(q1, .inr (4, [.null, .null, .null]))]) := by
  intro q hq
  have h1 := h.push hq (.inr (4, [.null, .null, .null]))
  have en : ext A n q n = q := ext_eq
  have := i_tab (κ := κ) (own := own) (Q := fun w2 => jpV w2 (A p) ci f (.ref q) (fun w3 => Q w3)) h1 (p := n) (by omega) ext_eq h0 hl (fun q0 r0 q1 r1 q2 r2 w2 h2 => ?_)
  · rw [en] at this; exact this
  · have eA : ext (ext (ext (ext (ext (ext (ext A n q) (n + 1) q0) (n + 1 + 1) r0) (n + 1 + 2) q1) (n + 1 + 3) r1) (n + 1 + 4) q2) (n + 1 + 5) r2 p = A p := by simp (disch := omega) only [ext_at, ext_ne]
    rw [← eA]
    refine h2.put (by omega) (by simp (disch := omega) only [ext_at, ext_ne]; exact e) hf (fun w3 h3 => k q q0 r0 q1 r1 q2 r2 w3 (h3.cg (fun i hi => ?_) (fun j hj => ?_)))
    · rfl
    · rcases (show j = n + 6 ∨ j = n + 5 ∨ j = n + 4 ∨ j = n + 3 ∨ j = n + 2 ∨ j = n + 1 ∨ j = n ∨ j = p ∨ (j ≠ n + 6 ∧ j ≠ n + 5 ∧ j ≠ n + 4 ∧ j ≠ n + 3 ∧ j ≠ n + 2 ∧ j ≠ n + 1 ∧ j ≠ n ∧ j ≠ p) by omega) with e9 | e9 | e9 | e9 | e9 | e9 | e9 | e9 | ⟨x1, x2, x3, x4, x5, x6, x7, x8⟩
      all_goals try subst e9
      all_goals simp (disch := omega) only [ext_at, ext_ne]
end JMake
