/-! ===== the ledger made ===== -/
def sP (s : Nat) : Nat := if s = 0 then 1 else if s = 1 then 252 else if s = 2 then 279 else 36 + 27 * (s - 3)
def gMade (A : Nat → Nat) (E : Nat → va_E) : Prop :=
  E 0 = .inr (11, [.ref (A 1), .ref (A 28), .ref (A 31), .ref (A 34), .ref (A 252), .int 0, .ref (A 279), .ref (A 306), .ref (A 319), .int (-1), .int (-1)])
  ∧ (∀ s, s < 11 → stB A E (sP s))
  ∧ (E 28 = .inr (9, [.ref (A 1), .ref (A 29)]) ∧ E 29 = .inr (6, [.ref (A 30)]) ∧ E 30 = .inl (0, 100, .inl (gFi 100 0)))
  ∧ (E 31 = .inr (10, [.ref (A 1), .ref (A 28), .ref (A 32)]) ∧ E 32 = .inr (6, [.ref (A 33)]) ∧ E 33 = .inl (0, 16, .inl (gFi 16 0)))
  ∧ (E 34 = .inr (5, [.ref (A 35), .int 0, .int 0]) ∧ E 35 = .inl (2, 8, .inr (.inr (.inr (.inr (fun j => if j < 8 then some (A (36 + 27 * j)) else none))))))
  ∧ (E 306 = .inr (7, [.ref (A 307), .ref (A 309), .ref (A 311), .ref (A 313), .ref (A 315), .ref (A 317), .int 0, .int 0, .int 0]) ∧ E 307 = .inr (1, [.ref (A 308), .int 0, .int 0, .int 0]) ∧ E 308 = .inl (1, 16, .inl (fun _ => 0)))
  ∧ (∀ i, i < 5 → E (309 + 2 * i) = .inr (6, [.ref (A (310 + 2 * i))]) ∧ E (310 + 2 * i) = .inl (0, 60, .inl (gFi 60 0)))
  ∧ (E 319 = .inr (1, [.ref (A 320), .int 0, .int 0, .int 0]) ∧ E 320 = .inl (1, 16, .inl (fun _ => 0)))
section JMake4
variable {κ : Nat → Nat} {n : Nat} {A A' : Nat → Nat} {E E' : Nat → va_E} {w : va_W}
theorem i_bld (h : jW n A E w) {p : Nat} (hp : p < n) (e : E p = .inr (1, [.null, .int 0, .int 0, .int 0])) {Q : va_W → Prop} (k : ∀ q w', jW (n + 1) (ext A n q) (ext (ext E p (.inr (1, [.ref q, .int 0, .int 0, .int 0]))) n (.inl (1, 16, .inl (fun _ => 0)))) w' → Q w') : w_J4_init_da8c8 κ w (A p) Q := by
  unfold w_J4_init_da8c8 w_J4_init_da8c8_b0 w_J5_init_d00df w_J5_init_d00df_b0
  refine ⟨by decide, by decide, fun q hq => ?_⟩
  have h1 := h.push hq (.inl (1, 16, .inl (fun _ => 0)))
  have eA : ext A n q p = A p := ext_ne (by omega)
  rw [← eA]
  refine h1.put (p := p) (by omega) (by rw [ext_ne (by omega)]; exact e) (Nat.le_of_ble_eq_true rfl) (fun w2 h2 => ?_)
  refine h2.put (p := p) (by omega) ext_eq (Nat.le_of_ble_eq_true rfl) (fun w3 h3 => ?_)
  unfold w_J5_init_d00df_b38
  refine k q w3 (h3.cg (fun _ _ => rfl) (fun j hj => ?_))
  by_cases h1 : j = n
  · rw [ext_at h1, ext_ne (by omega), ext_ne (by omega), ext_at h1]
  · by_cases h2 : j = p
    · rw [ext_ne h1, ext_at h2, ext_at h2]; rfl
    · rw [ext_ne h1, ext_ne h2, ext_ne h2, ext_ne h2, ext_ne h1]
theorem i_hst (h : jW n A E w) {fs : List Value} (h0 : 0 < n) (e : E 0 = .inr (11, fs)) (hl : 3 < fs.length) {Q : va_W → Prop} (k : ∀ A' E' w', (∀ i, i < n → A' i = A i) → jW (n + 218) A' E' w' → (∀ i, i < n → i ≠ 0 → E' i = E i) → E' 0 = .inr (11, fs.set 3 (.ref (A' n))) → E' n = .inr (5, [.ref (A' (n + 1)), .int 0, .int 0]) → E' (n + 1) = .inl (2, 8, .inr (.inr (.inr (.inr (fun j => if j < 8 then some (A' (n + 2 + 27 * j)) else none))))) → (∀ j, j < 8 → stB A' E' (n + 2 + 27 * j)) → Q w') : ∀ q13 : Nat, jlk w q13 = none → (fun w13 => w_X1_init κ w13 q13 (fun w14 => jpV w14 (A 0) 11 3 (.ref q13) (fun w15 => Q w15))) (w ++ [(q13, .inr (5, [.null, .int 0, .int 0]))]) := by
  intro q hq
  have h1 := h.push hq (.inr (5, [.null, .int 0, .int 0]))
  have en : ext A n q n = q := ext_eq
  unfold w_X1_init w_X1_init_b0
  refine ⟨by decide, by decide, fun r hr => ?_⟩
  have h2 := h1.push hr (.inl (2, Int32.toNatClampNeg 8, .inr (.inr (.inr (.inr (fun _ => none))))))
  have en2 : ext (ext A n q) (n + 1) r n = q := by rw [ext_ne (by omega), en]
  have t1 := fun (Q : va_W → Prop) => h2.put (p := n) (ci := 5) (k := 0) (fs := [.null, .int 0, .int 0]) (x := .ref r) (Q := Q) (by omega) (by rw [ext_ne (by omega), ext_eq]) (Nat.le_of_ble_eq_true rfl)
  simp only [en2] at t1
  refine t1 _ (fun w3 h3 => ?_)
  have er : ext (ext A n q) (n + 1) r (n + 1) = r := ext_eq
  have t2 := fun (Q : va_W → Prop) => i_ringL (κ := κ) (p := n) (pa := n + 1) (b := n + 2) (Q := Q) (by omega) 9 0 (n + 2) _ _ w3 (by omega) (by omega) (by omega) h3 (by rw [ext_eq, er]; rfl) (by rw [ext_ne (by omega), ext_eq]; rfl) (fun j hj => absurd hj (Nat.not_lt_zero _))
  simp only [en2] at t2
  refine t2 _ (fun A2 E2 w4 a1 a2 a3 a4 a5 => ?_)
  have e2n : A2 n = q := by rw [a1 n (by omega), en2]
  have e20 : A2 0 = A 0 := by rw [a1 0 (by omega)]; simp (disch := omega) only [ext_at, ext_ne]
  have e21 : A2 (n + 1) = r := by rw [a1 (n + 1) (by omega), er]
  rw [← e20, ← e2n]
  have Eold : ∀ i, i < n → E2 i = E i := fun i hi => by rw [a3 i (by omega) (by omega)]; simp (disch := omega) only [ext_at, ext_ne]
  refine a2.put (p := 0) (by omega) (by rw [Eold 0 h0]; exact e) hl (fun w5 h5 => k A2 _ w5 (fun i hi => by rw [a1 i (by omega)]; simp (disch := omega) only [ext_at, ext_ne]) (by rw [show n + 218 = n + 2 + 216 by omega]; exact h5) (fun i hi hne => by rw [ext_ne hne, Eold i hi]) ext_eq ?_ ?_ (fun j hj => ?_))
  · rw [ext_ne (by omega), a3 n (by omega) (by omega), ext_eq, e21]; rfl
  · rw [ext_ne (by omega), a4]
  · obtain ⟨b1, b2⟩ := a5 j hj
    exact ⟨by rw [ext_ne (by omega)]; exact b1, fun t ht => by rw [ext_ne (by omega)]; exact b2 t ht⟩
theorem i_scr (h : jW n A E w) {fs : List Value} (h0 : 0 < n) (e : E 0 = .inr (11, fs)) (hl : 7 < fs.length) {Q : va_W → Prop} (k : ∀ A' E' w', (∀ i, i < n → A' i = A i) → jW (n + 13) A' E' w' → (∀ i, i < n → i ≠ 0 → E' i = E i) → E' 0 = .inr (11, fs.set 7 (.ref (A' n))) → E' n = .inr (7, [.ref (A' (n + 1)), .ref (A' (n + 3)), .ref (A' (n + 5)), .ref (A' (n + 7)), .ref (A' (n + 9)), .ref (A' (n + 11)), .int 0, .int 0, .int 0]) → E' (n + 1) = .inr (1, [.ref (A' (n + 2)), .int 0, .int 0, .int 0]) → E' (n + 2) = .inl (1, 16, .inl (fun _ => 0)) → (∀ i, i < 5 → E' (n + 3 + 2 * i) = .inr (6, [.ref (A' (n + 4 + 2 * i))]) ∧ E' (n + 4 + 2 * i) = .inl (0, 60, .inl (gFi 60 0))) → Q w') : ∀ q22 : Nat, jlk w q22 = none → (fun w22 => w_X4_init κ w22 q22 (fun w23 => jpV w23 (A 0) 11 7 (.ref q22) (fun w24 => Q w24))) (w ++ [(q22, .inr (7, [.null, .null, .null, .null, .null, .null, .int 0, .int 0, .int 0]))]) := by
  intro q hq
  have h1 := h.push hq (.inr (7, [.null, .null, .null, .null, .null, .null, .int 0, .int 0, .int 0]))
  have en : ext A n q n = q := ext_eq
  unfold w_X4_init w_X4_init_b0
  intro b hb
  have h2 := h1.push hb (.inr (1, [.null, .int 0, .int 0, .int 0]))
  have eb : ext (ext A n q) (n + 1) b (n + 1) = b := ext_eq
  have t0 := fun (Q : va_W → Prop) => i_bld (κ := κ) (Q := Q) h2 (p := n + 1) (by omega) ext_eq
  simp only [eb] at t0
  refine t0 _ (fun b1 w3 h3 => ?_)
  generalize hA3 : ext (ext (ext A n q) (n + 1) b) (n + 1 + 1) b1 = A3 at h3
  have e3 : A3 n = q := by rw [← hA3]; simp (disch := omega) only [ext_at, ext_ne]
  have t1 := fun (Q : va_W → Prop) => h3.put (p := n) (ci := 7) (k := 0) (fs := [.null, .null, .null, .null, .null, .null, .int 0, .int 0, .int 0]) (x := .ref b) (Q := Q) (by omega) (by simp (disch := omega) only [ext_at, ext_ne]) (Nat.le_of_ble_eq_true rfl)
  simp only [e3] at t1
  refine t1 _ (fun w4 h4 => ?_)
  have t2 := fun (Q : va_W → Prop) => i_fld (κ := κ) (len := 60) (c := 0) h4 (p := n) (ci := 7) (f := 1) (fs := [.ref b, .null, .null, .null, .null, .null, .int 0, .int 0, .int 0]) (Q := Q) (by omega) ext_eq (Nat.le_of_ble_eq_true rfl) (by omega) (by omega)
  simp only [e3] at t2
  refine t2 _ (fun q1 r1 w5 h5 => ?_)
  generalize hA5 : ext (ext A3 (n + 1 + 1 + 1) q1) (n + 1 + 1 + 1 + 1) r1 = A5 at h5
  have e5 : A5 n = q := by rw [← hA5]; simp (disch := omega) only [ext_at, ext_ne]; exact e3
  have t3 := fun (Q : va_W → Prop) => i_fld (κ := κ) (len := 60) (c := 0) h5 (p := n) (ci := 7) (f := 2) (fs := [.ref b, .ref q1, .null, .null, .null, .null, .int 0, .int 0, .int 0]) (Q := Q) (by omega) (by simp (disch := omega) only [ext_at, ext_ne]; rfl) (Nat.le_of_ble_eq_true rfl) (by omega) (by omega)
  simp only [e5] at t3
  refine t3 _ (fun q2 r2 w6 h6 => ?_)
  generalize hA6 : ext (ext A5 (n + 1 + 1 + 1 + 2) q2) (n + 1 + 1 + 1 + 2 + 1) r2 = A6 at h6
  have e6 : A6 n = q := by rw [← hA6]; simp (disch := omega) only [ext_at, ext_ne]; exact e5
  have t4 := fun (Q : va_W → Prop) => i_fld (κ := κ) (len := 60) (c := 0) h6 (p := n) (ci := 7) (f := 3) (fs := [.ref b, .ref q1, .ref q2, .null, .null, .null, .int 0, .int 0, .int 0]) (Q := Q) (by omega) (by simp (disch := omega) only [ext_at, ext_ne]; rfl) (Nat.le_of_ble_eq_true rfl) (by omega) (by omega)
  simp only [e6] at t4
  refine t4 _ (fun q3 r3 w7 h7 => ?_)
  generalize hA7 : ext (ext A6 (n + 1 + 1 + 1 + 2 + 2) q3) (n + 1 + 1 + 1 + 2 + 2 + 1) r3 = A7 at h7
  have e7 : A7 n = q := by rw [← hA7]; simp (disch := omega) only [ext_at, ext_ne]; exact e6
  have t5 := fun (Q : va_W → Prop) => i_fld (κ := κ) (len := 60) (c := 0) h7 (p := n) (ci := 7) (f := 4) (fs := [.ref b, .ref q1, .ref q2, .ref q3, .null, .null, .int 0, .int 0, .int 0]) (Q := Q) (by omega) (by simp (disch := omega) only [ext_at, ext_ne]; rfl) (Nat.le_of_ble_eq_true rfl) (by omega) (by omega)
  simp only [e7] at t5
  refine t5 _ (fun q4 r4 w8 h8 => ?_)
  generalize hA8 : ext (ext A7 (n + 1 + 1 + 1 + 2 + 2 + 2) q4) (n + 1 + 1 + 1 + 2 + 2 + 2 + 1) r4 = A8 at h8
  have e8 : A8 n = q := by rw [← hA8]; simp (disch := omega) only [ext_at, ext_ne]; exact e7
  have t6 := fun (Q : va_W → Prop) => i_fld (κ := κ) (len := 60) (c := 0) h8 (p := n) (ci := 7) (f := 5) (fs := [.ref b, .ref q1, .ref q2, .ref q3, .ref q4, .null, .int 0, .int 0, .int 0]) (Q := Q) (by omega) (by simp (disch := omega) only [ext_at, ext_ne]; rfl) (Nat.le_of_ble_eq_true rfl) (by omega) (by omega)
  simp only [e8] at t6
  refine t6 _ (fun q5 r5 w9 h9 => ?_)
  generalize hA9 : ext (ext A8 (n + 1 + 1 + 1 + 2 + 2 + 2 + 2) q5) (n + 1 + 1 + 1 + 2 + 2 + 2 + 2 + 1) r5 = A9 at h9
  have at' : ∀ j v, ext (ext A8 (n + 1 + 1 + 1 + 2 + 2 + 2 + 2) q5) (n + 1 + 1 + 1 + 2 + 2 + 2 + 2 + 1) r5 j = v → A9 j = v := fun j v e => by rw [← hA9]; exact e
  have old : ∀ i, i < n → A9 i = A i := fun i hi => by rw [← hA9, ← hA8, ← hA7, ← hA6, ← hA5, ← hA3]; simp (disch := omega) only [ext_at, ext_ne]
  have B0 : A9 n = q := by rw [← hA9]; simp (disch := omega) only [ext_at, ext_ne]; exact e8
  have B1 : A9 (n + 1) = b := by rw [← hA9, ← hA8, ← hA7, ← hA6, ← hA5, ← hA3]; simp (disch := omega) only [ext_at, ext_ne]
  have B2 : A9 (n + 2) = b1 := by rw [← hA9, ← hA8, ← hA7, ← hA6, ← hA5, ← hA3]; simp (disch := omega) only [ext_at, ext_ne]
  have B3 : A9 (n + 3) = q1 := by rw [← hA9, ← hA8, ← hA7, ← hA6, ← hA5]; simp (disch := omega) only [ext_at, ext_ne]
  have B4 : A9 (n + 4) = r1 := by rw [← hA9, ← hA8, ← hA7, ← hA6, ← hA5]; simp (disch := omega) only [ext_at, ext_ne]
  have B5 : A9 (n + 5) = q2 := by rw [← hA9, ← hA8, ← hA7, ← hA6]; simp (disch := omega) only [ext_at, ext_ne]
  have B6 : A9 (n + 6) = r2 := by rw [← hA9, ← hA8, ← hA7, ← hA6]; simp (disch := omega) only [ext_at, ext_ne]
  have B7 : A9 (n + 7) = q3 := by rw [← hA9, ← hA8, ← hA7]; simp (disch := omega) only [ext_at, ext_ne]
  have B8 : A9 (n + 8) = r3 := by rw [← hA9, ← hA8, ← hA7]; simp (disch := omega) only [ext_at, ext_ne]
  have B9 : A9 (n + 9) = q4 := by rw [← hA9, ← hA8]; simp (disch := omega) only [ext_at, ext_ne]
  have B10 : A9 (n + 10) = r4 := by rw [← hA9, ← hA8]; simp (disch := omega) only [ext_at, ext_ne]
  have B11 : A9 (n + 11) = q5 := by rw [← hA9]; simp (disch := omega) only [ext_at, ext_ne]
  have B12 : A9 (n + 12) = r5 := by rw [← hA9]; simp (disch := omega) only [ext_at, ext_ne]
  rw [← old 0 h0, ← B0]
  refine h9.put (p := 0) (by omega) (by simp (disch := omega) only [ext_at, ext_ne]; exact e) hl (fun w10 h10 => k A9 _ w10 old h10 (fun i hi hne => by simp (disch := omega) only [ext_at, ext_ne]) ext_eq ?_ ?_ ?_ (fun i hi => ?_))
  · rw [B1, B3, B5, B7, B9, B11]; simp (disch := omega) only [ext_at, ext_ne]; rfl
  · rw [B2]; simp (disch := omega) only [ext_at, ext_ne]
  · simp (disch := omega) only [ext_at, ext_ne]
  · rcases (show i = 0 ∨ i = 1 ∨ i = 2 ∨ i = 3 ∨ i = 4 by omega) with rfl | rfl | rfl | rfl | rfl
    · rw [show n + 4 + 2 * 0 = n + 4 by omega, B4]; exact ⟨by simp (disch := omega) only [ext_at, ext_ne], by simp (disch := omega) only [ext_at, ext_ne]⟩
    · rw [show n + 4 + 2 * 1 = n + 6 by omega, B6]; exact ⟨by simp (disch := omega) only [ext_at, ext_ne], by simp (disch := omega) only [ext_at, ext_ne]⟩
    · rw [show n + 4 + 2 * 2 = n + 8 by omega, B8]; exact ⟨by simp (disch := omega) only [ext_at, ext_ne], by simp (disch := omega) only [ext_at, ext_ne]⟩
    · rw [show n + 4 + 2 * 3 = n + 10 by omega, B10]; exact ⟨by simp (disch := omega) only [ext_at, ext_ne], by simp (disch := omega) only [ext_at, ext_ne]⟩
    · rw [show n + 4 + 2 * 4 = n + 12 by omega, B12]; exact ⟨by simp (disch := omega) only [ext_at, ext_ne], by simp (disch := omega) only [ext_at, ext_ne]⟩
end JMake4
