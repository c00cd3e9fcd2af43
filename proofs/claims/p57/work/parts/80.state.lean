/-! ===== a state made ===== -/
def stC (A : Nat → Nat) (n : Nat) : va_E := .inr (8, [.ref (A n), .ref (A (n + 2)), .ref (A (n + 4)), .ref (A (n + 6)), .ref (A (n + 8)), .ref (A (n + 10)), .ref (A (n + 17)), .ref (A (n + 19)), .int 0, .int 1, .int 0, .int 0])
def stE (A : Nat → Nat) (n : Nat) : Nat → va_E
  | 0 => .inr (6, [.ref (A (n + 1))])
  | 1 => .inl (0, 16, .inl (upd (gFi 16 (-1)) 0 0))
  | 2 => .inr (6, [.ref (A (n + 3))])
  | 3 => .inl (0, 16, .inl (gFi 16 (-1)))
  | 4 => .inr (6, [.ref (A (n + 5))])
  | 5 => .inl (0, 16, .inl (gFi 16 (-1)))
  | 6 => .inr (6, [.ref (A (n + 7))])
  | 7 => .inl (0, 16, .inl (upd (gFi 16 0) 0 1))
  | 8 => .inr (6, [.ref (A (n + 9))])
  | 9 => .inl (0, 16, .inl (gFi 16 0))
  | 10 => .inr (4, [.ref (A (n + 11)), .ref (A (n + 13)), .ref (A (n + 15))])
  | 11 => .inr (6, [.ref (A (n + 12))])
  | 12 => .inl (0, 16, .inl (gFi 16 0))
  | 13 => .inr (6, [.ref (A (n + 14))])
  | 14 => .inl (0, 64, .inl (gFi 64 0))
  | 15 => .inr (6, [.ref (A (n + 16))])
  | 16 => .inl (0, 4, .inl (gFi 4 0))
  | 17 => .inr (6, [.ref (A (n + 18))])
  | 18 => .inl (0, 4, .inl (gFi 4 0))
  | 19 => .inr (4, [.ref (A (n + 20)), .ref (A (n + 22)), .ref (A (n + 24))])
  | 20 => .inr (6, [.ref (A (n + 21))])
  | 21 => .inl (0, 4, .inl (gFi 4 0))
  | 22 => .inr (6, [.ref (A (n + 23))])
  | 23 => .inl (0, 16, .inl (gFi 16 0))
  | 24 => .inr (6, [.ref (A (n + 25))])
  | _ => .inl (0, 4, .inl (gFi 4 0))
section JMake2
variable {κ : Nat → Nat} {n : Nat} {A A' : Nat → Nat} {E E' : Nat → va_E} {w : va_W}
theorem i_put0 (h : jW n A E w) {p p1 len : Nat} {f : Nat → Int32} {v : Int32} (hp : p < n) (hp1 : p1 < n) (e : E p = .inr (6, [.ref (A p1)])) (e1 : E p1 = .inl (0, len, .inl f)) (h0 : 0 < len) (hl : len < 2 ^ 31) {Q : va_W → Prop} (k : ∀ w', jW n A (ext E p1 (.inl (0, len, .inl (upd f 0 v)))) w' → Q w') : w_X3_put κ w (A p) 0 v Q := by
  have hr := h.2 p hp
  rw [e] at hr
  have ha := h.2 p1 hp1
  rw [e1] at ha
  unfold w_X3_put w_X3_put_b0
  rw [if_neg (by decide)]
  refine (jgR_eq hr rfl).mpr ((jAl_eq ha (by decide)).mpr ?_)
  rw [if_neg (fun g : Int32.ofNat len ≤ 0 => by have := (nI_leI (a := len) (b := 0) hl (by omega)).mp g; omega)]
  refine (jgR_eq hr rfl).mpr ((jSi_eq ha (nI_in (c := 0) h0 hl)).mpr ?_)
  exact k _ (h.set hp1 _)
set_option maxHeartbeats 4000000 in
theorem i_state (h : jW n A E w) {p : Nat} (hp : p < n) (e : E p = .inr (8, [.null, .null, .null, .null, .null, .null, .null, .null, .int 0, .int 0, .int 0, .int 0])) {Q : va_W → Prop} (k : ∀ A' E' w', (∀ i, i < n → A' i = A i) → jW (n + 26) A' E' w' → (∀ i, i < n → i ≠ p → E' i = E i) → E' p = stC A' n → (∀ j, j < 26 → E' (n + j) = stE A' n j) → Q w') : w_X5_init κ w (A p) Q := by
  unfold w_X5_init w_X5_init_b0
  refine i_fld (len := 16) h hp e (Nat.le_of_ble_eq_true rfl) (by omega) (by omega) (fun q0 r0 w1 h1 => ?_)
  have b1 : ext (ext A n q0) (n + 1) r0 p = A p := by simp (disch := omega) only [ext_at, ext_ne]
  rw [← b1]
  refine i_fld (len := 16) (p := p) h1 (by omega) (by simp (disch := omega) only [ext_at, ext_ne]; rfl) (Nat.le_of_ble_eq_true rfl) (by omega) (by omega) (fun q1 r1 w2 h2 => ?_)
  rw [b1]
  generalize hA2 : ext (ext (ext (ext A n q0) (n + 1) r0) (n + 2) q1) (n + 2 + 1) r1 = A2 at h2
  have b2 : A2 p = A p := by rw [← hA2]; simp (disch := omega) only [ext_at, ext_ne]
  rw [← b2]
  refine i_fld (len := 16) (p := p) h2 (by omega) (by simp (disch := omega) only [ext_at, ext_ne]; rfl) (Nat.le_of_ble_eq_true rfl) (by omega) (by omega) (fun q2 r2 w3 h3 => ?_)
  rw [b2]
  generalize hA3 : ext (ext A2 (n + 2 + 2) q2) (n + 2 + 2 + 1) r2 = A3 at h3
  have b3 : A3 p = A p := by rw [← hA3]; simp (disch := omega) only [ext_at, ext_ne]; exact b2
  rw [← b3]
  refine i_fld (len := 16) (p := p) h3 (by omega) (by simp (disch := omega) only [ext_at, ext_ne]; rfl) (Nat.le_of_ble_eq_true rfl) (by omega) (by omega) (fun q3 r3 w4 h4 => ?_)
  rw [b3]
  generalize hA4 : ext (ext A3 (n + 2 + 2 + 2) q3) (n + 2 + 2 + 2 + 1) r3 = A4 at h4
  have b4 : A4 p = A p := by rw [← hA4]; simp (disch := omega) only [ext_at, ext_ne]; exact b3
  rw [← b4]
  refine i_fld (len := 16) (p := p) h4 (by omega) (by simp (disch := omega) only [ext_at, ext_ne]; rfl) (Nat.le_of_ble_eq_true rfl) (by omega) (by omega) (fun q4 r4 w5 h5 => ?_)
  rw [b4]
  generalize hA5 : ext (ext A4 (n + 2 + 2 + 2 + 2) q4) (n + 2 + 2 + 2 + 2 + 1) r4 = A5 at h5
  have b5 : A5 p = A p := by rw [← hA5]; simp (disch := omega) only [ext_at, ext_ne]; exact b4
  -- the blocks' table
  rw [← b5]
  refine i_tfl (own := 16) (p := p) h5 (by omega) (by simp (disch := omega) only [ext_at, ext_ne]; rfl) (Nat.le_of_ble_eq_true rfl) (by omega) (by omega) (fun q16 q5 r5 q6 r6 q7 r7 w7 h7 => ?_)
  rw [b5]
  generalize hA7 : ext (ext (ext (ext (ext (ext (ext A5 (n + 2 + 2 + 2 + 2 + 2) q16) (n + 2 + 2 + 2 + 2 + 2 + 1) q5) (n + 2 + 2 + 2 + 2 + 2 + 2) r5) (n + 2 + 2 + 2 + 2 + 2 + 3) q6) (n + 2 + 2 + 2 + 2 + 2 + 4) r6) (n + 2 + 2 + 2 + 2 + 2 + 5) q7) (n + 2 + 2 + 2 + 2 + 2 + 6) r7 = A7 at h7
  have b7 : A7 p = A p := by rw [← hA7]; simp (disch := omega) only [ext_at, ext_ne]; exact b5
  rw [← b7]
  refine i_fld (len := 4) (p := p) h7 (by omega) (by simp (disch := omega) only [ext_at, ext_ne]; rfl) (Nat.le_of_ble_eq_true rfl) (by omega) (by omega) (fun q8 r8 w9 h9 => ?_)
  rw [b7]
  generalize hA9 : ext (ext A7 (n + 2 + 2 + 2 + 2 + 2 + 7) q8) (n + 2 + 2 + 2 + 2 + 2 + 7 + 1) r8 = A9 at h9
  have b9 : A9 p = A p := by rw [← hA9]; simp (disch := omega) only [ext_at, ext_ne]; exact b7
  -- the hills' table
  rw [← b9]
  refine i_tfl (own := 4) (p := p) h9 (by omega) (by simp (disch := omega) only [ext_at, ext_ne]; rfl) (Nat.le_of_ble_eq_true rfl) (by omega) (by omega) (fun q22 q9 r9 q10 r10 q11 r11 w11 h11 => ?_)
  rw [b9]
  · · generalize hA11 : ext (ext (ext (ext (ext (ext (ext A9 (n + 2 + 2 + 2 + 2 + 2 + 7 + 2) q22) (n + 2 + 2 + 2 + 2 + 2 + 7 + 2 + 1) q9) (n + 2 + 2 + 2 + 2 + 2 + 7 + 2 + 2) r9) (n + 2 + 2 + 2 + 2 + 2 + 7 + 2 + 3) q10) (n + 2 + 2 + 2 + 2 + 2 + 7 + 2 + 4) r10) (n + 2 + 2 + 2 + 2 + 2 + 7 + 2 + 5) q11) (n + 2 + 2 + 2 + 2 + 2 + 7 + 2 + 6) r11 = A11 at h11
      have old : ∀ i, i < n → A11 i = A i := fun i hi => by
        rw [← hA11, ← hA9, ← hA7, ← hA5, ← hA4, ← hA3, ← hA2]; simp (disch := omega) only [ext_at, ext_ne]
      have A0 : A11 n = q0 := by rw [← hA11, ← hA9, ← hA7, ← hA5, ← hA4, ← hA3, ← hA2]; simp (disch := omega) only [ext_at, ext_ne]
      have A1 : A11 (n + 1) = r0 := by rw [← hA11, ← hA9, ← hA7, ← hA5, ← hA4, ← hA3, ← hA2]; simp (disch := omega) only [ext_at, ext_ne]
      have A2' : A11 (n + 2) = q1 := by rw [← hA11, ← hA9, ← hA7, ← hA5, ← hA4, ← hA3, ← hA2]; simp (disch := omega) only [ext_at, ext_ne]
      have A3' : A11 (n + 3) = r1 := by rw [← hA11, ← hA9, ← hA7, ← hA5, ← hA4, ← hA3, ← hA2]; simp (disch := omega) only [ext_at, ext_ne]
      have A4' : A11 (n + 4) = q2 := by rw [← hA11, ← hA9, ← hA7, ← hA5, ← hA4, ← hA3]; simp (disch := omega) only [ext_at, ext_ne]
      have A5' : A11 (n + 5) = r2 := by rw [← hA11, ← hA9, ← hA7, ← hA5, ← hA4, ← hA3]; simp (disch := omega) only [ext_at, ext_ne]
      have A6' : A11 (n + 6) = q3 := by rw [← hA11, ← hA9, ← hA7, ← hA5, ← hA4]; simp (disch := omega) only [ext_at, ext_ne]
      have A7' : A11 (n + 7) = r3 := by rw [← hA11, ← hA9, ← hA7, ← hA5, ← hA4]; simp (disch := omega) only [ext_at, ext_ne]
      have A8' : A11 (n + 8) = q4 := by rw [← hA11, ← hA9, ← hA7, ← hA5]; simp (disch := omega) only [ext_at, ext_ne]
      have A9' : A11 (n + 9) = r4 := by rw [← hA11, ← hA9, ← hA7, ← hA5]; simp (disch := omega) only [ext_at, ext_ne]
      have A10 : A11 (n + 10) = q16 := by rw [← hA11, ← hA9, ← hA7]; simp (disch := omega) only [ext_at, ext_ne]
      have A11' : A11 (n + 11) = q5 := by rw [← hA11, ← hA9, ← hA7]; simp (disch := omega) only [ext_at, ext_ne]
      have A12 : A11 (n + 12) = r5 := by rw [← hA11, ← hA9, ← hA7]; simp (disch := omega) only [ext_at, ext_ne]
      have A13 : A11 (n + 13) = q6 := by rw [← hA11, ← hA9, ← hA7]; simp (disch := omega) only [ext_at, ext_ne]
      have A14 : A11 (n + 14) = r6 := by rw [← hA11, ← hA9, ← hA7]; simp (disch := omega) only [ext_at, ext_ne]
      have A15 : A11 (n + 15) = q7 := by rw [← hA11, ← hA9, ← hA7]; simp (disch := omega) only [ext_at, ext_ne]
      have A16 : A11 (n + 16) = r7 := by rw [← hA11, ← hA9, ← hA7]; simp (disch := omega) only [ext_at, ext_ne]
      have A17 : A11 (n + 17) = q8 := by rw [← hA11, ← hA9]; simp (disch := omega) only [ext_at, ext_ne]
      have A18 : A11 (n + 18) = r8 := by rw [← hA11, ← hA9]; simp (disch := omega) only [ext_at, ext_ne]
      have A19 : A11 (n + 19) = q22 := by rw [← hA11]; simp (disch := omega) only [ext_at, ext_ne]
      have A20 : A11 (n + 20) = q9 := by rw [← hA11]; simp (disch := omega) only [ext_at, ext_ne]
      have A21 : A11 (n + 21) = r9 := by rw [← hA11]; simp (disch := omega) only [ext_at, ext_ne]
      have A22 : A11 (n + 22) = q10 := by rw [← hA11]; simp (disch := omega) only [ext_at, ext_ne]
      have A23 : A11 (n + 23) = r10 := by rw [← hA11]; simp (disch := omega) only [ext_at, ext_ne]
      have A24 : A11 (n + 24) = q11 := by rw [← hA11]; simp (disch := omega) only [ext_at, ext_ne]
      have A25 : A11 (n + 25) = r11 := by rw [← hA11]; simp (disch := omega) only [ext_at, ext_ne]
      rw [← old p hp]
      refine (jgR_eq (v := q0) (by rw [h11.2 p (by omega)]; simp (disch := omega) only [ext_at, ext_ne]; rfl) rfl).mpr ?_
      rw [← A0]
      have r0c : jlk w11 (A11 n) = some (.inr (6, [.ref (A11 (n + 1))])) := by
        rw [h11.2 n (by omega), A1]; simp (disch := omega) only [ext_at, ext_ne]
      refine ⟨⟨_, r0c⟩, ?_⟩
      refine i_put0 (p := n) (p1 := n + 1) (len := 16) (f := gFi 16 (-1)) h11 (by omega) (by omega) (by rw [A1]; simp (disch := omega) only [ext_at, ext_ne]) (by simp (disch := omega) only [ext_at, ext_ne]) (by omega) (by omega) (fun w13 h13 => ?_)
      refine (jgR_eq (v := q3) (by rw [h13.2 p (by omega)]; simp (disch := omega) only [ext_at, ext_ne]; rfl) rfl).mpr ?_
      rw [← A6']
      have r3c : jlk w13 (A11 (n + 6)) = some (.inr (6, [.ref (A11 (n + 7))])) := by
        rw [h13.2 (n + 6) (by omega), A7']; simp (disch := omega) only [ext_at, ext_ne]
      refine ⟨⟨_, r3c⟩, ?_⟩
      refine i_put0 (p := n + 6) (p1 := n + 7) (len := 16) (f := gFi 16 0) h13 (by omega) (by omega) (by rw [A7']; simp (disch := omega) only [ext_at, ext_ne]) (by simp (disch := omega) only [ext_at, ext_ne]) (by omega) (by omega) (fun w14 h14 => ?_)
      refine h14.put (p := p) (by omega) (by simp (disch := omega) only [ext_at, ext_ne]; rfl) (Nat.le_of_ble_eq_true rfl) (fun w15 h15 => ?_)
      refine k A11 _ w15 old h15 (fun i hi hne => ?_) ?_ (fun j hj => ?_)
      · simp (disch := omega) only [ext_at, ext_ne]
      · rw [ext_eq]
        unfold stC
        rw [A0, A2', A4', A6', A8', A10, A17, A19]; rfl
      · rcases (show j = 0 ∨ j = 1 ∨ j = 2 ∨ j = 3 ∨ j = 4 ∨ j = 5 ∨ j = 6 ∨ j = 7 ∨ j = 8 ∨ j = 9 ∨ j = 10 ∨ j = 11 ∨ j = 12 ∨ j = 13 ∨ j = 14 ∨ j = 15 ∨ j = 16 ∨ j = 17 ∨ j = 18 ∨ j = 19 ∨ j = 20 ∨ j = 21 ∨ j = 22 ∨ j = 23 ∨ j = 24 ∨ j = 25 by omega) with rfl | rfl | rfl | rfl | rfl | rfl | rfl | rfl | rfl | rfl | rfl | rfl | rfl | rfl | rfl | rfl | rfl | rfl | rfl | rfl | rfl | rfl | rfl | rfl | rfl | rfl
        all_goals simp (disch := omega) only [stE, ext_at, ext_ne, A1, A3', A5', A7', A9', A11', A12, A13, A14, A15, A16, A18, A20, A21, A22, A23, A24, A25]
end JMake2
