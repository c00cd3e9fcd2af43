/-! ===== the constructor, whole ===== -/
section JMake5
variable {κ : Nat → Nat} {A : Nat → Nat} {E : Nat → va_E} {w : va_W}
theorem i_all (h : jW 1 A E w) (e : E 0 = .inr (11, [.null, .null, .null, .null, .null, .int 0, .null, .null, .null, .int 0, .int 0])) {Q : va_W → Prop} (k : ∀ A' E' w', A' 0 = A 0 → jW 321 A' E' w' → gMade A' E' → Q w') : w_X8_init κ w (A 0) Q := by
  unfold w_X8_init w_X8_init_b0
  refine i_st h (p := 0) (by omega) e (Nat.le_of_ble_eq_true rfl) (fun A1 E1 w1 a1 b1 c1 d1 s1 => ?_)
  rw [← a1 0 (by omega)]
  refine i_svy b1 (by omega) d1 rfl (Nat.le_of_ble_eq_true rfl) (fun A2 E2 w2 a2 b2 c2 d2 x2 y2 z2 => ?_)
  rw [← a2 0 (by omega)]
  refine i_wrk b2 (by omega) d2 rfl rfl (Nat.le_of_ble_eq_true rfl) (fun A3 E3 w3 a3 b3 c3 d3 x3 y3 z3 => ?_)
  rw [← a3 0 (by omega)]
  refine i_hst b3 (by omega) d3 (Nat.le_of_ble_eq_true rfl) (fun A4 E4 w4 a4 b4 c4 d4 x4 y4 s4 => ?_)
  rw [← a4 0 (by omega)]
  refine i_st b4 (p := 0) (by omega) d4 (Nat.le_of_ble_eq_true rfl) (fun A5 E5 w5 a5 b5 c5 d5 s5 => ?_)
  rw [← a5 0 (by omega)]
  refine i_st b5 (p := 0) (by omega) d5 (Nat.le_of_ble_eq_true rfl) (fun A6 E6 w6 a6 b6 c6 d6 s6 => ?_)
  rw [← a6 0 (by omega)]
  refine i_scr b6 (by omega) d6 (Nat.le_of_ble_eq_true rfl) (fun A7 E7 w7 a7 b7 c7 d7 x7 y7 z7 r7 => ?_)
  rw [← a7 0 (by omega)]
  intro q hq
  have h8 := b7.push hq (.inr (1, [.null, .int 0, .int 0, .int 0]))
  have en : ext A7 319 q 319 = q := ext_eq
  have t0 := fun (Q : va_W → Prop) => i_bld (κ := κ) (Q := Q) h8 (p := 319) (by omega) ext_eq
  simp only [en] at t0
  refine t0 _ (fun b w9 h9 => ?_)
  have e0 : ext (ext A7 319 q) 320 b 0 = A7 0 := by simp (disch := omega) only [ext_ne]
  rw [← e0]
  refine h9.put (p := 0) (by omega) (by rw [ext_ne (by omega), ext_ne (by omega), ext_ne (by omega)]; exact d7) (Nat.le_of_ble_eq_true rfl) (fun w10 h10 => ?_)
  refine h10.put (p := 0) (by omega) ext_eq (Nat.le_of_ble_eq_true rfl) (fun w11 h11 => ?_)
  refine h11.put (p := 0) (by omega) ext_eq (Nat.le_of_ble_eq_true rfl) (fun w12 h12 => ?_)
  -- addresses and cells at the end
  have o7 : ∀ i, i < 319 → ext (ext A7 319 q) 320 b i = A7 i := fun i hi => by simp (disch := omega) only [ext_ne]
  have o6 : ∀ i, i < 306 → ext (ext A7 319 q) 320 b i = A6 i := fun i hi => (o7 i (by omega)).trans (a7 i (by omega))
  have o5 : ∀ i, i < 279 → ext (ext A7 319 q) 320 b i = A5 i := fun i hi => (o6 i (by omega)).trans (a6 i (by omega))
  have o4 : ∀ i, i < 252 → ext (ext A7 319 q) 320 b i = A4 i := fun i hi => (o5 i (by omega)).trans (a5 i (by omega))
  have o3 : ∀ i, i < 34 → ext (ext A7 319 q) 320 b i = A3 i := fun i hi => (o4 i (by omega)).trans (a4 i (by omega))
  have o2 : ∀ i, i < 31 → ext (ext A7 319 q) 320 b i = A2 i := fun i hi => (o3 i (by omega)).trans (a3 i (by omega))
  have o1 : ∀ i, i < 28 → ext (ext A7 319 q) 320 b i = A1 i := fun i hi => (o2 i (by omega)).trans (a2 i (by omega))
  have q19 : ext (ext A7 319 q) 320 b 319 = q := by rw [ext_ne (by omega), ext_eq]
  have q20 : ext (ext A7 319 q) 320 b 320 = b := ext_eq
  have fin : ∀ E9 : Nat → va_E, jW 321 (ext (ext A7 319 q) 320 b) E9 w12 → E9 0 = .inr (11, [.ref (A1 1), .ref (A2 28), .ref (A3 31), .ref (A4 34), .ref (A5 252), .int 0, .ref (A6 279), .ref (A7 306), .ref q, .int (-1), .int (-1)]) → (∀ i, i ≠ 0 → i < 319 → E9 i = E7 i) → E9 319 = .inr (1, [.ref b, .int 0, .int 0, .int 0]) → E9 320 = .inl (1, 16, .inl (fun _ => 0)) → Q w12 := by
    intro E9 hW f0 p7 f19 f20
    refine k _ _ w12 (by rw [e0, a7 0 (by omega), a6 0 (by omega), a5 0 (by omega), a4 0 (by omega), a3 0 (by omega), a2 0 (by omega)]; exact a1 0 (by omega)) hW ?_
    generalize hA9 : ext (ext A7 319 q) 320 b = A9 at *
    have p6 : ∀ i, i ≠ 0 → i < 306 → E9 i = E6 i := fun i h0 hi => (p7 i h0 (by omega)).trans (c7 i (by omega) h0)
    have p5 : ∀ i, i ≠ 0 → i < 279 → E9 i = E5 i := fun i h0 hi => (p6 i h0 (by omega)).trans (c6 i (by omega) h0)
    have p4 : ∀ i, i ≠ 0 → i < 252 → E9 i = E4 i := fun i h0 hi => (p5 i h0 (by omega)).trans (c5 i (by omega) h0)
    have p3 : ∀ i, i ≠ 0 → i < 34 → E9 i = E3 i := fun i h0 hi => (p4 i h0 (by omega)).trans (c4 i (by omega) h0)
    have p2 : ∀ i, i ≠ 0 → i < 31 → E9 i = E2 i := fun i h0 hi => (p3 i h0 (by omega)).trans (c3 i (by omega) h0)
    have p1 : ∀ i, i ≠ 0 → i < 28 → E9 i = E1 i := fun i h0 hi => (p2 i h0 (by omega)).trans (c2 i (by omega) h0)
    refine ⟨?_, fun s hs => ?_, ⟨?_, ?_, ?_⟩, ⟨?_, ?_, ?_⟩, ⟨?_, ?_⟩, ⟨?_, ?_, ?_⟩, fun i hi => ?_, ⟨?_, f20⟩⟩
    · rw [f0, o1 1 (by omega), o2 28 (by omega), o3 31 (by omega), o4 34 (by omega), o5 252 (by omega), o6 279 (by omega), o7 306 (by omega), q19]
    · unfold sP
      by_cases h0 : s = 0
      · rw [if_pos h0]
        exact s1.tr (n := 28) o1 (fun i h1 h2 => p1 i (by omega) (by omega)) (by omega)
      · rw [if_neg h0]
        by_cases h1 : s = 1
        · rw [if_pos h1]
          exact stB.tr (b := 252) s5 (n := 279) o5 (fun i h1 h2 => p5 i (by omega) (by omega)) (by omega)
        · rw [if_neg h1]
          by_cases h2 : s = 2
          · rw [if_pos h2]
            exact stB.tr (b := 279) s6 (n := 306) o6 (fun i h1 h2 => p6 i (by omega) (by omega)) (by omega)
          · rw [if_neg h2]
            have := s4 (s - 3) (by omega)
            exact stB.tr (b := 36 + 27 * (s - 3)) this (n := 252) o4 (fun i h1 h2 => p4 i (by omega) (by omega)) (by omega)
    · rw [p2 28 (by omega) (by omega), o1 1 (by omega), o2 29 (by omega)]; exact x2
    · rw [p2 29 (by omega) (by omega), o2 30 (by omega)]; exact y2
    · rw [p2 30 (by omega) (by omega)]; exact z2
    · rw [p3 31 (by omega) (by omega), o1 1 (by omega), o2 28 (by omega), o3 32 (by omega)]; exact x3
    · rw [p3 32 (by omega) (by omega), o3 33 (by omega)]; exact y3
    · rw [p3 33 (by omega) (by omega)]; exact z3
    · rw [p4 34 (by omega) (by omega), o4 35 (by omega)]; exact x4
    · rw [p4 35 (by omega) (by omega)]
      refine Eq.trans y4 ?_
      have ef : (fun j => if j < 8 then some (A4 (1 + 27 + 3 + 3 + 2 + 27 * j)) else none) = fun j => if j < 8 then some (A9 (36 + 27 * j)) else none := by
        funext j
        by_cases hj : j < 8
        · rw [if_pos hj, if_pos hj, o4 _ (by omega)]
        · rw [if_neg hj, if_neg hj]
      rw [ef]
    · rw [p7 306 (by omega) (by omega), o7 307 (by omega), o7 309 (by omega), o7 311 (by omega), o7 313 (by omega), o7 315 (by omega), o7 317 (by omega)]; exact x7
    · rw [p7 307 (by omega) (by omega), o7 308 (by omega)]; exact y7
    · rw [p7 308 (by omega) (by omega)]; exact z7
    · obtain ⟨u, v⟩ := r7 i hi
      have e1 : 1 + 27 + 3 + 3 + 218 + 27 + 27 + 3 + 2 * i = 309 + 2 * i := by omega
      have e2 : 1 + 27 + 3 + 3 + 218 + 27 + 27 + 4 + 2 * i = 310 + 2 * i := by omega
      rw [e1, e2] at u
      rw [e2] at v
      exact ⟨by rw [p7 _ (by omega) (by omega), o7 _ (by omega)]; exact u, by rw [p7 _ (by omega) (by omega)]; exact v⟩
    · rw [f19, q20]
  exact fin _ h12 (by rw [ext_eq]; rfl) (fun i h0 hi => by simp (disch := omega) only [ext_ne]) (by simp (disch := omega) only [ext_at, ext_ne]) (by simp (disch := omega) only [ext_at, ext_ne])
end JMake5
