/-! ===== the ledger's parts made ===== -/
def stB (A : Nat → Nat) (E : Nat → va_E) (b : Nat) : Prop := E b = stC A (b + 1) ∧ ∀ j, j < 26 → E (b + 1 + j) = stE A (b + 1) j
section JMake3
variable {κ : Nat → Nat} {n : Nat} {A A' : Nat → Nat} {E E' : Nat → va_E} {w : va_W}
theorem stE_c {b : Nat} (h : ∀ i, b ≤ i → i < b + 26 → A' i = A i) : ∀ j, j < 26 → stE A' b j = stE A b j := by
  intro j hj
  rcases (show j = 0 ∨ j = 1 ∨ j = 2 ∨ j = 3 ∨ j = 4 ∨ j = 5 ∨ j = 6 ∨ j = 7 ∨ j = 8 ∨ j = 9 ∨ j = 10 ∨ j = 11 ∨ j = 12 ∨ j = 13 ∨ j = 14 ∨ j = 15 ∨ j = 16 ∨ j = 17 ∨ j = 18 ∨ j = 19 ∨ j = 20 ∨ j = 21 ∨ j = 22 ∨ j = 23 ∨ j = 24 ∨ j = 25 by omega) with rfl | rfl | rfl | rfl | rfl | rfl | rfl | rfl | rfl | rfl | rfl | rfl | rfl | rfl | rfl | rfl | rfl | rfl | rfl | rfl | rfl | rfl | rfl | rfl | rfl | rfl
  all_goals simp (disch := omega) only [stE, h]
theorem stB.tr {b : Nat} (h : stB A E b) (hA : ∀ i, i < n → A' i = A i) (hE : ∀ i, b ≤ i → i < b + 27 → E' i = E i) (hb : b + 27 ≤ n) : stB A' E' b := by
  refine ⟨?_, fun j hj => ?_⟩
  · rw [hE b (by omega) (by omega), h.1]
    unfold stC
    rw [hA (b + 1) (by omega), hA (b + 1 + 2) (by omega), hA (b + 1 + 4) (by omega), hA (b + 1 + 6) (by omega), hA (b + 1 + 8) (by omega), hA (b + 1 + 10) (by omega), hA (b + 1 + 17) (by omega), hA (b + 1 + 19) (by omega)]
  · rw [hE (b + 1 + j) (by omega) (by omega), h.2 j hj]
    exact (stE_c (fun i h1 h2 => hA i (by omega)) j hj).symm
/-- a state as a field -/
theorem i_st (h : jW n A E w) {p ci f : Nat} {fs : List Value} (hp : p < n) (e : E p = .inr (ci, fs)) (hf : f < fs.length) {Q : va_W → Prop} (k : ∀ A' E' w', (∀ i, i < n → A' i = A i) → jW (n + 27) A' E' w' → (∀ i, i < n → i ≠ p → E' i = E i) → E' p = .inr (ci, fs.set f (.ref (A' n))) → stB A' E' n → Q w') : ∀ q1 : Nat, jlk w q1 = none → (fun w1 => w_X5_init κ w1 q1 (fun w2 => jpV w2 (A p) ci f (.ref q1) (fun w3 => Q w3))) (w ++ [(q1, .inr (8, [.null, .null, .null, .null, .null, .null, .null, .null, .int 0, .int 0, .int 0, .int 0]))]) := by
  intro q hq
  have h1 := h.push hq (.inr (8, [.null, .null, .null, .null, .null, .null, .null, .null, .int 0, .int 0, .int 0, .int 0]))
  have en : ext A n q n = q := ext_eq
  have := i_state (κ := κ) (Q := fun w2 => jpV w2 (A p) ci f (.ref q) (fun w3 => Q w3)) h1 (p := n) (by omega) ext_eq (fun A2 E2 w2 a1 a2 a3 a4 a5 => ?_)
  · rw [en] at this; exact this
  · have eq : A2 n = q := by rw [a1 n (by omega), en]
    have ep : A2 p = A p := by rw [a1 p (by omega), ext_ne (by omega)]
    rw [← ep, ← eq]
    refine a2.put (by omega) (by rw [a3 p (by omega) (by omega), ext_ne (by omega)]; exact e) hf (fun w3 h3 => k A2 _ w3 (fun i hi => by rw [a1 i (by omega), ext_ne (by omega)]) h3 (fun i hi hne => ?_) ext_eq ⟨?_, fun j hj => ?_⟩)
    · rw [ext_ne hne, a3 i (by omega) (by omega), ext_ne (by omega)]
    · rw [ext_ne (by omega)]; exact a4
    · rw [ext_ne (by omega)]; exact a5 j hj
theorem i_svy (h : jW n A E w) {fs : List Value} {s0 : Nat} (h0 : 0 < n) (e : E 0 = .inr (11, fs)) (hs : fs[0]? = some (.ref s0)) (hl : 1 < fs.length) {Q : va_W → Prop} (k : ∀ A' E' w', (∀ i, i < n → A' i = A i) → jW (n + 3) A' E' w' → (∀ i, i < n → i ≠ 0 → E' i = E i) → E' 0 = .inr (11, fs.set 1 (.ref (A' n))) → E' n = .inr (9, [.ref s0, .ref (A' (n + 1))]) → E' (n + 1) = .inr (6, [.ref (A' (n + 2))]) → E' (n + 2) = .inl (0, 100, .inl (gFi 100 0)) → Q w') : ∀ q4 : Nat, jlk w q4 = none → (fun w4 => jgR' w4 (A 0) 11 0 (fun r5 => w_X6_init κ w4 q4 r5 (fun w6 => jpV w6 (A 0) 11 1 (.ref q4) (fun w7 => Q w7)))) (w ++ [(q4, .inr (9, [.null, .null]))]) := by
  intro q hq
  have h1 := h.push hq (.inr (9, [.null, .null]))
  have en : ext A n q n = q := ext_eq
  have e0 : ext A n q 0 = A 0 := ext_ne (by omega)
  rw [← e0]
  refine (jgR_eq (v := s0) (by rw [h1.2 0 (by omega), ext_ne (by omega), e]) hs).mpr ?_
  rw [e0]
  unfold w_X6_init w_X6_init_b0
  have t1 := fun (Q : va_W → Prop) => h1.put (p := n) (ci := 9) (k := 0) (fs := [.null, .null]) (x := .ref s0) (Q := Q) (by omega) ext_eq (Nat.le_of_ble_eq_true rfl)
  simp only [en] at t1
  refine t1 _ (fun w2 h2 => ?_)
  have t2 := fun (Q : va_W → Prop) => i_fld (κ := κ) (len := 100) (c := 0) h2 (p := n) (ci := 9) (f := 1) (fs := [.ref s0, .null]) (Q := Q) (by omega) ext_eq (Nat.le_of_ble_eq_true rfl) (by omega) (by omega)
  simp only [en] at t2
  refine t2 _ (fun q' r' w3 h3 => ?_)
  have e0' : ext (ext (ext A n q) (n + 1) q') (n + 1 + 1) r' 0 = A 0 := by simp (disch := omega) only [ext_at, ext_ne]
  rw [← e0']
  refine h3.put (p := 0) (by omega) (by simp (disch := omega) only [ext_at, ext_ne]; exact e) hl (fun w4 h4 => k _ _ w4 (fun i hi => by simp (disch := omega) only [ext_at, ext_ne]) h4 (fun i hi hne => by simp (disch := omega) only [ext_at, ext_ne]) ?_ ?_ ?_ ?_)
  · simp (disch := omega) only [ext_at, ext_ne]
  · simp (disch := omega) only [ext_at, ext_ne]; rfl
  · simp (disch := omega) only [ext_at, ext_ne]
  · simp (disch := omega) only [ext_at, ext_ne]
theorem i_wrk (h : jW n A E w) {fs : List Value} {s0 s1 : Nat} (h0 : 0 < n) (e : E 0 = .inr (11, fs)) (hs : fs[0]? = some (.ref s0)) (hs1 : fs[1]? = some (.ref s1)) (hl : 2 < fs.length) {Q : va_W → Prop} (k : ∀ A' E' w', (∀ i, i < n → A' i = A i) → jW (n + 3) A' E' w' → (∀ i, i < n → i ≠ 0 → E' i = E i) → E' 0 = .inr (11, fs.set 2 (.ref (A' n))) → E' n = .inr (10, [.ref s0, .ref s1, .ref (A' (n + 1))]) → E' (n + 1) = .inr (6, [.ref (A' (n + 2))]) → E' (n + 2) = .inl (0, 16, .inl (gFi 16 0)) → Q w') : ∀ q8 : Nat, jlk w q8 = none → (fun w8 => jgR' w8 (A 0) 11 0 (fun r9 => jgR' w8 (A 0) 11 1 (fun r10 => w_X7_init κ w8 q8 r9 r10 (fun w11 => jpV w11 (A 0) 11 2 (.ref q8) (fun w12 => Q w12))))) (w ++ [(q8, .inr (10, [.null, .null, .null]))]) := by
  intro q hq
  have h1 := h.push hq (.inr (10, [.null, .null, .null]))
  have en : ext A n q n = q := ext_eq
  have e0 : ext A n q 0 = A 0 := ext_ne (by omega)
  rw [← e0]
  refine (jgR_eq (v := s0) (by rw [h1.2 0 (by omega), ext_ne (by omega), e]) hs).mpr ?_
  refine (jgR_eq (v := s1) (by rw [h1.2 0 (by omega), ext_ne (by omega), e]) hs1).mpr ?_
  rw [e0]
  unfold w_X7_init w_X7_init_b0
  have t1 := fun (Q : va_W → Prop) => h1.put (p := n) (ci := 10) (k := 0) (fs := [.null, .null, .null]) (x := .ref s0) (Q := Q) (by omega) ext_eq (Nat.le_of_ble_eq_true rfl)
  simp only [en] at t1
  refine t1 _ (fun w2 h2 => ?_)
  have t2 := fun (Q : va_W → Prop) => h2.put (p := n) (ci := 10) (k := 1) (fs := [.ref s0, .null, .null]) (x := .ref s1) (Q := Q) (by omega) ext_eq (Nat.le_of_ble_eq_true rfl)
  simp only [en] at t2
  refine t2 _ (fun w2 h2 => ?_)
  have t3 := fun (Q : va_W → Prop) => i_fld (κ := κ) (len := 16) (c := 0) h2 (p := n) (ci := 10) (f := 2) (fs := [.ref s0, .ref s1, .null]) (Q := Q) (by omega) ext_eq (Nat.le_of_ble_eq_true rfl) (by omega) (by omega)
  simp only [en] at t3
  refine t3 _ (fun q' r' w3 h3 => ?_)
  have e0' : ext (ext (ext A n q) (n + 1) q') (n + 1 + 1) r' 0 = A 0 := by simp (disch := omega) only [ext_at, ext_ne]
  rw [← e0']
  refine h3.put (p := 0) (by omega) (by simp (disch := omega) only [ext_at, ext_ne]; exact e) hl (fun w4 h4 => k _ _ w4 (fun i hi => by simp (disch := omega) only [ext_at, ext_ne]) h4 (fun i hi hne => by simp (disch := omega) only [ext_at, ext_ne]) ?_ ?_ ?_ ?_)
  · simp (disch := omega) only [ext_at, ext_ne]
  · simp (disch := omega) only [ext_at, ext_ne]; rfl
  · simp (disch := omega) only [ext_at, ext_ne]
  · simp (disch := omega) only [ext_at, ext_ne]
/-- the ring: eight states -/
theorem i_ringL {p pa b : Nat} (hpa : p < b ∧ pa < b ∧ p ≠ pa) {Q : va_W → Prop} : ∀ (m i : Nat) (n : Nat) (A : Nat → Nat) (E : Nat → va_E) (w : va_W), i ≤ 8 → 8 < m + i → n = b + 27 * i → jW n A E w → E p = .inr (5, [.ref (A pa), .int 0, .int 0]) → E pa = .inl (2, 8, .inr (.inr (.inr (.inr (fun j => if j < i then some (A (b + 27 * j)) else none))))) → (∀ j, j < i → stB A E (b + 27 * j)) → (∀ A' E' w', (∀ i, i < n → A' i = A i) → jW (b + 216) A' E' w' → (∀ i, i < b → i ≠ pa → E' i = E i) → E' pa = .inl (2, 8, .inr (.inr (.inr (.inr (fun j => if j < 8 then some (A' (b + 27 * j)) else none))))) → (∀ j, j < 8 → stB A' E' (b + 27 * j)) → Q w') → w_X1_init_b15 m κ w (A p) (nI i) Q := by
  intro m
  induction m with
  | zero => intro i n A E w a b; omega
  | succ m ih =>
    intro i n A E w a b9 en h ep epa hst k
    rw [w_X1_init_b15]
    have hcell := h.2 p (by omega)
    rw [ep] at hcell
    have harr := h.2 pa (by omega)
    rw [epa] at harr
    refine (jgR_eq hcell rfl).mpr ((jAl_eq harr (by decide)).mpr ?_)
    by_cases hi : i = 8
    · rw [if_pos (show Int32.ofNat 8 ≤ nI i from (nI_leI (a := 8) (by omega) (by omega)).mpr (by omega))]
      subst hi
      refine k A E w (fun _ _ => rfl) (by rw [en] at h; exact h) (fun _ _ _ => rfl) epa hst
    · rw [if_neg (fun g : Int32.ofNat 8 ≤ nI i => by have := (nI_leI (a := 8) (by omega) (by omega)).mp g; omega)]
      refine (jgR_eq hcell rfl).mpr (fun q hq => ?_)
      have h1 := h.push hq (.inr (8, [.null, .null, .null, .null, .null, .null, .null, .null, .int 0, .int 0, .int 0, .int 0]))
      have enq : ext A n q n = q := ext_eq
      have := i_state (κ := κ) (Q := fun w5 => jSr w5 (A pa) (nI i) q (fun w6 => w_X1_init_b15 m κ w6 (A p) (nI i + 1) Q)) h1 (p := n) (by omega) ext_eq (fun A2 E2 w2 a1 a2 a3 a4 a5 => ?_)
      · rw [enq] at this; exact this
      · have e2q : A2 n = q := by rw [a1 n (by omega), enq]
        have e2p : A2 p = A p := by rw [a1 p (by omega), ext_ne (by omega)]
        have e2a : A2 pa = A pa := by rw [a1 pa (by omega), ext_ne (by omega)]
        have Eold : ∀ j, j < n → E2 j = E j := fun j hj => by rw [a3 j (by omega) (by omega), ext_ne (by omega)]
        have Aold : ∀ j, j < n → A2 j = A j := fun j hj => by rw [a1 j (by omega), ext_ne (by omega)]
        have hq2 := a2.2 n (by omega)
        rw [a4, e2q] at hq2
        have ha2 := a2.2 pa (by omega)
        rw [Eold pa (by omega), epa, e2a] at ha2
        refine ⟨8, _, _, ha2, hq2, nI_in (by omega) (by omega), ?_⟩
        have h3 := a2.set (p := pa) (by omega) (.inl (2, 8, .inr (.inr (.inr (.inr (fun j => if j < i + 1 then some (A2 (b + 27 * j)) else none))))))
        rw [e2a] at h3
        have ef : va_up (fun j => if j < i then some (A (b + 27 * j)) else none) (nI i).toNatClampNeg (some q) = fun j => if j < i + 1 then some (A2 (b + 27 * j)) else none := by
          funext j
          rw [nI_clamp (by omega)]
          show (if j = i then some q else if j < i then some (A (b + 27 * j)) else none) = _
          by_cases hj : j = i
          · rw [if_pos hj, if_pos (by omega), hj, ← en, e2q]
          · rw [if_neg hj]
            by_cases hj2 : j < i
            · rw [if_pos hj2, if_pos (by omega), Aold _ (by omega)]
            · rw [if_neg hj2, if_neg (by omega)]
        rw [ef, nI_1, ← e2p]
        refine ih (i + 1) (n + 1 + 26) A2 _ _ (by omega) (by omega) (by omega) h3 ?_ ext_eq (fun j hj => ?_) (fun A' E' w' b1 b2 b3 b4 b5 => k A' E' w' (fun j hj => by rw [b1 j (by omega), Aold j hj]) b2 (fun j hj hne => ?_) b4 b5)
        · rw [ext_ne (by omega), Eold p (by omega), ep, e2a]
        · by_cases hj2 : j = i
          · subst hj2
            rw [← en]
            exact ⟨by rw [ext_ne (by omega)]; exact a4, fun t ht => by rw [ext_ne (by omega)]; exact a5 t ht⟩
          · refine (hst j (by omega)).tr (n := n) Aold (fun t h1 h2 => ?_) (by omega)
            rw [ext_ne (by omega), Eold t (by omega)]
        · rw [b3 j hj hne, ext_ne hne, Eold j (by omega)]
end JMake3
