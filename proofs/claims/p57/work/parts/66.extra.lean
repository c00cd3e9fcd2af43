/-! ===== one array of the law's own beside the ledger ===== -/
def jLx (L : Nat → Nat) (q : Nat) : Nat → Nat := fun i => if i = 320 then q else L i
section JExtra
variable {κ : Nat → Nat} {L : Nat → Nat} {R : Nat → Nat → Int32} {V : Nat → Int32} {T : Nat → List Int32} {w : va_W}
theorem jLx_ne {q i : Nat} (h : i ≠ 320) : jLx L q i = L i := by unfold jLx; rw [if_neg h]
theorem jCell_x {q i : Nat} (h : i < 317) : jCell (jLx L q) R V i = jCell L R V i := by
  by_cases h1 : i < 139
  · rw [jCell_row h1, jCell_row h1, jLx_ne (by omega)]
  by_cases h2 : i < 278
  · obtain ⟨k, rfl⟩ : ∃ k, i = 139 + k := ⟨i - 139, by omega⟩
    rw [jCell_arr (by omega), jCell_arr (by omega)]
  by_cases h3 : i < 300
  · obtain ⟨k, rfl⟩ : ∃ k, i = 278 + k := ⟨i - 278, by omega⟩
    have := jTb_lt (t := k) (by omega)
    rw [jCell_tab (by omega), jCell_tab (by omega), jLx_ne (by omega), jLx_ne (by omega), jLx_ne (by omega)]
  by_cases h4 : i < 311
  · obtain ⟨k, rfl⟩ : ∃ k, i = 300 + k := ⟨i - 300, by omega⟩
    rw [jCell_st (by omega), jCell_st (by omega), jLx_ne (by omega), jLx_ne (by omega), jLx_ne (by omega), jLx_ne (by omega), jLx_ne (by omega), jLx_ne (by omega), jLx_ne (by omega), jLx_ne (by omega)]
  rcases (show i = 311 ∨ i = 312 ∨ i = 313 ∨ i = 314 ∨ i = 315 ∨ i = 316 by omega) with rfl | rfl | rfl | rfl | rfl | rfl
  · rfl
  · rfl
  · rfl
  · have e : (fun j => if j < 8 then some (jLx L q (303 + j)) else none) = fun j => if j < 8 then some (L (303 + j)) else none := by
      funext j
      by_cases hj : j < 8
      · rw [if_pos hj, if_pos hj, jLx_ne (by omega)]
      · rw [if_neg hj, if_neg hj]
    show (.inl (2, 8, .inr (.inr (.inr (.inr (fun j => if j < 8 then some (jLx L q (303 + j)) else none))))) : va_E) = _
    rw [e]; rfl
  · rfl
  · rfl
theorem jInj_x {q : Nat} (h : jInj L) : jInj (jLx L q) := fun i j hi hj e => by
  rw [jLx_ne (by omega), jLx_ne (by omega)] at e
  exact h i j hi hj e
theorem jInj_u {q : Nat} (h : jInj (jLx L q)) : jInj L := fun i j hi hj e => h i j hi hj (by rw [jLx_ne (by omega), jLx_ne (by omega)]; exact e)
theorem jRq.alloc (h : jRq L R V T w) {q : Nat} (hq : jlk w q = none) : jRq (jLx L q) R V (jT (jT T 2 [0, 0, 0, 0]) 3 [0]) (w ++ [(q, .inl (0, 4, .inl (fun _ => 0)))]) := by
  obtain ⟨R1, e, ⟨hL, hz⟩, h1, q0, q1, h01, ⟨n0, f0, m0, a1, a2, a3, a4, a5, a6, a7⟩, ⟨n1, f1, m1, b1, b2, b3, b4, b5, b6, b7⟩, -⟩ := h
  have ne : ∀ {a : Nat} {x : va_E}, jlk w a = some x → a ≠ q := fun ha e => by rw [e, hq] at ha; cases ha
  have live : ∀ i, i < 319 → L i ≠ q := fun i hi => by
    by_cases h7 : i < 317
    · exact ne (h1 i h7)
    · rcases (show i = 317 ∨ i = 318 by omega) with rfl | rfl
      · exact ne a1
      · exact ne b1
  refine ⟨R1, e, ⟨jInj_x hL, hz⟩, fun i hi => ?_, q0, q1, h01, ⟨n0, f0, m0, ?_, jlk_old a2, a3, a4, a5, a6, fun i hi => ?_⟩, ⟨n1, f1, m1, ?_, jlk_old b2, b3, b4, b5, b6, fun i hi => ?_⟩, fun _ => ⟨?_, fun i hi => ?_, ?_, ?_⟩⟩
  · rw [jLx_ne (by omega), jCell_x hi]; exact jlk_old (h1 i hi)
  · rw [jLx_ne (by omega)]; exact jlk_old a1
  · rw [jLx_ne (by omega)]; exact a7 i hi
  · rw [jLx_ne (by omega)]; exact jlk_old b1
  · rw [jLx_ne (by omega)]; exact b7 i hi
  · show jlk _ (if 320 = 320 then q else L 320) = _
    rw [if_pos rfl, jlk_new hq]
    congr 5
    funext i
    show (0 : Int32) = ([0, 0, 0, 0] : List Int32).getD i 0
    rcases i with _ | _ | _ | _ | i <;> rfl
  · rw [jLx_ne (by omega)]
    show L i ≠ (if 320 = 320 then q else L 320)
    rw [if_pos rfl]; exact live i hi
  · show q0 ≠ (if 320 = 320 then q else L 320)
    rw [if_pos rfl]; exact ne a2
  · show q1 ≠ (if 320 = 320 then q else L 320)
    rw [if_pos rfl]; exact ne b2
theorem jRq.drop {q : Nat} (h : jRq (jLx L q) R V T w) : jRq L R V (jT T 3 []) w := by
  obtain ⟨R1, e, ⟨hL, hz⟩, h1, q0, q1, h01, ⟨n0, f0, m0, a1, a2, a3, a4, a5, a6, a7⟩, ⟨n1, f1, m1, b1, b2, b3, b4, b5, b6, b7⟩, -⟩ := h
  refine ⟨R1, e, ⟨jInj_u hL, hz⟩, fun i hi => ?_, q0, q1, h01, ⟨n0, f0, m0, a1, a2, a3, a4, a5, a6, fun i hi => ?_⟩, ⟨n1, f1, m1, b1, b2, b3, b4, b5, b6, fun i hi => ?_⟩, fun h => absurd rfl h⟩
  · have := h1 i hi
    rw [jLx_ne (by omega), jCell_x hi] at this; exact this
  · have := a7 i hi
    rw [jLx_ne (by omega)] at this; exact this
  · have := b7 i hi
    rw [jLx_ne (by omega)] at this; exact this
theorem s_xld (h : jRq L R V T w) (h3 : T 3 ≠ []) {i : Nat} (hi : i < 4) {K : Int32 → Prop} (k : K ((T 2).getD i 0)) : jLd w (L 320) 0 (nI i) K := by
  obtain ⟨R1, e, h0, h1, q0, q1, h01, hs0, hs1, h9⟩ := h
  refine (jLd_eq (h9 h3).1 (nI_in hi (by omega))).mpr ?_
  rw [nI_clamp (by omega)]; exact k
theorem s_xst (h : jRq L R V T w) (h3 : T 3 ≠ []) (hl : (T 2).length = 4) {i : Nat} {v : Int32} (hi : i < 4) {K : va_W → Prop} (k : ∀ w', jRq L R V (jT T 2 ((T 2).set i v)) w' → K w') : jSi w (L 320) (nI i) v K := by
  obtain ⟨R1, e, h0, h1, q0, q1, h01, ⟨n0, f0, m0, a1, a2, a3⟩, ⟨n1, f1, m1, b1, b2, b3⟩, h9⟩ := h
  obtain ⟨x1, x2, x3, x4⟩ := h9 h3
  refine (jSi_eq x1 (nI_in hi (by omega))).mpr (k _ ⟨R1, e, h0, fun j hj => ?_, q0, q1, h01, ⟨n0, f0, m0, ?_, ?_, a3⟩, ⟨n1, f1, m1, ?_, ?_, b3⟩, fun _ => ⟨?_, x2, x3, x4⟩⟩)
  · rw [jst_ne (x2 j (by omega))]; exact h1 j hj
  · rw [jst_ne (x2 317 (by omega))]; exact a1
  · rw [jst_ne x3]; exact a2
  · rw [jst_ne (x2 318 (by omega))]; exact b1
  · rw [jst_ne x4]; exact b2
  · rw [jst_self x1]
    congr 5
    funext j
    rw [nI_clamp (by omega)]
    show (if j = i then v else (T 2).getD j 0) = ((T 2).set i v).getD j 0
    by_cases hj : j = i
    · rw [if_pos hj, hj]
      simp [List.getD, hl, hi]
    · rw [if_neg hj]
      simp [List.getD, List.getElem?_set_ne (Ne.symm hj)]
end JExtra
