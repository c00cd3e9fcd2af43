/-! ===== the builders ===== -/
theorem jlk_old {w l : va_W} {a : Nat} {e : va_E} (h : jlk w a = some e) : jlk (w ++ l) a = some e := by
  induction w with
  | nil => cases h
  | cons q t ih =>
    rw [List.cons_append, jlk]
    rw [jlk] at h
    by_cases hq : q.1 = a
    · rw [if_pos hq] at h ⊢; exact h
    · rw [if_neg hq] at h ⊢; exact ih h
theorem jlk_new {w : va_W} {a : Nat} {x : va_E} (h : jlk w a = none) : jlk (w ++ [(a, x)]) a = some x := by
  induction w with
  | nil => rw [List.nil_append, jlk, if_pos rfl]
  | cons q t ih =>
    rw [List.cons_append, jlk]
    rw [jlk] at h
    by_cases hq : q.1 = a
    · rw [if_pos hq] at h; cases h
    · rw [if_neg hq] at h ⊢; exact ih h
theorem jlk_ne {w : va_W} {a b : Nat} {x : va_E} (h : a ≠ b) : jlk (w ++ [(b, x)]) a = jlk w a := by
  induction w with
  | nil =>
    show (if b = a then some x else jlk [] a) = none
    rw [if_neg (fun e => h e.symm)]; rfl
  | cons q t ih =>
    rw [List.cons_append, jlk, jlk, ih]
theorem nI_cmp0 {m n : Nat} (hm : m < 2 ^ 30) (hn : n < 2 ^ 30) : nI m - nI n ≤ 0 ↔ m ≤ n := by
  rw [Int32.le_iff_toInt_le, Int32.toInt_sub, nI_toInt (by omega), nI_toInt (by omega), Int.bmod_eq_of_le (by omega) (by omega)]
  have e0 : (0 : Int32).toInt = 0 := rfl
  omega
theorem jshr0 (x : Int32) : jshr x 0 = x := by
  unfold jshr
  rw [show (0 : Int32) &&& 31 = 0 from by decide]
  apply Int32.toBitVec_inj.mp
  simp
theorem jshl0 (x : Int32) : jshl x 0 = x := by
  unfold jshl
  rw [show (0 : Int32) &&& 31 = 0 from by decide]
  apply Int32.toBitVec_inj.mp
  simp
theorem nI_max {a b : Nat} (ha : a < 2 ^ 31) (hb : b < 2 ^ 31) : jmax (nI a) (nI b) = nI (if a < b then b else a) := by
  unfold jmax
  by_cases h : a < b
  · rw [if_pos h, if_pos ((nI_ltI ha hb).mpr h)]
  · rw [if_neg h, if_neg (fun e => h ((nI_ltI ha hb).mp e))]
theorem nI_min {a b : Nat} (ha : a < 2 ^ 31) (hb : b < 2 ^ 31) : jmin (nI a) (nI b) = nI (if b < a then b else a) := by
  unfold jmin
  by_cases h : b < a
  · rw [if_pos h, if_pos ((nI_ltI hb ha).mpr h)]
  · rw [if_neg h, if_neg (fun e => h ((nI_ltI hb ha).mp e))]
def jT (T : Nat → List Int32) (b : Nat) (t : List Int32) : Nat → List Int32 := fun i => if i = b then t else T i
def jSc (q : Nat) (m9 : Int32) (len : Nat) : va_E := .inr (1, [.ref q, .int 0, .int m9, .int (nI len)])
/-- a builder as it stands, and how it may be changed -/
def jSi0 (L : Nat → Nat) (R : Nat → Nat → Int32) (V : Nat → Int32) (T : Nat → List Int32) (w : va_W) (b q n : Nat) (f : Nat → Int32) (m9 : Int32) : Prop :=
  jlk w (L (317 + b)) = some (jSc q m9 (T b).length) ∧ jlk w q = some (.inl (1, n, .inl f)) ∧ (T b).length ≤ n ∧ n ≤ 400 ∧ (∀ i, i < (T b).length → f i = (T b).getD i 0) ∧ (∀ i, fits .byte (.int (f i)) = true) ∧ q ≠ L (317 + b) ∧
  ∀ (w' : va_W) (t : List Int32) (q' n' : Nat) (f' : Nat → Int32) (m9' : Int32), (∀ a, a ≠ L (317 + b) → a ≠ q → jlk w a ≠ none → jlk w' a = jlk w a) → jlk w' (L (317 + b)) = some (jSc q' m9' t.length) → jlk w' q' = some (.inl (1, n', .inl f')) → t.length ≤ n' → n' ≤ 400 → (∀ i, i < t.length → f' i = t.getD i 0) → (∀ i, fits .byte (.int (f' i)) = true) → (q' = q ∨ jlk w q' = none) → jRep L R V (jT T b t) w'
section JBuild
variable {κ : Nat → Nat} {L : Nat → Nat} {R : Nat → Nat → Int32} {V : Nat → Int32} {T : Nat → List Int32} {w : va_W}
theorem jRep.sb (h : jRep L R V T w) {b : Nat} (hb : b < 2) : ∃ q n f m9, jSi0 L R V T w b q n f m9 := by
  obtain ⟨⟨hL, hz⟩, h1, q0, q1, hq, ⟨n0, f0, m0, a1, a2, a3, a4, a5, a6, a7⟩, ⟨n1, f1, m1, b1, b2, b3, b4, b5, b6, b7⟩, h9⟩ := h
  have live : ∀ i, i < 319 → jlk w (L i) ≠ none := fun i hi => by
    by_cases h7 : i < 317
    · rw [h1 i h7]; exact fun e => by cases e
    · rcases (show i = 317 ∨ i = 318 by omega) with rfl | rfl
      · rw [a1]; exact fun e => by cases e
      · rw [b1]; exact fun e => by cases e
  rcases (show b = 0 ∨ b = 1 by omega) with rfl | rfl
  · refine ⟨q0, n0, f0, m0, a1, a2, a3, a4, a5, a6, fun e => a7 317 (by omega) e.symm, fun w' t q' n' f' m9' g0 g1 g2 g3 g4 g5 g6 g7 => ?_⟩
    have hLq : ∀ i, i < 319 → L i ≠ q' := fun i hi e => by
      rcases g7 with g7 | g7
      · exact a7 i hi (e.trans g7)
      · rw [← e] at g7; exact live i hi g7
    refine ⟨⟨hL, hz⟩, fun i hi => ?_, q', q1, ?_, ⟨n', f', m9', g1, g2, g3, g4, g5, g6, hLq⟩, ⟨n1, f1, m1, ?_, ?_, b3, b4, b5, b6, b7⟩, fun hT => ?_⟩
    · rw [g0 (L i) (fun e => absurd (hL i 317 (by omega) (by omega) e) (by omega)) (a7 i (by omega)) (live i (by omega))]
      exact h1 i hi
    · rintro rfl
      rcases g7 with g7 | g7
      · exact hq g7.symm
      · rw [b2] at g7; cases g7
    · rw [g0 (L 318) (fun e => absurd (hL 318 317 (by omega) (by omega) e) (by omega)) (a7 318 (by omega)) (live 318 (by omega))]; exact b1
    · rw [g0 q1 (fun e => b7 317 (by omega) e.symm) (fun e => hq e.symm) (by rw [b2]; exact fun e => by cases e)]; exact b2
    · obtain ⟨x1, x2, x3, x4⟩ := h9 hT
      refine ⟨?_, x2, fun e => ?_, x4⟩
      · rw [g0 (L 320) (fun e => x2 317 (by omega) e.symm) (fun e => x3 e.symm) (by rw [x1]; exact fun e => by cases e)]; exact x1
      · rcases g7 with g7 | g7
        · exact x3 (g7.symm.trans e)
        · rw [e, x1] at g7; cases g7
  · refine ⟨q1, n1, f1, m1, b1, b2, b3, b4, b5, b6, fun e => b7 318 (by omega) e.symm, fun w' t q' n' f' m9' g0 g1 g2 g3 g4 g5 g6 g7 => ?_⟩
    have hLq : ∀ i, i < 319 → L i ≠ q' := fun i hi e => by
      rcases g7 with g7 | g7
      · exact b7 i hi (e.trans g7)
      · rw [← e] at g7; exact live i hi g7
    refine ⟨⟨hL, hz⟩, fun i hi => ?_, q0, q', ?_, ⟨n0, f0, m0, ?_, ?_, a3, a4, a5, a6, a7⟩, ⟨n', f', m9', g1, g2, g3, g4, g5, g6, hLq⟩, fun hT => ?_⟩
    · rw [g0 (L i) (fun e => absurd (hL i 318 (by omega) (by omega) e) (by omega)) (b7 i (by omega)) (live i (by omega))]
      exact h1 i hi
    · rintro rfl
      rcases g7 with g7 | g7
      · exact hq g7
      · rw [a2] at g7; cases g7
    · rw [g0 (L 317) (fun e => absurd (hL 317 318 (by omega) (by omega) e) (by omega)) (b7 317 (by omega)) (live 317 (by omega))]; exact a1
    · rw [g0 q0 (fun e => a7 318 (by omega) e.symm) hq (by rw [a2]; exact fun e => by cases e)]; exact a2
    · obtain ⟨x1, x2, x3, x4⟩ := h9 hT
      refine ⟨?_, x2, x3, fun e => ?_⟩
      · rw [g0 (L 320) (fun e => x2 318 (by omega) e.symm) (fun e => x4 e.symm) (by rw [x1]; exact fun e => by cases e)]; exact x1
      · rcases g7 with g7 | g7
        · exact x4 (g7.symm.trans e)
        · rw [e, x1] at g7; cases g7
theorem jT_self {b : Nat} {t : List Int32} : jT T b t b = t := by unfold jT; rw [if_pos rfl]
theorem jT_ne {b c : Nat} {t : List Int32} (h : c ≠ b) : jT T b t c = T c := by unfold jT; rw [if_neg h]
theorem jT_id {b : Nat} : jT T b (T b) = T := by
  funext i; unfold jT
  by_cases h : i = b
  · rw [if_pos h, h]
  · rw [if_neg h]
theorem jT_jT {b : Nat} {t s : List Int32} : jT (jT T b t) b s = jT T b s := by
  funext i; unfold jT
  by_cases h : i = b
  · rw [if_pos h, if_pos h]
  · rw [if_neg h, if_neg h, if_neg h]
theorem s_sbLen (h : jRep L R V T w) {b : Nat} (hb : b < 2) {P : Int32 → va_W → Prop} (k : P (nI (T b).length) w) : w_J4_length_8abf5 κ w (L (317 + b)) P := by
  obtain ⟨q, n, f, m9, g1, -⟩ := h.sb hb
  unfold w_J4_length_8abf5 w_J4_length_8abf5_b0 w_J5_length_8abf5 w_J5_length_8abf5_b0
  exact ⟨⟨_, g1⟩, (jgI_eq g1 rfl).mpr k⟩
/-- room for m bytes -/
theorem s_ens (h : jRep L R V T w) {b m : Nat} (hb : b < 2) (hm : m ≤ 200) {P : va_W → Prop} (k : ∀ w' q n f m9, jRep L R V T w' → jSi0 L R V T w' b q n f m9 → m ≤ n → P w') : w_J5_ensureCapacityInternal_d00df κ w (L (317 + b)) (nI m) P := by
  obtain ⟨q, n, f, m9, hs⟩ := h.sb hb
  have hs' := hs
  obtain ⟨g1, g2, g3, g4, g5, g6, g7, g8⟩ := hs
  unfold w_J5_ensureCapacityInternal_d00df w_J5_ensureCapacityInternal_d00df_b0
  refine (jgR_eq g1 rfl).mpr ((jAl_eq g2 (by decide)).mpr ((jgI_eq g1 rfl).mpr ?_))
  rw [jshr0]
  by_cases hmn : m ≤ n
  · rw [if_pos (show nI m - Int32.ofNat n ≤ 0 from (nI_cmp0 (by omega) (by omega)).mpr hmn)]
    exact k w q n f m9 h hs' hmn
  · rw [if_neg (show ¬ nI m - Int32.ofNat n ≤ 0 from fun e => hmn ((nI_cmp0 (by omega) (by omega)).mp e))]
    refine (jgR_eq g1 rfl).mpr ⟨⟨_, g1⟩, ?_⟩
    unfold w_J5_newCapacity_0f7a4 w_J5_newCapacity_0f7a4_b0
    refine (jgR_eq g1 rfl).mpr ((jAl_eq g2 (by decide)).mpr ((jgI_eq g1 rfl).mpr ((jgI_eq g1 rfl).mpr ?_)))
    unfold w_J8_newLength_cabcc w_J8_newLength_cabcc_b0
    have hmx : ∃ x, n + x ≤ 400 ∧ 0 < x ∧ m ≤ n + x ∧ Int32.ofNat n + jmax (jshl (nI m) 0 - Int32.ofNat n) (Int32.ofNat n + jshl 2 0) = nI (n + x) := by
      rw [jshl0, jshl0, show nI m - Int32.ofNat n = nI (m - n) from nI_sub (by omega), show Int32.ofNat n + 2 = nI (n + 2) from nI_add n 2, nI_max (by omega) (by omega)]
      refine ⟨if m - n < n + 2 then n + 2 else m - n, ?_, ?_, ?_, nI_add _ _⟩ <;> split <;> omega
    obtain ⟨x, x1, x2, x3, ex⟩ := hmx
    rw [ex, if_neg (fun e : nI (n + x) ≤ 0 => by have := (nI_leI (b := 0) (by omega) (by omega)).mp e; omega), if_neg (fun e : (2147483639 : Int32) < nI (n + x) => by have := (nI_ltI (a := 2147483639) (by omega) (by omega)).mp e; omega)]
    dsimp only
    rw [if_neg (fun e : nI (n + x) = 2147483647 => by have := (nI_eq (b := 2147483647) (by omega) (by omega)).mp e; omega)]
    refine (jgI_eq g1 rfl).mpr ((jgI_eq g1 rfl).mpr ?_)
    rw [jshr0, jshl0]
    unfold w_J7_copyOf_9075b w_J7_copyOf_9075b_b0
    refine (jAl_eq g2 (by decide)).mpr ?_
    rw [if_neg (fun e : nI (n + x) = Int32.ofNat n => by have := (nI_eq (a := n + x) (b := n) (by omega) (by omega)).mp e; omega)]
    refine ⟨nI_pos (by omega), by rw [nI_clamp (by omega)]; omega, fun q2 hq2 => ?_⟩
    rw [nI_clamp (show n + x < 2 ^ 31 by omega)]
    have ne : ∀ a, jlk w a ≠ none → a ≠ q2 := fun a ha e => ha (by rw [e]; exact hq2)
    have hq2q : q ≠ q2 := ne q (by rw [g2]; exact fun e => by cases e)
    have hq2c : L (317 + b) ≠ q2 := ne _ (by rw [g1]; exact fun e => by cases e)
    refine (jAl_eq (by rw [jlk_ne hq2q]; exact g2) (by decide)).mpr ?_
    rw [show jmin (Int32.ofNat n) (nI (n + x)) = nI n from by rw [show Int32.ofNat n = nI n from rfl, nI_min (by omega) (by omega), if_neg (by omega)]]
    refine ⟨n, n + x, f, fun _ => 0, by rw [jlk_ne hq2q]; exact g2, jlk_new hq2, ⟨by decide, by decide, nI_pos (by omega), by rw [nI_clamp (by omega)]; show 0 + n ≤ n; omega, by rw [nI_clamp (by omega)]; show 0 + n ≤ n + x; omega⟩, fun i _ => g6 _, ?_⟩
    rw [nI_clamp (show n < 2 ^ 31 by omega)]
    show jpV _ (L (317 + b)) 1 0 (.ref q2) _
    refine (jpV_eq (by rw [jst_ne hq2c, jlk_ne hq2c]; exact g1) (Nat.le_of_ble_eq_true rfl)).mpr ?_
    unfold w_J5_ensureCapacityInternal_d00df_b38
    have hf : ∀ i, va_cpy f (fun _ => 0) (0 : Int32).toNatClampNeg (0 : Int32).toNatClampNeg n i = if i < n then f i else 0 := fun i => by
      show (if 0 ≤ i ∧ i < 0 + n then f (0 + (i - 0)) else 0) = _
      by_cases hi : i < n
      · rw [if_pos ⟨by omega, by omega⟩, if_pos hi]; congr 1; omega
      · rw [if_neg (by omega), if_neg hi]
    have hr := g8 (jst (jst (w ++ [(q2, .inl (1, n + x, .inl (fun _ => 0)))]) q2 (.inl (1, n + x, .inl (va_cpy f (fun _ => 0) (0 : Int32).toNatClampNeg (0 : Int32).toNatClampNeg n)))) (L (317 + b)) (.inr (1, [.ref q, .int 0, .int m9, .int (nI (T b).length)].set 0 (.ref q2)))) (T b) q2 (n + x) _ m9 (fun a a1 a2 a3 => by rw [jst_ne a1, jst_ne (ne a a3), jlk_ne (ne a a3)]) (by rw [jst_self (by rw [jst_ne hq2c, jlk_ne hq2c]; exact g1)]; rfl) (by rw [jst_ne (fun e => hq2c e.symm)]; exact jst_self (jlk_new hq2)) (by omega) x1 (fun i hi => by rw [hf, if_pos (by omega)]; exact g5 i hi) (fun i => by
      rw [hf]
      split
      · exact g6 i
      · rfl) (Or.inr hq2)
    rw [jT_id] at hr
    obtain ⟨q', n', f', m9', hs2⟩ := hr.sb hb
    have hn' : n' = n + x := by
      have e1 := hs2.1
      rw [jst_self (by rw [jst_ne hq2c, jlk_ne hq2c]; exact g1)] at e1
      have hqq : q' = q2 := by
        have e1 := Option.some.inj e1
        unfold jSc at e1
        simp only [List.set, Sum.inr.injEq, Prod.mk.injEq, List.cons.injEq, Value.ref.injEq] at e1
        exact e1.2.1.symm
      have e2 := hs2.2.1
      rw [hqq, jst_ne (fun e => hq2c e.symm), jst_self (jlk_new hq2)] at e2
      have e2 := Option.some.inj e2
      simp only [Sum.inl.injEq, Prod.mk.injEq] at e2
      exact e2.2.1.symm
    exact k _ q' n' f' m9' hr hs2 (by omega)
end JBuild
