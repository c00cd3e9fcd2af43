/-! ===== the law's last changes, told closer ===== -/
section JLast
variable {κ : Nat → Nat} {L : Nat → Nat} {R R' : Nat → Nat → Int32} {V V' : Nat → Int32} {T : Nat → List Int32} {w : va_W} {B : Nat} {P : Int32 → va_W → Prop} {x y z : Int32}
/-- a flake held: the hill's list is not empty after it -/
theorem u_collect9 (h : jRq L R V T w) (hi : jInv R V B) (hκ : jEn κ) {a : Nat} (k1 : jfHold R V (nI a) y ≠ 2 → P (-100000000) w) (k0 : ∀ R' V' v w' m, jRq L R' V' T w' → jInv R' V' B → gOp R V R' V' → m < 4 → R' 9 a = nI (m + 1) → ¬ v < 0 → P v w') (ha : a < 4) : w_L_collect κ w (L 316) (nI a) y P := by
  obtain ⟨j, hj, hv⟩ := hi.j
  obtain ⟨i1, i2, -⟩ := hi.keep hj hv
  refine l_collect h hκ hj hv k1 (fun e w1 h1 => ?_)
  have ht := i1.t0
  have hf : jfHold (jCpR R (3 + j) 0) (jKpV V j) (nI a) y = 2 := by rw [jfHold_e i2]; exact e
  unfold jfHold at hf
  by_cases g1 : decide (¬ nI a < 0 ∧ ¬ jKpV V j 0 ≤ nI a) = false
  · rw [if_pos g1] at hf; omega
  rw [if_neg g1] at hf
  by_cases g2 : jIsF y = false
  · rw [if_pos g2] at hf; omega
  rw [if_neg g2] at hf
  obtain ⟨c, hc9, rfl⟩ := jIsF_n (by simpa using g2)
  obtain ⟨m, hm, em, es⟩ := jSz1_of ht.2.1 ha
  have hm4 : m < 4 := by
    by_cases g3 : 4 ≤ jSz (jCpR R (3 + j) 0) 1 (nI a)
    · rw [if_pos g3] at hf; omega
    · rw [es, show (4 : Int32) = nI 4 from rfl, nI_leI (by omega) (by omega)] at g3; omega
  have hg := jAdd_g (v := nI c) ha hm4 em
  have h9 : jAdd (jCpR R (3 + j) 0) (nI a) (nI c) 9 a = nI (m + 1) := by rw [hg, gPut_s, if_pos rfl]
  refine s_holdW h1 (fun w2 h2 => ?_)
  obtain ⟨ga, gb⟩ := gKeep hi hj hv (Nat.le_refl B) (k_hold ht ha hm4 em hc9) ⟨fun r hr => by rw [hg, gPut_ne (by omega), gPut_ne (by omega)], fun _ _ => rfl⟩
  exact k0 _ _ _ w2 m h2 ga gb hm4 h9 (by rw [jSz1 ha, h9]; exact nI_pos (by omega))
/-- a written block: its number, and as many flakes as its hill held -/
theorem u_write9 (h : jRq L R V T w) (hi : jInv R V B) (hB : B < 2 ^ 29) (hκ : jEn κ) {a : Nat} (ha : a < 4) (k1 : jfAppend R V (nI a) ≠ 2 → ∀ w', jRq L R V T w' → P (-100000000) w') (k0 : jfAppend R V (nI a) = 2 → ∀ R' V' w' f, jRq L R' V' T w' → jInv R' V' (B + 1) → gOp R V R' V' → gU R' f = true → R' 5 f = R 9 a → P (nI (gN R' f)) w') : w_L_writeBlock κ w (L 316) (nI a) P := by
  obtain ⟨j, hj, hv⟩ := hi.j
  obtain ⟨i1, i2, -⟩ := hi.keep hj hv
  have er := i2.r
  refine l_writeBlock h hκ hi.t0.2.1.s0 hj hv k1 (fun e w1 h1 => ?_)
  have ht := i1.t0
  obtain ⟨hc, h4, e0, hq⟩ := ht.2.2.2.2
  have hf : jfAppend (jCpR R (3 + j) 0) (jKpV V j) (nI a) = 2 := by rw [jfAppend_e i2]; exact e
  unfold jfAppend at hf
  by_cases g1 : decide (¬ nI a < 0 ∧ ¬ jKpV V j 0 ≤ nI a) = false
  · rw [if_pos g1] at hf; omega
  rw [if_neg g1] at hf
  by_cases g2 : jFreeSlot (jCpR R (3 + j) 0) 0 = -1
  · rw [if_pos g2] at hf; omega
  obtain ⟨a', ha', ea⟩ := jHill h4 e0 (show decide (¬ nI a < 0 ∧ ¬ jKpV V j 0 ≤ nI a) = true by simpa using g1)
  have : a = a' := (nI_eq (by omega) (by omega)).mp ea
  subst this
  rcases jFree_c ht.1 with ⟨f, f1, f2, f3, f4⟩ | ⟨-, f2⟩
  · obtain ⟨q, q1, q2⟩ := hq a ha'
    obtain ⟨m, hm, em, es⟩ := jSz1_of ht.2.1 ha
    obtain ⟨ka, kb⟩ := k_append ht (by omega) f1 f2 f3 f4 ha q2 q1 hm em
    obtain ⟨R2, nx, x1, x2, x3, x4, x5, x6, x7, x8, x9, -⟩ := k_app ht (by omega) f1 f2 f3 f4 ha q2 q1 hm em
    obtain ⟨-, -, -, r5, -, rr⟩ := gAp0_r (R := jCpR R (3 + j) 0) (f := f) (x := a) (q := q) (m := m) (v := jKpV V j 1)
    have hs : jSz (jAp0 (jCpR R (3 + j) 0) (jKpV V j) (nI a) m) 0 (jFreeSlot (jCpR R (3 + j) 0) 0) ≤ 4 := by
      rw [jAp0_g f1 ha hm f4 q2, f4, jSz0 f1, r5]
      simp only [if_true]
      exact (nI_leI (b := 4) (by omega) (by omega)).mpr hm
    refine s_append h1 hm es hs (fun w2 h2 => ?_)
    obtain ⟨ga, gb⟩ := gKeep hi hj hv (Nat.le_succ B) kb ⟨fun r hr => by
      rw [ka, gPut_ne (by omega), gPut_ne (by omega), gPut_ne (by omega), gPut_ne (by omega)]
      exact rr r (by omega) (by omega) (by omega) (by omega) (by omega), fun i hi => by rw [jSetV_ne (by omega), jSetV_ne (by omega)]⟩
    rw [← x1] at h2 ga gb
    rw [x2, ← x5]
    refine k0 e _ _ w2 f h2 ga gb x4 ?_
    rw [x9, ← em, er 9 (Or.inl ⟨by omega, by omega⟩)]
  · exact absurd f2 g2
/-- a flake replaced: no number is touched -/
theorem u_replace6 (h : jRq L R V T w) (hi : jInv R V B) (hκ : jEn κ) (hf : jfSwap R x y z = 2) (k0 : ∀ R' V' v w', jRq L R' V' T w' → jInv R' V' B → gOp R V R' V' → gU R' = gU R → gN R' = gN R → ¬ v < 0 → P v w') : w_L_replaceFlake κ w (L 316) x y z P := by
  obtain ⟨j, hj, hv⟩ := hi.j
  obtain ⟨i1, i2, -⟩ := hi.keep hj hv
  have er := i2.r
  unfold w_L_replaceFlake w_L_replaceFlake_b0
  refine ⟨⟨_, h.lg⟩, s_replaceF h hκ hj hv (fun e => absurd hf e) (fun e w1 h1 => ?_)⟩
  have ht := i1.t0
  have hf : jfSwap (jCpR R (3 + j) 0) x y z = 2 := by rw [jfSwap_e er]; exact e
  have g1' := ht.1
  unfold jfSwap at hf
  by_cases g1 : jSlotOf (jCpR R (3 + j) 0) 0 x = -1
  · rw [if_pos g1] at hf; omega
  rw [if_neg g1] at hf
  by_cases g2 : decide (¬ y < 0 ∧ ¬ jSz (jCpR R (3 + j) 0) 0 (jSlotOf (jCpR R (3 + j) 0) 0 x) ≤ y) = false
  · rw [if_pos g2] at hf; omega
  rw [if_neg g2] at hf
  by_cases g3 : jIsF z = false
  · rw [if_pos g3] at hf; omega
  obtain ⟨c, hc9, rfl⟩ := jIsF_n (by simpa using g3)
  rcases g1'.slot_c x with ⟨s, s1, -, s3⟩ | ⟨-, s2⟩
  · have s16 := gU_16 s1
    obtain ⟨m, hm, em⟩ := ht.2.1.1 s s16
    have g2 : ¬ y < 0 ∧ ¬ jSz (jCpR R (3 + j) 0) 0 (jSlotOf (jCpR R (3 + j) 0) 0 x) ≤ y := by simpa using g2
    obtain ⟨p, hp, rfl⟩ := nI_of g2.1
    have hpm : p < m := by
      have := g2.2
      rw [s3, jSz0 s16, em, nI_leI (by omega) hp] at this; omega
    have hg : jPut (jCpR R (3 + j) 0) 0 6 (nI s * 4 + nI p) (nI c) = gPut (jCpR R (3 + j) 0) 6 (4 * s + p) (nI c) := by
      rw [j4, jPut_g (k := 6) (by omega) (show 4 * s + p < 64 by omega)]
    refine s_swap h1 (fun w2 h2 => ?_)
    rw [s3] at h2 ⊢
    obtain ⟨ga, gb⟩ := gKeep hi hj hv (Nat.le_refl B) (k_swap ht s16 (show p < 4 by omega) hc9) ⟨fun r hr => by rw [hg, gPut_ne (by omega)], fun _ _ => rfl⟩
    refine k0 _ _ _ w2 h2 ga gb ?_ ?_ ?_
    · rw [hg, gU_c (R := jCpR R (3 + j) 0) (gPut_ne (by omega)), gU_e er]
    · rw [hg, gN_c (R := jCpR R (3 + j) 0) (gPut_ne (by omega)), gN_e er]
    · rw [jFl0 s16 (by omega)]
      obtain ⟨a, ha, ea⟩ := ht.2.1.2.2.1 (4 * s + p) (by omega)
      rw [ea]; exact nI_pos (by omega)
  · exact absurd s2 g1
end JLast
