/-! ===== a number appended: how many digits, and that they find their room ===== -/
section JDigits
variable {κ : Nat → Nat} {L : Nat → Nat} {R : Nat → Nat → Int32} {V : Nat → Int32} {T : Nat → List Int32} {w : va_W}
theorem nI_neg {a : Nat} (h : a < 2 ^ 31) : (-(nI a)).toInt = -(a : Int) := by
  rw [Int32.toInt_neg, nI_toInt h]
  exact Int.bmod_eq_of_le (by omega) (by omega)
theorem nI_negle {a b : Nat} (ha : a < 2 ^ 31) (hb : b < 2 ^ 31) : -(nI a) ≤ -(nI b) ↔ b ≤ a := by
  rw [Int32.le_iff_toInt_le, nI_neg ha, nI_neg hb]; omega
theorem s_sizeL {c : Nat} (hc : c < 2 ^ 31) {P : Int32 → va_W → Prop} : ∀ (n i : Nat) (x2 : Int32), i ≤ 10 → 1 ≤ i → 10 < n + i → (i < 10 → x2 = -(nI (10 ^ i))) → (∀ s, 1 ≤ s → s ≤ 10 → c < 10 ^ s → P (nI s) w) → w_J6_stringSize_0f7a4_b16 n κ w (-(nI c)) 0 x2 (nI i) P := by
  intro n
  induction n with
  | zero => intro i x2 h1 h2 h3; omega
  | succ n ih =>
    intro i x2 h1 h2 h3 h4 k
    rw [w_J6_stringSize_0f7a4_b16]
    by_cases h10 : i = 10
    · subst h10
      rw [if_pos (show (10 : Int32) ≤ nI 10 from Int32.le_refl _), show (10 : Int32) + 0 = nI 10 from rfl]
      exact k 10 (by omega) (by omega) (by omega)
    · rw [if_neg (fun e : (10 : Int32) ≤ nI i => by have := (nI_leI (a := 10) (by omega) (by omega)).mp e; omega)]
      have hp : 10 ^ i < 2 ^ 31 := by
        have : 10 ^ i ≤ 10 ^ 9 := Nat.pow_le_pow_right (by omega) (by omega)
        omega
      rw [h4 (by omega)]
      by_cases hcp : 10 ^ i ≤ c
      · rw [if_pos ((nI_negle hc hp).mpr hcp), nI_1]
        refine ih (i + 1) _ (by omega) (by omega) (by omega) (fun hi => ?_) k
        apply Int32.toInt_inj.mp
        have hp2 : 10 ^ (i + 1) < 2 ^ 31 := by
          have : 10 ^ (i + 1) ≤ 10 ^ 9 := Nat.pow_le_pow_right (by omega) (by omega)
          omega
        rw [nI_neg hp2, Int32.toInt_mul, nI_neg hp, show (10 : Int32).toInt = 10 from rfl, Nat.pow_succ]
        have hp3 : 10 ^ i * 10 < 2 ^ 31 := by rw [← Nat.pow_succ]; exact hp2
        have key : ∀ q : Nat, q * 10 < 2 ^ 31 → ((10 : Int) * -(q : Int)).bmod (2 ^ 32) = -((q * 10 : Nat) : Int) := fun q hq => by
          rw [Int.bmod_eq_of_le (by omega) (by omega)]; omega
        exact key _ hp3
      · rw [if_neg (fun e => hcp ((nI_negle hc hp).mp e)), show nI i + 0 = nI i from nI_add i 0]
        exact k i h2 (by omega) (by omega)
theorem s_size10 {c : Nat} (hc : c < 2 ^ 31) {P : Int32 → va_W → Prop} (k : ∀ s, 1 ≤ s → s ≤ 10 → c < 10 ^ s → P (nI s) w) : w_J6_stringSize_0f7a4 κ w (nI c) P := by
  unfold w_J6_stringSize_0f7a4 w_J6_stringSize_0f7a4_b0 w_J6_stringSize_0f7a4_b11
  rw [if_neg (nI_pos hc)]
  exact s_sizeL hc jFu 1 (-10) (by omega) (by omega) (by rw [jFu_eq]; omega) (fun _ => rfl) k
theorem jDig_fits : ∀ r, r < 100 → ∀ t, t < 2 → fits .byte (.int (vp_nar .byte (jDig t (nI r)))) = true := by decide +kernel
theorem nI_negdiv {c : Nat} (hc : c < 2 ^ 31) : -(nI c) / 100 = -(nI (c / 100)) := by
  apply Int32.toInt_inj.mp
  have h3 : c / 100 ≤ c := Nat.div_le_self c 100
  rw [Int32.toInt_div, nI_neg hc, nI_neg (by omega), show (100 : Int32).toInt = 100 from rfl, Int.neg_tdiv, Int.tdiv_eq_ediv_of_nonneg (by omega)]
  rw [show ((c : Int) / 100) = ((c / 100 : Nat) : Int) from rfl]
  generalize c / 100 = q at h3 ⊢
  exact Int.bmod_eq_of_le (by omega) (by omega)
theorem nI_negmod {c : Nat} (hc : c < 2 ^ 31) : (-(nI c) / 100) * 100 - -(nI c) = nI (c % 100) := by
  rw [nI_negdiv hc]
  have h1 : c / 100 * 100 ≤ c := Nat.div_mul_le_self c 100
  have e1 : -(nI (c / 100)) * 100 = -(nI (c / 100 * 100)) := by
    rw [Int32.neg_mul, show nI (c / 100) * 100 = nI (c / 100 * 100) from nI_mul _ 100]
  rw [e1, Int32.sub_neg, Int32.add_comm, ← Int32.sub_eq_add_neg, nI_sub h1]
  congr 1
  omega
/-- the digits, from the last: a place for each -/
theorem s_chars {q N : Nat} (hN : N ≤ 400) {P : Int32 → va_W → Prop} : ∀ (n c s p : Nat) (w : va_W) (f : Nat → Int32), c < 2 ^ 31 → c < 10 ^ s → 1 ≤ s → s ≤ p → p ≤ N → s < n → jlk w q = some (.inl (1, N, .inl f)) → (∀ i, fits .byte (.int (f i)) = true) → (∀ v w' f', (∀ a, a ≠ q → jlk w' a = jlk w a) → jlk w' q = some (.inl (1, N, .inl f')) → (∀ i, fits .byte (.int (f' i)) = true) → P v w') → w_J6_getChars_ba4f3_b22 n κ w (-(nI c)) q (nI p) 0 P := by
  intro n
  induction n with
  | zero => intro c s p w f _ _ _ _ _ h; omega
  | succ n ih =>
    intro c s p w f hc hs hs1 hsp hp hsn hq hf k
    rw [w_J6_getChars_ba4f3_b22]
    have em : nI p + -1 = nI (p - 1) := by rw [← Int32.sub_eq_add_neg]; exact nI_sub (b := 1) (by omega)
    have wr : ∀ (w1 : va_W) (f1 : Nat → Int32) (j : Nat) (x : Int32), j < N → jlk w1 q = some (.inl (1, N, .inl f1)) → (∀ i, fits .byte (.int (f1 i)) = true) → fits .byte (.int (vp_nar .byte x)) = true → ∀ K : va_W → Prop, (∀ w2 f2, (∀ a, a ≠ q → jlk w2 a = jlk w1 a) → jlk w2 q = some (.inl (1, N, .inl f2)) → (∀ i, fits .byte (.int (f2 i)) = true) → K w2) → jSb w1 q (nI j) x K := by
      intro w1 f1 j x hj h1 h2 h3 K hk
      refine ⟨N, f1, h1, nI_in hj (by omega), hk _ (upd f1 (nI j).toNatClampNeg (vp_nar .byte x)) (fun a ha => jst_ne ha) (jst_self h1) (fun i => ?_)⟩
      show fits .byte (.int (if i = (nI j).toNatClampNeg then vp_nar .byte x else f1 i)) = true
      split
      · exact h3
      · exact h2 i
    have fin : ∀ (w1 : va_W) (f1 : Nat → Int32) (v : Int32), (∀ a, a ≠ q → jlk w1 a = jlk w a) → jlk w1 q = some (.inl (1, N, .inl f1)) → (∀ i, fits .byte (.int (f1 i)) = true) → w_J6_getChars_ba4f3_b104 κ w1 q v 0 P := by
      intro w1 f1 v h1 h2 h3
      unfold w_J6_getChars_ba4f3_b104 w_J6_getChars_ba4f3_b118
      rw [if_pos rfl]
      exact k v w1 f1 h1 h2 h3
    by_cases h100 : c < 100
    · rw [if_pos (show (-100 : Int32) < -(nI c) from by rw [Int32.lt_iff_toInt_lt, nI_neg hc, show (-100 : Int32).toInt = -100 from rfl]; omega), Int32.neg_neg, em]
      refine ⟨nI_in h100 (by omega), wr w f (p - 1) _ (by omega) hq hf (jDig_fits c h100 0 (by omega)) _ (fun w1 f1 a1 a2 a3 => ?_)⟩
      by_cases h9 : c < 10
      · rw [if_pos (show (-9 : Int32) ≤ -(nI c) from by rw [Int32.le_iff_toInt_le, nI_neg hc, show (-9 : Int32).toInt = -9 from rfl]; omega)]
        exact fin w1 f1 _ a1 a2 a3
      · rw [if_neg (show ¬ (-9 : Int32) ≤ -(nI c) from by rw [Int32.le_iff_toInt_le, nI_neg hc, show (-9 : Int32).toInt = -9 from rfl]; omega)]
        have hs2 : 2 ≤ s := by
          rcases Nat.lt_or_ge s 2 with g | g
          · have : s = 1 := by omega
            subst this; omega
          · exact g
        rw [show nI (p - 1) + -1 = nI (p - 2) from by rw [← Int32.sub_eq_add_neg]; exact nI_sub (a := p - 1) (b := 1) (by omega)]
        refine ⟨nI_in h100 (by omega), wr w1 f1 (p - 2) _ (by omega) a2 a3 (jDig_fits c h100 1 (by omega)) _ (fun w2 f2 b1 b2 b3 => ?_)⟩
        exact fin w2 f2 _ (fun a ha => (b1 a ha).trans (a1 a ha)) b2 b3
    · rw [if_neg (show ¬ (-100 : Int32) < -(nI c) from by rw [Int32.lt_iff_toInt_lt, nI_neg hc, show (-100 : Int32).toInt = -100 from rfl]; omega), nI_negmod hc, nI_negdiv hc, em]
      have hs3 : 3 ≤ s := by
        rcases Nat.lt_or_ge s 3 with g | g
        · have h2 : 10 ^ s ≤ 10 ^ 2 := Nat.pow_le_pow_right (by omega) (by omega)
          omega
        · exact g
      have hm : c % 100 < 100 := Nat.mod_lt _ (by omega)
      refine ⟨nI_in hm (by omega), wr w f (p - 1) _ (by omega) hq hf (jDig_fits _ hm 0 (by omega)) _ (fun w1 f1 a1 a2 a3 => ?_)⟩
      rw [show nI (p - 1) + -1 = nI (p - 2) from by rw [← Int32.sub_eq_add_neg]; exact nI_sub (a := p - 1) (b := 1) (by omega)]
      refine ⟨nI_in hm (by omega), wr w1 f1 (p - 2) _ (by omega) a2 a3 (jDig_fits _ hm 1 (by omega)) _ (fun w2 f2 b1 b2 b3 => ?_)⟩
      refine ih (c / 100) (s - 2) (p - 2) w2 f2 (by omega) ?_ (by omega) (by omega) (by omega) (by omega) b2 b3 (fun v w' f' d1 d2 d3 => k v w' f' (fun a ha => (d1 a ha).trans ((b1 a ha).trans (a1 a ha))) d2 d3)
      have e : 10 ^ s = 10 ^ (s - 2) * 100 := by
        rw [show (100 : Nat) = 10 ^ 2 from rfl, ← Nat.pow_add]; congr 1; omega
      rw [e] at hs
      exact Nat.div_lt_of_lt_mul (by rw [Nat.mul_comm]; exact hs)
theorem s_sbI (h : jRep L R V T w) {b c : Nat} (hb : b < 2) (hc : c < 2 ^ 31) (hl : (T b).length + 10 ≤ 200) {P : Nat → va_W → Prop} (k : ∀ t w', (T b).length < t.length → t.length ≤ (T b).length + 10 → jRep L R V (jT T b t) w' → P (L (317 + b)) w') : w_J4_append_bf812 κ w (L (317 + b)) (nI c) P := by
  obtain ⟨q, n, f, m9, hs⟩ := h.sb hb
  unfold w_J4_append_bf812 w_J4_append_bf812_b0 w_J5_append_c97b9 w_J5_append_c97b9_b0
  refine ⟨⟨_, hs.1⟩, (jgI_eq hs.1 rfl).mpr (s_size10 hc (fun s s1 s2 s3 => ?_))⟩
  refine ⟨⟨_, hs.1⟩, ?_⟩
  rw [nI_add]
  refine s_ens h hb (by omega) (fun w1 q n f m9 h1 hs hn => ?_)
  refine ⟨⟨_, hs.1⟩, s_latin hs ?_⟩
  try dsimp only
  rw [if_neg (by decide)]
  obtain ⟨g1, g2, g3, g4, g5, g6, g7, g8⟩ := hs
  refine (jgR_eq g1 rfl).mpr ?_
  unfold w_J6_getChars_ba4f3 w_J6_getChars_ba4f3_b0 w_J6_getChars_ba4f3_b12
  rw [if_pos (show (0 : Int32) ≤ nI c from (nI_leI (a := 0) (by omega) hc).mpr (Nat.zero_le _)), if_pos rfl]
  refine s_chars g4 jFu c s ((T b).length + s) w1 f hc s3 s1 (by omega) hn (by rw [jFu_eq]; omega) g2 g6 (fun v w2 f2 a1 a2 a3 => ?_)
  unfold w_J5_append_c97b9_b48
  have g1' := (a1 (L (317 + b)) (fun e => g7 e.symm)).trans g1
  refine (jpV_eq g1' (Nat.le_of_ble_eq_true rfl)).mpr ?_
  refine k ((List.range ((T b).length + s)).map f2) _ (by rw [List.length_map, List.length_range]; omega) (by rw [List.length_map, List.length_range]; omega) ?_
  refine g8 _ _ q n f2 m9 (fun a b1 b2 b3 => by rw [jst_ne b1, a1 a b2]) ?_ (by rw [jst_ne g7]; exact a2) (by rw [List.length_map, List.length_range]; exact hn) g4 (fun i hi => ?_) a3 (Or.inl rfl)
  · rw [jst_self g1', List.length_map, List.length_range]; rfl
  · rw [List.length_map, List.length_range] at hi
    simp [List.getD, hi]
end JDigits
