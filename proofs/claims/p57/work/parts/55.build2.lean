/-! ===== the builders' methods ===== -/
section JBuild2
variable {κ : Nat → Nat} {L : Nat → Nat} {R : Nat → Nat → Int32} {V : Nat → Int32} {T : Nat → List Int32} {w : va_W}
theorem s_latin {b q n : Nat} {f : Nat → Int32} {m9 : Int32} (hs : jSi0 L R V T w b q n f m9) {P : Int32 → va_W → Prop} (k : P 1 w) : w_J5_isLatin1_aae02 κ w (L (317 + b)) P := by
  unfold w_J5_isLatin1_aae02 w_J5_isLatin1_aae02_b0
  refine (jgI_eq hs.1 rfl).mpr ?_
  rw [if_pos rfl]
  exact ⟨rfl, k⟩
theorem vp_nar_c : ∀ c, c < 128 → vp_nar .byte (ji2b (nI c)) = nI c := by decide +kernel
theorem fits_c : ∀ c, c < 128 → fits .byte (.int (nI c)) = true := by decide +kernel
/-- a sign appended -/
theorem s_sbC (h : jRep L R V T w) {b c : Nat} (hb : b < 2) (hc : c < 128) (hl : (T b).length < 200) {P : Nat → va_W → Prop} (k : ∀ w', jRep L R V (jT T b (T b ++ [nI c])) w' → P (L (317 + b)) w') : w_J4_append_cf468 κ w (L (317 + b)) (nI c) P := by
  obtain ⟨q, n, f, m9, hs⟩ := h.sb hb
  unfold w_J4_append_cf468 w_J4_append_cf468_b0 w_J5_append_3fe6f w_J5_append_3fe6f_b0
  refine ⟨⟨_, hs.1⟩, (jgI_eq hs.1 rfl).mpr ⟨⟨_, hs.1⟩, ?_⟩⟩
  rw [nI_1]
  refine s_ens h hb (by omega) (fun w1 q n f m9 h1 hs hn => ?_)
  refine ⟨⟨_, hs.1⟩, s_latin hs ?_⟩
  rw [if_neg (by decide)]
  unfold w_J1_canEncode_fc78d w_J1_canEncode_fc78d_b0
  rw [if_neg (fun e : (255 : Int32) < nI c => by have := (nI_ltI (a := 255) (by omega) (by omega)).mp e; omega)]
  refine ⟨rfl, ?_⟩
  try dsimp only
  rw [if_neg (by decide)]
  obtain ⟨g1, g2, g3, g4, g5, g6, g7, g8⟩ := hs
  refine (jgR_eq g1 rfl).mpr ((jgI_eq g1 rfl).mpr ((jpV_eq g1 (Nat.le_of_ble_eq_true rfl)).mpr ?_))
  refine ⟨n, f, by rw [jst_ne g7]; exact g2, nI_in (by omega) (by omega), ?_⟩
  unfold w_J5_append_3fe6f_b75
  rw [nI_clamp (by omega), vp_nar_c c hc]
  refine k _ ?_
  have g2' : jlk (jst w1 (L (317 + b)) (.inr (1, [.ref q, .int 0, .int m9, .int (nI (T b).length)].set 3 (.int (nI (T b).length + 1))))) q = some (.inl (1, n, .inl f)) := by rw [jst_ne g7]; exact g2
  refine g8 _ _ q n _ m9 (fun a a1 a2 a3 => by rw [jst_ne a2, jst_ne a1]) ?_ (jst_self g2') (by rw [List.length_append]; show (T b).length + 1 ≤ n; omega) g4 (fun i hi => ?_) (fun i => ?_) (Or.inl rfl)
  · rw [jst_ne (fun e => g7 e.symm), jst_self g1]
    unfold jSc
    rw [List.length_append, nI_1]; rfl
  · rw [List.length_append] at hi
    have hi : i < (T b).length + 1 := hi
    show (if i = (T b).length then nI c else f i) = _
    by_cases hi2 : i = (T b).length
    · rw [if_pos hi2, hi2]; simp
    · rw [if_neg hi2, g5 i (by omega)]
      simp [List.getD, List.getElem?_append_left (show i < (T b).length by omega)]
  · show fits .byte (.int (if i = (T b).length then nI c else f i)) = true
    split
    · exact fits_c c hc
    · exact g6 i
theorem s_sb0 (h : jRep L R V T w) {b : Nat} (hb : b < 2) {P : va_W → Prop} (k : ∀ w', jRep L R V (jT T b []) w' → P w') : w_J4_setLength_d00df κ w (L (317 + b)) 0 P := by
  obtain ⟨q, n, f, m9, hs⟩ := h.sb hb
  unfold w_J4_setLength_d00df w_J4_setLength_d00df_b0 w_J5_setLength_d00df w_J5_setLength_d00df_b0
  refine ⟨⟨_, hs.1⟩, ?_⟩
  rw [if_pos (by decide)]
  refine ⟨⟨_, hs.1⟩, s_ens (m := 0) h hb (by omega) (fun w1 q n f m9 h1 hs hn => ?_)⟩
  obtain ⟨g1, g2, g3, g4, g5, g6, g7, g8⟩ := hs
  refine (jgI_eq g1 rfl).mpr ?_
  rw [if_pos (show (0 : Int32) ≤ nI (T b).length from (nI_leI (a := 0) (by omega) (by omega)).mpr (Nat.zero_le _))]
  refine (jgI_eq g1 rfl).mpr ?_
  have fin : ∀ w2 m2, (∀ a, a ≠ L (317 + b) → jlk w2 a = jlk w1 a) → jlk w2 (L (317 + b)) = some (jSc q m2 (T b).length) → w_J5_setLength_d00df_b76 κ w2 (L (317 + b)) 0 P := fun w2 m2 e1 e2 => by
    unfold w_J5_setLength_d00df_b76
    refine (jpV_eq e2 (Nat.le_of_ble_eq_true rfl)).mpr (k _ ?_)
    refine g8 _ [] q n f m2 (fun a a1 a2 a3 => by rw [jst_ne a1, e1 a a1]) (by rw [jst_self e2]; rfl) (by rw [jst_ne g7, e1 q g7]; exact g2) (Nat.zero_le _) g4 (fun i hi => absurd hi (Nat.not_lt_zero _)) g6 (Or.inl rfl)
  by_cases hl : nI (T b).length ≤ 0
  · rw [if_pos hl]
    exact fin w1 m9 (fun _ _ => rfl) g1
  · rw [if_neg hl]
    refine (jpV_eq g1 (Nat.le_of_ble_eq_true rfl)).mpr ?_
    exact fin _ 1 (fun a a1 => jst_ne a1) (by rw [jst_self g1]; rfl)
theorem ji2c_c : ∀ c, c < 128 → ji2c (nI c &&& 255) = nI c := by decide +kernel
theorem nar_c : ∀ c, c < 128 → narrow .char (.int (nI c)) = .int (nI c) := fun c hc => by
  have : ∀ c, c < 128 → vp_nar .char (nI c) = nI c := by decide +kernel
  have h := this c hc
  rw [vp_nar_char] at h
  show Value.int _ = Value.int _
  exact congrArg Value.int h
/-- the sign at a place -/
theorem s_sbAt (h : jRep L R V T w) {b i c : Nat} (hb : b < 2) (hi : i < (T b).length) (hc : c < 128) (ec : (T b).getD i 0 = nI c) {P : Int32 → va_W → Prop} (k : P (nI c) w) : w_J4_charAt_5068e κ w (L (317 + b)) (nI i) P := by
  obtain ⟨q, n, f, m9, g1, g2, g3, g4, g5, g6, g7, g8⟩ := h.sb hb
  unfold w_J4_charAt_5068e w_J4_charAt_5068e_b0 w_J5_charAt_5068e w_J5_charAt_5068e_b0
  refine ⟨⟨_, g1⟩, (jgI_eq g1 rfl).mpr ((jgR_eq g1 rfl).mpr ((jgI_eq g1 rfl).mpr ((jAl_eq g2 (by decide)).mpr ?_)))⟩
  unfold w_J0_checkIndex_df160
  rw [jshr0, show jmin (nI (T b).length) (Int32.ofNat n) = nI (T b).length from by rw [show Int32.ofNat n = nI n from rfl, nI_min (by omega) (by omega), if_neg (by omega)]]
  refine ⟨nI_pos (by omega), (nI_ltI (by omega) (by omega)).mpr hi, ?_⟩
  try dsimp only
  rw [if_pos rfl]
  refine (jLd_eq g2 (nI_in (by omega) (by omega))).mpr ?_
  rw [nI_clamp (by omega), g5 i hi, ec, ji2c_c c hc]
  exact ⟨nar_c c hc, nar_c c hc, k⟩
end JBuild2
