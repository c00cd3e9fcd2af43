/-! ===== a text typed; an act ===== -/
def gTx (u : Nat) : List Int32 := (jTxt.getD u []).map nI
theorem lg_cmp_self (x : Int64) : lg_cmp x x = 0 := by
  unfold lg_cmp
  rw [if_neg (fun h => absurd h (Int64.lt_irrefl (a := x)).elim), if_pos rfl]
section JAct
variable {κ : Nat → Nat} {L : Nat → Nat} {R R' : Nat → Nat → Int32} {V V' : Nat → Int32} {T : Nat → List Int32} {w : va_W} {B : Nat} {x : Int32} {P : Int32 → va_W → Prop}
theorem jTxt_s : ∀ u, u < 27 → 7 ≤ u → (jTxt.getD u []).length ≤ 27 ∧ ∀ x ∈ jTxt.getD u [], 32 ≤ x ∧ x ≤ 126 := by decide +kernel
theorem mF_s : ∀ u, u < 27 → 7 ≤ u → (mF (gTx u)).1 = true := by decide +kernel
theorem gMap_at {l : List Nat} {i : Nat} (h : i < l.length) : (l.map nI).getD i 0 = nI l[i] := by simp [List.getD, h]
theorem gTx_c {u : Nat} (hu : u < 27) (h7 : 7 ≤ u) : gCh (gTx u) := by
  obtain ⟨h1, h2⟩ := jTxt_s u hu h7
  unfold gCh gTx
  rw [List.length_map]
  refine ⟨by omega, fun i hi => ?_⟩
  refine ⟨(jTxt.getD u [])[i], ?_, gMap_at hi⟩
  have := (h2 _ (List.getElem_mem hi)).2
  omega
theorem jRep.scl (h : jRq L R V T w) : jRc w (L 315) 7 := ⟨_, h.sc⟩
theorem l_put (h : jRq L R V T w) {c : Nat} (h32 : 32 ≤ c) (h126 : c ≤ 126) (hl : (T 0).length < 60) (k : ∀ w', jRq L R V (jT T 0 (T 0 ++ [nI c])) w' → P 1 w') : w_L_put κ w (L 316) (nI c) P := by
  unfold w_L_put w_L_put_b0 w_X8_type w_X8_type_b0
  refine ⟨⟨_, h.lg⟩, ?_⟩
  rw [if_neg (fun e : nI c < 32 => by have := (nI_ltI (b := 32) (by omega) (by omega)).mp e; omega), if_pos (show nI c ≤ 126 from (nI_leI (b := 126) (by omega) (by omega)).mpr h126)]
  refine (jgR_eq h.lg rfl).mpr ⟨⟨_, h.sc⟩, ?_⟩
  unfold w_X4_length w_X4_length_b0
  refine (jgR_eq h.sc rfl).mpr ⟨h.sbc (b := 0) (by omega), s_lenQ h (b := 0) (by omega) ?_⟩
  try dsimp only
  rw [if_pos (show nI (T 0).length < 60 from (nI_ltI (b := 60) (by omega) (by omega)).mpr hl)]
  refine (jgR_eq h.lg rfl).mpr ⟨⟨_, h.sc⟩, ?_⟩
  unfold w_X4_append w_X4_append_b0
  refine (jgR_eq h.sc rfl).mpr ⟨h.sbc (b := 0) (by omega), s_sbCQ h (b := 0) (by omega) (by omega) (by omega) (fun w2 h2 => ?_)⟩
  exact (jgR_eq h2.sc rfl).mpr ⟨h2.sbc (b := 0) (by omega), s_lenQ h2 (b := 0) (by omega) (k w2 h2)⟩
theorem l_typedL {u : Nat} (hu : u < 27) (h7 : 7 ≤ u) {P : Nat → va_W → Prop} : ∀ (n i : Nat) (T : Nat → List Int32) (w : va_W), i ≤ jLen u → jLen u < n + i → T 0 = (gTx u).take i → jRq L R V T w → (∀ w', jRq L R V (jT T 0 (gTx u)) w' → P (L 316) w') → w_L_typed_b2 n κ w (L 316) u (nI i) P := by
  intro n
  obtain ⟨hl, hc⟩ := jTxt_s u hu h7
  have hl : jLen u ≤ 27 := hl
  induction n with
  | zero => intro i T w a b; omega
  | succ n ih =>
    intro i T w a b hT h k
    rw [w_L_typed_b2]
    refine ⟨hu, s_kLen hu ?_⟩
    by_cases hi : i = jLen u
    · rw [if_pos ((nI_leI (by omega) (by omega)).mpr (by omega))]
      refine k w ?_
      have : (gTx u).take i = gTx u := List.take_of_length_le (by unfold gTx; rw [List.length_map]; exact Nat.le_of_eq hi.symm)
      rw [this] at hT
      rw [← hT, jT_id]; exact h
    · rw [if_neg (fun e => hi (by have := (nI_leI (by omega) (by omega)).mp e; omega))]
      have hil : i < (jTxt.getD u []).length := show i < jLen u by omega
      have eb : (jTxt.getD u [])[i] = jByt u i := gD_at hil
      have hx := hc _ (List.getElem_mem hil)
      rw [eb] at hx
      have hlen : (T 0).length = i := by
        rw [hT, List.length_take]; unfold gTx; rw [List.length_map]; omega
      refine ⟨hu, s_kAt hu (show i < jLen u by omega) rfl (by omega) (l_put h hx.1 hx.2 (by omega) (fun w2 h2 => ?_))⟩
      rw [nI_1]
      refine ih (i + 1) _ w2 (by omega) (by omega) ?_ h2 (fun w3 h3 => ?_)
      · rw [jT_self, hT, ← eb]
        have hi2 : i < (gTx u).length := by unfold gTx; rw [List.length_map]; exact hil
        rw [List.take_succ_eq_append_getElem hi2]
        congr 1
        unfold gTx
        simp
      · rw [jT_jT] at h3; exact k w3 h3
theorem l_typed (h : jRq L R V T w) (hT : T 0 = []) {u : Nat} (hu : u < 27) (h7 : 7 ≤ u) {P : Nat → va_W → Prop} (k : ∀ w', jRq L R V (jT T 0 (gTx u)) w' → P (L 316) w') : w_L_typed κ w (L 316) u P := by
  unfold w_L_typed w_L_typed_b0
  obtain ⟨hl, -⟩ := jTxt_s u hu h7
  have hl : jLen u ≤ 27 := hl
  exact l_typedL hu h7 28 0 T w (Nat.zero_le _) (by omega) (by rw [hT]; rfl) h k
theorem and_n (x : Int32) : ∃ j, j < 65536 ∧ x &&& 65535 = nI j := by
  refine ⟨x.toBitVec.toNat % 65536, Nat.mod_lt _ (by omega), ?_⟩
  apply Int32.toBitVec_inj.mp
  apply BitVec.eq_of_toNat_eq
  rw [Int32.toBitVec_and, BitVec.toNat_and]
  rw [show (65535 : Int32).toBitVec.toNat = 2 ^ 16 - 1 from by decide, Nat.and_two_pow_sub_one_eq_mod]
  show x.toBitVec.toNat % 2 ^ 16 = (BitVec.ofNat 32 (x.toBitVec.toNat % 65536)).toNat
  rw [BitVec.toNat_ofNat, Nat.mod_eq_of_lt (a := x.toBitVec.toNat % 65536) (by have := Nat.mod_lt x.toBitVec.toNat (show 65536 > 0 by omega); omega)]
theorem rem_in {m : Nat} (hm : 0 < m) (hm2 : m < 65536) (x : Int32) : ∃ i, i < m ∧ jrem (x &&& 65535) (nI m) = nI i := by
  obtain ⟨j, hj, e⟩ := and_n x
  rw [e, jrem_n (by omega) (by omega)]
  exact ⟨j % m, Nat.mod_lt _ hm, rfl⟩
theorem u_scr (h : jRq L R V T w) (hT : T 0 = []) (hi : jInv R V B) (hB : B < 2 ^ 28) (hκ : jEn κ) {y : Int32} {i : Nat} (hy : y = nI i) (h20 : i < 20)
    (k1 : ∀ R' V' T' w', jRq L R' V' T' w' → (T' 0 = [] ∧ T' 3 = T 3) → jInv R' V' (B + 60) → gFr R V R' V' → (∀ m S U, gBk R V m S U → gBk R' V' m S U) → gEq R' V' R V → ¬ V' 48 < 0 → P (-100000000) w')
    (k0 : ∀ R' V' T' v w', jRq L R' V' T' w' → (T' 0 = [] ∧ T' 3 = T 3) → jInv R' V' (B + 60) → gOp R V R' V' → ¬ v < 0 → P v w') : vp_in y 20 ∧ w_L_typed κ w (L 316) (7 + Int32.toNatClampNeg y) (fun r17 w17 => w_L_runScript κ w17 r17 (fun v18 w18 => P v18 w18)) := by
  subst hy
  rw [nI_clamp (by omega)]
  refine ⟨nI_in h20 (by omega), l_typed h hT (by omega) (by omega) (fun w2 h2 => ?_)⟩
  have eT : (jT T 0 (gTx (7 + i))) 0 = gTx (7 + i) := jT_self
  refine u_runScript h2 hi (by omega) hκ (by rw [eT]; exact gTx_c (by omega) (by omega)) (fun R' V' w3 h3 a b c d e => ?_) (fun R' V' v w3 h3 a b c => ?_)
  · exact k1 R' V' _ w3 h3 ⟨jT_self, (jT_ne (by omega)).trans (jT_ne (by omega))⟩ a b c d (e (by rw [eT]; exact mF_s _ (by omega) (by omega)))
  · exact k0 R' V' _ v w3 h3 ⟨jT_self, (jT_ne (by omega)).trans (jT_ne (by omega))⟩ a b c
theorem u_act (h : jRq L R V T w) (hT : T 0 = []) (hi : jInv R V B) (hB : B < 2 ^ 28) (hκ : jEn κ) (k : ∀ R' V' T' v w', jRq L R' V' T' w' → (T' 0 = [] ∧ T' 3 = T 3) → jInv R' V' (B + 60) → (v = -100000000 → gEq R' V' R V) → P v w') : w_L_act κ w (L 316) x P := by
  unfold w_L_act w_L_act_b0
  have kF : P (-100000000) w := k R V T _ w h ⟨hT, rfl⟩ (hi.mono (by omega)) (fun _ => gEq.refl)
  have kFw : ∀ w', jRq L R V T w' → P (-100000000) w' := fun w' h' => k R V T _ w' h' ⟨hT, rfl⟩ (hi.mono (by omega)) (fun _ => gEq.refl)
  have nn : ∀ v : Int32, ¬ v < 0 → v = -100000000 → False := fun v hv e => hv (by rw [e]; decide)
  have kO : ∀ R' V' v w', jRq L R' V' T w' → jInv R' V' B → gOp R V R' V' → ¬ v < 0 → P v w' := fun R' V' v w' a b _ c => k R' V' T v w' a ⟨hT, rfl⟩ (b.mono (by omega)) (fun e => (nn v c e).elim)
  have kO1 : ∀ R' V' v w', jRq L R' V' T w' → jInv R' V' (B + 1) → gOp R V R' V' → ¬ v < 0 → P v w' := fun R' V' v w' a b _ c => k R' V' T v w' a ⟨hT, rfl⟩ (b.mono (by omega)) (fun e => (nn v c e).elim)
  obtain ⟨nx, me, g1, g2, g3, -⟩ := hi.t0.2.2.2.1
  refine ⟨⟨_, h.lg⟩, q_written h ⟨?_, ?_⟩⟩
  · rw [g3, show nI nx + 2 = nI (nx + 2) from nI_add nx 2]
    intro e
    have := (nI_eq (a := nx + 2) (b := 0) (by omega) (by omega)).mp e
    omega
  unfold w_L_act_b120 w_L_act_b180 w_L_act_b237
  have wr : ∀ y, w_L_writeBlock κ w (L 316) y (fun v8 w8 => P v8 w8) := fun y => u_write h hi (by omega) hκ (fun _ => kFw) (fun _ => kO1)
  have co : ∀ y z, w_L_collect κ w (L 316) y z (fun v8 w8 => P v8 w8) := fun y z => u_collect h hi hκ (fun _ => kF) kO
  have fo : ∀ y z, w_L_follow κ w (L 316) y z (fun v8 w8 => P v8 w8) := fun y z => u_follow h hi hκ kF kO
  have re : ∀ y, w_L_repair κ w (L 316) y (fun v8 w8 => P v8 w8) := fun y => u_repair h hi hκ kFw kO
  have sc : ∀ y : Int32, vp_in (jrem (y &&& 65535) 20) 20 ∧ w_L_typed κ w (L 316) (7 + Int32.toNatClampNeg (jrem (y &&& 65535) 20)) (fun r17 w17 => w_L_runScript κ w17 r17 (fun v18 w18 => P v18 w18)) := fun y => by
    obtain ⟨i, hi20, ey⟩ := rem_in (m := 20) (by omega) (by omega) y
    exact u_scr h hT hi hB hκ ey hi20 (fun R' V' T' w' a b c _ _ d _ => k R' V' T' _ w' a b c (fun _ => d)) (fun R' V' T' v w' a b c _ d => k R' V' T' v w' a b c (fun e => (nn v d e).elim))
  by_cases c0 : (x &&& 15) = 0
  · rw [if_pos c0]
    by_cases d : (((jshr x 4) &&& 65535) &&& 64) = 0
    · rw [if_pos d]; exact u_addHill h hi hκ kF kO
    · rw [if_neg d]; exact re _
  rw [if_neg c0]
  by_cases c1 : (x &&& 15) = 1
  · rw [if_pos c1]
    exact co _ _
  rw [if_neg c1]
  by_cases c2 : (x &&& 15) = 2
  · rw [if_pos c2]
    exact co _ _
  rw [if_neg c2]
  by_cases c3 : (x &&& 15) = 3
  · rw [if_pos c3]
    exact co _ _
  rw [if_neg c3]
  by_cases c4 : (x &&& 15) = 4
  · rw [if_pos c4]
    exact wr _
  rw [if_neg c4]
  by_cases c5 : (x &&& 15) = 5
  · rw [if_pos c5]
    exact wr _
  rw [if_neg c5]
  by_cases c6 : (x &&& 15) = 6
  · rw [if_pos c6]
    exact wr _
  rw [if_neg c6]
  by_cases c7 : (x &&& 15) = 7
  · rw [if_pos c7]
    exact wr _
  rw [if_neg c7]
  by_cases c8 : (x &&& 15) = 8
  · rw [if_pos c8]
    exact fo _ _
  rw [if_neg c8]
  by_cases c9 : (x &&& 15) = 9
  · rw [if_pos c9]
    exact fo _ _
  rw [if_neg c9]
  by_cases c10 : (x &&& 15) = 10
  · rw [if_pos c10]
    by_cases d : (((jshr x 4) &&& 65535) &&& 96) = 0
    · rw [if_pos d]; exact u_melt h hi hκ (fun _ => kF) kO
    · rw [if_neg d]; exact u_replace h hi hκ (fun _ => kF) kO
  rw [if_neg c10]
  by_cases c11 : (x &&& 15) = 11
  · rw [if_pos c11]
    exact re _
  rw [if_neg c11]
  by_cases c12 : (x &&& 15) = 12
  · rw [if_pos c12]
    exact sc _
  rw [if_neg c12]
  by_cases c13 : (x &&& 15) = 13
  · rw [if_pos c13]
    exact sc _
  rw [if_neg c13]
  by_cases c14 : (x &&& 15) = 14
  · rw [if_pos c14]
    exact sc _
  rw [if_neg c14]
  by_cases d : (((jshr x 4) &&& 65535) &&& 3) = 0
  · rw [if_pos d]
    exact ⟨⟨_, h.lg⟩, u_save h hi (fun R' V' v w' a b c d _ _ => k R' V' T v w' a ⟨hT, rfl⟩ (b.mono (by omega)) (fun _ => c))⟩
  rw [if_neg d]
  by_cases d : (((jshr x 4) &&& 65535) &&& 3) = 1
  · rw [if_pos d]
    refine u_restore h hi (fun _ => kF) (fun _ R' V' v w' a b c d _ => k R' V' T v w' a ⟨hT, rfl⟩ (b.mono (by omega)) (fun e => ?_))
    rw [d] at e
    exact (nn _ (nI_pos (by have := gC_16 (gU (jSh R 1)); omega)) e).elim
  rw [if_neg d]
  exact u_undo h hi (fun _ => kF) (fun _ R' V' v w' a b _ _ c => k R' V' T v w' a ⟨hT, rfl⟩ (b.mono (by omega)) (fun e => (nn v c e).elim))
end JAct
