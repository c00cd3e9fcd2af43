theorem jm_J3_checkIndex_8e157 : jMs yJ3_checkIndex_8e157 cJ3_checkIndex_8e157 3 (some .int) 3 := ⟨jw_738, jw_48, jw_739, ⟨by decide +kernel, by decide +kernel⟩, by decide +kernel⟩
theorem jm_J0_checkIndex_df160 : jMs yJ0_checkIndex_df160 cJ0_checkIndex_df160 2 none 2 := ⟨jw_733, jw_33, jw_734, ⟨by decide +kernel, by decide +kernel⟩, by decide +kernel⟩
theorem c_J3_chk {E : jE} {w : va_W} {x0 x1 : Int32} {v : Value} (hv : v = .null ∨ ∃ t, v = .ref t) (h0 : ¬ x0 < 0) (h1 : x0 < x1) : jC E yJ3_checkIndex_8e157 cJ3_checkIndex_8e157 3 (some .int) ({ frames := 0, cells := 0, slots := 0, locals := 0 } : Room) [.int x0, .int x1, v] w 0 0 (jPi (fun r u => r = x0 ∧ u = w)) := by
  have hsz : (lg_sl [.int x0, .int x1, v]).length ≤ 3 := by rcases hv with rfl | ⟨t, rfl⟩ <;> exact Nat.le_of_ble_eq_true rfl
  refine jC_of (by decide) hsz ?_
  intro Γ X hE hR Rt
  refine j_iload_n X dJ3_checkIndex_8e157_0 0 rfl ?_
  refine j_if_lt X 9 dJ3_checkIndex_8e157_1 (by decide) (fun c => absurd c h0) (fun _ => ?_)
  refine j_iload_n X dJ3_checkIndex_8e157_4 0 rfl ?_
  refine j_iload_n X dJ3_checkIndex_8e157_5 1 rfl ?_
  refine j_icmp_lt X 16 dJ3_checkIndex_8e157_6 (by decide) (fun _ => ?_) (fun c => absurd h1 c)
  refine j_iload_n X dJ3_checkIndex_8e157_16 0 rfl ?_
  exact Rt.i dJ3_checkIndex_8e157_17 ⟨_, rfl, rfl, rfl⟩ (by decide) (by decide)
def w_J0_checkIndex_df160 (κ : Nat → Nat) (w : va_W) (x0 x1 : Int32) (P : va_W → Prop) : Prop := ¬ x0 < 0 ∧ x0 < x1 ∧ P w
theorem c_J0_checkIndex_df160 {E : jE} {w : va_W} {x0 x1 : Int32} {P : va_W → Prop} (h : w_J0_checkIndex_df160 E.2.2.2 w x0 x1 P) : jC E yJ0_checkIndex_df160 cJ0_checkIndex_df160 2 none ({ frames := 1, cells := 0, slots := 0, locals := 22 } : Room) [.int x0, .int x1] w 0 0 (jPv P) := by
  refine jC_of (by decide) (Nat.le_of_ble_eq_true rfl) ?_
  intro Γ X hE hR Rt
  subst hE
  obtain ⟨h0, h1, h⟩ := h
  refine j_iload_n X dJ0_checkIndex_df160_0 0 rfl ?_
  refine j_iload_n X dJ0_checkIndex_df160_1 1 rfl ?_
  refine j_getsQ X jw_735 dJ0_checkIndex_df160_2 ?_ (fun t => ?_)
  · refine j_callSi X [.int x0, .int x1, .null] [] (c_J3_chk (Or.inl rfl) h0 h1) jm_J3_checkIndex_8e157 jw_737 rfl ⟨rfl, rfl⟩ (by rw [hR]; decide) rfl (Nat.le_of_ble_eq_true rfl) dJ0_checkIndex_df160_5 (fun r u h9 => ?_)
    obtain ⟨rfl, rfl⟩ := h9
    refine j_pop X dJ0_checkIndex_df160_8 rfl ?_
    exact Rt.v dJ0_checkIndex_df160_9 ⟨rfl, h⟩ (by decide) (by decide)
  · refine j_callSi X [.int x0, .int x1, .ref t] [] (c_J3_chk (Or.inr ⟨t, rfl⟩) h0 h1) jm_J3_checkIndex_8e157 jw_737 rfl ⟨rfl, rfl⟩ (by rw [hR]; decide) rfl (Nat.le_of_ble_eq_true rfl) dJ0_checkIndex_df160_5 (fun r u h9 => ?_)
    obtain ⟨rfl, rfl⟩ := h9
    refine j_pop X dJ0_checkIndex_df160_8 rfl ?_
    exact Rt.v dJ0_checkIndex_df160_9 ⟨rfl, h⟩ (by decide) (by decide)
theorem jm_J7_fill_53178 : jMs yJ7_fill_53178 cJ7_fill_53178 4 none 2 := ⟨jw_75, jw_25, jw_76, ⟨by decide +kernel, by decide +kernel⟩, by decide +kernel⟩
def w_J7_fill_53178_b5 : Nat → (κ : Nat → Nat) → (w : va_W) → (a0 : Nat) → (x1 : Int32) → (x2 : Int32) → (x3 : Int32) → (P : va_W → Prop) → Prop
  | 0, _, _, _, _, _, _, _ => False
  | n + 1, κ, w, a0, x1, x2, x3, P =>
    (if x3 ≤ x2 then P w else jSi w a0 x2 x1 (fun w1 => w_J7_fill_53178_b5 n κ w1 a0 x1 (x2 + 1) x3 P))
set_option maxRecDepth 100000 in
set_option maxHeartbeats 4000000 in
theorem k_J7_fill_53178_b5 {Γ : jG} (X : jX Γ cJ7_fill_53178 4 RJ7) (hR : jgR Γ = ({ frames := 0, cells := 0, slots := 0, locals := 0 } : Room)) {P : va_W → Prop} (Rt : jRt Γ cJ7_fill_53178 4 0 0 none (jPv P)) : ∀ (n : Nat) {w : va_W} {a0 : Nat} {x1 : Int32} {x2 : Int32} {x3 : Int32} (h : w_J7_fill_53178_b5 n (jgE Γ).2.2.2 w a0 x1 x2 x3 P), J Γ 4 w 0 0 5 [(0, .ref a0), (1, .int x1), (2, .int x2), (3, .int x3)] [] := by
  intro n
  induction n with
  | zero => intro w a0 x1 x2 x3 h; exact False.elim h
  | succ n ih =>
    intro w a0 x1 x2 x3 h
    rw [w_J7_fill_53178_b5] at h
    refine j_iload_n X dJ7_fill_53178_5 2 rfl ?_
    refine j_iload_n X dJ7_fill_53178_6 3 rfl ?_
    refine j_icmp_ge X 20 dJ7_fill_53178_7 (by decide) (fun c => ?_) (fun c => ?_)
    · replace h := jif_t c h
      exact Rt.v dJ7_fill_53178_20 ⟨rfl, h⟩ (by first | decide | omega) (by first | decide | omega)
    · replace h := jif_f c h
      refine j_aload_n X dJ7_fill_53178_10 0 rfl ?_
      refine j_iload_n X dJ7_fill_53178_11 2 rfl ?_
      refine j_iload_n X dJ7_fill_53178_12 1 rfl ?_
      obtain ⟨n1, f1, g1, i1, h⟩ := h
      refine j_iast X g1 i1 dJ7_fill_53178_13 ?_
      generalize jst w a0 _ = w1 at h ⊢
      refine j_iinc X (x2 + 1) [(2, .int (x2 + 1)), (0, .ref a0), (1, .int x1), (3, .int x3)] dJ7_fill_53178_14 2 rfl rfl (by decide) rfl ?_
      refine j_goto X 5 dJ7_fill_53178_17 (by decide) ?_
      refine j_sub [1, 2, 0, 3] rfl ?_
      exact ih h
def w_J7_fill_53178_b0 (κ : Nat → Nat) (w : va_W) (a0 : Nat) (x1 : Int32) (P : va_W → Prop) : Prop :=
    jAl w a0 (fun v1 => w_J7_fill_53178_b5 jFu κ w a0 x1 0 v1 P)
set_option maxRecDepth 100000 in
set_option maxHeartbeats 4000000 in
theorem k_J7_fill_53178_b0 {Γ : jG} (X : jX Γ cJ7_fill_53178 4 RJ7) (hR : jgR Γ = ({ frames := 0, cells := 0, slots := 0, locals := 0 } : Room)) {P : va_W → Prop} (Rt : jRt Γ cJ7_fill_53178 4 0 0 none (jPv P)) {w : va_W} {a0 : Nat} {x1 : Int32} (h : w_J7_fill_53178_b0 (jgE Γ).2.2.2 w a0 x1 P) : J Γ 4 w 0 0 0 [(0, .ref a0), (1, .int x1)] [] := by
  unfold w_J7_fill_53178_b0 at h
  refine j_iconst X 0 dJ7_fill_53178_0 (by decide) ?_
  refine j_istore_n X [(2, .int 0), (0, .ref a0), (1, .int x1)] dJ7_fill_53178_1 (by decide) rfl ?_
  refine j_aload_n X dJ7_fill_53178_2 1 rfl ?_
  obtain ⟨t1, n1, q1, j1, g1, h⟩ := h
  refine j_alen X j1 g1 dJ7_fill_53178_3 ?_
  generalize Int32.ofNat n1 = v1 at h ⊢
  refine j_istore_n X [(3, .int v1), (2, .int 0), (0, .ref a0), (1, .int x1)] dJ7_fill_53178_4 (by decide) rfl ?_
  refine j_sub [2, 3, 1, 0] rfl ?_
  exact k_J7_fill_53178_b5 X hR Rt _ h
def w_J7_fill_53178 (κ : Nat → Nat) (w : va_W) (a0 : Nat) (x1 : Int32) (P : va_W → Prop) : Prop := w_J7_fill_53178_b0 κ w a0 x1 P
theorem c_J7_fill_53178 {E : jE} {w : va_W} {a0 : Nat} {x1 : Int32} {P : va_W → Prop} (h : w_J7_fill_53178 E.2.2.2 w a0 x1 P) : jC E yJ7_fill_53178 cJ7_fill_53178 4 none ({ frames := 0, cells := 0, slots := 0, locals := 0 } : Room) [.ref a0, .int x1] w 0 0 (jPv P) := by
  refine jC_of (by decide) (Nat.le_of_ble_eq_true rfl) ?_
  intro Γ X hE hR Rt
  subst hE
  exact k_J7_fill_53178_b0 X hR Rt h
theorem jmi_X3_init : jMi yX3_init cX3_init 3 2 := ⟨jw_71, jw_24, jw_72, ⟨by decide +kernel, by decide +kernel⟩, by decide +kernel, rfl⟩
def w_X3_init_b14 (κ : Nat → Nat) (w : va_W) (a0 : Nat) (x2 : Int32) (s0 : Int32) (s1 : Nat) (P : va_W → Prop) : Prop :=
    (¬ s0 < 0 ∧ Int32.toNatClampNeg s0 ≤ 100 ∧ ∀ q1 : Nat, jlk w q1 = none → (fun w1 => (jpV w1 s1 6 0 (.ref q1) (fun w2 => jgR' w2 a0 6 0 (fun r3 => w_J7_fill_53178 κ w2 r3 x2 (fun w4 => P w4))))) (w ++ [(q1, .inl (0, Int32.toNatClampNeg s0, .inl (fun _ => 0)))]))
set_option maxRecDepth 100000 in
set_option maxHeartbeats 4000000 in
theorem k_X3_init_b14 {Γ : jG} (hNm : (jgM Γ).name = "<init>") (X : jX Γ cX3_init 3 RX3) (hR : jgR Γ = ({ frames := 1, cells := 1, slots := 100, locals := 23 } : Room)) {P : va_W → Prop} (Rt : jRt Γ cX3_init 3 1 100 none (jPv P)) {w : va_W} {a0 : Nat} {x2 : Int32} {s0 : Int32} {s1 : Nat} (h : w_X3_init_b14 (jgE Γ).2.2.2 w a0 x2 s0 s1 P) : J Γ 3 w 0 0 14 [(0, .ref a0), (2, .int x2)] [.int s0, .ref s1] := by
  unfold w_X3_init_b14 at h
  refine j_newa X (N := Int32.toNatClampNeg s0) 0 (by decide) rfl jw_81 h.1 rfl (Nat.le_trans h.2.1 (by decide)) (by rw [hR]; exact ⟨by simp only []; omega, by have := h.2.1; simp only []; omega⟩) dX3_init_14 (fun q1 e1 => ?_)
  refine j_widen (n := 0 + 100) (Nat.le_refl _) (Nat.add_le_add_left h.2.1 _) ?_
  replace h := h.2.2 q1 e1
  generalize w ++ [(q1, _)] = w1 at h ⊢
  obtain ⟨fs2, g2, i2, h⟩ := h
  refine j_putF X hNm (ci := 6) (C := RX3) (T := TX3) (N := 1) rfl jin_X3 tyX3 tyX3_ok nmX3 0 (by decide) g2 jw_77 rfl rfl rfl (by rfl) (by rfl) i2 dX3_init_16 ?_
  generalize jst w1 s1 _ = w2 at h ⊢
  refine j_aload_n X dX3_init_19 0 rfl ?_
  obtain ⟨fs3, r3, g3, i3, h⟩ := h
  refine j_get X (ci := 6) (C := RX3) (T := TX3) (N := 1) rfl jin_X3 0 (by decide) g3 i3 jw_77 rfl dX3_init_20 ?_
  refine j_iload_n X dX3_init_23 1 rfl ?_
  refine j_callSv X [.ref r3, .int x2] [] (c_J7_fill_53178 h) jm_J7_fill_53178 jw_74 rfl ⟨rfl, rfl⟩ (by rw [hR]; decide) rfl (Nat.le_of_ble_eq_true rfl) dX3_init_24 (fun w4 h => ?_)
  exact Rt.v dX3_init_27 ⟨rfl, h⟩ (by first | decide | omega) (by first | decide | omega)
def w_X3_init_b0 (κ : Nat → Nat) (w : va_W) (a0 : Nat) (x1 : Int32) (x2 : Int32) (P : va_W → Prop) : Prop :=
    (if x1 ≤ 0 then w_X3_init_b14 κ w a0 x2 0 a0 P else w_X3_init_b14 κ w a0 x2 x1 a0 P)
set_option maxRecDepth 100000 in
set_option maxHeartbeats 4000000 in
theorem k_X3_init_b0 {Γ : jG} (hNm : (jgM Γ).name = "<init>") (X : jX Γ cX3_init 3 RX3) (hR : jgR Γ = ({ frames := 1, cells := 1, slots := 100, locals := 23 } : Room)) {P : va_W → Prop} (Rt : jRt Γ cX3_init 3 1 100 none (jPv P)) {w : va_W} {a0 : Nat} {x1 : Int32} {x2 : Int32} (h : w_X3_init_b0 (jgE Γ).2.2.2 w a0 x1 x2 P) : J Γ 3 w 0 0 0 [(0, .ref a0), (1, .int x1), (2, .int x2)] [] := by
  unfold w_X3_init_b0 at h
  refine j_aload_n X dX3_init_0 0 rfl ?_
  refine j_objInit X jw_73 jw_60 jw_61 (by rw [hR]; exact ⟨by decide, Nat.le_of_ble_eq_true rfl⟩) dX3_init_1 ?_
  refine j_aload_n X dX3_init_4 0 rfl ?_
  refine j_iload_n X dX3_init_5 1 rfl ?_
  refine j_if_le X 13 dX3_init_6 (by decide) (fun c => ?_) (fun c => ?_)
  · replace h := jif_t c h
    refine j_iconst X 0 dX3_init_13 (by decide) ?_
    refine j_sub [0, 2] rfl ?_
    refine j_widen (k := 0) (n := 0) (by decide) (by decide) ?_
    exact k_X3_init_b14 hNm X hR Rt h
  · replace h := jif_f c h
    refine j_iload_n X dX3_init_9 1 rfl ?_
    refine j_goto X 14 dX3_init_10 (by decide) ?_
    refine j_sub [0, 2] rfl ?_
    refine j_widen (k := 0) (n := 0) (by decide) (by decide) ?_
    exact k_X3_init_b14 hNm X hR Rt h
def w_X3_init (κ : Nat → Nat) (w : va_W) (a0 : Nat) (x1 : Int32) (x2 : Int32) (P : va_W → Prop) : Prop := w_X3_init_b0 κ w a0 x1 x2 P
theorem c_X3_init {E : jE} {w : va_W} {a0 : Nat} {x1 : Int32} {x2 : Int32} {P : va_W → Prop} (h : w_X3_init E.2.2.2 w a0 x1 x2 P) : jC E yX3_init cX3_init 3 none ({ frames := 1, cells := 1, slots := 100, locals := 23 } : Room) [.ref a0, .int x1, .int x2] w 1 100 (jPv P) := by
  refine jC_ofN (by decide) (Nat.le_of_ble_eq_true rfl) ?_
  intro Γ hNm X hE hR Rt
  subst hE
  exact k_X3_init_b0 hNm X hR Rt h
theorem jmi_X0_init : jMi yX0_init cX0_init 2 1 := ⟨jw_85, jw_26, jw_86, ⟨by decide +kernel, by decide +kernel⟩, by decide +kernel, rfl⟩
def w_X0_init_b0 (κ : Nat → Nat) (w : va_W) (a0 : Nat) (x1 : Int32) (P : va_W → Prop) : Prop :=
    (∀ q1 : Nat, jlk w q1 = none → (fun w1 => w_X3_init κ w1 q1 x1 0 (fun w2 => (jpV w2 a0 4 0 (.ref q1) (fun w3 => (∀ q4 : Nat, jlk w3 q4 = none → (fun w4 => w_X3_init κ w4 q4 (x1 * 4) 0 (fun w5 => (jpV w5 a0 4 1 (.ref q4) (fun w6 => (∀ q7 : Nat, jlk w6 q7 = none → (fun w7 => w_X3_init κ w7 q7 4 0 (fun w8 => (jpV w8 a0 4 2 (.ref q7) (fun w9 => P w9)))) (w6 ++ [(q7, .inr (6, [.null]))])))))) (w3 ++ [(q4, .inr (6, [.null]))])))))) (w ++ [(q1, .inr (6, [.null]))]))
set_option maxRecDepth 100000 in
set_option maxHeartbeats 4000000 in
theorem k_X0_init_b0 {Γ : jG} (hNm : (jgM Γ).name = "<init>") (X : jX Γ cX0_init 2 RX0) (hR : jgR Γ = ({ frames := 2, cells := 6, slots := 303, locals := 45 } : Room)) {P : va_W → Prop} (Rt : jRt Γ cX0_init 2 6 303 none (jPv P)) {w : va_W} {a0 : Nat} {x1 : Int32} (h : w_X0_init_b0 (jgE Γ).2.2.2 w a0 x1 P) : J Γ 2 w 0 0 0 [(0, .ref a0), (1, .int x1)] [] := by
  unfold w_X0_init_b0 at h
  refine j_aload_n X dX0_init_0 0 rfl ?_
  refine j_objInit X jw_87 jw_60 jw_61 (by rw [hR]; exact ⟨by decide, Nat.le_of_ble_eq_true rfl⟩) dX0_init_1 ?_
  refine j_aload_n X dX0_init_4 0 rfl ?_
  refine j_new X (C := RX3) (T := TX3) (N := 1) 6 [.null] rfl jin_X3 tyX3 tyX3_ok jw_88 jw_69 jw_24 (fun j hj => by rcases (show j = 0 by omega) with rfl <;> rfl) (by rw [hR]; exact ⟨by simp only []; omega, by simp only []; omega⟩) dX0_init_5 (fun q1 e1 => ?_)
  replace h := h q1 e1
  generalize w ++ [(q1, _)] = w1 at h ⊢
  refine j_dup X dX0_init_8 rfl ?_
  refine j_iload_n X dX0_init_9 1 rfl ?_
  refine j_iconst X 0 dX0_init_10 (by decide) ?_
  refine j_callI X [.int x1, .int 0] [.ref q1, .ref a0] (c_X3_init h) jmi_X3_init jw_89 rfl ⟨rfl, rfl⟩ (by rw [hR]; decide) rfl (Nat.le_of_ble_eq_true rfl) dX0_init_11 (fun w2 h => ?_)
  obtain ⟨fs3, g3, i3, h⟩ := h
  refine j_putF X hNm (ci := 4) (C := RX0) (T := TX0) (N := 3) rfl jin_X0 tyX0 tyX0_ok nmX0 0 (by decide) g3 jw_90 rfl rfl rfl (by rfl) (by rfl) i3 dX0_init_14 ?_
  generalize jst w2 a0 _ = w3 at h ⊢
  refine j_aload_n X dX0_init_17 0 rfl ?_
  refine j_new X (C := RX3) (T := TX3) (N := 1) 6 [.null] rfl jin_X3 tyX3 tyX3_ok jw_88 jw_69 jw_24 (fun j hj => by rcases (show j = 0 by omega) with rfl <;> rfl) (by rw [hR]; exact ⟨by simp only []; omega, by simp only []; omega⟩) dX0_init_18 (fun q4 e4 => ?_)
  replace h := h q4 e4
  generalize w3 ++ [(q4, _)] = w4 at h ⊢
  refine j_dup X dX0_init_21 rfl ?_
  refine j_iload_n X dX0_init_22 1 rfl ?_
  refine j_iconst X 4 dX0_init_23 (by decide) ?_
  refine j_imul X dX0_init_24 ?_
  refine j_iconst X 0 dX0_init_25 (by decide) ?_
  refine j_callI X [.int (x1 * 4), .int 0] [.ref q4, .ref a0] (c_X3_init h) jmi_X3_init jw_89 rfl ⟨rfl, rfl⟩ (by rw [hR]; decide) rfl (Nat.le_of_ble_eq_true rfl) dX0_init_26 (fun w5 h => ?_)
  obtain ⟨fs6, g6, i6, h⟩ := h
  refine j_putF X hNm (ci := 4) (C := RX0) (T := TX0) (N := 3) rfl jin_X0 tyX0 tyX0_ok nmX0 1 (by decide) g6 jw_91 rfl rfl rfl (by rfl) (by rfl) i6 dX0_init_29 ?_
  generalize jst w5 a0 _ = w6 at h ⊢
  refine j_aload_n X dX0_init_32 0 rfl ?_
  refine j_new X (C := RX3) (T := TX3) (N := 1) 6 [.null] rfl jin_X3 tyX3 tyX3_ok jw_88 jw_69 jw_24 (fun j hj => by rcases (show j = 0 by omega) with rfl <;> rfl) (by rw [hR]; exact ⟨by simp only []; omega, by simp only []; omega⟩) dX0_init_33 (fun q7 e7 => ?_)
  replace h := h q7 e7
  generalize w6 ++ [(q7, _)] = w7 at h ⊢
  refine j_dup X dX0_init_36 rfl ?_
  refine j_iconst X 4 dX0_init_37 (by decide) ?_
  refine j_iconst X 0 dX0_init_38 (by decide) ?_
  refine j_callI X [.int 4, .int 0] [.ref q7, .ref a0] (c_X3_init h) jmi_X3_init jw_89 rfl ⟨rfl, rfl⟩ (by rw [hR]; decide) rfl (Nat.le_of_ble_eq_true rfl) dX0_init_39 (fun w8 h => ?_)
  obtain ⟨fs9, g9, i9, h⟩ := h
  refine j_putF X hNm (ci := 4) (C := RX0) (T := TX0) (N := 3) rfl jin_X0 tyX0 tyX0_ok nmX0 2 (by decide) g9 jw_92 rfl rfl rfl (by rfl) (by rfl) i9 dX0_init_42 ?_
  generalize jst w8 a0 _ = w9 at h ⊢
  exact Rt.v dX0_init_45 ⟨rfl, h⟩ (by first | decide | omega) (by first | decide | omega)
def w_X0_init (κ : Nat → Nat) (w : va_W) (a0 : Nat) (x1 : Int32) (P : va_W → Prop) : Prop := w_X0_init_b0 κ w a0 x1 P
theorem c_X0_init {E : jE} {w : va_W} {a0 : Nat} {x1 : Int32} {P : va_W → Prop} (h : w_X0_init E.2.2.2 w a0 x1 P) : jC E yX0_init cX0_init 2 none ({ frames := 2, cells := 6, slots := 303, locals := 45 } : Room) [.ref a0, .int x1] w 6 303 (jPv P) := by
  refine jC_ofN (by decide) (Nat.le_of_ble_eq_true rfl) ?_
  intro Γ hNm X hE hR Rt
  subst hE
  exact k_X0_init_b0 hNm X hR Rt h
theorem jm_X3_at : jMv yX3_at cX3_at 2 (some .int) 1 := ⟨jw_368, jw_369, jw_24, jw_370, ⟨by decide +kernel, by decide +kernel⟩, by decide +kernel⟩
def w_X3_at_b23 (κ : Nat → Nat) (w : va_W) (s0 : Int32) (P : Int32 → va_W → Prop) : Prop :=
    P s0 w
set_option maxRecDepth 100000 in
set_option maxHeartbeats 4000000 in
theorem k_X3_at_b23 {Γ : jG} (X : jX Γ cX3_at 2 RX3) (hR : jgR Γ = ({ frames := 0, cells := 0, slots := 0, locals := 0 } : Room)) {P : Int32 → va_W → Prop} (Rt : jRt Γ cX3_at 2 0 0 (some .int) (jPi P)) {w : va_W} {s0 : Int32} (h : w_X3_at_b23 (jgE Γ).2.2.2 w s0 P) : J Γ 2 w 0 0 23 [] [.int s0] := by
  unfold w_X3_at_b23 at h
  exact Rt.i dX3_at_23 ⟨_, rfl, h⟩ (by first | decide | omega) (by first | decide | omega)
def w_X3_at_b22 (κ : Nat → Nat) (w : va_W) (P : Int32 → va_W → Prop) : Prop :=
    w_X3_at_b23 κ w (-1) P
set_option maxRecDepth 100000 in
set_option maxHeartbeats 4000000 in
theorem k_X3_at_b22 {Γ : jG} (X : jX Γ cX3_at 2 RX3) (hR : jgR Γ = ({ frames := 0, cells := 0, slots := 0, locals := 0 } : Room)) {P : Int32 → va_W → Prop} (Rt : jRt Γ cX3_at 2 0 0 (some .int) (jPi P)) {w : va_W} (h : w_X3_at_b22 (jgE Γ).2.2.2 w  P) : J Γ 2 w 0 0 22 [] [] := by
  unfold w_X3_at_b22 at h
  refine j_iconst X (-1) dX3_at_22 (by decide) ?_
  exact k_X3_at_b23 X hR Rt h
def w_X3_at_b0 (κ : Nat → Nat) (w : va_W) (a0 : Nat) (x1 : Int32) (P : Int32 → va_W → Prop) : Prop :=
    (if x1 < 0 then w_X3_at_b22 κ w  P else jgR' w a0 6 0 (fun r1 => jAl w r1 (fun v2 => (if v2 ≤ x1 then w_X3_at_b22 κ w  P else jgR' w a0 6 0 (fun r3 => jLd w r3 0 x1 (fun v4 => w_X3_at_b23 κ w v4 P))))))
set_option maxRecDepth 100000 in
set_option maxHeartbeats 4000000 in
theorem k_X3_at_b0 {Γ : jG} (X : jX Γ cX3_at 2 RX3) (hR : jgR Γ = ({ frames := 0, cells := 0, slots := 0, locals := 0 } : Room)) {P : Int32 → va_W → Prop} (Rt : jRt Γ cX3_at 2 0 0 (some .int) (jPi P)) {w : va_W} {a0 : Nat} {x1 : Int32} (h : w_X3_at_b0 (jgE Γ).2.2.2 w a0 x1 P) : J Γ 2 w 0 0 0 [(0, .ref a0), (1, .int x1)] [] := by
  unfold w_X3_at_b0 at h
  refine j_iload_n X dX3_at_0 1 rfl ?_
  refine j_if_lt X 22 dX3_at_1 (by decide) (fun c => ?_) (fun c => ?_)
  · replace h := jif_t c h
    refine j_sub [] rfl ?_
    exact k_X3_at_b22 X hR Rt h
  · replace h := jif_f c h
    refine j_iload_n X dX3_at_4 1 rfl ?_
    refine j_aload_n X dX3_at_5 0 rfl ?_
    obtain ⟨fs1, r1, g1, i1, h⟩ := h
    refine j_get X (ci := 6) (C := RX3) (T := TX3) (N := 1) rfl jin_X3 0 (by decide) g1 i1 jw_77 rfl dX3_at_6 ?_
    obtain ⟨t2, n2, q2, j2, g2, h⟩ := h
    refine j_alen X j2 g2 dX3_at_9 ?_
    generalize Int32.ofNat n2 = v2 at h ⊢
    refine j_icmp_ge X 22 dX3_at_10 (by decide) (fun c => ?_) (fun c => ?_)
    · replace h := jif_t c h
      refine j_sub [] rfl ?_
      exact k_X3_at_b22 X hR Rt h
    · replace h := jif_f c h
      refine j_aload_n X dX3_at_13 0 rfl ?_
      obtain ⟨fs3, r3, g3, i3, h⟩ := h
      refine j_get X (ci := 6) (C := RX3) (T := TX3) (N := 1) rfl jin_X3 0 (by decide) g3 i3 jw_77 rfl dX3_at_14 ?_
      refine j_iload_n X dX3_at_17 1 rfl ?_
      obtain ⟨n4, f4, g4, i4, h⟩ := h
      refine j_iald X g4 i4 dX3_at_18 ?_
      generalize f4 _ = v4 at h ⊢
      refine j_goto X 23 dX3_at_19 (by decide) ?_
      refine j_sub [] rfl ?_
      exact k_X3_at_b23 X hR Rt h
def w_X3_at (κ : Nat → Nat) (w : va_W) (a0 : Nat) (x1 : Int32) (P : Int32 → va_W → Prop) : Prop := w_X3_at_b0 κ w a0 x1 P
theorem c_X3_at {E : jE} {w : va_W} {a0 : Nat} {x1 : Int32} {P : Int32 → va_W → Prop} (h : w_X3_at E.2.2.2 w a0 x1 P) : jC E yX3_at cX3_at 2 (some .int) ({ frames := 0, cells := 0, slots := 0, locals := 0 } : Room) [.ref a0, .int x1] w 0 0 (jPi P) := by
  refine jC_of (by decide) (Nat.le_of_ble_eq_true rfl) ?_
  intro Γ X hE hR Rt
  subst hE
  exact k_X3_at_b0 X hR Rt h
theorem jm_X0_size : jMv yX0_size cX0_size 2 (some .int) 1 := ⟨jw_582, jw_583, jw_26, jw_584, ⟨by decide +kernel, by decide +kernel⟩, by decide +kernel⟩
def w_X0_size_b0 (κ : Nat → Nat) (w : va_W) (a0 : Nat) (x1 : Int32) (P : Int32 → va_W → Prop) : Prop :=
    jgR' w a0 4 0 (fun r1 => (jRc w r1 6 ∧ w_X3_at κ w r1 x1 (fun v2 w2 => P v2 w2)))
set_option maxRecDepth 100000 in
set_option maxHeartbeats 4000000 in
theorem k_X0_size_b0 {Γ : jG} (X : jX Γ cX0_size 2 RX0) (hR : jgR Γ = ({ frames := 1, cells := 0, slots := 0, locals := 21 } : Room)) {P : Int32 → va_W → Prop} (Rt : jRt Γ cX0_size 2 0 0 (some .int) (jPi P)) {w : va_W} {a0 : Nat} {x1 : Int32} (h : w_X0_size_b0 (jgE Γ).2.2.2 w a0 x1 P) : J Γ 2 w 0 0 0 [(0, .ref a0), (1, .int x1)] [] := by
  unfold w_X0_size_b0 at h
  refine j_aload_n X dX0_size_0 0 rfl ?_
  obtain ⟨fs1, r1, g1, i1, h⟩ := h
  refine j_get X (ci := 4) (C := RX0) (T := TX0) (N := 3) rfl jin_X0 0 (by decide) g1 i1 jw_90 rfl dX0_size_1 ?_
  refine j_iload_n X dX0_size_4 1 rfl ?_
  obtain ⟨⟨fs2, g2⟩, h⟩ := h
  refine j_callVi X [.int x1] [] (c_X3_at h) (T := TX3) (N := 1) g2 rfl jm_X3_at jw_585 rfl ⟨rfl, rfl⟩ (by rw [hR]; decide) rfl (Nat.le_of_ble_eq_true rfl) dX0_size_5 (fun v2 w2 h => ?_)
  exact Rt.i dX0_size_8 ⟨_, rfl, h⟩ (by first | decide | omega) (by first | decide | omega)
def w_X0_size (κ : Nat → Nat) (w : va_W) (a0 : Nat) (x1 : Int32) (P : Int32 → va_W → Prop) : Prop := w_X0_size_b0 κ w a0 x1 P
theorem c_X0_size {E : jE} {w : va_W} {a0 : Nat} {x1 : Int32} {P : Int32 → va_W → Prop} (h : w_X0_size E.2.2.2 w a0 x1 P) : jC E yX0_size cX0_size 2 (some .int) ({ frames := 1, cells := 0, slots := 0, locals := 21 } : Room) [.ref a0, .int x1] w 0 0 (jPi P) := by
  refine jC_of (by decide) (Nat.le_of_ble_eq_true rfl) ?_
  intro Γ X hE hR Rt
  subst hE
  exact k_X0_size_b0 X hR Rt h
theorem jm_X0_hasPosition : jMv yX0_hasPosition cX0_hasPosition 3 (some .boolean) 2 := ⟨jw_683, jw_684, jw_26, jw_685, ⟨by decide +kernel, by decide +kernel⟩, by decide +kernel⟩
def w_X0_hasPosition_b21 (κ : Nat → Nat) (w : va_W) (s0 : Int32) (P : Int32 → va_W → Prop) : Prop :=
    (narrow .boolean (.int s0) = .int s0 ∧ P s0 w)
set_option maxRecDepth 100000 in
set_option maxHeartbeats 4000000 in
theorem k_X0_hasPosition_b21 {Γ : jG} (X : jX Γ cX0_hasPosition 3 RX0) (hR : jgR Γ = ({ frames := 1, cells := 0, slots := 0, locals := 21 } : Room)) {P : Int32 → va_W → Prop} (Rt : jRt Γ cX0_hasPosition 3 0 0 (some .boolean) (jPi P)) {w : va_W} {s0 : Int32} (h : w_X0_hasPosition_b21 (jgE Γ).2.2.2 w s0 P) : J Γ 3 w 0 0 21 [] [.int s0] := by
  unfold w_X0_hasPosition_b21 at h
  exact Rt.z dX0_hasPosition_21 h.1 ⟨_, rfl, h.2⟩ (by first | decide | omega) (by first | decide | omega)
def w_X0_hasPosition_b20 (κ : Nat → Nat) (w : va_W) (P : Int32 → va_W → Prop) : Prop :=
    w_X0_hasPosition_b21 κ w 0 P
set_option maxRecDepth 100000 in
set_option maxHeartbeats 4000000 in
theorem k_X0_hasPosition_b20 {Γ : jG} (X : jX Γ cX0_hasPosition 3 RX0) (hR : jgR Γ = ({ frames := 1, cells := 0, slots := 0, locals := 21 } : Room)) {P : Int32 → va_W → Prop} (Rt : jRt Γ cX0_hasPosition 3 0 0 (some .boolean) (jPi P)) {w : va_W} (h : w_X0_hasPosition_b20 (jgE Γ).2.2.2 w  P) : J Γ 3 w 0 0 20 [] [] := by
  unfold w_X0_hasPosition_b20 at h
  refine j_iconst X 0 dX0_hasPosition_20 (by decide) ?_
  exact k_X0_hasPosition_b21 X hR Rt h
def w_X0_hasPosition_b0 (κ : Nat → Nat) (w : va_W) (a0 : Nat) (x1 : Int32) (x2 : Int32) (P : Int32 → va_W → Prop) : Prop :=
    (if x2 < 0 then w_X0_hasPosition_b20 κ w  P else jgR' w a0 4 0 (fun r1 => (jRc w r1 6 ∧ w_X3_at κ w r1 x1 (fun v2 w2 => (if v2 ≤ x2 then w_X0_hasPosition_b20 κ w2  P else w_X0_hasPosition_b21 κ w2 1 P)))))
set_option maxRecDepth 100000 in
set_option maxHeartbeats 4000000 in
theorem k_X0_hasPosition_b0 {Γ : jG} (X : jX Γ cX0_hasPosition 3 RX0) (hR : jgR Γ = ({ frames := 1, cells := 0, slots := 0, locals := 21 } : Room)) {P : Int32 → va_W → Prop} (Rt : jRt Γ cX0_hasPosition 3 0 0 (some .boolean) (jPi P)) {w : va_W} {a0 : Nat} {x1 : Int32} {x2 : Int32} (h : w_X0_hasPosition_b0 (jgE Γ).2.2.2 w a0 x1 x2 P) : J Γ 3 w 0 0 0 [(0, .ref a0), (1, .int x1), (2, .int x2)] [] := by
  unfold w_X0_hasPosition_b0 at h
  refine j_iload_n X dX0_hasPosition_0 2 rfl ?_
  refine j_if_lt X 20 dX0_hasPosition_1 (by decide) (fun c => ?_) (fun c => ?_)
  · replace h := jif_t c h
    refine j_sub [] rfl ?_
    exact k_X0_hasPosition_b20 X hR Rt h
  · replace h := jif_f c h
    refine j_iload_n X dX0_hasPosition_4 2 rfl ?_
    refine j_aload_n X dX0_hasPosition_5 0 rfl ?_
    obtain ⟨fs1, r1, g1, i1, h⟩ := h
    refine j_get X (ci := 4) (C := RX0) (T := TX0) (N := 3) rfl jin_X0 0 (by decide) g1 i1 jw_90 rfl dX0_hasPosition_6 ?_
    refine j_iload_n X dX0_hasPosition_9 1 rfl ?_
    obtain ⟨⟨fs2, g2⟩, h⟩ := h
    refine j_callVi X [.int x1] [.int x2] (c_X3_at h) (T := TX3) (N := 1) g2 rfl jm_X3_at jw_585 rfl ⟨rfl, rfl⟩ (by rw [hR]; decide) rfl (Nat.le_of_ble_eq_true rfl) dX0_hasPosition_10 (fun v2 w2 h => ?_)
    refine j_icmp_ge X 20 dX0_hasPosition_13 (by decide) (fun c => ?_) (fun c => ?_)
    · replace h := jif_t c h
      refine j_sub [] rfl ?_
      exact k_X0_hasPosition_b20 X hR Rt h
    · replace h := jif_f c h
      refine j_iconst X 1 dX0_hasPosition_16 (by decide) ?_
      refine j_goto X 21 dX0_hasPosition_17 (by decide) ?_
      refine j_sub [] rfl ?_
      exact k_X0_hasPosition_b21 X hR Rt h
def w_X0_hasPosition (κ : Nat → Nat) (w : va_W) (a0 : Nat) (x1 : Int32) (x2 : Int32) (P : Int32 → va_W → Prop) : Prop := w_X0_hasPosition_b0 κ w a0 x1 x2 P
theorem c_X0_hasPosition {E : jE} {w : va_W} {a0 : Nat} {x1 : Int32} {x2 : Int32} {P : Int32 → va_W → Prop} (h : w_X0_hasPosition E.2.2.2 w a0 x1 x2 P) : jC E yX0_hasPosition cX0_hasPosition 3 (some .boolean) ({ frames := 1, cells := 0, slots := 0, locals := 21 } : Room) [.ref a0, .int x1, .int x2] w 0 0 (jPi P) := by
  refine jC_of (by decide) (Nat.le_of_ble_eq_true rfl) ?_
  intro Γ X hE hR Rt
  subst hE
  exact k_X0_hasPosition_b0 X hR Rt h
theorem jm_X0_flake : jMv yX0_flake cX0_flake 3 (some .int) 2 := ⟨jw_691, jw_692, jw_26, jw_693, ⟨by decide +kernel, by decide +kernel⟩, by decide +kernel⟩
def w_X0_flake_b0 (κ : Nat → Nat) (w : va_W) (a0 : Nat) (x1 : Int32) (x2 : Int32) (P : Int32 → va_W → Prop) : Prop :=
    jgR' w a0 4 1 (fun r1 => (jRc w r1 6 ∧ w_X3_at κ w r1 ((x1 * 4) + x2) (fun v2 w2 => P v2 w2)))
set_option maxRecDepth 100000 in
set_option maxHeartbeats 4000000 in
theorem k_X0_flake_b0 {Γ : jG} (X : jX Γ cX0_flake 3 RX0) (hR : jgR Γ = ({ frames := 1, cells := 0, slots := 0, locals := 21 } : Room)) {P : Int32 → va_W → Prop} (Rt : jRt Γ cX0_flake 3 0 0 (some .int) (jPi P)) {w : va_W} {a0 : Nat} {x1 : Int32} {x2 : Int32} (h : w_X0_flake_b0 (jgE Γ).2.2.2 w a0 x1 x2 P) : J Γ 3 w 0 0 0 [(0, .ref a0), (1, .int x1), (2, .int x2)] [] := by
  unfold w_X0_flake_b0 at h
  refine j_aload_n X dX0_flake_0 0 rfl ?_
  obtain ⟨fs1, r1, g1, i1, h⟩ := h
  refine j_get X (ci := 4) (C := RX0) (T := TX0) (N := 3) rfl jin_X0 1 (by decide) g1 i1 jw_91 rfl dX0_flake_1 ?_
  refine j_iload_n X dX0_flake_4 1 rfl ?_
  refine j_iconst X 4 dX0_flake_5 (by decide) ?_
  refine j_imul X dX0_flake_6 ?_
  refine j_iload_n X dX0_flake_7 2 rfl ?_
  refine j_iadd X dX0_flake_8 ?_
  obtain ⟨⟨fs2, g2⟩, h⟩ := h
  refine j_callVi X [.int ((x1 * 4) + x2)] [] (c_X3_at h) (T := TX3) (N := 1) g2 rfl jm_X3_at jw_585 rfl ⟨rfl, rfl⟩ (by rw [hR]; decide) rfl (Nat.le_of_ble_eq_true rfl) dX0_flake_9 (fun v2 w2 h => ?_)
  exact Rt.i dX0_flake_12 ⟨_, rfl, h⟩ (by first | decide | omega) (by first | decide | omega)
def w_X0_flake (κ : Nat → Nat) (w : va_W) (a0 : Nat) (x1 : Int32) (x2 : Int32) (P : Int32 → va_W → Prop) : Prop := w_X0_flake_b0 κ w a0 x1 x2 P
theorem c_X0_flake {E : jE} {w : va_W} {a0 : Nat} {x1 : Int32} {x2 : Int32} {P : Int32 → va_W → Prop} (h : w_X0_flake E.2.2.2 w a0 x1 x2 P) : jC E yX0_flake cX0_flake 3 (some .int) ({ frames := 1, cells := 0, slots := 0, locals := 21 } : Room) [.ref a0, .int x1, .int x2] w 0 0 (jPi P) := by
  refine jC_of (by decide) (Nat.le_of_ble_eq_true rfl) ?_
  intro Γ X hE hR Rt
  subst hE
  exact k_X0_flake_b0 X hR Rt h
theorem jm_X3_put : jMv yX3_put cX3_put 3 none 2 := ⟨jw_101, jw_102, jw_24, jw_103, ⟨by decide +kernel, by decide +kernel⟩, by decide +kernel⟩
def w_X3_put_b20 (κ : Nat → Nat) (w : va_W) (P : va_W → Prop) : Prop :=
    P w
set_option maxRecDepth 100000 in
set_option maxHeartbeats 4000000 in
theorem k_X3_put_b20 {Γ : jG} (X : jX Γ cX3_put 3 RX3) (hR : jgR Γ = ({ frames := 0, cells := 0, slots := 0, locals := 0 } : Room)) {P : va_W → Prop} (Rt : jRt Γ cX3_put 3 0 0 none (jPv P)) {w : va_W} (h : w_X3_put_b20 (jgE Γ).2.2.2 w  P) : J Γ 3 w 0 0 20 [] [] := by
  unfold w_X3_put_b20 at h
  exact Rt.v dX3_put_20 ⟨rfl, h⟩ (by first | decide | omega) (by first | decide | omega)
def w_X3_put_b0 (κ : Nat → Nat) (w : va_W) (a0 : Nat) (x1 : Int32) (x2 : Int32) (P : va_W → Prop) : Prop :=
    (if x1 < 0 then w_X3_put_b20 κ w  P else jgR' w a0 6 0 (fun r1 => jAl w r1 (fun v2 => (if v2 ≤ x1 then w_X3_put_b20 κ w  P else jgR' w a0 6 0 (fun r3 => jSi w r3 x1 x2 (fun w4 => w_X3_put_b20 κ w4  P))))))
set_option maxRecDepth 100000 in
set_option maxHeartbeats 4000000 in
theorem k_X3_put_b0 {Γ : jG} (X : jX Γ cX3_put 3 RX3) (hR : jgR Γ = ({ frames := 0, cells := 0, slots := 0, locals := 0 } : Room)) {P : va_W → Prop} (Rt : jRt Γ cX3_put 3 0 0 none (jPv P)) {w : va_W} {a0 : Nat} {x1 : Int32} {x2 : Int32} (h : w_X3_put_b0 (jgE Γ).2.2.2 w a0 x1 x2 P) : J Γ 3 w 0 0 0 [(0, .ref a0), (1, .int x1), (2, .int x2)] [] := by
  unfold w_X3_put_b0 at h
  refine j_iload_n X dX3_put_0 1 rfl ?_
  refine j_if_lt X 20 dX3_put_1 (by decide) (fun c => ?_) (fun c => ?_)
  · replace h := jif_t c h
    refine j_sub [] rfl ?_
    exact k_X3_put_b20 X hR Rt h
  · replace h := jif_f c h
    refine j_iload_n X dX3_put_4 1 rfl ?_
    refine j_aload_n X dX3_put_5 0 rfl ?_
    obtain ⟨fs1, r1, g1, i1, h⟩ := h
    refine j_get X (ci := 6) (C := RX3) (T := TX3) (N := 1) rfl jin_X3 0 (by decide) g1 i1 jw_77 rfl dX3_put_6 ?_
    obtain ⟨t2, n2, q2, j2, g2, h⟩ := h
    refine j_alen X j2 g2 dX3_put_9 ?_
    generalize Int32.ofNat n2 = v2 at h ⊢
    refine j_icmp_ge X 20 dX3_put_10 (by decide) (fun c => ?_) (fun c => ?_)
    · replace h := jif_t c h
      refine j_sub [] rfl ?_
      exact k_X3_put_b20 X hR Rt h
    · replace h := jif_f c h
      refine j_aload_n X dX3_put_13 0 rfl ?_
      obtain ⟨fs3, r3, g3, i3, h⟩ := h
      refine j_get X (ci := 6) (C := RX3) (T := TX3) (N := 1) rfl jin_X3 0 (by decide) g3 i3 jw_77 rfl dX3_put_14 ?_
      refine j_iload_n X dX3_put_17 1 rfl ?_
      refine j_iload_n X dX3_put_18 2 rfl ?_
      obtain ⟨n4, f4, g4, i4, h⟩ := h
      refine j_iast X g4 i4 dX3_put_19 ?_
      generalize jst w r3 _ = w4 at h ⊢
      refine j_sub [] rfl ?_
      exact k_X3_put_b20 X hR Rt h
def w_X3_put (κ : Nat → Nat) (w : va_W) (a0 : Nat) (x1 : Int32) (x2 : Int32) (P : va_W → Prop) : Prop := w_X3_put_b0 κ w a0 x1 x2 P
theorem c_X3_put {E : jE} {w : va_W} {a0 : Nat} {x1 : Int32} {x2 : Int32} {P : va_W → Prop} (h : w_X3_put E.2.2.2 w a0 x1 x2 P) : jC E yX3_put cX3_put 3 none ({ frames := 0, cells := 0, slots := 0, locals := 0 } : Room) [.ref a0, .int x1, .int x2] w 0 0 (jPv P) := by
  refine jC_of (by decide) (Nat.le_of_ble_eq_true rfl) ?_
  intro Γ X hE hR Rt
  subst hE
  exact k_X3_put_b0 X hR Rt h
theorem jm_X0_replace : jMv yX0_replace cX0_replace 4 none 3 := ⟨jw_695, jw_696, jw_26, jw_697, ⟨by decide +kernel, by decide +kernel⟩, by decide +kernel⟩
def w_X0_replace_b0 (κ : Nat → Nat) (w : va_W) (a0 : Nat) (x1 : Int32) (x2 : Int32) (x3 : Int32) (P : va_W → Prop) : Prop :=
    jgR' w a0 4 1 (fun r1 => (jRc w r1 6 ∧ w_X3_put κ w r1 ((x1 * 4) + x2) x3 (fun w2 => P w2)))
set_option maxRecDepth 100000 in
set_option maxHeartbeats 4000000 in
theorem k_X0_replace_b0 {Γ : jG} (X : jX Γ cX0_replace 4 RX0) (hR : jgR Γ = ({ frames := 1, cells := 0, slots := 0, locals := 22 } : Room)) {P : va_W → Prop} (Rt : jRt Γ cX0_replace 4 0 0 none (jPv P)) {w : va_W} {a0 : Nat} {x1 : Int32} {x2 : Int32} {x3 : Int32} (h : w_X0_replace_b0 (jgE Γ).2.2.2 w a0 x1 x2 x3 P) : J Γ 4 w 0 0 0 [(0, .ref a0), (1, .int x1), (2, .int x2), (3, .int x3)] [] := by
  unfold w_X0_replace_b0 at h
  refine j_aload_n X dX0_replace_0 0 rfl ?_
  obtain ⟨fs1, r1, g1, i1, h⟩ := h
  refine j_get X (ci := 4) (C := RX0) (T := TX0) (N := 3) rfl jin_X0 1 (by decide) g1 i1 jw_91 rfl dX0_replace_1 ?_
  refine j_iload_n X dX0_replace_4 1 rfl ?_
  refine j_iconst X 4 dX0_replace_5 (by decide) ?_
  refine j_imul X dX0_replace_6 ?_
  refine j_iload_n X dX0_replace_7 2 rfl ?_
  refine j_iadd X dX0_replace_8 ?_
  refine j_iload_n X dX0_replace_9 3 rfl ?_
  obtain ⟨⟨fs2, g2⟩, h⟩ := h
  refine j_callVv X [.int ((x1 * 4) + x2), .int x3] [] (c_X3_put h) (T := TX3) (N := 1) g2 rfl jm_X3_put jw_558 rfl ⟨rfl, rfl⟩ (by rw [hR]; decide) rfl (Nat.le_of_ble_eq_true rfl) dX0_replace_10 (fun w2 h => ?_)
  exact Rt.v dX0_replace_13 ⟨rfl, h⟩ (by first | decide | omega) (by first | decide | omega)
def w_X0_replace (κ : Nat → Nat) (w : va_W) (a0 : Nat) (x1 : Int32) (x2 : Int32) (x3 : Int32) (P : va_W → Prop) : Prop := w_X0_replace_b0 κ w a0 x1 x2 x3 P
theorem c_X0_replace {E : jE} {w : va_W} {a0 : Nat} {x1 : Int32} {x2 : Int32} {x3 : Int32} {P : va_W → Prop} (h : w_X0_replace E.2.2.2 w a0 x1 x2 x3 P) : jC E yX0_replace cX0_replace 4 none ({ frames := 1, cells := 0, slots := 0, locals := 22 } : Room) [.ref a0, .int x1, .int x2, .int x3] w 0 0 (jPv P) := by
  refine jC_of (by decide) (Nat.le_of_ble_eq_true rfl) ?_
  intro Γ X hE hR Rt
  subst hE
  exact k_X0_replace_b0 X hR Rt h
theorem jm_X0_add : jMv yX0_add cX0_add 4 none 2 := ⟨jw_591, jw_592, jw_26, jw_593, ⟨by decide +kernel, by decide +kernel⟩, by decide +kernel⟩
def w_X0_add_b0 (κ : Nat → Nat) (w : va_W) (a0 : Nat) (x1 : Int32) (x2 : Int32) (P : va_W → Prop) : Prop :=
    jgR' w a0 4 0 (fun r1 => (jRc w r1 6 ∧ w_X3_at κ w r1 x1 (fun v2 w2 => jgR' w2 a0 4 1 (fun r3 => (jRc w2 r3 6 ∧ w_X3_put κ w2 r3 ((x1 * 4) + v2) x2 (fun w4 => jgR' w4 a0 4 0 (fun r5 => (jRc w4 r5 6 ∧ w_X3_put κ w4 r5 x1 (v2 + 1) (fun w6 => P w6)))))))))
set_option maxRecDepth 100000 in
set_option maxHeartbeats 4000000 in
theorem k_X0_add_b0 {Γ : jG} (X : jX Γ cX0_add 4 RX0) (hR : jgR Γ = ({ frames := 1, cells := 0, slots := 0, locals := 22 } : Room)) {P : va_W → Prop} (Rt : jRt Γ cX0_add 4 0 0 none (jPv P)) {w : va_W} {a0 : Nat} {x1 : Int32} {x2 : Int32} (h : w_X0_add_b0 (jgE Γ).2.2.2 w a0 x1 x2 P) : J Γ 4 w 0 0 0 [(0, .ref a0), (1, .int x1), (2, .int x2)] [] := by
  unfold w_X0_add_b0 at h
  refine j_aload_n X dX0_add_0 0 rfl ?_
  obtain ⟨fs1, r1, g1, i1, h⟩ := h
  refine j_get X (ci := 4) (C := RX0) (T := TX0) (N := 3) rfl jin_X0 0 (by decide) g1 i1 jw_90 rfl dX0_add_1 ?_
  refine j_iload_n X dX0_add_4 1 rfl ?_
  obtain ⟨⟨fs2, g2⟩, h⟩ := h
  refine j_callVi X [.int x1] [] (c_X3_at h) (T := TX3) (N := 1) g2 rfl jm_X3_at jw_585 rfl ⟨rfl, rfl⟩ (by rw [hR]; decide) rfl (Nat.le_of_ble_eq_true rfl) dX0_add_5 (fun v2 w2 h => ?_)
  refine j_istore_n X [(3, .int v2), (0, .ref a0), (1, .int x1), (2, .int x2)] dX0_add_8 (by decide) rfl ?_
  refine j_aload_n X dX0_add_9 1 rfl ?_
  obtain ⟨fs3, r3, g3, i3, h⟩ := h
  refine j_get X (ci := 4) (C := RX0) (T := TX0) (N := 3) rfl jin_X0 1 (by decide) g3 i3 jw_91 rfl dX0_add_10 ?_
  refine j_iload_n X dX0_add_13 2 rfl ?_
  refine j_iconst X 4 dX0_add_14 (by decide) ?_
  refine j_imul X dX0_add_15 ?_
  refine j_iload_n X dX0_add_16 0 rfl ?_
  refine j_iadd X dX0_add_17 ?_
  refine j_iload_n X dX0_add_18 3 rfl ?_
  obtain ⟨⟨fs4, g4⟩, h⟩ := h
  refine j_callVv X [.int ((x1 * 4) + v2), .int x2] [] (c_X3_put h) (T := TX3) (N := 1) g4 rfl jm_X3_put jw_558 rfl ⟨rfl, rfl⟩ (by rw [hR]; decide) rfl (Nat.le_of_ble_eq_true rfl) dX0_add_19 (fun w4 h => ?_)
  refine j_aload_n X dX0_add_22 1 rfl ?_
  obtain ⟨fs5, r5, g5, i5, h⟩ := h
  refine j_get X (ci := 4) (C := RX0) (T := TX0) (N := 3) rfl jin_X0 0 (by decide) g5 i5 jw_90 rfl dX0_add_23 ?_
  refine j_iload_n X dX0_add_26 2 rfl ?_
  refine j_iload_n X dX0_add_27 0 rfl ?_
  refine j_iconst X 1 dX0_add_28 (by decide) ?_
  refine j_iadd X dX0_add_29 ?_
  obtain ⟨⟨fs6, g6⟩, h⟩ := h
  refine j_callVv X [.int x1, .int (v2 + 1)] [] (c_X3_put h) (T := TX3) (N := 1) g6 rfl jm_X3_put jw_558 rfl ⟨rfl, rfl⟩ (by rw [hR]; decide) rfl (Nat.le_of_ble_eq_true rfl) dX0_add_30 (fun w6 h => ?_)
  exact Rt.v dX0_add_33 ⟨rfl, h⟩ (by first | decide | omega) (by first | decide | omega)
def w_X0_add (κ : Nat → Nat) (w : va_W) (a0 : Nat) (x1 : Int32) (x2 : Int32) (P : va_W → Prop) : Prop := w_X0_add_b0 κ w a0 x1 x2 P
theorem c_X0_add {E : jE} {w : va_W} {a0 : Nat} {x1 : Int32} {x2 : Int32} {P : va_W → Prop} (h : w_X0_add E.2.2.2 w a0 x1 x2 P) : jC E yX0_add cX0_add 4 none ({ frames := 1, cells := 0, slots := 0, locals := 22 } : Room) [.ref a0, .int x1, .int x2] w 0 0 (jPv P) := by
  refine jC_of (by decide) (Nat.le_of_ble_eq_true rfl) ?_
  intro Γ X hE hR Rt
  subst hE
  exact k_X0_add_b0 X hR Rt h
theorem jm_X0_clear : jMv yX0_clear cX0_clear 2 none 1 := ⟨jw_555, jw_556, jw_26, jw_557, ⟨by decide +kernel, by decide +kernel⟩, by decide +kernel⟩
def w_X0_clear_b0 (κ : Nat → Nat) (w : va_W) (a0 : Nat) (x1 : Int32) (P : va_W → Prop) : Prop :=
    jgR' w a0 4 0 (fun r1 => (jRc w r1 6 ∧ w_X3_put κ w r1 x1 0 (fun w2 => P w2)))
set_option maxRecDepth 100000 in
set_option maxHeartbeats 4000000 in
theorem k_X0_clear_b0 {Γ : jG} (X : jX Γ cX0_clear 2 RX0) (hR : jgR Γ = ({ frames := 1, cells := 0, slots := 0, locals := 22 } : Room)) {P : va_W → Prop} (Rt : jRt Γ cX0_clear 2 0 0 none (jPv P)) {w : va_W} {a0 : Nat} {x1 : Int32} (h : w_X0_clear_b0 (jgE Γ).2.2.2 w a0 x1 P) : J Γ 2 w 0 0 0 [(0, .ref a0), (1, .int x1)] [] := by
  unfold w_X0_clear_b0 at h
  refine j_aload_n X dX0_clear_0 0 rfl ?_
  obtain ⟨fs1, r1, g1, i1, h⟩ := h
  refine j_get X (ci := 4) (C := RX0) (T := TX0) (N := 3) rfl jin_X0 0 (by decide) g1 i1 jw_90 rfl dX0_clear_1 ?_
  refine j_iload_n X dX0_clear_4 1 rfl ?_
  refine j_iconst X 0 dX0_clear_5 (by decide) ?_
  obtain ⟨⟨fs2, g2⟩, h⟩ := h
  refine j_callVv X [.int x1, .int 0] [] (c_X3_put h) (T := TX3) (N := 1) g2 rfl jm_X3_put jw_558 rfl ⟨rfl, rfl⟩ (by rw [hR]; decide) rfl (Nat.le_of_ble_eq_true rfl) dX0_clear_6 (fun w2 h => ?_)
  exact Rt.v dX0_clear_9 ⟨rfl, h⟩ (by first | decide | omega) (by first | decide | omega)
def w_X0_clear (κ : Nat → Nat) (w : va_W) (a0 : Nat) (x1 : Int32) (P : va_W → Prop) : Prop := w_X0_clear_b0 κ w a0 x1 P
theorem c_X0_clear {E : jE} {w : va_W} {a0 : Nat} {x1 : Int32} {P : va_W → Prop} (h : w_X0_clear E.2.2.2 w a0 x1 P) : jC E yX0_clear cX0_clear 2 none ({ frames := 1, cells := 0, slots := 0, locals := 22 } : Room) [.ref a0, .int x1] w 0 0 (jPv P) := by
  refine jC_of (by decide) (Nat.le_of_ble_eq_true rfl) ?_
  intro Γ X hE hR Rt
  subst hE
  exact k_X0_clear_b0 X hR Rt h
theorem jm_X0_takeList : jMv yX0_takeList cX0_takeList 6 none 3 := ⟨jw_637, jw_638, jw_26, jw_639, ⟨by decide +kernel, by decide +kernel⟩, by decide +kernel⟩
def w_X0_takeList_b13 : Nat → (κ : Nat → Nat) → (w : va_W) → (a0 : Nat) → (x1 : Int32) → (a2 : Nat) → (x3 : Int32) → (x4 : Int32) → (x5 : Int32) → (P : va_W → Prop) → Prop
  | 0, _, _, _, _, _, _, _, _, _ => False
  | n + 1, κ, w, a0, x1, a2, x3, x4, x5, P =>
    (if x4 ≤ x5 then jgR' w a0 4 0 (fun r1 => (jRc w r1 6 ∧ w_X3_put κ w r1 x1 x4 (fun w2 => P w2))) else jgR' w a0 4 1 (fun r3 => jgR' w a2 4 1 (fun r4 => (jRc w r4 6 ∧ w_X3_at κ w r4 ((x3 * 4) + x5) (fun v5 w5 => (jRc w5 r3 6 ∧ w_X3_put κ w5 r3 ((x1 * 4) + x5) v5 (fun w6 => w_X0_takeList_b13 n κ w6 a0 x1 a2 x3 x4 (x5 + 1) P)))))))
set_option maxRecDepth 100000 in
set_option maxHeartbeats 4000000 in
theorem k_X0_takeList_b13 {Γ : jG} (X : jX Γ cX0_takeList 6 RX0) (hR : jgR Γ = ({ frames := 1, cells := 0, slots := 0, locals := 22 } : Room)) {P : va_W → Prop} (Rt : jRt Γ cX0_takeList 6 0 0 none (jPv P)) : ∀ (n : Nat) {w : va_W} {a0 : Nat} {x1 : Int32} {a2 : Nat} {x3 : Int32} {x4 : Int32} {x5 : Int32} (h : w_X0_takeList_b13 n (jgE Γ).2.2.2 w a0 x1 a2 x3 x4 x5 P), J Γ 6 w 0 0 13 [(0, .ref a0), (1, .int x1), (2, .ref a2), (3, .int x3), (4, .int x4), (5, .int x5)] [] := by
  intro n
  induction n with
  | zero => intro w a0 x1 a2 x3 x4 x5 h; exact False.elim h
  | succ n ih =>
    intro w a0 x1 a2 x3 x4 x5 h
    rw [w_X0_takeList_b13] at h
    refine j_iload X dX0_takeList_13 5 rfl ?_
    refine j_iload X dX0_takeList_15 4 rfl ?_
    refine j_icmp_ge X 52 dX0_takeList_17 (by decide) (fun c => ?_) (fun c => ?_)
    · replace h := jif_t c h
      refine j_aload_n X dX0_takeList_52 0 rfl ?_
      obtain ⟨fs1, r1, g1, i1, h⟩ := h
      refine j_get X (ci := 4) (C := RX0) (T := TX0) (N := 3) rfl jin_X0 0 (by decide) g1 i1 jw_90 rfl dX0_takeList_53 ?_
      refine j_iload_n X dX0_takeList_56 1 rfl ?_
      refine j_iload X dX0_takeList_57 4 rfl ?_
      obtain ⟨⟨fs2, g2⟩, h⟩ := h
      refine j_callVv X [.int x1, .int x4] [] (c_X3_put h) (T := TX3) (N := 1) g2 rfl jm_X3_put jw_558 rfl ⟨rfl, rfl⟩ (by rw [hR]; decide) rfl (Nat.le_of_ble_eq_true rfl) dX0_takeList_59 (fun w2 h => ?_)
      exact Rt.v dX0_takeList_62 ⟨rfl, h⟩ (by first | decide | omega) (by first | decide | omega)
    · replace h := jif_f c h
      refine j_aload_n X dX0_takeList_20 0 rfl ?_
      obtain ⟨fs3, r3, g3, i3, h⟩ := h
      refine j_get X (ci := 4) (C := RX0) (T := TX0) (N := 3) rfl jin_X0 1 (by decide) g3 i3 jw_91 rfl dX0_takeList_21 ?_
      refine j_iload_n X dX0_takeList_24 1 rfl ?_
      refine j_iconst X 4 dX0_takeList_25 (by decide) ?_
      refine j_imul X dX0_takeList_26 ?_
      refine j_iload X dX0_takeList_27 5 rfl ?_
      refine j_iadd X dX0_takeList_29 ?_
      refine j_aload_n X dX0_takeList_30 2 rfl ?_
      obtain ⟨fs4, r4, g4, i4, h⟩ := h
      refine j_get X (ci := 4) (C := RX0) (T := TX0) (N := 3) rfl jin_X0 1 (by decide) g4 i4 jw_91 rfl dX0_takeList_31 ?_
      refine j_iload_n X dX0_takeList_34 3 rfl ?_
      refine j_iconst X 4 dX0_takeList_35 (by decide) ?_
      refine j_imul X dX0_takeList_36 ?_
      refine j_iload X dX0_takeList_37 5 rfl ?_
      refine j_iadd X dX0_takeList_39 ?_
      obtain ⟨⟨fs5, g5⟩, h⟩ := h
      refine j_callVi X [.int ((x3 * 4) + x5)] [.int ((x1 * 4) + x5), .ref r3] (c_X3_at h) (T := TX3) (N := 1) g5 rfl jm_X3_at jw_585 rfl ⟨rfl, rfl⟩ (by rw [hR]; decide) rfl (Nat.le_of_ble_eq_true rfl) dX0_takeList_40 (fun v5 w5 h => ?_)
      obtain ⟨⟨fs6, g6⟩, h⟩ := h
      refine j_callVv X [.int ((x1 * 4) + x5), .int v5] [] (c_X3_put h) (T := TX3) (N := 1) g6 rfl jm_X3_put jw_558 rfl ⟨rfl, rfl⟩ (by rw [hR]; decide) rfl (Nat.le_of_ble_eq_true rfl) dX0_takeList_43 (fun w6 h => ?_)
      refine j_iinc X (x5 + 1) [(5, .int (x5 + 1)), (0, .ref a0), (1, .int x1), (2, .ref a2), (3, .int x3), (4, .int x4)] dX0_takeList_46 5 rfl rfl (by decide) rfl ?_
      refine j_goto X 13 dX0_takeList_49 (by decide) ?_
      refine j_sub [1, 2, 3, 4, 5, 0] rfl ?_
      exact ih h
def w_X0_takeList_b0 (κ : Nat → Nat) (w : va_W) (a0 : Nat) (x1 : Int32) (a2 : Nat) (x3 : Int32) (P : va_W → Prop) : Prop :=
    jgR' w a2 4 0 (fun r1 => (jRc w r1 6 ∧ w_X3_at κ w r1 x3 (fun v2 w2 => w_X0_takeList_b13 jFu κ w2 a0 x1 a2 x3 v2 0 P)))
set_option maxRecDepth 100000 in
set_option maxHeartbeats 4000000 in
theorem k_X0_takeList_b0 {Γ : jG} (X : jX Γ cX0_takeList 6 RX0) (hR : jgR Γ = ({ frames := 1, cells := 0, slots := 0, locals := 22 } : Room)) {P : va_W → Prop} (Rt : jRt Γ cX0_takeList 6 0 0 none (jPv P)) {w : va_W} {a0 : Nat} {x1 : Int32} {a2 : Nat} {x3 : Int32} (h : w_X0_takeList_b0 (jgE Γ).2.2.2 w a0 x1 a2 x3 P) : J Γ 6 w 0 0 0 [(0, .ref a0), (1, .int x1), (2, .ref a2), (3, .int x3)] [] := by
  unfold w_X0_takeList_b0 at h
  refine j_aload_n X dX0_takeList_0 2 rfl ?_
  obtain ⟨fs1, r1, g1, i1, h⟩ := h
  refine j_get X (ci := 4) (C := RX0) (T := TX0) (N := 3) rfl jin_X0 0 (by decide) g1 i1 jw_90 rfl dX0_takeList_1 ?_
  refine j_iload_n X dX0_takeList_4 3 rfl ?_
  obtain ⟨⟨fs2, g2⟩, h⟩ := h
  refine j_callVi X [.int x3] [] (c_X3_at h) (T := TX3) (N := 1) g2 rfl jm_X3_at jw_585 rfl ⟨rfl, rfl⟩ (by rw [hR]; decide) rfl (Nat.le_of_ble_eq_true rfl) dX0_takeList_5 (fun v2 w2 h => ?_)
  refine j_istore X [(4, .int v2), (0, .ref a0), (1, .int x1), (2, .ref a2), (3, .int x3)] dX0_takeList_8 (by decide) rfl ?_
  refine j_iconst X 0 dX0_takeList_10 (by decide) ?_
  refine j_istore X [(5, .int 0), (4, .int v2), (0, .ref a0), (1, .int x1), (2, .ref a2), (3, .int x3)] dX0_takeList_11 (by decide) rfl ?_
  refine j_sub [2, 3, 4, 5, 1, 0] rfl ?_
  exact k_X0_takeList_b13 X hR Rt _ h
def w_X0_takeList (κ : Nat → Nat) (w : va_W) (a0 : Nat) (x1 : Int32) (a2 : Nat) (x3 : Int32) (P : va_W → Prop) : Prop := w_X0_takeList_b0 κ w a0 x1 a2 x3 P
theorem c_X0_takeList {E : jE} {w : va_W} {a0 : Nat} {x1 : Int32} {a2 : Nat} {x3 : Int32} {P : va_W → Prop} (h : w_X0_takeList E.2.2.2 w a0 x1 a2 x3 P) : jC E yX0_takeList cX0_takeList 6 none ({ frames := 1, cells := 0, slots := 0, locals := 22 } : Room) [.ref a0, .int x1, .ref a2, .int x3] w 0 0 (jPv P) := by
  refine jC_of (by decide) (Nat.le_of_ble_eq_true rfl) ?_
  intro Γ X hE hR Rt
  subst hE
  exact k_X0_takeList_b0 X hR Rt h
theorem jm_X3_copyFrom : jMv yX3_copyFrom cX3_copyFrom 2 none 1 := ⟨jw_345, jw_346, jw_24, jw_347, ⟨by decide +kernel, by decide +kernel⟩, by decide +kernel⟩
def w_X3_copyFrom_b0 (κ : Nat → Nat) (w : va_W) (a0 : Nat) (a1 : Nat) (P : va_W → Prop) : Prop :=
    jgR' w a1 6 0 (fun r1 => jgR' w a0 6 0 (fun r2 => jgR' w a0 6 0 (fun r3 => jAl w r3 (fun v4 => jgR' w a1 6 0 (fun r5 => jAl w r5 (fun v6 => jCp w 0 r1 0 r2 0 (jmin v4 v6) (fun w7 => P w7)))))))
set_option maxRecDepth 100000 in
set_option maxHeartbeats 4000000 in
theorem k_X3_copyFrom_b0 {Γ : jG} (X : jX Γ cX3_copyFrom 2 RX3) (hR : jgR Γ = ({ frames := 1, cells := 0, slots := 0, locals := 108 } : Room)) {P : va_W → Prop} (Rt : jRt Γ cX3_copyFrom 2 0 0 none (jPv P)) {w : va_W} {a0 : Nat} {a1 : Nat} (h : w_X3_copyFrom_b0 (jgE Γ).2.2.2 w a0 a1 P) : J Γ 2 w 0 0 0 [(0, .ref a0), (1, .ref a1)] [] := by
  unfold w_X3_copyFrom_b0 at h
  refine j_aload_n X dX3_copyFrom_0 1 rfl ?_
  obtain ⟨fs1, r1, g1, i1, h⟩ := h
  refine j_get X (ci := 6) (C := RX3) (T := TX3) (N := 1) rfl jin_X3 0 (by decide) g1 i1 jw_77 rfl dX3_copyFrom_1 ?_
  refine j_iconst X 0 dX3_copyFrom_4 (by decide) ?_
  refine j_aload_n X dX3_copyFrom_5 0 rfl ?_
  obtain ⟨fs2, r2, g2, i2, h⟩ := h
  refine j_get X (ci := 6) (C := RX3) (T := TX3) (N := 1) rfl jin_X3 0 (by decide) g2 i2 jw_77 rfl dX3_copyFrom_6 ?_
  refine j_iconst X 0 dX3_copyFrom_9 (by decide) ?_
  refine j_aload_n X dX3_copyFrom_10 0 rfl ?_
  obtain ⟨fs3, r3, g3, i3, h⟩ := h
  refine j_get X (ci := 6) (C := RX3) (T := TX3) (N := 1) rfl jin_X3 0 (by decide) g3 i3 jw_77 rfl dX3_copyFrom_11 ?_
  obtain ⟨t4, n4, q4, j4, g4, h⟩ := h
  refine j_alen X j4 g4 dX3_copyFrom_14 ?_
  generalize Int32.ofNat n4 = v4 at h ⊢
  refine j_aload_n X dX3_copyFrom_15 1 rfl ?_
  obtain ⟨fs5, r5, g5, i5, h⟩ := h
  refine j_get X (ci := 6) (C := RX3) (T := TX3) (N := 1) rfl jin_X3 0 (by decide) g5 i5 jw_77 rfl dX3_copyFrom_16 ?_
  obtain ⟨t6, n6, q6, j6, g6, h⟩ := h
  refine j_alen X j6 g6 dX3_copyFrom_19 ?_
  generalize Int32.ofNat n6 = v6 at h ⊢
  refine j_mmin X jw_348 jw_349 jw_45 jw_350 (by rw [hR]; exact ⟨⟨by decide, Nat.le_of_ble_eq_true rfl⟩, by decide, by decide⟩) dX3_copyFrom_20 ?_
  obtain ⟨n7, m7, f7, q7, g7, i7, j7, e7, h⟩ := h
  refine j_acopy X jw_351 jw_352 jw_46 jw_353 (by decide) g7 i7 j7 e7 (by rw [hR]; exact ⟨by decide, Nat.le_of_ble_eq_true rfl⟩) dX3_copyFrom_23 ?_
  generalize jst w r2 _ = w7 at h ⊢
  exact Rt.v dX3_copyFrom_26 ⟨rfl, h⟩ (by first | decide | omega) (by first | decide | omega)
def w_X3_copyFrom (κ : Nat → Nat) (w : va_W) (a0 : Nat) (a1 : Nat) (P : va_W → Prop) : Prop := w_X3_copyFrom_b0 κ w a0 a1 P
theorem c_X3_copyFrom {E : jE} {w : va_W} {a0 : Nat} {a1 : Nat} {P : va_W → Prop} (h : w_X3_copyFrom E.2.2.2 w a0 a1 P) : jC E yX3_copyFrom cX3_copyFrom 2 none ({ frames := 1, cells := 0, slots := 0, locals := 108 } : Room) [.ref a0, .ref a1] w 0 0 (jPv P) := by
  refine jC_of (by decide) (Nat.le_of_ble_eq_true rfl) ?_
  intro Γ X hE hR Rt
  subst hE
  exact k_X3_copyFrom_b0 X hR Rt h
theorem jm_X0_copyFrom : jMv yX0_copyFrom cX0_copyFrom 2 none 1 := ⟨jw_355, jw_356, jw_26, jw_357, ⟨by decide +kernel, by decide +kernel⟩, by decide +kernel⟩
def w_X0_copyFrom_b0 (κ : Nat → Nat) (w : va_W) (a0 : Nat) (a1 : Nat) (P : va_W → Prop) : Prop :=
    jgR' w a0 4 0 (fun r1 => jgR' w a1 4 0 (fun r2 => (jRc w r1 6 ∧ w_X3_copyFrom κ w r1 r2 (fun w3 => jgR' w3 a0 4 1 (fun r4 => jgR' w3 a1 4 1 (fun r5 => (jRc w3 r4 6 ∧ w_X3_copyFrom κ w3 r4 r5 (fun w6 => P w6))))))))
set_option maxRecDepth 100000 in
set_option maxHeartbeats 4000000 in
theorem k_X0_copyFrom_b0 {Γ : jG} (X : jX Γ cX0_copyFrom 2 RX0) (hR : jgR Γ = ({ frames := 2, cells := 0, slots := 0, locals := 129 } : Room)) {P : va_W → Prop} (Rt : jRt Γ cX0_copyFrom 2 0 0 none (jPv P)) {w : va_W} {a0 : Nat} {a1 : Nat} (h : w_X0_copyFrom_b0 (jgE Γ).2.2.2 w a0 a1 P) : J Γ 2 w 0 0 0 [(0, .ref a0), (1, .ref a1)] [] := by
  unfold w_X0_copyFrom_b0 at h
  refine j_aload_n X dX0_copyFrom_0 0 rfl ?_
  obtain ⟨fs1, r1, g1, i1, h⟩ := h
  refine j_get X (ci := 4) (C := RX0) (T := TX0) (N := 3) rfl jin_X0 0 (by decide) g1 i1 jw_90 rfl dX0_copyFrom_1 ?_
  refine j_aload_n X dX0_copyFrom_4 1 rfl ?_
  obtain ⟨fs2, r2, g2, i2, h⟩ := h
  refine j_get X (ci := 4) (C := RX0) (T := TX0) (N := 3) rfl jin_X0 0 (by decide) g2 i2 jw_90 rfl dX0_copyFrom_5 ?_
  obtain ⟨⟨fs3, g3⟩, h⟩ := h
  refine j_callVv X [.ref r2] [] (c_X3_copyFrom h) (T := TX3) (N := 1) g3 rfl jm_X3_copyFrom jw_358 rfl ⟨rfl, rfl⟩ (by rw [hR]; decide) rfl (Nat.le_of_ble_eq_true rfl) dX0_copyFrom_8 (fun w3 h => ?_)
  refine j_aload_n X dX0_copyFrom_11 0 rfl ?_
  obtain ⟨fs4, r4, g4, i4, h⟩ := h
  refine j_get X (ci := 4) (C := RX0) (T := TX0) (N := 3) rfl jin_X0 1 (by decide) g4 i4 jw_91 rfl dX0_copyFrom_12 ?_
  refine j_aload_n X dX0_copyFrom_15 1 rfl ?_
  obtain ⟨fs5, r5, g5, i5, h⟩ := h
  refine j_get X (ci := 4) (C := RX0) (T := TX0) (N := 3) rfl jin_X0 1 (by decide) g5 i5 jw_91 rfl dX0_copyFrom_16 ?_
  obtain ⟨⟨fs6, g6⟩, h⟩ := h
  refine j_callVv X [.ref r5] [] (c_X3_copyFrom h) (T := TX3) (N := 1) g6 rfl jm_X3_copyFrom jw_358 rfl ⟨rfl, rfl⟩ (by rw [hR]; decide) rfl (Nat.le_of_ble_eq_true rfl) dX0_copyFrom_19 (fun w6 h => ?_)
  exact Rt.v dX0_copyFrom_22 ⟨rfl, h⟩ (by first | decide | omega) (by first | decide | omega)
def w_X0_copyFrom (κ : Nat → Nat) (w : va_W) (a0 : Nat) (a1 : Nat) (P : va_W → Prop) : Prop := w_X0_copyFrom_b0 κ w a0 a1 P
theorem c_X0_copyFrom {E : jE} {w : va_W} {a0 : Nat} {a1 : Nat} {P : va_W → Prop} (h : w_X0_copyFrom E.2.2.2 w a0 a1 P) : jC E yX0_copyFrom cX0_copyFrom 2 none ({ frames := 2, cells := 0, slots := 0, locals := 129 } : Room) [.ref a0, .ref a1] w 0 0 (jPv P) := by
  refine jC_of (by decide) (Nat.le_of_ble_eq_true rfl) ?_
  intro Γ X hE hR Rt
  subst hE
  exact k_X0_copyFrom_b0 X hR Rt h
theorem jm_X8_combine : jMs yX8_combine cX8_combine 2 (some .int) 2 := ⟨jw_626, jw_22, jw_627, ⟨by decide +kernel, by decide +kernel⟩, by decide +kernel⟩
def w_X8_combine_b0 (κ : Nat → Nat) (w : va_W) (x0 : Int32) (x1 : Int32) (P : Int32 → va_W → Prop) : Prop :=
    P (jrem (((31 * x0) + (17 * x1)) + 7) 997) w
set_option maxRecDepth 100000 in
set_option maxHeartbeats 4000000 in
theorem k_X8_combine_b0 {Γ : jG} (X : jX Γ cX8_combine 2 RX8) (hR : jgR Γ = ({ frames := 0, cells := 0, slots := 0, locals := 0 } : Room)) {P : Int32 → va_W → Prop} (Rt : jRt Γ cX8_combine 2 0 0 (some .int) (jPi P)) {w : va_W} {x0 : Int32} {x1 : Int32} (h : w_X8_combine_b0 (jgE Γ).2.2.2 w x0 x1 P) : J Γ 2 w 0 0 0 [(0, .int x0), (1, .int x1)] [] := by
  unfold w_X8_combine_b0 at h
  refine j_bipush X 31 dX8_combine_0 (by decide) ?_
  refine j_iload_n X dX8_combine_2 0 rfl ?_
  refine j_imul X dX8_combine_3 ?_
  refine j_bipush X 17 dX8_combine_4 (by decide) ?_
  refine j_iload_n X dX8_combine_6 1 rfl ?_
  refine j_imul X dX8_combine_7 ?_
  refine j_iadd X dX8_combine_8 ?_
  refine j_bipush X 7 dX8_combine_9 (by decide) ?_
  refine j_iadd X dX8_combine_11 ?_
  refine j_sipush X 997 dX8_combine_12 (by decide) ?_
  refine j_irem X dX8_combine_15 (by decide) ?_
  exact Rt.i dX8_combine_16 ⟨_, rfl, h⟩ (by first | decide | omega) (by first | decide | omega)
def w_X8_combine (κ : Nat → Nat) (w : va_W) (x0 : Int32) (x1 : Int32) (P : Int32 → va_W → Prop) : Prop := w_X8_combine_b0 κ w x0 x1 P
theorem c_X8_combine {E : jE} {w : va_W} {x0 : Int32} {x1 : Int32} {P : Int32 → va_W → Prop} (h : w_X8_combine E.2.2.2 w x0 x1 P) : jC E yX8_combine cX8_combine 2 (some .int) ({ frames := 0, cells := 0, slots := 0, locals := 0 } : Room) [.int x0, .int x1] w 0 0 (jPi P) := by
  refine jC_of (by decide) (Nat.le_of_ble_eq_true rfl) ?_
  intro Γ X hE hR Rt
  subst hE
  exact k_X8_combine_b0 X hR Rt h
theorem jm_X0_rootByLists : jMv yX0_rootByLists cX0_rootByLists 8 (some .int) 1 := ⟨jw_622, jw_623, jw_26, jw_624, ⟨by decide +kernel, by decide +kernel⟩, by decide +kernel⟩
def w_X0_rootByLists_b151 (κ : Nat → Nat) (w : va_W) (a0 : Nat) (P : Int32 → va_W → Prop) : Prop :=
    jgR' w a0 4 2 (fun r1 => (jRc w r1 6 ∧ w_X3_at κ w r1 0 (fun v2 w2 => P v2 w2)))
set_option maxRecDepth 100000 in
set_option maxHeartbeats 4000000 in
theorem k_X0_rootByLists_b151 {Γ : jG} (X : jX Γ cX0_rootByLists 8 RX0) (hR : jgR Γ = ({ frames := 1, cells := 0, slots := 0, locals := 22 } : Room)) {P : Int32 → va_W → Prop} (Rt : jRt Γ cX0_rootByLists 8 0 0 (some .int) (jPi P)) {w : va_W} {a0 : Nat} (h : w_X0_rootByLists_b151 (jgE Γ).2.2.2 w a0 P) : J Γ 8 w 0 0 151 [(0, .ref a0)] [] := by
  unfold w_X0_rootByLists_b151 at h
  refine j_aload_n X dX0_rootByLists_151 0 rfl ?_
  obtain ⟨fs1, r1, g1, i1, h⟩ := h
  refine j_get X (ci := 4) (C := RX0) (T := TX0) (N := 3) rfl jin_X0 2 (by decide) g1 i1 jw_92 rfl dX0_rootByLists_152 ?_
  refine j_iconst X 0 dX0_rootByLists_155 (by decide) ?_
  obtain ⟨⟨fs2, g2⟩, h⟩ := h
  refine j_callVi X [.int 0] [] (c_X3_at h) (T := TX3) (N := 1) g2 rfl jm_X3_at jw_585 rfl ⟨rfl, rfl⟩ (by rw [hR]; decide) rfl (Nat.le_of_ble_eq_true rfl) dX0_rootByLists_156 (fun v2 w2 h => ?_)
  exact Rt.i dX0_rootByLists_159 ⟨_, rfl, h⟩ (by first | decide | omega) (by first | decide | omega)
def w_X0_rootByLists_b118 (κ : Nat → Nat) (w : va_W) (a0 : Nat) (x2 : Int32) (x3 : Int32) (x4 : Int32) (x5 : Int32) (x6 : Int32) (s0 : Int32) (K50 : va_W → Nat → Int32 → Int32 → Prop) (K70 : va_W → Nat → Int32 → Int32 → Int32 → Int32 → Prop) (P : Int32 → va_W → Prop) : Prop :=
    jgR' w a0 4 2 (fun r1 => w_X8_combine κ w x6 s0 (fun v2 w2 => (jRc w2 r1 6 ∧ w_X3_put κ w2 r1 x5 v2 (fun w3 => K70 w3 a0 x2 x3 x4 (x5 + 1)))))
set_option maxRecDepth 100000 in
set_option maxHeartbeats 4000000 in
theorem k_X0_rootByLists_b118 {Γ : jG} (X : jX Γ cX0_rootByLists 8 RX0) (hR : jgR Γ = ({ frames := 1, cells := 0, slots := 0, locals := 22 } : Room)) {P : Int32 → va_W → Prop} (Rt : jRt Γ cX0_rootByLists 8 0 0 (some .int) (jPi P)) {K50 : va_W → Nat → Int32 → Int32 → Prop} (hK50 : ∀ (w : va_W) (a0 : Nat) (x2 : Int32) (x3 : Int32), K50 w a0 x2 x3 → J Γ 8 w 0 0 50 [(0, .ref a0), (2, .int x2), (3, .int x3)] []) {K70 : va_W → Nat → Int32 → Int32 → Int32 → Int32 → Prop} (hK70 : ∀ (w : va_W) (a0 : Nat) (x2 : Int32) (x3 : Int32) (x4 : Int32) (x5 : Int32), K70 w a0 x2 x3 x4 x5 → J Γ 8 w 0 0 70 [(0, .ref a0), (2, .int x2), (3, .int x3), (4, .int x4), (5, .int x5)] []) {w : va_W} {a0 : Nat} {x2 : Int32} {x3 : Int32} {x4 : Int32} {x5 : Int32} {x6 : Int32} {s0 : Int32} (h : w_X0_rootByLists_b118 (jgE Γ).2.2.2 w a0 x2 x3 x4 x5 x6 s0 K50 K70 P) : J Γ 8 w 0 0 118 [(0, .ref a0), (2, .int x2), (3, .int x3), (4, .int x4), (5, .int x5), (6, .int x6)] [.int s0] := by
  unfold w_X0_rootByLists_b118 at h
  refine j_istore X [(7, .int s0), (0, .ref a0), (2, .int x2), (3, .int x3), (4, .int x4), (5, .int x5), (6, .int x6)] dX0_rootByLists_118 (by decide) rfl ?_
  refine j_aload_n X dX0_rootByLists_120 1 rfl ?_
  obtain ⟨fs1, r1, g1, i1, h⟩ := h
  refine j_get X (ci := 4) (C := RX0) (T := TX0) (N := 3) rfl jin_X0 2 (by decide) g1 i1 jw_92 rfl dX0_rootByLists_121 ?_
  refine j_iload X dX0_rootByLists_124 5 rfl ?_
  refine j_iload X dX0_rootByLists_126 6 rfl ?_
  refine j_iload X dX0_rootByLists_128 0 rfl ?_
  refine j_callSNi X [.int x6, .int s0] [.int x5, .ref r1] (c_X8_combine h) jm_X8_combine jw_625 rfl ⟨rfl, rfl⟩ (by rw [hR]; decide) rfl (Nat.le_of_ble_eq_true rfl) dX0_rootByLists_130 (fun v2 w2 h => ?_)
  obtain ⟨⟨fs3, g3⟩, h⟩ := h
  refine j_callVv X [.int x5, .int v2] [] (c_X3_put h) (T := TX3) (N := 1) g3 rfl jm_X3_put jw_558 rfl ⟨rfl, rfl⟩ (by rw [hR]; decide) rfl (Nat.le_of_ble_eq_true rfl) dX0_rootByLists_133 (fun w3 h => ?_)
  refine j_iinc X (x5 + 1) [(5, .int (x5 + 1)), (7, .int s0), (0, .ref a0), (2, .int x2), (3, .int x3), (4, .int x4), (6, .int x6)] dX0_rootByLists_136 5 rfl rfl (by decide) rfl ?_
  refine j_goto X 70 dX0_rootByLists_139 (by decide) ?_
  refine j_sub [2, 3, 4, 5, 0] rfl ?_
  exact hK70 _ _ _ _ _ _ h
def w_X0_rootByLists_b70 : Nat → (κ : Nat → Nat) → (w : va_W) → (a0 : Nat) → (x2 : Int32) → (x3 : Int32) → (x4 : Int32) → (x5 : Int32) → (K50 : va_W → Nat → Int32 → Int32 → Prop) → (P : Int32 → va_W → Prop) → Prop
  | 0, _, _, _, _, _, _, _, _, _ => False
  | n + 1, κ, w, a0, x2, x3, x4, x5, K50, P =>
    (if x4 ≤ x5 then K50 w a0 x4 (x3 + 1) else jgR' w a0 4 2 (fun r1 => (jRc w r1 6 ∧ w_X3_at κ w r1 (2 * x5) (fun v2 w2 => (if x2 ≤ ((2 * x5) + 1) then w_X0_rootByLists_b118 κ w2 a0 x2 x3 x4 x5 v2 v2 K50 (fun w_ z_a0 z_x2 z_x3 z_x4 z_x5 => w_X0_rootByLists_b70 n κ w_ z_a0 z_x2 z_x3 z_x4 z_x5 K50 P) P else jgR' w2 a0 4 2 (fun r3 => (jRc w2 r3 6 ∧ w_X3_at κ w2 r3 ((2 * x5) + 1) (fun v4 w4 => w_X0_rootByLists_b118 κ w4 a0 x2 x3 x4 x5 v2 v4 K50 (fun w_ z_a0 z_x2 z_x3 z_x4 z_x5 => w_X0_rootByLists_b70 n κ w_ z_a0 z_x2 z_x3 z_x4 z_x5 K50 P) P))))))))
set_option maxRecDepth 100000 in
set_option maxHeartbeats 4000000 in
theorem k_X0_rootByLists_b70 {Γ : jG} (X : jX Γ cX0_rootByLists 8 RX0) (hR : jgR Γ = ({ frames := 1, cells := 0, slots := 0, locals := 22 } : Room)) {P : Int32 → va_W → Prop} (Rt : jRt Γ cX0_rootByLists 8 0 0 (some .int) (jPi P)) {K50 : va_W → Nat → Int32 → Int32 → Prop} (hK50 : ∀ (w : va_W) (a0 : Nat) (x2 : Int32) (x3 : Int32), K50 w a0 x2 x3 → J Γ 8 w 0 0 50 [(0, .ref a0), (2, .int x2), (3, .int x3)] []) : ∀ (n : Nat) {w : va_W} {a0 : Nat} {x2 : Int32} {x3 : Int32} {x4 : Int32} {x5 : Int32} (h : w_X0_rootByLists_b70 n (jgE Γ).2.2.2 w a0 x2 x3 x4 x5 K50 P), J Γ 8 w 0 0 70 [(0, .ref a0), (2, .int x2), (3, .int x3), (4, .int x4), (5, .int x5)] [] := by
  intro n
  induction n with
  | zero => intro w a0 x2 x3 x4 x5 h; exact False.elim h
  | succ n ih =>
    intro w a0 x2 x3 x4 x5 h
    rw [w_X0_rootByLists_b70] at h
    refine j_iload X dX0_rootByLists_70 4 rfl ?_
    refine j_iload X dX0_rootByLists_72 3 rfl ?_
    refine j_icmp_ge X 142 dX0_rootByLists_74 (by decide) (fun c => ?_) (fun c => ?_)
    · replace h := jif_t c h
      refine j_iload X dX0_rootByLists_142 3 rfl ?_
      refine j_istore_n X [(2, .int x4), (0, .ref a0), (3, .int x3), (4, .int x4), (5, .int x5)] dX0_rootByLists_144 (by decide) rfl ?_
      refine j_iinc X (x3 + 1) [(3, .int (x3 + 1)), (2, .int x4), (0, .ref a0), (4, .int x4), (5, .int x5)] dX0_rootByLists_145 2 rfl rfl (by decide) rfl ?_
      refine j_goto X 50 dX0_rootByLists_148 (by decide) ?_
      refine j_sub [2, 1, 0] rfl ?_
      exact hK50 _ _ _ _ h
    · replace h := jif_f c h
      refine j_aload_n X dX0_rootByLists_77 0 rfl ?_
      obtain ⟨fs1, r1, g1, i1, h⟩ := h
      refine j_get X (ci := 4) (C := RX0) (T := TX0) (N := 3) rfl jin_X0 2 (by decide) g1 i1 jw_92 rfl dX0_rootByLists_78 ?_
      refine j_iconst X 2 dX0_rootByLists_81 (by decide) ?_
      refine j_iload X dX0_rootByLists_82 4 rfl ?_
      refine j_imul X dX0_rootByLists_84 ?_
      obtain ⟨⟨fs2, g2⟩, h⟩ := h
      refine j_callVi X [.int (2 * x5)] [] (c_X3_at h) (T := TX3) (N := 1) g2 rfl jm_X3_at jw_585 rfl ⟨rfl, rfl⟩ (by rw [hR]; decide) rfl (Nat.le_of_ble_eq_true rfl) dX0_rootByLists_85 (fun v2 w2 h => ?_)
      refine j_istore X [(6, .int v2), (0, .ref a0), (2, .int x2), (3, .int x3), (4, .int x4), (5, .int x5)] dX0_rootByLists_88 (by decide) rfl ?_
      refine j_iconst X 2 dX0_rootByLists_90 (by decide) ?_
      refine j_iload X dX0_rootByLists_91 5 rfl ?_
      refine j_imul X dX0_rootByLists_93 ?_
      refine j_iconst X 1 dX0_rootByLists_94 (by decide) ?_
      refine j_iadd X dX0_rootByLists_95 ?_
      refine j_iload_n X dX0_rootByLists_96 2 rfl ?_
      refine j_icmp_ge X 116 dX0_rootByLists_97 (by decide) (fun c => ?_) (fun c => ?_)
      · replace h := jif_t c h
        refine j_iload X dX0_rootByLists_116 0 rfl ?_
        refine j_sub [1, 2, 3, 4, 5, 0] rfl ?_
        exact k_X0_rootByLists_b118 X hR Rt hK50 (fun _ _ _ _ _ _ h => ih h) h
      · replace h := jif_f c h
        refine j_aload_n X dX0_rootByLists_100 1 rfl ?_
        obtain ⟨fs3, r3, g3, i3, h⟩ := h
        refine j_get X (ci := 4) (C := RX0) (T := TX0) (N := 3) rfl jin_X0 2 (by decide) g3 i3 jw_92 rfl dX0_rootByLists_101 ?_
        refine j_iconst X 2 dX0_rootByLists_104 (by decide) ?_
        refine j_iload X dX0_rootByLists_105 5 rfl ?_
        refine j_imul X dX0_rootByLists_107 ?_
        refine j_iconst X 1 dX0_rootByLists_108 (by decide) ?_
        refine j_iadd X dX0_rootByLists_109 ?_
        obtain ⟨⟨fs4, g4⟩, h⟩ := h
        refine j_callVi X [.int ((2 * x5) + 1)] [] (c_X3_at h) (T := TX3) (N := 1) g4 rfl jm_X3_at jw_585 rfl ⟨rfl, rfl⟩ (by rw [hR]; decide) rfl (Nat.le_of_ble_eq_true rfl) dX0_rootByLists_110 (fun v4 w4 h => ?_)
        refine j_goto X 118 dX0_rootByLists_113 (by decide) ?_
        refine j_sub [1, 2, 3, 4, 5, 0] rfl ?_
        exact k_X0_rootByLists_b118 X hR Rt hK50 (fun _ _ _ _ _ _ h => ih h) h
def w_X0_rootByLists_b50 : Nat → (κ : Nat → Nat) → (w : va_W) → (a0 : Nat) → (x2 : Int32) → (x3 : Int32) → (P : Int32 → va_W → Prop) → Prop
  | 0, _, _, _, _, _, _ => False
  | n + 1, κ, w, a0, x2, x3, P =>
    (if 4 ≤ x3 then w_X0_rootByLists_b151 κ w a0 P else (if x2 ≤ 1 then w_X0_rootByLists_b151 κ w a0 P else w_X0_rootByLists_b70 jFu κ w a0 x2 x3 ((x2 + 1) / 2) 0 (fun w_ z_a0 z_x2 z_x3 => w_X0_rootByLists_b50 n κ w_ z_a0 z_x2 z_x3 P) P))
set_option maxRecDepth 100000 in
set_option maxHeartbeats 4000000 in
theorem k_X0_rootByLists_b50 {Γ : jG} (X : jX Γ cX0_rootByLists 8 RX0) (hR : jgR Γ = ({ frames := 1, cells := 0, slots := 0, locals := 22 } : Room)) {P : Int32 → va_W → Prop} (Rt : jRt Γ cX0_rootByLists 8 0 0 (some .int) (jPi P)) : ∀ (n : Nat) {w : va_W} {a0 : Nat} {x2 : Int32} {x3 : Int32} (h : w_X0_rootByLists_b50 n (jgE Γ).2.2.2 w a0 x2 x3 P), J Γ 8 w 0 0 50 [(0, .ref a0), (2, .int x2), (3, .int x3)] [] := by
  intro n
  induction n with
  | zero => intro w a0 x2 x3 h; exact False.elim h
  | succ n ih =>
    intro w a0 x2 x3 h
    rw [w_X0_rootByLists_b50] at h
    refine j_iload_n X dX0_rootByLists_50 2 rfl ?_
    refine j_iconst X 4 dX0_rootByLists_51 (by decide) ?_
    refine j_icmp_ge X 151 dX0_rootByLists_52 (by decide) (fun c => ?_) (fun c => ?_)
    · replace h := jif_t c h
      refine j_sub [0] rfl ?_
      exact k_X0_rootByLists_b151 X hR Rt h
    · replace h := jif_f c h
      refine j_iload_n X dX0_rootByLists_55 1 rfl ?_
      refine j_iconst X 1 dX0_rootByLists_56 (by decide) ?_
      refine j_icmp_le X 151 dX0_rootByLists_57 (by decide) (fun c => ?_) (fun c => ?_)
      · replace h := jif_t c h
        refine j_sub [0] rfl ?_
        exact k_X0_rootByLists_b151 X hR Rt h
      · replace h := jif_f c h
        refine j_iload_n X dX0_rootByLists_60 1 rfl ?_
        refine j_iconst X 1 dX0_rootByLists_61 (by decide) ?_
        refine j_iadd X dX0_rootByLists_62 ?_
        refine j_iconst X 2 dX0_rootByLists_63 (by decide) ?_
        refine j_idiv X dX0_rootByLists_64 (by decide) ?_
        refine j_istore X [(4, .int ((x2 + 1) / 2)), (0, .ref a0), (2, .int x2), (3, .int x3)] dX0_rootByLists_65 (by decide) rfl ?_
        refine j_iconst X 0 dX0_rootByLists_67 (by decide) ?_
        refine j_istore X [(5, .int 0), (4, .int ((x2 + 1) / 2)), (0, .ref a0), (2, .int x2), (3, .int x3)] dX0_rootByLists_68 (by decide) rfl ?_
        refine j_sub [2, 3, 4, 1, 0] rfl ?_
        exact k_X0_rootByLists_b70 X hR Rt (fun _ _ _ _ h => ih h) _ h
def w_X0_rootByLists_b17 : Nat → (κ : Nat → Nat) → (w : va_W) → (a0 : Nat) → (x1 : Int32) → (x2 : Int32) → (x3 : Int32) → (P : Int32 → va_W → Prop) → Prop
  | 0, _, _, _, _, _, _, _ => False
  | n + 1, κ, w, a0, x1, x2, x3, P =>
    (if x2 ≤ x3 then w_X0_rootByLists_b50 jFu κ w a0 x2 0 P else jgR' w a0 4 2 (fun r1 => jgR' w a0 4 1 (fun r2 => (jRc w r2 6 ∧ w_X3_at κ w r2 ((x1 * 4) + x3) (fun v3 w3 => (jRc w3 r1 6 ∧ w_X3_put κ w3 r1 x3 v3 (fun w4 => w_X0_rootByLists_b17 n κ w4 a0 x1 x2 (x3 + 1) P)))))))
set_option maxRecDepth 100000 in
set_option maxHeartbeats 4000000 in
theorem k_X0_rootByLists_b17 {Γ : jG} (X : jX Γ cX0_rootByLists 8 RX0) (hR : jgR Γ = ({ frames := 1, cells := 0, slots := 0, locals := 22 } : Room)) {P : Int32 → va_W → Prop} (Rt : jRt Γ cX0_rootByLists 8 0 0 (some .int) (jPi P)) : ∀ (n : Nat) {w : va_W} {a0 : Nat} {x1 : Int32} {x2 : Int32} {x3 : Int32} (h : w_X0_rootByLists_b17 n (jgE Γ).2.2.2 w a0 x1 x2 x3 P), J Γ 8 w 0 0 17 [(0, .ref a0), (1, .int x1), (2, .int x2), (3, .int x3)] [] := by
  intro n
  induction n with
  | zero => intro w a0 x1 x2 x3 h; exact False.elim h
  | succ n ih =>
    intro w a0 x1 x2 x3 h
    rw [w_X0_rootByLists_b17] at h
    refine j_iload_n X dX0_rootByLists_17 3 rfl ?_
    refine j_iload_n X dX0_rootByLists_18 2 rfl ?_
    refine j_icmp_ge X 48 dX0_rootByLists_19 (by decide) (fun c => ?_) (fun c => ?_)
    · replace h := jif_t c h
      refine j_iconst X 0 dX0_rootByLists_48 (by decide) ?_
      refine j_istore_n X [(3, .int 0), (0, .ref a0), (1, .int x1), (2, .int x2)] dX0_rootByLists_49 (by decide) rfl ?_
      refine j_sub [1, 3, 0] rfl ?_
      exact k_X0_rootByLists_b50 X hR Rt _ h
    · replace h := jif_f c h
      refine j_aload_n X dX0_rootByLists_22 0 rfl ?_
      obtain ⟨fs1, r1, g1, i1, h⟩ := h
      refine j_get X (ci := 4) (C := RX0) (T := TX0) (N := 3) rfl jin_X0 2 (by decide) g1 i1 jw_92 rfl dX0_rootByLists_23 ?_
      refine j_iload_n X dX0_rootByLists_26 3 rfl ?_
      refine j_aload_n X dX0_rootByLists_27 0 rfl ?_
      obtain ⟨fs2, r2, g2, i2, h⟩ := h
      refine j_get X (ci := 4) (C := RX0) (T := TX0) (N := 3) rfl jin_X0 1 (by decide) g2 i2 jw_91 rfl dX0_rootByLists_28 ?_
      refine j_iload_n X dX0_rootByLists_31 1 rfl ?_
      refine j_iconst X 4 dX0_rootByLists_32 (by decide) ?_
      refine j_imul X dX0_rootByLists_33 ?_
      refine j_iload_n X dX0_rootByLists_34 3 rfl ?_
      refine j_iadd X dX0_rootByLists_35 ?_
      obtain ⟨⟨fs3, g3⟩, h⟩ := h
      refine j_callVi X [.int ((x1 * 4) + x3)] [.int x3, .ref r1] (c_X3_at h) (T := TX3) (N := 1) g3 rfl jm_X3_at jw_585 rfl ⟨rfl, rfl⟩ (by rw [hR]; decide) rfl (Nat.le_of_ble_eq_true rfl) dX0_rootByLists_36 (fun v3 w3 h => ?_)
      obtain ⟨⟨fs4, g4⟩, h⟩ := h
      refine j_callVv X [.int x3, .int v3] [] (c_X3_put h) (T := TX3) (N := 1) g4 rfl jm_X3_put jw_558 rfl ⟨rfl, rfl⟩ (by rw [hR]; decide) rfl (Nat.le_of_ble_eq_true rfl) dX0_rootByLists_39 (fun w4 h => ?_)
      refine j_iinc X (x3 + 1) [(3, .int (x3 + 1)), (0, .ref a0), (1, .int x1), (2, .int x2)] dX0_rootByLists_42 3 rfl rfl (by decide) rfl ?_
      refine j_goto X 17 dX0_rootByLists_45 (by decide) ?_
      refine j_sub [1, 2, 3, 0] rfl ?_
      exact ih h
def w_X0_rootByLists_b0 (κ : Nat → Nat) (w : va_W) (a0 : Nat) (x1 : Int32) (P : Int32 → va_W → Prop) : Prop :=
    jgR' w a0 4 0 (fun r1 => (jRc w r1 6 ∧ w_X3_at κ w r1 x1 (fun v2 w2 => (if 0 < v2 then w_X0_rootByLists_b17 jFu κ w2 a0 x1 v2 0 P else P 0 w2))))
set_option maxRecDepth 100000 in
set_option maxHeartbeats 4000000 in
theorem k_X0_rootByLists_b0 {Γ : jG} (X : jX Γ cX0_rootByLists 8 RX0) (hR : jgR Γ = ({ frames := 1, cells := 0, slots := 0, locals := 22 } : Room)) {P : Int32 → va_W → Prop} (Rt : jRt Γ cX0_rootByLists 8 0 0 (some .int) (jPi P)) {w : va_W} {a0 : Nat} {x1 : Int32} (h : w_X0_rootByLists_b0 (jgE Γ).2.2.2 w a0 x1 P) : J Γ 8 w 0 0 0 [(0, .ref a0), (1, .int x1)] [] := by
  unfold w_X0_rootByLists_b0 at h
  refine j_aload_n X dX0_rootByLists_0 0 rfl ?_
  obtain ⟨fs1, r1, g1, i1, h⟩ := h
  refine j_get X (ci := 4) (C := RX0) (T := TX0) (N := 3) rfl jin_X0 0 (by decide) g1 i1 jw_90 rfl dX0_rootByLists_1 ?_
  refine j_iload_n X dX0_rootByLists_4 1 rfl ?_
  obtain ⟨⟨fs2, g2⟩, h⟩ := h
  refine j_callVi X [.int x1] [] (c_X3_at h) (T := TX3) (N := 1) g2 rfl jm_X3_at jw_585 rfl ⟨rfl, rfl⟩ (by rw [hR]; decide) rfl (Nat.le_of_ble_eq_true rfl) dX0_rootByLists_5 (fun v2 w2 h => ?_)
  refine j_istore_n X [(2, .int v2), (0, .ref a0), (1, .int x1)] dX0_rootByLists_8 (by decide) rfl ?_
  refine j_iload_n X dX0_rootByLists_9 0 rfl ?_
  refine j_if_gt X 15 dX0_rootByLists_10 (by decide) (fun c => ?_) (fun c => ?_)
  · replace h := jif_t c h
    refine j_iconst X 0 dX0_rootByLists_15 (by decide) ?_
    refine j_istore_n X [(3, .int 0), (2, .int v2), (0, .ref a0), (1, .int x1)] dX0_rootByLists_16 (by decide) rfl ?_
    refine j_sub [2, 3, 1, 0] rfl ?_
    exact k_X0_rootByLists_b17 X hR Rt _ h
  · replace h := jif_f c h
    refine j_iconst X 0 dX0_rootByLists_13 (by decide) ?_
    exact Rt.i dX0_rootByLists_14 ⟨_, rfl, h⟩ (by first | decide | omega) (by first | decide | omega)
def w_X0_rootByLists (κ : Nat → Nat) (w : va_W) (a0 : Nat) (x1 : Int32) (P : Int32 → va_W → Prop) : Prop := w_X0_rootByLists_b0 κ w a0 x1 P
theorem c_X0_rootByLists {E : jE} {w : va_W} {a0 : Nat} {x1 : Int32} {P : Int32 → va_W → Prop} (h : w_X0_rootByLists E.2.2.2 w a0 x1 P) : jC E yX0_rootByLists cX0_rootByLists 8 (some .int) ({ frames := 1, cells := 0, slots := 0, locals := 22 } : Room) [.ref a0, .int x1] w 0 0 (jPi P) := by
  refine jC_of (by decide) (Nat.le_of_ble_eq_true rfl) ?_
  intro Γ X hE hR Rt
  subst hE
  exact k_X0_rootByLists_b0 X hR Rt h
theorem jm_X0_rootOfHalf : jMs yX0_rootOfHalf cX0_rootOfHalf 7 (some .int) 4 := ⟨jw_1340, jw_26, jw_1341, ⟨by decide +kernel, by decide +kernel⟩, by decide +kernel⟩
def w_X0_rootOfHalf_b50 (κ : Nat → Nat) (RC : va_W → Nat → Int32 → Int32 → Int32 → (Int32 → va_W → Prop) → Prop) (w : va_W) (x5 : Int32) (s0 : Int32) (P : Int32 → va_W → Prop) : Prop :=
    w_X8_combine κ w x5 s0 (fun v1 w1 => P v1 w1)
set_option maxRecDepth 100000 in
set_option maxHeartbeats 4000000 in
theorem k_X0_rootOfHalf_b50 {N : Nat} {Γ : jG} (X : jX Γ cX0_rootOfHalf 7 RX0) (hR : jgR Γ = ({ frames := 1 + (N + 1), cells := 0, slots := 0, locals := 21 + (N + 1) * 26 } : Room)) {P : Int32 → va_W → Prop} (Rt : jRt Γ cX0_rootOfHalf 7 0 0 (some .int) (jPi P)) {RC : va_W → Nat → Int32 → Int32 → Int32 → (Int32 → va_W → Prop) → Prop} (hRC : ∀ (w : va_W) (a0 : Nat) (x1 : Int32) (x2 : Int32) (x3 : Int32) (P : Int32 → va_W → Prop), RC w a0 x1 x2 x3 P → jC (jgE Γ) yX0_rootOfHalf cX0_rootOfHalf 7 (some .int) ({ frames := 1 + N, cells := 0, slots := 0, locals := 21 + N * 26 } : Room) [.ref a0, .int x1, .int x2, .int x3] w 0 0 (jPi P)) {w : va_W} {x5 : Int32} {s0 : Int32} (h : w_X0_rootOfHalf_b50 (jgE Γ).2.2.2 RC w x5 s0 P) : J Γ 7 w 0 0 50 [(5, .int x5)] [.int s0] := by
  unfold w_X0_rootOfHalf_b50 at h
  refine j_istore X [(6, .int s0), (5, .int x5)] dX0_rootOfHalf_50 (by decide) rfl ?_
  refine j_iload X dX0_rootOfHalf_52 1 rfl ?_
  refine j_iload X dX0_rootOfHalf_54 0 rfl ?_
  refine j_callSNi X [.int x5, .int s0] [] (c_X8_combine h) jm_X8_combine jw_625 rfl ⟨rfl, rfl⟩ (by rw [hR]; exact ⟨⟨by simp only []; omega, by simp only []; omega⟩, Nat.le_refl _, Nat.le_refl _⟩) rfl (Nat.le_of_ble_eq_true rfl) dX0_rootOfHalf_56 (fun v1 w1 h => ?_)
  exact Rt.i dX0_rootOfHalf_59 ⟨_, rfl, h⟩ (by first | decide | omega) (by first | decide | omega)
def w_X0_rootOfHalf_b0 (κ : Nat → Nat) (RC : va_W → Nat → Int32 → Int32 → Int32 → (Int32 → va_W → Prop) → Prop) (w : va_W) (a0 : Nat) (x1 : Int32) (x2 : Int32) (x3 : Int32) (P : Int32 → va_W → Prop) : Prop :=
    (if 1 < x3 then RC w a0 x1 x2 (x3 / 2) (fun v1 w1 => (if x2 ≤ (x1 + (x3 / 2)) then w_X0_rootOfHalf_b50 κ RC w1 v1 v1 P else RC w1 a0 (x1 + (x3 / 2)) x2 (x3 / 2) (fun v2 w2 => w_X0_rootOfHalf_b50 κ RC w2 v1 v2 P))) else (jRc w a0 6 ∧ w_X3_at κ w a0 x1 (fun v3 w3 => P v3 w3)))
set_option maxRecDepth 100000 in
set_option maxHeartbeats 4000000 in
theorem k_X0_rootOfHalf_b0 {N : Nat} {Γ : jG} (X : jX Γ cX0_rootOfHalf 7 RX0) (hR : jgR Γ = ({ frames := 1 + (N + 1), cells := 0, slots := 0, locals := 21 + (N + 1) * 26 } : Room)) {P : Int32 → va_W → Prop} (Rt : jRt Γ cX0_rootOfHalf 7 0 0 (some .int) (jPi P)) {RC : va_W → Nat → Int32 → Int32 → Int32 → (Int32 → va_W → Prop) → Prop} (hRC : ∀ (w : va_W) (a0 : Nat) (x1 : Int32) (x2 : Int32) (x3 : Int32) (P : Int32 → va_W → Prop), RC w a0 x1 x2 x3 P → jC (jgE Γ) yX0_rootOfHalf cX0_rootOfHalf 7 (some .int) ({ frames := 1 + N, cells := 0, slots := 0, locals := 21 + N * 26 } : Room) [.ref a0, .int x1, .int x2, .int x3] w 0 0 (jPi P)) {w : va_W} {a0 : Nat} {x1 : Int32} {x2 : Int32} {x3 : Int32} (h : w_X0_rootOfHalf_b0 (jgE Γ).2.2.2 RC w a0 x1 x2 x3 P) : J Γ 7 w 0 0 0 [(0, .ref a0), (1, .int x1), (2, .int x2), (3, .int x3)] [] := by
  unfold w_X0_rootOfHalf_b0 at h
  refine j_iload_n X dX0_rootOfHalf_0 3 rfl ?_
  refine j_iconst X 1 dX0_rootOfHalf_1 (by decide) ?_
  refine j_icmp_gt X 11 dX0_rootOfHalf_2 (by decide) (fun c => ?_) (fun c => ?_)
  · replace h := jif_t c h
    refine j_iload_n X dX0_rootOfHalf_11 3 rfl ?_
    refine j_iconst X 2 dX0_rootOfHalf_12 (by decide) ?_
    refine j_idiv X dX0_rootOfHalf_13 (by decide) ?_
    refine j_istore X [(4, .int (x3 / 2)), (0, .ref a0), (1, .int x1), (2, .int x2), (3, .int x3)] dX0_rootOfHalf_14 (by decide) rfl ?_
    refine j_aload_n X dX0_rootOfHalf_16 1 rfl ?_
    refine j_iload_n X dX0_rootOfHalf_17 2 rfl ?_
    refine j_iload_n X dX0_rootOfHalf_18 3 rfl ?_
    refine j_iload X dX0_rootOfHalf_19 0 rfl ?_
    refine j_callSi X [.ref a0, .int x1, .int x2, .int (x3 / 2)] [] (hRC _ _ _ _ _ _ h) jm_X0_rootOfHalf jw_1339 rfl ⟨rfl, rfl⟩ (by rw [hR]; exact ⟨⟨by simp only []; omega, by simp only []; omega⟩, Nat.le_refl _, Nat.le_refl _⟩) rfl (Nat.le_of_ble_eq_true rfl) dX0_rootOfHalf_21 (fun v1 w1 h => ?_)
    refine j_istore X [(5, .int v1), (4, .int (x3 / 2)), (0, .ref a0), (1, .int x1), (2, .int x2), (3, .int x3)] dX0_rootOfHalf_24 (by decide) rfl ?_
    refine j_iload_n X dX0_rootOfHalf_26 3 rfl ?_
    refine j_iload X dX0_rootOfHalf_27 1 rfl ?_
    refine j_iadd X dX0_rootOfHalf_29 ?_
    refine j_iload_n X dX0_rootOfHalf_30 4 rfl ?_
    refine j_icmp_ge X 48 dX0_rootOfHalf_31 (by decide) (fun c => ?_) (fun c => ?_)
    · replace h := jif_t c h
      refine j_iload X dX0_rootOfHalf_48 0 rfl ?_
      refine j_sub [0] rfl ?_
      exact k_X0_rootOfHalf_b50 X hR Rt hRC h
    · replace h := jif_f c h
      refine j_aload_n X dX0_rootOfHalf_34 2 rfl ?_
      refine j_iload_n X dX0_rootOfHalf_35 3 rfl ?_
      refine j_iload X dX0_rootOfHalf_36 1 rfl ?_
      refine j_iadd X dX0_rootOfHalf_38 ?_
      refine j_iload_n X dX0_rootOfHalf_39 4 rfl ?_
      refine j_iload X dX0_rootOfHalf_40 1 rfl ?_
      refine j_callSi X [.ref a0, .int (x1 + (x3 / 2)), .int x2, .int (x3 / 2)] [] (hRC _ _ _ _ _ _ h) jm_X0_rootOfHalf jw_1339 rfl ⟨rfl, rfl⟩ (by rw [hR]; exact ⟨⟨by simp only []; omega, by simp only []; omega⟩, Nat.le_refl _, Nat.le_refl _⟩) rfl (Nat.le_of_ble_eq_true rfl) dX0_rootOfHalf_42 (fun v2 w2 h => ?_)
      refine j_goto X 50 dX0_rootOfHalf_45 (by decide) ?_
      refine j_sub [0] rfl ?_
      exact k_X0_rootOfHalf_b50 X hR Rt hRC h
  · replace h := jif_f c h
    refine j_aload_n X dX0_rootOfHalf_5 0 rfl ?_
    refine j_iload_n X dX0_rootOfHalf_6 1 rfl ?_
    obtain ⟨⟨fs3, g3⟩, h⟩ := h
    refine j_callVi X [.int x1] [] (c_X3_at h) (T := TX3) (N := 1) g3 rfl jm_X3_at jw_585 rfl ⟨rfl, rfl⟩ (by rw [hR]; exact ⟨⟨by simp only []; omega, by simp only []; omega⟩, Nat.le_refl _, Nat.le_refl _⟩) rfl (Nat.le_of_ble_eq_true rfl) dX0_rootOfHalf_7 (fun v3 w3 h => ?_)
    exact Rt.i dX0_rootOfHalf_10 ⟨_, rfl, h⟩ (by first | decide | omega) (by first | decide | omega)
def w_X0_rootOfHalf_r : Nat → (κ : Nat → Nat) → (w : va_W) → (a0 : Nat) → (x1 : Int32) → (x2 : Int32) → (x3 : Int32) → (P : Int32 → va_W → Prop) → Prop
  | 0, _, _, _, _, _, _, _ => False
  | n + 1, κ, w, a0, x1, x2, x3, P => w_X0_rootOfHalf_b0 κ (fun w_ z_a0 z_x1 z_x2 z_x3 P_ => w_X0_rootOfHalf_r n κ w_ z_a0 z_x1 z_x2 z_x3 P_) w a0 x1 x2 x3 P
def w_X0_rootOfHalf (κ : Nat → Nat) (w : va_W) (a0 : Nat) (x1 : Int32) (x2 : Int32) (x3 : Int32) (P : Int32 → va_W → Prop) : Prop := w_X0_rootOfHalf_r 12 κ w a0 x1 x2 x3 P
theorem c_X0_rootOfHalf_r : ∀ (n : Nat) {E : jE} {w : va_W} {a0 : Nat} {x1 : Int32} {x2 : Int32} {x3 : Int32} {P : Int32 → va_W → Prop} (h : w_X0_rootOfHalf_r n E.2.2.2 w a0 x1 x2 x3 P), jC E yX0_rootOfHalf cX0_rootOfHalf 7 (some .int) ({ frames := 1 + n, cells := 0, slots := 0, locals := 21 + n * 26 } : Room) [.ref a0, .int x1, .int x2, .int x3] w 0 0 (jPi P) := by
  intro n
  induction n with
  | zero => intro E w a0 x1 x2 x3 P h; exact False.elim h
  | succ n ih =>
    intro E w a0 x1 x2 x3 P h
    refine jC_of (by decide) (Nat.le_of_ble_eq_true rfl) ?_
    intro Γ X hE hR Rt
    subst hE
    rw [w_X0_rootOfHalf_r] at h
    exact k_X0_rootOfHalf_b0 X hR Rt (fun w_ _ _ _ _ P_ h => ih h) h
theorem c_X0_rootOfHalf {E : jE} {w : va_W} {a0 : Nat} {x1 : Int32} {x2 : Int32} {x3 : Int32} {P : Int32 → va_W → Prop} (h : w_X0_rootOfHalf E.2.2.2 w a0 x1 x2 x3 P) : jC E yX0_rootOfHalf cX0_rootOfHalf 7 (some .int) ({ frames := 1 + 12, cells := 0, slots := 0, locals := 21 + 12 * 26 } : Room) [.ref a0, .int x1, .int x2, .int x3] w 0 0 (jPi P) := c_X0_rootOfHalf_r 12 h
theorem jm_X0_rootByHalves : jMv yX0_rootByHalves cX0_rootByHalves 5 (some .int) 1 := ⟨jw_1336, jw_1337, jw_26, jw_1338, ⟨by decide +kernel, by decide +kernel⟩, by decide +kernel⟩
def w_X0_rootByHalves_b41 (κ : Nat → Nat) (w : va_W) (a0 : Nat) (x1 : Int32) (x2 : Int32) (x3 : Int32) (P : Int32 → va_W → Prop) : Prop :=
    jgR' w a0 4 1 (fun r1 => w_X0_rootOfHalf κ w r1 (x1 * 4) ((x1 * 4) + x2) x3 (fun v2 w2 => P v2 w2))
set_option maxRecDepth 100000 in
set_option maxHeartbeats 4000000 in
theorem k_X0_rootByHalves_b41 {Γ : jG} (X : jX Γ cX0_rootByHalves 5 RX0) (hR : jgR Γ = ({ frames := 14, cells := 0, slots := 0, locals := 359 } : Room)) {P : Int32 → va_W → Prop} (Rt : jRt Γ cX0_rootByHalves 5 0 0 (some .int) (jPi P)) {w : va_W} {a0 : Nat} {x1 : Int32} {x2 : Int32} {x3 : Int32} (h : w_X0_rootByHalves_b41 (jgE Γ).2.2.2 w a0 x1 x2 x3 P) : J Γ 5 w 0 0 41 [(0, .ref a0), (1, .int x1), (2, .int x2), (3, .int x3)] [] := by
  unfold w_X0_rootByHalves_b41 at h
  refine j_iload_n X dX0_rootByHalves_41 1 rfl ?_
  refine j_iconst X 4 dX0_rootByHalves_42 (by decide) ?_
  refine j_imul X dX0_rootByHalves_43 ?_
  refine j_istore X [(4, .int (x1 * 4)), (0, .ref a0), (1, .int x1), (2, .int x2), (3, .int x3)] dX0_rootByHalves_44 (by decide) rfl ?_
  refine j_aload_n X dX0_rootByHalves_46 1 rfl ?_
  obtain ⟨fs1, r1, g1, i1, h⟩ := h
  refine j_get X (ci := 4) (C := RX0) (T := TX0) (N := 3) rfl jin_X0 1 (by decide) g1 i1 jw_91 rfl dX0_rootByHalves_47 ?_
  refine j_iload X dX0_rootByHalves_50 0 rfl ?_
  refine j_iload X dX0_rootByHalves_52 0 rfl ?_
  refine j_iload_n X dX0_rootByHalves_54 3 rfl ?_
  refine j_iadd X dX0_rootByHalves_55 ?_
  refine j_iload_n X dX0_rootByHalves_56 4 rfl ?_
  refine j_callSi X [.ref r1, .int (x1 * 4), .int ((x1 * 4) + x2), .int x3] [] (c_X0_rootOfHalf h) jm_X0_rootOfHalf jw_1339 rfl ⟨rfl, rfl⟩ (by rw [hR]; decide) rfl (Nat.le_of_ble_eq_true rfl) dX0_rootByHalves_57 (fun v2 w2 h => ?_)
  exact Rt.i dX0_rootByHalves_60 ⟨_, rfl, h⟩ (by first | decide | omega) (by first | decide | omega)
def w_X0_rootByHalves_b20 : Nat → (κ : Nat → Nat) → (w : va_W) → (a0 : Nat) → (x1 : Int32) → (x2 : Int32) → (x3 : Int32) → (x4 : Int32) → (P : Int32 → va_W → Prop) → Prop
  | 0, _, _, _, _, _, _, _, _ => False
  | n + 1, κ, w, a0, x1, x2, x3, x4, P =>
    (if 4 ≤ x4 then w_X0_rootByHalves_b41 κ w a0 x1 x2 x3 P else (if x2 ≤ x3 then w_X0_rootByHalves_b41 κ w a0 x1 x2 x3 P else w_X0_rootByHalves_b20 n κ w a0 x1 x2 (x3 * 2) (x4 + 1) P))
set_option maxRecDepth 100000 in
set_option maxHeartbeats 4000000 in
theorem k_X0_rootByHalves_b20 {Γ : jG} (X : jX Γ cX0_rootByHalves 5 RX0) (hR : jgR Γ = ({ frames := 14, cells := 0, slots := 0, locals := 359 } : Room)) {P : Int32 → va_W → Prop} (Rt : jRt Γ cX0_rootByHalves 5 0 0 (some .int) (jPi P)) : ∀ (n : Nat) {w : va_W} {a0 : Nat} {x1 : Int32} {x2 : Int32} {x3 : Int32} {x4 : Int32} (h : w_X0_rootByHalves_b20 n (jgE Γ).2.2.2 w a0 x1 x2 x3 x4 P), J Γ 5 w 0 0 20 [(0, .ref a0), (1, .int x1), (2, .int x2), (3, .int x3), (4, .int x4)] [] := by
  intro n
  induction n with
  | zero => intro w a0 x1 x2 x3 x4 h; exact False.elim h
  | succ n ih =>
    intro w a0 x1 x2 x3 x4 h
    rw [w_X0_rootByHalves_b20] at h
    refine j_iload X dX0_rootByHalves_20 4 rfl ?_
    refine j_iconst X 4 dX0_rootByHalves_22 (by decide) ?_
    refine j_icmp_ge X 41 dX0_rootByHalves_23 (by decide) (fun c => ?_) (fun c => ?_)
    · replace h := jif_t c h
      refine j_sub [0, 1, 2, 3] rfl ?_
      exact k_X0_rootByHalves_b41 X hR Rt h
    · replace h := jif_f c h
      refine j_iload_n X dX0_rootByHalves_26 3 rfl ?_
      refine j_iload_n X dX0_rootByHalves_27 2 rfl ?_
      refine j_icmp_ge X 41 dX0_rootByHalves_28 (by decide) (fun c => ?_) (fun c => ?_)
      · replace h := jif_t c h
        refine j_sub [0, 1, 2, 3] rfl ?_
        exact k_X0_rootByHalves_b41 X hR Rt h
      · replace h := jif_f c h
        refine j_iload_n X dX0_rootByHalves_31 3 rfl ?_
        refine j_iconst X 2 dX0_rootByHalves_32 (by decide) ?_
        refine j_imul X dX0_rootByHalves_33 ?_
        refine j_istore_n X [(3, .int (x3 * 2)), (0, .ref a0), (1, .int x1), (2, .int x2), (4, .int x4)] dX0_rootByHalves_34 (by decide) rfl ?_
        refine j_iinc X (x4 + 1) [(4, .int (x4 + 1)), (3, .int (x3 * 2)), (0, .ref a0), (1, .int x1), (2, .int x2)] dX0_rootByHalves_35 4 rfl rfl (by decide) rfl ?_
        refine j_goto X 20 dX0_rootByHalves_38 (by decide) ?_
        refine j_sub [2, 3, 4, 1, 0] rfl ?_
        exact ih h
def w_X0_rootByHalves_b0 (κ : Nat → Nat) (w : va_W) (a0 : Nat) (x1 : Int32) (P : Int32 → va_W → Prop) : Prop :=
    jgR' w a0 4 0 (fun r1 => (jRc w r1 6 ∧ w_X3_at κ w r1 x1 (fun v2 w2 => (if 0 < v2 then w_X0_rootByHalves_b20 jFu κ w2 a0 x1 v2 1 0 P else P 0 w2))))
set_option maxRecDepth 100000 in
set_option maxHeartbeats 4000000 in
theorem k_X0_rootByHalves_b0 {Γ : jG} (X : jX Γ cX0_rootByHalves 5 RX0) (hR : jgR Γ = ({ frames := 14, cells := 0, slots := 0, locals := 359 } : Room)) {P : Int32 → va_W → Prop} (Rt : jRt Γ cX0_rootByHalves 5 0 0 (some .int) (jPi P)) {w : va_W} {a0 : Nat} {x1 : Int32} (h : w_X0_rootByHalves_b0 (jgE Γ).2.2.2 w a0 x1 P) : J Γ 5 w 0 0 0 [(0, .ref a0), (1, .int x1)] [] := by
  unfold w_X0_rootByHalves_b0 at h
  refine j_aload_n X dX0_rootByHalves_0 0 rfl ?_
  obtain ⟨fs1, r1, g1, i1, h⟩ := h
  refine j_get X (ci := 4) (C := RX0) (T := TX0) (N := 3) rfl jin_X0 0 (by decide) g1 i1 jw_90 rfl dX0_rootByHalves_1 ?_
  refine j_iload_n X dX0_rootByHalves_4 1 rfl ?_
  obtain ⟨⟨fs2, g2⟩, h⟩ := h
  refine j_callVi X [.int x1] [] (c_X3_at h) (T := TX3) (N := 1) g2 rfl jm_X3_at jw_585 rfl ⟨rfl, rfl⟩ (by rw [hR]; decide) rfl (Nat.le_of_ble_eq_true rfl) dX0_rootByHalves_5 (fun v2 w2 h => ?_)
  refine j_istore_n X [(2, .int v2), (0, .ref a0), (1, .int x1)] dX0_rootByHalves_8 (by decide) rfl ?_
  refine j_iload_n X dX0_rootByHalves_9 0 rfl ?_
  refine j_if_gt X 15 dX0_rootByHalves_10 (by decide) (fun c => ?_) (fun c => ?_)
  · replace h := jif_t c h
    refine j_iconst X 1 dX0_rootByHalves_15 (by decide) ?_
    refine j_istore_n X [(3, .int 1), (2, .int v2), (0, .ref a0), (1, .int x1)] dX0_rootByHalves_16 (by decide) rfl ?_
    refine j_iconst X 0 dX0_rootByHalves_17 (by decide) ?_
    refine j_istore X [(4, .int 0), (3, .int 1), (2, .int v2), (0, .ref a0), (1, .int x1)] dX0_rootByHalves_18 (by decide) rfl ?_
    refine j_sub [3, 4, 2, 1, 0] rfl ?_
    exact k_X0_rootByHalves_b20 X hR Rt _ h
  · replace h := jif_f c h
    refine j_iconst X 0 dX0_rootByHalves_13 (by decide) ?_
    exact Rt.i dX0_rootByHalves_14 ⟨_, rfl, h⟩ (by first | decide | omega) (by first | decide | omega)
def w_X0_rootByHalves (κ : Nat → Nat) (w : va_W) (a0 : Nat) (x1 : Int32) (P : Int32 → va_W → Prop) : Prop := w_X0_rootByHalves_b0 κ w a0 x1 P
theorem c_X0_rootByHalves {E : jE} {w : va_W} {a0 : Nat} {x1 : Int32} {P : Int32 → va_W → Prop} (h : w_X0_rootByHalves E.2.2.2 w a0 x1 P) : jC E yX0_rootByHalves cX0_rootByHalves 5 (some .int) ({ frames := 14, cells := 0, slots := 0, locals := 359 } : Room) [.ref a0, .int x1] w 0 0 (jPi P) := by
  refine jC_of (by decide) (Nat.le_of_ble_eq_true rfl) ?_
  intro Γ X hE hR Rt
  subst hE
  exact k_X0_rootByHalves_b0 X hR Rt h
theorem jmi_X5_init : jMi yX5_init cX5_init 1 0 := ⟨jw_65, jw_23, jw_66, ⟨by decide +kernel, by decide +kernel⟩, by decide +kernel, rfl⟩
def w_X5_init_b0 (κ : Nat → Nat) (w : va_W) (a0 : Nat) (P : va_W → Prop) : Prop :=
    (∀ q1 : Nat, jlk w q1 = none → (fun w1 => w_X3_init κ w1 q1 16 (-1) (fun w2 => (jpV w2 a0 8 0 (.ref q1) (fun w3 => (∀ q4 : Nat, jlk w3 q4 = none → (fun w4 => w_X3_init κ w4 q4 16 (-1) (fun w5 => (jpV w5 a0 8 1 (.ref q4) (fun w6 => (∀ q7 : Nat, jlk w6 q7 = none → (fun w7 => w_X3_init κ w7 q7 16 (-1) (fun w8 => (jpV w8 a0 8 2 (.ref q7) (fun w9 => (∀ q10 : Nat, jlk w9 q10 = none → (fun w10 => w_X3_init κ w10 q10 16 0 (fun w11 => (jpV w11 a0 8 3 (.ref q10) (fun w12 => (∀ q13 : Nat, jlk w12 q13 = none → (fun w13 => w_X3_init κ w13 q13 16 0 (fun w14 => (jpV w14 a0 8 4 (.ref q13) (fun w15 => (∀ q16 : Nat, jlk w15 q16 = none → (fun w16 => w_X0_init κ w16 q16 16 (fun w17 => (jpV w17 a0 8 5 (.ref q16) (fun w18 => (∀ q19 : Nat, jlk w18 q19 = none → (fun w19 => w_X3_init κ w19 q19 4 0 (fun w20 => (jpV w20 a0 8 6 (.ref q19) (fun w21 => (∀ q22 : Nat, jlk w21 q22 = none → (fun w22 => w_X0_init κ w22 q22 4 (fun w23 => (jpV w23 a0 8 7 (.ref q22) (fun w24 => jgR' w24 a0 8 0 (fun r25 => (jRc w24 r25 6 ∧ w_X3_put κ w24 r25 0 0 (fun w26 => jgR' w26 a0 8 3 (fun r27 => (jRc w26 r27 6 ∧ w_X3_put κ w26 r27 0 1 (fun w28 => (jpV w28 a0 8 9 (.int 1) (fun w29 => P w29)))))))))))) (w21 ++ [(q22, .inr (4, [.null, .null, .null]))])))))) (w18 ++ [(q19, .inr (6, [.null]))])))))) (w15 ++ [(q16, .inr (4, [.null, .null, .null]))])))))) (w12 ++ [(q13, .inr (6, [.null]))])))))) (w9 ++ [(q10, .inr (6, [.null]))])))))) (w6 ++ [(q7, .inr (6, [.null]))])))))) (w3 ++ [(q4, .inr (6, [.null]))])))))) (w ++ [(q1, .inr (6, [.null]))]))
set_option maxRecDepth 100000 in
set_option maxHeartbeats 4000000 in
theorem k_X5_init_b0 {Γ : jG} (hNm : (jgM Γ).name = "<init>") (X : jX Γ cX5_init 1 RX5) (hR : jgR Γ = ({ frames := 3, cells := 26, slots := 1218, locals := 66 } : Room)) {P : va_W → Prop} (Rt : jRt Γ cX5_init 1 26 1218 none (jPv P)) {w : va_W} {a0 : Nat} (h : w_X5_init_b0 (jgE Γ).2.2.2 w a0 P) : J Γ 1 w 0 0 0 [(0, .ref a0)] [] := by
  unfold w_X5_init_b0 at h
  refine j_aload_n X dX5_init_0 0 rfl ?_
  refine j_objInit X jw_67 jw_60 jw_61 (by rw [hR]; exact ⟨by decide, Nat.le_of_ble_eq_true rfl⟩) dX5_init_1 ?_
  refine j_aload_n X dX5_init_4 0 rfl ?_
  refine j_new X (C := RX3) (T := TX3) (N := 1) 6 [.null] rfl jin_X3 tyX3 tyX3_ok jw_68 jw_69 jw_24 (fun j hj => by rcases (show j = 0 by omega) with rfl <;> rfl) (by rw [hR]; exact ⟨by simp only []; omega, by simp only []; omega⟩) dX5_init_5 (fun q1 e1 => ?_)
  replace h := h q1 e1
  generalize w ++ [(q1, _)] = w1 at h ⊢
  refine j_dup X dX5_init_8 rfl ?_
  refine j_bipush X 16 dX5_init_9 (by decide) ?_
  refine j_iconst X (-1) dX5_init_11 (by decide) ?_
  refine j_callI X [.int 16, .int (-1)] [.ref q1, .ref a0] (c_X3_init h) jmi_X3_init jw_70 rfl ⟨rfl, rfl⟩ (by rw [hR]; decide) rfl (Nat.le_of_ble_eq_true rfl) dX5_init_12 (fun w2 h => ?_)
  obtain ⟨fs3, g3, i3, h⟩ := h
  refine j_putF X hNm (ci := 8) (C := RX5) (T := TX5) (N := 12) rfl jin_X5 tyX5 tyX5_ok nmX5 0 (by decide) g3 jw_104 rfl rfl rfl (by rfl) (by rfl) i3 dX5_init_15 ?_
  generalize jst w2 a0 _ = w3 at h ⊢
  refine j_aload_n X dX5_init_18 0 rfl ?_
  refine j_new X (C := RX3) (T := TX3) (N := 1) 6 [.null] rfl jin_X3 tyX3 tyX3_ok jw_68 jw_69 jw_24 (fun j hj => by rcases (show j = 0 by omega) with rfl <;> rfl) (by rw [hR]; exact ⟨by simp only []; omega, by simp only []; omega⟩) dX5_init_19 (fun q4 e4 => ?_)
  replace h := h q4 e4
  generalize w3 ++ [(q4, _)] = w4 at h ⊢
  refine j_dup X dX5_init_22 rfl ?_
  refine j_bipush X 16 dX5_init_23 (by decide) ?_
  refine j_iconst X (-1) dX5_init_25 (by decide) ?_
  refine j_callI X [.int 16, .int (-1)] [.ref q4, .ref a0] (c_X3_init h) jmi_X3_init jw_70 rfl ⟨rfl, rfl⟩ (by rw [hR]; decide) rfl (Nat.le_of_ble_eq_true rfl) dX5_init_26 (fun w5 h => ?_)
  obtain ⟨fs6, g6, i6, h⟩ := h
  refine j_putF X hNm (ci := 8) (C := RX5) (T := TX5) (N := 12) rfl jin_X5 tyX5 tyX5_ok nmX5 1 (by decide) g6 jw_108 rfl rfl rfl (by rfl) (by rfl) i6 dX5_init_29 ?_
  generalize jst w5 a0 _ = w6 at h ⊢
  refine j_aload_n X dX5_init_32 0 rfl ?_
  refine j_new X (C := RX3) (T := TX3) (N := 1) 6 [.null] rfl jin_X3 tyX3 tyX3_ok jw_68 jw_69 jw_24 (fun j hj => by rcases (show j = 0 by omega) with rfl <;> rfl) (by rw [hR]; exact ⟨by simp only []; omega, by simp only []; omega⟩) dX5_init_33 (fun q7 e7 => ?_)
  replace h := h q7 e7
  generalize w6 ++ [(q7, _)] = w7 at h ⊢
  refine j_dup X dX5_init_36 rfl ?_
  refine j_bipush X 16 dX5_init_37 (by decide) ?_
  refine j_iconst X (-1) dX5_init_39 (by decide) ?_
  refine j_callI X [.int 16, .int (-1)] [.ref q7, .ref a0] (c_X3_init h) jmi_X3_init jw_70 rfl ⟨rfl, rfl⟩ (by rw [hR]; decide) rfl (Nat.le_of_ble_eq_true rfl) dX5_init_40 (fun w8 h => ?_)
  obtain ⟨fs9, g9, i9, h⟩ := h
  refine j_putF X hNm (ci := 8) (C := RX5) (T := TX5) (N := 12) rfl jin_X5 tyX5 tyX5_ok nmX5 2 (by decide) g9 jw_112 rfl rfl rfl (by rfl) (by rfl) i9 dX5_init_43 ?_
  generalize jst w8 a0 _ = w9 at h ⊢
  refine j_aload_n X dX5_init_46 0 rfl ?_
  refine j_new X (C := RX3) (T := TX3) (N := 1) 6 [.null] rfl jin_X3 tyX3 tyX3_ok jw_68 jw_69 jw_24 (fun j hj => by rcases (show j = 0 by omega) with rfl <;> rfl) (by rw [hR]; exact ⟨by simp only []; omega, by simp only []; omega⟩) dX5_init_47 (fun q10 e10 => ?_)
  replace h := h q10 e10
  generalize w9 ++ [(q10, _)] = w10 at h ⊢
  refine j_dup X dX5_init_50 rfl ?_
  refine j_bipush X 16 dX5_init_51 (by decide) ?_
  refine j_iconst X 0 dX5_init_53 (by decide) ?_
  refine j_callI X [.int 16, .int 0] [.ref q10, .ref a0] (c_X3_init h) jmi_X3_init jw_70 rfl ⟨rfl, rfl⟩ (by rw [hR]; decide) rfl (Nat.le_of_ble_eq_true rfl) dX5_init_54 (fun w11 h => ?_)
  obtain ⟨fs12, g12, i12, h⟩ := h
  refine j_putF X hNm (ci := 8) (C := RX5) (T := TX5) (N := 12) rfl jin_X5 tyX5 tyX5_ok nmX5 3 (by decide) g12 jw_116 rfl rfl rfl (by rfl) (by rfl) i12 dX5_init_57 ?_
  generalize jst w11 a0 _ = w12 at h ⊢
  refine j_aload_n X dX5_init_60 0 rfl ?_
  refine j_new X (C := RX3) (T := TX3) (N := 1) 6 [.null] rfl jin_X3 tyX3 tyX3_ok jw_68 jw_69 jw_24 (fun j hj => by rcases (show j = 0 by omega) with rfl <;> rfl) (by rw [hR]; exact ⟨by simp only []; omega, by simp only []; omega⟩) dX5_init_61 (fun q13 e13 => ?_)
  replace h := h q13 e13
  generalize w12 ++ [(q13, _)] = w13 at h ⊢
  refine j_dup X dX5_init_64 rfl ?_
  refine j_bipush X 16 dX5_init_65 (by decide) ?_
  refine j_iconst X 0 dX5_init_67 (by decide) ?_
  refine j_callI X [.int 16, .int 0] [.ref q13, .ref a0] (c_X3_init h) jmi_X3_init jw_70 rfl ⟨rfl, rfl⟩ (by rw [hR]; decide) rfl (Nat.le_of_ble_eq_true rfl) dX5_init_68 (fun w14 h => ?_)
  obtain ⟨fs15, g15, i15, h⟩ := h
  refine j_putF X hNm (ci := 8) (C := RX5) (T := TX5) (N := 12) rfl jin_X5 tyX5 tyX5_ok nmX5 4 (by decide) g15 jw_120 rfl rfl rfl (by rfl) (by rfl) i15 dX5_init_71 ?_
  generalize jst w14 a0 _ = w15 at h ⊢
  refine j_aload_n X dX5_init_74 0 rfl ?_
  refine j_new X (C := RX0) (T := TX0) (N := 3) 4 [.null, .null, .null] rfl jin_X0 tyX0 tyX0_ok jw_82 jw_83 jw_26 (fun j hj => by rcases (show j = 0 ∨ j = 1 ∨ j = 2 by omega) with rfl | rfl | rfl <;> rfl) (by rw [hR]; exact ⟨by simp only []; omega, by simp only []; omega⟩) dX5_init_75 (fun q16 e16 => ?_)
  replace h := h q16 e16
  generalize w15 ++ [(q16, _)] = w16 at h ⊢
  refine j_dup X dX5_init_78 rfl ?_
  refine j_bipush X 16 dX5_init_79 (by decide) ?_
  refine j_callI X [.int 16] [.ref q16, .ref a0] (c_X0_init h) jmi_X0_init jw_84 rfl ⟨rfl, rfl⟩ (by rw [hR]; decide) rfl (Nat.le_of_ble_eq_true rfl) dX5_init_81 (fun w17 h => ?_)
  obtain ⟨fs18, g18, i18, h⟩ := h
  refine j_putF X hNm (ci := 8) (C := RX5) (T := TX5) (N := 12) rfl jin_X5 tyX5 tyX5_ok nmX5 5 (by decide) g18 jw_124 rfl rfl rfl (by rfl) (by rfl) i18 dX5_init_84 ?_
  generalize jst w17 a0 _ = w18 at h ⊢
  refine j_aload_n X dX5_init_87 0 rfl ?_
  refine j_new X (C := RX3) (T := TX3) (N := 1) 6 [.null] rfl jin_X3 tyX3 tyX3_ok jw_68 jw_69 jw_24 (fun j hj => by rcases (show j = 0 by omega) with rfl <;> rfl) (by rw [hR]; exact ⟨by simp only []; omega, by simp only []; omega⟩) dX5_init_88 (fun q19 e19 => ?_)
  replace h := h q19 e19
  generalize w18 ++ [(q19, _)] = w19 at h ⊢
  refine j_dup X dX5_init_91 rfl ?_
  refine j_iconst X 4 dX5_init_92 (by decide) ?_
  refine j_iconst X 0 dX5_init_93 (by decide) ?_
  refine j_callI X [.int 4, .int 0] [.ref q19, .ref a0] (c_X3_init h) jmi_X3_init jw_70 rfl ⟨rfl, rfl⟩ (by rw [hR]; decide) rfl (Nat.le_of_ble_eq_true rfl) dX5_init_94 (fun w20 h => ?_)
  obtain ⟨fs21, g21, i21, h⟩ := h
  refine j_putF X hNm (ci := 8) (C := RX5) (T := TX5) (N := 12) rfl jin_X5 tyX5 tyX5_ok nmX5 6 (by decide) g21 jw_128 rfl rfl rfl (by rfl) (by rfl) i21 dX5_init_97 ?_
  generalize jst w20 a0 _ = w21 at h ⊢
  refine j_aload_n X dX5_init_100 0 rfl ?_
  refine j_new X (C := RX0) (T := TX0) (N := 3) 4 [.null, .null, .null] rfl jin_X0 tyX0 tyX0_ok jw_82 jw_83 jw_26 (fun j hj => by rcases (show j = 0 ∨ j = 1 ∨ j = 2 by omega) with rfl | rfl | rfl <;> rfl) (by rw [hR]; exact ⟨by simp only []; omega, by simp only []; omega⟩) dX5_init_101 (fun q22 e22 => ?_)
  replace h := h q22 e22
  generalize w21 ++ [(q22, _)] = w22 at h ⊢
  refine j_dup X dX5_init_104 rfl ?_
  refine j_iconst X 4 dX5_init_105 (by decide) ?_
  refine j_callI X [.int 4] [.ref q22, .ref a0] (c_X0_init h) jmi_X0_init jw_84 rfl ⟨rfl, rfl⟩ (by rw [hR]; decide) rfl (Nat.le_of_ble_eq_true rfl) dX5_init_106 (fun w23 h => ?_)
  obtain ⟨fs24, g24, i24, h⟩ := h
  refine j_putF X hNm (ci := 8) (C := RX5) (T := TX5) (N := 12) rfl jin_X5 tyX5 tyX5_ok nmX5 7 (by decide) g24 jw_131 rfl rfl rfl (by rfl) (by rfl) i24 dX5_init_109 ?_
  generalize jst w23 a0 _ = w24 at h ⊢
  refine j_aload_n X dX5_init_112 0 rfl ?_
  obtain ⟨fs25, r25, g25, i25, h⟩ := h
  refine j_get X (ci := 8) (C := RX5) (T := TX5) (N := 12) rfl jin_X5 0 (by decide) g25 i25 jw_104 rfl dX5_init_113 ?_
  refine j_iconst X 0 dX5_init_116 (by decide) ?_
  refine j_iconst X 0 dX5_init_117 (by decide) ?_
  obtain ⟨⟨fs26, g26⟩, h⟩ := h
  refine j_callVv X [.int 0, .int 0] [] (c_X3_put h) (T := TX3) (N := 1) g26 rfl jm_X3_put jw_100 rfl ⟨rfl, rfl⟩ (by rw [hR]; decide) rfl (Nat.le_of_ble_eq_true rfl) dX5_init_118 (fun w26 h => ?_)
  refine j_aload_n X dX5_init_121 0 rfl ?_
  obtain ⟨fs27, r27, g27, i27, h⟩ := h
  refine j_get X (ci := 8) (C := RX5) (T := TX5) (N := 12) rfl jin_X5 3 (by decide) g27 i27 jw_116 rfl dX5_init_122 ?_
  refine j_iconst X 0 dX5_init_125 (by decide) ?_
  refine j_iconst X 1 dX5_init_126 (by decide) ?_
  obtain ⟨⟨fs28, g28⟩, h⟩ := h
  refine j_callVv X [.int 0, .int 1] [] (c_X3_put h) (T := TX3) (N := 1) g28 rfl jm_X3_put jw_100 rfl ⟨rfl, rfl⟩ (by rw [hR]; decide) rfl (Nat.le_of_ble_eq_true rfl) dX5_init_127 (fun w28 h => ?_)
  refine j_aload_n X dX5_init_130 0 rfl ?_
  refine j_iconst X 1 dX5_init_131 (by decide) ?_
  obtain ⟨fs29, g29, i29, h⟩ := h
  refine j_put X (ci := 8) (C := RX5) (T := TX5) (N := 12) rfl jin_X5 tyX5 tyX5_ok nmX5 9 (by decide) g29 jw_137 rfl rfl (by rfl) (by rfl) i29 dX5_init_132 ?_
  generalize jst w28 a0 _ = w29 at h ⊢
  exact Rt.v dX5_init_135 ⟨rfl, h⟩ (by first | decide | omega) (by first | decide | omega)
def w_X5_init (κ : Nat → Nat) (w : va_W) (a0 : Nat) (P : va_W → Prop) : Prop := w_X5_init_b0 κ w a0 P
theorem c_X5_init {E : jE} {w : va_W} {a0 : Nat} {P : va_W → Prop} (h : w_X5_init E.2.2.2 w a0 P) : jC E yX5_init cX5_init 1 none ({ frames := 3, cells := 26, slots := 1218, locals := 66 } : Room) [.ref a0] w 26 1218 (jPv P) := by
  refine jC_ofN (by decide) (Nat.le_of_ble_eq_true rfl) ?_
  intro Γ hNm X hE hR Rt
  subst hE
  exact k_X5_init_b0 hNm X hR Rt h
theorem jmi_X1_init : jMi yX1_init cX1_init 2 0 := ⟨jw_206, jw_29, jw_207, ⟨by decide +kernel, by decide +kernel⟩, by decide +kernel, rfl⟩
def w_X1_init_b15 : Nat → (κ : Nat → Nat) → (w : va_W) → (a0 : Nat) → (x1 : Int32) → (P : va_W → Prop) → Prop
  | 0, _, _, _, _, _ => False
  | n + 1, κ, w, a0, x1, P =>
    jgR' w a0 5 0 (fun r1 => jAl w r1 (fun v2 => (if v2 ≤ x1 then P w else jgR' w a0 5 0 (fun r3 => (∀ q4 : Nat, jlk w q4 = none → (fun w4 => w_X5_init κ w4 q4 (fun w5 => jSr w5 r3 x1 q4 (fun w6 => w_X1_init_b15 n κ w6 a0 (x1 + 1) P))) (w ++ [(q4, .inr (8, [.null, .null, .null, .null, .null, .null, .null, .null, .int 0, .int 0, .int 0, .int 0]))]))))))
set_option maxRecDepth 100000 in
set_option maxHeartbeats 4000000 in
theorem k_X1_init_b15 {Γ : jG} (hNm : (jgM Γ).name = "<init>") (X : jX Γ cX1_init 2 RX1) (hR : jgR Γ = ({ frames := 4, cells := 244, slots := 11078, locals := 86 } : Room)) {P : va_W → Prop} (Rt : jRt Γ cX1_init 2 244 11078 none (jPv P)) : ∀ (n : Nat) (hN : n ≤ 9) {w : va_W} {a0 : Nat} {x1 : Int32} (h : w_X1_init_b15 n (jgE Γ).2.2.2 w a0 x1 P), J Γ 2 w (1 + (9 - n) * 27 + 0) (8 + (9 - n) * 1230 + 0) 15 [(0, .ref a0), (1, .int x1)] [] := by
  intro n
  induction n with
  | zero => intro hN w a0 x1 h; exact False.elim h
  | succ n ih =>
    intro hN w a0 x1 h
    rw [w_X1_init_b15] at h
    refine j_iload_n X dX1_init_15 1 rfl ?_
    refine j_aload_n X dX1_init_16 0 rfl ?_
    obtain ⟨fs1, r1, g1, i1, h⟩ := h
    refine j_get X (ci := 5) (C := RX1) (T := TX1) (N := 3) rfl jin_X1 0 (by decide) g1 i1 jw_212 rfl dX1_init_17 ?_
    obtain ⟨t2, n2, q2, j2, g2, h⟩ := h
    refine j_alen X j2 g2 dX1_init_20 ?_
    generalize Int32.ofNat n2 = v2 at h ⊢
    refine j_icmp_ge X 43 dX1_init_21 (by decide) (fun c => ?_) (fun c => ?_)
    · replace h := jif_t c h
      exact Rt.v dX1_init_43 ⟨rfl, h⟩ (by first | decide | omega) (by first | decide | omega)
    · replace h := jif_f c h
      refine j_aload_n X dX1_init_24 0 rfl ?_
      obtain ⟨fs3, r3, g3, i3, h⟩ := h
      refine j_get X (ci := 5) (C := RX1) (T := TX1) (N := 3) rfl jin_X1 0 (by decide) g3 i3 jw_212 rfl dX1_init_25 ?_
      refine j_iload_n X dX1_init_28 1 rfl ?_
      refine j_new X (C := RX5) (T := TX5) (N := 12) 8 [.null, .null, .null, .null, .null, .null, .null, .null, .int 0, .int 0, .int 0, .int 0] rfl jin_X5 tyX5 tyX5_ok jw_209 jw_63 jw_23 (fun j hj => by rcases (show j = 0 ∨ j = 1 ∨ j = 2 ∨ j = 3 ∨ j = 4 ∨ j = 5 ∨ j = 6 ∨ j = 7 ∨ j = 8 ∨ j = 9 ∨ j = 10 ∨ j = 11 by omega) with rfl | rfl | rfl | rfl | rfl | rfl | rfl | rfl | rfl | rfl | rfl | rfl <;> rfl) (by rw [hR]; exact ⟨by simp only []; omega, by simp only []; omega⟩) dX1_init_29 (fun q4 e4 => ?_)
      replace h := h q4 e4
      generalize w ++ [(q4, _)] = w4 at h ⊢
      refine j_dup X dX1_init_32 rfl ?_
      refine j_callI X [] [.ref q4, .int x1, .ref r3] (c_X5_init h) jmi_X5_init jw_211 rfl ⟨rfl, rfl⟩ (by rw [hR]; exact ⟨⟨by decide, by decide⟩, by simp only []; omega, by simp only []; omega⟩) rfl (Nat.le_of_ble_eq_true rfl) dX1_init_33 (fun w5 h => ?_)
      obtain ⟨n6, f6, v6, g6, k6, i6, h⟩ := h
      refine j_aast X g6 k6 rfl i6 dX1_init_36 ?_
      generalize jst w5 r3 _ = w6 at h ⊢
      refine j_iinc X (x1 + 1) [(1, .int (x1 + 1)), (0, .ref a0)] dX1_init_37 1 rfl rfl (by decide) rfl ?_
      refine j_goto X 15 dX1_init_40 (by decide) ?_
      refine j_sub [1, 0] rfl ?_
      refine j_widen (k := (1 + (9 - n) * 27 + 0)) (n := (8 + (9 - n) * 1230 + 0)) (by omega) (by omega) ?_
      exact ih (by omega) h
def w_X1_init_b0 (κ : Nat → Nat) (w : va_W) (a0 : Nat) (P : va_W → Prop) : Prop :=
    (¬ (8 : Int32) < 0 ∧ Int32.toNatClampNeg 8 ≤ 8 ∧ ∀ q1 : Nat, jlk w q1 = none → (fun w1 => (jpV w1 a0 5 0 (.ref q1) (fun w2 => w_X1_init_b15 9 κ w2 a0 0 P))) (w ++ [(q1, .inl (2, Int32.toNatClampNeg 8, .inr (.inr (.inr (.inr (fun _ => none))))))]))
set_option maxRecDepth 100000 in
set_option maxHeartbeats 4000000 in
theorem k_X1_init_b0 {Γ : jG} (hNm : (jgM Γ).name = "<init>") (X : jX Γ cX1_init 2 RX1) (hR : jgR Γ = ({ frames := 4, cells := 244, slots := 11078, locals := 86 } : Room)) {P : va_W → Prop} (Rt : jRt Γ cX1_init 2 244 11078 none (jPv P)) {w : va_W} {a0 : Nat} (h : w_X1_init_b0 (jgE Γ).2.2.2 w a0 P) : J Γ 2 w 0 0 0 [(0, .ref a0)] [] := by
  unfold w_X1_init_b0 at h
  refine j_aload_n X dX1_init_0 0 rfl ?_
  refine j_objInit X jw_208 jw_60 jw_61 (by rw [hR]; exact ⟨by decide, Nat.le_of_ble_eq_true rfl⟩) dX1_init_1 ?_
  refine j_aload_n X dX1_init_4 0 rfl ?_
  refine j_bipush X 8 dX1_init_5 (by decide) ?_
  refine j_newq X (N := Int32.toNatClampNeg 8) jw_209 h.1 rfl (Nat.le_trans h.2.1 (by decide)) (by rw [hR]; exact ⟨by simp only []; omega, by have := h.2.1; simp only []; omega⟩) dX1_init_7 (fun q1 e1 => ?_)
  refine j_widen (n := 0 + 8) (Nat.le_refl _) (Nat.add_le_add_left h.2.1 _) ?_
  replace h := h.2.2 q1 e1
  generalize w ++ [(q1, _)] = w1 at h ⊢
  obtain ⟨fs2, g2, i2, h⟩ := h
  refine j_putF X hNm (ci := 5) (C := RX1) (T := TX1) (N := 3) rfl jin_X1 tyX1 tyX1_ok nmX1 0 (by decide) g2 jw_212 rfl rfl rfl (by rfl) (by rfl) i2 dX1_init_10 ?_
  generalize jst w1 a0 _ = w2 at h ⊢
  refine j_iconst X 0 dX1_init_13 (by decide) ?_
  refine j_istore_n X [(1, .int 0), (0, .ref a0)] dX1_init_14 (by decide) rfl ?_
  refine j_sub [1, 0] rfl ?_
  refine j_widen (k := (1 + (9 - 9) * 27 + 0)) (n := (8 + (9 - 9) * 1230 + 0)) (by omega) (by omega) ?_
  exact k_X1_init_b15 hNm X hR Rt _ (Nat.le_refl _) h
def w_X1_init (κ : Nat → Nat) (w : va_W) (a0 : Nat) (P : va_W → Prop) : Prop := w_X1_init_b0 κ w a0 P
theorem c_X1_init {E : jE} {w : va_W} {a0 : Nat} {P : va_W → Prop} (h : w_X1_init E.2.2.2 w a0 P) : jC E yX1_init cX1_init 2 none ({ frames := 4, cells := 244, slots := 11078, locals := 86 } : Room) [.ref a0] w 244 11078 (jPv P) := by
  refine jC_ofN (by decide) (Nat.le_of_ble_eq_true rfl) ?_
  intro Γ hNm X hE hR Rt
  subst hE
  exact k_X1_init_b0 hNm X hR Rt h
theorem jm_X5_copyFrom : jMv yX5_copyFrom cX5_copyFrom 2 none 1 := ⟨jw_341, jw_342, jw_23, jw_343, ⟨by decide +kernel, by decide +kernel⟩, by decide +kernel⟩
def w_X5_copyFrom_b0 (κ : Nat → Nat) (w : va_W) (a0 : Nat) (a1 : Nat) (P : va_W → Prop) : Prop :=
    jgR' w a0 8 0 (fun r1 => jgR' w a1 8 0 (fun r2 => (jRc w r1 6 ∧ w_X3_copyFrom κ w r1 r2 (fun w3 => jgR' w3 a0 8 1 (fun r4 => jgR' w3 a1 8 1 (fun r5 => (jRc w3 r4 6 ∧ w_X3_copyFrom κ w3 r4 r5 (fun w6 => jgR' w6 a0 8 2 (fun r7 => jgR' w6 a1 8 2 (fun r8 => (jRc w6 r7 6 ∧ w_X3_copyFrom κ w6 r7 r8 (fun w9 => jgR' w9 a0 8 3 (fun r10 => jgR' w9 a1 8 3 (fun r11 => (jRc w9 r10 6 ∧ w_X3_copyFrom κ w9 r10 r11 (fun w12 => jgR' w12 a0 8 4 (fun r13 => jgR' w12 a1 8 4 (fun r14 => (jRc w12 r13 6 ∧ w_X3_copyFrom κ w12 r13 r14 (fun w15 => jgR' w15 a0 8 5 (fun r16 => jgR' w15 a1 8 5 (fun r17 => (jRc w15 r16 4 ∧ w_X0_copyFrom κ w15 r16 r17 (fun w18 => jgR' w18 a0 8 6 (fun r19 => jgR' w18 a1 8 6 (fun r20 => (jRc w18 r19 6 ∧ w_X3_copyFrom κ w18 r19 r20 (fun w21 => jgR' w21 a0 8 7 (fun r22 => jgR' w21 a1 8 7 (fun r23 => (jRc w21 r22 4 ∧ w_X0_copyFrom κ w21 r22 r23 (fun w24 => jgI w24 a1 8 8 (fun v25 => (jpV w24 a0 8 8 (.int v25) (fun w26 => jgI w26 a1 8 9 (fun v27 => (jpV w26 a0 8 9 (.int v27) (fun w28 => jgI w28 a1 8 10 (fun v29 => (jpV w28 a0 8 10 (.int v29) (fun w30 => jgI w30 a1 8 11 (fun v31 => (jpV w30 a0 8 11 (.int v31) (fun w32 => P w32))))))))))))))))))))))))))))))))))))))))))))
set_option maxRecDepth 100000 in
set_option maxHeartbeats 4000000 in
theorem k_X5_copyFrom_b0 {Γ : jG} (X : jX Γ cX5_copyFrom 2 RX5) (hR : jgR Γ = ({ frames := 3, cells := 0, slots := 0, locals := 150 } : Room)) {P : va_W → Prop} (Rt : jRt Γ cX5_copyFrom 2 0 0 none (jPv P)) {w : va_W} {a0 : Nat} {a1 : Nat} (h : w_X5_copyFrom_b0 (jgE Γ).2.2.2 w a0 a1 P) : J Γ 2 w 0 0 0 [(0, .ref a0), (1, .ref a1)] [] := by
  unfold w_X5_copyFrom_b0 at h
  refine j_aload_n X dX5_copyFrom_0 0 rfl ?_
  obtain ⟨fs1, r1, g1, i1, h⟩ := h
  refine j_get X (ci := 8) (C := RX5) (T := TX5) (N := 12) rfl jin_X5 0 (by decide) g1 i1 jw_104 rfl dX5_copyFrom_1 ?_
  refine j_aload_n X dX5_copyFrom_4 1 rfl ?_
  obtain ⟨fs2, r2, g2, i2, h⟩ := h
  refine j_get X (ci := 8) (C := RX5) (T := TX5) (N := 12) rfl jin_X5 0 (by decide) g2 i2 jw_104 rfl dX5_copyFrom_5 ?_
  obtain ⟨⟨fs3, g3⟩, h⟩ := h
  refine j_callVv X [.ref r2] [] (c_X3_copyFrom h) (T := TX3) (N := 1) g3 rfl jm_X3_copyFrom jw_344 rfl ⟨rfl, rfl⟩ (by rw [hR]; decide) rfl (Nat.le_of_ble_eq_true rfl) dX5_copyFrom_8 (fun w3 h => ?_)
  refine j_aload_n X dX5_copyFrom_11 0 rfl ?_
  obtain ⟨fs4, r4, g4, i4, h⟩ := h
  refine j_get X (ci := 8) (C := RX5) (T := TX5) (N := 12) rfl jin_X5 1 (by decide) g4 i4 jw_108 rfl dX5_copyFrom_12 ?_
  refine j_aload_n X dX5_copyFrom_15 1 rfl ?_
  obtain ⟨fs5, r5, g5, i5, h⟩ := h
  refine j_get X (ci := 8) (C := RX5) (T := TX5) (N := 12) rfl jin_X5 1 (by decide) g5 i5 jw_108 rfl dX5_copyFrom_16 ?_
  obtain ⟨⟨fs6, g6⟩, h⟩ := h
  refine j_callVv X [.ref r5] [] (c_X3_copyFrom h) (T := TX3) (N := 1) g6 rfl jm_X3_copyFrom jw_344 rfl ⟨rfl, rfl⟩ (by rw [hR]; decide) rfl (Nat.le_of_ble_eq_true rfl) dX5_copyFrom_19 (fun w6 h => ?_)
  refine j_aload_n X dX5_copyFrom_22 0 rfl ?_
  obtain ⟨fs7, r7, g7, i7, h⟩ := h
  refine j_get X (ci := 8) (C := RX5) (T := TX5) (N := 12) rfl jin_X5 2 (by decide) g7 i7 jw_112 rfl dX5_copyFrom_23 ?_
  refine j_aload_n X dX5_copyFrom_26 1 rfl ?_
  obtain ⟨fs8, r8, g8, i8, h⟩ := h
  refine j_get X (ci := 8) (C := RX5) (T := TX5) (N := 12) rfl jin_X5 2 (by decide) g8 i8 jw_112 rfl dX5_copyFrom_27 ?_
  obtain ⟨⟨fs9, g9⟩, h⟩ := h
  refine j_callVv X [.ref r8] [] (c_X3_copyFrom h) (T := TX3) (N := 1) g9 rfl jm_X3_copyFrom jw_344 rfl ⟨rfl, rfl⟩ (by rw [hR]; decide) rfl (Nat.le_of_ble_eq_true rfl) dX5_copyFrom_30 (fun w9 h => ?_)
  refine j_aload_n X dX5_copyFrom_33 0 rfl ?_
  obtain ⟨fs10, r10, g10, i10, h⟩ := h
  refine j_get X (ci := 8) (C := RX5) (T := TX5) (N := 12) rfl jin_X5 3 (by decide) g10 i10 jw_116 rfl dX5_copyFrom_34 ?_
  refine j_aload_n X dX5_copyFrom_37 1 rfl ?_
  obtain ⟨fs11, r11, g11, i11, h⟩ := h
  refine j_get X (ci := 8) (C := RX5) (T := TX5) (N := 12) rfl jin_X5 3 (by decide) g11 i11 jw_116 rfl dX5_copyFrom_38 ?_
  obtain ⟨⟨fs12, g12⟩, h⟩ := h
  refine j_callVv X [.ref r11] [] (c_X3_copyFrom h) (T := TX3) (N := 1) g12 rfl jm_X3_copyFrom jw_344 rfl ⟨rfl, rfl⟩ (by rw [hR]; decide) rfl (Nat.le_of_ble_eq_true rfl) dX5_copyFrom_41 (fun w12 h => ?_)
  refine j_aload_n X dX5_copyFrom_44 0 rfl ?_
  obtain ⟨fs13, r13, g13, i13, h⟩ := h
  refine j_get X (ci := 8) (C := RX5) (T := TX5) (N := 12) rfl jin_X5 4 (by decide) g13 i13 jw_120 rfl dX5_copyFrom_45 ?_
  refine j_aload_n X dX5_copyFrom_48 1 rfl ?_
  obtain ⟨fs14, r14, g14, i14, h⟩ := h
  refine j_get X (ci := 8) (C := RX5) (T := TX5) (N := 12) rfl jin_X5 4 (by decide) g14 i14 jw_120 rfl dX5_copyFrom_49 ?_
  obtain ⟨⟨fs15, g15⟩, h⟩ := h
  refine j_callVv X [.ref r14] [] (c_X3_copyFrom h) (T := TX3) (N := 1) g15 rfl jm_X3_copyFrom jw_344 rfl ⟨rfl, rfl⟩ (by rw [hR]; decide) rfl (Nat.le_of_ble_eq_true rfl) dX5_copyFrom_52 (fun w15 h => ?_)
  refine j_aload_n X dX5_copyFrom_55 0 rfl ?_
  obtain ⟨fs16, r16, g16, i16, h⟩ := h
  refine j_get X (ci := 8) (C := RX5) (T := TX5) (N := 12) rfl jin_X5 5 (by decide) g16 i16 jw_124 rfl dX5_copyFrom_56 ?_
  refine j_aload_n X dX5_copyFrom_59 1 rfl ?_
  obtain ⟨fs17, r17, g17, i17, h⟩ := h
  refine j_get X (ci := 8) (C := RX5) (T := TX5) (N := 12) rfl jin_X5 5 (by decide) g17 i17 jw_124 rfl dX5_copyFrom_60 ?_
  obtain ⟨⟨fs18, g18⟩, h⟩ := h
  refine j_callVv X [.ref r17] [] (c_X0_copyFrom h) (T := TX0) (N := 3) g18 rfl jm_X0_copyFrom jw_354 rfl ⟨rfl, rfl⟩ (by rw [hR]; decide) rfl (Nat.le_of_ble_eq_true rfl) dX5_copyFrom_63 (fun w18 h => ?_)
  refine j_aload_n X dX5_copyFrom_66 0 rfl ?_
  obtain ⟨fs19, r19, g19, i19, h⟩ := h
  refine j_get X (ci := 8) (C := RX5) (T := TX5) (N := 12) rfl jin_X5 6 (by decide) g19 i19 jw_128 rfl dX5_copyFrom_67 ?_
  refine j_aload_n X dX5_copyFrom_70 1 rfl ?_
  obtain ⟨fs20, r20, g20, i20, h⟩ := h
  refine j_get X (ci := 8) (C := RX5) (T := TX5) (N := 12) rfl jin_X5 6 (by decide) g20 i20 jw_128 rfl dX5_copyFrom_71 ?_
  obtain ⟨⟨fs21, g21⟩, h⟩ := h
  refine j_callVv X [.ref r20] [] (c_X3_copyFrom h) (T := TX3) (N := 1) g21 rfl jm_X3_copyFrom jw_344 rfl ⟨rfl, rfl⟩ (by rw [hR]; decide) rfl (Nat.le_of_ble_eq_true rfl) dX5_copyFrom_74 (fun w21 h => ?_)
  refine j_aload_n X dX5_copyFrom_77 0 rfl ?_
  obtain ⟨fs22, r22, g22, i22, h⟩ := h
  refine j_get X (ci := 8) (C := RX5) (T := TX5) (N := 12) rfl jin_X5 7 (by decide) g22 i22 jw_131 rfl dX5_copyFrom_78 ?_
  refine j_aload_n X dX5_copyFrom_81 1 rfl ?_
  obtain ⟨fs23, r23, g23, i23, h⟩ := h
  refine j_get X (ci := 8) (C := RX5) (T := TX5) (N := 12) rfl jin_X5 7 (by decide) g23 i23 jw_131 rfl dX5_copyFrom_82 ?_
  obtain ⟨⟨fs24, g24⟩, h⟩ := h
  refine j_callVv X [.ref r23] [] (c_X0_copyFrom h) (T := TX0) (N := 3) g24 rfl jm_X0_copyFrom jw_354 rfl ⟨rfl, rfl⟩ (by rw [hR]; decide) rfl (Nat.le_of_ble_eq_true rfl) dX5_copyFrom_85 (fun w24 h => ?_)
  refine j_aload_n X dX5_copyFrom_88 0 rfl ?_
  refine j_aload_n X dX5_copyFrom_89 1 rfl ?_
  obtain ⟨fs25, v25, g25, i25, h⟩ := h
  refine j_get X (ci := 8) (C := RX5) (T := TX5) (N := 12) rfl jin_X5 8 (by decide) g25 i25 jw_134 rfl dX5_copyFrom_90 ?_
  obtain ⟨fs26, g26, i26, h⟩ := h
  refine j_put X (ci := 8) (C := RX5) (T := TX5) (N := 12) rfl jin_X5 tyX5 tyX5_ok nmX5 8 (by decide) g26 jw_134 rfl rfl (by rfl) (by rfl) i26 dX5_copyFrom_93 ?_
  generalize jst w24 a0 _ = w26 at h ⊢
  refine j_aload_n X dX5_copyFrom_96 0 rfl ?_
  refine j_aload_n X dX5_copyFrom_97 1 rfl ?_
  obtain ⟨fs27, v27, g27, i27, h⟩ := h
  refine j_get X (ci := 8) (C := RX5) (T := TX5) (N := 12) rfl jin_X5 9 (by decide) g27 i27 jw_137 rfl dX5_copyFrom_98 ?_
  obtain ⟨fs28, g28, i28, h⟩ := h
  refine j_put X (ci := 8) (C := RX5) (T := TX5) (N := 12) rfl jin_X5 tyX5 tyX5_ok nmX5 9 (by decide) g28 jw_137 rfl rfl (by rfl) (by rfl) i28 dX5_copyFrom_101 ?_
  generalize jst w26 a0 _ = w28 at h ⊢
  refine j_aload_n X dX5_copyFrom_104 0 rfl ?_
  refine j_aload_n X dX5_copyFrom_105 1 rfl ?_
  obtain ⟨fs29, v29, g29, i29, h⟩ := h
  refine j_get X (ci := 8) (C := RX5) (T := TX5) (N := 12) rfl jin_X5 10 (by decide) g29 i29 jw_139 rfl dX5_copyFrom_106 ?_
  obtain ⟨fs30, g30, i30, h⟩ := h
  refine j_put X (ci := 8) (C := RX5) (T := TX5) (N := 12) rfl jin_X5 tyX5 tyX5_ok nmX5 10 (by decide) g30 jw_139 rfl rfl (by rfl) (by rfl) i30 dX5_copyFrom_109 ?_
  generalize jst w28 a0 _ = w30 at h ⊢
  refine j_aload_n X dX5_copyFrom_112 0 rfl ?_
  refine j_aload_n X dX5_copyFrom_113 1 rfl ?_
  obtain ⟨fs31, v31, g31, i31, h⟩ := h
  refine j_get X (ci := 8) (C := RX5) (T := TX5) (N := 12) rfl jin_X5 11 (by decide) g31 i31 jw_142 rfl dX5_copyFrom_114 ?_
  obtain ⟨fs32, g32, i32, h⟩ := h
  refine j_put X (ci := 8) (C := RX5) (T := TX5) (N := 12) rfl jin_X5 tyX5 tyX5_ok nmX5 11 (by decide) g32 jw_142 rfl rfl (by rfl) (by rfl) i32 dX5_copyFrom_117 ?_
  generalize jst w30 a0 _ = w32 at h ⊢
  exact Rt.v dX5_copyFrom_120 ⟨rfl, h⟩ (by first | decide | omega) (by first | decide | omega)
def w_X5_copyFrom (κ : Nat → Nat) (w : va_W) (a0 : Nat) (a1 : Nat) (P : va_W → Prop) : Prop := w_X5_copyFrom_b0 κ w a0 a1 P
theorem c_X5_copyFrom {E : jE} {w : va_W} {a0 : Nat} {a1 : Nat} {P : va_W → Prop} (h : w_X5_copyFrom E.2.2.2 w a0 a1 P) : jC E yX5_copyFrom cX5_copyFrom 2 none ({ frames := 3, cells := 0, slots := 0, locals := 150 } : Room) [.ref a0, .ref a1] w 0 0 (jPv P) := by
  refine jC_of (by decide) (Nat.le_of_ble_eq_true rfl) ?_
  intro Γ X hE hR Rt
  subst hE
  exact k_X5_copyFrom_b0 X hR Rt h
theorem jm_X1_keep : jMv yX1_keep cX1_keep 2 none 1 := ⟨jw_544, jw_545, jw_29, jw_546, ⟨by decide +kernel, by decide +kernel⟩, by decide +kernel⟩
def w_X1_keep_b44 (κ : Nat → Nat) (w : va_W) (a0 : Nat) (P : va_W → Prop) : Prop :=
    jgI w a0 5 1 (fun v1 => (jpV w a0 5 1 (.int (jrem (v1 + 1) 8)) (fun w2 => jgI w2 a0 5 2 (fun v3 => (jpV w2 a0 5 2 (.int (jmin (v3 + 1) 8)) (fun w4 => P w4))))))
set_option maxRecDepth 100000 in
set_option maxHeartbeats 4000000 in
theorem k_X1_keep_b44 {Γ : jG} (X : jX Γ cX1_keep 2 RX1) (hR : jgR Γ = ({ frames := 4, cells := 0, slots := 0, locals := 171 } : Room)) {P : va_W → Prop} (Rt : jRt Γ cX1_keep 2 0 0 none (jPv P)) {w : va_W} {a0 : Nat} (h : w_X1_keep_b44 (jgE Γ).2.2.2 w a0 P) : J Γ 2 w 0 0 44 [(0, .ref a0)] [] := by
  unfold w_X1_keep_b44 at h
  refine j_aload_n X dX1_keep_44 0 rfl ?_
  refine j_aload_n X dX1_keep_45 0 rfl ?_
  obtain ⟨fs1, v1, g1, i1, h⟩ := h
  refine j_get X (ci := 5) (C := RX1) (T := TX1) (N := 3) rfl jin_X1 1 (by decide) g1 i1 jw_213 rfl dX1_keep_46 ?_
  refine j_iconst X 1 dX1_keep_49 (by decide) ?_
  refine j_iadd X dX1_keep_50 ?_
  refine j_bipush X 8 dX1_keep_51 (by decide) ?_
  refine j_irem X dX1_keep_53 (by decide) ?_
  obtain ⟨fs2, g2, i2, h⟩ := h
  refine j_put X (ci := 5) (C := RX1) (T := TX1) (N := 3) rfl jin_X1 tyX1 tyX1_ok nmX1 1 (by decide) g2 jw_213 rfl rfl (by rfl) (by rfl) i2 dX1_keep_54 ?_
  generalize jst w a0 _ = w2 at h ⊢
  refine j_aload_n X dX1_keep_57 0 rfl ?_
  refine j_aload_n X dX1_keep_58 0 rfl ?_
  obtain ⟨fs3, v3, g3, i3, h⟩ := h
  refine j_get X (ci := 5) (C := RX1) (T := TX1) (N := 3) rfl jin_X1 2 (by decide) g3 i3 jw_214 rfl dX1_keep_59 ?_
  refine j_iconst X 1 dX1_keep_62 (by decide) ?_
  refine j_iadd X dX1_keep_63 ?_
  refine j_bipush X 8 dX1_keep_64 (by decide) ?_
  refine j_mmin X jw_548 jw_349 jw_45 jw_350 (by rw [hR]; exact ⟨⟨by decide, Nat.le_of_ble_eq_true rfl⟩, by decide, by decide⟩) dX1_keep_66 ?_
  obtain ⟨fs4, g4, i4, h⟩ := h
  refine j_put X (ci := 5) (C := RX1) (T := TX1) (N := 3) rfl jin_X1 tyX1 tyX1_ok nmX1 2 (by decide) g4 jw_214 rfl rfl (by rfl) (by rfl) i4 dX1_keep_69 ?_
  generalize jst w2 a0 _ = w4 at h ⊢
  exact Rt.v dX1_keep_72 ⟨rfl, h⟩ (by first | decide | omega) (by first | decide | omega)
def w_X1_keep_b0 (κ : Nat → Nat) (w : va_W) (a0 : Nat) (a1 : Nat) (P : va_W → Prop) : Prop :=
    jgI w a0 5 1 (fun v1 => (if v1 < 0 then w_X1_keep_b44 κ w a0 P else jgI w a0 5 1 (fun v2 => jgR' w a0 5 0 (fun r3 => jAl w r3 (fun v4 => (if v4 ≤ v2 then w_X1_keep_b44 κ w a0 P else jgR' w a0 5 0 (fun r5 => jgI w a0 5 1 (fun v6 => jLq w r5 v6 (fun r7 => jgR' w a0 5 0 (fun r8 => jgI w a0 5 1 (fun v9 => jLq w r8 v9 (fun r10 => (jRc w r10 8 ∧ w_X5_copyFrom κ w r10 a1 (fun w11 => w_X1_keep_b44 κ w11 a0 P))))))))))))))
set_option maxRecDepth 100000 in
set_option maxHeartbeats 4000000 in
theorem k_X1_keep_b0 {Γ : jG} (X : jX Γ cX1_keep 2 RX1) (hR : jgR Γ = ({ frames := 4, cells := 0, slots := 0, locals := 171 } : Room)) {P : va_W → Prop} (Rt : jRt Γ cX1_keep 2 0 0 none (jPv P)) {w : va_W} {a0 : Nat} {a1 : Nat} (h : w_X1_keep_b0 (jgE Γ).2.2.2 w a0 a1 P) : J Γ 2 w 0 0 0 [(0, .ref a0), (1, .ref a1)] [] := by
  unfold w_X1_keep_b0 at h
  refine j_aload_n X dX1_keep_0 0 rfl ?_
  obtain ⟨fs1, v1, g1, i1, h⟩ := h
  refine j_get X (ci := 5) (C := RX1) (T := TX1) (N := 3) rfl jin_X1 1 (by decide) g1 i1 jw_213 rfl dX1_keep_1 ?_
  refine j_if_lt X 44 dX1_keep_4 (by decide) (fun c => ?_) (fun c => ?_)
  · replace h := jif_t c h
    refine j_sub [0] rfl ?_
    exact k_X1_keep_b44 X hR Rt h
  · replace h := jif_f c h
    refine j_aload_n X dX1_keep_7 0 rfl ?_
    obtain ⟨fs2, v2, g2, i2, h⟩ := h
    refine j_get X (ci := 5) (C := RX1) (T := TX1) (N := 3) rfl jin_X1 1 (by decide) g2 i2 jw_213 rfl dX1_keep_8 ?_
    refine j_aload_n X dX1_keep_11 0 rfl ?_
    obtain ⟨fs3, r3, g3, i3, h⟩ := h
    refine j_get X (ci := 5) (C := RX1) (T := TX1) (N := 3) rfl jin_X1 0 (by decide) g3 i3 jw_212 rfl dX1_keep_12 ?_
    obtain ⟨t4, n4, q4, j4, g4, h⟩ := h
    refine j_alen X j4 g4 dX1_keep_15 ?_
    generalize Int32.ofNat n4 = v4 at h ⊢
    refine j_icmp_ge X 44 dX1_keep_16 (by decide) (fun c => ?_) (fun c => ?_)
    · replace h := jif_t c h
      refine j_sub [0] rfl ?_
      exact k_X1_keep_b44 X hR Rt h
    · replace h := jif_f c h
      refine j_aload_n X dX1_keep_19 0 rfl ?_
      obtain ⟨fs5, r5, g5, i5, h⟩ := h
      refine j_get X (ci := 5) (C := RX1) (T := TX1) (N := 3) rfl jin_X1 0 (by decide) g5 i5 jw_212 rfl dX1_keep_20 ?_
      refine j_aload_n X dX1_keep_23 0 rfl ?_
      obtain ⟨fs6, v6, g6, i6, h⟩ := h
      refine j_get X (ci := 5) (C := RX1) (T := TX1) (N := 3) rfl jin_X1 1 (by decide) g6 i6 jw_213 rfl dX1_keep_24 ?_
      obtain ⟨n7, r7, f7, g7, i7, j7, h⟩ := h
      refine j_aald X g7 i7 j7 dX1_keep_27 ?_
      refine j_ifnull X dX1_keep_28 ?_
      refine j_aload_n X dX1_keep_31 0 rfl ?_
      obtain ⟨fs8, r8, g8, i8, h⟩ := h
      refine j_get X (ci := 5) (C := RX1) (T := TX1) (N := 3) rfl jin_X1 0 (by decide) g8 i8 jw_212 rfl dX1_keep_32 ?_
      refine j_aload_n X dX1_keep_35 0 rfl ?_
      obtain ⟨fs9, v9, g9, i9, h⟩ := h
      refine j_get X (ci := 5) (C := RX1) (T := TX1) (N := 3) rfl jin_X1 1 (by decide) g9 i9 jw_213 rfl dX1_keep_36 ?_
      obtain ⟨n10, r10, f10, g10, i10, j10, h⟩ := h
      refine j_aald X g10 i10 j10 dX1_keep_39 ?_
      refine j_aload_n X dX1_keep_40 1 rfl ?_
      obtain ⟨⟨fs11, g11⟩, h⟩ := h
      refine j_callVv X [.ref a1] [] (c_X5_copyFrom h) (T := TX5) (N := 12) g11 rfl jm_X5_copyFrom jw_547 rfl ⟨rfl, rfl⟩ (by rw [hR]; decide) rfl (Nat.le_of_ble_eq_true rfl) dX1_keep_41 (fun w11 h => ?_)
      refine j_sub [0] rfl ?_
      exact k_X1_keep_b44 X hR Rt h
def w_X1_keep (κ : Nat → Nat) (w : va_W) (a0 : Nat) (a1 : Nat) (P : va_W → Prop) : Prop := w_X1_keep_b0 κ w a0 a1 P
theorem c_X1_keep {E : jE} {w : va_W} {a0 : Nat} {a1 : Nat} {P : va_W → Prop} (h : w_X1_keep E.2.2.2 w a0 a1 P) : jC E yX1_keep cX1_keep 2 none ({ frames := 4, cells := 0, slots := 0, locals := 171 } : Room) [.ref a0, .ref a1] w 0 0 (jPv P) := by
  refine jC_of (by decide) (Nat.le_of_ble_eq_true rfl) ?_
  intro Γ X hE hR Rt
  subst hE
  exact k_X1_keep_b0 X hR Rt h
theorem jm_X1_takeBack : jMv yX1_takeBack cX1_takeBack 2 none 1 := ⟨jw_1135, jw_1136, jw_29, jw_1137, ⟨by decide +kernel, by decide +kernel⟩, by decide +kernel⟩
def w_X1_takeBack_b60 (κ : Nat → Nat) (w : va_W) (a0 : Nat) (P : va_W → Prop) : Prop :=
    jgI w a0 5 2 (fun v1 => (jpV w a0 5 2 (.int (v1 - 1)) (fun w2 => P w2)))
set_option maxRecDepth 100000 in
set_option maxHeartbeats 4000000 in
theorem k_X1_takeBack_b60 {Γ : jG} (X : jX Γ cX1_takeBack 2 RX1) (hR : jgR Γ = ({ frames := 4, cells := 0, slots := 0, locals := 171 } : Room)) {P : va_W → Prop} (Rt : jRt Γ cX1_takeBack 2 0 0 none (jPv P)) {w : va_W} {a0 : Nat} (h : w_X1_takeBack_b60 (jgE Γ).2.2.2 w a0 P) : J Γ 2 w 0 0 60 [(0, .ref a0)] [] := by
  unfold w_X1_takeBack_b60 at h
  refine j_aload_n X dX1_takeBack_60 0 rfl ?_
  refine j_dup X dX1_takeBack_61 rfl ?_
  obtain ⟨fs1, v1, g1, i1, h⟩ := h
  refine j_get X (ci := 5) (C := RX1) (T := TX1) (N := 3) rfl jin_X1 2 (by decide) g1 i1 jw_214 rfl dX1_takeBack_62 ?_
  refine j_iconst X 1 dX1_takeBack_65 (by decide) ?_
  refine j_isub X dX1_takeBack_66 ?_
  obtain ⟨fs2, g2, i2, h⟩ := h
  refine j_put X (ci := 5) (C := RX1) (T := TX1) (N := 3) rfl jin_X1 tyX1 tyX1_ok nmX1 2 (by decide) g2 jw_214 rfl rfl (by rfl) (by rfl) i2 dX1_takeBack_67 ?_
  generalize jst w a0 _ = w2 at h ⊢
  exact Rt.v dX1_takeBack_70 ⟨rfl, h⟩ (by first | decide | omega) (by first | decide | omega)
def w_X1_takeBack_b0 (κ : Nat → Nat) (w : va_W) (a0 : Nat) (a1 : Nat) (P : va_W → Prop) : Prop :=
    jgI w a0 5 1 (fun v1 => (jpV w a0 5 1 (.int (jrem ((v1 + 8) - 1) 8)) (fun w2 => jgI w2 a0 5 1 (fun v3 => (if v3 < 0 then w_X1_takeBack_b60 κ w2 a0 P else jgI w2 a0 5 1 (fun v4 => jgR' w2 a0 5 0 (fun r5 => jAl w2 r5 (fun v6 => (if v6 ≤ v4 then w_X1_takeBack_b60 κ w2 a0 P else jgR' w2 a0 5 0 (fun r7 => jgI w2 a0 5 1 (fun v8 => jLq w2 r7 v8 (fun r9 => jgR' w2 a0 5 0 (fun r10 => jgI w2 a0 5 1 (fun v11 => jLq w2 r10 v11 (fun r12 => (jRc w2 a1 8 ∧ w_X5_copyFrom κ w2 a1 r12 (fun w13 => w_X1_takeBack_b60 κ w13 a0 P)))))))))))))))))
set_option maxRecDepth 100000 in
set_option maxHeartbeats 4000000 in
theorem k_X1_takeBack_b0 {Γ : jG} (X : jX Γ cX1_takeBack 2 RX1) (hR : jgR Γ = ({ frames := 4, cells := 0, slots := 0, locals := 171 } : Room)) {P : va_W → Prop} (Rt : jRt Γ cX1_takeBack 2 0 0 none (jPv P)) {w : va_W} {a0 : Nat} {a1 : Nat} (h : w_X1_takeBack_b0 (jgE Γ).2.2.2 w a0 a1 P) : J Γ 2 w 0 0 0 [(0, .ref a0), (1, .ref a1)] [] := by
  unfold w_X1_takeBack_b0 at h
  refine j_aload_n X dX1_takeBack_0 0 rfl ?_
  refine j_aload_n X dX1_takeBack_1 0 rfl ?_
  obtain ⟨fs1, v1, g1, i1, h⟩ := h
  refine j_get X (ci := 5) (C := RX1) (T := TX1) (N := 3) rfl jin_X1 1 (by decide) g1 i1 jw_213 rfl dX1_takeBack_2 ?_
  refine j_bipush X 8 dX1_takeBack_5 (by decide) ?_
  refine j_iadd X dX1_takeBack_7 ?_
  refine j_iconst X 1 dX1_takeBack_8 (by decide) ?_
  refine j_isub X dX1_takeBack_9 ?_
  refine j_bipush X 8 dX1_takeBack_10 (by decide) ?_
  refine j_irem X dX1_takeBack_12 (by decide) ?_
  obtain ⟨fs2, g2, i2, h⟩ := h
  refine j_put X (ci := 5) (C := RX1) (T := TX1) (N := 3) rfl jin_X1 tyX1 tyX1_ok nmX1 1 (by decide) g2 jw_213 rfl rfl (by rfl) (by rfl) i2 dX1_takeBack_13 ?_
  generalize jst w a0 _ = w2 at h ⊢
  refine j_aload_n X dX1_takeBack_16 0 rfl ?_
  obtain ⟨fs3, v3, g3, i3, h⟩ := h
  refine j_get X (ci := 5) (C := RX1) (T := TX1) (N := 3) rfl jin_X1 1 (by decide) g3 i3 jw_213 rfl dX1_takeBack_17 ?_
  refine j_if_lt X 60 dX1_takeBack_20 (by decide) (fun c => ?_) (fun c => ?_)
  · replace h := jif_t c h
    refine j_sub [0] rfl ?_
    exact k_X1_takeBack_b60 X hR Rt h
  · replace h := jif_f c h
    refine j_aload_n X dX1_takeBack_23 0 rfl ?_
    obtain ⟨fs4, v4, g4, i4, h⟩ := h
    refine j_get X (ci := 5) (C := RX1) (T := TX1) (N := 3) rfl jin_X1 1 (by decide) g4 i4 jw_213 rfl dX1_takeBack_24 ?_
    refine j_aload_n X dX1_takeBack_27 0 rfl ?_
    obtain ⟨fs5, r5, g5, i5, h⟩ := h
    refine j_get X (ci := 5) (C := RX1) (T := TX1) (N := 3) rfl jin_X1 0 (by decide) g5 i5 jw_212 rfl dX1_takeBack_28 ?_
    obtain ⟨t6, n6, q6, j6, g6, h⟩ := h
    refine j_alen X j6 g6 dX1_takeBack_31 ?_
    generalize Int32.ofNat n6 = v6 at h ⊢
    refine j_icmp_ge X 60 dX1_takeBack_32 (by decide) (fun c => ?_) (fun c => ?_)
    · replace h := jif_t c h
      refine j_sub [0] rfl ?_
      exact k_X1_takeBack_b60 X hR Rt h
    · replace h := jif_f c h
      refine j_aload_n X dX1_takeBack_35 0 rfl ?_
      obtain ⟨fs7, r7, g7, i7, h⟩ := h
      refine j_get X (ci := 5) (C := RX1) (T := TX1) (N := 3) rfl jin_X1 0 (by decide) g7 i7 jw_212 rfl dX1_takeBack_36 ?_
      refine j_aload_n X dX1_takeBack_39 0 rfl ?_
      obtain ⟨fs8, v8, g8, i8, h⟩ := h
      refine j_get X (ci := 5) (C := RX1) (T := TX1) (N := 3) rfl jin_X1 1 (by decide) g8 i8 jw_213 rfl dX1_takeBack_40 ?_
      obtain ⟨n9, r9, f9, g9, i9, j9, h⟩ := h
      refine j_aald X g9 i9 j9 dX1_takeBack_43 ?_
      refine j_ifnull X dX1_takeBack_44 ?_
      refine j_aload_n X dX1_takeBack_47 1 rfl ?_
      refine j_aload_n X dX1_takeBack_48 0 rfl ?_
      obtain ⟨fs10, r10, g10, i10, h⟩ := h
      refine j_get X (ci := 5) (C := RX1) (T := TX1) (N := 3) rfl jin_X1 0 (by decide) g10 i10 jw_212 rfl dX1_takeBack_49 ?_
      refine j_aload_n X dX1_takeBack_52 0 rfl ?_
      obtain ⟨fs11, v11, g11, i11, h⟩ := h
      refine j_get X (ci := 5) (C := RX1) (T := TX1) (N := 3) rfl jin_X1 1 (by decide) g11 i11 jw_213 rfl dX1_takeBack_53 ?_
      obtain ⟨n12, r12, f12, g12, i12, j12, h⟩ := h
      refine j_aald X g12 i12 j12 dX1_takeBack_56 ?_
      obtain ⟨⟨fs13, g13⟩, h⟩ := h
      refine j_callVv X [.ref r12] [] (c_X5_copyFrom h) (T := TX5) (N := 12) g13 rfl jm_X5_copyFrom jw_547 rfl ⟨rfl, rfl⟩ (by rw [hR]; decide) rfl (Nat.le_of_ble_eq_true rfl) dX1_takeBack_57 (fun w13 h => ?_)
      refine j_sub [0] rfl ?_
      exact k_X1_takeBack_b60 X hR Rt h
def w_X1_takeBack (κ : Nat → Nat) (w : va_W) (a0 : Nat) (a1 : Nat) (P : va_W → Prop) : Prop := w_X1_takeBack_b0 κ w a0 a1 P
theorem c_X1_takeBack {E : jE} {w : va_W} {a0 : Nat} {a1 : Nat} {P : va_W → Prop} (h : w_X1_takeBack E.2.2.2 w a0 a1 P) : jC E yX1_takeBack cX1_takeBack 2 none ({ frames := 4, cells := 0, slots := 0, locals := 171 } : Room) [.ref a0, .ref a1] w 0 0 (jPv P) := by
  refine jC_of (by decide) (Nat.le_of_ble_eq_true rfl) ?_
  intro Γ X hE hR Rt
  subst hE
  exact k_X1_takeBack_b0 X hR Rt h
theorem jm_X1_forget : jMv yX1_forget cX1_forget 1 none 0 := ⟨jw_1147, jw_1148, jw_29, jw_1149, ⟨by decide +kernel, by decide +kernel⟩, by decide +kernel⟩
def w_X1_forget_b0 (κ : Nat → Nat) (w : va_W) (a0 : Nat) (P : va_W → Prop) : Prop :=
    (jpV w a0 5 2 (.int 0) (fun w1 => P w1))
set_option maxRecDepth 100000 in
set_option maxHeartbeats 4000000 in
theorem k_X1_forget_b0 {Γ : jG} (X : jX Γ cX1_forget 1 RX1) (hR : jgR Γ = ({ frames := 0, cells := 0, slots := 0, locals := 0 } : Room)) {P : va_W → Prop} (Rt : jRt Γ cX1_forget 1 0 0 none (jPv P)) {w : va_W} {a0 : Nat} (h : w_X1_forget_b0 (jgE Γ).2.2.2 w a0 P) : J Γ 1 w 0 0 0 [(0, .ref a0)] [] := by
  unfold w_X1_forget_b0 at h
  refine j_aload_n X dX1_forget_0 0 rfl ?_
  refine j_iconst X 0 dX1_forget_1 (by decide) ?_
  obtain ⟨fs1, g1, i1, h⟩ := h
  refine j_put X (ci := 5) (C := RX1) (T := TX1) (N := 3) rfl jin_X1 tyX1 tyX1_ok nmX1 2 (by decide) g1 jw_214 rfl rfl (by rfl) (by rfl) i1 dX1_forget_2 ?_
  generalize jst w a0 _ = w1 at h ⊢
  exact Rt.v dX1_forget_5 ⟨rfl, h⟩ (by first | decide | omega) (by first | decide | omega)
def w_X1_forget (κ : Nat → Nat) (w : va_W) (a0 : Nat) (P : va_W → Prop) : Prop := w_X1_forget_b0 κ w a0 P
theorem c_X1_forget {E : jE} {w : va_W} {a0 : Nat} {P : va_W → Prop} (h : w_X1_forget E.2.2.2 w a0 P) : jC E yX1_forget cX1_forget 1 none ({ frames := 0, cells := 0, slots := 0, locals := 0 } : Room) [.ref a0] w 0 0 (jPv P) := by
  refine jC_of (by decide) (Nat.le_of_ble_eq_true rfl) ?_
  intro Γ X hE hR Rt
  subst hE
  exact k_X1_forget_b0 X hR Rt h
theorem jm_X3_fill : jMv yX3_fill cX3_fill 2 none 1 := ⟨jw_1440, jw_1441, jw_24, jw_1442, ⟨by decide +kernel, by decide +kernel⟩, by decide +kernel⟩
def w_X3_fill_b0 (κ : Nat → Nat) (w : va_W) (a0 : Nat) (x1 : Int32) (P : va_W → Prop) : Prop :=
    jgR' w a0 6 0 (fun r1 => w_J7_fill_53178 κ w r1 x1 (fun w2 => P w2))
set_option maxRecDepth 100000 in
set_option maxHeartbeats 4000000 in
theorem k_X3_fill_b0 {Γ : jG} (X : jX Γ cX3_fill 2 RX3) (hR : jgR Γ = ({ frames := 1, cells := 0, slots := 0, locals := 23 } : Room)) {P : va_W → Prop} (Rt : jRt Γ cX3_fill 2 0 0 none (jPv P)) {w : va_W} {a0 : Nat} {x1 : Int32} (h : w_X3_fill_b0 (jgE Γ).2.2.2 w a0 x1 P) : J Γ 2 w 0 0 0 [(0, .ref a0), (1, .int x1)] [] := by
  unfold w_X3_fill_b0 at h
  refine j_aload_n X dX3_fill_0 0 rfl ?_
  obtain ⟨fs1, r1, g1, i1, h⟩ := h
  refine j_get X (ci := 6) (C := RX3) (T := TX3) (N := 1) rfl jin_X3 0 (by decide) g1 i1 jw_77 rfl dX3_fill_1 ?_
  refine j_iload_n X dX3_fill_4 1 rfl ?_
  refine j_callSv X [.ref r1, .int x1] [] (c_J7_fill_53178 h) jm_J7_fill_53178 jw_74 rfl ⟨rfl, rfl⟩ (by rw [hR]; decide) rfl (Nat.le_of_ble_eq_true rfl) dX3_fill_5 (fun w2 h => ?_)
  exact Rt.v dX3_fill_8 ⟨rfl, h⟩ (by first | decide | omega) (by first | decide | omega)
def w_X3_fill (κ : Nat → Nat) (w : va_W) (a0 : Nat) (x1 : Int32) (P : va_W → Prop) : Prop := w_X3_fill_b0 κ w a0 x1 P
theorem c_X3_fill {E : jE} {w : va_W} {a0 : Nat} {x1 : Int32} {P : va_W → Prop} (h : w_X3_fill E.2.2.2 w a0 x1 P) : jC E yX3_fill cX3_fill 2 none ({ frames := 1, cells := 0, slots := 0, locals := 23 } : Room) [.ref a0, .int x1] w 0 0 (jPv P) := by
  refine jC_of (by decide) (Nat.le_of_ble_eq_true rfl) ?_
  intro Γ X hE hR Rt
  subst hE
  exact k_X3_fill_b0 X hR Rt h
theorem jmi_J5_init_d00df : jMi yJ5_init_d00df cJ5_init_d00df 2 1 := ⟨jw_235, jw_31, jw_236, ⟨by decide +kernel, by decide +kernel⟩, by decide +kernel, rfl⟩
def w_J5_init_d00df_b38 (κ : Nat → Nat) (w : va_W) (P : va_W → Prop) : Prop :=
    P w
set_option maxRecDepth 100000 in
set_option maxHeartbeats 4000000 in
theorem k_J5_init_d00df_b38 {Γ : jG} (hNm : (jgM Γ).name = "<init>") (X : jX Γ cJ5_init_d00df 2 RJ5) (hR : jgR Γ = ({ frames := 1, cells := 1, slots := 16, locals := 20 } : Room)) {P : va_W → Prop} (Rt : jRt Γ cJ5_init_d00df 2 1 16 none (jPv P)) {w : va_W} (h : w_J5_init_d00df_b38 (jgE Γ).2.2.2 w  P) : J Γ 2 w 1 16 38 [] [] := by
  unfold w_J5_init_d00df_b38 at h
  exact Rt.v dJ5_init_d00df_38 ⟨rfl, h⟩ (by first | decide | omega) (by first | decide | omega)
def w_J5_init_d00df_b0 (κ : Nat → Nat) (w : va_W) (a0 : Nat) (x1 : Int32) (P : va_W → Prop) : Prop :=
    (¬ x1 < 0 ∧ Int32.toNatClampNeg x1 ≤ 16 ∧ ∀ q1 : Nat, jlk w q1 = none → (fun w1 => (jpV w1 a0 1 0 (.ref q1) (fun w2 => (jpV w2 a0 1 1 (.int 0) (fun w3 => w_J5_init_d00df_b38 κ w3  P))))) (w ++ [(q1, .inl (1, Int32.toNatClampNeg x1, .inl (fun _ => 0)))]))
set_option maxRecDepth 100000 in
set_option maxHeartbeats 4000000 in
theorem k_J5_init_d00df_b0 {Γ : jG} (hNm : (jgM Γ).name = "<init>") (X : jX Γ cJ5_init_d00df 2 RJ5) (hR : jgR Γ = ({ frames := 1, cells := 1, slots := 16, locals := 20 } : Room)) {P : va_W → Prop} (Rt : jRt Γ cJ5_init_d00df 2 1 16 none (jPv P)) {w : va_W} {a0 : Nat} {x1 : Int32} (h : w_J5_init_d00df_b0 (jgE Γ).2.2.2 w a0 x1 P) : J Γ 2 w 0 0 0 [(0, .ref a0), (1, .int x1)] [] := by
  unfold w_J5_init_d00df_b0 at h
  refine j_aload_n X dJ5_init_d00df_0 0 rfl ?_
  refine j_objInit X jw_237 jw_60 jw_61 (by rw [hR]; exact ⟨by decide, Nat.le_of_ble_eq_true rfl⟩) dJ5_init_d00df_1 ?_
  refine j_getsC X jw_238 dJ5_init_d00df_4 ?_
  refine j_if_eq X 25 dJ5_init_d00df_7 (by decide) (fun c => absurd c (by decide)) (fun _ => ?_)
  refine j_aload_n X dJ5_init_d00df_10 0 rfl ?_
  refine j_iload_n X dJ5_init_d00df_11 1 rfl ?_
  refine j_newa X (N := Int32.toNatClampNeg x1) 1 (by decide) rfl jw_261 h.1 rfl (Nat.le_trans h.2.1 (by decide)) (by rw [hR]; exact ⟨by simp only []; omega, by have := h.2.1; simp only []; omega⟩) dJ5_init_d00df_12 (fun q1 e1 => ?_)
  refine j_widen (n := 0 + 16) (Nat.le_refl _) (Nat.add_le_add_left h.2.1 _) ?_
  replace h := h.2.2 q1 e1
  generalize w ++ [(q1, _)] = w1 at h ⊢
  obtain ⟨fs2, g2, i2, h⟩ := h
  refine j_put X (ci := 1) (C := RJ4) (T := TJ4) (N := 4) rfl jin_J4 tyJ4 tyJ4_ok nmJ4 0 (by decide) g2 jw_247 rfl rfl (by rfl) (by rfl) i2 dJ5_init_d00df_14 ?_
  generalize jst w1 a0 _ = w2 at h ⊢
  refine j_aload_n X dJ5_init_d00df_17 0 rfl ?_
  refine j_iconst X 0 dJ5_init_d00df_18 (by decide) ?_
  obtain ⟨fs3, g3, i3, h⟩ := h
  refine j_put X (ci := 1) (C := RJ4) (T := TJ4) (N := 4) rfl jin_J4 tyJ4 tyJ4_ok nmJ4 1 (by decide) g3 jw_248 rfl rfl (by decide) (by decide) i3 dJ5_init_d00df_19 ?_
  generalize jst w2 a0 _ = w3 at h ⊢
  refine j_goto X 38 dJ5_init_d00df_22 (by decide) ?_
  refine j_sub [] rfl ?_
  refine j_widen (k := 1) (n := 16) (by decide) (by decide) ?_
  exact k_J5_init_d00df_b38 hNm X hR Rt h
def w_J5_init_d00df (κ : Nat → Nat) (w : va_W) (a0 : Nat) (x1 : Int32) (P : va_W → Prop) : Prop := w_J5_init_d00df_b0 κ w a0 x1 P
theorem c_J5_init_d00df {E : jE} {w : va_W} {a0 : Nat} {x1 : Int32} {P : va_W → Prop} (h : w_J5_init_d00df E.2.2.2 w a0 x1 P) : jC E yJ5_init_d00df cJ5_init_d00df 2 none ({ frames := 1, cells := 1, slots := 16, locals := 20 } : Room) [.ref a0, .int x1] w 1 16 (jPv P) := by
  refine jC_ofN (by decide) (Nat.le_of_ble_eq_true rfl) ?_
  intro Γ hNm X hE hR Rt
  subst hE
  exact k_J5_init_d00df_b0 hNm X hR Rt h
theorem jmi_J4_init_da8c8 : jMi yJ4_init_da8c8 cJ4_init_da8c8 1 0 := ⟨jw_232, jw_32, jw_233, ⟨by decide +kernel, by decide +kernel⟩, by decide +kernel, rfl⟩
def w_J4_init_da8c8_b0 (κ : Nat → Nat) (w : va_W) (a0 : Nat) (P : va_W → Prop) : Prop :=
    w_J5_init_d00df κ w a0 16 (fun w1 => P w1)
set_option maxRecDepth 100000 in
set_option maxHeartbeats 4000000 in
theorem k_J4_init_da8c8_b0 {Γ : jG} (hNm : (jgM Γ).name = "<init>") (X : jX Γ cJ4_init_da8c8 1 RJ4) (hR : jgR Γ = ({ frames := 2, cells := 1, slots := 16, locals := 41 } : Room)) {P : va_W → Prop} (Rt : jRt Γ cJ4_init_da8c8 1 1 16 none (jPv P)) {w : va_W} {a0 : Nat} (h : w_J4_init_da8c8_b0 (jgE Γ).2.2.2 w a0 P) : J Γ 1 w 0 0 0 [(0, .ref a0)] [] := by
  unfold w_J4_init_da8c8_b0 at h
  refine j_aload_n X dJ4_init_da8c8_0 0 rfl ?_
  refine j_bipush X 16 dJ4_init_da8c8_1 (by decide) ?_
  refine j_callI X [.int 16] [] (c_J5_init_d00df h) jmi_J5_init_d00df jw_234 rfl ⟨rfl, rfl⟩ (by rw [hR]; decide) rfl (Nat.le_of_ble_eq_true rfl) dJ4_init_da8c8_3 (fun w1 h => ?_)
  exact Rt.v dJ4_init_da8c8_6 ⟨rfl, h⟩ (by first | decide | omega) (by first | decide | omega)
def w_J4_init_da8c8 (κ : Nat → Nat) (w : va_W) (a0 : Nat) (P : va_W → Prop) : Prop := w_J4_init_da8c8_b0 κ w a0 P
theorem c_J4_init_da8c8 {E : jE} {w : va_W} {a0 : Nat} {P : va_W → Prop} (h : w_J4_init_da8c8 E.2.2.2 w a0 P) : jC E yJ4_init_da8c8 cJ4_init_da8c8 1 none ({ frames := 2, cells := 1, slots := 16, locals := 41 } : Room) [.ref a0] w 1 16 (jPv P) := by
  refine jC_ofN (by decide) (Nat.le_of_ble_eq_true rfl) ?_
  intro Γ hNm X hE hR Rt
  subst hE
  exact k_J4_init_da8c8_b0 hNm X hR Rt h
theorem jmi_X4_init : jMi yX4_init cX4_init 1 0 := ⟨jw_226, jw_30, jw_227, ⟨by decide +kernel, by decide +kernel⟩, by decide +kernel, rfl⟩
def w_X4_init_b0 (κ : Nat → Nat) (w : va_W) (a0 : Nat) (P : va_W → Prop) : Prop :=
    (∀ q1 : Nat, jlk w q1 = none → (fun w1 => w_J4_init_da8c8 κ w1 q1 (fun w2 => (jpV w2 a0 7 0 (.ref q1) (fun w3 => (∀ q4 : Nat, jlk w3 q4 = none → (fun w4 => w_X3_init κ w4 q4 60 0 (fun w5 => (jpV w5 a0 7 1 (.ref q4) (fun w6 => (∀ q7 : Nat, jlk w6 q7 = none → (fun w7 => w_X3_init κ w7 q7 60 0 (fun w8 => (jpV w8 a0 7 2 (.ref q7) (fun w9 => (∀ q10 : Nat, jlk w9 q10 = none → (fun w10 => w_X3_init κ w10 q10 60 0 (fun w11 => (jpV w11 a0 7 3 (.ref q10) (fun w12 => (∀ q13 : Nat, jlk w12 q13 = none → (fun w13 => w_X3_init κ w13 q13 60 0 (fun w14 => (jpV w14 a0 7 4 (.ref q13) (fun w15 => (∀ q16 : Nat, jlk w15 q16 = none → (fun w16 => w_X3_init κ w16 q16 60 0 (fun w17 => (jpV w17 a0 7 5 (.ref q16) (fun w18 => P w18)))) (w15 ++ [(q16, .inr (6, [.null]))])))))) (w12 ++ [(q13, .inr (6, [.null]))])))))) (w9 ++ [(q10, .inr (6, [.null]))])))))) (w6 ++ [(q7, .inr (6, [.null]))])))))) (w3 ++ [(q4, .inr (6, [.null]))])))))) (w ++ [(q1, .inr (1, [.null, .int 0, .int 0, .int 0]))]))
set_option maxRecDepth 100000 in
set_option maxHeartbeats 4000000 in
theorem k_X4_init_b0 {Γ : jG} (hNm : (jgM Γ).name = "<init>") (X : jX Γ cX4_init 1 RX4) (hR : jgR Γ = ({ frames := 3, cells := 12, slots := 525, locals := 61 } : Room)) {P : va_W → Prop} (Rt : jRt Γ cX4_init 1 12 525 none (jPv P)) {w : va_W} {a0 : Nat} (h : w_X4_init_b0 (jgE Γ).2.2.2 w a0 P) : J Γ 1 w 0 0 0 [(0, .ref a0)] [] := by
  unfold w_X4_init_b0 at h
  refine j_aload_n X dX4_init_0 0 rfl ?_
  refine j_objInit X jw_228 jw_60 jw_61 (by rw [hR]; exact ⟨by decide, Nat.le_of_ble_eq_true rfl⟩) dX4_init_1 ?_
  refine j_aload_n X dX4_init_4 0 rfl ?_
  refine j_new X (C := RJ4) (T := TJ4) (N := 4) 1 [.null, .int 0, .int 0, .int 0] rfl jin_J4 tyJ4 tyJ4_ok jw_229 jw_230 jw_32 (fun j hj => by rcases (show j = 0 ∨ j = 1 ∨ j = 2 ∨ j = 3 by omega) with rfl | rfl | rfl | rfl <;> rfl) (by rw [hR]; exact ⟨by simp only []; omega, by simp only []; omega⟩) dX4_init_5 (fun q1 e1 => ?_)
  replace h := h q1 e1
  generalize w ++ [(q1, _)] = w1 at h ⊢
  refine j_dup X dX4_init_8 rfl ?_
  refine j_callI X [] [.ref q1, .ref a0] (c_J4_init_da8c8 h) jmi_J4_init_da8c8 jw_231 rfl ⟨rfl, rfl⟩ (by rw [hR]; decide) rfl (Nat.le_of_ble_eq_true rfl) dX4_init_9 (fun w2 h => ?_)
  obtain ⟨fs3, g3, i3, h⟩ := h
  refine j_putF X hNm (ci := 7) (C := RX4) (T := TX4) (N := 9) rfl jin_X4 tyX4 tyX4_ok nmX4 0 (by decide) g3 jw_264 rfl rfl rfl (by rfl) (by rfl) i3 dX4_init_12 ?_
  generalize jst w2 a0 _ = w3 at h ⊢
  refine j_aload_n X dX4_init_15 0 rfl ?_
  refine j_new X (C := RX3) (T := TX3) (N := 1) 6 [.null] rfl jin_X3 tyX3 tyX3_ok jw_262 jw_69 jw_24 (fun j hj => by rcases (show j = 0 by omega) with rfl <;> rfl) (by rw [hR]; exact ⟨by simp only []; omega, by simp only []; omega⟩) dX4_init_16 (fun q4 e4 => ?_)
  replace h := h q4 e4
  generalize w3 ++ [(q4, _)] = w4 at h ⊢
  refine j_dup X dX4_init_19 rfl ?_
  refine j_bipush X 60 dX4_init_20 (by decide) ?_
  refine j_iconst X 0 dX4_init_22 (by decide) ?_
  refine j_callI X [.int 60, .int 0] [.ref q4, .ref a0] (c_X3_init h) jmi_X3_init jw_263 rfl ⟨rfl, rfl⟩ (by rw [hR]; decide) rfl (Nat.le_of_ble_eq_true rfl) dX4_init_23 (fun w5 h => ?_)
  obtain ⟨fs6, g6, i6, h⟩ := h
  refine j_putF X hNm (ci := 7) (C := RX4) (T := TX4) (N := 9) rfl jin_X4 tyX4 tyX4_ok nmX4 1 (by decide) g6 jw_265 rfl rfl rfl (by rfl) (by rfl) i6 dX4_init_26 ?_
  generalize jst w5 a0 _ = w6 at h ⊢
  refine j_aload_n X dX4_init_29 0 rfl ?_
  refine j_new X (C := RX3) (T := TX3) (N := 1) 6 [.null] rfl jin_X3 tyX3 tyX3_ok jw_262 jw_69 jw_24 (fun j hj => by rcases (show j = 0 by omega) with rfl <;> rfl) (by rw [hR]; exact ⟨by simp only []; omega, by simp only []; omega⟩) dX4_init_30 (fun q7 e7 => ?_)
  replace h := h q7 e7
  generalize w6 ++ [(q7, _)] = w7 at h ⊢
  refine j_dup X dX4_init_33 rfl ?_
  refine j_bipush X 60 dX4_init_34 (by decide) ?_
  refine j_iconst X 0 dX4_init_36 (by decide) ?_
  refine j_callI X [.int 60, .int 0] [.ref q7, .ref a0] (c_X3_init h) jmi_X3_init jw_263 rfl ⟨rfl, rfl⟩ (by rw [hR]; decide) rfl (Nat.le_of_ble_eq_true rfl) dX4_init_37 (fun w8 h => ?_)
  obtain ⟨fs9, g9, i9, h⟩ := h
  refine j_putF X hNm (ci := 7) (C := RX4) (T := TX4) (N := 9) rfl jin_X4 tyX4 tyX4_ok nmX4 2 (by decide) g9 jw_267 rfl rfl rfl (by rfl) (by rfl) i9 dX4_init_40 ?_
  generalize jst w8 a0 _ = w9 at h ⊢
  refine j_aload_n X dX4_init_43 0 rfl ?_
  refine j_new X (C := RX3) (T := TX3) (N := 1) 6 [.null] rfl jin_X3 tyX3 tyX3_ok jw_262 jw_69 jw_24 (fun j hj => by rcases (show j = 0 by omega) with rfl <;> rfl) (by rw [hR]; exact ⟨by simp only []; omega, by simp only []; omega⟩) dX4_init_44 (fun q10 e10 => ?_)
  replace h := h q10 e10
  generalize w9 ++ [(q10, _)] = w10 at h ⊢
  refine j_dup X dX4_init_47 rfl ?_
  refine j_bipush X 60 dX4_init_48 (by decide) ?_
  refine j_iconst X 0 dX4_init_50 (by decide) ?_
  refine j_callI X [.int 60, .int 0] [.ref q10, .ref a0] (c_X3_init h) jmi_X3_init jw_263 rfl ⟨rfl, rfl⟩ (by rw [hR]; decide) rfl (Nat.le_of_ble_eq_true rfl) dX4_init_51 (fun w11 h => ?_)
  obtain ⟨fs12, g12, i12, h⟩ := h
  refine j_putF X hNm (ci := 7) (C := RX4) (T := TX4) (N := 9) rfl jin_X4 tyX4 tyX4_ok nmX4 3 (by decide) g12 jw_269 rfl rfl rfl (by rfl) (by rfl) i12 dX4_init_54 ?_
  generalize jst w11 a0 _ = w12 at h ⊢
  refine j_aload_n X dX4_init_57 0 rfl ?_
  refine j_new X (C := RX3) (T := TX3) (N := 1) 6 [.null] rfl jin_X3 tyX3 tyX3_ok jw_262 jw_69 jw_24 (fun j hj => by rcases (show j = 0 by omega) with rfl <;> rfl) (by rw [hR]; exact ⟨by simp only []; omega, by simp only []; omega⟩) dX4_init_58 (fun q13 e13 => ?_)
  replace h := h q13 e13
  generalize w12 ++ [(q13, _)] = w13 at h ⊢
  refine j_dup X dX4_init_61 rfl ?_
  refine j_bipush X 60 dX4_init_62 (by decide) ?_
  refine j_iconst X 0 dX4_init_64 (by decide) ?_
  refine j_callI X [.int 60, .int 0] [.ref q13, .ref a0] (c_X3_init h) jmi_X3_init jw_263 rfl ⟨rfl, rfl⟩ (by rw [hR]; decide) rfl (Nat.le_of_ble_eq_true rfl) dX4_init_65 (fun w14 h => ?_)
  obtain ⟨fs15, g15, i15, h⟩ := h
  refine j_putF X hNm (ci := 7) (C := RX4) (T := TX4) (N := 9) rfl jin_X4 tyX4 tyX4_ok nmX4 4 (by decide) g15 jw_271 rfl rfl rfl (by rfl) (by rfl) i15 dX4_init_68 ?_
  generalize jst w14 a0 _ = w15 at h ⊢
  refine j_aload_n X dX4_init_71 0 rfl ?_
  refine j_new X (C := RX3) (T := TX3) (N := 1) 6 [.null] rfl jin_X3 tyX3 tyX3_ok jw_262 jw_69 jw_24 (fun j hj => by rcases (show j = 0 by omega) with rfl <;> rfl) (by rw [hR]; exact ⟨by simp only []; omega, by simp only []; omega⟩) dX4_init_72 (fun q16 e16 => ?_)
  replace h := h q16 e16
  generalize w15 ++ [(q16, _)] = w16 at h ⊢
  refine j_dup X dX4_init_75 rfl ?_
  refine j_bipush X 60 dX4_init_76 (by decide) ?_
  refine j_iconst X 0 dX4_init_78 (by decide) ?_
  refine j_callI X [.int 60, .int 0] [.ref q16, .ref a0] (c_X3_init h) jmi_X3_init jw_263 rfl ⟨rfl, rfl⟩ (by rw [hR]; decide) rfl (Nat.le_of_ble_eq_true rfl) dX4_init_79 (fun w17 h => ?_)
  obtain ⟨fs18, g18, i18, h⟩ := h
  refine j_putF X hNm (ci := 7) (C := RX4) (T := TX4) (N := 9) rfl jin_X4 tyX4 tyX4_ok nmX4 5 (by decide) g18 jw_273 rfl rfl rfl (by rfl) (by rfl) i18 dX4_init_82 ?_
  generalize jst w17 a0 _ = w18 at h ⊢
  exact Rt.v dX4_init_85 ⟨rfl, h⟩ (by first | decide | omega) (by first | decide | omega)
def w_X4_init (κ : Nat → Nat) (w : va_W) (a0 : Nat) (P : va_W → Prop) : Prop := w_X4_init_b0 κ w a0 P
theorem c_X4_init {E : jE} {w : va_W} {a0 : Nat} {P : va_W → Prop} (h : w_X4_init E.2.2.2 w a0 P) : jC E yX4_init cX4_init 1 none ({ frames := 3, cells := 12, slots := 525, locals := 61 } : Room) [.ref a0] w 12 525 (jPv P) := by
  refine jC_ofN (by decide) (Nat.le_of_ble_eq_true rfl) ?_
  intro Γ hNm X hE hR Rt
  subst hE
  exact k_X4_init_b0 hNm X hR Rt h
def w_J5_length_8abf5_b0 (κ : Nat → Nat) (w : va_W) (a0 : Nat) (P : Int32 → va_W → Prop) : Prop :=
    jgI w a0 1 3 (fun v1 => P v1 w)
set_option maxRecDepth 100000 in
set_option maxHeartbeats 4000000 in
theorem k_J5_length_8abf5_b0 {Γ : jG} (X : jX Γ cJ5_length_8abf5 1 RJ5) (hR : jgR Γ = ({ frames := 0, cells := 0, slots := 0, locals := 0 } : Room)) {P : Int32 → va_W → Prop} (Rt : jRt Γ cJ5_length_8abf5 1 0 0 (some .int) (jPi P)) {w : va_W} {a0 : Nat} (h : w_J5_length_8abf5_b0 (jgE Γ).2.2.2 w a0 P) : J Γ 1 w 0 0 0 [(0, .ref a0)] [] := by
  unfold w_J5_length_8abf5_b0 at h
  refine j_aload_n X dJ5_length_8abf5_0 0 rfl ?_
  obtain ⟨fs1, v1, g1, i1, h⟩ := h
  refine j_get X (ci := 1) (C := RJ4) (T := TJ4) (N := 4) rfl jin_J4 3 (by decide) g1 i1 jw_251 rfl dJ5_length_8abf5_1 ?_
  exact Rt.i dJ5_length_8abf5_4 ⟨_, rfl, h⟩ (by first | decide | omega) (by first | decide | omega)
def w_J5_length_8abf5 (κ : Nat → Nat) (w : va_W) (a0 : Nat) (P : Int32 → va_W → Prop) : Prop := w_J5_length_8abf5_b0 κ w a0 P
theorem c_J5_length_8abf5 {E : jE} {w : va_W} {a0 : Nat} {P : Int32 → va_W → Prop} (h : w_J5_length_8abf5 E.2.2.2 w a0 P) : jC E yJ5_length_8abf5 cJ5_length_8abf5 1 (some .int) ({ frames := 0, cells := 0, slots := 0, locals := 0 } : Room) [.ref a0] w 0 0 (jPi P) := by
  refine jC_of (by decide) (Nat.le_of_ble_eq_true rfl) ?_
  intro Γ X hE hR Rt
  subst hE
  exact k_J5_length_8abf5_b0 X hR Rt h
theorem jm_J4_length_8abf5 : jMv yJ4_length_8abf5 cJ4_length_8abf5 1 (some .int) 0 := ⟨jw_718, jw_719, jw_32, jw_720, ⟨by decide +kernel, by decide +kernel⟩, by decide +kernel⟩
theorem jmz_J5_length_8abf5 : jMz yJ5_length_8abf5 cJ5_length_8abf5 1 (some .int) 0 RJ4 := ⟨jw_722, jw_260, jw_31, jw_723, by decide +kernel, by decide +kernel, jw_1552⟩
def w_J4_length_8abf5_b0 (κ : Nat → Nat) (w : va_W) (a0 : Nat) (P : Int32 → va_W → Prop) : Prop :=
    (jRc w a0 1 ∧ w_J5_length_8abf5 κ w a0 (fun v1 w1 => P v1 w1))
set_option maxRecDepth 100000 in
set_option maxHeartbeats 4000000 in
theorem k_J4_length_8abf5_b0 {Γ : jG} (X : jX Γ cJ4_length_8abf5 1 RJ4) (hR : jgR Γ = ({ frames := 1, cells := 0, slots := 0, locals := 20 } : Room)) {P : Int32 → va_W → Prop} (Rt : jRt Γ cJ4_length_8abf5 1 0 0 (some .int) (jPi P)) {w : va_W} {a0 : Nat} (h : w_J4_length_8abf5_b0 (jgE Γ).2.2.2 w a0 P) : J Γ 1 w 0 0 0 [(0, .ref a0)] [] := by
  unfold w_J4_length_8abf5_b0 at h
  refine j_aload_n X dJ4_length_8abf5_0 0 rfl ?_
  obtain ⟨⟨fs1, g1⟩, h⟩ := h
  refine j_callZi X [] [] (c_J5_length_8abf5 h) (C := RJ4) (T := TJ4) (N := 4) g1 rfl jmz_J5_length_8abf5 jw_721 rfl ⟨rfl, rfl⟩ (by rw [hR]; decide) rfl (Nat.le_of_ble_eq_true rfl) dJ4_length_8abf5_1 (fun v1 w1 h => ?_)
  exact Rt.i dJ4_length_8abf5_4 ⟨_, rfl, h⟩ (by first | decide | omega) (by first | decide | omega)
def w_J4_length_8abf5 (κ : Nat → Nat) (w : va_W) (a0 : Nat) (P : Int32 → va_W → Prop) : Prop := w_J4_length_8abf5_b0 κ w a0 P
theorem c_J4_length_8abf5 {E : jE} {w : va_W} {a0 : Nat} {P : Int32 → va_W → Prop} (h : w_J4_length_8abf5 E.2.2.2 w a0 P) : jC E yJ4_length_8abf5 cJ4_length_8abf5 1 (some .int) ({ frames := 1, cells := 0, slots := 0, locals := 20 } : Room) [.ref a0] w 0 0 (jPi P) := by
  refine jC_of (by decide) (Nat.le_of_ble_eq_true rfl) ?_
  intro Γ X hE hR Rt
  subst hE
  exact k_J4_length_8abf5_b0 X hR Rt h
theorem jm_X4_length : jMv yX4_length cX4_length 1 (some .int) 0 := ⟨jw_1164, jw_1165, jw_30, jw_1166, ⟨by decide +kernel, by decide +kernel⟩, by decide +kernel⟩
def w_X4_length_b0 (κ : Nat → Nat) (w : va_W) (a0 : Nat) (P : Int32 → va_W → Prop) : Prop :=
    jgR' w a0 7 0 (fun r1 => (jRc w r1 1 ∧ w_J4_length_8abf5 κ w r1 (fun v2 w2 => P v2 w2)))
set_option maxRecDepth 100000 in
set_option maxHeartbeats 4000000 in
theorem k_X4_length_b0 {Γ : jG} (X : jX Γ cX4_length 1 RX4) (hR : jgR Γ = ({ frames := 2, cells := 0, slots := 0, locals := 40 } : Room)) {P : Int32 → va_W → Prop} (Rt : jRt Γ cX4_length 1 0 0 (some .int) (jPi P)) {w : va_W} {a0 : Nat} (h : w_X4_length_b0 (jgE Γ).2.2.2 w a0 P) : J Γ 1 w 0 0 0 [(0, .ref a0)] [] := by
  unfold w_X4_length_b0 at h
  refine j_aload_n X dX4_length_0 0 rfl ?_
  obtain ⟨fs1, r1, g1, i1, h⟩ := h
  refine j_get X (ci := 7) (C := RX4) (T := TX4) (N := 9) rfl jin_X4 0 (by decide) g1 i1 jw_264 rfl dX4_length_1 ?_
  obtain ⟨⟨fs2, g2⟩, h⟩ := h
  refine j_callVi X [] [] (c_J4_length_8abf5 h) (T := TJ4) (N := 4) g2 rfl jm_J4_length_8abf5 jw_717 rfl ⟨rfl, rfl⟩ (by rw [hR]; decide) rfl (Nat.le_of_ble_eq_true rfl) dX4_length_4 (fun v2 w2 h => ?_)
  exact Rt.i dX4_length_7 ⟨_, rfl, h⟩ (by first | decide | omega) (by first | decide | omega)
def w_X4_length (κ : Nat → Nat) (w : va_W) (a0 : Nat) (P : Int32 → va_W → Prop) : Prop := w_X4_length_b0 κ w a0 P
theorem c_X4_length {E : jE} {w : va_W} {a0 : Nat} {P : Int32 → va_W → Prop} (h : w_X4_length E.2.2.2 w a0 P) : jC E yX4_length cX4_length 1 (some .int) ({ frames := 2, cells := 0, slots := 0, locals := 40 } : Room) [.ref a0] w 0 0 (jPi P) := by
  refine jC_of (by decide) (Nat.le_of_ble_eq_true rfl) ?_
  intro Γ X hE hR Rt
  subst hE
  exact k_X4_length_b0 X hR Rt h
theorem jm_J8_newLength_cabcc : jMs yJ8_newLength_cabcc cJ8_newLength_cabcc 4 (some .int) 3 := ⟨jw_864, jw_49, jw_865, ⟨by decide +kernel, by decide +kernel⟩, by decide +kernel⟩
def w_J8_newLength_cabcc_b21 (κ : Nat → Nat) (w : va_W) (x0 : Int32) (x1 : Int32) (P : Int32 → va_W → Prop) : Prop :=
    False
set_option maxRecDepth 100000 in
set_option maxHeartbeats 4000000 in
theorem k_J8_newLength_cabcc_b21 {Γ : jG} (X : jX Γ cJ8_newLength_cabcc 4 RJ8) (hR : jgR Γ = ({ frames := 1, cells := 0, slots := 0, locals := 21 } : Room)) {P : Int32 → va_W → Prop} (Rt : jRt Γ cJ8_newLength_cabcc 4 0 0 (some .int) (jPi P)) {w : va_W} {x0 : Int32} {x1 : Int32} (h : w_J8_newLength_cabcc_b21 (jgE Γ).2.2.2 w x0 x1 P) : J Γ 4 w 0 0 21 [(0, .int x0), (1, .int x1)] [] := by
  unfold w_J8_newLength_cabcc_b21 at h
  refine j_iload_n X dJ8_newLength_cabcc_21 0 rfl ?_
  refine j_iload_n X dJ8_newLength_cabcc_22 1 rfl ?_
  exact h.elim
def w_J8_newLength_cabcc_b0 (κ : Nat → Nat) (w : va_W) (x0 : Int32) (x1 : Int32) (x2 : Int32) (P : Int32 → va_W → Prop) : Prop :=
    (if (x0 + (jmax x1 x2)) ≤ 0 then w_J8_newLength_cabcc_b21 κ w x0 x1 P else (if 2147483639 < (x0 + (jmax x1 x2)) then w_J8_newLength_cabcc_b21 κ w x0 x1 P else P (x0 + (jmax x1 x2)) w))
set_option maxRecDepth 100000 in
set_option maxHeartbeats 4000000 in
theorem k_J8_newLength_cabcc_b0 {Γ : jG} (X : jX Γ cJ8_newLength_cabcc 4 RJ8) (hR : jgR Γ = ({ frames := 1, cells := 0, slots := 0, locals := 21 } : Room)) {P : Int32 → va_W → Prop} (Rt : jRt Γ cJ8_newLength_cabcc 4 0 0 (some .int) (jPi P)) {w : va_W} {x0 : Int32} {x1 : Int32} {x2 : Int32} (h : w_J8_newLength_cabcc_b0 (jgE Γ).2.2.2 w x0 x1 x2 P) : J Γ 4 w 0 0 0 [(0, .int x0), (1, .int x1), (2, .int x2)] [] := by
  unfold w_J8_newLength_cabcc_b0 at h
  refine j_iload_n X dJ8_newLength_cabcc_0 0 rfl ?_
  refine j_iload_n X dJ8_newLength_cabcc_1 1 rfl ?_
  refine j_iload_n X dJ8_newLength_cabcc_2 2 rfl ?_
  refine j_mmax X jw_866 jw_867 jw_45 jw_868 (by rw [hR]; exact ⟨⟨by decide, Nat.le_of_ble_eq_true rfl⟩, by decide, by decide⟩) dJ8_newLength_cabcc_3 ?_
  refine j_iadd X dJ8_newLength_cabcc_6 ?_
  refine j_istore_n X [(3, .int (x0 + (jmax x1 x2))), (0, .int x0), (1, .int x1), (2, .int x2)] dJ8_newLength_cabcc_7 (by decide) rfl ?_
  refine j_iconst X 0 dJ8_newLength_cabcc_8 (by decide) ?_
  refine j_iload_n X dJ8_newLength_cabcc_9 0 rfl ?_
  refine j_icmp_ge X 21 dJ8_newLength_cabcc_10 (by decide) (fun c => ?_) (fun c => ?_)
  · replace h := jif_t c h
    refine j_sub [1, 2] rfl ?_
    exact k_J8_newLength_cabcc_b21 X hR Rt h
  · replace h := jif_f c h
    refine j_iload_n X dJ8_newLength_cabcc_13 0 rfl ?_
    refine j_ldc X dJ8_newLength_cabcc_14 jw_869 ?_
    refine j_icmp_gt X 21 dJ8_newLength_cabcc_16 (by decide) (fun c => ?_) (fun c => ?_)
    · replace h := jif_t c h
      refine j_sub [1, 2] rfl ?_
      exact k_J8_newLength_cabcc_b21 X hR Rt h
    · replace h := jif_f c h
      refine j_iload_n X dJ8_newLength_cabcc_19 0 rfl ?_
      exact Rt.i dJ8_newLength_cabcc_20 ⟨_, rfl, h⟩ (by first | decide | omega) (by first | decide | omega)
def w_J8_newLength_cabcc (κ : Nat → Nat) (w : va_W) (x0 : Int32) (x1 : Int32) (x2 : Int32) (P : Int32 → va_W → Prop) : Prop := w_J8_newLength_cabcc_b0 κ w x0 x1 x2 P
theorem c_J8_newLength_cabcc {E : jE} {w : va_W} {x0 : Int32} {x1 : Int32} {x2 : Int32} {P : Int32 → va_W → Prop} (h : w_J8_newLength_cabcc E.2.2.2 w x0 x1 x2 P) : jC E yJ8_newLength_cabcc cJ8_newLength_cabcc 4 (some .int) ({ frames := 1, cells := 0, slots := 0, locals := 21 } : Room) [.int x0, .int x1, .int x2] w 0 0 (jPi P) := by
  refine jC_of (by decide) (Nat.le_of_ble_eq_true rfl) ?_
  intro Γ X hE hR Rt
  subst hE
  exact k_J8_newLength_cabcc_b0 X hR Rt h
def w_J5_newCapacity_0f7a4_b0 (κ : Nat → Nat) (w : va_W) (a0 : Nat) (x1 : Int32) (P : Int32 → va_W → Prop) : Prop :=
    jgR' w a0 1 0 (fun r1 => jAl w r1 (fun v2 => jgI w a0 1 1 (fun v3 => jgI w a0 1 1 (fun v4 => w_J8_newLength_cabcc κ w v2 ((jshl x1 v3) - v2) (v2 + (jshl 2 v4)) (fun v5 w5 => (if v5 = 2147483647 then False else jgI w5 a0 1 1 (fun v6 => P (jshr v5 v6) w5)))))))
set_option maxRecDepth 100000 in
set_option maxHeartbeats 4000000 in
theorem k_J5_newCapacity_0f7a4_b0 {Γ : jG} (X : jX Γ cJ5_newCapacity_0f7a4 6 RJ5) (hR : jgR Γ = ({ frames := 2, cells := 1, slots := 6, locals := 44 } : Room)) {P : Int32 → va_W → Prop} (Rt : jRt Γ cJ5_newCapacity_0f7a4 6 1 6 (some .int) (jPi P)) {w : va_W} {a0 : Nat} {x1 : Int32} (h : w_J5_newCapacity_0f7a4_b0 (jgE Γ).2.2.2 w a0 x1 P) : J Γ 6 w 0 0 0 [(0, .ref a0), (1, .int x1)] [] := by
  unfold w_J5_newCapacity_0f7a4_b0 at h
  refine j_aload_n X dJ5_newCapacity_0f7a4_0 0 rfl ?_
  obtain ⟨fs1, r1, g1, i1, h⟩ := h
  refine j_get X (ci := 1) (C := RJ4) (T := TJ4) (N := 4) rfl jin_J4 0 (by decide) g1 i1 jw_247 rfl dJ5_newCapacity_0f7a4_1 ?_
  obtain ⟨t2, n2, q2, j2, g2, h⟩ := h
  refine j_alen X j2 g2 dJ5_newCapacity_0f7a4_4 ?_
  generalize Int32.ofNat n2 = v2 at h ⊢
  refine j_istore_n X [(2, .int v2), (0, .ref a0), (1, .int x1)] dJ5_newCapacity_0f7a4_5 (by decide) rfl ?_
  refine j_iload_n X dJ5_newCapacity_0f7a4_6 2 rfl ?_
  refine j_aload_n X dJ5_newCapacity_0f7a4_7 1 rfl ?_
  obtain ⟨fs3, v3, g3, i3, h⟩ := h
  refine j_get X (ci := 1) (C := RJ4) (T := TJ4) (N := 4) rfl jin_J4 1 (by decide) g3 i3 jw_248 rfl dJ5_newCapacity_0f7a4_8 ?_
  refine j_ishl X dJ5_newCapacity_0f7a4_11 ?_
  refine j_istore_n X [(3, .int (jshl x1 v3)), (2, .int v2), (0, .ref a0), (1, .int x1)] dJ5_newCapacity_0f7a4_12 (by decide) rfl ?_
  refine j_iload_n X dJ5_newCapacity_0f7a4_13 0 rfl ?_
  refine j_iload_n X dJ5_newCapacity_0f7a4_14 1 rfl ?_
  refine j_isub X dJ5_newCapacity_0f7a4_15 ?_
  refine j_istore X [(4, .int ((jshl x1 v3) - v2)), (3, .int (jshl x1 v3)), (2, .int v2), (0, .ref a0), (1, .int x1)] dJ5_newCapacity_0f7a4_16 (by decide) rfl ?_
  refine j_iload_n X dJ5_newCapacity_0f7a4_18 2 rfl ?_
  refine j_iload X dJ5_newCapacity_0f7a4_19 0 rfl ?_
  refine j_iload_n X dJ5_newCapacity_0f7a4_21 2 rfl ?_
  refine j_iconst X 2 dJ5_newCapacity_0f7a4_22 (by decide) ?_
  refine j_aload_n X dJ5_newCapacity_0f7a4_23 3 rfl ?_
  obtain ⟨fs4, v4, g4, i4, h⟩ := h
  refine j_get X (ci := 1) (C := RJ4) (T := TJ4) (N := 4) rfl jin_J4 1 (by decide) g4 i4 jw_248 rfl dJ5_newCapacity_0f7a4_24 ?_
  refine j_ishl X dJ5_newCapacity_0f7a4_27 ?_
  refine j_iadd X dJ5_newCapacity_0f7a4_28 ?_
  refine j_callSi X [.int v2, .int ((jshl x1 v3) - v2), .int (v2 + (jshl 2 v4))] [] (c_J8_newLength_cabcc h) jm_J8_newLength_cabcc jw_863 rfl ⟨rfl, rfl⟩ (by rw [hR]; decide) rfl (Nat.le_of_ble_eq_true rfl) dJ5_newCapacity_0f7a4_29 (fun v5 w5 h => ?_)
  refine j_istore X [(5, .int v5), (4, .int ((jshl x1 v3) - v2)), (3, .int (jshl x1 v3)), (2, .int v2), (0, .ref a0), (1, .int x1)] dJ5_newCapacity_0f7a4_32 (by decide) rfl ?_
  refine j_iload X dJ5_newCapacity_0f7a4_34 0 rfl ?_
  refine j_ldc X dJ5_newCapacity_0f7a4_36 jw_873 ?_
  refine j_icmp_ne X 51 dJ5_newCapacity_0f7a4_38 (by decide) (fun c => ?_) (fun c => ?_)
  · replace h := jif_f c h
    refine j_iload X dJ5_newCapacity_0f7a4_51 0 rfl ?_
    refine j_aload_n X dJ5_newCapacity_0f7a4_53 4 rfl ?_
    obtain ⟨fs6, v6, g6, i6, h⟩ := h
    refine j_get X (ci := 1) (C := RJ4) (T := TJ4) (N := 4) rfl jin_J4 1 (by decide) g6 i6 jw_248 rfl dJ5_newCapacity_0f7a4_54 ?_
    refine j_ishr X dJ5_newCapacity_0f7a4_57 ?_
    exact Rt.i dJ5_newCapacity_0f7a4_58 ⟨_, rfl, h⟩ (by first | decide | omega) (by first | decide | omega)
  · replace h := jif_t c h
    exact h.elim
def w_J5_newCapacity_0f7a4 (κ : Nat → Nat) (w : va_W) (a0 : Nat) (x1 : Int32) (P : Int32 → va_W → Prop) : Prop := w_J5_newCapacity_0f7a4_b0 κ w a0 x1 P
theorem c_J5_newCapacity_0f7a4 {E : jE} {w : va_W} {a0 : Nat} {x1 : Int32} {P : Int32 → va_W → Prop} (h : w_J5_newCapacity_0f7a4 E.2.2.2 w a0 x1 P) : jC E yJ5_newCapacity_0f7a4 cJ5_newCapacity_0f7a4 6 (some .int) ({ frames := 2, cells := 1, slots := 6, locals := 44 } : Room) [.ref a0, .int x1] w 1 6 (jPi P) := by
  refine jC_of (by decide) (Nat.le_of_ble_eq_true rfl) ?_
  intro Γ X hE hR Rt
  subst hE
  exact k_J5_newCapacity_0f7a4_b0 X hR Rt h
theorem jm_J7_copyOf_9075b : jMs yJ7_copyOf_9075b cJ7_copyOf_9075b 3 (some (.array .byte)) 2 := ⟨jw_875, jw_25, jw_876, ⟨by decide +kernel, by decide +kernel⟩, by decide +kernel⟩
def w_J7_copyOf_9075b_b0 (κ : Nat → Nat) (w : va_W) (a0 : Nat) (x1 : Int32) (P : Nat → va_W → Prop) : Prop :=
    jAl w a0 (fun v1 => (if x1 = v1 then False else (¬ x1 < 0 ∧ Int32.toNatClampNeg x1 ≤ 400 ∧ ∀ q2 : Nat, jlk w q2 = none → (fun w2 => jAl w2 a0 (fun v3 => jCp w2 1 a0 0 q2 0 (jmin v3 x1) (fun w4 => P q2 w4))) (w ++ [(q2, .inl (1, Int32.toNatClampNeg x1, .inl (fun _ => 0)))]))))
set_option maxRecDepth 100000 in
set_option maxHeartbeats 4000000 in
theorem k_J7_copyOf_9075b_b0 {Γ : jG} (X : jX Γ cJ7_copyOf_9075b 3 RJ7) (hR : jgR Γ = ({ frames := 1, cells := 1, slots := 400, locals := 108 } : Room)) {P : Nat → va_W → Prop} (Rt : jRt Γ cJ7_copyOf_9075b 3 1 400 (some (.array .byte)) (jPr P)) {w : va_W} {a0 : Nat} {x1 : Int32} (h : w_J7_copyOf_9075b_b0 (jgE Γ).2.2.2 w a0 x1 P) : J Γ 3 w 0 0 0 [(0, .ref a0), (1, .int x1)] [] := by
  unfold w_J7_copyOf_9075b_b0 at h
  refine j_iload_n X dJ7_copyOf_9075b_0 1 rfl ?_
  refine j_aload_n X dJ7_copyOf_9075b_1 0 rfl ?_
  obtain ⟨t1, n1, q1, j1, g1, h⟩ := h
  refine j_alen X j1 g1 dJ7_copyOf_9075b_2 ?_
  generalize Int32.ofNat n1 = v1 at h ⊢
  refine j_icmp_ne X 14 dJ7_copyOf_9075b_3 (by decide) (fun c => ?_) (fun c => ?_)
  · replace h := jif_f c h
    refine j_iload_n X dJ7_copyOf_9075b_14 1 rfl ?_
    refine j_newa X (N := Int32.toNatClampNeg x1) 1 (by decide) rfl jw_261 h.1 rfl (Nat.le_trans h.2.1 (by decide)) (by rw [hR]; exact ⟨by simp only []; omega, by have := h.2.1; simp only []; omega⟩) dJ7_copyOf_9075b_15 (fun q2 e2 => ?_)
    refine j_widen (n := 0 + 400) (Nat.le_refl _) (Nat.add_le_add_left h.2.1 _) ?_
    replace h := h.2.2 q2 e2
    generalize w ++ [(q2, _)] = w2 at h ⊢
    refine j_astore_n X [(2, .ref q2), (0, .ref a0), (1, .int x1)] dJ7_copyOf_9075b_17 (by decide) rfl ?_
    refine j_aload_n X dJ7_copyOf_9075b_18 1 rfl ?_
    refine j_iconst X 0 dJ7_copyOf_9075b_19 (by decide) ?_
    refine j_aload_n X dJ7_copyOf_9075b_20 0 rfl ?_
    refine j_iconst X 0 dJ7_copyOf_9075b_21 (by decide) ?_
    refine j_aload_n X dJ7_copyOf_9075b_22 1 rfl ?_
    obtain ⟨t3, n3, q3, j3, g3, h⟩ := h
    refine j_alen X j3 g3 dJ7_copyOf_9075b_23 ?_
    generalize Int32.ofNat n3 = v3 at h ⊢
    refine j_iload_n X dJ7_copyOf_9075b_24 2 rfl ?_
    refine j_mmin X jw_884 jw_349 jw_45 jw_350 (by rw [hR]; exact ⟨⟨by decide, Nat.le_of_ble_eq_true rfl⟩, by decide, by decide⟩) dJ7_copyOf_9075b_25 ?_
    obtain ⟨n4, m4, f4, q4, g4, i4, j4, e4, h⟩ := h
    refine j_acopy X jw_885 jw_352 jw_46 jw_353 (by decide) g4 i4 j4 e4 (by rw [hR]; exact ⟨by decide, Nat.le_of_ble_eq_true rfl⟩) dJ7_copyOf_9075b_28 ?_
    generalize jst w2 q2 _ = w4 at h ⊢
    refine j_aload_n X dJ7_copyOf_9075b_31 0 rfl ?_
    exact Rt.a (Or.inr ⟨_, rfl⟩) dJ7_copyOf_9075b_32 ⟨_, rfl, h⟩ (by first | decide | omega) (by first | decide | omega)
  · replace h := jif_t c h
    refine j_aload_n X dJ7_copyOf_9075b_6 0 rfl ?_
    exact h.elim
def w_J7_copyOf_9075b (κ : Nat → Nat) (w : va_W) (a0 : Nat) (x1 : Int32) (P : Nat → va_W → Prop) : Prop := w_J7_copyOf_9075b_b0 κ w a0 x1 P
theorem c_J7_copyOf_9075b {E : jE} {w : va_W} {a0 : Nat} {x1 : Int32} {P : Nat → va_W → Prop} (h : w_J7_copyOf_9075b E.2.2.2 w a0 x1 P) : jC E yJ7_copyOf_9075b cJ7_copyOf_9075b 3 (some (.array .byte)) ({ frames := 1, cells := 1, slots := 400, locals := 108 } : Room) [.ref a0, .int x1] w 1 400 (jPr P) := by
  refine jC_of (by decide) (Nat.le_of_ble_eq_true rfl) ?_
  intro Γ X hE hR Rt
  subst hE
  exact k_J7_copyOf_9075b_b0 X hR Rt h
theorem jmu_J5_newCapacity_0f7a4 : jMu yJ5_newCapacity_0f7a4 cJ5_newCapacity_0f7a4 6 (some .int) 1 RJ4 := ⟨jw_861, (List.mem_append_right _ (List.mem_of_getElem? (i := 1) rfl)), jw_31, jw_862, ⟨by decide +kernel, by decide +kernel⟩, by decide +kernel, jw_1558⟩
def w_J5_ensureCapacityInternal_d00df_b38 (κ : Nat → Nat) (w : va_W) (P : va_W → Prop) : Prop :=
    P w
set_option maxRecDepth 100000 in
set_option maxHeartbeats 4000000 in
theorem k_J5_ensureCapacityInternal_d00df_b38 {Γ : jG} (X : jX Γ cJ5_ensureCapacityInternal_d00df 3 RJ5) (hR : jgR Γ = ({ frames := 3, cells := 2, slots := 406, locals := 130 } : Room)) {P : va_W → Prop} (Rt : jRt Γ cJ5_ensureCapacityInternal_d00df 3 2 406 none (jPv P)) {w : va_W} (h : w_J5_ensureCapacityInternal_d00df_b38 (jgE Γ).2.2.2 w  P) : J Γ 3 w 2 406 38 [] [] := by
  unfold w_J5_ensureCapacityInternal_d00df_b38 at h
  exact Rt.v dJ5_ensureCapacityInternal_d00df_38 ⟨rfl, h⟩ (by first | decide | omega) (by first | decide | omega)
def w_J5_ensureCapacityInternal_d00df_b0 (κ : Nat → Nat) (w : va_W) (a0 : Nat) (x1 : Int32) (P : va_W → Prop) : Prop :=
    jgR' w a0 1 0 (fun r1 => jAl w r1 (fun v2 => jgI w a0 1 1 (fun v3 => (if (x1 - (jshr v2 v3)) ≤ 0 then w_J5_ensureCapacityInternal_d00df_b38 κ w  P else jgR' w a0 1 0 (fun r4 => (jRc w a0 1 ∧ w_J5_newCapacity_0f7a4 κ w a0 x1 (fun v5 w5 => jgI w5 a0 1 1 (fun v6 => w_J7_copyOf_9075b κ w5 r4 (jshl v5 v6) (fun r7 w7 => (jpV w7 a0 1 0 (.ref r7) (fun w8 => w_J5_ensureCapacityInternal_d00df_b38 κ w8  P)))))))))))
set_option maxRecDepth 100000 in
set_option maxHeartbeats 4000000 in
theorem k_J5_ensureCapacityInternal_d00df_b0 {Γ : jG} (X : jX Γ cJ5_ensureCapacityInternal_d00df 3 RJ5) (hR : jgR Γ = ({ frames := 3, cells := 2, slots := 406, locals := 130 } : Room)) {P : va_W → Prop} (Rt : jRt Γ cJ5_ensureCapacityInternal_d00df 3 2 406 none (jPv P)) {w : va_W} {a0 : Nat} {x1 : Int32} (h : w_J5_ensureCapacityInternal_d00df_b0 (jgE Γ).2.2.2 w a0 x1 P) : J Γ 3 w 0 0 0 [(0, .ref a0), (1, .int x1)] [] := by
  unfold w_J5_ensureCapacityInternal_d00df_b0 at h
  refine j_aload_n X dJ5_ensureCapacityInternal_d00df_0 0 rfl ?_
  obtain ⟨fs1, r1, g1, i1, h⟩ := h
  refine j_get X (ci := 1) (C := RJ4) (T := TJ4) (N := 4) rfl jin_J4 0 (by decide) g1 i1 jw_247 rfl dJ5_ensureCapacityInternal_d00df_1 ?_
  obtain ⟨t2, n2, q2, j2, g2, h⟩ := h
  refine j_alen X j2 g2 dJ5_ensureCapacityInternal_d00df_4 ?_
  generalize Int32.ofNat n2 = v2 at h ⊢
  refine j_aload_n X dJ5_ensureCapacityInternal_d00df_5 0 rfl ?_
  obtain ⟨fs3, v3, g3, i3, h⟩ := h
  refine j_get X (ci := 1) (C := RJ4) (T := TJ4) (N := 4) rfl jin_J4 1 (by decide) g3 i3 jw_248 rfl dJ5_ensureCapacityInternal_d00df_6 ?_
  refine j_ishr X dJ5_ensureCapacityInternal_d00df_9 ?_
  refine j_istore_n X [(2, .int (jshr v2 v3)), (0, .ref a0), (1, .int x1)] dJ5_ensureCapacityInternal_d00df_10 (by decide) rfl ?_
  refine j_iload_n X dJ5_ensureCapacityInternal_d00df_11 2 rfl ?_
  refine j_iload_n X dJ5_ensureCapacityInternal_d00df_12 0 rfl ?_
  refine j_isub X dJ5_ensureCapacityInternal_d00df_13 ?_
  refine j_if_le X 38 dJ5_ensureCapacityInternal_d00df_14 (by decide) (fun c => ?_) (fun c => ?_)
  · replace h := jif_t c h
    refine j_sub [] rfl ?_
    refine j_widen (k := 2) (n := 406) (by decide) (by decide) ?_
    exact k_J5_ensureCapacityInternal_d00df_b38 X hR Rt h
  · replace h := jif_f c h
    refine j_aload_n X dJ5_ensureCapacityInternal_d00df_17 1 rfl ?_
    refine j_aload_n X dJ5_ensureCapacityInternal_d00df_18 1 rfl ?_
    obtain ⟨fs4, r4, g4, i4, h⟩ := h
    refine j_get X (ci := 1) (C := RJ4) (T := TJ4) (N := 4) rfl jin_J4 0 (by decide) g4 i4 jw_247 rfl dJ5_ensureCapacityInternal_d00df_19 ?_
    refine j_aload_n X dJ5_ensureCapacityInternal_d00df_22 1 rfl ?_
    refine j_iload_n X dJ5_ensureCapacityInternal_d00df_23 2 rfl ?_
    obtain ⟨⟨fs5, g5⟩, h⟩ := h
    refine j_callUi X [.int x1] [.ref r4, .ref a0] (c_J5_newCapacity_0f7a4 h) (C := RJ4) (T := TJ4) (N := 4) g5 rfl jmu_J5_newCapacity_0f7a4 jw_859 rfl ⟨rfl, rfl⟩ (by rw [hR]; decide) rfl (Nat.le_of_ble_eq_true rfl) dJ5_ensureCapacityInternal_d00df_24 (fun v5 w5 h => ?_)
    refine j_aload_n X dJ5_ensureCapacityInternal_d00df_27 1 rfl ?_
    obtain ⟨fs6, v6, g6, i6, h⟩ := h
    refine j_get X (ci := 1) (C := RJ4) (T := TJ4) (N := 4) rfl jin_J4 1 (by decide) g6 i6 jw_248 rfl dJ5_ensureCapacityInternal_d00df_28 ?_
    refine j_ishl X dJ5_ensureCapacityInternal_d00df_31 ?_
    refine j_callSr X [.ref r4, .int (jshl v5 v6)] [.ref a0] (c_J7_copyOf_9075b h) jm_J7_copyOf_9075b jw_874 rfl ⟨rfl, rfl⟩ (by rw [hR]; decide) rfl (Nat.le_of_ble_eq_true rfl) dJ5_ensureCapacityInternal_d00df_32 (fun r7 w7 h => ?_)
    obtain ⟨fs8, g8, i8, h⟩ := h
    refine j_put X (ci := 1) (C := RJ4) (T := TJ4) (N := 4) rfl jin_J4 tyJ4 tyJ4_ok nmJ4 0 (by decide) g8 jw_247 rfl rfl (by rfl) (by rfl) i8 dJ5_ensureCapacityInternal_d00df_35 ?_
    generalize jst w7 a0 _ = w8 at h ⊢
    refine j_sub [] rfl ?_
    refine j_widen (k := 2) (n := 406) (by decide) (by decide) ?_
    exact k_J5_ensureCapacityInternal_d00df_b38 X hR Rt h
def w_J5_ensureCapacityInternal_d00df (κ : Nat → Nat) (w : va_W) (a0 : Nat) (x1 : Int32) (P : va_W → Prop) : Prop := w_J5_ensureCapacityInternal_d00df_b0 κ w a0 x1 P
theorem c_J5_ensureCapacityInternal_d00df {E : jE} {w : va_W} {a0 : Nat} {x1 : Int32} {P : va_W → Prop} (h : w_J5_ensureCapacityInternal_d00df E.2.2.2 w a0 x1 P) : jC E yJ5_ensureCapacityInternal_d00df cJ5_ensureCapacityInternal_d00df 3 none ({ frames := 3, cells := 2, slots := 406, locals := 130 } : Room) [.ref a0, .int x1] w 2 406 (jPv P) := by
  refine jC_of (by decide) (Nat.le_of_ble_eq_true rfl) ?_
  intro Γ X hE hR Rt
  subst hE
  exact k_J5_ensureCapacityInternal_d00df_b0 X hR Rt h
def w_J5_isLatin1_aae02_b18 (κ : Nat → Nat) (w : va_W) (s0 : Int32) (P : Int32 → va_W → Prop) : Prop :=
    (narrow .boolean (.int s0) = .int s0 ∧ P s0 w)
set_option maxRecDepth 100000 in
set_option maxHeartbeats 4000000 in
theorem k_J5_isLatin1_aae02_b18 {Γ : jG} (X : jX Γ cJ5_isLatin1_aae02 1 RJ5) (hR : jgR Γ = ({ frames := 0, cells := 0, slots := 0, locals := 0 } : Room)) {P : Int32 → va_W → Prop} (Rt : jRt Γ cJ5_isLatin1_aae02 1 0 0 (some .boolean) (jPi P)) {w : va_W} {s0 : Int32} (h : w_J5_isLatin1_aae02_b18 (jgE Γ).2.2.2 w s0 P) : J Γ 1 w 0 0 18 [] [.int s0] := by
  unfold w_J5_isLatin1_aae02_b18 at h
  exact Rt.z dJ5_isLatin1_aae02_18 h.1 ⟨_, rfl, h.2⟩ (by first | decide | omega) (by first | decide | omega)
def w_J5_isLatin1_aae02_b17 (κ : Nat → Nat) (w : va_W) (P : Int32 → va_W → Prop) : Prop :=
    w_J5_isLatin1_aae02_b18 κ w 0 P
set_option maxRecDepth 100000 in
set_option maxHeartbeats 4000000 in
theorem k_J5_isLatin1_aae02_b17 {Γ : jG} (X : jX Γ cJ5_isLatin1_aae02 1 RJ5) (hR : jgR Γ = ({ frames := 0, cells := 0, slots := 0, locals := 0 } : Room)) {P : Int32 → va_W → Prop} (Rt : jRt Γ cJ5_isLatin1_aae02 1 0 0 (some .boolean) (jPi P)) {w : va_W} (h : w_J5_isLatin1_aae02_b17 (jgE Γ).2.2.2 w  P) : J Γ 1 w 0 0 17 [] [] := by
  unfold w_J5_isLatin1_aae02_b17 at h
  refine j_iconst X 0 dJ5_isLatin1_aae02_17 (by decide) ?_
  exact k_J5_isLatin1_aae02_b18 X hR Rt h
def w_J5_isLatin1_aae02_b0 (κ : Nat → Nat) (w : va_W) (a0 : Nat) (P : Int32 → va_W → Prop) : Prop :=
    jgI w a0 1 1 (fun v1 => (if v1 = 0 then w_J5_isLatin1_aae02_b18 κ w 1 P else w_J5_isLatin1_aae02_b17 κ w  P))
set_option maxRecDepth 100000 in
set_option maxHeartbeats 4000000 in
theorem k_J5_isLatin1_aae02_b0 {Γ : jG} (X : jX Γ cJ5_isLatin1_aae02 1 RJ5) (hR : jgR Γ = ({ frames := 0, cells := 0, slots := 0, locals := 0 } : Room)) {P : Int32 → va_W → Prop} (Rt : jRt Γ cJ5_isLatin1_aae02 1 0 0 (some .boolean) (jPi P)) {w : va_W} {a0 : Nat} (h : w_J5_isLatin1_aae02_b0 (jgE Γ).2.2.2 w a0 P) : J Γ 1 w 0 0 0 [(0, .ref a0)] [] := by
  unfold w_J5_isLatin1_aae02_b0 at h
  refine j_getsC X jw_238 dJ5_isLatin1_aae02_0 ?_
  refine j_if_eq X 17 dJ5_isLatin1_aae02_3 (by decide) (fun c => absurd c (by decide)) (fun _ => ?_)
  refine j_aload_n X dJ5_isLatin1_aae02_6 0 rfl ?_
  obtain ⟨fs1, v1, g1, i1, h⟩ := h
  refine j_get X (ci := 1) (C := RJ4) (T := TJ4) (N := 4) rfl jin_J4 1 (by decide) g1 i1 jw_248 rfl dJ5_isLatin1_aae02_7 ?_
  refine j_if_ne X 17 dJ5_isLatin1_aae02_10 (by decide) (fun c => ?_) (fun c => ?_)
  · replace h := jif_f c h
    refine j_sub [] rfl ?_
    exact k_J5_isLatin1_aae02_b17 X hR Rt h
  · replace h := jif_t c h
    refine j_iconst X 1 dJ5_isLatin1_aae02_13 (by decide) ?_
    refine j_goto X 18 dJ5_isLatin1_aae02_14 (by decide) ?_
    refine j_sub [] rfl ?_
    exact k_J5_isLatin1_aae02_b18 X hR Rt h
def w_J5_isLatin1_aae02 (κ : Nat → Nat) (w : va_W) (a0 : Nat) (P : Int32 → va_W → Prop) : Prop := w_J5_isLatin1_aae02_b0 κ w a0 P
theorem c_J5_isLatin1_aae02 {E : jE} {w : va_W} {a0 : Nat} {P : Int32 → va_W → Prop} (h : w_J5_isLatin1_aae02 E.2.2.2 w a0 P) : jC E yJ5_isLatin1_aae02 cJ5_isLatin1_aae02 1 (some .boolean) ({ frames := 0, cells := 0, slots := 0, locals := 0 } : Room) [.ref a0] w 0 0 (jPi P) := by
  refine jC_of (by decide) (Nat.le_of_ble_eq_true rfl) ?_
  intro Γ X hE hR Rt
  subst hE
  exact k_J5_isLatin1_aae02_b0 X hR Rt h
theorem jm_J1_canEncode_fc78d : jMs yJ1_canEncode_fc78d cJ1_canEncode_fc78d 1 (some .boolean) 1 := ⟨jw_1180, jw_47, jw_1181, ⟨by decide +kernel, by decide +kernel⟩, by decide +kernel⟩
def w_J1_canEncode_fc78d_b12 (κ : Nat → Nat) (w : va_W) (s0 : Int32) (P : Int32 → va_W → Prop) : Prop :=
    (narrow .boolean (.int s0) = .int s0 ∧ P s0 w)
set_option maxRecDepth 100000 in
set_option maxHeartbeats 4000000 in
theorem k_J1_canEncode_fc78d_b12 {Γ : jG} (X : jX Γ cJ1_canEncode_fc78d 1 RJ1) (hR : jgR Γ = ({ frames := 0, cells := 0, slots := 0, locals := 0 } : Room)) {P : Int32 → va_W → Prop} (Rt : jRt Γ cJ1_canEncode_fc78d 1 0 0 (some .boolean) (jPi P)) {w : va_W} {s0 : Int32} (h : w_J1_canEncode_fc78d_b12 (jgE Γ).2.2.2 w s0 P) : J Γ 1 w 0 0 12 [] [.int s0] := by
  unfold w_J1_canEncode_fc78d_b12 at h
  exact Rt.z dJ1_canEncode_fc78d_12 h.1 ⟨_, rfl, h.2⟩ (by first | decide | omega) (by first | decide | omega)
def w_J1_canEncode_fc78d_b0 (κ : Nat → Nat) (w : va_W) (x0 : Int32) (P : Int32 → va_W → Prop) : Prop :=
    (if 255 < x0 then w_J1_canEncode_fc78d_b12 κ w 0 P else w_J1_canEncode_fc78d_b12 κ w 1 P)
set_option maxRecDepth 100000 in
set_option maxHeartbeats 4000000 in
theorem k_J1_canEncode_fc78d_b0 {Γ : jG} (X : jX Γ cJ1_canEncode_fc78d 1 RJ1) (hR : jgR Γ = ({ frames := 0, cells := 0, slots := 0, locals := 0 } : Room)) {P : Int32 → va_W → Prop} (Rt : jRt Γ cJ1_canEncode_fc78d 1 0 0 (some .boolean) (jPi P)) {w : va_W} {x0 : Int32} (h : w_J1_canEncode_fc78d_b0 (jgE Γ).2.2.2 w x0 P) : J Γ 1 w 0 0 0 [(0, .int x0)] [] := by
  unfold w_J1_canEncode_fc78d_b0 at h
  refine j_iload_n X dJ1_canEncode_fc78d_0 0 rfl ?_
  refine j_sipush X 255 dJ1_canEncode_fc78d_1 (by decide) ?_
  refine j_icmp_gt X 11 dJ1_canEncode_fc78d_4 (by decide) (fun c => ?_) (fun c => ?_)
  · replace h := jif_t c h
    refine j_iconst X 0 dJ1_canEncode_fc78d_11 (by decide) ?_
    refine j_sub [] rfl ?_
    exact k_J1_canEncode_fc78d_b12 X hR Rt h
  · replace h := jif_f c h
    refine j_iconst X 1 dJ1_canEncode_fc78d_7 (by decide) ?_
    refine j_goto X 12 dJ1_canEncode_fc78d_8 (by decide) ?_
    refine j_sub [] rfl ?_
    exact k_J1_canEncode_fc78d_b12 X hR Rt h
def w_J1_canEncode_fc78d (κ : Nat → Nat) (w : va_W) (x0 : Int32) (P : Int32 → va_W → Prop) : Prop := w_J1_canEncode_fc78d_b0 κ w x0 P
theorem c_J1_canEncode_fc78d {E : jE} {w : va_W} {x0 : Int32} {P : Int32 → va_W → Prop} (h : w_J1_canEncode_fc78d E.2.2.2 w x0 P) : jC E yJ1_canEncode_fc78d cJ1_canEncode_fc78d 1 (some .boolean) ({ frames := 0, cells := 0, slots := 0, locals := 0 } : Room) [.int x0] w 0 0 (jPi P) := by
  refine jC_of (by decide) (Nat.le_of_ble_eq_true rfl) ?_
  intro Γ X hE hR Rt
  subst hE
  exact k_J1_canEncode_fc78d_b0 X hR Rt h
theorem jmu_J5_ensureCapacityInternal_d00df : jMu yJ5_ensureCapacityInternal_d00df cJ5_ensureCapacityInternal_d00df 3 none 1 RJ4 := ⟨jw_857, (List.mem_append_right _ (List.mem_of_getElem? (i := 0) rfl)), jw_31, jw_858, ⟨by decide +kernel, by decide +kernel⟩, by decide +kernel, jw_1557⟩
theorem jmu_J5_isLatin1_aae02 : jMu yJ5_isLatin1_aae02 cJ5_isLatin1_aae02 1 (some .boolean) 0 RJ4 := ⟨jw_887, jw_889, jw_31, jw_890, ⟨by decide +kernel, by decide +kernel⟩, by decide +kernel, jw_888⟩
def w_J5_append_3fe6f_b56 (κ : Nat → Nat) (w : va_W) (a0 : Nat) (x1 : Int32) (P : Nat → va_W → Prop) : Prop :=
    jgR' w a0 1 0 (fun r1 => jgI w a0 1 3 (fun v2 => (jpV w a0 1 3 (.int (v2 + 1)) (fun w3 => False))))
set_option maxRecDepth 100000 in
set_option maxHeartbeats 4000000 in
theorem k_J5_append_3fe6f_b56 {Γ : jG} (X : jX Γ cJ5_append_3fe6f 2 RJ5) (hR : jgR Γ = ({ frames := 4, cells := 2, slots := 406, locals := 152 } : Room)) {P : Nat → va_W → Prop} (Rt : jRt Γ cJ5_append_3fe6f 2 2 406 (some (.object "java/lang/AbstractStringBuilder")) (jPr P)) {w : va_W} {a0 : Nat} {x1 : Int32} (h : w_J5_append_3fe6f_b56 (jgE Γ).2.2.2 w a0 x1 P) : J Γ 2 w 2 406 56 [(0, .ref a0), (1, .int x1)] [] := by
  unfold w_J5_append_3fe6f_b56 at h
  refine j_aload_n X dJ5_append_3fe6f_56 0 rfl ?_
  obtain ⟨fs1, r1, g1, i1, h⟩ := h
  refine j_get X (ci := 1) (C := RJ4) (T := TJ4) (N := 4) rfl jin_J4 0 (by decide) g1 i1 jw_247 rfl dJ5_append_3fe6f_57 ?_
  refine j_aload_n X dJ5_append_3fe6f_60 0 rfl ?_
  refine j_dup X dJ5_append_3fe6f_61 rfl ?_
  obtain ⟨fs2, v2, g2, i2, h⟩ := h
  refine j_get X (ci := 1) (C := RJ4) (T := TJ4) (N := 4) rfl jin_J4 3 (by decide) g2 i2 jw_251 rfl dJ5_append_3fe6f_62 ?_
  refine j_dup_x1 X dJ5_append_3fe6f_65 rfl rfl ?_
  refine j_iconst X 1 dJ5_append_3fe6f_66 (by decide) ?_
  refine j_iadd X dJ5_append_3fe6f_67 ?_
  obtain ⟨fs3, g3, i3, h⟩ := h
  refine j_put X (ci := 1) (C := RJ4) (T := TJ4) (N := 4) rfl jin_J4 tyJ4 tyJ4_ok nmJ4 3 (by decide) g3 jw_251 rfl rfl (by rfl) (by rfl) i3 dJ5_append_3fe6f_68 ?_
  generalize jst w a0 _ = w3 at h ⊢
  refine j_iload_n X dJ5_append_3fe6f_71 1 rfl ?_
  exact h.elim
def w_J5_append_3fe6f_b45 (κ : Nat → Nat) (w : va_W) (a0 : Nat) (x1 : Int32) (P : Nat → va_W → Prop) : Prop :=
    (jRc w a0 1 ∧ w_J5_isLatin1_aae02 κ w a0 (fun v1 w1 => (if v1 = 0 then w_J5_append_3fe6f_b56 κ w1 a0 x1 P else False)))
set_option maxRecDepth 100000 in
set_option maxHeartbeats 4000000 in
theorem k_J5_append_3fe6f_b45 {Γ : jG} (X : jX Γ cJ5_append_3fe6f 2 RJ5) (hR : jgR Γ = ({ frames := 4, cells := 2, slots := 406, locals := 152 } : Room)) {P : Nat → va_W → Prop} (Rt : jRt Γ cJ5_append_3fe6f 2 2 406 (some (.object "java/lang/AbstractStringBuilder")) (jPr P)) {w : va_W} {a0 : Nat} {x1 : Int32} (h : w_J5_append_3fe6f_b45 (jgE Γ).2.2.2 w a0 x1 P) : J Γ 2 w 2 406 45 [(0, .ref a0), (1, .int x1)] [] := by
  unfold w_J5_append_3fe6f_b45 at h
  refine j_aload_n X dJ5_append_3fe6f_45 0 rfl ?_
  obtain ⟨⟨fs1, g1⟩, h⟩ := h
  refine j_callUi X [] [] (c_J5_isLatin1_aae02 h) (C := RJ4) (T := TJ4) (N := 4) g1 rfl jmu_J5_isLatin1_aae02 jw_886 rfl ⟨rfl, rfl⟩ (by rw [hR]; decide) rfl (Nat.le_of_ble_eq_true rfl) dJ5_append_3fe6f_46 (fun v1 w1 h => ?_)
  refine j_if_eq X 56 dJ5_append_3fe6f_49 (by decide) (fun c => ?_) (fun c => ?_)
  · replace h := jif_t c h
    refine j_widen (k := 2) (n := 406) (by decide) (by decide) ?_
    exact k_J5_append_3fe6f_b56 X hR Rt h
  · replace h := jif_f c h
    refine j_aload_n X dJ5_append_3fe6f_52 0 rfl ?_
    exact h.elim
def w_J5_append_3fe6f_b75 (κ : Nat → Nat) (w : va_W) (a0 : Nat) (P : Nat → va_W → Prop) : Prop :=
    P a0 w
set_option maxRecDepth 100000 in
set_option maxHeartbeats 4000000 in
theorem k_J5_append_3fe6f_b75 {Γ : jG} (X : jX Γ cJ5_append_3fe6f 2 RJ5) (hR : jgR Γ = ({ frames := 4, cells := 2, slots := 406, locals := 152 } : Room)) {P : Nat → va_W → Prop} (Rt : jRt Γ cJ5_append_3fe6f 2 2 406 (some (.object "java/lang/AbstractStringBuilder")) (jPr P)) {w : va_W} {a0 : Nat} (h : w_J5_append_3fe6f_b75 (jgE Γ).2.2.2 w a0 P) : J Γ 2 w 2 406 75 [(0, .ref a0)] [] := by
  unfold w_J5_append_3fe6f_b75 at h
  refine j_aload_n X dJ5_append_3fe6f_75 0 rfl ?_
  exact Rt.a (Or.inl ⟨_, rfl⟩) dJ5_append_3fe6f_76 ⟨_, rfl, h⟩ (by first | decide | omega) (by first | decide | omega)
def w_J5_append_3fe6f_b0 (κ : Nat → Nat) (w : va_W) (a0 : Nat) (x1 : Int32) (P : Nat → va_W → Prop) : Prop :=
    jgI w a0 1 3 (fun v1 => (jRc w a0 1 ∧ w_J5_ensureCapacityInternal_d00df κ w a0 (v1 + 1) (fun w2 => (jRc w2 a0 1 ∧ w_J5_isLatin1_aae02 κ w2 a0 (fun v3 w3 => (if v3 = 0 then w_J5_append_3fe6f_b45 κ w3 a0 x1 P else w_J1_canEncode_fc78d κ w3 x1 (fun v4 w4 => (if v4 = 0 then w_J5_append_3fe6f_b45 κ w4 a0 x1 P else jgR' w4 a0 1 0 (fun r5 => jgI w4 a0 1 3 (fun v6 => (jpV w4 a0 1 3 (.int (v6 + 1)) (fun w7 => jSb w7 r5 v6 (ji2b x1) (fun w8 => w_J5_append_3fe6f_b75 κ w8 a0 P)))))))))))))
set_option maxRecDepth 100000 in
set_option maxHeartbeats 4000000 in
theorem k_J5_append_3fe6f_b0 {Γ : jG} (X : jX Γ cJ5_append_3fe6f 2 RJ5) (hR : jgR Γ = ({ frames := 4, cells := 2, slots := 406, locals := 152 } : Room)) {P : Nat → va_W → Prop} (Rt : jRt Γ cJ5_append_3fe6f 2 2 406 (some (.object "java/lang/AbstractStringBuilder")) (jPr P)) {w : va_W} {a0 : Nat} {x1 : Int32} (h : w_J5_append_3fe6f_b0 (jgE Γ).2.2.2 w a0 x1 P) : J Γ 2 w 0 0 0 [(0, .ref a0), (1, .int x1)] [] := by
  unfold w_J5_append_3fe6f_b0 at h
  refine j_aload_n X dJ5_append_3fe6f_0 0 rfl ?_
  refine j_aload_n X dJ5_append_3fe6f_1 0 rfl ?_
  obtain ⟨fs1, v1, g1, i1, h⟩ := h
  refine j_get X (ci := 1) (C := RJ4) (T := TJ4) (N := 4) rfl jin_J4 3 (by decide) g1 i1 jw_251 rfl dJ5_append_3fe6f_2 ?_
  refine j_iconst X 1 dJ5_append_3fe6f_5 (by decide) ?_
  refine j_iadd X dJ5_append_3fe6f_6 ?_
  obtain ⟨⟨fs2, g2⟩, h⟩ := h
  refine j_callUv X [.int (v1 + 1)] [] (c_J5_ensureCapacityInternal_d00df h) (C := RJ4) (T := TJ4) (N := 4) g2 rfl jmu_J5_ensureCapacityInternal_d00df jw_855 rfl ⟨rfl, rfl⟩ (by rw [hR]; decide) rfl (Nat.le_of_ble_eq_true rfl) dJ5_append_3fe6f_7 (fun w2 h => ?_)
  refine j_aload_n X dJ5_append_3fe6f_10 0 rfl ?_
  obtain ⟨⟨fs3, g3⟩, h⟩ := h
  refine j_callUi X [] [] (c_J5_isLatin1_aae02 h) (C := RJ4) (T := TJ4) (N := 4) g3 rfl jmu_J5_isLatin1_aae02 jw_886 rfl ⟨rfl, rfl⟩ (by rw [hR]; decide) rfl (Nat.le_of_ble_eq_true rfl) dJ5_append_3fe6f_11 (fun v3 w3 h => ?_)
  refine j_if_eq X 45 dJ5_append_3fe6f_14 (by decide) (fun c => ?_) (fun c => ?_)
  · replace h := jif_t c h
    refine j_widen (k := 2) (n := 406) (by decide) (by decide) ?_
    exact k_J5_append_3fe6f_b45 X hR Rt h
  · replace h := jif_f c h
    refine j_iload_n X dJ5_append_3fe6f_17 1 rfl ?_
    refine j_callSi X [.int x1] [] (c_J1_canEncode_fc78d h) jm_J1_canEncode_fc78d jw_1179 rfl ⟨rfl, rfl⟩ (by rw [hR]; decide) rfl (Nat.le_of_ble_eq_true rfl) dJ5_append_3fe6f_18 (fun v4 w4 h => ?_)
    refine j_if_eq X 45 dJ5_append_3fe6f_21 (by decide) (fun c => ?_) (fun c => ?_)
    · replace h := jif_t c h
      refine j_widen (k := 2) (n := 406) (by decide) (by decide) ?_
      exact k_J5_append_3fe6f_b45 X hR Rt h
    · replace h := jif_f c h
      refine j_aload_n X dJ5_append_3fe6f_24 0 rfl ?_
      obtain ⟨fs5, r5, g5, i5, h⟩ := h
      refine j_get X (ci := 1) (C := RJ4) (T := TJ4) (N := 4) rfl jin_J4 0 (by decide) g5 i5 jw_247 rfl dJ5_append_3fe6f_25 ?_
      refine j_aload_n X dJ5_append_3fe6f_28 0 rfl ?_
      refine j_dup X dJ5_append_3fe6f_29 rfl ?_
      obtain ⟨fs6, v6, g6, i6, h⟩ := h
      refine j_get X (ci := 1) (C := RJ4) (T := TJ4) (N := 4) rfl jin_J4 3 (by decide) g6 i6 jw_251 rfl dJ5_append_3fe6f_30 ?_
      refine j_dup_x1 X dJ5_append_3fe6f_33 rfl rfl ?_
      refine j_iconst X 1 dJ5_append_3fe6f_34 (by decide) ?_
      refine j_iadd X dJ5_append_3fe6f_35 ?_
      obtain ⟨fs7, g7, i7, h⟩ := h
      refine j_put X (ci := 1) (C := RJ4) (T := TJ4) (N := 4) rfl jin_J4 tyJ4 tyJ4_ok nmJ4 3 (by decide) g7 jw_251 rfl rfl (by rfl) (by rfl) i7 dJ5_append_3fe6f_36 ?_
      generalize jst w4 a0 _ = w7 at h ⊢
      refine j_iload_n X dJ5_append_3fe6f_39 1 rfl ?_
      refine j_i2b X dJ5_append_3fe6f_40 ?_
      obtain ⟨n8, f8, g8, i8, h⟩ := h
      refine j_bast X g8 i8 dJ5_append_3fe6f_41 ?_
      generalize jst w7 r5 _ = w8 at h ⊢
      refine j_goto X 75 dJ5_append_3fe6f_42 (by decide) ?_
      refine j_sub [0] rfl ?_
      refine j_widen (k := 2) (n := 406) (by decide) (by decide) ?_
      exact k_J5_append_3fe6f_b75 X hR Rt h
def w_J5_append_3fe6f (κ : Nat → Nat) (w : va_W) (a0 : Nat) (x1 : Int32) (P : Nat → va_W → Prop) : Prop := w_J5_append_3fe6f_b0 κ w a0 x1 P
theorem c_J5_append_3fe6f {E : jE} {w : va_W} {a0 : Nat} {x1 : Int32} {P : Nat → va_W → Prop} (h : w_J5_append_3fe6f E.2.2.2 w a0 x1 P) : jC E yJ5_append_3fe6f cJ5_append_3fe6f 2 (some (.object "java/lang/AbstractStringBuilder")) ({ frames := 4, cells := 2, slots := 406, locals := 152 } : Room) [.ref a0, .int x1] w 2 406 (jPr P) := by
  refine jC_of (by decide) (Nat.le_of_ble_eq_true rfl) ?_
  intro Γ X hE hR Rt
  subst hE
  exact k_J5_append_3fe6f_b0 X hR Rt h
theorem jm_J4_append_cf468 : jMv yJ4_append_cf468 cJ4_append_cf468 2 (some (.object "java/lang/StringBuilder")) 1 := ⟨jw_1173, jw_1174, jw_32, jw_1175, ⟨by decide +kernel, by decide +kernel⟩, by decide +kernel⟩
theorem jmz_J5_append_3fe6f : jMz yJ5_append_3fe6f cJ5_append_3fe6f 2 (some (.object "java/lang/AbstractStringBuilder")) 1 RJ4 := ⟨jw_1177, jw_260, jw_31, jw_1178, by decide +kernel, by decide +kernel, jw_1564⟩
def w_J4_append_cf468_b0 (κ : Nat → Nat) (w : va_W) (a0 : Nat) (x1 : Int32) (P : Nat → va_W → Prop) : Prop :=
    (jRc w a0 1 ∧ w_J5_append_3fe6f κ w a0 x1 (fun r1 w1 => P a0 w1))
set_option maxRecDepth 100000 in
set_option maxHeartbeats 4000000 in
theorem k_J4_append_cf468_b0 {Γ : jG} (X : jX Γ cJ4_append_cf468 2 RJ4) (hR : jgR Γ = ({ frames := 5, cells := 2, slots := 406, locals := 173 } : Room)) {P : Nat → va_W → Prop} (Rt : jRt Γ cJ4_append_cf468 2 2 406 (some (.object "java/lang/StringBuilder")) (jPr P)) {w : va_W} {a0 : Nat} {x1 : Int32} (h : w_J4_append_cf468_b0 (jgE Γ).2.2.2 w a0 x1 P) : J Γ 2 w 0 0 0 [(0, .ref a0), (1, .int x1)] [] := by
  unfold w_J4_append_cf468_b0 at h
  refine j_aload_n X dJ4_append_cf468_0 0 rfl ?_
  refine j_iload_n X dJ4_append_cf468_1 1 rfl ?_
  obtain ⟨⟨fs1, g1⟩, h⟩ := h
  refine j_callZr X [.int x1] [] (c_J5_append_3fe6f h) (C := RJ4) (T := TJ4) (N := 4) g1 rfl jmz_J5_append_3fe6f jw_1176 rfl ⟨rfl, rfl⟩ (by rw [hR]; decide) rfl (Nat.le_of_ble_eq_true rfl) dJ4_append_cf468_2 (fun r1 w1 h => ?_)
  refine j_pop X dJ4_append_cf468_5 rfl ?_
  refine j_aload_n X dJ4_append_cf468_6 0 rfl ?_
  exact Rt.a (Or.inl ⟨_, rfl⟩) dJ4_append_cf468_7 ⟨_, rfl, h⟩ (by first | decide | omega) (by first | decide | omega)
def w_J4_append_cf468 (κ : Nat → Nat) (w : va_W) (a0 : Nat) (x1 : Int32) (P : Nat → va_W → Prop) : Prop := w_J4_append_cf468_b0 κ w a0 x1 P
theorem c_J4_append_cf468 {E : jE} {w : va_W} {a0 : Nat} {x1 : Int32} {P : Nat → va_W → Prop} (h : w_J4_append_cf468 E.2.2.2 w a0 x1 P) : jC E yJ4_append_cf468 cJ4_append_cf468 2 (some (.object "java/lang/StringBuilder")) ({ frames := 5, cells := 2, slots := 406, locals := 173 } : Room) [.ref a0, .int x1] w 2 406 (jPr P) := by
  refine jC_of (by decide) (Nat.le_of_ble_eq_true rfl) ?_
  intro Γ X hE hR Rt
  subst hE
  exact k_J4_append_cf468_b0 X hR Rt h
theorem jm_X4_append : jMv yX4_append cX4_append 2 (some .int) 1 := ⟨jw_1169, jw_1170, jw_30, jw_1171, ⟨by decide +kernel, by decide +kernel⟩, by decide +kernel⟩
def w_X4_append_b0 (κ : Nat → Nat) (w : va_W) (a0 : Nat) (x1 : Int32) (P : Int32 → va_W → Prop) : Prop :=
    jgR' w a0 7 0 (fun r1 => (jRc w r1 1 ∧ w_J4_append_cf468 κ w r1 x1 (fun r2 w2 => jgR' w2 a0 7 0 (fun r3 => (jRc w2 r3 1 ∧ w_J4_length_8abf5 κ w2 r3 (fun v4 w4 => P v4 w4))))))
set_option maxRecDepth 100000 in
set_option maxHeartbeats 4000000 in
theorem k_X4_append_b0 {Γ : jG} (X : jX Γ cX4_append 2 RX4) (hR : jgR Γ = ({ frames := 6, cells := 2, slots := 406, locals := 194 } : Room)) {P : Int32 → va_W → Prop} (Rt : jRt Γ cX4_append 2 2 406 (some .int) (jPi P)) {w : va_W} {a0 : Nat} {x1 : Int32} (h : w_X4_append_b0 (jgE Γ).2.2.2 w a0 x1 P) : J Γ 2 w 0 0 0 [(0, .ref a0), (1, .int x1)] [] := by
  unfold w_X4_append_b0 at h
  refine j_aload_n X dX4_append_0 0 rfl ?_
  obtain ⟨fs1, r1, g1, i1, h⟩ := h
  refine j_get X (ci := 7) (C := RX4) (T := TX4) (N := 9) rfl jin_X4 0 (by decide) g1 i1 jw_264 rfl dX4_append_1 ?_
  refine j_iload_n X dX4_append_4 1 rfl ?_
  obtain ⟨⟨fs2, g2⟩, h⟩ := h
  refine j_callVr X [.int x1] [] (c_J4_append_cf468 h) (T := TJ4) (N := 4) g2 rfl jm_J4_append_cf468 jw_1172 rfl ⟨rfl, rfl⟩ (by rw [hR]; decide) rfl (Nat.le_of_ble_eq_true rfl) dX4_append_5 (fun r2 w2 h => ?_)
  refine j_pop X dX4_append_8 rfl ?_
  refine j_aload_n X dX4_append_9 0 rfl ?_
  obtain ⟨fs3, r3, g3, i3, h⟩ := h
  refine j_get X (ci := 7) (C := RX4) (T := TX4) (N := 9) rfl jin_X4 0 (by decide) g3 i3 jw_264 rfl dX4_append_10 ?_
  obtain ⟨⟨fs4, g4⟩, h⟩ := h
  refine j_callVi X [] [] (c_J4_length_8abf5 h) (T := TJ4) (N := 4) g4 rfl jm_J4_length_8abf5 jw_717 rfl ⟨rfl, rfl⟩ (by rw [hR]; decide) rfl (Nat.le_of_ble_eq_true rfl) dX4_append_13 (fun v4 w4 h => ?_)
  exact Rt.i dX4_append_16 ⟨_, rfl, h⟩ (by first | decide | omega) (by first | decide | omega)
def w_X4_append (κ : Nat → Nat) (w : va_W) (a0 : Nat) (x1 : Int32) (P : Int32 → va_W → Prop) : Prop := w_X4_append_b0 κ w a0 x1 P
theorem c_X4_append {E : jE} {w : va_W} {a0 : Nat} {x1 : Int32} {P : Int32 → va_W → Prop} (h : w_X4_append E.2.2.2 w a0 x1 P) : jC E yX4_append cX4_append 2 (some .int) ({ frames := 6, cells := 2, slots := 406, locals := 194 } : Room) [.ref a0, .int x1] w 2 406 (jPi P) := by
  refine jC_of (by decide) (Nat.le_of_ble_eq_true rfl) ?_
  intro Γ X hE hR Rt
  subst hE
  exact k_X4_append_b0 X hR Rt h
theorem jm_J6_stringSize_0f7a4 : jMs yJ6_stringSize_0f7a4 cJ6_stringSize_0f7a4 4 (some .int) 1 := ⟨jw_949, jw_52, jw_950, ⟨by decide +kernel, by decide +kernel⟩, by decide +kernel⟩
def w_J6_stringSize_0f7a4_b16 : Nat → (κ : Nat → Nat) → (w : va_W) → (x0 : Int32) → (x1 : Int32) → (x2 : Int32) → (x3 : Int32) → (P : Int32 → va_W → Prop) → Prop
  | 0, _, _, _, _, _, _, _ => False
  | n + 1, κ, w, x0, x1, x2, x3, P =>
    (if 10 ≤ x3 then P (10 + x1) w else (if x0 ≤ x2 then w_J6_stringSize_0f7a4_b16 n κ w x0 x1 (10 * x2) (x3 + 1) P else P (x3 + x1) w))
set_option maxRecDepth 100000 in
set_option maxHeartbeats 4000000 in
theorem k_J6_stringSize_0f7a4_b16 {Γ : jG} (X : jX Γ cJ6_stringSize_0f7a4 4 RJ6) (hR : jgR Γ = ({ frames := 0, cells := 0, slots := 0, locals := 0 } : Room)) {P : Int32 → va_W → Prop} (Rt : jRt Γ cJ6_stringSize_0f7a4 4 0 0 (some .int) (jPi P)) : ∀ (n : Nat) {w : va_W} {x0 : Int32} {x1 : Int32} {x2 : Int32} {x3 : Int32} (h : w_J6_stringSize_0f7a4_b16 n (jgE Γ).2.2.2 w x0 x1 x2 x3 P), J Γ 4 w 0 0 16 [(0, .int x0), (1, .int x1), (2, .int x2), (3, .int x3)] [] := by
  intro n
  induction n with
  | zero => intro w x0 x1 x2 x3 h; exact False.elim h
  | succ n ih =>
    intro w x0 x1 x2 x3 h
    rw [w_J6_stringSize_0f7a4_b16] at h
    refine j_iload_n X dJ6_stringSize_0f7a4_16 3 rfl ?_
    refine j_bipush X 10 dJ6_stringSize_0f7a4_17 (by decide) ?_
    refine j_icmp_ge X 42 dJ6_stringSize_0f7a4_19 (by decide) (fun c => ?_) (fun c => ?_)
    · replace h := jif_t c h
      refine j_bipush X 10 dJ6_stringSize_0f7a4_42 (by decide) ?_
      refine j_iload_n X dJ6_stringSize_0f7a4_44 1 rfl ?_
      refine j_iadd X dJ6_stringSize_0f7a4_45 ?_
      exact Rt.i dJ6_stringSize_0f7a4_46 ⟨_, rfl, h⟩ (by first | decide | omega) (by first | decide | omega)
    · replace h := jif_f c h
      refine j_iload_n X dJ6_stringSize_0f7a4_22 0 rfl ?_
      refine j_iload_n X dJ6_stringSize_0f7a4_23 2 rfl ?_
      refine j_icmp_le X 31 dJ6_stringSize_0f7a4_24 (by decide) (fun c => ?_) (fun c => ?_)
      · replace h := jif_t c h
        refine j_bipush X 10 dJ6_stringSize_0f7a4_31 (by decide) ?_
        refine j_iload_n X dJ6_stringSize_0f7a4_33 2 rfl ?_
        refine j_imul X dJ6_stringSize_0f7a4_34 ?_
        refine j_istore_n X [(2, .int (10 * x2)), (0, .int x0), (1, .int x1), (3, .int x3)] dJ6_stringSize_0f7a4_35 (by decide) rfl ?_
        refine j_iinc X (x3 + 1) [(3, .int (x3 + 1)), (2, .int (10 * x2)), (0, .int x0), (1, .int x1)] dJ6_stringSize_0f7a4_36 3 rfl rfl (by decide) rfl ?_
        refine j_goto X 16 dJ6_stringSize_0f7a4_39 (by decide) ?_
        refine j_sub [2, 3, 1, 0] rfl ?_
        exact ih h
      · replace h := jif_f c h
        refine j_iload_n X dJ6_stringSize_0f7a4_27 3 rfl ?_
        refine j_iload_n X dJ6_stringSize_0f7a4_28 1 rfl ?_
        refine j_iadd X dJ6_stringSize_0f7a4_29 ?_
        exact Rt.i dJ6_stringSize_0f7a4_30 ⟨_, rfl, h⟩ (by first | decide | omega) (by first | decide | omega)
def w_J6_stringSize_0f7a4_b11 (κ : Nat → Nat) (w : va_W) (x0 : Int32) (x1 : Int32) (P : Int32 → va_W → Prop) : Prop :=
    w_J6_stringSize_0f7a4_b16 jFu κ w x0 x1 (-10) 1 P
set_option maxRecDepth 100000 in
set_option maxHeartbeats 4000000 in
theorem k_J6_stringSize_0f7a4_b11 {Γ : jG} (X : jX Γ cJ6_stringSize_0f7a4 4 RJ6) (hR : jgR Γ = ({ frames := 0, cells := 0, slots := 0, locals := 0 } : Room)) {P : Int32 → va_W → Prop} (Rt : jRt Γ cJ6_stringSize_0f7a4 4 0 0 (some .int) (jPi P)) {w : va_W} {x0 : Int32} {x1 : Int32} (h : w_J6_stringSize_0f7a4_b11 (jgE Γ).2.2.2 w x0 x1 P) : J Γ 4 w 0 0 11 [(0, .int x0), (1, .int x1)] [] := by
  unfold w_J6_stringSize_0f7a4_b11 at h
  refine j_bipush X (-10) dJ6_stringSize_0f7a4_11 (by decide) ?_
  refine j_istore_n X [(2, .int (-10)), (0, .int x0), (1, .int x1)] dJ6_stringSize_0f7a4_13 (by decide) rfl ?_
  refine j_iconst X 1 dJ6_stringSize_0f7a4_14 (by decide) ?_
  refine j_istore_n X [(3, .int 1), (2, .int (-10)), (0, .int x0), (1, .int x1)] dJ6_stringSize_0f7a4_15 (by decide) rfl ?_
  refine j_sub [2, 3, 1, 0] rfl ?_
  exact k_J6_stringSize_0f7a4_b16 X hR Rt _ h
def w_J6_stringSize_0f7a4_b0 (κ : Nat → Nat) (w : va_W) (x0 : Int32) (P : Int32 → va_W → Prop) : Prop :=
    (if x0 < 0 then w_J6_stringSize_0f7a4_b11 κ w x0 1 P else w_J6_stringSize_0f7a4_b11 κ w (-x0) 0 P)
set_option maxRecDepth 100000 in
set_option maxHeartbeats 4000000 in
theorem k_J6_stringSize_0f7a4_b0 {Γ : jG} (X : jX Γ cJ6_stringSize_0f7a4 4 RJ6) (hR : jgR Γ = ({ frames := 0, cells := 0, slots := 0, locals := 0 } : Room)) {P : Int32 → va_W → Prop} (Rt : jRt Γ cJ6_stringSize_0f7a4 4 0 0 (some .int) (jPi P)) {w : va_W} {x0 : Int32} (h : w_J6_stringSize_0f7a4_b0 (jgE Γ).2.2.2 w x0 P) : J Γ 4 w 0 0 0 [(0, .int x0)] [] := by
  unfold w_J6_stringSize_0f7a4_b0 at h
  refine j_iconst X 1 dJ6_stringSize_0f7a4_0 (by decide) ?_
  refine j_istore_n X [(1, .int 1), (0, .int x0)] dJ6_stringSize_0f7a4_1 (by decide) rfl ?_
  refine j_iload_n X dJ6_stringSize_0f7a4_2 1 rfl ?_
  refine j_if_lt X 11 dJ6_stringSize_0f7a4_3 (by decide) (fun c => ?_) (fun c => ?_)
  · replace h := jif_t c h
    refine j_sub [1, 0] rfl ?_
    exact k_J6_stringSize_0f7a4_b11 X hR Rt h
  · replace h := jif_f c h
    refine j_iconst X 0 dJ6_stringSize_0f7a4_6 (by decide) ?_
    refine j_istore_n X [(1, .int 0), (0, .int x0)] dJ6_stringSize_0f7a4_7 (by decide) rfl ?_
    refine j_iload_n X dJ6_stringSize_0f7a4_8 1 rfl ?_
    refine j_ineg X dJ6_stringSize_0f7a4_9 ?_
    refine j_istore_n X [(0, .int (-x0)), (1, .int 0)] dJ6_stringSize_0f7a4_10 (by decide) rfl ?_
    exact k_J6_stringSize_0f7a4_b11 X hR Rt h
def w_J6_stringSize_0f7a4 (κ : Nat → Nat) (w : va_W) (x0 : Int32) (P : Int32 → va_W → Prop) : Prop := w_J6_stringSize_0f7a4_b0 κ w x0 P
theorem c_J6_stringSize_0f7a4 {E : jE} {w : va_W} {x0 : Int32} {P : Int32 → va_W → Prop} (h : w_J6_stringSize_0f7a4 E.2.2.2 w x0 P) : jC E yJ6_stringSize_0f7a4 cJ6_stringSize_0f7a4 4 (some .int) ({ frames := 0, cells := 0, slots := 0, locals := 0 } : Room) [.int x0] w 0 0 (jPi P) := by
  refine jC_of (by decide) (Nat.le_of_ble_eq_true rfl) ?_
  intro Γ X hE hR Rt
  subst hE
  exact k_J6_stringSize_0f7a4_b0 X hR Rt h
theorem jm_J6_getChars_ba4f3 : jMs yJ6_getChars_ba4f3 cJ6_getChars_ba4f3 7 (some .int) 3 := ⟨jw_952, jw_52, jw_953, ⟨by decide +kernel, by decide +kernel⟩, by decide +kernel⟩
def w_J6_getChars_ba4f3_b118 (κ : Nat → Nat) (w : va_W) (x5 : Int32) (P : Int32 → va_W → Prop) : Prop :=
    P x5 w
set_option maxRecDepth 100000 in
set_option maxHeartbeats 4000000 in
theorem k_J6_getChars_ba4f3_b118 {Γ : jG} (X : jX Γ cJ6_getChars_ba4f3 7 RJ6) (hR : jgR Γ = ({ frames := 0, cells := 0, slots := 0, locals := 0 } : Room)) {P : Int32 → va_W → Prop} (Rt : jRt Γ cJ6_getChars_ba4f3 7 0 0 (some .int) (jPi P)) {w : va_W} {x5 : Int32} (h : w_J6_getChars_ba4f3_b118 (jgE Γ).2.2.2 w x5 P) : J Γ 7 w 0 0 118 [(5, .int x5)] [] := by
  unfold w_J6_getChars_ba4f3_b118 at h
  refine j_iload X dJ6_getChars_ba4f3_118 0 rfl ?_
  exact Rt.i dJ6_getChars_ba4f3_120 ⟨_, rfl, h⟩ (by first | decide | omega) (by first | decide | omega)
def w_J6_getChars_ba4f3_b104 (κ : Nat → Nat) (w : va_W) (a2 : Nat) (x5 : Int32) (x6 : Int32) (P : Int32 → va_W → Prop) : Prop :=
    (if x6 = 0 then w_J6_getChars_ba4f3_b118 κ w x5 P else jSb w a2 (x5 + (-1)) 45 (fun w1 => w_J6_getChars_ba4f3_b118 κ w1 (x5 + (-1)) P))
set_option maxRecDepth 100000 in
set_option maxHeartbeats 4000000 in
theorem k_J6_getChars_ba4f3_b104 {Γ : jG} (X : jX Γ cJ6_getChars_ba4f3 7 RJ6) (hR : jgR Γ = ({ frames := 0, cells := 0, slots := 0, locals := 0 } : Room)) {P : Int32 → va_W → Prop} (Rt : jRt Γ cJ6_getChars_ba4f3 7 0 0 (some .int) (jPi P)) {w : va_W} {a2 : Nat} {x5 : Int32} {x6 : Int32} (h : w_J6_getChars_ba4f3_b104 (jgE Γ).2.2.2 w a2 x5 x6 P) : J Γ 7 w 0 0 104 [(2, .ref a2), (5, .int x5), (6, .int x6)] [] := by
  unfold w_J6_getChars_ba4f3_b104 at h
  refine j_iload X dJ6_getChars_ba4f3_104 2 rfl ?_
  refine j_if_eq X 118 dJ6_getChars_ba4f3_106 (by decide) (fun c => ?_) (fun c => ?_)
  · replace h := jif_t c h
    refine j_sub [1] rfl ?_
    exact k_J6_getChars_ba4f3_b118 X hR Rt h
  · replace h := jif_f c h
    refine j_aload_n X dJ6_getChars_ba4f3_109 0 rfl ?_
    refine j_iinc X (x5 + (-1)) [(5, .int (x5 + (-1))), (2, .ref a2), (6, .int x6)] dJ6_getChars_ba4f3_110 1 rfl rfl (by decide) rfl ?_
    refine j_iload X dJ6_getChars_ba4f3_113 0 rfl ?_
    refine j_bipush X 45 dJ6_getChars_ba4f3_115 (by decide) ?_
    obtain ⟨n1, f1, g1, i1, h⟩ := h
    refine j_bast X g1 i1 dJ6_getChars_ba4f3_117 ?_
    generalize jst w a2 _ = w1 at h ⊢
    refine j_sub [0] rfl ?_
    exact k_J6_getChars_ba4f3_b118 X hR Rt h
def w_J6_getChars_ba4f3_b22 : Nat → (κ : Nat → Nat) → (w : va_W) → (x0 : Int32) → (a2 : Nat) → (x5 : Int32) → (x6 : Int32) → (P : Int32 → va_W → Prop) → Prop
  | 0, _, _, _, _, _, _, _ => False
  | n + 1, κ, w, x0, a2, x5, x6, P =>
    (if (-100) < x0 then (vp_in (-x0) 100 ∧ jSb w a2 (x5 + (-1)) (jDig 0 (-x0)) (fun w1 => (if (-9) ≤ x0 then w_J6_getChars_ba4f3_b104 κ w1 a2 (x5 + (-1)) x6 P else (vp_in (-x0) 100 ∧ jSb w1 a2 ((x5 + (-1)) + (-1)) (jDig 1 (-x0)) (fun w2 => w_J6_getChars_ba4f3_b104 κ w2 a2 ((x5 + (-1)) + (-1)) x6 P))))) else (vp_in (((x0 / 100) * 100) - x0) 100 ∧ jSb w a2 (x5 + (-1)) (jDig 0 (((x0 / 100) * 100) - x0)) (fun w3 => (vp_in (((x0 / 100) * 100) - x0) 100 ∧ jSb w3 a2 ((x5 + (-1)) + (-1)) (jDig 1 (((x0 / 100) * 100) - x0)) (fun w4 => w_J6_getChars_ba4f3_b22 n κ w4 (x0 / 100) a2 ((x5 + (-1)) + (-1)) x6 P)))))
set_option maxRecDepth 100000 in
set_option maxHeartbeats 4000000 in
theorem k_J6_getChars_ba4f3_b22 {Γ : jG} (X : jX Γ cJ6_getChars_ba4f3 7 RJ6) (hR : jgR Γ = ({ frames := 0, cells := 0, slots := 0, locals := 0 } : Room)) {P : Int32 → va_W → Prop} (Rt : jRt Γ cJ6_getChars_ba4f3 7 0 0 (some .int) (jPi P)) : ∀ (n : Nat) {w : va_W} {x0 : Int32} {a2 : Nat} {x5 : Int32} {x6 : Int32} (h : w_J6_getChars_ba4f3_b22 n (jgE Γ).2.2.2 w x0 a2 x5 x6 P), J Γ 7 w 0 0 22 [(0, .int x0), (2, .ref a2), (5, .int x5), (6, .int x6)] [] := by
  intro n
  induction n with
  | zero => intro w x0 a2 x5 x6 h; exact False.elim h
  | succ n ih =>
    intro w x0 a2 x5 x6 h
    rw [w_J6_getChars_ba4f3_b22] at h
    refine j_iload_n X dJ6_getChars_ba4f3_22 0 rfl ?_
    refine j_bipush X (-100) dJ6_getChars_ba4f3_23 (by decide) ?_
    refine j_icmp_gt X 72 dJ6_getChars_ba4f3_25 (by decide) (fun c => ?_) (fun c => ?_)
    · replace h := jif_t c h
      refine j_aload_n X dJ6_getChars_ba4f3_72 1 rfl ?_
      refine j_iinc X (x5 + (-1)) [(5, .int (x5 + (-1))), (0, .int x0), (2, .ref a2), (6, .int x6)] dJ6_getChars_ba4f3_73 2 rfl rfl (by decide) rfl ?_
      refine j_iload X dJ6_getChars_ba4f3_76 0 rfl ?_
      refine j_getsT X 0 (by decide) jw_954 dJ6_getChars_ba4f3_78 ?_
      refine j_iload_n X dJ6_getChars_ba4f3_81 1 rfl ?_
      refine j_ineg X dJ6_getChars_ba4f3_82 ?_
      refine j_tbyt X 0 (by decide) h.1 dJ6_getChars_ba4f3_83 ?_
      replace h := h.2
      obtain ⟨n1, f1, g1, i1, h⟩ := h
      refine j_bast X g1 i1 dJ6_getChars_ba4f3_84 ?_
      generalize jst w a2 _ = w1 at h ⊢
      refine j_iload_n X dJ6_getChars_ba4f3_85 1 rfl ?_
      refine j_bipush X (-9) dJ6_getChars_ba4f3_86 (by decide) ?_
      refine j_icmp_ge X 104 dJ6_getChars_ba4f3_88 (by decide) (fun c => ?_) (fun c => ?_)
      · replace h := jif_t c h
        refine j_sub [2, 0, 3] rfl ?_
        exact k_J6_getChars_ba4f3_b104 X hR Rt h
      · replace h := jif_f c h
        refine j_aload_n X dJ6_getChars_ba4f3_91 2 rfl ?_
        refine j_iinc X ((x5 + (-1)) + (-1)) [(5, .int ((x5 + (-1)) + (-1))), (0, .int x0), (2, .ref a2), (6, .int x6)] dJ6_getChars_ba4f3_92 0 rfl rfl (by decide) rfl ?_
        refine j_iload X dJ6_getChars_ba4f3_95 0 rfl ?_
        refine j_getsT X 1 (by decide) jw_956 dJ6_getChars_ba4f3_97 ?_
        refine j_iload_n X dJ6_getChars_ba4f3_100 1 rfl ?_
        refine j_ineg X dJ6_getChars_ba4f3_101 ?_
        refine j_tbyt X 1 (by decide) h.1 dJ6_getChars_ba4f3_102 ?_
        replace h := h.2
        obtain ⟨n2, f2, g2, i2, h⟩ := h
        refine j_bast X g2 i2 dJ6_getChars_ba4f3_103 ?_
        generalize jst w1 a2 _ = w2 at h ⊢
        refine j_sub [2, 0, 3] rfl ?_
        exact k_J6_getChars_ba4f3_b104 X hR Rt h
    · replace h := jif_f c h
      refine j_iload_n X dJ6_getChars_ba4f3_28 0 rfl ?_
      refine j_bipush X 100 dJ6_getChars_ba4f3_29 (by decide) ?_
      refine j_idiv X dJ6_getChars_ba4f3_31 (by decide) ?_
      refine j_istore_n X [(3, .int (x0 / 100)), (0, .int x0), (2, .ref a2), (5, .int x5), (6, .int x6)] dJ6_getChars_ba4f3_32 (by decide) rfl ?_
      refine j_iload_n X dJ6_getChars_ba4f3_33 0 rfl ?_
      refine j_bipush X 100 dJ6_getChars_ba4f3_34 (by decide) ?_
      refine j_imul X dJ6_getChars_ba4f3_36 ?_
      refine j_iload_n X dJ6_getChars_ba4f3_37 1 rfl ?_
      refine j_isub X dJ6_getChars_ba4f3_38 ?_
      refine j_istore X [(4, .int (((x0 / 100) * 100) - x0)), (3, .int (x0 / 100)), (0, .int x0), (2, .ref a2), (5, .int x5), (6, .int x6)] dJ6_getChars_ba4f3_39 (by decide) rfl ?_
      refine j_iload_n X dJ6_getChars_ba4f3_41 1 rfl ?_
      refine j_istore_n X [(0, .int (x0 / 100)), (4, .int (((x0 / 100) * 100) - x0)), (3, .int (x0 / 100)), (2, .ref a2), (5, .int x5), (6, .int x6)] dJ6_getChars_ba4f3_42 (by decide) rfl ?_
      refine j_aload_n X dJ6_getChars_ba4f3_43 3 rfl ?_
      refine j_iinc X (x5 + (-1)) [(5, .int (x5 + (-1))), (0, .int (x0 / 100)), (4, .int (((x0 / 100) * 100) - x0)), (3, .int (x0 / 100)), (2, .ref a2), (6, .int x6)] dJ6_getChars_ba4f3_44 4 rfl rfl (by decide) rfl ?_
      refine j_iload X dJ6_getChars_ba4f3_47 0 rfl ?_
      refine j_getsT X 0 (by decide) jw_954 dJ6_getChars_ba4f3_49 ?_
      refine j_iload X dJ6_getChars_ba4f3_52 2 rfl ?_
      refine j_tbyt X 0 (by decide) h.1 dJ6_getChars_ba4f3_54 ?_
      replace h := h.2
      obtain ⟨n3, f3, g3, i3, h⟩ := h
      refine j_bast X g3 i3 dJ6_getChars_ba4f3_55 ?_
      generalize jst w a2 _ = w3 at h ⊢
      refine j_aload_n X dJ6_getChars_ba4f3_56 4 rfl ?_
      refine j_iinc X ((x5 + (-1)) + (-1)) [(5, .int ((x5 + (-1)) + (-1))), (0, .int (x0 / 100)), (4, .int (((x0 / 100) * 100) - x0)), (3, .int (x0 / 100)), (2, .ref a2), (6, .int x6)] dJ6_getChars_ba4f3_57 0 rfl rfl (by decide) rfl ?_
      refine j_iload X dJ6_getChars_ba4f3_60 0 rfl ?_
      refine j_getsT X 1 (by decide) jw_956 dJ6_getChars_ba4f3_62 ?_
      refine j_iload X dJ6_getChars_ba4f3_65 2 rfl ?_
      refine j_tbyt X 1 (by decide) h.1 dJ6_getChars_ba4f3_67 ?_
      replace h := h.2
      obtain ⟨n4, f4, g4, i4, h⟩ := h
      refine j_bast X g4 i4 dJ6_getChars_ba4f3_68 ?_
      generalize jst w3 a2 _ = w4 at h ⊢
      refine j_goto X 22 dJ6_getChars_ba4f3_69 (by decide) ?_
      refine j_sub [1, 4, 0, 5] rfl ?_
      exact ih h
def w_J6_getChars_ba4f3_b12 (κ : Nat → Nat) (w : va_W) (x0 : Int32) (a2 : Nat) (x5 : Int32) (s0 : Int32) (P : Int32 → va_W → Prop) : Prop :=
    (if s0 = 0 then w_J6_getChars_ba4f3_b22 jFu κ w (-x0) a2 x5 s0 P else w_J6_getChars_ba4f3_b22 jFu κ w x0 a2 x5 s0 P)
set_option maxRecDepth 100000 in
set_option maxHeartbeats 4000000 in
theorem k_J6_getChars_ba4f3_b12 {Γ : jG} (X : jX Γ cJ6_getChars_ba4f3 7 RJ6) (hR : jgR Γ = ({ frames := 0, cells := 0, slots := 0, locals := 0 } : Room)) {P : Int32 → va_W → Prop} (Rt : jRt Γ cJ6_getChars_ba4f3 7 0 0 (some .int) (jPi P)) {w : va_W} {x0 : Int32} {a2 : Nat} {x5 : Int32} {s0 : Int32} (h : w_J6_getChars_ba4f3_b12 (jgE Γ).2.2.2 w x0 a2 x5 s0 P) : J Γ 7 w 0 0 12 [(0, .int x0), (2, .ref a2), (5, .int x5)] [.int s0] := by
  unfold w_J6_getChars_ba4f3_b12 at h
  refine j_istore X [(6, .int s0), (0, .int x0), (2, .ref a2), (5, .int x5)] dJ6_getChars_ba4f3_12 (by decide) rfl ?_
  refine j_iload X dJ6_getChars_ba4f3_14 0 rfl ?_
  refine j_if_ne X 22 dJ6_getChars_ba4f3_16 (by decide) (fun c => ?_) (fun c => ?_)
  · replace h := jif_f c h
    refine j_sub [1, 2, 3, 0] rfl ?_
    exact k_J6_getChars_ba4f3_b22 X hR Rt _ h
  · replace h := jif_t c h
    refine j_iload_n X dJ6_getChars_ba4f3_19 1 rfl ?_
    refine j_ineg X dJ6_getChars_ba4f3_20 ?_
    refine j_istore_n X [(0, .int (-x0)), (6, .int s0), (2, .ref a2), (5, .int x5)] dJ6_getChars_ba4f3_21 (by decide) rfl ?_
    refine j_sub [0, 2, 3, 1] rfl ?_
    exact k_J6_getChars_ba4f3_b22 X hR Rt _ h
def w_J6_getChars_ba4f3_b0 (κ : Nat → Nat) (w : va_W) (x0 : Int32) (x1 : Int32) (a2 : Nat) (P : Int32 → va_W → Prop) : Prop :=
    (if 0 ≤ x0 then w_J6_getChars_ba4f3_b12 κ w x0 a2 x1 0 P else w_J6_getChars_ba4f3_b12 κ w x0 a2 x1 1 P)
set_option maxRecDepth 100000 in
set_option maxHeartbeats 4000000 in
theorem k_J6_getChars_ba4f3_b0 {Γ : jG} (X : jX Γ cJ6_getChars_ba4f3 7 RJ6) (hR : jgR Γ = ({ frames := 0, cells := 0, slots := 0, locals := 0 } : Room)) {P : Int32 → va_W → Prop} (Rt : jRt Γ cJ6_getChars_ba4f3 7 0 0 (some .int) (jPi P)) {w : va_W} {x0 : Int32} {x1 : Int32} {a2 : Nat} (h : w_J6_getChars_ba4f3_b0 (jgE Γ).2.2.2 w x0 x1 a2 P) : J Γ 7 w 0 0 0 [(0, .int x0), (1, .int x1), (2, .ref a2)] [] := by
  unfold w_J6_getChars_ba4f3_b0 at h
  refine j_iload_n X dJ6_getChars_ba4f3_0 1 rfl ?_
  refine j_istore X [(5, .int x1), (0, .int x0), (1, .int x1), (2, .ref a2)] dJ6_getChars_ba4f3_1 (by decide) rfl ?_
  refine j_iload_n X dJ6_getChars_ba4f3_3 1 rfl ?_
  refine j_if_ge X 11 dJ6_getChars_ba4f3_4 (by decide) (fun c => ?_) (fun c => ?_)
  · replace h := jif_t c h
    refine j_iconst X 0 dJ6_getChars_ba4f3_11 (by decide) ?_
    refine j_sub [1, 3, 0] rfl ?_
    exact k_J6_getChars_ba4f3_b12 X hR Rt h
  · replace h := jif_f c h
    refine j_iconst X 1 dJ6_getChars_ba4f3_7 (by decide) ?_
    refine j_goto X 12 dJ6_getChars_ba4f3_8 (by decide) ?_
    refine j_sub [1, 3, 0] rfl ?_
    exact k_J6_getChars_ba4f3_b12 X hR Rt h
def w_J6_getChars_ba4f3 (κ : Nat → Nat) (w : va_W) (x0 : Int32) (x1 : Int32) (a2 : Nat) (P : Int32 → va_W → Prop) : Prop := w_J6_getChars_ba4f3_b0 κ w x0 x1 a2 P
theorem c_J6_getChars_ba4f3 {E : jE} {w : va_W} {x0 : Int32} {x1 : Int32} {a2 : Nat} {P : Int32 → va_W → Prop} (h : w_J6_getChars_ba4f3 E.2.2.2 w x0 x1 a2 P) : jC E yJ6_getChars_ba4f3 cJ6_getChars_ba4f3 7 (some .int) ({ frames := 0, cells := 0, slots := 0, locals := 0 } : Room) [.int x0, .int x1, .ref a2] w 0 0 (jPi P) := by
  refine jC_of (by decide) (Nat.le_of_ble_eq_true rfl) ?_
  intro Γ X hE hR Rt
  subst hE
  exact k_J6_getChars_ba4f3_b0 X hR Rt h
def w_J5_append_c97b9_b48 (κ : Nat → Nat) (w : va_W) (a0 : Nat) (x3 : Int32) (P : Nat → va_W → Prop) : Prop :=
    (jpV w a0 1 3 (.int x3) (fun w1 => P a0 w1))
set_option maxRecDepth 100000 in
set_option maxHeartbeats 4000000 in
theorem k_J5_append_c97b9_b48 {Γ : jG} (X : jX Γ cJ5_append_c97b9 4 RJ5) (hR : jgR Γ = ({ frames := 4, cells := 2, slots := 406, locals := 152 } : Room)) {P : Nat → va_W → Prop} (Rt : jRt Γ cJ5_append_c97b9 4 2 406 (some (.object "java/lang/AbstractStringBuilder")) (jPr P)) {w : va_W} {a0 : Nat} {x3 : Int32} (h : w_J5_append_c97b9_b48 (jgE Γ).2.2.2 w a0 x3 P) : J Γ 4 w 2 406 48 [(0, .ref a0), (3, .int x3)] [] := by
  unfold w_J5_append_c97b9_b48 at h
  refine j_aload_n X dJ5_append_c97b9_48 0 rfl ?_
  refine j_iload_n X dJ5_append_c97b9_49 1 rfl ?_
  obtain ⟨fs1, g1, i1, h⟩ := h
  refine j_put X (ci := 1) (C := RJ4) (T := TJ4) (N := 4) rfl jin_J4 tyJ4 tyJ4_ok nmJ4 3 (by decide) g1 jw_251 rfl rfl (by rfl) (by rfl) i1 dJ5_append_c97b9_50 ?_
  generalize jst w a0 _ = w1 at h ⊢
  refine j_aload_n X dJ5_append_c97b9_53 0 rfl ?_
  exact Rt.a (Or.inl ⟨_, rfl⟩) dJ5_append_c97b9_54 ⟨_, rfl, h⟩ (by first | decide | omega) (by first | decide | omega)
def w_J5_append_c97b9_b0 (κ : Nat → Nat) (w : va_W) (a0 : Nat) (x1 : Int32) (P : Nat → va_W → Prop) : Prop :=
    jgI w a0 1 3 (fun v1 => w_J6_stringSize_0f7a4 κ w x1 (fun v2 w2 => (jRc w2 a0 1 ∧ w_J5_ensureCapacityInternal_d00df κ w2 a0 (v1 + v2) (fun w3 => (jRc w3 a0 1 ∧ w_J5_isLatin1_aae02 κ w3 a0 (fun v4 w4 => (if v4 = 0 then jgR' w4 a0 1 0 (fun r5 => False) else jgR' w4 a0 1 0 (fun r6 => w_J6_getChars_ba4f3 κ w4 x1 (v1 + v2) r6 (fun v7 w7 => w_J5_append_c97b9_b48 κ w7 a0 (v1 + v2) P)))))))))
set_option maxRecDepth 100000 in
set_option maxHeartbeats 4000000 in
theorem k_J5_append_c97b9_b0 {Γ : jG} (X : jX Γ cJ5_append_c97b9 4 RJ5) (hR : jgR Γ = ({ frames := 4, cells := 2, slots := 406, locals := 152 } : Room)) {P : Nat → va_W → Prop} (Rt : jRt Γ cJ5_append_c97b9 4 2 406 (some (.object "java/lang/AbstractStringBuilder")) (jPr P)) {w : va_W} {a0 : Nat} {x1 : Int32} (h : w_J5_append_c97b9_b0 (jgE Γ).2.2.2 w a0 x1 P) : J Γ 4 w 0 0 0 [(0, .ref a0), (1, .int x1)] [] := by
  unfold w_J5_append_c97b9_b0 at h
  refine j_aload_n X dJ5_append_c97b9_0 0 rfl ?_
  obtain ⟨fs1, v1, g1, i1, h⟩ := h
  refine j_get X (ci := 1) (C := RJ4) (T := TJ4) (N := 4) rfl jin_J4 3 (by decide) g1 i1 jw_251 rfl dJ5_append_c97b9_1 ?_
  refine j_istore_n X [(2, .int v1), (0, .ref a0), (1, .int x1)] dJ5_append_c97b9_4 (by decide) rfl ?_
  refine j_iload_n X dJ5_append_c97b9_5 0 rfl ?_
  refine j_iload_n X dJ5_append_c97b9_6 2 rfl ?_
  refine j_callSi X [.int x1] [.int v1] (c_J6_stringSize_0f7a4 h) jm_J6_stringSize_0f7a4 jw_948 rfl ⟨rfl, rfl⟩ (by rw [hR]; decide) rfl (Nat.le_of_ble_eq_true rfl) dJ5_append_c97b9_7 (fun v2 w2 h => ?_)
  refine j_iadd X dJ5_append_c97b9_10 ?_
  refine j_istore_n X [(3, .int (v1 + v2)), (2, .int v1), (0, .ref a0), (1, .int x1)] dJ5_append_c97b9_11 (by decide) rfl ?_
  refine j_aload_n X dJ5_append_c97b9_12 2 rfl ?_
  refine j_iload_n X dJ5_append_c97b9_13 0 rfl ?_
  obtain ⟨⟨fs3, g3⟩, h⟩ := h
  refine j_callUv X [.int (v1 + v2)] [] (c_J5_ensureCapacityInternal_d00df h) (C := RJ4) (T := TJ4) (N := 4) g3 rfl jmu_J5_ensureCapacityInternal_d00df jw_855 rfl ⟨rfl, rfl⟩ (by rw [hR]; decide) rfl (Nat.le_of_ble_eq_true rfl) dJ5_append_c97b9_14 (fun w3 h => ?_)
  refine j_aload_n X dJ5_append_c97b9_17 2 rfl ?_
  obtain ⟨⟨fs4, g4⟩, h⟩ := h
  refine j_callUi X [] [] (c_J5_isLatin1_aae02 h) (C := RJ4) (T := TJ4) (N := 4) g4 rfl jmu_J5_isLatin1_aae02 jw_886 rfl ⟨rfl, rfl⟩ (by rw [hR]; decide) rfl (Nat.le_of_ble_eq_true rfl) dJ5_append_c97b9_18 (fun v4 w4 h => ?_)
  refine j_if_eq X 37 dJ5_append_c97b9_21 (by decide) (fun c => ?_) (fun c => ?_)
  · replace h := jif_t c h
    refine j_iload_n X dJ5_append_c97b9_37 3 rfl ?_
    refine j_iload_n X dJ5_append_c97b9_38 1 rfl ?_
    refine j_iload_n X dJ5_append_c97b9_39 0 rfl ?_
    refine j_aload_n X dJ5_append_c97b9_40 2 rfl ?_
    obtain ⟨fs5, r5, g5, i5, h⟩ := h
    refine j_get X (ci := 1) (C := RJ4) (T := TJ4) (N := 4) rfl jin_J4 0 (by decide) g5 i5 jw_247 rfl dJ5_append_c97b9_41 ?_
    exact h.elim
  · replace h := jif_f c h
    refine j_iload_n X dJ5_append_c97b9_24 3 rfl ?_
    refine j_iload_n X dJ5_append_c97b9_25 0 rfl ?_
    refine j_aload_n X dJ5_append_c97b9_26 2 rfl ?_
    obtain ⟨fs6, r6, g6, i6, h⟩ := h
    refine j_get X (ci := 1) (C := RJ4) (T := TJ4) (N := 4) rfl jin_J4 0 (by decide) g6 i6 jw_247 rfl dJ5_append_c97b9_27 ?_
    refine j_callSi X [.int x1, .int (v1 + v2), .ref r6] [] (c_J6_getChars_ba4f3 h) jm_J6_getChars_ba4f3 jw_951 rfl ⟨rfl, rfl⟩ (by rw [hR]; decide) rfl (Nat.le_of_ble_eq_true rfl) dJ5_append_c97b9_30 (fun v7 w7 h => ?_)
    refine j_pop X dJ5_append_c97b9_33 rfl ?_
    refine j_goto X 48 dJ5_append_c97b9_34 (by decide) ?_
    refine j_sub [2, 0] rfl ?_
    refine j_widen (k := 2) (n := 406) (by decide) (by decide) ?_
    exact k_J5_append_c97b9_b48 X hR Rt h
def w_J5_append_c97b9 (κ : Nat → Nat) (w : va_W) (a0 : Nat) (x1 : Int32) (P : Nat → va_W → Prop) : Prop := w_J5_append_c97b9_b0 κ w a0 x1 P
theorem c_J5_append_c97b9 {E : jE} {w : va_W} {a0 : Nat} {x1 : Int32} {P : Nat → va_W → Prop} (h : w_J5_append_c97b9 E.2.2.2 w a0 x1 P) : jC E yJ5_append_c97b9 cJ5_append_c97b9 4 (some (.object "java/lang/AbstractStringBuilder")) ({ frames := 4, cells := 2, slots := 406, locals := 152 } : Room) [.ref a0, .int x1] w 2 406 (jPr P) := by
  refine jC_of (by decide) (Nat.le_of_ble_eq_true rfl) ?_
  intro Γ X hE hR Rt
  subst hE
  exact k_J5_append_c97b9_b0 X hR Rt h
theorem jm_J4_append_bf812 : jMv yJ4_append_bf812 cJ4_append_bf812 2 (some (.object "java/lang/StringBuilder")) 1 := ⟨jw_942, jw_943, jw_32, jw_944, ⟨by decide +kernel, by decide +kernel⟩, by decide +kernel⟩
theorem jmz_J5_append_c97b9 : jMz yJ5_append_c97b9 cJ5_append_c97b9 4 (some (.object "java/lang/AbstractStringBuilder")) 1 RJ4 := ⟨jw_946, jw_260, jw_31, jw_947, by decide +kernel, by decide +kernel, jw_1562⟩
def w_J4_append_bf812_b0 (κ : Nat → Nat) (w : va_W) (a0 : Nat) (x1 : Int32) (P : Nat → va_W → Prop) : Prop :=
    (jRc w a0 1 ∧ w_J5_append_c97b9 κ w a0 x1 (fun r1 w1 => P a0 w1))
set_option maxRecDepth 100000 in
set_option maxHeartbeats 4000000 in
theorem k_J4_append_bf812_b0 {Γ : jG} (X : jX Γ cJ4_append_bf812 2 RJ4) (hR : jgR Γ = ({ frames := 5, cells := 2, slots := 406, locals := 175 } : Room)) {P : Nat → va_W → Prop} (Rt : jRt Γ cJ4_append_bf812 2 2 406 (some (.object "java/lang/StringBuilder")) (jPr P)) {w : va_W} {a0 : Nat} {x1 : Int32} (h : w_J4_append_bf812_b0 (jgE Γ).2.2.2 w a0 x1 P) : J Γ 2 w 0 0 0 [(0, .ref a0), (1, .int x1)] [] := by
  unfold w_J4_append_bf812_b0 at h
  refine j_aload_n X dJ4_append_bf812_0 0 rfl ?_
  refine j_iload_n X dJ4_append_bf812_1 1 rfl ?_
  obtain ⟨⟨fs1, g1⟩, h⟩ := h
  refine j_callZr X [.int x1] [] (c_J5_append_c97b9 h) (C := RJ4) (T := TJ4) (N := 4) g1 rfl jmz_J5_append_c97b9 jw_945 rfl ⟨rfl, rfl⟩ (by rw [hR]; decide) rfl (Nat.le_of_ble_eq_true rfl) dJ4_append_bf812_2 (fun r1 w1 h => ?_)
  refine j_pop X dJ4_append_bf812_5 rfl ?_
  refine j_aload_n X dJ4_append_bf812_6 0 rfl ?_
  exact Rt.a (Or.inl ⟨_, rfl⟩) dJ4_append_bf812_7 ⟨_, rfl, h⟩ (by first | decide | omega) (by first | decide | omega)
def w_J4_append_bf812 (κ : Nat → Nat) (w : va_W) (a0 : Nat) (x1 : Int32) (P : Nat → va_W → Prop) : Prop := w_J4_append_bf812_b0 κ w a0 x1 P
theorem c_J4_append_bf812 {E : jE} {w : va_W} {a0 : Nat} {x1 : Int32} {P : Nat → va_W → Prop} (h : w_J4_append_bf812 E.2.2.2 w a0 x1 P) : jC E yJ4_append_bf812 cJ4_append_bf812 2 (some (.object "java/lang/StringBuilder")) ({ frames := 5, cells := 2, slots := 406, locals := 175 } : Room) [.ref a0, .int x1] w 2 406 (jPr P) := by
  refine jC_of (by decide) (Nat.le_of_ble_eq_true rfl) ?_
  intro Γ X hE hR Rt
  subst hE
  exact k_J4_append_bf812_b0 X hR Rt h
def w_J5_setLength_d00df_b76 (κ : Nat → Nat) (w : va_W) (a0 : Nat) (x1 : Int32) (P : va_W → Prop) : Prop :=
    (jpV w a0 1 3 (.int x1) (fun w1 => P w1))
set_option maxRecDepth 100000 in
set_option maxHeartbeats 4000000 in
theorem k_J5_setLength_d00df_b76 {Γ : jG} (X : jX Γ cJ5_setLength_d00df 2 RJ5) (hR : jgR Γ = ({ frames := 4, cells := 2, slots := 406, locals := 152 } : Room)) {P : va_W → Prop} (Rt : jRt Γ cJ5_setLength_d00df 2 2 406 none (jPv P)) {w : va_W} {a0 : Nat} {x1 : Int32} (h : w_J5_setLength_d00df_b76 (jgE Γ).2.2.2 w a0 x1 P) : J Γ 2 w 2 406 76 [(0, .ref a0), (1, .int x1)] [] := by
  unfold w_J5_setLength_d00df_b76 at h
  refine j_aload_n X dJ5_setLength_d00df_76 0 rfl ?_
  refine j_iload_n X dJ5_setLength_d00df_77 1 rfl ?_
  obtain ⟨fs1, g1, i1, h⟩ := h
  refine j_put X (ci := 1) (C := RJ4) (T := TJ4) (N := 4) rfl jin_J4 tyJ4 tyJ4_ok nmJ4 3 (by decide) g1 jw_251 rfl rfl (by rfl) (by rfl) i1 dJ5_setLength_d00df_78 ?_
  generalize jst w a0 _ = w1 at h ⊢
  exact Rt.v dJ5_setLength_d00df_81 ⟨rfl, h⟩ (by first | decide | omega) (by first | decide | omega)
def w_J5_setLength_d00df_b0 (κ : Nat → Nat) (w : va_W) (a0 : Nat) (x1 : Int32) (P : va_W → Prop) : Prop :=
    (if 0 ≤ x1 then (jRc w a0 1 ∧ w_J5_ensureCapacityInternal_d00df κ w a0 x1 (fun w1 => jgI w1 a0 1 3 (fun v2 => (if x1 ≤ v2 then jgI w1 a0 1 3 (fun v3 => (if v3 ≤ x1 then w_J5_setLength_d00df_b76 κ w1 a0 x1 P else (jpV w1 a0 1 2 (.int 1) (fun w4 => w_J5_setLength_d00df_b76 κ w4 a0 x1 P)))) else (jRc w1 a0 1 ∧ w_J5_isLatin1_aae02 κ w1 a0 (fun v5 w5 => (if v5 = 0 then jgR' w5 a0 1 0 (fun r6 => jgI w5 a0 1 3 (fun v7 => False)) else jgR' w5 a0 1 0 (fun r8 => jgI w5 a0 1 3 (fun v9 => False))))))))) else False)
set_option maxRecDepth 100000 in
set_option maxHeartbeats 4000000 in
theorem k_J5_setLength_d00df_b0 {Γ : jG} (X : jX Γ cJ5_setLength_d00df 2 RJ5) (hR : jgR Γ = ({ frames := 4, cells := 2, slots := 406, locals := 152 } : Room)) {P : va_W → Prop} (Rt : jRt Γ cJ5_setLength_d00df 2 2 406 none (jPv P)) {w : va_W} {a0 : Nat} {x1 : Int32} (h : w_J5_setLength_d00df_b0 (jgE Γ).2.2.2 w a0 x1 P) : J Γ 2 w 0 0 0 [(0, .ref a0), (1, .int x1)] [] := by
  unfold w_J5_setLength_d00df_b0 at h
  refine j_iload_n X dJ5_setLength_d00df_0 1 rfl ?_
  refine j_if_ge X 13 dJ5_setLength_d00df_1 (by decide) (fun c => ?_) (fun c => ?_)
  · replace h := jif_t c h
    refine j_aload_n X dJ5_setLength_d00df_13 0 rfl ?_
    refine j_iload_n X dJ5_setLength_d00df_14 1 rfl ?_
    obtain ⟨⟨fs1, g1⟩, h⟩ := h
    refine j_callUv X [.int x1] [] (c_J5_ensureCapacityInternal_d00df h) (C := RJ4) (T := TJ4) (N := 4) g1 rfl jmu_J5_ensureCapacityInternal_d00df jw_855 rfl ⟨rfl, rfl⟩ (by rw [hR]; decide) rfl (Nat.le_of_ble_eq_true rfl) dJ5_setLength_d00df_15 (fun w1 h => ?_)
    refine j_aload_n X dJ5_setLength_d00df_18 0 rfl ?_
    obtain ⟨fs2, v2, g2, i2, h⟩ := h
    refine j_get X (ci := 1) (C := RJ4) (T := TJ4) (N := 4) rfl jin_J4 3 (by decide) g2 i2 jw_251 rfl dJ5_setLength_d00df_19 ?_
    refine j_iload_n X dJ5_setLength_d00df_22 1 rfl ?_
    refine j_icmp_ge X 63 dJ5_setLength_d00df_23 (by decide) (fun c => ?_) (fun c => ?_)
    · replace h := jif_t c h
      refine j_aload_n X dJ5_setLength_d00df_63 0 rfl ?_
      obtain ⟨fs3, v3, g3, i3, h⟩ := h
      refine j_get X (ci := 1) (C := RJ4) (T := TJ4) (N := 4) rfl jin_J4 3 (by decide) g3 i3 jw_251 rfl dJ5_setLength_d00df_64 ?_
      refine j_iload_n X dJ5_setLength_d00df_67 1 rfl ?_
      refine j_icmp_le X 76 dJ5_setLength_d00df_68 (by decide) (fun c => ?_) (fun c => ?_)
      · replace h := jif_t c h
        refine j_widen (k := 2) (n := 406) (by decide) (by decide) ?_
        exact k_J5_setLength_d00df_b76 X hR Rt h
      · replace h := jif_f c h
        refine j_aload_n X dJ5_setLength_d00df_71 0 rfl ?_
        refine j_iconst X 1 dJ5_setLength_d00df_72 (by decide) ?_
        obtain ⟨fs4, g4, i4, h⟩ := h
        refine j_put X (ci := 1) (C := RJ4) (T := TJ4) (N := 4) rfl jin_J4 tyJ4 tyJ4_ok nmJ4 2 (by decide) g4 jw_249 rfl rfl (by decide) (by decide) i4 dJ5_setLength_d00df_73 ?_
        generalize jst w1 a0 _ = w4 at h ⊢
        refine j_widen (k := 2) (n := 406) (by decide) (by decide) ?_
        exact k_J5_setLength_d00df_b76 X hR Rt h
    · replace h := jif_f c h
      refine j_aload_n X dJ5_setLength_d00df_26 0 rfl ?_
      obtain ⟨⟨fs5, g5⟩, h⟩ := h
      refine j_callUi X [] [] (c_J5_isLatin1_aae02 h) (C := RJ4) (T := TJ4) (N := 4) g5 rfl jmu_J5_isLatin1_aae02 jw_886 rfl ⟨rfl, rfl⟩ (by rw [hR]; decide) rfl (Nat.le_of_ble_eq_true rfl) dJ5_setLength_d00df_27 (fun v5 w5 h => ?_)
      refine j_if_eq X 48 dJ5_setLength_d00df_30 (by decide) (fun c => ?_) (fun c => ?_)
      · replace h := jif_t c h
        refine j_aload_n X dJ5_setLength_d00df_48 0 rfl ?_
        obtain ⟨fs6, r6, g6, i6, h⟩ := h
        refine j_get X (ci := 1) (C := RJ4) (T := TJ4) (N := 4) rfl jin_J4 0 (by decide) g6 i6 jw_247 rfl dJ5_setLength_d00df_49 ?_
        refine j_aload_n X dJ5_setLength_d00df_52 0 rfl ?_
        obtain ⟨fs7, v7, g7, i7, h⟩ := h
        refine j_get X (ci := 1) (C := RJ4) (T := TJ4) (N := 4) rfl jin_J4 3 (by decide) g7 i7 jw_251 rfl dJ5_setLength_d00df_53 ?_
        refine j_iload_n X dJ5_setLength_d00df_56 1 rfl ?_
        exact h.elim
      · replace h := jif_f c h
        refine j_aload_n X dJ5_setLength_d00df_33 0 rfl ?_
        obtain ⟨fs8, r8, g8, i8, h⟩ := h
        refine j_get X (ci := 1) (C := RJ4) (T := TJ4) (N := 4) rfl jin_J4 0 (by decide) g8 i8 jw_247 rfl dJ5_setLength_d00df_34 ?_
        refine j_aload_n X dJ5_setLength_d00df_37 0 rfl ?_
        obtain ⟨fs9, v9, g9, i9, h⟩ := h
        refine j_get X (ci := 1) (C := RJ4) (T := TJ4) (N := 4) rfl jin_J4 3 (by decide) g9 i9 jw_251 rfl dJ5_setLength_d00df_38 ?_
        refine j_iload_n X dJ5_setLength_d00df_41 1 rfl ?_
        exact h.elim
  · replace h := jif_f c h
    exact h.elim
def w_J5_setLength_d00df (κ : Nat → Nat) (w : va_W) (a0 : Nat) (x1 : Int32) (P : va_W → Prop) : Prop := w_J5_setLength_d00df_b0 κ w a0 x1 P
theorem c_J5_setLength_d00df {E : jE} {w : va_W} {a0 : Nat} {x1 : Int32} {P : va_W → Prop} (h : w_J5_setLength_d00df E.2.2.2 w a0 x1 P) : jC E yJ5_setLength_d00df cJ5_setLength_d00df 2 none ({ frames := 4, cells := 2, slots := 406, locals := 152 } : Room) [.ref a0, .int x1] w 2 406 (jPv P) := by
  refine jC_of (by decide) (Nat.le_of_ble_eq_true rfl) ?_
  intro Γ X hE hR Rt
  subst hE
  exact k_J5_setLength_d00df_b0 X hR Rt h
theorem jm_J4_setLength_d00df : jMv yJ4_setLength_d00df cJ4_setLength_d00df 2 none 1 := ⟨jw_830, jw_831, jw_32, jw_832, ⟨by decide +kernel, by decide +kernel⟩, by decide +kernel⟩
theorem jmz_J5_setLength_d00df : jMz yJ5_setLength_d00df cJ5_setLength_d00df 2 none 1 RJ4 := ⟨jw_834, jw_260, jw_31, jw_835, by decide +kernel, by decide +kernel, jw_1554⟩
def w_J4_setLength_d00df_b0 (κ : Nat → Nat) (w : va_W) (a0 : Nat) (x1 : Int32) (P : va_W → Prop) : Prop :=
    (jRc w a0 1 ∧ w_J5_setLength_d00df κ w a0 x1 (fun w1 => P w1))
set_option maxRecDepth 100000 in
set_option maxHeartbeats 4000000 in
theorem k_J4_setLength_d00df_b0 {Γ : jG} (X : jX Γ cJ4_setLength_d00df 2 RJ4) (hR : jgR Γ = ({ frames := 5, cells := 2, slots := 406, locals := 173 } : Room)) {P : va_W → Prop} (Rt : jRt Γ cJ4_setLength_d00df 2 2 406 none (jPv P)) {w : va_W} {a0 : Nat} {x1 : Int32} (h : w_J4_setLength_d00df_b0 (jgE Γ).2.2.2 w a0 x1 P) : J Γ 2 w 0 0 0 [(0, .ref a0), (1, .int x1)] [] := by
  unfold w_J4_setLength_d00df_b0 at h
  refine j_aload_n X dJ4_setLength_d00df_0 0 rfl ?_
  refine j_iload_n X dJ4_setLength_d00df_1 1 rfl ?_
  obtain ⟨⟨fs1, g1⟩, h⟩ := h
  refine j_callZv X [.int x1] [] (c_J5_setLength_d00df h) (C := RJ4) (T := TJ4) (N := 4) g1 rfl jmz_J5_setLength_d00df jw_833 rfl ⟨rfl, rfl⟩ (by rw [hR]; decide) rfl (Nat.le_of_ble_eq_true rfl) dJ4_setLength_d00df_2 (fun w1 h => ?_)
  exact Rt.v dJ4_setLength_d00df_5 ⟨rfl, h⟩ (by first | decide | omega) (by first | decide | omega)
def w_J4_setLength_d00df (κ : Nat → Nat) (w : va_W) (a0 : Nat) (x1 : Int32) (P : va_W → Prop) : Prop := w_J4_setLength_d00df_b0 κ w a0 x1 P
theorem c_J4_setLength_d00df {E : jE} {w : va_W} {a0 : Nat} {x1 : Int32} {P : va_W → Prop} (h : w_J4_setLength_d00df E.2.2.2 w a0 x1 P) : jC E yJ4_setLength_d00df cJ4_setLength_d00df 2 none ({ frames := 5, cells := 2, slots := 406, locals := 173 } : Room) [.ref a0, .int x1] w 2 406 (jPv P) := by
  refine jC_of (by decide) (Nat.le_of_ble_eq_true rfl) ?_
  intro Γ X hE hR Rt
  subst hE
  exact k_J4_setLength_d00df_b0 X hR Rt h
theorem jm_X4_empty : jMv yX4_empty cX4_empty 1 none 0 := ⟨jw_826, jw_827, jw_30, jw_828, ⟨by decide +kernel, by decide +kernel⟩, by decide +kernel⟩
def w_X4_empty_b0 (κ : Nat → Nat) (w : va_W) (a0 : Nat) (P : va_W → Prop) : Prop :=
    jgR' w a0 7 0 (fun r1 => (jRc w r1 1 ∧ w_J4_setLength_d00df κ w r1 0 (fun w2 => P w2)))
set_option maxRecDepth 100000 in
set_option maxHeartbeats 4000000 in
theorem k_X4_empty_b0 {Γ : jG} (X : jX Γ cX4_empty 1 RX4) (hR : jgR Γ = ({ frames := 6, cells := 2, slots := 406, locals := 194 } : Room)) {P : va_W → Prop} (Rt : jRt Γ cX4_empty 1 2 406 none (jPv P)) {w : va_W} {a0 : Nat} (h : w_X4_empty_b0 (jgE Γ).2.2.2 w a0 P) : J Γ 1 w 0 0 0 [(0, .ref a0)] [] := by
  unfold w_X4_empty_b0 at h
  refine j_aload_n X dX4_empty_0 0 rfl ?_
  obtain ⟨fs1, r1, g1, i1, h⟩ := h
  refine j_get X (ci := 7) (C := RX4) (T := TX4) (N := 9) rfl jin_X4 0 (by decide) g1 i1 jw_264 rfl dX4_empty_1 ?_
  refine j_iconst X 0 dX4_empty_4 (by decide) ?_
  obtain ⟨⟨fs2, g2⟩, h⟩ := h
  refine j_callVv X [.int 0] [] (c_J4_setLength_d00df h) (T := TJ4) (N := 4) g2 rfl jm_J4_setLength_d00df jw_829 rfl ⟨rfl, rfl⟩ (by rw [hR]; decide) rfl (Nat.le_of_ble_eq_true rfl) dX4_empty_5 (fun w2 h => ?_)
  exact Rt.v dX4_empty_8 ⟨rfl, h⟩ (by first | decide | omega) (by first | decide | omega)
def w_X4_empty (κ : Nat → Nat) (w : va_W) (a0 : Nat) (P : va_W → Prop) : Prop := w_X4_empty_b0 κ w a0 P
theorem c_X4_empty {E : jE} {w : va_W} {a0 : Nat} {P : va_W → Prop} (h : w_X4_empty E.2.2.2 w a0 P) : jC E yX4_empty cX4_empty 1 none ({ frames := 6, cells := 2, slots := 406, locals := 194 } : Room) [.ref a0] w 2 406 (jPv P) := by
  refine jC_of (by decide) (Nat.le_of_ble_eq_true rfl) ?_
  intro Γ X hE hR Rt
  subst hE
  exact k_X4_empty_b0 X hR Rt h
def w_J5_charAt_5068e_b0 (κ : Nat → Nat) (w : va_W) (a0 : Nat) (x1 : Int32) (P : Int32 → va_W → Prop) : Prop :=
    jgI w a0 1 1 (fun v1 => jgR' w a0 1 0 (fun r2 => jgI w a0 1 3 (fun v3 => jAl w r2 (fun v4 => w_J0_checkIndex_df160 κ w x1 (jmin v3 (jshr v4 v1)) (fun w5 => (if v1 = 0 then jLd w5 r2 1 x1 (fun v6 => (narrow .char (.int (ji2c (v6 &&& 255))) = .int (ji2c (v6 &&& 255)) ∧ P (ji2c (v6 &&& 255)) w5)) else False))))))
set_option maxRecDepth 100000 in
set_option maxHeartbeats 4000000 in
theorem k_J5_charAt_5068e_b0 {Γ : jG} (X : jX Γ cJ5_charAt_5068e 5 RJ5) (hR : jgR Γ = ({ frames := 2, cells := 0, slots := 0, locals := 43 } : Room)) {P : Int32 → va_W → Prop} (Rt : jRt Γ cJ5_charAt_5068e 5 0 0 (some .char) (jPi P)) {w : va_W} {a0 : Nat} {x1 : Int32} (h : w_J5_charAt_5068e_b0 (jgE Γ).2.2.2 w a0 x1 P) : J Γ 5 w 0 0 0 [(0, .ref a0), (1, .int x1)] [] := by
  unfold w_J5_charAt_5068e_b0 at h
  refine j_aload_n X dJ5_charAt_5068e_0 0 rfl ?_
  obtain ⟨fs1, v1, g1, i1, h⟩ := h
  refine j_get X (ci := 1) (C := RJ4) (T := TJ4) (N := 4) rfl jin_J4 1 (by decide) g1 i1 jw_248 rfl dJ5_charAt_5068e_1 ?_
  refine j_istore_n X [(2, .int v1), (0, .ref a0), (1, .int x1)] dJ5_charAt_5068e_4 (by decide) rfl ?_
  refine j_aload_n X dJ5_charAt_5068e_5 1 rfl ?_
  obtain ⟨fs2, r2, g2, i2, h⟩ := h
  refine j_get X (ci := 1) (C := RJ4) (T := TJ4) (N := 4) rfl jin_J4 0 (by decide) g2 i2 jw_247 rfl dJ5_charAt_5068e_6 ?_
  refine j_astore_n X [(3, .ref r2), (2, .int v1), (0, .ref a0), (1, .int x1)] dJ5_charAt_5068e_9 (by decide) rfl ?_
  refine j_aload_n X dJ5_charAt_5068e_10 2 rfl ?_
  obtain ⟨fs3, v3, g3, i3, h⟩ := h
  refine j_get X (ci := 1) (C := RJ4) (T := TJ4) (N := 4) rfl jin_J4 3 (by decide) g3 i3 jw_251 rfl dJ5_charAt_5068e_11 ?_
  refine j_aload_n X dJ5_charAt_5068e_14 0 rfl ?_
  obtain ⟨t4, n4, q4, j4, g4, h⟩ := h
  refine j_alen X j4 g4 dJ5_charAt_5068e_15 ?_
  generalize Int32.ofNat n4 = v4 at h ⊢
  refine j_iload_n X dJ5_charAt_5068e_16 1 rfl ?_
  refine j_ishr X dJ5_charAt_5068e_17 ?_
  refine j_mmin X jw_731 jw_349 jw_45 jw_350 (by rw [hR]; exact ⟨⟨by decide, Nat.le_of_ble_eq_true rfl⟩, by decide, by decide⟩) dJ5_charAt_5068e_18 ?_
  refine j_istore X [(4, .int (jmin v3 (jshr v4 v1))), (3, .ref r2), (2, .int v1), (0, .ref a0), (1, .int x1)] dJ5_charAt_5068e_21 (by decide) rfl ?_
  refine j_iload_n X dJ5_charAt_5068e_23 4 rfl ?_
  refine j_iload X dJ5_charAt_5068e_24 0 rfl ?_
  refine j_callSv X [.int x1, .int (jmin v3 (jshr v4 v1))] [] (c_J0_checkIndex_df160 h) jm_J0_checkIndex_df160 jw_732 rfl ⟨rfl, rfl⟩ (by rw [hR]; decide) rfl (Nat.le_of_ble_eq_true rfl) dJ5_charAt_5068e_26 (fun w5 h => ?_)
  refine j_iload_n X dJ5_charAt_5068e_29 2 rfl ?_
  refine j_if_ne X 42 dJ5_charAt_5068e_30 (by decide) (fun c => ?_) (fun c => ?_)
  · replace h := jif_f c h
    refine j_aload_n X dJ5_charAt_5068e_42 1 rfl ?_
    refine j_iload_n X dJ5_charAt_5068e_43 4 rfl ?_
    exact h.elim
  · replace h := jif_t c h
    refine j_aload_n X dJ5_charAt_5068e_33 1 rfl ?_
    refine j_iload_n X dJ5_charAt_5068e_34 4 rfl ?_
    obtain ⟨n6, f6, g6, i6, h⟩ := h
    refine j_bald X g6 i6 dJ5_charAt_5068e_35 ?_
    generalize f6 _ = v6 at h ⊢
    refine j_sipush X 255 dJ5_charAt_5068e_36 (by decide) ?_
    refine j_iand X dJ5_charAt_5068e_39 ?_
    refine j_i2c X dJ5_charAt_5068e_40 ?_
    exact Rt.z dJ5_charAt_5068e_41 h.1 ⟨_, rfl, h.2⟩ (by first | decide | omega) (by first | decide | omega)
def w_J5_charAt_5068e (κ : Nat → Nat) (w : va_W) (a0 : Nat) (x1 : Int32) (P : Int32 → va_W → Prop) : Prop := w_J5_charAt_5068e_b0 κ w a0 x1 P
theorem c_J5_charAt_5068e {E : jE} {w : va_W} {a0 : Nat} {x1 : Int32} {P : Int32 → va_W → Prop} (h : w_J5_charAt_5068e E.2.2.2 w a0 x1 P) : jC E yJ5_charAt_5068e cJ5_charAt_5068e 5 (some .char) ({ frames := 2, cells := 0, slots := 0, locals := 43 } : Room) [.ref a0, .int x1] w 0 0 (jPi P) := by
  refine jC_of (by decide) (Nat.le_of_ble_eq_true rfl) ?_
  intro Γ X hE hR Rt
  subst hE
  exact k_J5_charAt_5068e_b0 X hR Rt h
theorem jm_J4_charAt_5068e : jMv yJ4_charAt_5068e cJ4_charAt_5068e 2 (some .char) 1 := ⟨jw_725, jw_726, jw_32, jw_727, ⟨by decide +kernel, by decide +kernel⟩, by decide +kernel⟩
theorem jmz_J5_charAt_5068e : jMz yJ5_charAt_5068e cJ5_charAt_5068e 5 (some .char) 1 RJ4 := ⟨jw_729, jw_260, jw_31, jw_730, by decide +kernel, by decide +kernel, jw_1553⟩
def w_J4_charAt_5068e_b0 (κ : Nat → Nat) (w : va_W) (a0 : Nat) (x1 : Int32) (P : Int32 → va_W → Prop) : Prop :=
    (jRc w a0 1 ∧ w_J5_charAt_5068e κ w a0 x1 (fun v1 w1 => (narrow .char (.int v1) = .int v1 ∧ P v1 w1)))
set_option maxRecDepth 100000 in
set_option maxHeartbeats 4000000 in
theorem k_J4_charAt_5068e_b0 {Γ : jG} (X : jX Γ cJ4_charAt_5068e 2 RJ4) (hR : jgR Γ = ({ frames := 3, cells := 0, slots := 0, locals := 67 } : Room)) {P : Int32 → va_W → Prop} (Rt : jRt Γ cJ4_charAt_5068e 2 0 0 (some .char) (jPi P)) {w : va_W} {a0 : Nat} {x1 : Int32} (h : w_J4_charAt_5068e_b0 (jgE Γ).2.2.2 w a0 x1 P) : J Γ 2 w 0 0 0 [(0, .ref a0), (1, .int x1)] [] := by
  unfold w_J4_charAt_5068e_b0 at h
  refine j_aload_n X dJ4_charAt_5068e_0 0 rfl ?_
  refine j_iload_n X dJ4_charAt_5068e_1 1 rfl ?_
  obtain ⟨⟨fs1, g1⟩, h⟩ := h
  refine j_callZi X [.int x1] [] (c_J5_charAt_5068e h) (C := RJ4) (T := TJ4) (N := 4) g1 rfl jmz_J5_charAt_5068e jw_728 rfl ⟨rfl, rfl⟩ (by rw [hR]; decide) rfl (Nat.le_of_ble_eq_true rfl) dJ4_charAt_5068e_2 (fun v1 w1 h => ?_)
  exact Rt.z dJ4_charAt_5068e_5 h.1 ⟨_, rfl, h.2⟩ (by first | decide | omega) (by first | decide | omega)
def w_J4_charAt_5068e (κ : Nat → Nat) (w : va_W) (a0 : Nat) (x1 : Int32) (P : Int32 → va_W → Prop) : Prop := w_J4_charAt_5068e_b0 κ w a0 x1 P
theorem c_J4_charAt_5068e {E : jE} {w : va_W} {a0 : Nat} {x1 : Int32} {P : Int32 → va_W → Prop} (h : w_J4_charAt_5068e E.2.2.2 w a0 x1 P) : jC E yJ4_charAt_5068e cJ4_charAt_5068e 2 (some .char) ({ frames := 3, cells := 0, slots := 0, locals := 67 } : Room) [.ref a0, .int x1] w 0 0 (jPi P) := by
  refine jC_of (by decide) (Nat.le_of_ble_eq_true rfl) ?_
  intro Γ X hE hR Rt
  subst hE
  exact k_J4_charAt_5068e_b0 X hR Rt h
theorem jm_X4_sign : jMv yX4_sign cX4_sign 1 (some .int) 0 := ⟨jw_715, jw_4, jw_30, jw_716, ⟨by decide +kernel, by decide +kernel⟩, by decide +kernel⟩
def w_X4_sign_b36 (κ : Nat → Nat) (w : va_W) (s0 : Int32) (P : Int32 → va_W → Prop) : Prop :=
    P s0 w
set_option maxRecDepth 100000 in
set_option maxHeartbeats 4000000 in
theorem k_X4_sign_b36 {Γ : jG} (X : jX Γ cX4_sign 1 RX4) (hR : jgR Γ = ({ frames := 4, cells := 0, slots := 0, locals := 88 } : Room)) {P : Int32 → va_W → Prop} (Rt : jRt Γ cX4_sign 1 0 0 (some .int) (jPi P)) {w : va_W} {s0 : Int32} (h : w_X4_sign_b36 (jgE Γ).2.2.2 w s0 P) : J Γ 1 w 0 0 36 [] [.int s0] := by
  unfold w_X4_sign_b36 at h
  exact Rt.i dX4_sign_36 ⟨_, rfl, h⟩ (by first | decide | omega) (by first | decide | omega)
def w_X4_sign_b35 (κ : Nat → Nat) (w : va_W) (P : Int32 → va_W → Prop) : Prop :=
    w_X4_sign_b36 κ w (-1) P
set_option maxRecDepth 100000 in
set_option maxHeartbeats 4000000 in
theorem k_X4_sign_b35 {Γ : jG} (X : jX Γ cX4_sign 1 RX4) (hR : jgR Γ = ({ frames := 4, cells := 0, slots := 0, locals := 88 } : Room)) {P : Int32 → va_W → Prop} (Rt : jRt Γ cX4_sign 1 0 0 (some .int) (jPi P)) {w : va_W} (h : w_X4_sign_b35 (jgE Γ).2.2.2 w  P) : J Γ 1 w 0 0 35 [] [] := by
  unfold w_X4_sign_b35 at h
  refine j_iconst X (-1) dX4_sign_35 (by decide) ?_
  exact k_X4_sign_b36 X hR Rt h
def w_X4_sign_b0 (κ : Nat → Nat) (w : va_W) (a0 : Nat) (P : Int32 → va_W → Prop) : Prop :=
    jgI w a0 7 8 (fun v1 => (if v1 < 0 then w_X4_sign_b35 κ w  P else jgI w a0 7 8 (fun v2 => jgR' w a0 7 0 (fun r3 => (jRc w r3 1 ∧ w_J4_length_8abf5 κ w r3 (fun v4 w4 => (if v4 ≤ v2 then w_X4_sign_b35 κ w4  P else jgR' w4 a0 7 0 (fun r5 => jgI w4 a0 7 8 (fun v6 => (jRc w4 r5 1 ∧ w_J4_charAt_5068e κ w4 r5 v6 (fun v7 w7 => w_X4_sign_b36 κ w7 v7 P)))))))))))
set_option maxRecDepth 100000 in
set_option maxHeartbeats 4000000 in
theorem k_X4_sign_b0 {Γ : jG} (X : jX Γ cX4_sign 1 RX4) (hR : jgR Γ = ({ frames := 4, cells := 0, slots := 0, locals := 88 } : Room)) {P : Int32 → va_W → Prop} (Rt : jRt Γ cX4_sign 1 0 0 (some .int) (jPi P)) {w : va_W} {a0 : Nat} (h : w_X4_sign_b0 (jgE Γ).2.2.2 w a0 P) : J Γ 1 w 0 0 0 [(0, .ref a0)] [] := by
  unfold w_X4_sign_b0 at h
  refine j_aload_n X dX4_sign_0 0 rfl ?_
  obtain ⟨fs1, v1, g1, i1, h⟩ := h
  refine j_get X (ci := 7) (C := RX4) (T := TX4) (N := 9) rfl jin_X4 8 (by decide) g1 i1 jw_279 rfl dX4_sign_1 ?_
  refine j_if_lt X 35 dX4_sign_4 (by decide) (fun c => ?_) (fun c => ?_)
  · replace h := jif_t c h
    refine j_sub [] rfl ?_
    exact k_X4_sign_b35 X hR Rt h
  · replace h := jif_f c h
    refine j_aload_n X dX4_sign_7 0 rfl ?_
    obtain ⟨fs2, v2, g2, i2, h⟩ := h
    refine j_get X (ci := 7) (C := RX4) (T := TX4) (N := 9) rfl jin_X4 8 (by decide) g2 i2 jw_279 rfl dX4_sign_8 ?_
    refine j_aload_n X dX4_sign_11 0 rfl ?_
    obtain ⟨fs3, r3, g3, i3, h⟩ := h
    refine j_get X (ci := 7) (C := RX4) (T := TX4) (N := 9) rfl jin_X4 0 (by decide) g3 i3 jw_264 rfl dX4_sign_12 ?_
    obtain ⟨⟨fs4, g4⟩, h⟩ := h
    refine j_callVi X [] [.int v2] (c_J4_length_8abf5 h) (T := TJ4) (N := 4) g4 rfl jm_J4_length_8abf5 jw_717 rfl ⟨rfl, rfl⟩ (by rw [hR]; decide) rfl (Nat.le_of_ble_eq_true rfl) dX4_sign_15 (fun v4 w4 h => ?_)
    refine j_icmp_ge X 35 dX4_sign_18 (by decide) (fun c => ?_) (fun c => ?_)
    · replace h := jif_t c h
      refine j_sub [] rfl ?_
      exact k_X4_sign_b35 X hR Rt h
    · replace h := jif_f c h
      refine j_aload_n X dX4_sign_21 0 rfl ?_
      obtain ⟨fs5, r5, g5, i5, h⟩ := h
      refine j_get X (ci := 7) (C := RX4) (T := TX4) (N := 9) rfl jin_X4 0 (by decide) g5 i5 jw_264 rfl dX4_sign_22 ?_
      refine j_aload_n X dX4_sign_25 0 rfl ?_
      obtain ⟨fs6, v6, g6, i6, h⟩ := h
      refine j_get X (ci := 7) (C := RX4) (T := TX4) (N := 9) rfl jin_X4 8 (by decide) g6 i6 jw_279 rfl dX4_sign_26 ?_
      obtain ⟨⟨fs7, g7⟩, h⟩ := h
      refine j_callVi X [.int v6] [] (c_J4_charAt_5068e h) (T := TJ4) (N := 4) g7 rfl jm_J4_charAt_5068e jw_724 rfl ⟨rfl, rfl⟩ (by rw [hR]; decide) rfl (Nat.le_of_ble_eq_true rfl) dX4_sign_29 (fun v7 w7 h => ?_)
      refine j_goto X 36 dX4_sign_32 (by decide) ?_
      refine j_sub [] rfl ?_
      exact k_X4_sign_b36 X hR Rt h
def w_X4_sign (κ : Nat → Nat) (w : va_W) (a0 : Nat) (P : Int32 → va_W → Prop) : Prop := w_X4_sign_b0 κ w a0 P
theorem c_X4_sign {E : jE} {w : va_W} {a0 : Nat} {P : Int32 → va_W → Prop} (h : w_X4_sign E.2.2.2 w a0 P) : jC E yX4_sign cX4_sign 1 (some .int) ({ frames := 4, cells := 0, slots := 0, locals := 88 } : Room) [.ref a0] w 0 0 (jPi P) := by
  refine jC_of (by decide) (Nat.le_of_ble_eq_true rfl) ?_
  intro Γ X hE hR Rt
  subst hE
  exact k_X4_sign_b0 X hR Rt h
theorem jm_J0_coder_7d493 : jMv yJ0_coder_7d493 cJ0_coder_7d493 1 (some .byte) 0 := ⟨jw_762, jw_763, jw_33, jw_764, ⟨by decide +kernel, by decide +kernel⟩, by decide +kernel⟩
def w_J0_coder_7d493_b14 (κ : Nat → Nat) (w : va_W) (s0 : Int32) (P : Int32 → va_W → Prop) : Prop :=
    (narrow .byte (.int s0) = .int s0 ∧ P s0 w)
set_option maxRecDepth 100000 in
set_option maxHeartbeats 4000000 in
theorem k_J0_coder_7d493_b14 {Γ : jG} (X : jX Γ cJ0_coder_7d493 1 RJ0) (hR : jgR Γ = ({ frames := 0, cells := 0, slots := 0, locals := 0 } : Room)) {P : Int32 → va_W → Prop} (Rt : jRt Γ cJ0_coder_7d493 1 0 0 (some .byte) (jPi P)) {w : va_W} {s0 : Int32} (h : w_J0_coder_7d493_b14 (jgE Γ).2.2.2 w s0 P) : J Γ 1 w 0 0 14 [] [.int s0] := by
  unfold w_J0_coder_7d493_b14 at h
  exact Rt.z dJ0_coder_7d493_14 h.1 ⟨_, rfl, h.2⟩ (by first | decide | omega) (by first | decide | omega)
def w_J0_coder_7d493_b0 (κ : Nat → Nat) (w : va_W) (u0 : Nat) (P : Int32 → va_W → Prop) : Prop :=
    (u0 < 27 ∧ w_J0_coder_7d493_b14 κ w 0 P)
set_option maxRecDepth 100000 in
set_option maxHeartbeats 4000000 in
theorem k_J0_coder_7d493_b0 {Γ : jG} (X : jX Γ cJ0_coder_7d493 1 RJ0) (hR : jgR Γ = ({ frames := 0, cells := 0, slots := 0, locals := 0 } : Room)) {P : Int32 → va_W → Prop} (Rt : jRt Γ cJ0_coder_7d493 1 0 0 (some .byte) (jPi P)) {w : va_W} {u0 : Nat} (h : w_J0_coder_7d493_b0 (jgE Γ).2.2.2 w u0 P) : J Γ 1 w 0 0 0 [(0, .ref ((jgE Γ).2.2.2 (10 + u0)))] [] := by
  unfold w_J0_coder_7d493_b0 at h
  refine j_getsC X jw_765 dJ0_coder_7d493_0 ?_
  refine j_if_eq X 13 dJ0_coder_7d493_3 (by decide) (fun c => absurd c (by decide)) (fun _ => ?_)
  refine j_aload_n X dJ0_coder_7d493_6 0 rfl ?_
  refine j_scod X h.1 jw_1014 dJ0_coder_7d493_7 ?_
  replace h := h.2
  refine j_goto X 14 dJ0_coder_7d493_10 (by decide) ?_
  refine j_sub [] rfl ?_
  exact k_J0_coder_7d493_b14 X hR Rt h
def w_J0_coder_7d493 (κ : Nat → Nat) (w : va_W) (u0 : Nat) (P : Int32 → va_W → Prop) : Prop := w_J0_coder_7d493_b0 κ w u0 P
theorem c_J0_coder_7d493 {E : jE} {w : va_W} {u0 : Nat} {P : Int32 → va_W → Prop} (h : w_J0_coder_7d493 E.2.2.2 w u0 P) : jC E yJ0_coder_7d493 cJ0_coder_7d493 1 (some .byte) ({ frames := 0, cells := 0, slots := 0, locals := 0 } : Room) [.ref (E.2.2.2 (10 + u0))] w 0 0 (jPi P) := by
  refine jC_of (by decide) (Nat.le_of_ble_eq_true rfl) ?_
  intro Γ X hE hR Rt
  subst hE
  exact k_J0_coder_7d493_b0 X hR Rt h
theorem jm_J0_length_8abf5 : jMv yJ0_length_8abf5 cJ0_length_8abf5 1 (some .int) 0 := ⟨jw_758, jw_759, jw_33, jw_760, ⟨by decide +kernel, by decide +kernel⟩, by decide +kernel⟩
def w_J0_length_8abf5_b0 (κ : Nat → Nat) (w : va_W) (u0 : Nat) (P : Int32 → va_W → Prop) : Prop :=
    (u0 < 27 ∧ (u0 < 27 ∧ (u0 < 27 ∧ w_J0_coder_7d493 κ w u0 (fun v1 w1 => P (jshr (nI (jLen u0)) v1) w1))))
set_option maxRecDepth 100000 in
set_option maxHeartbeats 4000000 in
theorem k_J0_length_8abf5_b0 {Γ : jG} (X : jX Γ cJ0_length_8abf5 1 RJ0) (hR : jgR Γ = ({ frames := 1, cells := 0, slots := 0, locals := 20 } : Room)) {P : Int32 → va_W → Prop} (Rt : jRt Γ cJ0_length_8abf5 1 0 0 (some .int) (jPi P)) {w : va_W} {u0 : Nat} (h : w_J0_length_8abf5_b0 (jgE Γ).2.2.2 w u0 P) : J Γ 1 w 0 0 0 [(0, .ref ((jgE Γ).2.2.2 (10 + u0)))] [] := by
  unfold w_J0_length_8abf5_b0 at h
  refine j_aload_n X dJ0_length_8abf5_0 0 rfl ?_
  refine j_sval X h.1 jw_1013 dJ0_length_8abf5_1 ?_
  replace h := h.2
  refine j_slen X h.1 dJ0_length_8abf5_4 ?_
  replace h := h.2
  refine j_aload_n X dJ0_length_8abf5_5 0 rfl ?_
  obtain ⟨g1, h⟩ := h
  refine j_callCi X [] [.int (nI (jLen u0))] (c_J0_coder_7d493 h) g1 rfl jm_J0_coder_7d493 jw_761 rfl ⟨rfl, rfl⟩ (by rw [hR]; decide) rfl (Nat.le_of_ble_eq_true rfl) dJ0_length_8abf5_6 (fun v1 w1 h => ?_)
  refine j_ishr X dJ0_length_8abf5_9 ?_
  exact Rt.i dJ0_length_8abf5_10 ⟨_, rfl, h⟩ (by first | decide | omega) (by first | decide | omega)
def w_J0_length_8abf5 (κ : Nat → Nat) (w : va_W) (u0 : Nat) (P : Int32 → va_W → Prop) : Prop := w_J0_length_8abf5_b0 κ w u0 P
theorem c_J0_length_8abf5 {E : jE} {w : va_W} {u0 : Nat} {P : Int32 → va_W → Prop} (h : w_J0_length_8abf5 E.2.2.2 w u0 P) : jC E yJ0_length_8abf5 cJ0_length_8abf5 1 (some .int) ({ frames := 1, cells := 0, slots := 0, locals := 20 } : Room) [.ref (E.2.2.2 (10 + u0))] w 0 0 (jPi P) := by
  refine jC_of (by decide) (Nat.le_of_ble_eq_true rfl) ?_
  intro Γ X hE hR Rt
  subst hE
  exact k_J0_length_8abf5_b0 X hR Rt h
theorem jm_J0_isLatin1_aae02 : jMv yJ0_isLatin1_aae02 cJ0_isLatin1_aae02 1 (some .boolean) 0 := ⟨jw_771, jw_772, jw_33, jw_773, ⟨by decide +kernel, by decide +kernel⟩, by decide +kernel⟩
def w_J0_isLatin1_aae02_b18 (κ : Nat → Nat) (w : va_W) (s0 : Int32) (P : Int32 → va_W → Prop) : Prop :=
    (narrow .boolean (.int s0) = .int s0 ∧ P s0 w)
set_option maxRecDepth 100000 in
set_option maxHeartbeats 4000000 in
theorem k_J0_isLatin1_aae02_b18 {Γ : jG} (X : jX Γ cJ0_isLatin1_aae02 1 RJ0) (hR : jgR Γ = ({ frames := 0, cells := 0, slots := 0, locals := 0 } : Room)) {P : Int32 → va_W → Prop} (Rt : jRt Γ cJ0_isLatin1_aae02 1 0 0 (some .boolean) (jPi P)) {w : va_W} {s0 : Int32} (h : w_J0_isLatin1_aae02_b18 (jgE Γ).2.2.2 w s0 P) : J Γ 1 w 0 0 18 [] [.int s0] := by
  unfold w_J0_isLatin1_aae02_b18 at h
  exact Rt.z dJ0_isLatin1_aae02_18 h.1 ⟨_, rfl, h.2⟩ (by first | decide | omega) (by first | decide | omega)
def w_J0_isLatin1_aae02_b0 (κ : Nat → Nat) (w : va_W) (u0 : Nat) (P : Int32 → va_W → Prop) : Prop :=
    (u0 < 27 ∧ w_J0_isLatin1_aae02_b18 κ w 1 P)
set_option maxRecDepth 100000 in
set_option maxHeartbeats 4000000 in
theorem k_J0_isLatin1_aae02_b0 {Γ : jG} (X : jX Γ cJ0_isLatin1_aae02 1 RJ0) (hR : jgR Γ = ({ frames := 0, cells := 0, slots := 0, locals := 0 } : Room)) {P : Int32 → va_W → Prop} (Rt : jRt Γ cJ0_isLatin1_aae02 1 0 0 (some .boolean) (jPi P)) {w : va_W} {u0 : Nat} (h : w_J0_isLatin1_aae02_b0 (jgE Γ).2.2.2 w u0 P) : J Γ 1 w 0 0 0 [(0, .ref ((jgE Γ).2.2.2 (10 + u0)))] [] := by
  unfold w_J0_isLatin1_aae02_b0 at h
  refine j_getsC X jw_765 dJ0_isLatin1_aae02_0 ?_
  refine j_if_eq X 17 dJ0_isLatin1_aae02_3 (by decide) (fun c => absurd c (by decide)) (fun _ => ?_)
  refine j_aload_n X dJ0_isLatin1_aae02_6 0 rfl ?_
  refine j_scod X h.1 jw_1014 dJ0_isLatin1_aae02_7 ?_
  replace h := h.2
  refine j_if_ne X 17 dJ0_isLatin1_aae02_10 (by decide) (fun c => absurd c (by decide)) (fun _ => ?_)
  refine j_iconst X 1 dJ0_isLatin1_aae02_13 (by decide) ?_
  refine j_goto X 18 dJ0_isLatin1_aae02_14 (by decide) ?_
  refine j_sub [] rfl ?_
  exact k_J0_isLatin1_aae02_b18 X hR Rt h
def w_J0_isLatin1_aae02 (κ : Nat → Nat) (w : va_W) (u0 : Nat) (P : Int32 → va_W → Prop) : Prop := w_J0_isLatin1_aae02_b0 κ w u0 P
theorem c_J0_isLatin1_aae02 {E : jE} {w : va_W} {u0 : Nat} {P : Int32 → va_W → Prop} (h : w_J0_isLatin1_aae02 E.2.2.2 w u0 P) : jC E yJ0_isLatin1_aae02 cJ0_isLatin1_aae02 1 (some .boolean) ({ frames := 0, cells := 0, slots := 0, locals := 0 } : Room) [.ref (E.2.2.2 (10 + u0))] w 0 0 (jPi P) := by
  refine jC_of (by decide) (Nat.le_of_ble_eq_true rfl) ?_
  intro Γ X hE hR Rt
  subst hE
  exact k_J0_isLatin1_aae02_b0 X hR Rt h
theorem jm_J1_charAt_3b067 : jMs yJ1_charAt_3b067 cJ1_charAt_3b067 2 (some .char) 2 := ⟨jw_775, jw_47, jw_776, ⟨by decide +kernel, by decide +kernel⟩, by decide +kernel⟩
def w_J1_charAt_3b067_b0 (κ : Nat → Nat) (w : va_W) (b0 : Nat) (x1 : Int32) (P : Int32 → va_W → Prop) : Prop :=
    (b0 < 27 ∧ w_J0_checkIndex_df160 κ w x1 (nI (jLen b0)) (fun w1 => (b0 < 27 ∧ vp_in x1 (jLen b0) ∧ (narrow .char (.int (ji2c ((nI (jByt b0 (Int32.toNatClampNeg x1))) &&& 255))) = .int (ji2c ((nI (jByt b0 (Int32.toNatClampNeg x1))) &&& 255)) ∧ P (ji2c ((nI (jByt b0 (Int32.toNatClampNeg x1))) &&& 255)) w1))))
set_option maxRecDepth 100000 in
set_option maxHeartbeats 4000000 in
theorem k_J1_charAt_3b067_b0 {Γ : jG} (X : jX Γ cJ1_charAt_3b067 2 RJ1) (hR : jgR Γ = ({ frames := 2, cells := 0, slots := 0, locals := 43 } : Room)) {P : Int32 → va_W → Prop} (Rt : jRt Γ cJ1_charAt_3b067 2 0 0 (some .char) (jPi P)) {w : va_W} {b0 : Nat} {x1 : Int32} (h : w_J1_charAt_3b067_b0 (jgE Γ).2.2.2 w b0 x1 P) : J Γ 2 w 0 0 0 [(0, .ref ((jgE Γ).2.2.2 (100 + b0))), (1, .int x1)] [] := by
  unfold w_J1_charAt_3b067_b0 at h
  refine j_iload_n X dJ1_charAt_3b067_0 1 rfl ?_
  refine j_aload_n X dJ1_charAt_3b067_1 0 rfl ?_
  refine j_slen X h.1 dJ1_charAt_3b067_2 ?_
  replace h := h.2
  refine j_callSv X [.int x1, .int (nI (jLen b0))] [] (c_J0_checkIndex_df160 h) jm_J0_checkIndex_df160 jw_777 rfl ⟨rfl, rfl⟩ (by rw [hR]; decide) rfl (Nat.le_of_ble_eq_true rfl) dJ1_charAt_3b067_3 (fun w1 h => ?_)
  refine j_aload_n X dJ1_charAt_3b067_6 0 rfl ?_
  refine j_iload_n X dJ1_charAt_3b067_7 1 rfl ?_
  refine j_sbyt X h.1 h.2.1 dJ1_charAt_3b067_8 ?_
  replace h := h.2.2
  refine j_sipush X 255 dJ1_charAt_3b067_9 (by decide) ?_
  refine j_iand X dJ1_charAt_3b067_12 ?_
  refine j_i2c X dJ1_charAt_3b067_13 ?_
  exact Rt.z dJ1_charAt_3b067_14 h.1 ⟨_, rfl, h.2⟩ (by first | decide | omega) (by first | decide | omega)
def w_J1_charAt_3b067 (κ : Nat → Nat) (w : va_W) (b0 : Nat) (x1 : Int32) (P : Int32 → va_W → Prop) : Prop := w_J1_charAt_3b067_b0 κ w b0 x1 P
theorem c_J1_charAt_3b067 {E : jE} {w : va_W} {b0 : Nat} {x1 : Int32} {P : Int32 → va_W → Prop} (h : w_J1_charAt_3b067 E.2.2.2 w b0 x1 P) : jC E yJ1_charAt_3b067 cJ1_charAt_3b067 2 (some .char) ({ frames := 2, cells := 0, slots := 0, locals := 43 } : Room) [.ref (E.2.2.2 (100 + b0)), .int x1] w 0 0 (jPi P) := by
  refine jC_of (by decide) (Nat.le_of_ble_eq_true rfl) ?_
  intro Γ X hE hR Rt
  subst hE
  exact k_J1_charAt_3b067_b0 X hR Rt h
theorem jm_J0_charAt_5068e : jMv yJ0_charAt_5068e cJ0_charAt_5068e 2 (some .char) 1 := ⟨jw_767, jw_768, jw_33, jw_769, ⟨by decide +kernel, by decide +kernel⟩, by decide +kernel⟩
def w_J0_charAt_5068e_b0 (κ : Nat → Nat) (w : va_W) (u0 : Nat) (x1 : Int32) (P : Int32 → va_W → Prop) : Prop :=
    (u0 < 27 ∧ w_J0_isLatin1_aae02 κ w u0 (fun v1 w1 => (if v1 = 0 then (u0 < 27 ∧ False) else (u0 < 27 ∧ w_J1_charAt_3b067 κ w1 u0 x1 (fun v2 w2 => (narrow .char (.int v2) = .int v2 ∧ P v2 w2))))))
set_option maxRecDepth 100000 in
set_option maxHeartbeats 4000000 in
theorem k_J0_charAt_5068e_b0 {Γ : jG} (X : jX Γ cJ0_charAt_5068e 2 RJ0) (hR : jgR Γ = ({ frames := 3, cells := 0, slots := 0, locals := 64 } : Room)) {P : Int32 → va_W → Prop} (Rt : jRt Γ cJ0_charAt_5068e 2 0 0 (some .char) (jPi P)) {w : va_W} {u0 : Nat} {x1 : Int32} (h : w_J0_charAt_5068e_b0 (jgE Γ).2.2.2 w u0 x1 P) : J Γ 2 w 0 0 0 [(0, .ref ((jgE Γ).2.2.2 (10 + u0))), (1, .int x1)] [] := by
  unfold w_J0_charAt_5068e_b0 at h
  refine j_aload_n X dJ0_charAt_5068e_0 0 rfl ?_
  obtain ⟨g1, h⟩ := h
  refine j_callCi X [] [] (c_J0_isLatin1_aae02 h) g1 rfl jm_J0_isLatin1_aae02 jw_770 rfl ⟨rfl, rfl⟩ (by rw [hR]; decide) rfl (Nat.le_of_ble_eq_true rfl) dJ0_charAt_5068e_1 (fun v1 w1 h => ?_)
  refine j_if_eq X 16 dJ0_charAt_5068e_4 (by decide) (fun c => ?_) (fun c => ?_)
  · replace h := jif_t c h
    refine j_aload_n X dJ0_charAt_5068e_16 0 rfl ?_
    refine j_sval X h.1 jw_1013 dJ0_charAt_5068e_17 ?_
    replace h := h.2
    refine j_iload_n X dJ0_charAt_5068e_20 1 rfl ?_
    exact h.elim
  · replace h := jif_f c h
    refine j_aload_n X dJ0_charAt_5068e_7 0 rfl ?_
    refine j_sval X h.1 jw_1013 dJ0_charAt_5068e_8 ?_
    replace h := h.2
    refine j_iload_n X dJ0_charAt_5068e_11 1 rfl ?_
    refine j_callSi X [.ref ((jgE Γ).2.2.2 (100 + u0)), .int x1] [] (c_J1_charAt_3b067 h) jm_J1_charAt_3b067 jw_774 rfl ⟨rfl, rfl⟩ (by rw [hR]; decide) rfl (Nat.le_of_ble_eq_true rfl) dJ0_charAt_5068e_12 (fun v2 w2 h => ?_)
    exact Rt.z dJ0_charAt_5068e_15 h.1 ⟨_, rfl, h.2⟩ (by first | decide | omega) (by first | decide | omega)
def w_J0_charAt_5068e (κ : Nat → Nat) (w : va_W) (u0 : Nat) (x1 : Int32) (P : Int32 → va_W → Prop) : Prop := w_J0_charAt_5068e_b0 κ w u0 x1 P
theorem c_J0_charAt_5068e {E : jE} {w : va_W} {u0 : Nat} {x1 : Int32} {P : Int32 → va_W → Prop} (h : w_J0_charAt_5068e E.2.2.2 w u0 x1 P) : jC E yJ0_charAt_5068e cJ0_charAt_5068e 2 (some .char) ({ frames := 3, cells := 0, slots := 0, locals := 64 } : Room) [.ref (E.2.2.2 (10 + u0)), .int x1] w 0 0 (jPi P) := by
  refine jC_of (by decide) (Nat.le_of_ble_eq_true rfl) ?_
  intro Γ X hE hR Rt
  subst hE
  exact k_J0_charAt_5068e_b0 X hR Rt h
theorem jm_X4_readSign : jMv yX4_readSign cX4_readSign 2 (some .boolean) 1 := ⟨jw_788, jw_6, jw_30, jw_789, ⟨by decide +kernel, by decide +kernel⟩, by decide +kernel⟩
def w_X4_readSign_b0 (κ : Nat → Nat) (w : va_W) (a0 : Nat) (x1 : Int32) (P : Int32 → va_W → Prop) : Prop :=
    (jRc w a0 7 ∧ w_X4_sign κ w a0 (fun v1 w1 => (if v1 = x1 then jgI w1 a0 7 8 (fun v2 => (jpV w1 a0 7 8 (.int (v2 + 1)) (fun w3 => P 1 w3))) else P 0 w1)))
set_option maxRecDepth 100000 in
set_option maxHeartbeats 4000000 in
theorem k_X4_readSign_b0 {Γ : jG} (X : jX Γ cX4_readSign 2 RX4) (hR : jgR Γ = ({ frames := 5, cells := 0, slots := 0, locals := 108 } : Room)) {P : Int32 → va_W → Prop} (Rt : jRt Γ cX4_readSign 2 0 0 (some .boolean) (jPi P)) {w : va_W} {a0 : Nat} {x1 : Int32} (h : w_X4_readSign_b0 (jgE Γ).2.2.2 w a0 x1 P) : J Γ 2 w 0 0 0 [(0, .ref a0), (1, .int x1)] [] := by
  unfold w_X4_readSign_b0 at h
  refine j_aload_n X dX4_readSign_0 0 rfl ?_
  obtain ⟨⟨fs1, g1⟩, h⟩ := h
  refine j_callVi X [] [] (c_X4_sign h) (T := TX4) (N := 9) g1 rfl jm_X4_sign jw_713 rfl ⟨rfl, rfl⟩ (by rw [hR]; decide) rfl (Nat.le_of_ble_eq_true rfl) dX4_readSign_1 (fun v1 w1 h => ?_)
  refine j_iload_n X dX4_readSign_4 1 rfl ?_
  refine j_icmp_eq X 10 dX4_readSign_5 (by decide) (fun c => ?_) (fun c => ?_)
  · replace h := jif_t c h
    refine j_aload_n X dX4_readSign_10 0 rfl ?_
    refine j_dup X dX4_readSign_11 rfl ?_
    obtain ⟨fs2, v2, g2, i2, h⟩ := h
    refine j_get X (ci := 7) (C := RX4) (T := TX4) (N := 9) rfl jin_X4 8 (by decide) g2 i2 jw_279 rfl dX4_readSign_12 ?_
    refine j_iconst X 1 dX4_readSign_15 (by decide) ?_
    refine j_iadd X dX4_readSign_16 ?_
    obtain ⟨fs3, g3, i3, h⟩ := h
    refine j_put X (ci := 7) (C := RX4) (T := TX4) (N := 9) rfl jin_X4 tyX4 tyX4_ok nmX4 8 (by decide) g3 jw_279 rfl rfl (by rfl) (by rfl) i3 dX4_readSign_17 ?_
    generalize jst w1 a0 _ = w3 at h ⊢
    refine j_iconst X 1 dX4_readSign_20 (by decide) ?_
    exact Rt.z dX4_readSign_21 (by decide) ⟨_, rfl, h⟩ (by first | decide | omega) (by first | decide | omega)
  · replace h := jif_f c h
    refine j_iconst X 0 dX4_readSign_8 (by decide) ?_
    exact Rt.z dX4_readSign_9 (by decide) ⟨_, rfl, h⟩ (by first | decide | omega) (by first | decide | omega)
def w_X4_readSign (κ : Nat → Nat) (w : va_W) (a0 : Nat) (x1 : Int32) (P : Int32 → va_W → Prop) : Prop := w_X4_readSign_b0 κ w a0 x1 P
theorem c_X4_readSign {E : jE} {w : va_W} {a0 : Nat} {x1 : Int32} {P : Int32 → va_W → Prop} (h : w_X4_readSign E.2.2.2 w a0 x1 P) : jC E yX4_readSign cX4_readSign 2 (some .boolean) ({ frames := 5, cells := 0, slots := 0, locals := 108 } : Room) [.ref a0, .int x1] w 0 0 (jPi P) := by
  refine jC_of (by decide) (Nat.le_of_ble_eq_true rfl) ?_
  intro Γ X hE hR Rt
  subst hE
  exact k_X4_readSign_b0 X hR Rt h
theorem jm_X4_readWord : jMv yX4_readWord cX4_readWord 3 (some .boolean) 1 := ⟨jw_755, jw_5, jw_30, jw_756, ⟨by decide +kernel, by decide +kernel⟩, by decide +kernel⟩
def w_X4_readWord_b2 : Nat → (κ : Nat → Nat) → (w : va_W) → (a0 : Nat) → (u1 : Nat) → (x2 : Int32) → (P : Int32 → va_W → Prop) → Prop
  | 0, _, _, _, _, _, _ => False
  | n + 1, κ, w, a0, u1, x2, P =>
    (u1 < 27 ∧ w_J0_length_8abf5 κ w u1 (fun v1 w1 => (if v1 ≤ x2 then P 1 w1 else (u1 < 27 ∧ w_J0_charAt_5068e κ w1 u1 x2 (fun v2 w2 => (jRc w2 a0 7 ∧ w_X4_readSign κ w2 a0 v2 (fun v3 w3 => (if v3 = 0 then P 0 w3 else w_X4_readWord_b2 n κ w3 a0 u1 (x2 + 1) P))))))))
set_option maxRecDepth 100000 in
set_option maxHeartbeats 4000000 in
theorem k_X4_readWord_b2 {Γ : jG} (X : jX Γ cX4_readWord 3 RX4) (hR : jgR Γ = ({ frames := 6, cells := 0, slots := 0, locals := 129 } : Room)) {P : Int32 → va_W → Prop} (Rt : jRt Γ cX4_readWord 3 0 0 (some .boolean) (jPi P)) : ∀ (n : Nat) {w : va_W} {a0 : Nat} {u1 : Nat} {x2 : Int32} (h : w_X4_readWord_b2 n (jgE Γ).2.2.2 w a0 u1 x2 P), J Γ 3 w 0 0 2 [(0, .ref a0), (1, .ref ((jgE Γ).2.2.2 (10 + u1))), (2, .int x2)] [] := by
  intro n
  induction n with
  | zero => intro w a0 u1 x2 h; exact False.elim h
  | succ n ih =>
    intro w a0 u1 x2 h
    rw [w_X4_readWord_b2] at h
    refine j_iload_n X dX4_readWord_2 2 rfl ?_
    refine j_aload_n X dX4_readWord_3 1 rfl ?_
    obtain ⟨g1, h⟩ := h
    refine j_callCi X [] [.int x2] (c_J0_length_8abf5 h) g1 rfl jm_J0_length_8abf5 jw_757 rfl ⟨rfl, rfl⟩ (by rw [hR]; decide) rfl (Nat.le_of_ble_eq_true rfl) dX4_readWord_4 (fun v1 w1 h => ?_)
    refine j_icmp_ge X 30 dX4_readWord_7 (by decide) (fun c => ?_) (fun c => ?_)
    · replace h := jif_t c h
      refine j_iconst X 1 dX4_readWord_30 (by decide) ?_
      exact Rt.z dX4_readWord_31 (by decide) ⟨_, rfl, h⟩ (by first | decide | omega) (by first | decide | omega)
    · replace h := jif_f c h
      refine j_aload_n X dX4_readWord_10 0 rfl ?_
      refine j_aload_n X dX4_readWord_11 1 rfl ?_
      refine j_iload_n X dX4_readWord_12 2 rfl ?_
      obtain ⟨g2, h⟩ := h
      refine j_callCi X [.int x2] [.ref a0] (c_J0_charAt_5068e h) g2 rfl jm_J0_charAt_5068e jw_766 rfl ⟨rfl, rfl⟩ (by rw [hR]; decide) rfl (Nat.le_of_ble_eq_true rfl) dX4_readWord_13 (fun v2 w2 h => ?_)
      obtain ⟨⟨fs3, g3⟩, h⟩ := h
      refine j_callVi X [.int v2] [] (c_X4_readSign h) (T := TX4) (N := 9) g3 rfl jm_X4_readSign jw_786 rfl ⟨rfl, rfl⟩ (by rw [hR]; decide) rfl (Nat.le_of_ble_eq_true rfl) dX4_readWord_16 (fun v3 w3 h => ?_)
      refine j_if_ne X 24 dX4_readWord_19 (by decide) (fun c => ?_) (fun c => ?_)
      · replace h := jif_f c h
        refine j_iinc X (x2 + 1) [(2, .int (x2 + 1)), (0, .ref a0), (1, .ref ((jgE Γ).2.2.2 (10 + u1)))] dX4_readWord_24 2 rfl rfl (by decide) rfl ?_
        refine j_goto X 2 dX4_readWord_27 (by decide) ?_
        refine j_sub [1, 2, 0] rfl ?_
        exact ih h
      · replace h := jif_t c h
        refine j_iconst X 0 dX4_readWord_22 (by decide) ?_
        exact Rt.z dX4_readWord_23 (by decide) ⟨_, rfl, h⟩ (by first | decide | omega) (by first | decide | omega)
def w_X4_readWord_b0 (κ : Nat → Nat) (w : va_W) (a0 : Nat) (u1 : Nat) (P : Int32 → va_W → Prop) : Prop :=
    w_X4_readWord_b2 jFu κ w a0 u1 0 P
set_option maxRecDepth 100000 in
set_option maxHeartbeats 4000000 in
theorem k_X4_readWord_b0 {Γ : jG} (X : jX Γ cX4_readWord 3 RX4) (hR : jgR Γ = ({ frames := 6, cells := 0, slots := 0, locals := 129 } : Room)) {P : Int32 → va_W → Prop} (Rt : jRt Γ cX4_readWord 3 0 0 (some .boolean) (jPi P)) {w : va_W} {a0 : Nat} {u1 : Nat} (h : w_X4_readWord_b0 (jgE Γ).2.2.2 w a0 u1 P) : J Γ 3 w 0 0 0 [(0, .ref a0), (1, .ref ((jgE Γ).2.2.2 (10 + u1)))] [] := by
  unfold w_X4_readWord_b0 at h
  refine j_iconst X 0 dX4_readWord_0 (by decide) ?_
  refine j_istore_n X [(2, .int 0), (0, .ref a0), (1, .ref ((jgE Γ).2.2.2 (10 + u1)))] dX4_readWord_1 (by decide) rfl ?_
  refine j_sub [1, 2, 0] rfl ?_
  exact k_X4_readWord_b2 X hR Rt _ h
def w_X4_readWord (κ : Nat → Nat) (w : va_W) (a0 : Nat) (u1 : Nat) (P : Int32 → va_W → Prop) : Prop := w_X4_readWord_b0 κ w a0 u1 P
theorem c_X4_readWord {E : jE} {w : va_W} {a0 : Nat} {u1 : Nat} {P : Int32 → va_W → Prop} (h : w_X4_readWord E.2.2.2 w a0 u1 P) : jC E yX4_readWord cX4_readWord 3 (some .boolean) ({ frames := 6, cells := 0, slots := 0, locals := 129 } : Room) [.ref a0, .ref (E.2.2.2 (10 + u1))] w 0 0 (jPi P) := by
  refine jC_of (by decide) (Nat.le_of_ble_eq_true rfl) ?_
  intro Γ X hE hR Rt
  subst hE
  exact k_X4_readWord_b0 X hR Rt h
theorem jm_X4_addStep : jMv yX4_addStep cX4_addStep 5 (some .boolean) 4 := ⟨jw_792, jw_7, jw_30, jw_793, ⟨by decide +kernel, by decide +kernel⟩, by decide +kernel⟩
def w_X4_addStep_b0 (κ : Nat → Nat) (w : va_W) (a0 : Nat) (x1 : Int32) (x2 : Int32) (x3 : Int32) (x4 : Int32) (P : Int32 → va_W → Prop) : Prop :=
    jgR' w a0 7 1 (fun r1 => jgI w a0 7 6 (fun v2 => (jRc w r1 6 ∧ w_X3_put κ w r1 v2 x1 (fun w3 => jgR' w3 a0 7 2 (fun r4 => jgI w3 a0 7 6 (fun v5 => (jRc w3 r4 6 ∧ w_X3_put κ w3 r4 v5 x2 (fun w6 => jgR' w6 a0 7 3 (fun r7 => jgI w6 a0 7 6 (fun v8 => (jRc w6 r7 6 ∧ w_X3_put κ w6 r7 v8 x3 (fun w9 => jgR' w9 a0 7 4 (fun r10 => jgI w9 a0 7 6 (fun v11 => (jRc w9 r10 6 ∧ w_X3_put κ w9 r10 v11 x4 (fun w12 => jgR' w12 a0 7 5 (fun r13 => jgI w12 a0 7 6 (fun v14 => jgI w12 a0 7 7 (fun v15 => (jRc w12 r13 6 ∧ w_X3_put κ w12 r13 v14 v15 (fun w16 => jgI w16 a0 7 6 (fun v17 => (jpV w16 a0 7 6 (.int (v17 + 1)) (fun w18 => P 1 w18))))))))))))))))))))))))
set_option maxRecDepth 100000 in
set_option maxHeartbeats 4000000 in
theorem k_X4_addStep_b0 {Γ : jG} (X : jX Γ cX4_addStep 5 RX4) (hR : jgR Γ = ({ frames := 1, cells := 0, slots := 0, locals := 22 } : Room)) {P : Int32 → va_W → Prop} (Rt : jRt Γ cX4_addStep 5 0 0 (some .boolean) (jPi P)) {w : va_W} {a0 : Nat} {x1 : Int32} {x2 : Int32} {x3 : Int32} {x4 : Int32} (h : w_X4_addStep_b0 (jgE Γ).2.2.2 w a0 x1 x2 x3 x4 P) : J Γ 5 w 0 0 0 [(0, .ref a0), (1, .int x1), (2, .int x2), (3, .int x3), (4, .int x4)] [] := by
  unfold w_X4_addStep_b0 at h
  refine j_aload_n X dX4_addStep_0 0 rfl ?_
  obtain ⟨fs1, r1, g1, i1, h⟩ := h
  refine j_get X (ci := 7) (C := RX4) (T := TX4) (N := 9) rfl jin_X4 1 (by decide) g1 i1 jw_265 rfl dX4_addStep_1 ?_
  refine j_aload_n X dX4_addStep_4 0 rfl ?_
  obtain ⟨fs2, v2, g2, i2, h⟩ := h
  refine j_get X (ci := 7) (C := RX4) (T := TX4) (N := 9) rfl jin_X4 6 (by decide) g2 i2 jw_275 rfl dX4_addStep_5 ?_
  refine j_iload_n X dX4_addStep_8 1 rfl ?_
  obtain ⟨⟨fs3, g3⟩, h⟩ := h
  refine j_callVv X [.int v2, .int x1] [] (c_X3_put h) (T := TX3) (N := 1) g3 rfl jm_X3_put jw_794 rfl ⟨rfl, rfl⟩ (by rw [hR]; decide) rfl (Nat.le_of_ble_eq_true rfl) dX4_addStep_9 (fun w3 h => ?_)
  refine j_aload_n X dX4_addStep_12 0 rfl ?_
  obtain ⟨fs4, r4, g4, i4, h⟩ := h
  refine j_get X (ci := 7) (C := RX4) (T := TX4) (N := 9) rfl jin_X4 2 (by decide) g4 i4 jw_267 rfl dX4_addStep_13 ?_
  refine j_aload_n X dX4_addStep_16 0 rfl ?_
  obtain ⟨fs5, v5, g5, i5, h⟩ := h
  refine j_get X (ci := 7) (C := RX4) (T := TX4) (N := 9) rfl jin_X4 6 (by decide) g5 i5 jw_275 rfl dX4_addStep_17 ?_
  refine j_iload_n X dX4_addStep_20 2 rfl ?_
  obtain ⟨⟨fs6, g6⟩, h⟩ := h
  refine j_callVv X [.int v5, .int x2] [] (c_X3_put h) (T := TX3) (N := 1) g6 rfl jm_X3_put jw_794 rfl ⟨rfl, rfl⟩ (by rw [hR]; decide) rfl (Nat.le_of_ble_eq_true rfl) dX4_addStep_21 (fun w6 h => ?_)
  refine j_aload_n X dX4_addStep_24 0 rfl ?_
  obtain ⟨fs7, r7, g7, i7, h⟩ := h
  refine j_get X (ci := 7) (C := RX4) (T := TX4) (N := 9) rfl jin_X4 3 (by decide) g7 i7 jw_269 rfl dX4_addStep_25 ?_
  refine j_aload_n X dX4_addStep_28 0 rfl ?_
  obtain ⟨fs8, v8, g8, i8, h⟩ := h
  refine j_get X (ci := 7) (C := RX4) (T := TX4) (N := 9) rfl jin_X4 6 (by decide) g8 i8 jw_275 rfl dX4_addStep_29 ?_
  refine j_iload_n X dX4_addStep_32 3 rfl ?_
  obtain ⟨⟨fs9, g9⟩, h⟩ := h
  refine j_callVv X [.int v8, .int x3] [] (c_X3_put h) (T := TX3) (N := 1) g9 rfl jm_X3_put jw_794 rfl ⟨rfl, rfl⟩ (by rw [hR]; decide) rfl (Nat.le_of_ble_eq_true rfl) dX4_addStep_33 (fun w9 h => ?_)
  refine j_aload_n X dX4_addStep_36 0 rfl ?_
  obtain ⟨fs10, r10, g10, i10, h⟩ := h
  refine j_get X (ci := 7) (C := RX4) (T := TX4) (N := 9) rfl jin_X4 4 (by decide) g10 i10 jw_271 rfl dX4_addStep_37 ?_
  refine j_aload_n X dX4_addStep_40 0 rfl ?_
  obtain ⟨fs11, v11, g11, i11, h⟩ := h
  refine j_get X (ci := 7) (C := RX4) (T := TX4) (N := 9) rfl jin_X4 6 (by decide) g11 i11 jw_275 rfl dX4_addStep_41 ?_
  refine j_iload X dX4_addStep_44 4 rfl ?_
  obtain ⟨⟨fs12, g12⟩, h⟩ := h
  refine j_callVv X [.int v11, .int x4] [] (c_X3_put h) (T := TX3) (N := 1) g12 rfl jm_X3_put jw_794 rfl ⟨rfl, rfl⟩ (by rw [hR]; decide) rfl (Nat.le_of_ble_eq_true rfl) dX4_addStep_46 (fun w12 h => ?_)
  refine j_aload_n X dX4_addStep_49 0 rfl ?_
  obtain ⟨fs13, r13, g13, i13, h⟩ := h
  refine j_get X (ci := 7) (C := RX4) (T := TX4) (N := 9) rfl jin_X4 5 (by decide) g13 i13 jw_273 rfl dX4_addStep_50 ?_
  refine j_aload_n X dX4_addStep_53 0 rfl ?_
  obtain ⟨fs14, v14, g14, i14, h⟩ := h
  refine j_get X (ci := 7) (C := RX4) (T := TX4) (N := 9) rfl jin_X4 6 (by decide) g14 i14 jw_275 rfl dX4_addStep_54 ?_
  refine j_aload_n X dX4_addStep_57 0 rfl ?_
  obtain ⟨fs15, v15, g15, i15, h⟩ := h
  refine j_get X (ci := 7) (C := RX4) (T := TX4) (N := 9) rfl jin_X4 7 (by decide) g15 i15 jw_277 rfl dX4_addStep_58 ?_
  obtain ⟨⟨fs16, g16⟩, h⟩ := h
  refine j_callVv X [.int v14, .int v15] [] (c_X3_put h) (T := TX3) (N := 1) g16 rfl jm_X3_put jw_794 rfl ⟨rfl, rfl⟩ (by rw [hR]; decide) rfl (Nat.le_of_ble_eq_true rfl) dX4_addStep_61 (fun w16 h => ?_)
  refine j_aload_n X dX4_addStep_64 0 rfl ?_
  refine j_dup X dX4_addStep_65 rfl ?_
  obtain ⟨fs17, v17, g17, i17, h⟩ := h
  refine j_get X (ci := 7) (C := RX4) (T := TX4) (N := 9) rfl jin_X4 6 (by decide) g17 i17 jw_275 rfl dX4_addStep_66 ?_
  refine j_iconst X 1 dX4_addStep_69 (by decide) ?_
  refine j_iadd X dX4_addStep_70 ?_
  obtain ⟨fs18, g18, i18, h⟩ := h
  refine j_put X (ci := 7) (C := RX4) (T := TX4) (N := 9) rfl jin_X4 tyX4 tyX4_ok nmX4 6 (by decide) g18 jw_275 rfl rfl (by rfl) (by rfl) i18 dX4_addStep_71 ?_
  generalize jst w16 a0 _ = w18 at h ⊢
  refine j_iconst X 1 dX4_addStep_74 (by decide) ?_
  exact Rt.z dX4_addStep_75 (by decide) ⟨_, rfl, h⟩ (by first | decide | omega) (by first | decide | omega)
def w_X4_addStep (κ : Nat → Nat) (w : va_W) (a0 : Nat) (x1 : Int32) (x2 : Int32) (x3 : Int32) (x4 : Int32) (P : Int32 → va_W → Prop) : Prop := w_X4_addStep_b0 κ w a0 x1 x2 x3 x4 P
theorem c_X4_addStep {E : jE} {w : va_W} {a0 : Nat} {x1 : Int32} {x2 : Int32} {x3 : Int32} {x4 : Int32} {P : Int32 → va_W → Prop} (h : w_X4_addStep E.2.2.2 w a0 x1 x2 x3 x4 P) : jC E yX4_addStep cX4_addStep 5 (some .boolean) ({ frames := 1, cells := 0, slots := 0, locals := 22 } : Room) [.ref a0, .int x1, .int x2, .int x3, .int x4] w 0 0 (jPi P) := by
  refine jC_of (by decide) (Nat.le_of_ble_eq_true rfl) ?_
  intro Γ X hE hR Rt
  subst hE
  exact k_X4_addStep_b0 X hR Rt h
theorem jm_X4_readDigit : jMv yX4_readDigit cX4_readDigit 2 (some .int) 0 := ⟨jw_802, jw_9, jw_30, jw_803, ⟨by decide +kernel, by decide +kernel⟩, by decide +kernel⟩
def w_X4_readDigit_b17 (κ : Nat → Nat) (w : va_W) (P : Int32 → va_W → Prop) : Prop :=
    P (-1) w
set_option maxRecDepth 100000 in
set_option maxHeartbeats 4000000 in
theorem k_X4_readDigit_b17 {Γ : jG} (X : jX Γ cX4_readDigit 2 RX4) (hR : jgR Γ = ({ frames := 5, cells := 0, slots := 0, locals := 108 } : Room)) {P : Int32 → va_W → Prop} (Rt : jRt Γ cX4_readDigit 2 0 0 (some .int) (jPi P)) {w : va_W} (h : w_X4_readDigit_b17 (jgE Γ).2.2.2 w  P) : J Γ 2 w 0 0 17 [] [] := by
  unfold w_X4_readDigit_b17 at h
  refine j_iconst X (-1) dX4_readDigit_17 (by decide) ?_
  exact Rt.i dX4_readDigit_18 ⟨_, rfl, h⟩ (by first | decide | omega) (by first | decide | omega)
def w_X4_readDigit_b0 (κ : Nat → Nat) (w : va_W) (a0 : Nat) (P : Int32 → va_W → Prop) : Prop :=
    (jRc w a0 7 ∧ w_X4_sign κ w a0 (fun v1 w1 => (if v1 < 48 then w_X4_readDigit_b17 κ w1  P else (if v1 ≤ 57 then jgI w1 a0 7 8 (fun v2 => (jpV w1 a0 7 8 (.int (v2 + 1)) (fun w3 => P (v1 - 48) w3))) else w_X4_readDigit_b17 κ w1  P))))
set_option maxRecDepth 100000 in
set_option maxHeartbeats 4000000 in
theorem k_X4_readDigit_b0 {Γ : jG} (X : jX Γ cX4_readDigit 2 RX4) (hR : jgR Γ = ({ frames := 5, cells := 0, slots := 0, locals := 108 } : Room)) {P : Int32 → va_W → Prop} (Rt : jRt Γ cX4_readDigit 2 0 0 (some .int) (jPi P)) {w : va_W} {a0 : Nat} (h : w_X4_readDigit_b0 (jgE Γ).2.2.2 w a0 P) : J Γ 2 w 0 0 0 [(0, .ref a0)] [] := by
  unfold w_X4_readDigit_b0 at h
  refine j_aload_n X dX4_readDigit_0 0 rfl ?_
  obtain ⟨⟨fs1, g1⟩, h⟩ := h
  refine j_callVi X [] [] (c_X4_sign h) (T := TX4) (N := 9) g1 rfl jm_X4_sign jw_713 rfl ⟨rfl, rfl⟩ (by rw [hR]; decide) rfl (Nat.le_of_ble_eq_true rfl) dX4_readDigit_1 (fun v1 w1 h => ?_)
  refine j_istore_n X [(1, .int v1), (0, .ref a0)] dX4_readDigit_4 (by decide) rfl ?_
  refine j_iload_n X dX4_readDigit_5 0 rfl ?_
  refine j_bipush X 48 dX4_readDigit_6 (by decide) ?_
  refine j_icmp_lt X 17 dX4_readDigit_8 (by decide) (fun c => ?_) (fun c => ?_)
  · replace h := jif_t c h
    refine j_sub [] rfl ?_
    exact k_X4_readDigit_b17 X hR Rt h
  · replace h := jif_f c h
    refine j_iload_n X dX4_readDigit_11 0 rfl ?_
    refine j_bipush X 57 dX4_readDigit_12 (by decide) ?_
    refine j_icmp_le X 19 dX4_readDigit_14 (by decide) (fun c => ?_) (fun c => ?_)
    · replace h := jif_t c h
      refine j_aload_n X dX4_readDigit_19 1 rfl ?_
      refine j_dup X dX4_readDigit_20 rfl ?_
      obtain ⟨fs2, v2, g2, i2, h⟩ := h
      refine j_get X (ci := 7) (C := RX4) (T := TX4) (N := 9) rfl jin_X4 8 (by decide) g2 i2 jw_279 rfl dX4_readDigit_21 ?_
      refine j_iconst X 1 dX4_readDigit_24 (by decide) ?_
      refine j_iadd X dX4_readDigit_25 ?_
      obtain ⟨fs3, g3, i3, h⟩ := h
      refine j_put X (ci := 7) (C := RX4) (T := TX4) (N := 9) rfl jin_X4 tyX4 tyX4_ok nmX4 8 (by decide) g3 jw_279 rfl rfl (by rfl) (by rfl) i3 dX4_readDigit_26 ?_
      generalize jst w1 a0 _ = w3 at h ⊢
      refine j_iload_n X dX4_readDigit_29 0 rfl ?_
      refine j_bipush X 48 dX4_readDigit_30 (by decide) ?_
      refine j_isub X dX4_readDigit_32 ?_
      exact Rt.i dX4_readDigit_33 ⟨_, rfl, h⟩ (by first | decide | omega) (by first | decide | omega)
    · replace h := jif_f c h
      refine j_sub [] rfl ?_
      exact k_X4_readDigit_b17 X hR Rt h
def w_X4_readDigit (κ : Nat → Nat) (w : va_W) (a0 : Nat) (P : Int32 → va_W → Prop) : Prop := w_X4_readDigit_b0 κ w a0 P
theorem c_X4_readDigit {E : jE} {w : va_W} {a0 : Nat} {P : Int32 → va_W → Prop} (h : w_X4_readDigit E.2.2.2 w a0 P) : jC E yX4_readDigit cX4_readDigit 2 (some .int) ({ frames := 5, cells := 0, slots := 0, locals := 108 } : Room) [.ref a0] w 0 0 (jPi P) := by
  refine jC_of (by decide) (Nat.le_of_ble_eq_true rfl) ?_
  intro Γ X hE hR Rt
  subst hE
  exact k_X4_readDigit_b0 X hR Rt h
theorem jm_X4_readNumber : jMv yX4_readNumber cX4_readNumber 3 (some .int) 0 := ⟨jw_806, jw_10, jw_30, jw_807, ⟨by decide +kernel, by decide +kernel⟩, by decide +kernel⟩
def w_X4_readNumber_b32 (κ : Nat → Nat) (w : va_W) (s0 : Int32) (P : Int32 → va_W → Prop) : Prop :=
    P s0 w
set_option maxRecDepth 100000 in
set_option maxHeartbeats 4000000 in
theorem k_X4_readNumber_b32 {Γ : jG} (X : jX Γ cX4_readNumber 3 RX4) (hR : jgR Γ = ({ frames := 6, cells := 0, slots := 0, locals := 129 } : Room)) {P : Int32 → va_W → Prop} (Rt : jRt Γ cX4_readNumber 3 0 0 (some .int) (jPi P)) {w : va_W} {s0 : Int32} (h : w_X4_readNumber_b32 (jgE Γ).2.2.2 w s0 P) : J Γ 3 w 0 0 32 [] [.int s0] := by
  unfold w_X4_readNumber_b32 at h
  exact Rt.i dX4_readNumber_32 ⟨_, rfl, h⟩ (by first | decide | omega) (by first | decide | omega)
def w_X4_readNumber_b0 (κ : Nat → Nat) (w : va_W) (a0 : Nat) (P : Int32 → va_W → Prop) : Prop :=
    (jRc w a0 7 ∧ w_X4_readDigit κ w a0 (fun v1 w1 => (if v1 = (-1) then P (-1) w1 else (jRc w1 a0 7 ∧ w_X4_readDigit κ w1 a0 (fun v2 w2 => (if v2 = (-1) then w_X4_readNumber_b32 κ w2 v1 P else w_X4_readNumber_b32 κ w2 ((10 * v1) + v2) P))))))
set_option maxRecDepth 100000 in
set_option maxHeartbeats 4000000 in
theorem k_X4_readNumber_b0 {Γ : jG} (X : jX Γ cX4_readNumber 3 RX4) (hR : jgR Γ = ({ frames := 6, cells := 0, slots := 0, locals := 129 } : Room)) {P : Int32 → va_W → Prop} (Rt : jRt Γ cX4_readNumber 3 0 0 (some .int) (jPi P)) {w : va_W} {a0 : Nat} (h : w_X4_readNumber_b0 (jgE Γ).2.2.2 w a0 P) : J Γ 3 w 0 0 0 [(0, .ref a0)] [] := by
  unfold w_X4_readNumber_b0 at h
  refine j_aload_n X dX4_readNumber_0 0 rfl ?_
  obtain ⟨⟨fs1, g1⟩, h⟩ := h
  refine j_callVi X [] [] (c_X4_readDigit h) (T := TX4) (N := 9) g1 rfl jm_X4_readDigit jw_800 rfl ⟨rfl, rfl⟩ (by rw [hR]; decide) rfl (Nat.le_of_ble_eq_true rfl) dX4_readNumber_1 (fun v1 w1 h => ?_)
  refine j_istore_n X [(1, .int v1), (0, .ref a0)] dX4_readNumber_4 (by decide) rfl ?_
  refine j_iload_n X dX4_readNumber_5 0 rfl ?_
  refine j_iconst X (-1) dX4_readNumber_6 (by decide) ?_
  refine j_icmp_ne X 12 dX4_readNumber_7 (by decide) (fun c => ?_) (fun c => ?_)
  · replace h := jif_f c h
    refine j_aload_n X dX4_readNumber_12 1 rfl ?_
    obtain ⟨⟨fs2, g2⟩, h⟩ := h
    refine j_callVi X [] [] (c_X4_readDigit h) (T := TX4) (N := 9) g2 rfl jm_X4_readDigit jw_800 rfl ⟨rfl, rfl⟩ (by rw [hR]; decide) rfl (Nat.le_of_ble_eq_true rfl) dX4_readNumber_13 (fun v2 w2 h => ?_)
    refine j_istore_n X [(2, .int v2), (1, .int v1), (0, .ref a0)] dX4_readNumber_16 (by decide) rfl ?_
    refine j_iload_n X dX4_readNumber_17 0 rfl ?_
    refine j_iconst X (-1) dX4_readNumber_18 (by decide) ?_
    refine j_icmp_ne X 26 dX4_readNumber_19 (by decide) (fun c => ?_) (fun c => ?_)
    · replace h := jif_f c h
      refine j_bipush X 10 dX4_readNumber_26 (by decide) ?_
      refine j_iload_n X dX4_readNumber_28 1 rfl ?_
      refine j_imul X dX4_readNumber_29 ?_
      refine j_iload_n X dX4_readNumber_30 0 rfl ?_
      refine j_iadd X dX4_readNumber_31 ?_
      refine j_sub [] rfl ?_
      exact k_X4_readNumber_b32 X hR Rt h
    · replace h := jif_t c h
      refine j_iload_n X dX4_readNumber_22 1 rfl ?_
      refine j_goto X 32 dX4_readNumber_23 (by decide) ?_
      refine j_sub [] rfl ?_
      exact k_X4_readNumber_b32 X hR Rt h
  · replace h := jif_t c h
    refine j_iconst X (-1) dX4_readNumber_10 (by decide) ?_
    exact Rt.i dX4_readNumber_11 ⟨_, rfl, h⟩ (by first | decide | omega) (by first | decide | omega)
def w_X4_readNumber (κ : Nat → Nat) (w : va_W) (a0 : Nat) (P : Int32 → va_W → Prop) : Prop := w_X4_readNumber_b0 κ w a0 P
theorem c_X4_readNumber {E : jE} {w : va_W} {a0 : Nat} {P : Int32 → va_W → Prop} (h : w_X4_readNumber E.2.2.2 w a0 P) : jC E yX4_readNumber cX4_readNumber 3 (some .int) ({ frames := 6, cells := 0, slots := 0, locals := 129 } : Room) [.ref a0] w 0 0 (jPi P) := by
  refine jC_of (by decide) (Nat.le_of_ble_eq_true rfl) ?_
  intro Γ X hE hR Rt
  subst hE
  exact k_X4_readNumber_b0 X hR Rt h
theorem jm_X4_readWriting : jMv yX4_readWriting cX4_readWriting 4 (some .boolean) 0 := ⟨jw_798, jw_8, jw_30, jw_799, ⟨by decide +kernel, by decide +kernel⟩, by decide +kernel⟩
def w_X4_readWriting_b56 (κ : Nat → Nat) (w : va_W) (a0 : Nat) (x1 : Int32) (P : Int32 → va_W → Prop) : Prop :=
    (jRc w a0 7 ∧ w_X4_addStep κ w a0 2 x1 0 0 (fun v1 w1 => (narrow .boolean (.int v1) = .int v1 ∧ P v1 w1)))
set_option maxRecDepth 100000 in
set_option maxHeartbeats 4000000 in
theorem k_X4_readWriting_b56 {Γ : jG} (X : jX Γ cX4_readWriting 4 RX4) (hR : jgR Γ = ({ frames := 7, cells := 0, slots := 0, locals := 151 } : Room)) {P : Int32 → va_W → Prop} (Rt : jRt Γ cX4_readWriting 4 0 0 (some .boolean) (jPi P)) {w : va_W} {a0 : Nat} {x1 : Int32} (h : w_X4_readWriting_b56 (jgE Γ).2.2.2 w a0 x1 P) : J Γ 4 w 0 0 56 [(0, .ref a0), (1, .int x1)] [] := by
  unfold w_X4_readWriting_b56 at h
  refine j_aload_n X dX4_readWriting_56 0 rfl ?_
  refine j_iconst X 2 dX4_readWriting_57 (by decide) ?_
  refine j_iload_n X dX4_readWriting_58 1 rfl ?_
  refine j_iconst X 0 dX4_readWriting_59 (by decide) ?_
  refine j_iconst X 0 dX4_readWriting_60 (by decide) ?_
  obtain ⟨⟨fs1, g1⟩, h⟩ := h
  refine j_callVi X [.int 2, .int x1, .int 0, .int 0] [] (c_X4_addStep h) (T := TX4) (N := 9) g1 rfl jm_X4_addStep jw_790 rfl ⟨rfl, rfl⟩ (by rw [hR]; decide) rfl (Nat.le_of_ble_eq_true rfl) dX4_readWriting_61 (fun v1 w1 h => ?_)
  exact Rt.z dX4_readWriting_64 h.1 ⟨_, rfl, h.2⟩ (by first | decide | omega) (by first | decide | omega)
def w_X4_readWriting_b14 : Nat → (κ : Nat → Nat) → (w : va_W) → (a0 : Nat) → (x1 : Int32) → (x2 : Int32) → (P : Int32 → va_W → Prop) → Prop
  | 0, _, _, _, _, _, _ => False
  | n + 1, κ, w, a0, x1, x2, P =>
    (if 60 ≤ x2 then w_X4_readWriting_b56 κ w a0 x1 P else (jRc w a0 7 ∧ w_X4_readSign κ w a0 44 (fun v1 w1 => (if v1 = 0 then w_X4_readWriting_b56 κ w1 a0 x1 P else (jRc w1 a0 7 ∧ w_X4_readNumber κ w1 a0 (fun v2 w2 => (if v2 = (-1) then P 0 w2 else (jRc w2 a0 7 ∧ w_X4_addStep κ w2 a0 1 x1 v2 0 (fun v3 w3 => w_X4_readWriting_b14 n κ w3 a0 x1 (x2 + 1) P)))))))))
set_option maxRecDepth 100000 in
set_option maxHeartbeats 4000000 in
theorem k_X4_readWriting_b14 {Γ : jG} (X : jX Γ cX4_readWriting 4 RX4) (hR : jgR Γ = ({ frames := 7, cells := 0, slots := 0, locals := 151 } : Room)) {P : Int32 → va_W → Prop} (Rt : jRt Γ cX4_readWriting 4 0 0 (some .boolean) (jPi P)) : ∀ (n : Nat) {w : va_W} {a0 : Nat} {x1 : Int32} {x2 : Int32} (h : w_X4_readWriting_b14 n (jgE Γ).2.2.2 w a0 x1 x2 P), J Γ 4 w 0 0 14 [(0, .ref a0), (1, .int x1), (2, .int x2)] [] := by
  intro n
  induction n with
  | zero => intro w a0 x1 x2 h; exact False.elim h
  | succ n ih =>
    intro w a0 x1 x2 h
    rw [w_X4_readWriting_b14] at h
    refine j_iload_n X dX4_readWriting_14 2 rfl ?_
    refine j_bipush X 60 dX4_readWriting_15 (by decide) ?_
    refine j_icmp_ge X 56 dX4_readWriting_17 (by decide) (fun c => ?_) (fun c => ?_)
    · replace h := jif_t c h
      refine j_sub [0, 1] rfl ?_
      exact k_X4_readWriting_b56 X hR Rt h
    · replace h := jif_f c h
      refine j_aload_n X dX4_readWriting_20 0 rfl ?_
      refine j_bipush X 44 dX4_readWriting_21 (by decide) ?_
      obtain ⟨⟨fs1, g1⟩, h⟩ := h
      refine j_callVi X [.int 44] [] (c_X4_readSign h) (T := TX4) (N := 9) g1 rfl jm_X4_readSign jw_786 rfl ⟨rfl, rfl⟩ (by rw [hR]; decide) rfl (Nat.le_of_ble_eq_true rfl) dX4_readWriting_23 (fun v1 w1 h => ?_)
      refine j_if_eq X 56 dX4_readWriting_26 (by decide) (fun c => ?_) (fun c => ?_)
      · replace h := jif_t c h
        refine j_sub [0, 1] rfl ?_
        exact k_X4_readWriting_b56 X hR Rt h
      · replace h := jif_f c h
        refine j_aload_n X dX4_readWriting_29 0 rfl ?_
        obtain ⟨⟨fs2, g2⟩, h⟩ := h
        refine j_callVi X [] [] (c_X4_readNumber h) (T := TX4) (N := 9) g2 rfl jm_X4_readNumber jw_804 rfl ⟨rfl, rfl⟩ (by rw [hR]; decide) rfl (Nat.le_of_ble_eq_true rfl) dX4_readWriting_30 (fun v2 w2 h => ?_)
        refine j_istore_n X [(3, .int v2), (0, .ref a0), (1, .int x1), (2, .int x2)] dX4_readWriting_33 (by decide) rfl ?_
        refine j_iload_n X dX4_readWriting_34 0 rfl ?_
        refine j_iconst X (-1) dX4_readWriting_35 (by decide) ?_
        refine j_icmp_ne X 41 dX4_readWriting_36 (by decide) (fun c => ?_) (fun c => ?_)
        · replace h := jif_f c h
          refine j_aload_n X dX4_readWriting_41 1 rfl ?_
          refine j_iconst X 1 dX4_readWriting_42 (by decide) ?_
          refine j_iload_n X dX4_readWriting_43 2 rfl ?_
          refine j_iload_n X dX4_readWriting_44 0 rfl ?_
          refine j_iconst X 0 dX4_readWriting_45 (by decide) ?_
          obtain ⟨⟨fs3, g3⟩, h⟩ := h
          refine j_callVi X [.int 1, .int x1, .int v2, .int 0] [] (c_X4_addStep h) (T := TX4) (N := 9) g3 rfl jm_X4_addStep jw_790 rfl ⟨rfl, rfl⟩ (by rw [hR]; decide) rfl (Nat.le_of_ble_eq_true rfl) dX4_readWriting_46 (fun v3 w3 h => ?_)
          refine j_pop X dX4_readWriting_49 rfl ?_
          refine j_iinc X (x2 + 1) [(2, .int (x2 + 1)), (3, .int v2), (0, .ref a0), (1, .int x1)] dX4_readWriting_50 3 rfl rfl (by decide) rfl ?_
          refine j_goto X 14 dX4_readWriting_53 (by decide) ?_
          refine j_sub [2, 3, 0] rfl ?_
          exact ih h
        · replace h := jif_t c h
          refine j_iconst X 0 dX4_readWriting_39 (by decide) ?_
          exact Rt.z dX4_readWriting_40 (by decide) ⟨_, rfl, h⟩ (by first | decide | omega) (by first | decide | omega)
def w_X4_readWriting_b0 (κ : Nat → Nat) (w : va_W) (a0 : Nat) (P : Int32 → va_W → Prop) : Prop :=
    (jRc w a0 7 ∧ w_X4_readDigit κ w a0 (fun v1 w1 => (if v1 = (-1) then P 0 w1 else w_X4_readWriting_b14 jFu κ w1 a0 v1 0 P)))
set_option maxRecDepth 100000 in
set_option maxHeartbeats 4000000 in
theorem k_X4_readWriting_b0 {Γ : jG} (X : jX Γ cX4_readWriting 4 RX4) (hR : jgR Γ = ({ frames := 7, cells := 0, slots := 0, locals := 151 } : Room)) {P : Int32 → va_W → Prop} (Rt : jRt Γ cX4_readWriting 4 0 0 (some .boolean) (jPi P)) {w : va_W} {a0 : Nat} (h : w_X4_readWriting_b0 (jgE Γ).2.2.2 w a0 P) : J Γ 4 w 0 0 0 [(0, .ref a0)] [] := by
  unfold w_X4_readWriting_b0 at h
  refine j_aload_n X dX4_readWriting_0 0 rfl ?_
  obtain ⟨⟨fs1, g1⟩, h⟩ := h
  refine j_callVi X [] [] (c_X4_readDigit h) (T := TX4) (N := 9) g1 rfl jm_X4_readDigit jw_800 rfl ⟨rfl, rfl⟩ (by rw [hR]; decide) rfl (Nat.le_of_ble_eq_true rfl) dX4_readWriting_1 (fun v1 w1 h => ?_)
  refine j_istore_n X [(1, .int v1), (0, .ref a0)] dX4_readWriting_4 (by decide) rfl ?_
  refine j_iload_n X dX4_readWriting_5 0 rfl ?_
  refine j_iconst X (-1) dX4_readWriting_6 (by decide) ?_
  refine j_icmp_ne X 12 dX4_readWriting_7 (by decide) (fun c => ?_) (fun c => ?_)
  · replace h := jif_f c h
    refine j_iconst X 0 dX4_readWriting_12 (by decide) ?_
    refine j_istore_n X [(2, .int 0), (1, .int v1), (0, .ref a0)] dX4_readWriting_13 (by decide) rfl ?_
    refine j_sub [2, 1, 0] rfl ?_
    exact k_X4_readWriting_b14 X hR Rt _ h
  · replace h := jif_t c h
    refine j_iconst X 0 dX4_readWriting_10 (by decide) ?_
    exact Rt.z dX4_readWriting_11 (by decide) ⟨_, rfl, h⟩ (by first | decide | omega) (by first | decide | omega)
def w_X4_readWriting (κ : Nat → Nat) (w : va_W) (a0 : Nat) (P : Int32 → va_W → Prop) : Prop := w_X4_readWriting_b0 κ w a0 P
theorem c_X4_readWriting {E : jE} {w : va_W} {a0 : Nat} {P : Int32 → va_W → Prop} (h : w_X4_readWriting E.2.2.2 w a0 P) : jC E yX4_readWriting cX4_readWriting 4 (some .boolean) ({ frames := 7, cells := 0, slots := 0, locals := 151 } : Room) [.ref a0] w 0 0 (jPi P) := by
  refine jC_of (by decide) (Nat.le_of_ble_eq_true rfl) ?_
  intro Γ X hE hR Rt
  subst hE
  exact k_X4_readWriting_b0 X hR Rt h
theorem jm_X4_readFollowing : jMv yX4_readFollowing cX4_readFollowing 3 (some .boolean) 0 := ⟨jw_811, jw_11, jw_30, jw_812, ⟨by decide +kernel, by decide +kernel⟩, by decide +kernel⟩
def w_X4_readFollowing_b19 (κ : Nat → Nat) (w : va_W) (P : Int32 → va_W → Prop) : Prop :=
    P 0 w
set_option maxRecDepth 100000 in
set_option maxHeartbeats 4000000 in
theorem k_X4_readFollowing_b19 {Γ : jG} (X : jX Γ cX4_readFollowing 3 RX4) (hR : jgR Γ = ({ frames := 7, cells := 0, slots := 0, locals := 151 } : Room)) {P : Int32 → va_W → Prop} (Rt : jRt Γ cX4_readFollowing 3 0 0 (some .boolean) (jPi P)) {w : va_W} (h : w_X4_readFollowing_b19 (jgE Γ).2.2.2 w  P) : J Γ 3 w 0 0 19 [] [] := by
  unfold w_X4_readFollowing_b19 at h
  refine j_iconst X 0 dX4_readFollowing_19 (by decide) ?_
  exact Rt.z dX4_readFollowing_20 (by decide) ⟨_, rfl, h⟩ (by first | decide | omega) (by first | decide | omega)
def w_X4_readFollowing_b47 (κ : Nat → Nat) (w : va_W) (s0 : Int32) (P : Int32 → va_W → Prop) : Prop :=
    (narrow .boolean (.int s0) = .int s0 ∧ P s0 w)
set_option maxRecDepth 100000 in
set_option maxHeartbeats 4000000 in
theorem k_X4_readFollowing_b47 {Γ : jG} (X : jX Γ cX4_readFollowing 3 RX4) (hR : jgR Γ = ({ frames := 7, cells := 0, slots := 0, locals := 151 } : Room)) {P : Int32 → va_W → Prop} (Rt : jRt Γ cX4_readFollowing 3 0 0 (some .boolean) (jPi P)) {w : va_W} {s0 : Int32} (h : w_X4_readFollowing_b47 (jgE Γ).2.2.2 w s0 P) : J Γ 3 w 0 0 47 [] [.int s0] := by
  unfold w_X4_readFollowing_b47 at h
  exact Rt.z dX4_readFollowing_47 h.1 ⟨_, rfl, h.2⟩ (by first | decide | omega) (by first | decide | omega)
def w_X4_readFollowing_b46 (κ : Nat → Nat) (w : va_W) (P : Int32 → va_W → Prop) : Prop :=
    w_X4_readFollowing_b47 κ w 0 P
set_option maxRecDepth 100000 in
set_option maxHeartbeats 4000000 in
theorem k_X4_readFollowing_b46 {Γ : jG} (X : jX Γ cX4_readFollowing 3 RX4) (hR : jgR Γ = ({ frames := 7, cells := 0, slots := 0, locals := 151 } : Room)) {P : Int32 → va_W → Prop} (Rt : jRt Γ cX4_readFollowing 3 0 0 (some .boolean) (jPi P)) {w : va_W} (h : w_X4_readFollowing_b46 (jgE Γ).2.2.2 w  P) : J Γ 3 w 0 0 46 [] [] := by
  unfold w_X4_readFollowing_b46 at h
  refine j_iconst X 0 dX4_readFollowing_46 (by decide) ?_
  exact k_X4_readFollowing_b47 X hR Rt h
def w_X4_readFollowing_b0 (κ : Nat → Nat) (w : va_W) (a0 : Nat) (P : Int32 → va_W → Prop) : Prop :=
    (jRc w a0 7 ∧ w_X4_readDigit κ w a0 (fun v1 w1 => (if v1 = (-1) then w_X4_readFollowing_b19 κ w1  P else (jRc w1 a0 7 ∧ w_X4_readSign κ w1 a0 32 (fun v2 w2 => (if v2 = 0 then w_X4_readFollowing_b19 κ w2  P else (jRc w2 a0 7 ∧ w_X4_readNumber κ w2 a0 (fun v3 w3 => (if v3 = (-1) then w_X4_readFollowing_b46 κ w3  P else (jRc w3 a0 7 ∧ w_X4_addStep κ w3 a0 3 v1 v3 0 (fun v4 w4 => (if v4 = 0 then w_X4_readFollowing_b46 κ w4  P else w_X4_readFollowing_b47 κ w4 1 P))))))))))))
set_option maxRecDepth 100000 in
set_option maxHeartbeats 4000000 in
theorem k_X4_readFollowing_b0 {Γ : jG} (X : jX Γ cX4_readFollowing 3 RX4) (hR : jgR Γ = ({ frames := 7, cells := 0, slots := 0, locals := 151 } : Room)) {P : Int32 → va_W → Prop} (Rt : jRt Γ cX4_readFollowing 3 0 0 (some .boolean) (jPi P)) {w : va_W} {a0 : Nat} (h : w_X4_readFollowing_b0 (jgE Γ).2.2.2 w a0 P) : J Γ 3 w 0 0 0 [(0, .ref a0)] [] := by
  unfold w_X4_readFollowing_b0 at h
  refine j_aload_n X dX4_readFollowing_0 0 rfl ?_
  obtain ⟨⟨fs1, g1⟩, h⟩ := h
  refine j_callVi X [] [] (c_X4_readDigit h) (T := TX4) (N := 9) g1 rfl jm_X4_readDigit jw_800 rfl ⟨rfl, rfl⟩ (by rw [hR]; decide) rfl (Nat.le_of_ble_eq_true rfl) dX4_readFollowing_1 (fun v1 w1 h => ?_)
  refine j_istore_n X [(1, .int v1), (0, .ref a0)] dX4_readFollowing_4 (by decide) rfl ?_
  refine j_iload_n X dX4_readFollowing_5 0 rfl ?_
  refine j_iconst X (-1) dX4_readFollowing_6 (by decide) ?_
  refine j_icmp_eq X 19 dX4_readFollowing_7 (by decide) (fun c => ?_) (fun c => ?_)
  · replace h := jif_t c h
    refine j_sub [] rfl ?_
    exact k_X4_readFollowing_b19 X hR Rt h
  · replace h := jif_f c h
    refine j_aload_n X dX4_readFollowing_10 1 rfl ?_
    refine j_bipush X 32 dX4_readFollowing_11 (by decide) ?_
    obtain ⟨⟨fs2, g2⟩, h⟩ := h
    refine j_callVi X [.int 32] [] (c_X4_readSign h) (T := TX4) (N := 9) g2 rfl jm_X4_readSign jw_786 rfl ⟨rfl, rfl⟩ (by rw [hR]; decide) rfl (Nat.le_of_ble_eq_true rfl) dX4_readFollowing_13 (fun v2 w2 h => ?_)
    refine j_if_ne X 21 dX4_readFollowing_16 (by decide) (fun c => ?_) (fun c => ?_)
    · replace h := jif_f c h
      refine j_aload_n X dX4_readFollowing_21 1 rfl ?_
      obtain ⟨⟨fs3, g3⟩, h⟩ := h
      refine j_callVi X [] [] (c_X4_readNumber h) (T := TX4) (N := 9) g3 rfl jm_X4_readNumber jw_804 rfl ⟨rfl, rfl⟩ (by rw [hR]; decide) rfl (Nat.le_of_ble_eq_true rfl) dX4_readFollowing_22 (fun v3 w3 h => ?_)
      refine j_istore_n X [(2, .int v3), (1, .int v1), (0, .ref a0)] dX4_readFollowing_25 (by decide) rfl ?_
      refine j_iload_n X dX4_readFollowing_26 0 rfl ?_
      refine j_iconst X (-1) dX4_readFollowing_27 (by decide) ?_
      refine j_icmp_eq X 46 dX4_readFollowing_28 (by decide) (fun c => ?_) (fun c => ?_)
      · replace h := jif_t c h
        refine j_sub [] rfl ?_
        exact k_X4_readFollowing_b46 X hR Rt h
      · replace h := jif_f c h
        refine j_aload_n X dX4_readFollowing_31 2 rfl ?_
        refine j_iconst X 3 dX4_readFollowing_32 (by decide) ?_
        refine j_iload_n X dX4_readFollowing_33 1 rfl ?_
        refine j_iload_n X dX4_readFollowing_34 0 rfl ?_
        refine j_iconst X 0 dX4_readFollowing_35 (by decide) ?_
        obtain ⟨⟨fs4, g4⟩, h⟩ := h
        refine j_callVi X [.int 3, .int v1, .int v3, .int 0] [] (c_X4_addStep h) (T := TX4) (N := 9) g4 rfl jm_X4_addStep jw_790 rfl ⟨rfl, rfl⟩ (by rw [hR]; decide) rfl (Nat.le_of_ble_eq_true rfl) dX4_readFollowing_36 (fun v4 w4 h => ?_)
        refine j_if_eq X 46 dX4_readFollowing_39 (by decide) (fun c => ?_) (fun c => ?_)
        · replace h := jif_t c h
          refine j_sub [] rfl ?_
          exact k_X4_readFollowing_b46 X hR Rt h
        · replace h := jif_f c h
          refine j_iconst X 1 dX4_readFollowing_42 (by decide) ?_
          refine j_goto X 47 dX4_readFollowing_43 (by decide) ?_
          refine j_sub [] rfl ?_
          exact k_X4_readFollowing_b47 X hR Rt h
    · replace h := jif_t c h
      refine j_sub [] rfl ?_
      exact k_X4_readFollowing_b19 X hR Rt h
def w_X4_readFollowing (κ : Nat → Nat) (w : va_W) (a0 : Nat) (P : Int32 → va_W → Prop) : Prop := w_X4_readFollowing_b0 κ w a0 P
theorem c_X4_readFollowing {E : jE} {w : va_W} {a0 : Nat} {P : Int32 → va_W → Prop} (h : w_X4_readFollowing E.2.2.2 w a0 P) : jC E yX4_readFollowing cX4_readFollowing 3 (some .boolean) ({ frames := 7, cells := 0, slots := 0, locals := 151 } : Room) [.ref a0] w 0 0 (jPi P) := by
  refine jC_of (by decide) (Nat.le_of_ble_eq_true rfl) ?_
  intro Γ X hE hR Rt
  subst hE
  exact k_X4_readFollowing_b0 X hR Rt h
theorem jm_X4_readSwapping : jMv yX4_readSwapping cX4_readSwapping 4 (some .boolean) 0 := ⟨jw_816, jw_12, jw_30, jw_817, ⟨by decide +kernel, by decide +kernel⟩, by decide +kernel⟩
def w_X4_readSwapping_b19 (κ : Nat → Nat) (w : va_W) (P : Int32 → va_W → Prop) : Prop :=
    P 0 w
set_option maxRecDepth 100000 in
set_option maxHeartbeats 4000000 in
theorem k_X4_readSwapping_b19 {Γ : jG} (X : jX Γ cX4_readSwapping 4 RX4) (hR : jgR Γ = ({ frames := 7, cells := 0, slots := 0, locals := 151 } : Room)) {P : Int32 → va_W → Prop} (Rt : jRt Γ cX4_readSwapping 4 0 0 (some .boolean) (jPi P)) {w : va_W} (h : w_X4_readSwapping_b19 (jgE Γ).2.2.2 w  P) : J Γ 4 w 0 0 19 [] [] := by
  unfold w_X4_readSwapping_b19 at h
  refine j_iconst X 0 dX4_readSwapping_19 (by decide) ?_
  exact Rt.z dX4_readSwapping_20 (by decide) ⟨_, rfl, h⟩ (by first | decide | omega) (by first | decide | omega)
def w_X4_readSwapping_b40 (κ : Nat → Nat) (w : va_W) (P : Int32 → va_W → Prop) : Prop :=
    P 0 w
set_option maxRecDepth 100000 in
set_option maxHeartbeats 4000000 in
theorem k_X4_readSwapping_b40 {Γ : jG} (X : jX Γ cX4_readSwapping 4 RX4) (hR : jgR Γ = ({ frames := 7, cells := 0, slots := 0, locals := 151 } : Room)) {P : Int32 → va_W → Prop} (Rt : jRt Γ cX4_readSwapping 4 0 0 (some .boolean) (jPi P)) {w : va_W} (h : w_X4_readSwapping_b40 (jgE Γ).2.2.2 w  P) : J Γ 4 w 0 0 40 [] [] := by
  unfold w_X4_readSwapping_b40 at h
  refine j_iconst X 0 dX4_readSwapping_40 (by decide) ?_
  exact Rt.z dX4_readSwapping_41 (by decide) ⟨_, rfl, h⟩ (by first | decide | omega) (by first | decide | omega)
def w_X4_readSwapping_b68 (κ : Nat → Nat) (w : va_W) (s0 : Int32) (P : Int32 → va_W → Prop) : Prop :=
    (narrow .boolean (.int s0) = .int s0 ∧ P s0 w)
set_option maxRecDepth 100000 in
set_option maxHeartbeats 4000000 in
theorem k_X4_readSwapping_b68 {Γ : jG} (X : jX Γ cX4_readSwapping 4 RX4) (hR : jgR Γ = ({ frames := 7, cells := 0, slots := 0, locals := 151 } : Room)) {P : Int32 → va_W → Prop} (Rt : jRt Γ cX4_readSwapping 4 0 0 (some .boolean) (jPi P)) {w : va_W} {s0 : Int32} (h : w_X4_readSwapping_b68 (jgE Γ).2.2.2 w s0 P) : J Γ 4 w 0 0 68 [] [.int s0] := by
  unfold w_X4_readSwapping_b68 at h
  exact Rt.z dX4_readSwapping_68 h.1 ⟨_, rfl, h.2⟩ (by first | decide | omega) (by first | decide | omega)
def w_X4_readSwapping_b67 (κ : Nat → Nat) (w : va_W) (P : Int32 → va_W → Prop) : Prop :=
    w_X4_readSwapping_b68 κ w 0 P
set_option maxRecDepth 100000 in
set_option maxHeartbeats 4000000 in
theorem k_X4_readSwapping_b67 {Γ : jG} (X : jX Γ cX4_readSwapping 4 RX4) (hR : jgR Γ = ({ frames := 7, cells := 0, slots := 0, locals := 151 } : Room)) {P : Int32 → va_W → Prop} (Rt : jRt Γ cX4_readSwapping 4 0 0 (some .boolean) (jPi P)) {w : va_W} (h : w_X4_readSwapping_b67 (jgE Γ).2.2.2 w  P) : J Γ 4 w 0 0 67 [] [] := by
  unfold w_X4_readSwapping_b67 at h
  refine j_iconst X 0 dX4_readSwapping_67 (by decide) ?_
  exact k_X4_readSwapping_b68 X hR Rt h
def w_X4_readSwapping_b0 (κ : Nat → Nat) (w : va_W) (a0 : Nat) (P : Int32 → va_W → Prop) : Prop :=
    (jRc w a0 7 ∧ w_X4_readNumber κ w a0 (fun v1 w1 => (if v1 = (-1) then w_X4_readSwapping_b19 κ w1  P else (jRc w1 a0 7 ∧ w_X4_readSign κ w1 a0 32 (fun v2 w2 => (if v2 = 0 then w_X4_readSwapping_b19 κ w2  P else (jRc w2 a0 7 ∧ w_X4_readDigit κ w2 a0 (fun v3 w3 => (if v3 = (-1) then w_X4_readSwapping_b40 κ w3  P else (jRc w3 a0 7 ∧ w_X4_readSign κ w3 a0 32 (fun v4 w4 => (if v4 = 0 then w_X4_readSwapping_b40 κ w4  P else (jRc w4 a0 7 ∧ w_X4_readNumber κ w4 a0 (fun v5 w5 => (if v5 = (-1) then w_X4_readSwapping_b67 κ w5  P else (jRc w5 a0 7 ∧ w_X4_addStep κ w5 a0 5 v1 v3 v5 (fun v6 w6 => (if v6 = 0 then w_X4_readSwapping_b67 κ w6  P else w_X4_readSwapping_b68 κ w6 1 P))))))))))))))))))
set_option maxRecDepth 100000 in
set_option maxHeartbeats 4000000 in
theorem k_X4_readSwapping_b0 {Γ : jG} (X : jX Γ cX4_readSwapping 4 RX4) (hR : jgR Γ = ({ frames := 7, cells := 0, slots := 0, locals := 151 } : Room)) {P : Int32 → va_W → Prop} (Rt : jRt Γ cX4_readSwapping 4 0 0 (some .boolean) (jPi P)) {w : va_W} {a0 : Nat} (h : w_X4_readSwapping_b0 (jgE Γ).2.2.2 w a0 P) : J Γ 4 w 0 0 0 [(0, .ref a0)] [] := by
  unfold w_X4_readSwapping_b0 at h
  refine j_aload_n X dX4_readSwapping_0 0 rfl ?_
  obtain ⟨⟨fs1, g1⟩, h⟩ := h
  refine j_callVi X [] [] (c_X4_readNumber h) (T := TX4) (N := 9) g1 rfl jm_X4_readNumber jw_804 rfl ⟨rfl, rfl⟩ (by rw [hR]; decide) rfl (Nat.le_of_ble_eq_true rfl) dX4_readSwapping_1 (fun v1 w1 h => ?_)
  refine j_istore_n X [(1, .int v1), (0, .ref a0)] dX4_readSwapping_4 (by decide) rfl ?_
  refine j_iload_n X dX4_readSwapping_5 0 rfl ?_
  refine j_iconst X (-1) dX4_readSwapping_6 (by decide) ?_
  refine j_icmp_eq X 19 dX4_readSwapping_7 (by decide) (fun c => ?_) (fun c => ?_)
  · replace h := jif_t c h
    refine j_sub [] rfl ?_
    exact k_X4_readSwapping_b19 X hR Rt h
  · replace h := jif_f c h
    refine j_aload_n X dX4_readSwapping_10 1 rfl ?_
    refine j_bipush X 32 dX4_readSwapping_11 (by decide) ?_
    obtain ⟨⟨fs2, g2⟩, h⟩ := h
    refine j_callVi X [.int 32] [] (c_X4_readSign h) (T := TX4) (N := 9) g2 rfl jm_X4_readSign jw_786 rfl ⟨rfl, rfl⟩ (by rw [hR]; decide) rfl (Nat.le_of_ble_eq_true rfl) dX4_readSwapping_13 (fun v2 w2 h => ?_)
    refine j_if_ne X 21 dX4_readSwapping_16 (by decide) (fun c => ?_) (fun c => ?_)
    · replace h := jif_f c h
      refine j_aload_n X dX4_readSwapping_21 1 rfl ?_
      obtain ⟨⟨fs3, g3⟩, h⟩ := h
      refine j_callVi X [] [] (c_X4_readDigit h) (T := TX4) (N := 9) g3 rfl jm_X4_readDigit jw_800 rfl ⟨rfl, rfl⟩ (by rw [hR]; decide) rfl (Nat.le_of_ble_eq_true rfl) dX4_readSwapping_22 (fun v3 w3 h => ?_)
      refine j_istore_n X [(2, .int v3), (1, .int v1), (0, .ref a0)] dX4_readSwapping_25 (by decide) rfl ?_
      refine j_iload_n X dX4_readSwapping_26 0 rfl ?_
      refine j_iconst X (-1) dX4_readSwapping_27 (by decide) ?_
      refine j_icmp_eq X 40 dX4_readSwapping_28 (by decide) (fun c => ?_) (fun c => ?_)
      · replace h := jif_t c h
        refine j_sub [] rfl ?_
        exact k_X4_readSwapping_b40 X hR Rt h
      · replace h := jif_f c h
        refine j_aload_n X dX4_readSwapping_31 2 rfl ?_
        refine j_bipush X 32 dX4_readSwapping_32 (by decide) ?_
        obtain ⟨⟨fs4, g4⟩, h⟩ := h
        refine j_callVi X [.int 32] [] (c_X4_readSign h) (T := TX4) (N := 9) g4 rfl jm_X4_readSign jw_786 rfl ⟨rfl, rfl⟩ (by rw [hR]; decide) rfl (Nat.le_of_ble_eq_true rfl) dX4_readSwapping_34 (fun v4 w4 h => ?_)
        refine j_if_ne X 42 dX4_readSwapping_37 (by decide) (fun c => ?_) (fun c => ?_)
        · replace h := jif_f c h
          refine j_aload_n X dX4_readSwapping_42 2 rfl ?_
          obtain ⟨⟨fs5, g5⟩, h⟩ := h
          refine j_callVi X [] [] (c_X4_readNumber h) (T := TX4) (N := 9) g5 rfl jm_X4_readNumber jw_804 rfl ⟨rfl, rfl⟩ (by rw [hR]; decide) rfl (Nat.le_of_ble_eq_true rfl) dX4_readSwapping_43 (fun v5 w5 h => ?_)
          refine j_istore_n X [(3, .int v5), (2, .int v3), (1, .int v1), (0, .ref a0)] dX4_readSwapping_46 (by decide) rfl ?_
          refine j_iload_n X dX4_readSwapping_47 0 rfl ?_
          refine j_iconst X (-1) dX4_readSwapping_48 (by decide) ?_
          refine j_icmp_eq X 67 dX4_readSwapping_49 (by decide) (fun c => ?_) (fun c => ?_)
          · replace h := jif_t c h
            refine j_sub [] rfl ?_
            exact k_X4_readSwapping_b67 X hR Rt h
          · replace h := jif_f c h
            refine j_aload_n X dX4_readSwapping_52 3 rfl ?_
            refine j_iconst X 5 dX4_readSwapping_53 (by decide) ?_
            refine j_iload_n X dX4_readSwapping_54 2 rfl ?_
            refine j_iload_n X dX4_readSwapping_55 1 rfl ?_
            refine j_iload_n X dX4_readSwapping_56 0 rfl ?_
            obtain ⟨⟨fs6, g6⟩, h⟩ := h
            refine j_callVi X [.int 5, .int v1, .int v3, .int v5] [] (c_X4_addStep h) (T := TX4) (N := 9) g6 rfl jm_X4_addStep jw_790 rfl ⟨rfl, rfl⟩ (by rw [hR]; decide) rfl (Nat.le_of_ble_eq_true rfl) dX4_readSwapping_57 (fun v6 w6 h => ?_)
            refine j_if_eq X 67 dX4_readSwapping_60 (by decide) (fun c => ?_) (fun c => ?_)
            · replace h := jif_t c h
              refine j_sub [] rfl ?_
              exact k_X4_readSwapping_b67 X hR Rt h
            · replace h := jif_f c h
              refine j_iconst X 1 dX4_readSwapping_63 (by decide) ?_
              refine j_goto X 68 dX4_readSwapping_64 (by decide) ?_
              refine j_sub [] rfl ?_
              exact k_X4_readSwapping_b68 X hR Rt h
        · replace h := jif_t c h
          refine j_sub [] rfl ?_
          exact k_X4_readSwapping_b40 X hR Rt h
    · replace h := jif_t c h
      refine j_sub [] rfl ?_
      exact k_X4_readSwapping_b19 X hR Rt h
def w_X4_readSwapping (κ : Nat → Nat) (w : va_W) (a0 : Nat) (P : Int32 → va_W → Prop) : Prop := w_X4_readSwapping_b0 κ w a0 P
theorem c_X4_readSwapping {E : jE} {w : va_W} {a0 : Nat} {P : Int32 → va_W → Prop} (h : w_X4_readSwapping E.2.2.2 w a0 P) : jC E yX4_readSwapping cX4_readSwapping 4 (some .boolean) ({ frames := 7, cells := 0, slots := 0, locals := 151 } : Room) [.ref a0] w 0 0 (jPi P) := by
  refine jC_of (by decide) (Nat.le_of_ble_eq_true rfl) ?_
  intro Γ X hE hR Rt
  subst hE
  exact k_X4_readSwapping_b0 X hR Rt h
theorem jm_X4_readMeltingOrMending : jMv yX4_readMeltingOrMending cX4_readMeltingOrMending 3 (some .boolean) 0 := ⟨jw_821, jw_13, jw_30, jw_822, ⟨by decide +kernel, by decide +kernel⟩, by decide +kernel⟩
def w_X4_readMeltingOrMending_b70 (κ : Nat → Nat) (w : va_W) (s0 : Int32) (P : Int32 → va_W → Prop) : Prop :=
    (narrow .boolean (.int s0) = .int s0 ∧ P s0 w)
set_option maxRecDepth 100000 in
set_option maxHeartbeats 4000000 in
theorem k_X4_readMeltingOrMending_b70 {Γ : jG} (X : jX Γ cX4_readMeltingOrMending 3 RX4) (hR : jgR Γ = ({ frames := 7, cells := 0, slots := 0, locals := 151 } : Room)) {P : Int32 → va_W → Prop} (Rt : jRt Γ cX4_readMeltingOrMending 3 0 0 (some .boolean) (jPi P)) {w : va_W} {s0 : Int32} (h : w_X4_readMeltingOrMending_b70 (jgE Γ).2.2.2 w s0 P) : J Γ 3 w 0 0 70 [] [.int s0] := by
  unfold w_X4_readMeltingOrMending_b70 at h
  exact Rt.z dX4_readMeltingOrMending_70 h.1 ⟨_, rfl, h.2⟩ (by first | decide | omega) (by first | decide | omega)
def w_X4_readMeltingOrMending_b69 (κ : Nat → Nat) (w : va_W) (P : Int32 → va_W → Prop) : Prop :=
    w_X4_readMeltingOrMending_b70 κ w 0 P
set_option maxRecDepth 100000 in
set_option maxHeartbeats 4000000 in
theorem k_X4_readMeltingOrMending_b69 {Γ : jG} (X : jX Γ cX4_readMeltingOrMending 3 RX4) (hR : jgR Γ = ({ frames := 7, cells := 0, slots := 0, locals := 151 } : Room)) {P : Int32 → va_W → Prop} (Rt : jRt Γ cX4_readMeltingOrMending 3 0 0 (some .boolean) (jPi P)) {w : va_W} (h : w_X4_readMeltingOrMending_b69 (jgE Γ).2.2.2 w  P) : J Γ 3 w 0 0 69 [] [] := by
  unfold w_X4_readMeltingOrMending_b69 at h
  refine j_iconst X 0 dX4_readMeltingOrMending_69 (by decide) ?_
  exact k_X4_readMeltingOrMending_b70 X hR Rt h
def w_X4_readMeltingOrMending_b56 (κ : Nat → Nat) (w : va_W) (x2 : Int32) (s0 : Int32) (s1 : Nat) (P : Int32 → va_W → Prop) : Prop :=
    (jRc w s1 7 ∧ w_X4_addStep κ w s1 s0 x2 0 0 (fun v1 w1 => (if v1 = 0 then w_X4_readMeltingOrMending_b69 κ w1  P else w_X4_readMeltingOrMending_b70 κ w1 1 P)))
set_option maxRecDepth 100000 in
set_option maxHeartbeats 4000000 in
theorem k_X4_readMeltingOrMending_b56 {Γ : jG} (X : jX Γ cX4_readMeltingOrMending 3 RX4) (hR : jgR Γ = ({ frames := 7, cells := 0, slots := 0, locals := 151 } : Room)) {P : Int32 → va_W → Prop} (Rt : jRt Γ cX4_readMeltingOrMending 3 0 0 (some .boolean) (jPi P)) {w : va_W} {x2 : Int32} {s0 : Int32} {s1 : Nat} (h : w_X4_readMeltingOrMending_b56 (jgE Γ).2.2.2 w x2 s0 s1 P) : J Γ 3 w 0 0 56 [(2, .int x2)] [.int s0, .ref s1] := by
  unfold w_X4_readMeltingOrMending_b56 at h
  refine j_iload_n X dX4_readMeltingOrMending_56 0 rfl ?_
  refine j_iconst X 0 dX4_readMeltingOrMending_57 (by decide) ?_
  refine j_iconst X 0 dX4_readMeltingOrMending_58 (by decide) ?_
  obtain ⟨⟨fs1, g1⟩, h⟩ := h
  refine j_callVi X [.int s0, .int x2, .int 0, .int 0] [] (c_X4_addStep h) (T := TX4) (N := 9) g1 rfl jm_X4_addStep jw_790 rfl ⟨rfl, rfl⟩ (by rw [hR]; decide) rfl (Nat.le_of_ble_eq_true rfl) dX4_readMeltingOrMending_59 (fun v1 w1 h => ?_)
  refine j_if_eq X 69 dX4_readMeltingOrMending_62 (by decide) (fun c => ?_) (fun c => ?_)
  · replace h := jif_t c h
    refine j_sub [] rfl ?_
    exact k_X4_readMeltingOrMending_b69 X hR Rt h
  · replace h := jif_f c h
    refine j_iconst X 1 dX4_readMeltingOrMending_65 (by decide) ?_
    refine j_goto X 70 dX4_readMeltingOrMending_66 (by decide) ?_
    refine j_sub [] rfl ?_
    exact k_X4_readMeltingOrMending_b70 X hR Rt h
def w_X4_readMeltingOrMending_b27 (κ : Nat → Nat) (w : va_W) (a0 : Nat) (x1 : Int32) (s0 : Nat) (s1 : Nat) (P : Int32 → va_W → Prop) : Prop :=
    (jRc w s1 7 ∧ w_X4_readWord κ w s1 s0 (fun v1 w1 => (if v1 = 0 then P 0 w1 else (jRc w1 a0 7 ∧ w_X4_readNumber κ w1 a0 (fun v2 w2 => (if v2 = (-1) then w_X4_readMeltingOrMending_b69 κ w2  P else (if x1 = 0 then w_X4_readMeltingOrMending_b56 κ w2 v2 6 a0 P else w_X4_readMeltingOrMending_b56 κ w2 v2 4 a0 P)))))))
set_option maxRecDepth 100000 in
set_option maxHeartbeats 4000000 in
theorem k_X4_readMeltingOrMending_b27 {Γ : jG} (X : jX Γ cX4_readMeltingOrMending 3 RX4) (hR : jgR Γ = ({ frames := 7, cells := 0, slots := 0, locals := 151 } : Room)) {P : Int32 → va_W → Prop} (Rt : jRt Γ cX4_readMeltingOrMending 3 0 0 (some .boolean) (jPi P)) {w : va_W} {a0 : Nat} {x1 : Int32} {s0 : Nat} {s1 : Nat} (h : w_X4_readMeltingOrMending_b27 (jgE Γ).2.2.2 w a0 x1 s0 s1 P) : J Γ 3 w 0 0 27 [(0, .ref a0), (1, .int x1)] [.ref ((jgE Γ).2.2.2 (10 + s0)), .ref s1] := by
  unfold w_X4_readMeltingOrMending_b27 at h
  obtain ⟨⟨fs1, g1⟩, h⟩ := h
  refine j_callVi X [.ref ((jgE Γ).2.2.2 (10 + s0))] [] (c_X4_readWord h) (T := TX4) (N := 9) g1 rfl jm_X4_readWord jw_753 rfl ⟨rfl, rfl⟩ (by rw [hR]; decide) rfl (Nat.le_of_ble_eq_true rfl) dX4_readMeltingOrMending_27 (fun v1 w1 h => ?_)
  refine j_if_ne X 35 dX4_readMeltingOrMending_30 (by decide) (fun c => ?_) (fun c => ?_)
  · replace h := jif_f c h
    refine j_aload_n X dX4_readMeltingOrMending_35 0 rfl ?_
    obtain ⟨⟨fs2, g2⟩, h⟩ := h
    refine j_callVi X [] [] (c_X4_readNumber h) (T := TX4) (N := 9) g2 rfl jm_X4_readNumber jw_804 rfl ⟨rfl, rfl⟩ (by rw [hR]; decide) rfl (Nat.le_of_ble_eq_true rfl) dX4_readMeltingOrMending_36 (fun v2 w2 h => ?_)
    refine j_istore_n X [(2, .int v2), (0, .ref a0), (1, .int x1)] dX4_readMeltingOrMending_39 (by decide) rfl ?_
    refine j_iload_n X dX4_readMeltingOrMending_40 0 rfl ?_
    refine j_iconst X (-1) dX4_readMeltingOrMending_41 (by decide) ?_
    refine j_icmp_eq X 69 dX4_readMeltingOrMending_42 (by decide) (fun c => ?_) (fun c => ?_)
    · replace h := jif_t c h
      refine j_sub [] rfl ?_
      exact k_X4_readMeltingOrMending_b69 X hR Rt h
    · replace h := jif_f c h
      refine j_aload_n X dX4_readMeltingOrMending_45 1 rfl ?_
      refine j_iload_n X dX4_readMeltingOrMending_46 2 rfl ?_
      refine j_if_eq X 54 dX4_readMeltingOrMending_47 (by decide) (fun c => ?_) (fun c => ?_)
      · replace h := jif_t c h
        refine j_bipush X 6 dX4_readMeltingOrMending_54 (by decide) ?_
        refine j_sub [0] rfl ?_
        exact k_X4_readMeltingOrMending_b56 X hR Rt h
      · replace h := jif_f c h
        refine j_iconst X 4 dX4_readMeltingOrMending_50 (by decide) ?_
        refine j_goto X 56 dX4_readMeltingOrMending_51 (by decide) ?_
        refine j_sub [0] rfl ?_
        exact k_X4_readMeltingOrMending_b56 X hR Rt h
  · replace h := jif_t c h
    refine j_iconst X 0 dX4_readMeltingOrMending_33 (by decide) ?_
    exact Rt.z dX4_readMeltingOrMending_34 (by decide) ⟨_, rfl, h⟩ (by first | decide | omega) (by first | decide | omega)
def w_X4_readMeltingOrMending_b14 (κ : Nat → Nat) (w : va_W) (a0 : Nat) (s0 : Int32) (P : Int32 → va_W → Prop) : Prop :=
    (if s0 = 0 then w_X4_readMeltingOrMending_b27 κ w a0 s0 6 a0 P else w_X4_readMeltingOrMending_b27 κ w a0 s0 5 a0 P)
set_option maxRecDepth 100000 in
set_option maxHeartbeats 4000000 in
theorem k_X4_readMeltingOrMending_b14 {Γ : jG} (X : jX Γ cX4_readMeltingOrMending 3 RX4) (hR : jgR Γ = ({ frames := 7, cells := 0, slots := 0, locals := 151 } : Room)) {P : Int32 → va_W → Prop} (Rt : jRt Γ cX4_readMeltingOrMending 3 0 0 (some .boolean) (jPi P)) {w : va_W} {a0 : Nat} {s0 : Int32} (h : w_X4_readMeltingOrMending_b14 (jgE Γ).2.2.2 w a0 s0 P) : J Γ 3 w 0 0 14 [(0, .ref a0)] [.int s0] := by
  unfold w_X4_readMeltingOrMending_b14 at h
  refine j_istore_n X [(1, .int s0), (0, .ref a0)] dX4_readMeltingOrMending_14 (by decide) rfl ?_
  refine j_aload_n X dX4_readMeltingOrMending_15 1 rfl ?_
  refine j_iload_n X dX4_readMeltingOrMending_16 0 rfl ?_
  refine j_if_eq X 25 dX4_readMeltingOrMending_17 (by decide) (fun c => ?_) (fun c => ?_)
  · replace h := jif_t c h
    refine j_ldcS X (n := 6) (List.mem_of_getElem? (i := 6) rfl) dX4_readMeltingOrMending_25 ?_
    refine j_sub [1, 0] rfl ?_
    exact k_X4_readMeltingOrMending_b27 X hR Rt h
  · replace h := jif_f c h
    refine j_ldcS X (n := 5) (List.mem_of_getElem? (i := 5) rfl) dX4_readMeltingOrMending_20 ?_
    refine j_goto X 27 dX4_readMeltingOrMending_22 (by decide) ?_
    refine j_sub [1, 0] rfl ?_
    exact k_X4_readMeltingOrMending_b27 X hR Rt h
def w_X4_readMeltingOrMending_b0 (κ : Nat → Nat) (w : va_W) (a0 : Nat) (P : Int32 → va_W → Prop) : Prop :=
    (jRc w a0 7 ∧ w_X4_sign κ w a0 (fun v1 w1 => (if v1 = 108 then w_X4_readMeltingOrMending_b14 κ w1 a0 1 P else w_X4_readMeltingOrMending_b14 κ w1 a0 0 P)))
set_option maxRecDepth 100000 in
set_option maxHeartbeats 4000000 in
theorem k_X4_readMeltingOrMending_b0 {Γ : jG} (X : jX Γ cX4_readMeltingOrMending 3 RX4) (hR : jgR Γ = ({ frames := 7, cells := 0, slots := 0, locals := 151 } : Room)) {P : Int32 → va_W → Prop} (Rt : jRt Γ cX4_readMeltingOrMending 3 0 0 (some .boolean) (jPi P)) {w : va_W} {a0 : Nat} (h : w_X4_readMeltingOrMending_b0 (jgE Γ).2.2.2 w a0 P) : J Γ 3 w 0 0 0 [(0, .ref a0)] [] := by
  unfold w_X4_readMeltingOrMending_b0 at h
  refine j_aload_n X dX4_readMeltingOrMending_0 0 rfl ?_
  obtain ⟨⟨fs1, g1⟩, h⟩ := h
  refine j_callVi X [] [] (c_X4_sign h) (T := TX4) (N := 9) g1 rfl jm_X4_sign jw_713 rfl ⟨rfl, rfl⟩ (by rw [hR]; decide) rfl (Nat.le_of_ble_eq_true rfl) dX4_readMeltingOrMending_1 (fun v1 w1 h => ?_)
  refine j_bipush X 108 dX4_readMeltingOrMending_4 (by decide) ?_
  refine j_icmp_ne X 13 dX4_readMeltingOrMending_6 (by decide) (fun c => ?_) (fun c => ?_)
  · replace h := jif_f c h
    refine j_iconst X 0 dX4_readMeltingOrMending_13 (by decide) ?_
    exact k_X4_readMeltingOrMending_b14 X hR Rt h
  · replace h := jif_t c h
    refine j_iconst X 1 dX4_readMeltingOrMending_9 (by decide) ?_
    refine j_goto X 14 dX4_readMeltingOrMending_10 (by decide) ?_
    exact k_X4_readMeltingOrMending_b14 X hR Rt h
def w_X4_readMeltingOrMending (κ : Nat → Nat) (w : va_W) (a0 : Nat) (P : Int32 → va_W → Prop) : Prop := w_X4_readMeltingOrMending_b0 κ w a0 P
theorem c_X4_readMeltingOrMending {E : jE} {w : va_W} {a0 : Nat} {P : Int32 → va_W → Prop} (h : w_X4_readMeltingOrMending E.2.2.2 w a0 P) : jC E yX4_readMeltingOrMending cX4_readMeltingOrMending 3 (some .boolean) ({ frames := 7, cells := 0, slots := 0, locals := 151 } : Room) [.ref a0] w 0 0 (jPi P) := by
  refine jC_of (by decide) (Nat.le_of_ble_eq_true rfl) ?_
  intro Γ X hE hR Rt
  subst hE
  exact k_X4_readMeltingOrMending_b0 X hR Rt h
theorem jm_X4_readCommand : jMv yX4_readCommand cX4_readCommand 1 (some .boolean) 0 := ⟨jw_711, jw_3, jw_30, jw_712, ⟨by decide +kernel, by decide +kernel⟩, by decide +kernel⟩
def w_X4_readCommand_b81 (κ : Nat → Nat) (w : va_W) (s0 : Int32) (P : Int32 → va_W → Prop) : Prop :=
    (narrow .boolean (.int s0) = .int s0 ∧ P s0 w)
set_option maxRecDepth 100000 in
set_option maxHeartbeats 4000000 in
theorem k_X4_readCommand_b81 {Γ : jG} (X : jX Γ cX4_readCommand 1 RX4) (hR : jgR Γ = ({ frames := 8, cells := 0, slots := 0, locals := 174 } : Room)) {P : Int32 → va_W → Prop} (Rt : jRt Γ cX4_readCommand 1 0 0 (some .boolean) (jPi P)) {w : va_W} {s0 : Int32} (h : w_X4_readCommand_b81 (jgE Γ).2.2.2 w s0 P) : J Γ 1 w 0 0 81 [] [.int s0] := by
  unfold w_X4_readCommand_b81 at h
  exact Rt.z dX4_readCommand_81 h.1 ⟨_, rfl, h.2⟩ (by first | decide | omega) (by first | decide | omega)
def w_X4_readCommand_b80 (κ : Nat → Nat) (w : va_W) (P : Int32 → va_W → Prop) : Prop :=
    w_X4_readCommand_b81 κ w 0 P
set_option maxRecDepth 100000 in
set_option maxHeartbeats 4000000 in
theorem k_X4_readCommand_b80 {Γ : jG} (X : jX Γ cX4_readCommand 1 RX4) (hR : jgR Γ = ({ frames := 8, cells := 0, slots := 0, locals := 174 } : Room)) {P : Int32 → va_W → Prop} (Rt : jRt Γ cX4_readCommand 1 0 0 (some .boolean) (jPi P)) {w : va_W} (h : w_X4_readCommand_b80 (jgE Γ).2.2.2 w  P) : J Γ 1 w 0 0 80 [] [] := by
  unfold w_X4_readCommand_b80 at h
  refine j_iconst X 0 dX4_readCommand_80 (by decide) ?_
  exact k_X4_readCommand_b81 X hR Rt h
def w_X4_readCommand_b0 (κ : Nat → Nat) (w : va_W) (a0 : Nat) (P : Int32 → va_W → Prop) : Prop :=
    (jRc w a0 7 ∧ w_X4_sign κ w a0 (fun v1 w1 => (if v1 = 102 then (jRc w1 a0 7 ∧ w_X4_readWord κ w1 a0 2 (fun v3 w3 => (if v3 = 0 then P 0 w3 else (jRc w3 a0 7 ∧ w_X4_readFollowing κ w3 a0 (fun v4 w4 => (if v4 = 0 then P 0 w4 else P 1 w4)))))) else (if v1 = 104 then (jRc w1 a0 7 ∧ w_X4_readWord κ w1 a0 0 (fun v5 w5 => (if v5 = 0 then w_X4_readCommand_b80 κ w5  P else (jRc w5 a0 7 ∧ w_X4_addStep κ w5 a0 0 0 0 0 (fun v6 w6 => (if v6 = 0 then w_X4_readCommand_b80 κ w6  P else w_X4_readCommand_b81 κ w6 1 P)))))) else (if v1 = 109 then (jRc w1 a0 7 ∧ w_X4_readWord κ w1 a0 4 (fun v7 w7 => (if v7 = 0 then P 0 w7 else (jRc w7 a0 7 ∧ w_X4_readMeltingOrMending κ w7 a0 (fun v8 w8 => (if v8 = 0 then P 0 w8 else P 1 w8)))))) else (if v1 = 115 then (jRc w1 a0 7 ∧ w_X4_readWord κ w1 a0 3 (fun v9 w9 => (if v9 = 0 then P 0 w9 else (jRc w9 a0 7 ∧ w_X4_readSwapping κ w9 a0 (fun v10 w10 => (if v10 = 0 then P 0 w10 else P 1 w10)))))) else (if v1 = 119 then (jRc w1 a0 7 ∧ w_X4_readWord κ w1 a0 1 (fun v11 w11 => (if v11 = 0 then P 0 w11 else (jRc w11 a0 7 ∧ w_X4_readWriting κ w11 a0 (fun v12 w12 => (if v12 = 0 then P 0 w12 else P 1 w12)))))) else P 0 w1)))))))
set_option maxRecDepth 100000 in
set_option maxHeartbeats 4000000 in
theorem k_X4_readCommand_b0 {Γ : jG} (X : jX Γ cX4_readCommand 1 RX4) (hR : jgR Γ = ({ frames := 8, cells := 0, slots := 0, locals := 174 } : Room)) {P : Int32 → va_W → Prop} (Rt : jRt Γ cX4_readCommand 1 0 0 (some .boolean) (jPi P)) {w : va_W} {a0 : Nat} (h : w_X4_readCommand_b0 (jgE Γ).2.2.2 w a0 P) : J Γ 1 w 0 0 0 [(0, .ref a0)] [] := by
  unfold w_X4_readCommand_b0 at h
  refine j_aload_n X dX4_readCommand_0 0 rfl ?_
  obtain ⟨⟨fs1, g1⟩, h⟩ := h
  refine j_callVi X [] [] (c_X4_sign h) (T := TX4) (N := 9) g1 rfl jm_X4_sign jw_713 rfl ⟨rfl, rfl⟩ (by rw [hR]; decide) rfl (Nat.le_of_ble_eq_true rfl) dX4_readCommand_1 (fun v1 w1 h => ?_)
  by_cases c2_102 : v1 = 102
  · replace h := jif_t c2_102 h
    refine j_lookup X 104 dX4_readCommand_4 (by decide) (by first | (rw [c2_102]) | (rw [c2_102]; rfl)) (by decide) ?_
    refine j_aload_n X dX4_readCommand_104 0 rfl ?_
    refine j_ldcS X (n := 2) (List.mem_of_getElem? (i := 2) rfl) dX4_readCommand_105 ?_
    obtain ⟨⟨fs3, g3⟩, h⟩ := h
    refine j_callVi X [.ref ((jgE Γ).2.2.2 (10 + 2))] [] (c_X4_readWord h) (T := TX4) (N := 9) g3 rfl jm_X4_readWord jw_753 rfl ⟨rfl, rfl⟩ (by rw [hR]; decide) rfl (Nat.le_of_ble_eq_true rfl) dX4_readCommand_107 (fun v3 w3 h => ?_)
    refine j_if_eq X 124 dX4_readCommand_110 (by decide) (fun c => ?_) (fun c => ?_)
    · replace h := jif_t c h
      refine j_iconst X 0 dX4_readCommand_124 (by decide) ?_
      exact Rt.z dX4_readCommand_125 (by decide) ⟨_, rfl, h⟩ (by first | decide | omega) (by first | decide | omega)
    · replace h := jif_f c h
      refine j_aload_n X dX4_readCommand_113 0 rfl ?_
      obtain ⟨⟨fs4, g4⟩, h⟩ := h
      refine j_callVi X [] [] (c_X4_readFollowing h) (T := TX4) (N := 9) g4 rfl jm_X4_readFollowing jw_809 rfl ⟨rfl, rfl⟩ (by rw [hR]; decide) rfl (Nat.le_of_ble_eq_true rfl) dX4_readCommand_114 (fun v4 w4 h => ?_)
      refine j_if_eq X 124 dX4_readCommand_117 (by decide) (fun c => ?_) (fun c => ?_)
      · replace h := jif_t c h
        refine j_iconst X 0 dX4_readCommand_124 (by decide) ?_
        exact Rt.z dX4_readCommand_125 (by decide) ⟨_, rfl, h⟩ (by first | decide | omega) (by first | decide | omega)
      · replace h := jif_f c h
        refine j_iconst X 1 dX4_readCommand_120 (by decide) ?_
        refine j_goto X 125 dX4_readCommand_121 (by decide) ?_
        exact Rt.z dX4_readCommand_125 (by decide) ⟨_, rfl, h⟩ (by first | decide | omega) (by first | decide | omega)
  replace h := jif_f c2_102 h
  by_cases c2_104 : v1 = 104
  · replace h := jif_t c2_104 h
    refine j_lookup X 56 dX4_readCommand_4 (by decide) (by first | (rw [c2_104]) | (rw [c2_104]; rfl)) (by decide) ?_
    refine j_aload_n X dX4_readCommand_56 0 rfl ?_
    refine j_ldcS X (n := 0) (List.mem_of_getElem? (i := 0) rfl) dX4_readCommand_57 ?_
    obtain ⟨⟨fs5, g5⟩, h⟩ := h
    refine j_callVi X [.ref ((jgE Γ).2.2.2 (10 + 0))] [] (c_X4_readWord h) (T := TX4) (N := 9) g5 rfl jm_X4_readWord jw_753 rfl ⟨rfl, rfl⟩ (by rw [hR]; decide) rfl (Nat.le_of_ble_eq_true rfl) dX4_readCommand_59 (fun v5 w5 h => ?_)
    refine j_if_eq X 80 dX4_readCommand_62 (by decide) (fun c => ?_) (fun c => ?_)
    · replace h := jif_t c h
      refine j_sub [] rfl ?_
      exact k_X4_readCommand_b80 X hR Rt h
    · replace h := jif_f c h
      refine j_aload_n X dX4_readCommand_65 0 rfl ?_
      refine j_iconst X 0 dX4_readCommand_66 (by decide) ?_
      refine j_iconst X 0 dX4_readCommand_67 (by decide) ?_
      refine j_iconst X 0 dX4_readCommand_68 (by decide) ?_
      refine j_iconst X 0 dX4_readCommand_69 (by decide) ?_
      obtain ⟨⟨fs6, g6⟩, h⟩ := h
      refine j_callVi X [.int 0, .int 0, .int 0, .int 0] [] (c_X4_addStep h) (T := TX4) (N := 9) g6 rfl jm_X4_addStep jw_790 rfl ⟨rfl, rfl⟩ (by rw [hR]; decide) rfl (Nat.le_of_ble_eq_true rfl) dX4_readCommand_70 (fun v6 w6 h => ?_)
      refine j_if_eq X 80 dX4_readCommand_73 (by decide) (fun c => ?_) (fun c => ?_)
      · replace h := jif_t c h
        refine j_sub [] rfl ?_
        exact k_X4_readCommand_b80 X hR Rt h
      · replace h := jif_f c h
        refine j_iconst X 1 dX4_readCommand_76 (by decide) ?_
        refine j_goto X 81 dX4_readCommand_77 (by decide) ?_
        refine j_sub [] rfl ?_
        exact k_X4_readCommand_b81 X hR Rt h
  replace h := jif_f c2_104 h
  by_cases c2_109 : v1 = 109
  · replace h := jif_t c2_109 h
    refine j_lookup X 148 dX4_readCommand_4 (by decide) (by first | (rw [c2_109]) | (rw [c2_109]; rfl)) (by decide) ?_
    refine j_aload_n X dX4_readCommand_148 0 rfl ?_
    refine j_ldcS X (n := 4) (List.mem_of_getElem? (i := 4) rfl) dX4_readCommand_149 ?_
    obtain ⟨⟨fs7, g7⟩, h⟩ := h
    refine j_callVi X [.ref ((jgE Γ).2.2.2 (10 + 4))] [] (c_X4_readWord h) (T := TX4) (N := 9) g7 rfl jm_X4_readWord jw_753 rfl ⟨rfl, rfl⟩ (by rw [hR]; decide) rfl (Nat.le_of_ble_eq_true rfl) dX4_readCommand_151 (fun v7 w7 h => ?_)
    refine j_if_eq X 168 dX4_readCommand_154 (by decide) (fun c => ?_) (fun c => ?_)
    · replace h := jif_t c h
      refine j_iconst X 0 dX4_readCommand_168 (by decide) ?_
      exact Rt.z dX4_readCommand_169 (by decide) ⟨_, rfl, h⟩ (by first | decide | omega) (by first | decide | omega)
    · replace h := jif_f c h
      refine j_aload_n X dX4_readCommand_157 0 rfl ?_
      obtain ⟨⟨fs8, g8⟩, h⟩ := h
      refine j_callVi X [] [] (c_X4_readMeltingOrMending h) (T := TX4) (N := 9) g8 rfl jm_X4_readMeltingOrMending jw_819 rfl ⟨rfl, rfl⟩ (by rw [hR]; decide) rfl (Nat.le_of_ble_eq_true rfl) dX4_readCommand_158 (fun v8 w8 h => ?_)
      refine j_if_eq X 168 dX4_readCommand_161 (by decide) (fun c => ?_) (fun c => ?_)
      · replace h := jif_t c h
        refine j_iconst X 0 dX4_readCommand_168 (by decide) ?_
        exact Rt.z dX4_readCommand_169 (by decide) ⟨_, rfl, h⟩ (by first | decide | omega) (by first | decide | omega)
      · replace h := jif_f c h
        refine j_iconst X 1 dX4_readCommand_164 (by decide) ?_
        refine j_goto X 169 dX4_readCommand_165 (by decide) ?_
        exact Rt.z dX4_readCommand_169 (by decide) ⟨_, rfl, h⟩ (by first | decide | omega) (by first | decide | omega)
  replace h := jif_f c2_109 h
  by_cases c2_115 : v1 = 115
  · replace h := jif_t c2_115 h
    refine j_lookup X 126 dX4_readCommand_4 (by decide) (by first | (rw [c2_115]) | (rw [c2_115]; rfl)) (by decide) ?_
    refine j_aload_n X dX4_readCommand_126 0 rfl ?_
    refine j_ldcS X (n := 3) (List.mem_of_getElem? (i := 3) rfl) dX4_readCommand_127 ?_
    obtain ⟨⟨fs9, g9⟩, h⟩ := h
    refine j_callVi X [.ref ((jgE Γ).2.2.2 (10 + 3))] [] (c_X4_readWord h) (T := TX4) (N := 9) g9 rfl jm_X4_readWord jw_753 rfl ⟨rfl, rfl⟩ (by rw [hR]; decide) rfl (Nat.le_of_ble_eq_true rfl) dX4_readCommand_129 (fun v9 w9 h => ?_)
    refine j_if_eq X 146 dX4_readCommand_132 (by decide) (fun c => ?_) (fun c => ?_)
    · replace h := jif_t c h
      refine j_iconst X 0 dX4_readCommand_146 (by decide) ?_
      exact Rt.z dX4_readCommand_147 (by decide) ⟨_, rfl, h⟩ (by first | decide | omega) (by first | decide | omega)
    · replace h := jif_f c h
      refine j_aload_n X dX4_readCommand_135 0 rfl ?_
      obtain ⟨⟨fs10, g10⟩, h⟩ := h
      refine j_callVi X [] [] (c_X4_readSwapping h) (T := TX4) (N := 9) g10 rfl jm_X4_readSwapping jw_814 rfl ⟨rfl, rfl⟩ (by rw [hR]; decide) rfl (Nat.le_of_ble_eq_true rfl) dX4_readCommand_136 (fun v10 w10 h => ?_)
      refine j_if_eq X 146 dX4_readCommand_139 (by decide) (fun c => ?_) (fun c => ?_)
      · replace h := jif_t c h
        refine j_iconst X 0 dX4_readCommand_146 (by decide) ?_
        exact Rt.z dX4_readCommand_147 (by decide) ⟨_, rfl, h⟩ (by first | decide | omega) (by first | decide | omega)
      · replace h := jif_f c h
        refine j_iconst X 1 dX4_readCommand_142 (by decide) ?_
        refine j_goto X 147 dX4_readCommand_143 (by decide) ?_
        exact Rt.z dX4_readCommand_147 (by decide) ⟨_, rfl, h⟩ (by first | decide | omega) (by first | decide | omega)
  replace h := jif_f c2_115 h
  by_cases c2_119 : v1 = 119
  · replace h := jif_t c2_119 h
    refine j_lookup X 82 dX4_readCommand_4 (by decide) (by first | (rw [c2_119]) | (rw [c2_119]; rfl)) (by decide) ?_
    refine j_aload_n X dX4_readCommand_82 0 rfl ?_
    refine j_ldcS X (n := 1) (List.mem_of_getElem? (i := 1) rfl) dX4_readCommand_83 ?_
    obtain ⟨⟨fs11, g11⟩, h⟩ := h
    refine j_callVi X [.ref ((jgE Γ).2.2.2 (10 + 1))] [] (c_X4_readWord h) (T := TX4) (N := 9) g11 rfl jm_X4_readWord jw_753 rfl ⟨rfl, rfl⟩ (by rw [hR]; decide) rfl (Nat.le_of_ble_eq_true rfl) dX4_readCommand_85 (fun v11 w11 h => ?_)
    refine j_if_eq X 102 dX4_readCommand_88 (by decide) (fun c => ?_) (fun c => ?_)
    · replace h := jif_t c h
      refine j_iconst X 0 dX4_readCommand_102 (by decide) ?_
      exact Rt.z dX4_readCommand_103 (by decide) ⟨_, rfl, h⟩ (by first | decide | omega) (by first | decide | omega)
    · replace h := jif_f c h
      refine j_aload_n X dX4_readCommand_91 0 rfl ?_
      obtain ⟨⟨fs12, g12⟩, h⟩ := h
      refine j_callVi X [] [] (c_X4_readWriting h) (T := TX4) (N := 9) g12 rfl jm_X4_readWriting jw_796 rfl ⟨rfl, rfl⟩ (by rw [hR]; decide) rfl (Nat.le_of_ble_eq_true rfl) dX4_readCommand_92 (fun v12 w12 h => ?_)
      refine j_if_eq X 102 dX4_readCommand_95 (by decide) (fun c => ?_) (fun c => ?_)
      · replace h := jif_t c h
        refine j_iconst X 0 dX4_readCommand_102 (by decide) ?_
        exact Rt.z dX4_readCommand_103 (by decide) ⟨_, rfl, h⟩ (by first | decide | omega) (by first | decide | omega)
      · replace h := jif_f c h
        refine j_iconst X 1 dX4_readCommand_98 (by decide) ?_
        refine j_goto X 103 dX4_readCommand_99 (by decide) ?_
        exact Rt.z dX4_readCommand_103 (by decide) ⟨_, rfl, h⟩ (by first | decide | omega) (by first | decide | omega)
  replace h := jif_f c2_119 h
  have e2_102 : ¬ 102 = (v1).toInt := fun z => c2_102 (Int32.toInt_inj.mp z.symm)
  have e2_104 : ¬ 104 = (v1).toInt := fun z => c2_104 (Int32.toInt_inj.mp z.symm)
  have e2_109 : ¬ 109 = (v1).toInt := fun z => c2_109 (Int32.toInt_inj.mp z.symm)
  have e2_115 : ¬ 115 = (v1).toInt := fun z => c2_115 (Int32.toInt_inj.mp z.symm)
  have e2_119 : ¬ 119 = (v1).toInt := fun z => c2_119 (Int32.toInt_inj.mp z.symm)
  refine j_lookup X (off := 166) 170 dX4_readCommand_4 (by decide) (by simp [Op.lookupswitch.offset, e2_102, e2_104, e2_109, e2_115, e2_119]) (by decide) ?_
  refine j_iconst X 0 dX4_readCommand_170 (by decide) ?_
  exact Rt.z dX4_readCommand_171 (by decide) ⟨_, rfl, h⟩ (by first | decide | omega) (by first | decide | omega)
def w_X4_readCommand (κ : Nat → Nat) (w : va_W) (a0 : Nat) (P : Int32 → va_W → Prop) : Prop := w_X4_readCommand_b0 κ w a0 P
theorem c_X4_readCommand {E : jE} {w : va_W} {a0 : Nat} {P : Int32 → va_W → Prop} (h : w_X4_readCommand E.2.2.2 w a0 P) : jC E yX4_readCommand cX4_readCommand 1 (some .boolean) ({ frames := 8, cells := 0, slots := 0, locals := 174 } : Room) [.ref a0] w 0 0 (jPi P) := by
  refine jC_of (by decide) (Nat.le_of_ble_eq_true rfl) ?_
  intro Γ X hE hR Rt
  subst hE
  exact k_X4_readCommand_b0 X hR Rt h
theorem jm_X4_parse : jMv yX4_parse cX4_parse 2 (some .boolean) 0 := ⟨jw_706, jw_707, jw_30, jw_708, ⟨by decide +kernel, by decide +kernel⟩, by decide +kernel⟩
def w_X4_parse_b70 (κ : Nat → Nat) (w : va_W) (s0 : Int32) (P : Int32 → va_W → Prop) : Prop :=
    (narrow .boolean (.int s0) = .int s0 ∧ P s0 w)
set_option maxRecDepth 100000 in
set_option maxHeartbeats 4000000 in
theorem k_X4_parse_b70 {Γ : jG} (X : jX Γ cX4_parse 2 RX4) (hR : jgR Γ = ({ frames := 9, cells := 0, slots := 0, locals := 194 } : Room)) {P : Int32 → va_W → Prop} (Rt : jRt Γ cX4_parse 2 0 0 (some .boolean) (jPi P)) {w : va_W} {s0 : Int32} (h : w_X4_parse_b70 (jgE Γ).2.2.2 w s0 P) : J Γ 2 w 0 0 70 [] [.int s0] := by
  unfold w_X4_parse_b70 at h
  exact Rt.z dX4_parse_70 h.1 ⟨_, rfl, h.2⟩ (by first | decide | omega) (by first | decide | omega)
def w_X4_parse_b17 : Nat → (κ : Nat → Nat) → (w : va_W) → (a0 : Nat) → (x1 : Int32) → (P : Int32 → va_W → Prop) → Prop
  | 0, _, _, _, _, _ => False
  | n + 1, κ, w, a0, x1, P =>
    (if 60 ≤ x1 then P 0 w else (jRc w a0 7 ∧ w_X4_readCommand κ w a0 (fun v1 w1 => (if v1 = 0 then P 0 w1 else jgI w1 a0 7 7 (fun v2 => (jpV w1 a0 7 7 (.int (v2 + 1)) (fun w3 => (jRc w3 a0 7 ∧ w_X4_readSign κ w3 a0 59 (fun v4 w4 => (if v4 = 0 then jgI w4 a0 7 8 (fun v5 => jgR' w4 a0 7 0 (fun r6 => (jRc w4 r6 1 ∧ w_J4_length_8abf5 κ w4 r6 (fun v7 w7 => (if v5 = v7 then w_X4_parse_b70 κ w7 1 P else w_X4_parse_b70 κ w7 0 P))))) else w_X4_parse_b17 n κ w4 a0 (x1 + 1) P))))))))))
set_option maxRecDepth 100000 in
set_option maxHeartbeats 4000000 in
theorem k_X4_parse_b17 {Γ : jG} (X : jX Γ cX4_parse 2 RX4) (hR : jgR Γ = ({ frames := 9, cells := 0, slots := 0, locals := 194 } : Room)) {P : Int32 → va_W → Prop} (Rt : jRt Γ cX4_parse 2 0 0 (some .boolean) (jPi P)) : ∀ (n : Nat) {w : va_W} {a0 : Nat} {x1 : Int32} (h : w_X4_parse_b17 n (jgE Γ).2.2.2 w a0 x1 P), J Γ 2 w 0 0 17 [(0, .ref a0), (1, .int x1)] [] := by
  intro n
  induction n with
  | zero => intro w a0 x1 h; exact False.elim h
  | succ n ih =>
    intro w a0 x1 h
    rw [w_X4_parse_b17] at h
    refine j_iload_n X dX4_parse_17 1 rfl ?_
    refine j_bipush X 60 dX4_parse_18 (by decide) ?_
    refine j_icmp_ge X 77 dX4_parse_20 (by decide) (fun c => ?_) (fun c => ?_)
    · replace h := jif_t c h
      refine j_iconst X 0 dX4_parse_77 (by decide) ?_
      exact Rt.z dX4_parse_78 (by decide) ⟨_, rfl, h⟩ (by first | decide | omega) (by first | decide | omega)
    · replace h := jif_f c h
      refine j_aload_n X dX4_parse_23 0 rfl ?_
      obtain ⟨⟨fs1, g1⟩, h⟩ := h
      refine j_callVi X [] [] (c_X4_readCommand h) (T := TX4) (N := 9) g1 rfl jm_X4_readCommand jw_709 rfl ⟨rfl, rfl⟩ (by rw [hR]; decide) rfl (Nat.le_of_ble_eq_true rfl) dX4_parse_24 (fun v1 w1 h => ?_)
      refine j_if_ne X 32 dX4_parse_27 (by decide) (fun c => ?_) (fun c => ?_)
      · replace h := jif_f c h
        refine j_aload_n X dX4_parse_32 0 rfl ?_
        refine j_dup X dX4_parse_33 rfl ?_
        obtain ⟨fs2, v2, g2, i2, h⟩ := h
        refine j_get X (ci := 7) (C := RX4) (T := TX4) (N := 9) rfl jin_X4 7 (by decide) g2 i2 jw_277 rfl dX4_parse_34 ?_
        refine j_iconst X 1 dX4_parse_37 (by decide) ?_
        refine j_iadd X dX4_parse_38 ?_
        obtain ⟨fs3, g3, i3, h⟩ := h
        refine j_put X (ci := 7) (C := RX4) (T := TX4) (N := 9) rfl jin_X4 tyX4 tyX4_ok nmX4 7 (by decide) g3 jw_277 rfl rfl (by rfl) (by rfl) i3 dX4_parse_39 ?_
        generalize jst w1 a0 _ = w3 at h ⊢
        refine j_aload_n X dX4_parse_42 0 rfl ?_
        refine j_bipush X 59 dX4_parse_43 (by decide) ?_
        obtain ⟨⟨fs4, g4⟩, h⟩ := h
        refine j_callVi X [.int 59] [] (c_X4_readSign h) (T := TX4) (N := 9) g4 rfl jm_X4_readSign jw_786 rfl ⟨rfl, rfl⟩ (by rw [hR]; decide) rfl (Nat.le_of_ble_eq_true rfl) dX4_parse_45 (fun v4 w4 h => ?_)
        refine j_if_ne X 71 dX4_parse_48 (by decide) (fun c => ?_) (fun c => ?_)
        · replace h := jif_f c h
          refine j_iinc X (x1 + 1) [(1, .int (x1 + 1)), (0, .ref a0)] dX4_parse_71 1 rfl rfl (by decide) rfl ?_
          refine j_goto X 17 dX4_parse_74 (by decide) ?_
          refine j_sub [1, 0] rfl ?_
          exact ih h
        · replace h := jif_t c h
          refine j_aload_n X dX4_parse_51 0 rfl ?_
          obtain ⟨fs5, v5, g5, i5, h⟩ := h
          refine j_get X (ci := 7) (C := RX4) (T := TX4) (N := 9) rfl jin_X4 8 (by decide) g5 i5 jw_279 rfl dX4_parse_52 ?_
          refine j_aload_n X dX4_parse_55 0 rfl ?_
          obtain ⟨fs6, r6, g6, i6, h⟩ := h
          refine j_get X (ci := 7) (C := RX4) (T := TX4) (N := 9) rfl jin_X4 0 (by decide) g6 i6 jw_264 rfl dX4_parse_56 ?_
          obtain ⟨⟨fs7, g7⟩, h⟩ := h
          refine j_callVi X [] [.int v5] (c_J4_length_8abf5 h) (T := TJ4) (N := 4) g7 rfl jm_J4_length_8abf5 jw_717 rfl ⟨rfl, rfl⟩ (by rw [hR]; decide) rfl (Nat.le_of_ble_eq_true rfl) dX4_parse_59 (fun v7 w7 h => ?_)
          refine j_icmp_ne X 69 dX4_parse_62 (by decide) (fun c => ?_) (fun c => ?_)
          · replace h := jif_f c h
            refine j_iconst X 0 dX4_parse_69 (by decide) ?_
            refine j_sub [] rfl ?_
            exact k_X4_parse_b70 X hR Rt h
          · replace h := jif_t c h
            refine j_iconst X 1 dX4_parse_65 (by decide) ?_
            refine j_goto X 70 dX4_parse_66 (by decide) ?_
            refine j_sub [] rfl ?_
            exact k_X4_parse_b70 X hR Rt h
      · replace h := jif_t c h
        refine j_iconst X 0 dX4_parse_30 (by decide) ?_
        exact Rt.z dX4_parse_31 (by decide) ⟨_, rfl, h⟩ (by first | decide | omega) (by first | decide | omega)
def w_X4_parse_b0 (κ : Nat → Nat) (w : va_W) (a0 : Nat) (P : Int32 → va_W → Prop) : Prop :=
    (jpV w a0 7 8 (.int 0) (fun w1 => (jpV w1 a0 7 6 (.int 0) (fun w2 => (jpV w2 a0 7 7 (.int 0) (fun w3 => w_X4_parse_b17 jFu κ w3 a0 0 P))))))
set_option maxRecDepth 100000 in
set_option maxHeartbeats 4000000 in
theorem k_X4_parse_b0 {Γ : jG} (X : jX Γ cX4_parse 2 RX4) (hR : jgR Γ = ({ frames := 9, cells := 0, slots := 0, locals := 194 } : Room)) {P : Int32 → va_W → Prop} (Rt : jRt Γ cX4_parse 2 0 0 (some .boolean) (jPi P)) {w : va_W} {a0 : Nat} (h : w_X4_parse_b0 (jgE Γ).2.2.2 w a0 P) : J Γ 2 w 0 0 0 [(0, .ref a0)] [] := by
  unfold w_X4_parse_b0 at h
  refine j_aload_n X dX4_parse_0 0 rfl ?_
  refine j_iconst X 0 dX4_parse_1 (by decide) ?_
  obtain ⟨fs1, g1, i1, h⟩ := h
  refine j_put X (ci := 7) (C := RX4) (T := TX4) (N := 9) rfl jin_X4 tyX4 tyX4_ok nmX4 8 (by decide) g1 jw_279 rfl rfl (by rfl) (by rfl) i1 dX4_parse_2 ?_
  generalize jst w a0 _ = w1 at h ⊢
  refine j_aload_n X dX4_parse_5 0 rfl ?_
  refine j_iconst X 0 dX4_parse_6 (by decide) ?_
  obtain ⟨fs2, g2, i2, h⟩ := h
  refine j_put X (ci := 7) (C := RX4) (T := TX4) (N := 9) rfl jin_X4 tyX4 tyX4_ok nmX4 6 (by decide) g2 jw_275 rfl rfl (by rfl) (by rfl) i2 dX4_parse_7 ?_
  generalize jst w1 a0 _ = w2 at h ⊢
  refine j_aload_n X dX4_parse_10 0 rfl ?_
  refine j_iconst X 0 dX4_parse_11 (by decide) ?_
  obtain ⟨fs3, g3, i3, h⟩ := h
  refine j_put X (ci := 7) (C := RX4) (T := TX4) (N := 9) rfl jin_X4 tyX4 tyX4_ok nmX4 7 (by decide) g3 jw_277 rfl rfl (by rfl) (by rfl) i3 dX4_parse_12 ?_
  generalize jst w2 a0 _ = w3 at h ⊢
  refine j_iconst X 0 dX4_parse_15 (by decide) ?_
  refine j_istore_n X [(1, .int 0), (0, .ref a0)] dX4_parse_16 (by decide) rfl ?_
  refine j_sub [1, 0] rfl ?_
  exact k_X4_parse_b17 X hR Rt _ h
def w_X4_parse (κ : Nat → Nat) (w : va_W) (a0 : Nat) (P : Int32 → va_W → Prop) : Prop := w_X4_parse_b0 κ w a0 P
theorem c_X4_parse {E : jE} {w : va_W} {a0 : Nat} {P : Int32 → va_W → Prop} (h : w_X4_parse E.2.2.2 w a0 P) : jC E yX4_parse cX4_parse 2 (some .boolean) ({ frames := 9, cells := 0, slots := 0, locals := 194 } : Room) [.ref a0] w 0 0 (jPi P) := by
  refine jC_of (by decide) (Nat.le_of_ble_eq_true rfl) ?_
  intro Γ X hE hR Rt
  subst hE
  exact k_X4_parse_b0 X hR Rt h
theorem jm_X5_hasHill : jMv yX5_hasHill cX5_hasHill 2 (some .boolean) 1 := ⟨jw_573, jw_574, jw_23, jw_575, ⟨by decide +kernel, by decide +kernel⟩, by decide +kernel⟩
def w_X5_hasHill_b17 (κ : Nat → Nat) (w : va_W) (s0 : Int32) (P : Int32 → va_W → Prop) : Prop :=
    (narrow .boolean (.int s0) = .int s0 ∧ P s0 w)
set_option maxRecDepth 100000 in
set_option maxHeartbeats 4000000 in
theorem k_X5_hasHill_b17 {Γ : jG} (X : jX Γ cX5_hasHill 2 RX5) (hR : jgR Γ = ({ frames := 0, cells := 0, slots := 0, locals := 0 } : Room)) {P : Int32 → va_W → Prop} (Rt : jRt Γ cX5_hasHill 2 0 0 (some .boolean) (jPi P)) {w : va_W} {s0 : Int32} (h : w_X5_hasHill_b17 (jgE Γ).2.2.2 w s0 P) : J Γ 2 w 0 0 17 [] [.int s0] := by
  unfold w_X5_hasHill_b17 at h
  exact Rt.z dX5_hasHill_17 h.1 ⟨_, rfl, h.2⟩ (by first | decide | omega) (by first | decide | omega)
def w_X5_hasHill_b16 (κ : Nat → Nat) (w : va_W) (P : Int32 → va_W → Prop) : Prop :=
    w_X5_hasHill_b17 κ w 0 P
set_option maxRecDepth 100000 in
set_option maxHeartbeats 4000000 in
theorem k_X5_hasHill_b16 {Γ : jG} (X : jX Γ cX5_hasHill 2 RX5) (hR : jgR Γ = ({ frames := 0, cells := 0, slots := 0, locals := 0 } : Room)) {P : Int32 → va_W → Prop} (Rt : jRt Γ cX5_hasHill 2 0 0 (some .boolean) (jPi P)) {w : va_W} (h : w_X5_hasHill_b16 (jgE Γ).2.2.2 w  P) : J Γ 2 w 0 0 16 [] [] := by
  unfold w_X5_hasHill_b16 at h
  refine j_iconst X 0 dX5_hasHill_16 (by decide) ?_
  exact k_X5_hasHill_b17 X hR Rt h
def w_X5_hasHill_b0 (κ : Nat → Nat) (w : va_W) (a0 : Nat) (x1 : Int32) (P : Int32 → va_W → Prop) : Prop :=
    (if x1 < 0 then w_X5_hasHill_b16 κ w  P else jgI w a0 8 8 (fun v1 => (if v1 ≤ x1 then w_X5_hasHill_b16 κ w  P else w_X5_hasHill_b17 κ w 1 P)))
set_option maxRecDepth 100000 in
set_option maxHeartbeats 4000000 in
theorem k_X5_hasHill_b0 {Γ : jG} (X : jX Γ cX5_hasHill 2 RX5) (hR : jgR Γ = ({ frames := 0, cells := 0, slots := 0, locals := 0 } : Room)) {P : Int32 → va_W → Prop} (Rt : jRt Γ cX5_hasHill 2 0 0 (some .boolean) (jPi P)) {w : va_W} {a0 : Nat} {x1 : Int32} (h : w_X5_hasHill_b0 (jgE Γ).2.2.2 w a0 x1 P) : J Γ 2 w 0 0 0 [(0, .ref a0), (1, .int x1)] [] := by
  unfold w_X5_hasHill_b0 at h
  refine j_iload_n X dX5_hasHill_0 1 rfl ?_
  refine j_if_lt X 16 dX5_hasHill_1 (by decide) (fun c => ?_) (fun c => ?_)
  · replace h := jif_t c h
    refine j_sub [] rfl ?_
    exact k_X5_hasHill_b16 X hR Rt h
  · replace h := jif_f c h
    refine j_iload_n X dX5_hasHill_4 1 rfl ?_
    refine j_aload_n X dX5_hasHill_5 0 rfl ?_
    obtain ⟨fs1, v1, g1, i1, h⟩ := h
    refine j_get X (ci := 8) (C := RX5) (T := TX5) (N := 12) rfl jin_X5 8 (by decide) g1 i1 jw_134 rfl dX5_hasHill_6 ?_
    refine j_icmp_ge X 16 dX5_hasHill_9 (by decide) (fun c => ?_) (fun c => ?_)
    · replace h := jif_t c h
      refine j_sub [] rfl ?_
      exact k_X5_hasHill_b16 X hR Rt h
    · replace h := jif_f c h
      refine j_iconst X 1 dX5_hasHill_12 (by decide) ?_
      refine j_goto X 17 dX5_hasHill_13 (by decide) ?_
      refine j_sub [] rfl ?_
      exact k_X5_hasHill_b17 X hR Rt h
def w_X5_hasHill (κ : Nat → Nat) (w : va_W) (a0 : Nat) (x1 : Int32) (P : Int32 → va_W → Prop) : Prop := w_X5_hasHill_b0 κ w a0 x1 P
theorem c_X5_hasHill {E : jE} {w : va_W} {a0 : Nat} {x1 : Int32} {P : Int32 → va_W → Prop} (h : w_X5_hasHill E.2.2.2 w a0 x1 P) : jC E yX5_hasHill cX5_hasHill 2 (some .boolean) ({ frames := 0, cells := 0, slots := 0, locals := 0 } : Room) [.ref a0, .int x1] w 0 0 (jPi P) := by
  refine jC_of (by decide) (Nat.le_of_ble_eq_true rfl) ?_
  intro Γ X hE hR Rt
  subst hE
  exact k_X5_hasHill_b0 X hR Rt h
theorem jm_X5_isUsed : jMv yX5_isUsed cX5_isUsed 2 (some .boolean) 1 := ⟨jw_364, jw_365, jw_23, jw_366, ⟨by decide +kernel, by decide +kernel⟩, by decide +kernel⟩
def w_X5_isUsed_b17 (κ : Nat → Nat) (w : va_W) (s0 : Int32) (P : Int32 → va_W → Prop) : Prop :=
    (narrow .boolean (.int s0) = .int s0 ∧ P s0 w)
set_option maxRecDepth 100000 in
set_option maxHeartbeats 4000000 in
theorem k_X5_isUsed_b17 {Γ : jG} (X : jX Γ cX5_isUsed 2 RX5) (hR : jgR Γ = ({ frames := 1, cells := 0, slots := 0, locals := 21 } : Room)) {P : Int32 → va_W → Prop} (Rt : jRt Γ cX5_isUsed 2 0 0 (some .boolean) (jPi P)) {w : va_W} {s0 : Int32} (h : w_X5_isUsed_b17 (jgE Γ).2.2.2 w s0 P) : J Γ 2 w 0 0 17 [] [.int s0] := by
  unfold w_X5_isUsed_b17 at h
  exact Rt.z dX5_isUsed_17 h.1 ⟨_, rfl, h.2⟩ (by first | decide | omega) (by first | decide | omega)
def w_X5_isUsed_b0 (κ : Nat → Nat) (w : va_W) (a0 : Nat) (x1 : Int32) (P : Int32 → va_W → Prop) : Prop :=
    jgR' w a0 8 0 (fun r1 => (jRc w r1 6 ∧ w_X3_at κ w r1 x1 (fun v2 w2 => (if v2 = (-1) then w_X5_isUsed_b17 κ w2 0 P else w_X5_isUsed_b17 κ w2 1 P))))
set_option maxRecDepth 100000 in
set_option maxHeartbeats 4000000 in
theorem k_X5_isUsed_b0 {Γ : jG} (X : jX Γ cX5_isUsed 2 RX5) (hR : jgR Γ = ({ frames := 1, cells := 0, slots := 0, locals := 21 } : Room)) {P : Int32 → va_W → Prop} (Rt : jRt Γ cX5_isUsed 2 0 0 (some .boolean) (jPi P)) {w : va_W} {a0 : Nat} {x1 : Int32} (h : w_X5_isUsed_b0 (jgE Γ).2.2.2 w a0 x1 P) : J Γ 2 w 0 0 0 [(0, .ref a0), (1, .int x1)] [] := by
  unfold w_X5_isUsed_b0 at h
  refine j_aload_n X dX5_isUsed_0 0 rfl ?_
  obtain ⟨fs1, r1, g1, i1, h⟩ := h
  refine j_get X (ci := 8) (C := RX5) (T := TX5) (N := 12) rfl jin_X5 0 (by decide) g1 i1 jw_104 rfl dX5_isUsed_1 ?_
  refine j_iload_n X dX5_isUsed_4 1 rfl ?_
  obtain ⟨⟨fs2, g2⟩, h⟩ := h
  refine j_callVi X [.int x1] [] (c_X3_at h) (T := TX3) (N := 1) g2 rfl jm_X3_at jw_367 rfl ⟨rfl, rfl⟩ (by rw [hR]; decide) rfl (Nat.le_of_ble_eq_true rfl) dX5_isUsed_5 (fun v2 w2 h => ?_)
  refine j_iconst X (-1) dX5_isUsed_8 (by decide) ?_
  refine j_icmp_eq X 16 dX5_isUsed_9 (by decide) (fun c => ?_) (fun c => ?_)
  · replace h := jif_t c h
    refine j_iconst X 0 dX5_isUsed_16 (by decide) ?_
    refine j_sub [] rfl ?_
    exact k_X5_isUsed_b17 X hR Rt h
  · replace h := jif_f c h
    refine j_iconst X 1 dX5_isUsed_12 (by decide) ?_
    refine j_goto X 17 dX5_isUsed_13 (by decide) ?_
    refine j_sub [] rfl ?_
    exact k_X5_isUsed_b17 X hR Rt h
def w_X5_isUsed (κ : Nat → Nat) (w : va_W) (a0 : Nat) (x1 : Int32) (P : Int32 → va_W → Prop) : Prop := w_X5_isUsed_b0 κ w a0 x1 P
theorem c_X5_isUsed {E : jE} {w : va_W} {a0 : Nat} {x1 : Int32} {P : Int32 → va_W → Prop} (h : w_X5_isUsed E.2.2.2 w a0 x1 P) : jC E yX5_isUsed cX5_isUsed 2 (some .boolean) ({ frames := 1, cells := 0, slots := 0, locals := 21 } : Room) [.ref a0, .int x1] w 0 0 (jPi P) := by
  refine jC_of (by decide) (Nat.le_of_ble_eq_true rfl) ?_
  intro Γ X hE hR Rt
  subst hE
  exact k_X5_isUsed_b0 X hR Rt h
theorem jm_X5_slotOf : jMv yX5_slotOf cX5_slotOf 3 (some .int) 1 := ⟨jw_663, jw_664, jw_23, jw_665, ⟨by decide +kernel, by decide +kernel⟩, by decide +kernel⟩
def w_X5_slotOf_b26 (κ : Nat → Nat) (w : va_W) (a0 : Nat) (x1 : Int32) (x2 : Int32) (K2 : va_W → Nat → Int32 → Int32 → Prop) (P : Int32 → va_W → Prop) : Prop :=
    K2 w a0 x1 (x2 + 1)
set_option maxRecDepth 100000 in
set_option maxHeartbeats 4000000 in
theorem k_X5_slotOf_b26 {Γ : jG} (X : jX Γ cX5_slotOf 3 RX5) (hR : jgR Γ = ({ frames := 1, cells := 0, slots := 0, locals := 21 } : Room)) {P : Int32 → va_W → Prop} (Rt : jRt Γ cX5_slotOf 3 0 0 (some .int) (jPi P)) {K2 : va_W → Nat → Int32 → Int32 → Prop} (hK2 : ∀ (w : va_W) (a0 : Nat) (x1 : Int32) (x2 : Int32), K2 w a0 x1 x2 → J Γ 3 w 0 0 2 [(0, .ref a0), (1, .int x1), (2, .int x2)] []) {w : va_W} {a0 : Nat} {x1 : Int32} {x2 : Int32} (h : w_X5_slotOf_b26 (jgE Γ).2.2.2 w a0 x1 x2 K2 P) : J Γ 3 w 0 0 26 [(0, .ref a0), (1, .int x1), (2, .int x2)] [] := by
  unfold w_X5_slotOf_b26 at h
  refine j_iinc X (x2 + 1) [(2, .int (x2 + 1)), (0, .ref a0), (1, .int x1)] dX5_slotOf_26 2 rfl rfl (by decide) rfl ?_
  refine j_goto X 2 dX5_slotOf_29 (by decide) ?_
  refine j_sub [1, 2, 0] rfl ?_
  exact hK2 _ _ _ _ h
def w_X5_slotOf_b2 : Nat → (κ : Nat → Nat) → (w : va_W) → (a0 : Nat) → (x1 : Int32) → (x2 : Int32) → (P : Int32 → va_W → Prop) → Prop
  | 0, _, _, _, _, _, _ => False
  | n + 1, κ, w, a0, x1, x2, P =>
    (if 16 ≤ x2 then P (-1) w else (if x1 < 0 then w_X5_slotOf_b26 κ w a0 x1 x2 (fun w_ z_a0 z_x1 z_x2 => w_X5_slotOf_b2 n κ w_ z_a0 z_x1 z_x2 P) P else jgR' w a0 8 0 (fun r1 => (jRc w r1 6 ∧ w_X3_at κ w r1 x2 (fun v2 w2 => (if v2 = x1 then P x2 w2 else w_X5_slotOf_b26 κ w2 a0 x1 x2 (fun w_ z_a0 z_x1 z_x2 => w_X5_slotOf_b2 n κ w_ z_a0 z_x1 z_x2 P) P))))))
set_option maxRecDepth 100000 in
set_option maxHeartbeats 4000000 in
theorem k_X5_slotOf_b2 {Γ : jG} (X : jX Γ cX5_slotOf 3 RX5) (hR : jgR Γ = ({ frames := 1, cells := 0, slots := 0, locals := 21 } : Room)) {P : Int32 → va_W → Prop} (Rt : jRt Γ cX5_slotOf 3 0 0 (some .int) (jPi P)) : ∀ (n : Nat) {w : va_W} {a0 : Nat} {x1 : Int32} {x2 : Int32} (h : w_X5_slotOf_b2 n (jgE Γ).2.2.2 w a0 x1 x2 P), J Γ 3 w 0 0 2 [(0, .ref a0), (1, .int x1), (2, .int x2)] [] := by
  intro n
  induction n with
  | zero => intro w a0 x1 x2 h; exact False.elim h
  | succ n ih =>
    intro w a0 x1 x2 h
    rw [w_X5_slotOf_b2] at h
    refine j_iload_n X dX5_slotOf_2 2 rfl ?_
    refine j_bipush X 16 dX5_slotOf_3 (by decide) ?_
    refine j_icmp_ge X 32 dX5_slotOf_5 (by decide) (fun c => ?_) (fun c => ?_)
    · replace h := jif_t c h
      refine j_iconst X (-1) dX5_slotOf_32 (by decide) ?_
      exact Rt.i dX5_slotOf_33 ⟨_, rfl, h⟩ (by first | decide | omega) (by first | decide | omega)
    · replace h := jif_f c h
      refine j_iload_n X dX5_slotOf_8 1 rfl ?_
      refine j_if_lt X 26 dX5_slotOf_9 (by decide) (fun c => ?_) (fun c => ?_)
      · replace h := jif_t c h
        exact k_X5_slotOf_b26 X hR Rt (fun _ _ _ _ h => ih h) h
      · replace h := jif_f c h
        refine j_aload_n X dX5_slotOf_12 0 rfl ?_
        obtain ⟨fs1, r1, g1, i1, h⟩ := h
        refine j_get X (ci := 8) (C := RX5) (T := TX5) (N := 12) rfl jin_X5 0 (by decide) g1 i1 jw_104 rfl dX5_slotOf_13 ?_
        refine j_iload_n X dX5_slotOf_16 2 rfl ?_
        obtain ⟨⟨fs2, g2⟩, h⟩ := h
        refine j_callVi X [.int x2] [] (c_X3_at h) (T := TX3) (N := 1) g2 rfl jm_X3_at jw_367 rfl ⟨rfl, rfl⟩ (by rw [hR]; decide) rfl (Nat.le_of_ble_eq_true rfl) dX5_slotOf_17 (fun v2 w2 h => ?_)
        refine j_iload_n X dX5_slotOf_20 1 rfl ?_
        refine j_icmp_ne X 26 dX5_slotOf_21 (by decide) (fun c => ?_) (fun c => ?_)
        · replace h := jif_f c h
          exact k_X5_slotOf_b26 X hR Rt (fun _ _ _ _ h => ih h) h
        · replace h := jif_t c h
          refine j_iload_n X dX5_slotOf_24 2 rfl ?_
          exact Rt.i dX5_slotOf_25 ⟨_, rfl, h⟩ (by first | decide | omega) (by first | decide | omega)
def w_X5_slotOf_b0 (κ : Nat → Nat) (w : va_W) (a0 : Nat) (x1 : Int32) (P : Int32 → va_W → Prop) : Prop :=
    w_X5_slotOf_b2 jFu κ w a0 x1 0 P
set_option maxRecDepth 100000 in
set_option maxHeartbeats 4000000 in
theorem k_X5_slotOf_b0 {Γ : jG} (X : jX Γ cX5_slotOf 3 RX5) (hR : jgR Γ = ({ frames := 1, cells := 0, slots := 0, locals := 21 } : Room)) {P : Int32 → va_W → Prop} (Rt : jRt Γ cX5_slotOf 3 0 0 (some .int) (jPi P)) {w : va_W} {a0 : Nat} {x1 : Int32} (h : w_X5_slotOf_b0 (jgE Γ).2.2.2 w a0 x1 P) : J Γ 3 w 0 0 0 [(0, .ref a0), (1, .int x1)] [] := by
  unfold w_X5_slotOf_b0 at h
  refine j_iconst X 0 dX5_slotOf_0 (by decide) ?_
  refine j_istore_n X [(2, .int 0), (0, .ref a0), (1, .int x1)] dX5_slotOf_1 (by decide) rfl ?_
  refine j_sub [1, 2, 0] rfl ?_
  exact k_X5_slotOf_b2 X hR Rt _ h
def w_X5_slotOf (κ : Nat → Nat) (w : va_W) (a0 : Nat) (x1 : Int32) (P : Int32 → va_W → Prop) : Prop := w_X5_slotOf_b0 κ w a0 x1 P
theorem c_X5_slotOf {E : jE} {w : va_W} {a0 : Nat} {x1 : Int32} {P : Int32 → va_W → Prop} (h : w_X5_slotOf E.2.2.2 w a0 x1 P) : jC E yX5_slotOf cX5_slotOf 3 (some .int) ({ frames := 1, cells := 0, slots := 0, locals := 21 } : Room) [.ref a0, .int x1] w 0 0 (jPi P) := by
  refine jC_of (by decide) (Nat.le_of_ble_eq_true rfl) ?_
  intro Γ X hE hR Rt
  subst hE
  exact k_X5_slotOf_b0 X hR Rt h
theorem jm_X5_freeSlot : jMv yX5_freeSlot cX5_freeSlot 2 (some .int) 0 := ⟨jw_607, jw_608, jw_23, jw_609, ⟨by decide +kernel, by decide +kernel⟩, by decide +kernel⟩
def w_X5_freeSlot_b2 : Nat → (κ : Nat → Nat) → (w : va_W) → (a0 : Nat) → (x1 : Int32) → (P : Int32 → va_W → Prop) → Prop
  | 0, _, _, _, _, _ => False
  | n + 1, κ, w, a0, x1, P =>
    (if 16 ≤ x1 then P (-1) w else (jRc w a0 8 ∧ w_X5_isUsed κ w a0 x1 (fun v1 w1 => (if v1 = 0 then P x1 w1 else w_X5_freeSlot_b2 n κ w1 a0 (x1 + 1) P))))
set_option maxRecDepth 100000 in
set_option maxHeartbeats 4000000 in
theorem k_X5_freeSlot_b2 {Γ : jG} (X : jX Γ cX5_freeSlot 2 RX5) (hR : jgR Γ = ({ frames := 2, cells := 0, slots := 0, locals := 42 } : Room)) {P : Int32 → va_W → Prop} (Rt : jRt Γ cX5_freeSlot 2 0 0 (some .int) (jPi P)) : ∀ (n : Nat) {w : va_W} {a0 : Nat} {x1 : Int32} (h : w_X5_freeSlot_b2 n (jgE Γ).2.2.2 w a0 x1 P), J Γ 2 w 0 0 2 [(0, .ref a0), (1, .int x1)] [] := by
  intro n
  induction n with
  | zero => intro w a0 x1 h; exact False.elim h
  | succ n ih =>
    intro w a0 x1 h
    rw [w_X5_freeSlot_b2] at h
    refine j_iload_n X dX5_freeSlot_2 1 rfl ?_
    refine j_bipush X 16 dX5_freeSlot_3 (by decide) ?_
    refine j_icmp_ge X 24 dX5_freeSlot_5 (by decide) (fun c => ?_) (fun c => ?_)
    · replace h := jif_t c h
      refine j_iconst X (-1) dX5_freeSlot_24 (by decide) ?_
      exact Rt.i dX5_freeSlot_25 ⟨_, rfl, h⟩ (by first | decide | omega) (by first | decide | omega)
    · replace h := jif_f c h
      refine j_aload_n X dX5_freeSlot_8 0 rfl ?_
      refine j_iload_n X dX5_freeSlot_9 1 rfl ?_
      obtain ⟨⟨fs1, g1⟩, h⟩ := h
      refine j_callVi X [.int x1] [] (c_X5_isUsed h) (T := TX5) (N := 12) g1 rfl jm_X5_isUsed jw_610 rfl ⟨rfl, rfl⟩ (by rw [hR]; decide) rfl (Nat.le_of_ble_eq_true rfl) dX5_freeSlot_10 (fun v1 w1 h => ?_)
      refine j_if_ne X 18 dX5_freeSlot_13 (by decide) (fun c => ?_) (fun c => ?_)
      · replace h := jif_f c h
        refine j_iinc X (x1 + 1) [(1, .int (x1 + 1)), (0, .ref a0)] dX5_freeSlot_18 1 rfl rfl (by decide) rfl ?_
        refine j_goto X 2 dX5_freeSlot_21 (by decide) ?_
        refine j_sub [1, 0] rfl ?_
        exact ih h
      · replace h := jif_t c h
        refine j_iload_n X dX5_freeSlot_16 1 rfl ?_
        exact Rt.i dX5_freeSlot_17 ⟨_, rfl, h⟩ (by first | decide | omega) (by first | decide | omega)
def w_X5_freeSlot_b0 (κ : Nat → Nat) (w : va_W) (a0 : Nat) (P : Int32 → va_W → Prop) : Prop :=
    w_X5_freeSlot_b2 jFu κ w a0 0 P
set_option maxRecDepth 100000 in
set_option maxHeartbeats 4000000 in
theorem k_X5_freeSlot_b0 {Γ : jG} (X : jX Γ cX5_freeSlot 2 RX5) (hR : jgR Γ = ({ frames := 2, cells := 0, slots := 0, locals := 42 } : Room)) {P : Int32 → va_W → Prop} (Rt : jRt Γ cX5_freeSlot 2 0 0 (some .int) (jPi P)) {w : va_W} {a0 : Nat} (h : w_X5_freeSlot_b0 (jgE Γ).2.2.2 w a0 P) : J Γ 2 w 0 0 0 [(0, .ref a0)] [] := by
  unfold w_X5_freeSlot_b0 at h
  refine j_iconst X 0 dX5_freeSlot_0 (by decide) ?_
  refine j_istore_n X [(1, .int 0), (0, .ref a0)] dX5_freeSlot_1 (by decide) rfl ?_
  refine j_sub [1, 0] rfl ?_
  exact k_X5_freeSlot_b2 X hR Rt _ h
def w_X5_freeSlot (κ : Nat → Nat) (w : va_W) (a0 : Nat) (P : Int32 → va_W → Prop) : Prop := w_X5_freeSlot_b0 κ w a0 P
theorem c_X5_freeSlot {E : jE} {w : va_W} {a0 : Nat} {P : Int32 → va_W → Prop} (h : w_X5_freeSlot E.2.2.2 w a0 P) : jC E yX5_freeSlot cX5_freeSlot 2 (some .int) ({ frames := 2, cells := 0, slots := 0, locals := 42 } : Room) [.ref a0] w 0 0 (jPi P) := by
  refine jC_of (by decide) (Nat.le_of_ble_eq_true rfl) ?_
  intro Γ X hE hR Rt
  subst hE
  exact k_X5_freeSlot_b0 X hR Rt h
theorem jm_X5_free : jMv yX5_free cX5_free 2 none 1 := ⟨jw_1110, jw_1111, jw_23, jw_1112, ⟨by decide +kernel, by decide +kernel⟩, by decide +kernel⟩
def w_X5_free_b0 (κ : Nat → Nat) (w : va_W) (a0 : Nat) (x1 : Int32) (P : va_W → Prop) : Prop :=
    jgR' w a0 8 0 (fun r1 => (jRc w r1 6 ∧ w_X3_put κ w r1 x1 (-1) (fun w2 => jgR' w2 a0 8 1 (fun r3 => (jRc w2 r3 6 ∧ w_X3_put κ w2 r3 x1 (-1) (fun w4 => jgR' w4 a0 8 2 (fun r5 => (jRc w4 r5 6 ∧ w_X3_put κ w4 r5 x1 (-1) (fun w6 => P w6)))))))))
set_option maxRecDepth 100000 in
set_option maxHeartbeats 4000000 in
theorem k_X5_free_b0 {Γ : jG} (X : jX Γ cX5_free 2 RX5) (hR : jgR Γ = ({ frames := 1, cells := 0, slots := 0, locals := 22 } : Room)) {P : va_W → Prop} (Rt : jRt Γ cX5_free 2 0 0 none (jPv P)) {w : va_W} {a0 : Nat} {x1 : Int32} (h : w_X5_free_b0 (jgE Γ).2.2.2 w a0 x1 P) : J Γ 2 w 0 0 0 [(0, .ref a0), (1, .int x1)] [] := by
  unfold w_X5_free_b0 at h
  refine j_aload_n X dX5_free_0 0 rfl ?_
  obtain ⟨fs1, r1, g1, i1, h⟩ := h
  refine j_get X (ci := 8) (C := RX5) (T := TX5) (N := 12) rfl jin_X5 0 (by decide) g1 i1 jw_104 rfl dX5_free_1 ?_
  refine j_iload_n X dX5_free_4 1 rfl ?_
  refine j_iconst X (-1) dX5_free_5 (by decide) ?_
  obtain ⟨⟨fs2, g2⟩, h⟩ := h
  refine j_callVv X [.int x1, .int (-1)] [] (c_X3_put h) (T := TX3) (N := 1) g2 rfl jm_X3_put jw_100 rfl ⟨rfl, rfl⟩ (by rw [hR]; decide) rfl (Nat.le_of_ble_eq_true rfl) dX5_free_6 (fun w2 h => ?_)
  refine j_aload_n X dX5_free_9 0 rfl ?_
  obtain ⟨fs3, r3, g3, i3, h⟩ := h
  refine j_get X (ci := 8) (C := RX5) (T := TX5) (N := 12) rfl jin_X5 1 (by decide) g3 i3 jw_108 rfl dX5_free_10 ?_
  refine j_iload_n X dX5_free_13 1 rfl ?_
  refine j_iconst X (-1) dX5_free_14 (by decide) ?_
  obtain ⟨⟨fs4, g4⟩, h⟩ := h
  refine j_callVv X [.int x1, .int (-1)] [] (c_X3_put h) (T := TX3) (N := 1) g4 rfl jm_X3_put jw_100 rfl ⟨rfl, rfl⟩ (by rw [hR]; decide) rfl (Nat.le_of_ble_eq_true rfl) dX5_free_15 (fun w4 h => ?_)
  refine j_aload_n X dX5_free_18 0 rfl ?_
  obtain ⟨fs5, r5, g5, i5, h⟩ := h
  refine j_get X (ci := 8) (C := RX5) (T := TX5) (N := 12) rfl jin_X5 2 (by decide) g5 i5 jw_112 rfl dX5_free_19 ?_
  refine j_iload_n X dX5_free_22 1 rfl ?_
  refine j_iconst X (-1) dX5_free_23 (by decide) ?_
  obtain ⟨⟨fs6, g6⟩, h⟩ := h
  refine j_callVv X [.int x1, .int (-1)] [] (c_X3_put h) (T := TX3) (N := 1) g6 rfl jm_X3_put jw_100 rfl ⟨rfl, rfl⟩ (by rw [hR]; decide) rfl (Nat.le_of_ble_eq_true rfl) dX5_free_24 (fun w6 h => ?_)
  exact Rt.v dX5_free_27 ⟨rfl, h⟩ (by first | decide | omega) (by first | decide | omega)
def w_X5_free (κ : Nat → Nat) (w : va_W) (a0 : Nat) (x1 : Int32) (P : va_W → Prop) : Prop := w_X5_free_b0 κ w a0 x1 P
theorem c_X5_free {E : jE} {w : va_W} {a0 : Nat} {x1 : Int32} {P : va_W → Prop} (h : w_X5_free E.2.2.2 w a0 x1 P) : jC E yX5_free cX5_free 2 none ({ frames := 1, cells := 0, slots := 0, locals := 22 } : Room) [.ref a0, .int x1] w 0 0 (jPv P) := by
  refine jC_of (by decide) (Nat.le_of_ble_eq_true rfl) ?_
  intro Γ X hE hR Rt
  subst hE
  exact k_X5_free_b0 X hR Rt h
theorem jmi_X6_init : jMi yX6_init cX6_init 2 1 := ⟨jw_173, jw_27, jw_174, ⟨by decide +kernel, by decide +kernel⟩, by decide +kernel, rfl⟩
def w_X6_init_b0 (κ : Nat → Nat) (w : va_W) (a0 : Nat) (a1 : Nat) (P : va_W → Prop) : Prop :=
    (jpV w a0 9 0 (.ref a1) (fun w1 => (∀ q2 : Nat, jlk w1 q2 = none → (fun w2 => w_X3_init κ w2 q2 100 0 (fun w3 => (jpV w3 a0 9 1 (.ref q2) (fun w4 => P w4)))) (w1 ++ [(q2, .inr (6, [.null]))]))))
set_option maxRecDepth 100000 in
set_option maxHeartbeats 4000000 in
theorem k_X6_init_b0 {Γ : jG} (hNm : (jgM Γ).name = "<init>") (X : jX Γ cX6_init 2 RX6) (hR : jgR Γ = ({ frames := 2, cells := 2, slots := 101, locals := 45 } : Room)) {P : va_W → Prop} (Rt : jRt Γ cX6_init 2 2 101 none (jPv P)) {w : va_W} {a0 : Nat} {a1 : Nat} (h : w_X6_init_b0 (jgE Γ).2.2.2 w a0 a1 P) : J Γ 2 w 0 0 0 [(0, .ref a0), (1, .ref a1)] [] := by
  unfold w_X6_init_b0 at h
  refine j_aload_n X dX6_init_0 0 rfl ?_
  refine j_objInit X jw_175 jw_60 jw_61 (by rw [hR]; exact ⟨by decide, Nat.le_of_ble_eq_true rfl⟩) dX6_init_1 ?_
  refine j_aload_n X dX6_init_4 0 rfl ?_
  refine j_aload_n X dX6_init_5 1 rfl ?_
  obtain ⟨fs1, g1, i1, h⟩ := h
  refine j_putF X hNm (ci := 9) (C := RX6) (T := TX6) (N := 2) rfl jin_X6 tyX6 tyX6_ok nmX6 0 (by decide) g1 jw_178 rfl rfl rfl (by rfl) (by rfl) i1 dX6_init_6 ?_
  generalize jst w a0 _ = w1 at h ⊢
  refine j_aload_n X dX6_init_9 0 rfl ?_
  refine j_new X (C := RX3) (T := TX3) (N := 1) 6 [.null] rfl jin_X3 tyX3 tyX3_ok jw_176 jw_69 jw_24 (fun j hj => by rcases (show j = 0 by omega) with rfl <;> rfl) (by rw [hR]; exact ⟨by simp only []; omega, by simp only []; omega⟩) dX6_init_10 (fun q2 e2 => ?_)
  replace h := h q2 e2
  generalize w1 ++ [(q2, _)] = w2 at h ⊢
  refine j_dup X dX6_init_13 rfl ?_
  refine j_bipush X 100 dX6_init_14 (by decide) ?_
  refine j_iconst X 0 dX6_init_16 (by decide) ?_
  refine j_callI X [.int 100, .int 0] [.ref q2, .ref a0] (c_X3_init h) jmi_X3_init jw_177 rfl ⟨rfl, rfl⟩ (by rw [hR]; decide) rfl (Nat.le_of_ble_eq_true rfl) dX6_init_17 (fun w3 h => ?_)
  obtain ⟨fs4, g4, i4, h⟩ := h
  refine j_putF X hNm (ci := 9) (C := RX6) (T := TX6) (N := 2) rfl jin_X6 tyX6 tyX6_ok nmX6 1 (by decide) g4 jw_179 rfl rfl rfl (by rfl) (by rfl) i4 dX6_init_20 ?_
  generalize jst w3 a0 _ = w4 at h ⊢
  exact Rt.v dX6_init_23 ⟨rfl, h⟩ (by first | decide | omega) (by first | decide | omega)
def w_X6_init (κ : Nat → Nat) (w : va_W) (a0 : Nat) (a1 : Nat) (P : va_W → Prop) : Prop := w_X6_init_b0 κ w a0 a1 P
theorem c_X6_init {E : jE} {w : va_W} {a0 : Nat} {a1 : Nat} {P : va_W → Prop} (h : w_X6_init E.2.2.2 w a0 a1 P) : jC E yX6_init cX6_init 2 none ({ frames := 2, cells := 2, slots := 101, locals := 45 } : Room) [.ref a0, .ref a1] w 2 101 (jPv P) := by
  refine jC_ofN (by decide) (Nat.le_of_ble_eq_true rfl) ?_
  intro Γ hNm X hE hR Rt
  subst hE
  exact k_X6_init_b0 hNm X hR Rt h
theorem jm_X6_countBlocks : jMv yX6_countBlocks cX6_countBlocks 3 (some .int) 0 := ⟨jw_360, jw_361, jw_27, jw_362, ⟨by decide +kernel, by decide +kernel⟩, by decide +kernel⟩
def w_X6_countBlocks_b24 (κ : Nat → Nat) (w : va_W) (a0 : Nat) (x1 : Int32) (x2 : Int32) (K4 : va_W → Nat → Int32 → Int32 → Prop) (P : Int32 → va_W → Prop) : Prop :=
    K4 w a0 x1 (x2 + 1)
set_option maxRecDepth 100000 in
set_option maxHeartbeats 4000000 in
theorem k_X6_countBlocks_b24 {Γ : jG} (X : jX Γ cX6_countBlocks 3 RX6) (hR : jgR Γ = ({ frames := 2, cells := 0, slots := 0, locals := 42 } : Room)) {P : Int32 → va_W → Prop} (Rt : jRt Γ cX6_countBlocks 3 0 0 (some .int) (jPi P)) {K4 : va_W → Nat → Int32 → Int32 → Prop} (hK4 : ∀ (w : va_W) (a0 : Nat) (x1 : Int32) (x2 : Int32), K4 w a0 x1 x2 → J Γ 3 w 0 0 4 [(0, .ref a0), (1, .int x1), (2, .int x2)] []) {w : va_W} {a0 : Nat} {x1 : Int32} {x2 : Int32} (h : w_X6_countBlocks_b24 (jgE Γ).2.2.2 w a0 x1 x2 K4 P) : J Γ 3 w 0 0 24 [(0, .ref a0), (1, .int x1), (2, .int x2)] [] := by
  unfold w_X6_countBlocks_b24 at h
  refine j_iinc X (x2 + 1) [(2, .int (x2 + 1)), (0, .ref a0), (1, .int x1)] dX6_countBlocks_24 2 rfl rfl (by decide) rfl ?_
  refine j_goto X 4 dX6_countBlocks_27 (by decide) ?_
  refine j_sub [1, 2, 0] rfl ?_
  exact hK4 _ _ _ _ h
def w_X6_countBlocks_b4 : Nat → (κ : Nat → Nat) → (w : va_W) → (a0 : Nat) → (x1 : Int32) → (x2 : Int32) → (P : Int32 → va_W → Prop) → Prop
  | 0, _, _, _, _, _, _ => False
  | n + 1, κ, w, a0, x1, x2, P =>
    (if 16 ≤ x2 then P x1 w else jgR' w a0 9 0 (fun r1 => (jRc w r1 8 ∧ w_X5_isUsed κ w r1 x2 (fun v2 w2 => (if v2 = 0 then w_X6_countBlocks_b24 κ w2 a0 x1 x2 (fun w_ z_a0 z_x1 z_x2 => w_X6_countBlocks_b4 n κ w_ z_a0 z_x1 z_x2 P) P else w_X6_countBlocks_b24 κ w2 a0 (x1 + 1) x2 (fun w_ z_a0 z_x1 z_x2 => w_X6_countBlocks_b4 n κ w_ z_a0 z_x1 z_x2 P) P)))))
set_option maxRecDepth 100000 in
set_option maxHeartbeats 4000000 in
theorem k_X6_countBlocks_b4 {Γ : jG} (X : jX Γ cX6_countBlocks 3 RX6) (hR : jgR Γ = ({ frames := 2, cells := 0, slots := 0, locals := 42 } : Room)) {P : Int32 → va_W → Prop} (Rt : jRt Γ cX6_countBlocks 3 0 0 (some .int) (jPi P)) : ∀ (n : Nat) {w : va_W} {a0 : Nat} {x1 : Int32} {x2 : Int32} (h : w_X6_countBlocks_b4 n (jgE Γ).2.2.2 w a0 x1 x2 P), J Γ 3 w 0 0 4 [(0, .ref a0), (1, .int x1), (2, .int x2)] [] := by
  intro n
  induction n with
  | zero => intro w a0 x1 x2 h; exact False.elim h
  | succ n ih =>
    intro w a0 x1 x2 h
    rw [w_X6_countBlocks_b4] at h
    refine j_iload_n X dX6_countBlocks_4 2 rfl ?_
    refine j_bipush X 16 dX6_countBlocks_5 (by decide) ?_
    refine j_icmp_ge X 30 dX6_countBlocks_7 (by decide) (fun c => ?_) (fun c => ?_)
    · replace h := jif_t c h
      refine j_iload_n X dX6_countBlocks_30 1 rfl ?_
      exact Rt.i dX6_countBlocks_31 ⟨_, rfl, h⟩ (by first | decide | omega) (by first | decide | omega)
    · replace h := jif_f c h
      refine j_aload_n X dX6_countBlocks_10 0 rfl ?_
      obtain ⟨fs1, r1, g1, i1, h⟩ := h
      refine j_get X (ci := 9) (C := RX6) (T := TX6) (N := 2) rfl jin_X6 0 (by decide) g1 i1 jw_178 rfl dX6_countBlocks_11 ?_
      refine j_iload_n X dX6_countBlocks_14 2 rfl ?_
      obtain ⟨⟨fs2, g2⟩, h⟩ := h
      refine j_callVi X [.int x2] [] (c_X5_isUsed h) (T := TX5) (N := 12) g2 rfl jm_X5_isUsed jw_363 rfl ⟨rfl, rfl⟩ (by rw [hR]; decide) rfl (Nat.le_of_ble_eq_true rfl) dX6_countBlocks_15 (fun v2 w2 h => ?_)
      refine j_if_eq X 24 dX6_countBlocks_18 (by decide) (fun c => ?_) (fun c => ?_)
      · replace h := jif_t c h
        exact k_X6_countBlocks_b24 X hR Rt (fun _ _ _ _ h => ih h) h
      · replace h := jif_f c h
        refine j_iinc X (x1 + 1) [(1, .int (x1 + 1)), (0, .ref a0), (2, .int x2)] dX6_countBlocks_21 1 rfl rfl (by decide) rfl ?_
        refine j_sub [1, 0, 2] rfl ?_
        exact k_X6_countBlocks_b24 X hR Rt (fun _ _ _ _ h => ih h) h
def w_X6_countBlocks_b0 (κ : Nat → Nat) (w : va_W) (a0 : Nat) (P : Int32 → va_W → Prop) : Prop :=
    w_X6_countBlocks_b4 jFu κ w a0 0 0 P
set_option maxRecDepth 100000 in
set_option maxHeartbeats 4000000 in
theorem k_X6_countBlocks_b0 {Γ : jG} (X : jX Γ cX6_countBlocks 3 RX6) (hR : jgR Γ = ({ frames := 2, cells := 0, slots := 0, locals := 42 } : Room)) {P : Int32 → va_W → Prop} (Rt : jRt Γ cX6_countBlocks 3 0 0 (some .int) (jPi P)) {w : va_W} {a0 : Nat} (h : w_X6_countBlocks_b0 (jgE Γ).2.2.2 w a0 P) : J Γ 3 w 0 0 0 [(0, .ref a0)] [] := by
  unfold w_X6_countBlocks_b0 at h
  refine j_iconst X 0 dX6_countBlocks_0 (by decide) ?_
  refine j_istore_n X [(1, .int 0), (0, .ref a0)] dX6_countBlocks_1 (by decide) rfl ?_
  refine j_iconst X 0 dX6_countBlocks_2 (by decide) ?_
  refine j_istore_n X [(2, .int 0), (1, .int 0), (0, .ref a0)] dX6_countBlocks_3 (by decide) rfl ?_
  refine j_sub [2, 1, 0] rfl ?_
  exact k_X6_countBlocks_b4 X hR Rt _ h
def w_X6_countBlocks (κ : Nat → Nat) (w : va_W) (a0 : Nat) (P : Int32 → va_W → Prop) : Prop := w_X6_countBlocks_b0 κ w a0 P
theorem c_X6_countBlocks {E : jE} {w : va_W} {a0 : Nat} {P : Int32 → va_W → Prop} (h : w_X6_countBlocks E.2.2.2 w a0 P) : jC E yX6_countBlocks cX6_countBlocks 3 (some .int) ({ frames := 2, cells := 0, slots := 0, locals := 42 } : Room) [.ref a0] w 0 0 (jPi P) := by
  refine jC_of (by decide) (Nat.le_of_ble_eq_true rfl) ?_
  intro Γ X hE hR Rt
  subst hE
  exact k_X6_countBlocks_b0 X hR Rt h
theorem jm_X6_countChildren : jMv yX6_countChildren cX6_countChildren 4 (some .int) 1 := ⟨jw_1356, jw_1357, jw_27, jw_1358, ⟨by decide +kernel, by decide +kernel⟩, by decide +kernel⟩
def w_X6_countChildren_b28 (κ : Nat → Nat) (w : va_W) (a0 : Nat) (x1 : Int32) (x2 : Int32) (x3 : Int32) (K4 : va_W → Nat → Int32 → Int32 → Int32 → Prop) (P : Int32 → va_W → Prop) : Prop :=
    K4 w a0 x1 x2 (x3 + 1)
set_option maxRecDepth 100000 in
set_option maxHeartbeats 4000000 in
theorem k_X6_countChildren_b28 {Γ : jG} (X : jX Γ cX6_countChildren 4 RX6) (hR : jgR Γ = ({ frames := 1, cells := 0, slots := 0, locals := 21 } : Room)) {P : Int32 → va_W → Prop} (Rt : jRt Γ cX6_countChildren 4 0 0 (some .int) (jPi P)) {K4 : va_W → Nat → Int32 → Int32 → Int32 → Prop} (hK4 : ∀ (w : va_W) (a0 : Nat) (x1 : Int32) (x2 : Int32) (x3 : Int32), K4 w a0 x1 x2 x3 → J Γ 4 w 0 0 4 [(0, .ref a0), (1, .int x1), (2, .int x2), (3, .int x3)] []) {w : va_W} {a0 : Nat} {x1 : Int32} {x2 : Int32} {x3 : Int32} (h : w_X6_countChildren_b28 (jgE Γ).2.2.2 w a0 x1 x2 x3 K4 P) : J Γ 4 w 0 0 28 [(0, .ref a0), (1, .int x1), (2, .int x2), (3, .int x3)] [] := by
  unfold w_X6_countChildren_b28 at h
  refine j_iinc X (x3 + 1) [(3, .int (x3 + 1)), (0, .ref a0), (1, .int x1), (2, .int x2)] dX6_countChildren_28 3 rfl rfl (by decide) rfl ?_
  refine j_goto X 4 dX6_countChildren_31 (by decide) ?_
  refine j_sub [1, 2, 3, 0] rfl ?_
  exact hK4 _ _ _ _ _ h
def w_X6_countChildren_b4 : Nat → (κ : Nat → Nat) → (w : va_W) → (a0 : Nat) → (x1 : Int32) → (x2 : Int32) → (x3 : Int32) → (P : Int32 → va_W → Prop) → Prop
  | 0, _, _, _, _, _, _, _ => False
  | n + 1, κ, w, a0, x1, x2, x3, P =>
    (if 16 ≤ x3 then P x2 w else jgR' w a0 9 0 (fun r1 => jgR' w r1 8 1 (fun r2 => (jRc w r2 6 ∧ w_X3_at κ w r2 x3 (fun v3 w3 => (if v3 = x1 then w_X6_countChildren_b28 κ w3 a0 x1 (x2 + 1) x3 (fun w_ z_a0 z_x1 z_x2 z_x3 => w_X6_countChildren_b4 n κ w_ z_a0 z_x1 z_x2 z_x3 P) P else w_X6_countChildren_b28 κ w3 a0 x1 x2 x3 (fun w_ z_a0 z_x1 z_x2 z_x3 => w_X6_countChildren_b4 n κ w_ z_a0 z_x1 z_x2 z_x3 P) P))))))
set_option maxRecDepth 100000 in
set_option maxHeartbeats 4000000 in
theorem k_X6_countChildren_b4 {Γ : jG} (X : jX Γ cX6_countChildren 4 RX6) (hR : jgR Γ = ({ frames := 1, cells := 0, slots := 0, locals := 21 } : Room)) {P : Int32 → va_W → Prop} (Rt : jRt Γ cX6_countChildren 4 0 0 (some .int) (jPi P)) : ∀ (n : Nat) {w : va_W} {a0 : Nat} {x1 : Int32} {x2 : Int32} {x3 : Int32} (h : w_X6_countChildren_b4 n (jgE Γ).2.2.2 w a0 x1 x2 x3 P), J Γ 4 w 0 0 4 [(0, .ref a0), (1, .int x1), (2, .int x2), (3, .int x3)] [] := by
  intro n
  induction n with
  | zero => intro w a0 x1 x2 x3 h; exact False.elim h
  | succ n ih =>
    intro w a0 x1 x2 x3 h
    rw [w_X6_countChildren_b4] at h
    refine j_iload_n X dX6_countChildren_4 3 rfl ?_
    refine j_bipush X 16 dX6_countChildren_5 (by decide) ?_
    refine j_icmp_ge X 34 dX6_countChildren_7 (by decide) (fun c => ?_) (fun c => ?_)
    · replace h := jif_t c h
      refine j_iload_n X dX6_countChildren_34 2 rfl ?_
      exact Rt.i dX6_countChildren_35 ⟨_, rfl, h⟩ (by first | decide | omega) (by first | decide | omega)
    · replace h := jif_f c h
      refine j_aload_n X dX6_countChildren_10 0 rfl ?_
      obtain ⟨fs1, r1, g1, i1, h⟩ := h
      refine j_get X (ci := 9) (C := RX6) (T := TX6) (N := 2) rfl jin_X6 0 (by decide) g1 i1 jw_178 rfl dX6_countChildren_11 ?_
      obtain ⟨fs2, r2, g2, i2, h⟩ := h
      refine j_getN X (ci := 8) (C := RX5) (T := TX5) (N := 12) rfl jin_X5 1 (by decide) g2 i2 jw_109 rfl dX6_countChildren_14 ?_
      refine j_iload_n X dX6_countChildren_17 3 rfl ?_
      obtain ⟨⟨fs3, g3⟩, h⟩ := h
      refine j_callVi X [.int x3] [] (c_X3_at h) (T := TX3) (N := 1) g3 rfl jm_X3_at jw_620 rfl ⟨rfl, rfl⟩ (by rw [hR]; decide) rfl (Nat.le_of_ble_eq_true rfl) dX6_countChildren_18 (fun v3 w3 h => ?_)
      refine j_iload_n X dX6_countChildren_21 1 rfl ?_
      refine j_icmp_ne X 28 dX6_countChildren_22 (by decide) (fun c => ?_) (fun c => ?_)
      · replace h := jif_f c h
        exact k_X6_countChildren_b28 X hR Rt (fun _ _ _ _ _ h => ih h) h
      · replace h := jif_t c h
        refine j_iinc X (x2 + 1) [(2, .int (x2 + 1)), (0, .ref a0), (1, .int x1), (3, .int x3)] dX6_countChildren_25 2 rfl rfl (by decide) rfl ?_
        refine j_sub [1, 2, 0, 3] rfl ?_
        exact k_X6_countChildren_b28 X hR Rt (fun _ _ _ _ _ h => ih h) h
def w_X6_countChildren_b0 (κ : Nat → Nat) (w : va_W) (a0 : Nat) (x1 : Int32) (P : Int32 → va_W → Prop) : Prop :=
    w_X6_countChildren_b4 jFu κ w a0 x1 0 0 P
set_option maxRecDepth 100000 in
set_option maxHeartbeats 4000000 in
theorem k_X6_countChildren_b0 {Γ : jG} (X : jX Γ cX6_countChildren 4 RX6) (hR : jgR Γ = ({ frames := 1, cells := 0, slots := 0, locals := 21 } : Room)) {P : Int32 → va_W → Prop} (Rt : jRt Γ cX6_countChildren 4 0 0 (some .int) (jPi P)) {w : va_W} {a0 : Nat} {x1 : Int32} (h : w_X6_countChildren_b0 (jgE Γ).2.2.2 w a0 x1 P) : J Γ 4 w 0 0 0 [(0, .ref a0), (1, .int x1)] [] := by
  unfold w_X6_countChildren_b0 at h
  refine j_iconst X 0 dX6_countChildren_0 (by decide) ?_
  refine j_istore_n X [(2, .int 0), (0, .ref a0), (1, .int x1)] dX6_countChildren_1 (by decide) rfl ?_
  refine j_iconst X 0 dX6_countChildren_2 (by decide) ?_
  refine j_istore_n X [(3, .int 0), (2, .int 0), (0, .ref a0), (1, .int x1)] dX6_countChildren_3 (by decide) rfl ?_
  refine j_sub [2, 3, 1, 0] rfl ?_
  exact k_X6_countChildren_b4 X hR Rt _ h
def w_X6_countChildren (κ : Nat → Nat) (w : va_W) (a0 : Nat) (x1 : Int32) (P : Int32 → va_W → Prop) : Prop := w_X6_countChildren_b0 κ w a0 x1 P
theorem c_X6_countChildren {E : jE} {w : va_W} {a0 : Nat} {x1 : Int32} {P : Int32 → va_W → Prop} (h : w_X6_countChildren E.2.2.2 w a0 x1 P) : jC E yX6_countChildren cX6_countChildren 4 (some .int) ({ frames := 1, cells := 0, slots := 0, locals := 21 } : Room) [.ref a0, .int x1] w 0 0 (jPi P) := by
  refine jC_of (by decide) (Nat.le_of_ble_eq_true rfl) ?_
  intro Γ X hE hR Rt
  subst hE
  exact k_X6_countChildren_b0 X hR Rt h
theorem jm_X6_countWrittenBy : jMv yX6_countWrittenBy cX6_countWrittenBy 4 (some .int) 1 := ⟨jw_1545, jw_1546, jw_27, jw_1547, ⟨by decide +kernel, by decide +kernel⟩, by decide +kernel⟩
def w_X6_countWrittenBy_b28 (κ : Nat → Nat) (w : va_W) (a0 : Nat) (x1 : Int32) (x2 : Int32) (x3 : Int32) (K4 : va_W → Nat → Int32 → Int32 → Int32 → Prop) (P : Int32 → va_W → Prop) : Prop :=
    K4 w a0 x1 x2 (x3 + 1)
set_option maxRecDepth 100000 in
set_option maxHeartbeats 4000000 in
theorem k_X6_countWrittenBy_b28 {Γ : jG} (X : jX Γ cX6_countWrittenBy 4 RX6) (hR : jgR Γ = ({ frames := 1, cells := 0, slots := 0, locals := 21 } : Room)) {P : Int32 → va_W → Prop} (Rt : jRt Γ cX6_countWrittenBy 4 0 0 (some .int) (jPi P)) {K4 : va_W → Nat → Int32 → Int32 → Int32 → Prop} (hK4 : ∀ (w : va_W) (a0 : Nat) (x1 : Int32) (x2 : Int32) (x3 : Int32), K4 w a0 x1 x2 x3 → J Γ 4 w 0 0 4 [(0, .ref a0), (1, .int x1), (2, .int x2), (3, .int x3)] []) {w : va_W} {a0 : Nat} {x1 : Int32} {x2 : Int32} {x3 : Int32} (h : w_X6_countWrittenBy_b28 (jgE Γ).2.2.2 w a0 x1 x2 x3 K4 P) : J Γ 4 w 0 0 28 [(0, .ref a0), (1, .int x1), (2, .int x2), (3, .int x3)] [] := by
  unfold w_X6_countWrittenBy_b28 at h
  refine j_iinc X (x3 + 1) [(3, .int (x3 + 1)), (0, .ref a0), (1, .int x1), (2, .int x2)] dX6_countWrittenBy_28 3 rfl rfl (by decide) rfl ?_
  refine j_goto X 4 dX6_countWrittenBy_31 (by decide) ?_
  refine j_sub [1, 2, 3, 0] rfl ?_
  exact hK4 _ _ _ _ _ h
def w_X6_countWrittenBy_b4 : Nat → (κ : Nat → Nat) → (w : va_W) → (a0 : Nat) → (x1 : Int32) → (x2 : Int32) → (x3 : Int32) → (P : Int32 → va_W → Prop) → Prop
  | 0, _, _, _, _, _, _, _ => False
  | n + 1, κ, w, a0, x1, x2, x3, P =>
    (if 16 ≤ x3 then P x2 w else jgR' w a0 9 0 (fun r1 => jgR' w r1 8 2 (fun r2 => (jRc w r2 6 ∧ w_X3_at κ w r2 x3 (fun v3 w3 => (if v3 = x1 then w_X6_countWrittenBy_b28 κ w3 a0 x1 (x2 + 1) x3 (fun w_ z_a0 z_x1 z_x2 z_x3 => w_X6_countWrittenBy_b4 n κ w_ z_a0 z_x1 z_x2 z_x3 P) P else w_X6_countWrittenBy_b28 κ w3 a0 x1 x2 x3 (fun w_ z_a0 z_x1 z_x2 z_x3 => w_X6_countWrittenBy_b4 n κ w_ z_a0 z_x1 z_x2 z_x3 P) P))))))
set_option maxRecDepth 100000 in
set_option maxHeartbeats 4000000 in
theorem k_X6_countWrittenBy_b4 {Γ : jG} (X : jX Γ cX6_countWrittenBy 4 RX6) (hR : jgR Γ = ({ frames := 1, cells := 0, slots := 0, locals := 21 } : Room)) {P : Int32 → va_W → Prop} (Rt : jRt Γ cX6_countWrittenBy 4 0 0 (some .int) (jPi P)) : ∀ (n : Nat) {w : va_W} {a0 : Nat} {x1 : Int32} {x2 : Int32} {x3 : Int32} (h : w_X6_countWrittenBy_b4 n (jgE Γ).2.2.2 w a0 x1 x2 x3 P), J Γ 4 w 0 0 4 [(0, .ref a0), (1, .int x1), (2, .int x2), (3, .int x3)] [] := by
  intro n
  induction n with
  | zero => intro w a0 x1 x2 x3 h; exact False.elim h
  | succ n ih =>
    intro w a0 x1 x2 x3 h
    rw [w_X6_countWrittenBy_b4] at h
    refine j_iload_n X dX6_countWrittenBy_4 3 rfl ?_
    refine j_bipush X 16 dX6_countWrittenBy_5 (by decide) ?_
    refine j_icmp_ge X 34 dX6_countWrittenBy_7 (by decide) (fun c => ?_) (fun c => ?_)
    · replace h := jif_t c h
      refine j_iload_n X dX6_countWrittenBy_34 2 rfl ?_
      exact Rt.i dX6_countWrittenBy_35 ⟨_, rfl, h⟩ (by first | decide | omega) (by first | decide | omega)
    · replace h := jif_f c h
      refine j_aload_n X dX6_countWrittenBy_10 0 rfl ?_
      obtain ⟨fs1, r1, g1, i1, h⟩ := h
      refine j_get X (ci := 9) (C := RX6) (T := TX6) (N := 2) rfl jin_X6 0 (by decide) g1 i1 jw_178 rfl dX6_countWrittenBy_11 ?_
      obtain ⟨fs2, r2, g2, i2, h⟩ := h
      refine j_getN X (ci := 8) (C := RX5) (T := TX5) (N := 12) rfl jin_X5 2 (by decide) g2 i2 jw_113 rfl dX6_countWrittenBy_14 ?_
      refine j_iload_n X dX6_countWrittenBy_17 3 rfl ?_
      obtain ⟨⟨fs3, g3⟩, h⟩ := h
      refine j_callVi X [.int x3] [] (c_X3_at h) (T := TX3) (N := 1) g3 rfl jm_X3_at jw_620 rfl ⟨rfl, rfl⟩ (by rw [hR]; decide) rfl (Nat.le_of_ble_eq_true rfl) dX6_countWrittenBy_18 (fun v3 w3 h => ?_)
      refine j_iload_n X dX6_countWrittenBy_21 1 rfl ?_
      refine j_icmp_ne X 28 dX6_countWrittenBy_22 (by decide) (fun c => ?_) (fun c => ?_)
      · replace h := jif_f c h
        exact k_X6_countWrittenBy_b28 X hR Rt (fun _ _ _ _ _ h => ih h) h
      · replace h := jif_t c h
        refine j_iinc X (x2 + 1) [(2, .int (x2 + 1)), (0, .ref a0), (1, .int x1), (3, .int x3)] dX6_countWrittenBy_25 2 rfl rfl (by decide) rfl ?_
        refine j_sub [1, 2, 0, 3] rfl ?_
        exact k_X6_countWrittenBy_b28 X hR Rt (fun _ _ _ _ _ h => ih h) h
def w_X6_countWrittenBy_b0 (κ : Nat → Nat) (w : va_W) (a0 : Nat) (x1 : Int32) (P : Int32 → va_W → Prop) : Prop :=
    w_X6_countWrittenBy_b4 jFu κ w a0 x1 0 0 P
set_option maxRecDepth 100000 in
set_option maxHeartbeats 4000000 in
theorem k_X6_countWrittenBy_b0 {Γ : jG} (X : jX Γ cX6_countWrittenBy 4 RX6) (hR : jgR Γ = ({ frames := 1, cells := 0, slots := 0, locals := 21 } : Room)) {P : Int32 → va_W → Prop} (Rt : jRt Γ cX6_countWrittenBy 4 0 0 (some .int) (jPi P)) {w : va_W} {a0 : Nat} {x1 : Int32} (h : w_X6_countWrittenBy_b0 (jgE Γ).2.2.2 w a0 x1 P) : J Γ 4 w 0 0 0 [(0, .ref a0), (1, .int x1)] [] := by
  unfold w_X6_countWrittenBy_b0 at h
  refine j_iconst X 0 dX6_countWrittenBy_0 (by decide) ?_
  refine j_istore_n X [(2, .int 0), (0, .ref a0), (1, .int x1)] dX6_countWrittenBy_1 (by decide) rfl ?_
  refine j_iconst X 0 dX6_countWrittenBy_2 (by decide) ?_
  refine j_istore_n X [(3, .int 0), (2, .int 0), (0, .ref a0), (1, .int x1)] dX6_countWrittenBy_3 (by decide) rfl ?_
  refine j_sub [2, 3, 1, 0] rfl ?_
  exact k_X6_countWrittenBy_b4 X hR Rt _ h
def w_X6_countWrittenBy (κ : Nat → Nat) (w : va_W) (a0 : Nat) (x1 : Int32) (P : Int32 → va_W → Prop) : Prop := w_X6_countWrittenBy_b0 κ w a0 x1 P
theorem c_X6_countWrittenBy {E : jE} {w : va_W} {a0 : Nat} {x1 : Int32} {P : Int32 → va_W → Prop} (h : w_X6_countWrittenBy E.2.2.2 w a0 x1 P) : jC E yX6_countWrittenBy cX6_countWrittenBy 4 (some .int) ({ frames := 1, cells := 0, slots := 0, locals := 21 } : Room) [.ref a0, .int x1] w 0 0 (jPi P) := by
  refine jC_of (by decide) (Nat.le_of_ble_eq_true rfl) ?_
  intro Γ X hE hR Rt
  subst hE
  exact k_X6_countWrittenBy_b0 X hR Rt h
theorem jm_X6_heightByWalk : jMv yX6_heightByWalk cX6_heightByWalk 4 (some .int) 1 := ⟨jw_1316, jw_1317, jw_27, jw_1318, ⟨by decide +kernel, by decide +kernel⟩, by decide +kernel⟩
def w_X6_heightByWalk_b43 (κ : Nat → Nat) (w : va_W) (x2 : Int32) (P : Int32 → va_W → Prop) : Prop :=
    P x2 w
set_option maxRecDepth 100000 in
set_option maxHeartbeats 4000000 in
theorem k_X6_heightByWalk_b43 {Γ : jG} (X : jX Γ cX6_heightByWalk 4 RX6) (hR : jgR Γ = ({ frames := 1, cells := 0, slots := 0, locals := 21 } : Room)) {P : Int32 → va_W → Prop} (Rt : jRt Γ cX6_heightByWalk 4 0 0 (some .int) (jPi P)) {w : va_W} {x2 : Int32} (h : w_X6_heightByWalk_b43 (jgE Γ).2.2.2 w x2 P) : J Γ 4 w 0 0 43 [(2, .int x2)] [] := by
  unfold w_X6_heightByWalk_b43 at h
  refine j_iload_n X dX6_heightByWalk_43 0 rfl ?_
  exact Rt.i dX6_heightByWalk_44 ⟨_, rfl, h⟩ (by first | decide | omega) (by first | decide | omega)
def w_X6_heightByWalk_b14 : Nat → (κ : Nat → Nat) → (w : va_W) → (a0 : Nat) → (x2 : Int32) → (x3 : Int32) → (P : Int32 → va_W → Prop) → Prop
  | 0, _, _, _, _, _, _ => False
  | n + 1, κ, w, a0, x2, x3, P =>
    (if x3 = (-1) then w_X6_heightByWalk_b43 κ w x2 P else (if 16 ≤ x2 then w_X6_heightByWalk_b43 κ w x2 P else jgR' w a0 9 0 (fun r1 => jgR' w r1 8 1 (fun r2 => (jRc w r2 6 ∧ w_X3_at κ w r2 x3 (fun v3 w3 => w_X6_heightByWalk_b14 n κ w3 a0 (x2 + 1) v3 P))))))
set_option maxRecDepth 100000 in
set_option maxHeartbeats 4000000 in
theorem k_X6_heightByWalk_b14 {Γ : jG} (X : jX Γ cX6_heightByWalk 4 RX6) (hR : jgR Γ = ({ frames := 1, cells := 0, slots := 0, locals := 21 } : Room)) {P : Int32 → va_W → Prop} (Rt : jRt Γ cX6_heightByWalk 4 0 0 (some .int) (jPi P)) : ∀ (n : Nat) {w : va_W} {a0 : Nat} {x2 : Int32} {x3 : Int32} (h : w_X6_heightByWalk_b14 n (jgE Γ).2.2.2 w a0 x2 x3 P), J Γ 4 w 0 0 14 [(0, .ref a0), (2, .int x2), (3, .int x3)] [] := by
  intro n
  induction n with
  | zero => intro w a0 x2 x3 h; exact False.elim h
  | succ n ih =>
    intro w a0 x2 x3 h
    rw [w_X6_heightByWalk_b14] at h
    refine j_iload_n X dX6_heightByWalk_14 2 rfl ?_
    refine j_iconst X (-1) dX6_heightByWalk_15 (by decide) ?_
    refine j_icmp_eq X 43 dX6_heightByWalk_16 (by decide) (fun c => ?_) (fun c => ?_)
    · replace h := jif_t c h
      refine j_sub [1] rfl ?_
      exact k_X6_heightByWalk_b43 X hR Rt h
    · replace h := jif_f c h
      refine j_iload_n X dX6_heightByWalk_19 1 rfl ?_
      refine j_bipush X 16 dX6_heightByWalk_20 (by decide) ?_
      refine j_icmp_ge X 43 dX6_heightByWalk_22 (by decide) (fun c => ?_) (fun c => ?_)
      · replace h := jif_t c h
        refine j_sub [1] rfl ?_
        exact k_X6_heightByWalk_b43 X hR Rt h
      · replace h := jif_f c h
        refine j_iinc X (x2 + 1) [(2, .int (x2 + 1)), (0, .ref a0), (3, .int x3)] dX6_heightByWalk_25 1 rfl rfl (by decide) rfl ?_
        refine j_aload_n X dX6_heightByWalk_28 1 rfl ?_
        obtain ⟨fs1, r1, g1, i1, h⟩ := h
        refine j_get X (ci := 9) (C := RX6) (T := TX6) (N := 2) rfl jin_X6 0 (by decide) g1 i1 jw_178 rfl dX6_heightByWalk_29 ?_
        obtain ⟨fs2, r2, g2, i2, h⟩ := h
        refine j_getN X (ci := 8) (C := RX5) (T := TX5) (N := 12) rfl jin_X5 1 (by decide) g2 i2 jw_109 rfl dX6_heightByWalk_32 ?_
        refine j_iload_n X dX6_heightByWalk_35 2 rfl ?_
        obtain ⟨⟨fs3, g3⟩, h⟩ := h
        refine j_callVi X [.int x3] [] (c_X3_at h) (T := TX3) (N := 1) g3 rfl jm_X3_at jw_620 rfl ⟨rfl, rfl⟩ (by rw [hR]; decide) rfl (Nat.le_of_ble_eq_true rfl) dX6_heightByWalk_36 (fun v3 w3 h => ?_)
        refine j_istore_n X [(3, .int v3), (2, .int (x2 + 1)), (0, .ref a0)] dX6_heightByWalk_39 (by decide) rfl ?_
        refine j_goto X 14 dX6_heightByWalk_40 (by decide) ?_
        refine j_sub [2, 1, 0] rfl ?_
        exact ih h
def w_X6_heightByWalk_b0 (κ : Nat → Nat) (w : va_W) (a0 : Nat) (x1 : Int32) (P : Int32 → va_W → Prop) : Prop :=
    jgR' w a0 9 0 (fun r1 => jgR' w r1 8 1 (fun r2 => (jRc w r2 6 ∧ w_X3_at κ w r2 x1 (fun v3 w3 => w_X6_heightByWalk_b14 jFu κ w3 a0 0 v3 P))))
set_option maxRecDepth 100000 in
set_option maxHeartbeats 4000000 in
theorem k_X6_heightByWalk_b0 {Γ : jG} (X : jX Γ cX6_heightByWalk 4 RX6) (hR : jgR Γ = ({ frames := 1, cells := 0, slots := 0, locals := 21 } : Room)) {P : Int32 → va_W → Prop} (Rt : jRt Γ cX6_heightByWalk 4 0 0 (some .int) (jPi P)) {w : va_W} {a0 : Nat} {x1 : Int32} (h : w_X6_heightByWalk_b0 (jgE Γ).2.2.2 w a0 x1 P) : J Γ 4 w 0 0 0 [(0, .ref a0), (1, .int x1)] [] := by
  unfold w_X6_heightByWalk_b0 at h
  refine j_iconst X 0 dX6_heightByWalk_0 (by decide) ?_
  refine j_istore_n X [(2, .int 0), (0, .ref a0), (1, .int x1)] dX6_heightByWalk_1 (by decide) rfl ?_
  refine j_aload_n X dX6_heightByWalk_2 1 rfl ?_
  obtain ⟨fs1, r1, g1, i1, h⟩ := h
  refine j_get X (ci := 9) (C := RX6) (T := TX6) (N := 2) rfl jin_X6 0 (by decide) g1 i1 jw_178 rfl dX6_heightByWalk_3 ?_
  obtain ⟨fs2, r2, g2, i2, h⟩ := h
  refine j_getN X (ci := 8) (C := RX5) (T := TX5) (N := 12) rfl jin_X5 1 (by decide) g2 i2 jw_109 rfl dX6_heightByWalk_6 ?_
  refine j_iload_n X dX6_heightByWalk_9 2 rfl ?_
  obtain ⟨⟨fs3, g3⟩, h⟩ := h
  refine j_callVi X [.int x1] [] (c_X3_at h) (T := TX3) (N := 1) g3 rfl jm_X3_at jw_620 rfl ⟨rfl, rfl⟩ (by rw [hR]; decide) rfl (Nat.le_of_ble_eq_true rfl) dX6_heightByWalk_10 (fun v3 w3 h => ?_)
  refine j_istore_n X [(3, .int v3), (2, .int 0), (0, .ref a0), (1, .int x1)] dX6_heightByWalk_13 (by decide) rfl ?_
  refine j_sub [2, 1, 0] rfl ?_
  exact k_X6_heightByWalk_b14 X hR Rt _ h
def w_X6_heightByWalk (κ : Nat → Nat) (w : va_W) (a0 : Nat) (x1 : Int32) (P : Int32 → va_W → Prop) : Prop := w_X6_heightByWalk_b0 κ w a0 x1 P
theorem c_X6_heightByWalk {E : jE} {w : va_W} {a0 : Nat} {x1 : Int32} {P : Int32 → va_W → Prop} (h : w_X6_heightByWalk E.2.2.2 w a0 x1 P) : jC E yX6_heightByWalk cX6_heightByWalk 4 (some .int) ({ frames := 1, cells := 0, slots := 0, locals := 21 } : Room) [.ref a0, .int x1] w 0 0 (jPi P) := by
  refine jC_of (by decide) (Nat.le_of_ble_eq_true rfl) ?_
  intro Γ X hE hR Rt
  subst hE
  exact k_X6_heightByWalk_b0 X hR Rt h
theorem jm_X6_depthBelow : jMs yX6_depthBelow cX6_depthBelow 6 (some .int) 4 := ⟨jw_1333, jw_27, jw_1334, ⟨by decide +kernel, by decide +kernel⟩, by decide +kernel⟩
def w_X6_depthBelow_b56 (κ : Nat → Nat) (RC : va_W → Nat → Int32 → Int32 → Int32 → (Int32 → va_W → Prop) → Prop) (w : va_W) (a0 : Nat) (x1 : Int32) (x2 : Int32) (x3 : Int32) (x4 : Int32) (K18 : va_W → Nat → Int32 → Int32 → Int32 → Int32 → Prop) (P : Int32 → va_W → Prop) : Prop :=
    K18 w a0 x1 x2 x3 (x4 + 1)
set_option maxRecDepth 100000 in
set_option maxHeartbeats 4000000 in
theorem k_X6_depthBelow_b56 {N : Nat} {Γ : jG} (X : jX Γ cX6_depthBelow 6 RX6) (hR : jgR Γ = ({ frames := 1 + (N + 1), cells := 0, slots := 0, locals := 21 + (N + 1) * 25 } : Room)) {P : Int32 → va_W → Prop} (Rt : jRt Γ cX6_depthBelow 6 0 0 (some .int) (jPi P)) {RC : va_W → Nat → Int32 → Int32 → Int32 → (Int32 → va_W → Prop) → Prop} (hRC : ∀ (w : va_W) (a0 : Nat) (x1 : Int32) (x2 : Int32) (x3 : Int32) (P : Int32 → va_W → Prop), RC w a0 x1 x2 x3 P → jC (jgE Γ) yX6_depthBelow cX6_depthBelow 6 (some .int) ({ frames := 1 + N, cells := 0, slots := 0, locals := 21 + N * 25 } : Room) [.ref a0, .int x1, .int x2, .int x3] w 0 0 (jPi P)) {K18 : va_W → Nat → Int32 → Int32 → Int32 → Int32 → Prop} (hK18 : ∀ (w : va_W) (a0 : Nat) (x1 : Int32) (x2 : Int32) (x3 : Int32) (x4 : Int32), K18 w a0 x1 x2 x3 x4 → J Γ 6 w 0 0 18 [(0, .ref a0), (1, .int x1), (2, .int x2), (3, .int x3), (4, .int x4)] []) {w : va_W} {a0 : Nat} {x1 : Int32} {x2 : Int32} {x3 : Int32} {x4 : Int32} (h : w_X6_depthBelow_b56 (jgE Γ).2.2.2 RC w a0 x1 x2 x3 x4 K18 P) : J Γ 6 w 0 0 56 [(0, .ref a0), (1, .int x1), (2, .int x2), (3, .int x3), (4, .int x4)] [] := by
  unfold w_X6_depthBelow_b56 at h
  refine j_iinc X (x4 + 1) [(4, .int (x4 + 1)), (0, .ref a0), (1, .int x1), (2, .int x2), (3, .int x3)] dX6_depthBelow_56 4 rfl rfl (by decide) rfl ?_
  refine j_goto X 18 dX6_depthBelow_59 (by decide) ?_
  refine j_sub [1, 2, 3, 4, 0] rfl ?_
  exact hK18 _ _ _ _ _ _ h
def w_X6_depthBelow_b18 : Nat → (κ : Nat → Nat) → (RC : va_W → Nat → Int32 → Int32 → Int32 → (Int32 → va_W → Prop) → Prop) → (w : va_W) → (a0 : Nat) → (x1 : Int32) → (x2 : Int32) → (x3 : Int32) → (x4 : Int32) → (P : Int32 → va_W → Prop) → Prop
  | 0, _, _, _, _, _, _, _, _, _ => False
  | n + 1, κ, RC, w, a0, x1, x2, x3, x4, P =>
    (if 16 ≤ x4 then P (-1) w else (jRc w a0 6 ∧ w_X3_at κ w a0 x4 (fun v1 w1 => (if v1 = x1 then RC w1 a0 x4 x2 (x3 + 1) (fun v2 w2 => (if v2 = (-1) then w_X6_depthBelow_b56 κ RC w2 a0 x1 x2 x3 x4 (fun w_ z_a0 z_x1 z_x2 z_x3 z_x4 => w_X6_depthBelow_b18 n κ RC w_ z_a0 z_x1 z_x2 z_x3 z_x4 P) P else P v2 w2)) else w_X6_depthBelow_b56 κ RC w1 a0 x1 x2 x3 x4 (fun w_ z_a0 z_x1 z_x2 z_x3 z_x4 => w_X6_depthBelow_b18 n κ RC w_ z_a0 z_x1 z_x2 z_x3 z_x4 P) P))))
set_option maxRecDepth 100000 in
set_option maxHeartbeats 4000000 in
theorem k_X6_depthBelow_b18 {N : Nat} {Γ : jG} (X : jX Γ cX6_depthBelow 6 RX6) (hR : jgR Γ = ({ frames := 1 + (N + 1), cells := 0, slots := 0, locals := 21 + (N + 1) * 25 } : Room)) {P : Int32 → va_W → Prop} (Rt : jRt Γ cX6_depthBelow 6 0 0 (some .int) (jPi P)) {RC : va_W → Nat → Int32 → Int32 → Int32 → (Int32 → va_W → Prop) → Prop} (hRC : ∀ (w : va_W) (a0 : Nat) (x1 : Int32) (x2 : Int32) (x3 : Int32) (P : Int32 → va_W → Prop), RC w a0 x1 x2 x3 P → jC (jgE Γ) yX6_depthBelow cX6_depthBelow 6 (some .int) ({ frames := 1 + N, cells := 0, slots := 0, locals := 21 + N * 25 } : Room) [.ref a0, .int x1, .int x2, .int x3] w 0 0 (jPi P)) : ∀ (n : Nat) {w : va_W} {a0 : Nat} {x1 : Int32} {x2 : Int32} {x3 : Int32} {x4 : Int32} (h : w_X6_depthBelow_b18 n (jgE Γ).2.2.2 RC w a0 x1 x2 x3 x4 P), J Γ 6 w 0 0 18 [(0, .ref a0), (1, .int x1), (2, .int x2), (3, .int x3), (4, .int x4)] [] := by
  intro n
  induction n with
  | zero => intro w a0 x1 x2 x3 x4 h; exact False.elim h
  | succ n ih =>
    intro w a0 x1 x2 x3 x4 h
    rw [w_X6_depthBelow_b18] at h
    refine j_iload X dX6_depthBelow_18 4 rfl ?_
    refine j_bipush X 16 dX6_depthBelow_20 (by decide) ?_
    refine j_icmp_ge X 62 dX6_depthBelow_22 (by decide) (fun c => ?_) (fun c => ?_)
    · replace h := jif_t c h
      refine j_iconst X (-1) dX6_depthBelow_62 (by decide) ?_
      exact Rt.i dX6_depthBelow_63 ⟨_, rfl, h⟩ (by first | decide | omega) (by first | decide | omega)
    · replace h := jif_f c h
      refine j_aload_n X dX6_depthBelow_25 0 rfl ?_
      refine j_iload X dX6_depthBelow_26 4 rfl ?_
      obtain ⟨⟨fs1, g1⟩, h⟩ := h
      refine j_callVi X [.int x4] [] (c_X3_at h) (T := TX3) (N := 1) g1 rfl jm_X3_at jw_620 rfl ⟨rfl, rfl⟩ (by rw [hR]; exact ⟨⟨by simp only []; omega, by simp only []; omega⟩, Nat.le_refl _, Nat.le_refl _⟩) rfl (Nat.le_of_ble_eq_true rfl) dX6_depthBelow_28 (fun v1 w1 h => ?_)
      refine j_iload_n X dX6_depthBelow_31 1 rfl ?_
      refine j_icmp_ne X 56 dX6_depthBelow_32 (by decide) (fun c => ?_) (fun c => ?_)
      · replace h := jif_f c h
        exact k_X6_depthBelow_b56 X hR Rt hRC (fun _ _ _ _ _ _ h => ih h) h
      · replace h := jif_t c h
        refine j_aload_n X dX6_depthBelow_35 0 rfl ?_
        refine j_iload X dX6_depthBelow_36 4 rfl ?_
        refine j_iload_n X dX6_depthBelow_38 2 rfl ?_
        refine j_iload_n X dX6_depthBelow_39 3 rfl ?_
        refine j_iconst X 1 dX6_depthBelow_40 (by decide) ?_
        refine j_iadd X dX6_depthBelow_41 ?_
        refine j_callSi X [.ref a0, .int x4, .int x2, .int (x3 + 1)] [] (hRC _ _ _ _ _ _ h) jm_X6_depthBelow jw_1332 rfl ⟨rfl, rfl⟩ (by rw [hR]; exact ⟨⟨by simp only []; omega, by simp only []; omega⟩, Nat.le_refl _, Nat.le_refl _⟩) rfl (Nat.le_of_ble_eq_true rfl) dX6_depthBelow_42 (fun v2 w2 h => ?_)
        refine j_istore X [(5, .int v2), (0, .ref a0), (1, .int x1), (2, .int x2), (3, .int x3), (4, .int x4)] dX6_depthBelow_45 (by decide) rfl ?_
        refine j_iload X dX6_depthBelow_47 0 rfl ?_
        refine j_iconst X (-1) dX6_depthBelow_49 (by decide) ?_
        refine j_icmp_eq X 56 dX6_depthBelow_50 (by decide) (fun c => ?_) (fun c => ?_)
        · replace h := jif_t c h
          refine j_sub [1, 2, 3, 4, 5] rfl ?_
          exact k_X6_depthBelow_b56 X hR Rt hRC (fun _ _ _ _ _ _ h => ih h) h
        · replace h := jif_f c h
          refine j_iload X dX6_depthBelow_53 0 rfl ?_
          exact Rt.i dX6_depthBelow_55 ⟨_, rfl, h⟩ (by first | decide | omega) (by first | decide | omega)
def w_X6_depthBelow_b0 (κ : Nat → Nat) (RC : va_W → Nat → Int32 → Int32 → Int32 → (Int32 → va_W → Prop) → Prop) (w : va_W) (a0 : Nat) (x1 : Int32) (x2 : Int32) (x3 : Int32) (P : Int32 → va_W → Prop) : Prop :=
    (if x1 = x2 then P x3 w else (if x3 < 16 then w_X6_depthBelow_b18 jFu κ RC w a0 x1 x2 x3 0 P else P (-1) w))
set_option maxRecDepth 100000 in
set_option maxHeartbeats 4000000 in
theorem k_X6_depthBelow_b0 {N : Nat} {Γ : jG} (X : jX Γ cX6_depthBelow 6 RX6) (hR : jgR Γ = ({ frames := 1 + (N + 1), cells := 0, slots := 0, locals := 21 + (N + 1) * 25 } : Room)) {P : Int32 → va_W → Prop} (Rt : jRt Γ cX6_depthBelow 6 0 0 (some .int) (jPi P)) {RC : va_W → Nat → Int32 → Int32 → Int32 → (Int32 → va_W → Prop) → Prop} (hRC : ∀ (w : va_W) (a0 : Nat) (x1 : Int32) (x2 : Int32) (x3 : Int32) (P : Int32 → va_W → Prop), RC w a0 x1 x2 x3 P → jC (jgE Γ) yX6_depthBelow cX6_depthBelow 6 (some .int) ({ frames := 1 + N, cells := 0, slots := 0, locals := 21 + N * 25 } : Room) [.ref a0, .int x1, .int x2, .int x3] w 0 0 (jPi P)) {w : va_W} {a0 : Nat} {x1 : Int32} {x2 : Int32} {x3 : Int32} (h : w_X6_depthBelow_b0 (jgE Γ).2.2.2 RC w a0 x1 x2 x3 P) : J Γ 6 w 0 0 0 [(0, .ref a0), (1, .int x1), (2, .int x2), (3, .int x3)] [] := by
  unfold w_X6_depthBelow_b0 at h
  refine j_iload_n X dX6_depthBelow_0 1 rfl ?_
  refine j_iload_n X dX6_depthBelow_1 2 rfl ?_
  refine j_icmp_ne X 7 dX6_depthBelow_2 (by decide) (fun c => ?_) (fun c => ?_)
  · replace h := jif_f c h
    refine j_iload_n X dX6_depthBelow_7 3 rfl ?_
    refine j_bipush X 16 dX6_depthBelow_8 (by decide) ?_
    refine j_icmp_lt X 15 dX6_depthBelow_10 (by decide) (fun c => ?_) (fun c => ?_)
    · replace h := jif_t c h
      refine j_iconst X 0 dX6_depthBelow_15 (by decide) ?_
      refine j_istore X [(4, .int 0), (0, .ref a0), (1, .int x1), (2, .int x2), (3, .int x3)] dX6_depthBelow_16 (by decide) rfl ?_
      refine j_sub [1, 2, 3, 4, 0] rfl ?_
      exact k_X6_depthBelow_b18 X hR Rt hRC _ h
    · replace h := jif_f c h
      refine j_iconst X (-1) dX6_depthBelow_13 (by decide) ?_
      exact Rt.i dX6_depthBelow_14 ⟨_, rfl, h⟩ (by first | decide | omega) (by first | decide | omega)
  · replace h := jif_t c h
    refine j_iload_n X dX6_depthBelow_5 3 rfl ?_
    exact Rt.i dX6_depthBelow_6 ⟨_, rfl, h⟩ (by first | decide | omega) (by first | decide | omega)
def w_X6_depthBelow_r : Nat → (κ : Nat → Nat) → (w : va_W) → (a0 : Nat) → (x1 : Int32) → (x2 : Int32) → (x3 : Int32) → (P : Int32 → va_W → Prop) → Prop
  | 0, _, _, _, _, _, _, _ => False
  | n + 1, κ, w, a0, x1, x2, x3, P => w_X6_depthBelow_b0 κ (fun w_ z_a0 z_x1 z_x2 z_x3 P_ => w_X6_depthBelow_r n κ w_ z_a0 z_x1 z_x2 z_x3 P_) w a0 x1 x2 x3 P
def w_X6_depthBelow (κ : Nat → Nat) (w : va_W) (a0 : Nat) (x1 : Int32) (x2 : Int32) (x3 : Int32) (P : Int32 → va_W → Prop) : Prop := w_X6_depthBelow_r 20 κ w a0 x1 x2 x3 P
theorem c_X6_depthBelow_r : ∀ (n : Nat) {E : jE} {w : va_W} {a0 : Nat} {x1 : Int32} {x2 : Int32} {x3 : Int32} {P : Int32 → va_W → Prop} (h : w_X6_depthBelow_r n E.2.2.2 w a0 x1 x2 x3 P), jC E yX6_depthBelow cX6_depthBelow 6 (some .int) ({ frames := 1 + n, cells := 0, slots := 0, locals := 21 + n * 25 } : Room) [.ref a0, .int x1, .int x2, .int x3] w 0 0 (jPi P) := by
  intro n
  induction n with
  | zero => intro E w a0 x1 x2 x3 P h; exact False.elim h
  | succ n ih =>
    intro E w a0 x1 x2 x3 P h
    refine jC_of (by decide) (Nat.le_of_ble_eq_true rfl) ?_
    intro Γ X hE hR Rt
    subst hE
    rw [w_X6_depthBelow_r] at h
    exact k_X6_depthBelow_b0 X hR Rt (fun w_ _ _ _ _ P_ h => ih h) h
theorem c_X6_depthBelow {E : jE} {w : va_W} {a0 : Nat} {x1 : Int32} {x2 : Int32} {x3 : Int32} {P : Int32 → va_W → Prop} (h : w_X6_depthBelow E.2.2.2 w a0 x1 x2 x3 P) : jC E yX6_depthBelow cX6_depthBelow 6 (some .int) ({ frames := 1 + 20, cells := 0, slots := 0, locals := 21 + 20 * 25 } : Room) [.ref a0, .int x1, .int x2, .int x3] w 0 0 (jPi P) := c_X6_depthBelow_r 20 h
theorem jm_X6_heightBySearch : jMv yX6_heightBySearch cX6_heightBySearch 2 (some .int) 1 := ⟨jw_1329, jw_1330, jw_27, jw_1331, ⟨by decide +kernel, by decide +kernel⟩, by decide +kernel⟩
def w_X6_heightBySearch_b0 (κ : Nat → Nat) (w : va_W) (a0 : Nat) (x1 : Int32) (P : Int32 → va_W → Prop) : Prop :=
    jgR' w a0 9 0 (fun r1 => jgR' w r1 8 1 (fun r2 => w_X6_depthBelow κ w r2 0 x1 0 (fun v3 w3 => P v3 w3)))
set_option maxRecDepth 100000 in
set_option maxHeartbeats 4000000 in
theorem k_X6_heightBySearch_b0 {Γ : jG} (X : jX Γ cX6_heightBySearch 2 RX6) (hR : jgR Γ = ({ frames := 22, cells := 0, slots := 0, locals := 546 } : Room)) {P : Int32 → va_W → Prop} (Rt : jRt Γ cX6_heightBySearch 2 0 0 (some .int) (jPi P)) {w : va_W} {a0 : Nat} {x1 : Int32} (h : w_X6_heightBySearch_b0 (jgE Γ).2.2.2 w a0 x1 P) : J Γ 2 w 0 0 0 [(0, .ref a0), (1, .int x1)] [] := by
  unfold w_X6_heightBySearch_b0 at h
  refine j_aload_n X dX6_heightBySearch_0 0 rfl ?_
  obtain ⟨fs1, r1, g1, i1, h⟩ := h
  refine j_get X (ci := 9) (C := RX6) (T := TX6) (N := 2) rfl jin_X6 0 (by decide) g1 i1 jw_178 rfl dX6_heightBySearch_1 ?_
  obtain ⟨fs2, r2, g2, i2, h⟩ := h
  refine j_getN X (ci := 8) (C := RX5) (T := TX5) (N := 12) rfl jin_X5 1 (by decide) g2 i2 jw_109 rfl dX6_heightBySearch_4 ?_
  refine j_iconst X 0 dX6_heightBySearch_7 (by decide) ?_
  refine j_iload_n X dX6_heightBySearch_8 1 rfl ?_
  refine j_iconst X 0 dX6_heightBySearch_9 (by decide) ?_
  refine j_callSi X [.ref r2, .int 0, .int x1, .int 0] [] (c_X6_depthBelow h) jm_X6_depthBelow jw_1332 rfl ⟨rfl, rfl⟩ (by rw [hR]; decide) rfl (Nat.le_of_ble_eq_true rfl) dX6_heightBySearch_10 (fun v3 w3 h => ?_)
  exact Rt.i dX6_heightBySearch_13 ⟨_, rfl, h⟩ (by first | decide | omega) (by first | decide | omega)
def w_X6_heightBySearch (κ : Nat → Nat) (w : va_W) (a0 : Nat) (x1 : Int32) (P : Int32 → va_W → Prop) : Prop := w_X6_heightBySearch_b0 κ w a0 x1 P
theorem c_X6_heightBySearch {E : jE} {w : va_W} {a0 : Nat} {x1 : Int32} {P : Int32 → va_W → Prop} (h : w_X6_heightBySearch E.2.2.2 w a0 x1 P) : jC E yX6_heightBySearch cX6_heightBySearch 2 (some .int) ({ frames := 22, cells := 0, slots := 0, locals := 546 } : Room) [.ref a0, .int x1] w 0 0 (jPi P) := by
  refine jC_of (by decide) (Nat.le_of_ble_eq_true rfl) ?_
  intro Γ X hE hR Rt
  subst hE
  exact k_X6_heightBySearch_b0 X hR Rt h
theorem jm_X6_countAtHeight : jMv yX6_countAtHeight cX6_countAtHeight 4 (some .int) 1 := ⟨jw_1480, jw_1481, jw_27, jw_1482, ⟨by decide +kernel, by decide +kernel⟩, by decide +kernel⟩
def w_X6_countAtHeight_b33 (κ : Nat → Nat) (w : va_W) (a0 : Nat) (x1 : Int32) (x2 : Int32) (x3 : Int32) (K4 : va_W → Nat → Int32 → Int32 → Int32 → Prop) (P : Int32 → va_W → Prop) : Prop :=
    K4 w a0 x1 x2 (x3 + 1)
set_option maxRecDepth 100000 in
set_option maxHeartbeats 4000000 in
theorem k_X6_countAtHeight_b33 {Γ : jG} (X : jX Γ cX6_countAtHeight 4 RX6) (hR : jgR Γ = ({ frames := 2, cells := 0, slots := 0, locals := 44 } : Room)) {P : Int32 → va_W → Prop} (Rt : jRt Γ cX6_countAtHeight 4 0 0 (some .int) (jPi P)) {K4 : va_W → Nat → Int32 → Int32 → Int32 → Prop} (hK4 : ∀ (w : va_W) (a0 : Nat) (x1 : Int32) (x2 : Int32) (x3 : Int32), K4 w a0 x1 x2 x3 → J Γ 4 w 0 0 4 [(0, .ref a0), (1, .int x1), (2, .int x2), (3, .int x3)] []) {w : va_W} {a0 : Nat} {x1 : Int32} {x2 : Int32} {x3 : Int32} (h : w_X6_countAtHeight_b33 (jgE Γ).2.2.2 w a0 x1 x2 x3 K4 P) : J Γ 4 w 0 0 33 [(0, .ref a0), (1, .int x1), (2, .int x2), (3, .int x3)] [] := by
  unfold w_X6_countAtHeight_b33 at h
  refine j_iinc X (x3 + 1) [(3, .int (x3 + 1)), (0, .ref a0), (1, .int x1), (2, .int x2)] dX6_countAtHeight_33 3 rfl rfl (by decide) rfl ?_
  refine j_goto X 4 dX6_countAtHeight_36 (by decide) ?_
  refine j_sub [1, 2, 3, 0] rfl ?_
  exact hK4 _ _ _ _ _ h
def w_X6_countAtHeight_b4 : Nat → (κ : Nat → Nat) → (w : va_W) → (a0 : Nat) → (x1 : Int32) → (x2 : Int32) → (x3 : Int32) → (P : Int32 → va_W → Prop) → Prop
  | 0, _, _, _, _, _, _, _ => False
  | n + 1, κ, w, a0, x1, x2, x3, P =>
    (if 16 ≤ x3 then P x2 w else jgR' w a0 9 0 (fun r1 => (jRc w r1 8 ∧ w_X5_isUsed κ w r1 x3 (fun v2 w2 => (if v2 = 0 then w_X6_countAtHeight_b33 κ w2 a0 x1 x2 x3 (fun w_ z_a0 z_x1 z_x2 z_x3 => w_X6_countAtHeight_b4 n κ w_ z_a0 z_x1 z_x2 z_x3 P) P else (jRc w2 a0 9 ∧ w_X6_heightByWalk κ w2 a0 x3 (fun v3 w3 => (if v3 = x1 then w_X6_countAtHeight_b33 κ w3 a0 x1 (x2 + 1) x3 (fun w_ z_a0 z_x1 z_x2 z_x3 => w_X6_countAtHeight_b4 n κ w_ z_a0 z_x1 z_x2 z_x3 P) P else w_X6_countAtHeight_b33 κ w3 a0 x1 x2 x3 (fun w_ z_a0 z_x1 z_x2 z_x3 => w_X6_countAtHeight_b4 n κ w_ z_a0 z_x1 z_x2 z_x3 P) P))))))))
set_option maxRecDepth 100000 in
set_option maxHeartbeats 4000000 in
theorem k_X6_countAtHeight_b4 {Γ : jG} (X : jX Γ cX6_countAtHeight 4 RX6) (hR : jgR Γ = ({ frames := 2, cells := 0, slots := 0, locals := 44 } : Room)) {P : Int32 → va_W → Prop} (Rt : jRt Γ cX6_countAtHeight 4 0 0 (some .int) (jPi P)) : ∀ (n : Nat) {w : va_W} {a0 : Nat} {x1 : Int32} {x2 : Int32} {x3 : Int32} (h : w_X6_countAtHeight_b4 n (jgE Γ).2.2.2 w a0 x1 x2 x3 P), J Γ 4 w 0 0 4 [(0, .ref a0), (1, .int x1), (2, .int x2), (3, .int x3)] [] := by
  intro n
  induction n with
  | zero => intro w a0 x1 x2 x3 h; exact False.elim h
  | succ n ih =>
    intro w a0 x1 x2 x3 h
    rw [w_X6_countAtHeight_b4] at h
    refine j_iload_n X dX6_countAtHeight_4 3 rfl ?_
    refine j_bipush X 16 dX6_countAtHeight_5 (by decide) ?_
    refine j_icmp_ge X 39 dX6_countAtHeight_7 (by decide) (fun c => ?_) (fun c => ?_)
    · replace h := jif_t c h
      refine j_iload_n X dX6_countAtHeight_39 2 rfl ?_
      exact Rt.i dX6_countAtHeight_40 ⟨_, rfl, h⟩ (by first | decide | omega) (by first | decide | omega)
    · replace h := jif_f c h
      refine j_aload_n X dX6_countAtHeight_10 0 rfl ?_
      obtain ⟨fs1, r1, g1, i1, h⟩ := h
      refine j_get X (ci := 9) (C := RX6) (T := TX6) (N := 2) rfl jin_X6 0 (by decide) g1 i1 jw_178 rfl dX6_countAtHeight_11 ?_
      refine j_iload_n X dX6_countAtHeight_14 3 rfl ?_
      obtain ⟨⟨fs2, g2⟩, h⟩ := h
      refine j_callVi X [.int x3] [] (c_X5_isUsed h) (T := TX5) (N := 12) g2 rfl jm_X5_isUsed jw_363 rfl ⟨rfl, rfl⟩ (by rw [hR]; decide) rfl (Nat.le_of_ble_eq_true rfl) dX6_countAtHeight_15 (fun v2 w2 h => ?_)
      refine j_if_eq X 33 dX6_countAtHeight_18 (by decide) (fun c => ?_) (fun c => ?_)
      · replace h := jif_t c h
        exact k_X6_countAtHeight_b33 X hR Rt (fun _ _ _ _ _ h => ih h) h
      · replace h := jif_f c h
        refine j_aload_n X dX6_countAtHeight_21 0 rfl ?_
        refine j_iload_n X dX6_countAtHeight_22 3 rfl ?_
        obtain ⟨⟨fs3, g3⟩, h⟩ := h
        refine j_callVi X [.int x3] [] (c_X6_heightByWalk h) (T := TX6) (N := 2) g3 rfl jm_X6_heightByWalk jw_1315 rfl ⟨rfl, rfl⟩ (by rw [hR]; decide) rfl (Nat.le_of_ble_eq_true rfl) dX6_countAtHeight_23 (fun v3 w3 h => ?_)
        refine j_iload_n X dX6_countAtHeight_26 1 rfl ?_
        refine j_icmp_ne X 33 dX6_countAtHeight_27 (by decide) (fun c => ?_) (fun c => ?_)
        · replace h := jif_f c h
          exact k_X6_countAtHeight_b33 X hR Rt (fun _ _ _ _ _ h => ih h) h
        · replace h := jif_t c h
          refine j_iinc X (x2 + 1) [(2, .int (x2 + 1)), (0, .ref a0), (1, .int x1), (3, .int x3)] dX6_countAtHeight_30 2 rfl rfl (by decide) rfl ?_
          refine j_sub [1, 2, 0, 3] rfl ?_
          exact k_X6_countAtHeight_b33 X hR Rt (fun _ _ _ _ _ h => ih h) h
def w_X6_countAtHeight_b0 (κ : Nat → Nat) (w : va_W) (a0 : Nat) (x1 : Int32) (P : Int32 → va_W → Prop) : Prop :=
    w_X6_countAtHeight_b4 jFu κ w a0 x1 0 0 P
set_option maxRecDepth 100000 in
set_option maxHeartbeats 4000000 in
theorem k_X6_countAtHeight_b0 {Γ : jG} (X : jX Γ cX6_countAtHeight 4 RX6) (hR : jgR Γ = ({ frames := 2, cells := 0, slots := 0, locals := 44 } : Room)) {P : Int32 → va_W → Prop} (Rt : jRt Γ cX6_countAtHeight 4 0 0 (some .int) (jPi P)) {w : va_W} {a0 : Nat} {x1 : Int32} (h : w_X6_countAtHeight_b0 (jgE Γ).2.2.2 w a0 x1 P) : J Γ 4 w 0 0 0 [(0, .ref a0), (1, .int x1)] [] := by
  unfold w_X6_countAtHeight_b0 at h
  refine j_iconst X 0 dX6_countAtHeight_0 (by decide) ?_
  refine j_istore_n X [(2, .int 0), (0, .ref a0), (1, .int x1)] dX6_countAtHeight_1 (by decide) rfl ?_
  refine j_iconst X 0 dX6_countAtHeight_2 (by decide) ?_
  refine j_istore_n X [(3, .int 0), (2, .int 0), (0, .ref a0), (1, .int x1)] dX6_countAtHeight_3 (by decide) rfl ?_
  refine j_sub [2, 3, 1, 0] rfl ?_
  exact k_X6_countAtHeight_b4 X hR Rt _ h
def w_X6_countAtHeight (κ : Nat → Nat) (w : va_W) (a0 : Nat) (x1 : Int32) (P : Int32 → va_W → Prop) : Prop := w_X6_countAtHeight_b0 κ w a0 x1 P
theorem c_X6_countAtHeight {E : jE} {w : va_W} {a0 : Nat} {x1 : Int32} {P : Int32 → va_W → Prop} (h : w_X6_countAtHeight E.2.2.2 w a0 x1 P) : jC E yX6_countAtHeight cX6_countAtHeight 4 (some .int) ({ frames := 2, cells := 0, slots := 0, locals := 44 } : Room) [.ref a0, .int x1] w 0 0 (jPi P) := by
  refine jC_of (by decide) (Nat.le_of_ble_eq_true rfl) ?_
  intro Γ X hE hR Rt
  subst hE
  exact k_X6_countAtHeight_b0 X hR Rt h
theorem jm_X8_hashWith : jMs yX8_hashWith cX8_hashWith 4 (some .int) 4 := ⟨jw_629, jw_22, jw_630, ⟨by decide +kernel, by decide +kernel⟩, by decide +kernel⟩
def w_X8_hashWith_b0 (κ : Nat → Nat) (w : va_W) (x0 : Int32) (x1 : Int32) (x2 : Int32) (x3 : Int32) (P : Int32 → va_W → Prop) : Prop :=
    P (jrem ((((61 * x0) + (29 * x1)) + (13 * x2)) + x3) 9973) w
set_option maxRecDepth 100000 in
set_option maxHeartbeats 4000000 in
theorem k_X8_hashWith_b0 {Γ : jG} (X : jX Γ cX8_hashWith 4 RX8) (hR : jgR Γ = ({ frames := 0, cells := 0, slots := 0, locals := 0 } : Room)) {P : Int32 → va_W → Prop} (Rt : jRt Γ cX8_hashWith 4 0 0 (some .int) (jPi P)) {w : va_W} {x0 : Int32} {x1 : Int32} {x2 : Int32} {x3 : Int32} (h : w_X8_hashWith_b0 (jgE Γ).2.2.2 w x0 x1 x2 x3 P) : J Γ 4 w 0 0 0 [(0, .int x0), (1, .int x1), (2, .int x2), (3, .int x3)] [] := by
  unfold w_X8_hashWith_b0 at h
  refine j_bipush X 61 dX8_hashWith_0 (by decide) ?_
  refine j_iload_n X dX8_hashWith_2 0 rfl ?_
  refine j_imul X dX8_hashWith_3 ?_
  refine j_bipush X 29 dX8_hashWith_4 (by decide) ?_
  refine j_iload_n X dX8_hashWith_6 1 rfl ?_
  refine j_imul X dX8_hashWith_7 ?_
  refine j_iadd X dX8_hashWith_8 ?_
  refine j_bipush X 13 dX8_hashWith_9 (by decide) ?_
  refine j_iload_n X dX8_hashWith_11 2 rfl ?_
  refine j_imul X dX8_hashWith_12 ?_
  refine j_iadd X dX8_hashWith_13 ?_
  refine j_iload_n X dX8_hashWith_14 3 rfl ?_
  refine j_iadd X dX8_hashWith_15 ?_
  refine j_sipush X 9973 dX8_hashWith_16 (by decide) ?_
  refine j_irem X dX8_hashWith_19 (by decide) ?_
  exact Rt.i dX8_hashWith_20 ⟨_, rfl, h⟩ (by first | decide | omega) (by first | decide | omega)
def w_X8_hashWith (κ : Nat → Nat) (w : va_W) (x0 : Int32) (x1 : Int32) (x2 : Int32) (x3 : Int32) (P : Int32 → va_W → Prop) : Prop := w_X8_hashWith_b0 κ w x0 x1 x2 x3 P
theorem c_X8_hashWith {E : jE} {w : va_W} {x0 : Int32} {x1 : Int32} {x2 : Int32} {x3 : Int32} {P : Int32 → va_W → Prop} (h : w_X8_hashWith E.2.2.2 w x0 x1 x2 x3 P) : jC E yX8_hashWith cX8_hashWith 4 (some .int) ({ frames := 0, cells := 0, slots := 0, locals := 0 } : Room) [.int x0, .int x1, .int x2, .int x3] w 0 0 (jPi P) := by
  refine jC_of (by decide) (Nat.le_of_ble_eq_true rfl) ?_
  intro Γ X hE hR Rt
  subst hE
  exact k_X8_hashWith_b0 X hR Rt h
theorem jm_X6_holds : jMv yX6_holds cX6_holds 4 (some .boolean) 1 := ⟨jw_617, jw_618, jw_27, jw_619, ⟨by decide +kernel, by decide +kernel⟩, by decide +kernel⟩
def w_X6_holds_b86 (κ : Nat → Nat) (w : va_W) (s0 : Int32) (P : Int32 → va_W → Prop) : Prop :=
    (narrow .boolean (.int s0) = .int s0 ∧ P s0 w)
set_option maxRecDepth 100000 in
set_option maxHeartbeats 4000000 in
theorem k_X6_holds_b86 {Γ : jG} (X : jX Γ cX6_holds 4 RX6) (hR : jgR Γ = ({ frames := 2, cells := 0, slots := 0, locals := 49 } : Room)) {P : Int32 → va_W → Prop} (Rt : jRt Γ cX6_holds 4 0 0 (some .boolean) (jPi P)) {w : va_W} {s0 : Int32} (h : w_X6_holds_b86 (jgE Γ).2.2.2 w s0 P) : J Γ 4 w 0 0 86 [] [.int s0] := by
  unfold w_X6_holds_b86 at h
  exact Rt.z dX6_holds_86 h.1 ⟨_, rfl, h.2⟩ (by first | decide | omega) (by first | decide | omega)
def w_X6_holds_b0 (κ : Nat → Nat) (w : va_W) (a0 : Nat) (x1 : Int32) (P : Int32 → va_W → Prop) : Prop :=
    (if x1 = 0 then P 1 w else jgR' w a0 9 0 (fun r1 => jgR' w r1 8 3 (fun r2 => jgR' w a0 9 0 (fun r3 => jgR' w r3 8 1 (fun r4 => (jRc w r4 6 ∧ w_X3_at κ w r4 x1 (fun v5 w5 => (jRc w5 r2 6 ∧ w_X3_at κ w5 r2 v5 (fun v6 w6 => jgR' w6 a0 9 0 (fun r7 => jgR' w6 r7 8 5 (fun r8 => (jRc w6 r8 4 ∧ w_X0_rootByLists κ w6 r8 x1 (fun v9 w9 => jgR' w9 a0 9 0 (fun r10 => jgR' w9 r10 8 3 (fun r11 => (jRc w9 r11 6 ∧ w_X3_at κ w9 r11 x1 (fun v12 w12 => jgR' w12 a0 9 0 (fun r13 => jgR' w12 r13 8 2 (fun r14 => (jRc w12 r14 6 ∧ w_X3_at κ w12 r14 x1 (fun v15 w15 => jgR' w15 a0 9 0 (fun r16 => jgR' w15 r16 8 4 (fun r17 => (jRc w15 r17 6 ∧ w_X3_at κ w15 r17 x1 (fun v18 w18 => w_X8_hashWith κ w18 v6 v9 v15 v18 (fun v19 w19 => (if v12 = v19 then w_X6_holds_b86 κ w19 1 P else w_X6_holds_b86 κ w19 0 P)))))))))))))))))))))))))))
set_option maxRecDepth 100000 in
set_option maxHeartbeats 4000000 in
theorem k_X6_holds_b0 {Γ : jG} (X : jX Γ cX6_holds 4 RX6) (hR : jgR Γ = ({ frames := 2, cells := 0, slots := 0, locals := 49 } : Room)) {P : Int32 → va_W → Prop} (Rt : jRt Γ cX6_holds 4 0 0 (some .boolean) (jPi P)) {w : va_W} {a0 : Nat} {x1 : Int32} (h : w_X6_holds_b0 (jgE Γ).2.2.2 w a0 x1 P) : J Γ 4 w 0 0 0 [(0, .ref a0), (1, .int x1)] [] := by
  unfold w_X6_holds_b0 at h
  refine j_iload_n X dX6_holds_0 1 rfl ?_
  refine j_if_ne X 6 dX6_holds_1 (by decide) (fun c => ?_) (fun c => ?_)
  · replace h := jif_f c h
    refine j_aload_n X dX6_holds_6 0 rfl ?_
    obtain ⟨fs1, r1, g1, i1, h⟩ := h
    refine j_get X (ci := 9) (C := RX6) (T := TX6) (N := 2) rfl jin_X6 0 (by decide) g1 i1 jw_178 rfl dX6_holds_7 ?_
    obtain ⟨fs2, r2, g2, i2, h⟩ := h
    refine j_getN X (ci := 8) (C := RX5) (T := TX5) (N := 12) rfl jin_X5 3 (by decide) g2 i2 jw_117 rfl dX6_holds_10 ?_
    refine j_aload_n X dX6_holds_13 0 rfl ?_
    obtain ⟨fs3, r3, g3, i3, h⟩ := h
    refine j_get X (ci := 9) (C := RX6) (T := TX6) (N := 2) rfl jin_X6 0 (by decide) g3 i3 jw_178 rfl dX6_holds_14 ?_
    obtain ⟨fs4, r4, g4, i4, h⟩ := h
    refine j_getN X (ci := 8) (C := RX5) (T := TX5) (N := 12) rfl jin_X5 1 (by decide) g4 i4 jw_109 rfl dX6_holds_17 ?_
    refine j_iload_n X dX6_holds_20 1 rfl ?_
    obtain ⟨⟨fs5, g5⟩, h⟩ := h
    refine j_callVi X [.int x1] [.ref r2] (c_X3_at h) (T := TX3) (N := 1) g5 rfl jm_X3_at jw_620 rfl ⟨rfl, rfl⟩ (by rw [hR]; decide) rfl (Nat.le_of_ble_eq_true rfl) dX6_holds_21 (fun v5 w5 h => ?_)
    obtain ⟨⟨fs6, g6⟩, h⟩ := h
    refine j_callVi X [.int v5] [] (c_X3_at h) (T := TX3) (N := 1) g6 rfl jm_X3_at jw_620 rfl ⟨rfl, rfl⟩ (by rw [hR]; decide) rfl (Nat.le_of_ble_eq_true rfl) dX6_holds_24 (fun v6 w6 h => ?_)
    refine j_istore_n X [(2, .int v6), (0, .ref a0), (1, .int x1)] dX6_holds_27 (by decide) rfl ?_
    refine j_aload_n X dX6_holds_28 1 rfl ?_
    obtain ⟨fs7, r7, g7, i7, h⟩ := h
    refine j_get X (ci := 9) (C := RX6) (T := TX6) (N := 2) rfl jin_X6 0 (by decide) g7 i7 jw_178 rfl dX6_holds_29 ?_
    obtain ⟨fs8, r8, g8, i8, h⟩ := h
    refine j_getN X (ci := 8) (C := RX5) (T := TX5) (N := 12) rfl jin_X5 5 (by decide) g8 i8 jw_125 rfl dX6_holds_32 ?_
    refine j_iload_n X dX6_holds_35 2 rfl ?_
    obtain ⟨⟨fs9, g9⟩, h⟩ := h
    refine j_callVi X [.int x1] [] (c_X0_rootByLists h) (T := TX0) (N := 3) g9 rfl jm_X0_rootByLists jw_621 rfl ⟨rfl, rfl⟩ (by rw [hR]; decide) rfl (Nat.le_of_ble_eq_true rfl) dX6_holds_36 (fun v9 w9 h => ?_)
    refine j_istore_n X [(3, .int v9), (2, .int v6), (0, .ref a0), (1, .int x1)] dX6_holds_39 (by decide) rfl ?_
    refine j_aload_n X dX6_holds_40 2 rfl ?_
    obtain ⟨fs10, r10, g10, i10, h⟩ := h
    refine j_get X (ci := 9) (C := RX6) (T := TX6) (N := 2) rfl jin_X6 0 (by decide) g10 i10 jw_178 rfl dX6_holds_41 ?_
    obtain ⟨fs11, r11, g11, i11, h⟩ := h
    refine j_getN X (ci := 8) (C := RX5) (T := TX5) (N := 12) rfl jin_X5 3 (by decide) g11 i11 jw_117 rfl dX6_holds_44 ?_
    refine j_iload_n X dX6_holds_47 3 rfl ?_
    obtain ⟨⟨fs12, g12⟩, h⟩ := h
    refine j_callVi X [.int x1] [] (c_X3_at h) (T := TX3) (N := 1) g12 rfl jm_X3_at jw_620 rfl ⟨rfl, rfl⟩ (by rw [hR]; decide) rfl (Nat.le_of_ble_eq_true rfl) dX6_holds_48 (fun v12 w12 h => ?_)
    refine j_iload_n X dX6_holds_51 1 rfl ?_
    refine j_iload_n X dX6_holds_52 0 rfl ?_
    refine j_aload_n X dX6_holds_53 2 rfl ?_
    obtain ⟨fs13, r13, g13, i13, h⟩ := h
    refine j_get X (ci := 9) (C := RX6) (T := TX6) (N := 2) rfl jin_X6 0 (by decide) g13 i13 jw_178 rfl dX6_holds_54 ?_
    obtain ⟨fs14, r14, g14, i14, h⟩ := h
    refine j_getN X (ci := 8) (C := RX5) (T := TX5) (N := 12) rfl jin_X5 2 (by decide) g14 i14 jw_113 rfl dX6_holds_57 ?_
    refine j_iload_n X dX6_holds_60 3 rfl ?_
    obtain ⟨⟨fs15, g15⟩, h⟩ := h
    refine j_callVi X [.int x1] [.int v9, .int v6, .int v12] (c_X3_at h) (T := TX3) (N := 1) g15 rfl jm_X3_at jw_620 rfl ⟨rfl, rfl⟩ (by rw [hR]; decide) rfl (Nat.le_of_ble_eq_true rfl) dX6_holds_61 (fun v15 w15 h => ?_)
    refine j_aload_n X dX6_holds_64 2 rfl ?_
    obtain ⟨fs16, r16, g16, i16, h⟩ := h
    refine j_get X (ci := 9) (C := RX6) (T := TX6) (N := 2) rfl jin_X6 0 (by decide) g16 i16 jw_178 rfl dX6_holds_65 ?_
    obtain ⟨fs17, r17, g17, i17, h⟩ := h
    refine j_getN X (ci := 8) (C := RX5) (T := TX5) (N := 12) rfl jin_X5 4 (by decide) g17 i17 jw_121 rfl dX6_holds_68 ?_
    refine j_iload_n X dX6_holds_71 3 rfl ?_
    obtain ⟨⟨fs18, g18⟩, h⟩ := h
    refine j_callVi X [.int x1] [.int v15, .int v9, .int v6, .int v12] (c_X3_at h) (T := TX3) (N := 1) g18 rfl jm_X3_at jw_620 rfl ⟨rfl, rfl⟩ (by rw [hR]; decide) rfl (Nat.le_of_ble_eq_true rfl) dX6_holds_72 (fun v18 w18 h => ?_)
    refine j_callSNi X [.int v6, .int v9, .int v15, .int v18] [.int v12] (c_X8_hashWith h) jm_X8_hashWith jw_628 rfl ⟨rfl, rfl⟩ (by rw [hR]; decide) rfl (Nat.le_of_ble_eq_true rfl) dX6_holds_75 (fun v19 w19 h => ?_)
    refine j_icmp_ne X 85 dX6_holds_78 (by decide) (fun c => ?_) (fun c => ?_)
    · replace h := jif_f c h
      refine j_iconst X 0 dX6_holds_85 (by decide) ?_
      refine j_sub [] rfl ?_
      exact k_X6_holds_b86 X hR Rt h
    · replace h := jif_t c h
      refine j_iconst X 1 dX6_holds_81 (by decide) ?_
      refine j_goto X 86 dX6_holds_82 (by decide) ?_
      refine j_sub [] rfl ?_
      exact k_X6_holds_b86 X hR Rt h
  · replace h := jif_t c h
    refine j_iconst X 1 dX6_holds_4 (by decide) ?_
    exact Rt.z dX6_holds_5 (by decide) ⟨_, rfl, h⟩ (by first | decide | omega) (by first | decide | omega)
def w_X6_holds (κ : Nat → Nat) (w : va_W) (a0 : Nat) (x1 : Int32) (P : Int32 → va_W → Prop) : Prop := w_X6_holds_b0 κ w a0 x1 P
theorem c_X6_holds {E : jE} {w : va_W} {a0 : Nat} {x1 : Int32} {P : Int32 → va_W → Prop} (h : w_X6_holds E.2.2.2 w a0 x1 P) : jC E yX6_holds cX6_holds 4 (some .boolean) ({ frames := 2, cells := 0, slots := 0, locals := 49 } : Room) [.ref a0, .int x1] w 0 0 (jPi P) := by
  refine jC_of (by decide) (Nat.le_of_ble_eq_true rfl) ?_
  intro Γ X hE hR Rt
  subst hE
  exact k_X6_holds_b0 X hR Rt h
theorem jm_X6_countHolding : jMv yX6_countHolding cX6_countHolding 3 (some .int) 0 := ⟨jw_1517, jw_1518, jw_27, jw_1519, ⟨by decide +kernel, by decide +kernel⟩, by decide +kernel⟩
def w_X6_countHolding_b32 (κ : Nat → Nat) (w : va_W) (a0 : Nat) (x1 : Int32) (x2 : Int32) (K4 : va_W → Nat → Int32 → Int32 → Prop) (P : Int32 → va_W → Prop) : Prop :=
    K4 w a0 x1 (x2 + 1)
set_option maxRecDepth 100000 in
set_option maxHeartbeats 4000000 in
theorem k_X6_countHolding_b32 {Γ : jG} (X : jX Γ cX6_countHolding 3 RX6) (hR : jgR Γ = ({ frames := 3, cells := 0, slots := 0, locals := 72 } : Room)) {P : Int32 → va_W → Prop} (Rt : jRt Γ cX6_countHolding 3 0 0 (some .int) (jPi P)) {K4 : va_W → Nat → Int32 → Int32 → Prop} (hK4 : ∀ (w : va_W) (a0 : Nat) (x1 : Int32) (x2 : Int32), K4 w a0 x1 x2 → J Γ 3 w 0 0 4 [(0, .ref a0), (1, .int x1), (2, .int x2)] []) {w : va_W} {a0 : Nat} {x1 : Int32} {x2 : Int32} (h : w_X6_countHolding_b32 (jgE Γ).2.2.2 w a0 x1 x2 K4 P) : J Γ 3 w 0 0 32 [(0, .ref a0), (1, .int x1), (2, .int x2)] [] := by
  unfold w_X6_countHolding_b32 at h
  refine j_iinc X (x2 + 1) [(2, .int (x2 + 1)), (0, .ref a0), (1, .int x1)] dX6_countHolding_32 2 rfl rfl (by decide) rfl ?_
  refine j_goto X 4 dX6_countHolding_35 (by decide) ?_
  refine j_sub [1, 2, 0] rfl ?_
  exact hK4 _ _ _ _ h
def w_X6_countHolding_b4 : Nat → (κ : Nat → Nat) → (w : va_W) → (a0 : Nat) → (x1 : Int32) → (x2 : Int32) → (P : Int32 → va_W → Prop) → Prop
  | 0, _, _, _, _, _, _ => False
  | n + 1, κ, w, a0, x1, x2, P =>
    (if 16 ≤ x2 then P x1 w else jgR' w a0 9 0 (fun r1 => (jRc w r1 8 ∧ w_X5_isUsed κ w r1 x2 (fun v2 w2 => (if v2 = 0 then w_X6_countHolding_b32 κ w2 a0 x1 x2 (fun w_ z_a0 z_x1 z_x2 => w_X6_countHolding_b4 n κ w_ z_a0 z_x1 z_x2 P) P else (jRc w2 a0 9 ∧ w_X6_holds κ w2 a0 x2 (fun v3 w3 => (if v3 = 0 then w_X6_countHolding_b32 κ w3 a0 x1 x2 (fun w_ z_a0 z_x1 z_x2 => w_X6_countHolding_b4 n κ w_ z_a0 z_x1 z_x2 P) P else w_X6_countHolding_b32 κ w3 a0 (x1 + 1) x2 (fun w_ z_a0 z_x1 z_x2 => w_X6_countHolding_b4 n κ w_ z_a0 z_x1 z_x2 P) P))))))))
set_option maxRecDepth 100000 in
set_option maxHeartbeats 4000000 in
theorem k_X6_countHolding_b4 {Γ : jG} (X : jX Γ cX6_countHolding 3 RX6) (hR : jgR Γ = ({ frames := 3, cells := 0, slots := 0, locals := 72 } : Room)) {P : Int32 → va_W → Prop} (Rt : jRt Γ cX6_countHolding 3 0 0 (some .int) (jPi P)) : ∀ (n : Nat) {w : va_W} {a0 : Nat} {x1 : Int32} {x2 : Int32} (h : w_X6_countHolding_b4 n (jgE Γ).2.2.2 w a0 x1 x2 P), J Γ 3 w 0 0 4 [(0, .ref a0), (1, .int x1), (2, .int x2)] [] := by
  intro n
  induction n with
  | zero => intro w a0 x1 x2 h; exact False.elim h
  | succ n ih =>
    intro w a0 x1 x2 h
    rw [w_X6_countHolding_b4] at h
    refine j_iload_n X dX6_countHolding_4 2 rfl ?_
    refine j_bipush X 16 dX6_countHolding_5 (by decide) ?_
    refine j_icmp_ge X 38 dX6_countHolding_7 (by decide) (fun c => ?_) (fun c => ?_)
    · replace h := jif_t c h
      refine j_iload_n X dX6_countHolding_38 1 rfl ?_
      exact Rt.i dX6_countHolding_39 ⟨_, rfl, h⟩ (by first | decide | omega) (by first | decide | omega)
    · replace h := jif_f c h
      refine j_aload_n X dX6_countHolding_10 0 rfl ?_
      obtain ⟨fs1, r1, g1, i1, h⟩ := h
      refine j_get X (ci := 9) (C := RX6) (T := TX6) (N := 2) rfl jin_X6 0 (by decide) g1 i1 jw_178 rfl dX6_countHolding_11 ?_
      refine j_iload_n X dX6_countHolding_14 2 rfl ?_
      obtain ⟨⟨fs2, g2⟩, h⟩ := h
      refine j_callVi X [.int x2] [] (c_X5_isUsed h) (T := TX5) (N := 12) g2 rfl jm_X5_isUsed jw_363 rfl ⟨rfl, rfl⟩ (by rw [hR]; decide) rfl (Nat.le_of_ble_eq_true rfl) dX6_countHolding_15 (fun v2 w2 h => ?_)
      refine j_if_eq X 32 dX6_countHolding_18 (by decide) (fun c => ?_) (fun c => ?_)
      · replace h := jif_t c h
        exact k_X6_countHolding_b32 X hR Rt (fun _ _ _ _ h => ih h) h
      · replace h := jif_f c h
        refine j_aload_n X dX6_countHolding_21 0 rfl ?_
        refine j_iload_n X dX6_countHolding_22 2 rfl ?_
        obtain ⟨⟨fs3, g3⟩, h⟩ := h
        refine j_callVi X [.int x2] [] (c_X6_holds h) (T := TX6) (N := 2) g3 rfl jm_X6_holds jw_616 rfl ⟨rfl, rfl⟩ (by rw [hR]; decide) rfl (Nat.le_of_ble_eq_true rfl) dX6_countHolding_23 (fun v3 w3 h => ?_)
        refine j_if_eq X 32 dX6_countHolding_26 (by decide) (fun c => ?_) (fun c => ?_)
        · replace h := jif_t c h
          exact k_X6_countHolding_b32 X hR Rt (fun _ _ _ _ h => ih h) h
        · replace h := jif_f c h
          refine j_iinc X (x1 + 1) [(1, .int (x1 + 1)), (0, .ref a0), (2, .int x2)] dX6_countHolding_29 1 rfl rfl (by decide) rfl ?_
          refine j_sub [1, 0, 2] rfl ?_
          exact k_X6_countHolding_b32 X hR Rt (fun _ _ _ _ h => ih h) h
def w_X6_countHolding_b0 (κ : Nat → Nat) (w : va_W) (a0 : Nat) (P : Int32 → va_W → Prop) : Prop :=
    w_X6_countHolding_b4 jFu κ w a0 0 0 P
set_option maxRecDepth 100000 in
set_option maxHeartbeats 4000000 in
theorem k_X6_countHolding_b0 {Γ : jG} (X : jX Γ cX6_countHolding 3 RX6) (hR : jgR Γ = ({ frames := 3, cells := 0, slots := 0, locals := 72 } : Room)) {P : Int32 → va_W → Prop} (Rt : jRt Γ cX6_countHolding 3 0 0 (some .int) (jPi P)) {w : va_W} {a0 : Nat} (h : w_X6_countHolding_b0 (jgE Γ).2.2.2 w a0 P) : J Γ 3 w 0 0 0 [(0, .ref a0)] [] := by
  unfold w_X6_countHolding_b0 at h
  refine j_iconst X 0 dX6_countHolding_0 (by decide) ?_
  refine j_istore_n X [(1, .int 0), (0, .ref a0)] dX6_countHolding_1 (by decide) rfl ?_
  refine j_iconst X 0 dX6_countHolding_2 (by decide) ?_
  refine j_istore_n X [(2, .int 0), (1, .int 0), (0, .ref a0)] dX6_countHolding_3 (by decide) rfl ?_
  refine j_sub [2, 1, 0] rfl ?_
  exact k_X6_countHolding_b4 X hR Rt _ h
def w_X6_countHolding (κ : Nat → Nat) (w : va_W) (a0 : Nat) (P : Int32 → va_W → Prop) : Prop := w_X6_countHolding_b0 κ w a0 P
theorem c_X6_countHolding {E : jE} {w : va_W} {a0 : Nat} {P : Int32 → va_W → Prop} (h : w_X6_countHolding E.2.2.2 w a0 P) : jC E yX6_countHolding cX6_countHolding 3 (some .int) ({ frames := 3, cells := 0, slots := 0, locals := 72 } : Room) [.ref a0] w 0 0 (jPi P) := by
  refine jC_of (by decide) (Nat.le_of_ble_eq_true rfl) ?_
  intro Γ X hE hR Rt
  subst hE
  exact k_X6_countHolding_b0 X hR Rt h
theorem jm_X6_lowestBroken : jMv yX6_lowestBroken cX6_lowestBroken 5 (some .int) 1 := ⟨jw_613, jw_614, jw_27, jw_615, ⟨by decide +kernel, by decide +kernel⟩, by decide +kernel⟩
def w_X6_lowestBroken_b47 (κ : Nat → Nat) (w : va_W) (x2 : Int32) (P : Int32 → va_W → Prop) : Prop :=
    P x2 w
set_option maxRecDepth 100000 in
set_option maxHeartbeats 4000000 in
theorem k_X6_lowestBroken_b47 {Γ : jG} (X : jX Γ cX6_lowestBroken 5 RX6) (hR : jgR Γ = ({ frames := 3, cells := 0, slots := 0, locals := 72 } : Room)) {P : Int32 → va_W → Prop} (Rt : jRt Γ cX6_lowestBroken 5 0 0 (some .int) (jPi P)) {w : va_W} {x2 : Int32} (h : w_X6_lowestBroken_b47 (jgE Γ).2.2.2 w x2 P) : J Γ 5 w 0 0 47 [(2, .int x2)] [] := by
  unfold w_X6_lowestBroken_b47 at h
  refine j_iload_n X dX6_lowestBroken_47 0 rfl ?_
  exact Rt.i dX6_lowestBroken_48 ⟨_, rfl, h⟩ (by first | decide | omega) (by first | decide | omega)
def w_X6_lowestBroken_b29 (κ : Nat → Nat) (w : va_W) (a0 : Nat) (x2 : Int32) (x3 : Int32) (x4 : Int32) (K7 : va_W → Nat → Int32 → Int32 → Int32 → Prop) (P : Int32 → va_W → Prop) : Prop :=
    jgR' w a0 9 0 (fun r1 => jgR' w r1 8 1 (fun r2 => (jRc w r2 6 ∧ w_X3_at κ w r2 x3 (fun v3 w3 => K7 w3 a0 x2 v3 (x4 + 1)))))
set_option maxRecDepth 100000 in
set_option maxHeartbeats 4000000 in
theorem k_X6_lowestBroken_b29 {Γ : jG} (X : jX Γ cX6_lowestBroken 5 RX6) (hR : jgR Γ = ({ frames := 3, cells := 0, slots := 0, locals := 72 } : Room)) {P : Int32 → va_W → Prop} (Rt : jRt Γ cX6_lowestBroken 5 0 0 (some .int) (jPi P)) {K7 : va_W → Nat → Int32 → Int32 → Int32 → Prop} (hK7 : ∀ (w : va_W) (a0 : Nat) (x2 : Int32) (x3 : Int32) (x4 : Int32), K7 w a0 x2 x3 x4 → J Γ 5 w 0 0 7 [(0, .ref a0), (2, .int x2), (3, .int x3), (4, .int x4)] []) {w : va_W} {a0 : Nat} {x2 : Int32} {x3 : Int32} {x4 : Int32} (h : w_X6_lowestBroken_b29 (jgE Γ).2.2.2 w a0 x2 x3 x4 K7 P) : J Γ 5 w 0 0 29 [(0, .ref a0), (2, .int x2), (3, .int x3), (4, .int x4)] [] := by
  unfold w_X6_lowestBroken_b29 at h
  refine j_aload_n X dX6_lowestBroken_29 0 rfl ?_
  obtain ⟨fs1, r1, g1, i1, h⟩ := h
  refine j_get X (ci := 9) (C := RX6) (T := TX6) (N := 2) rfl jin_X6 0 (by decide) g1 i1 jw_178 rfl dX6_lowestBroken_30 ?_
  obtain ⟨fs2, r2, g2, i2, h⟩ := h
  refine j_getN X (ci := 8) (C := RX5) (T := TX5) (N := 12) rfl jin_X5 1 (by decide) g2 i2 jw_109 rfl dX6_lowestBroken_33 ?_
  refine j_iload_n X dX6_lowestBroken_36 2 rfl ?_
  obtain ⟨⟨fs3, g3⟩, h⟩ := h
  refine j_callVi X [.int x3] [] (c_X3_at h) (T := TX3) (N := 1) g3 rfl jm_X3_at jw_620 rfl ⟨rfl, rfl⟩ (by rw [hR]; decide) rfl (Nat.le_of_ble_eq_true rfl) dX6_lowestBroken_37 (fun v3 w3 h => ?_)
  refine j_istore_n X [(3, .int v3), (0, .ref a0), (2, .int x2), (4, .int x4)] dX6_lowestBroken_40 (by decide) rfl ?_
  refine j_iinc X (x4 + 1) [(4, .int (x4 + 1)), (3, .int v3), (0, .ref a0), (2, .int x2)] dX6_lowestBroken_41 3 rfl rfl (by decide) rfl ?_
  refine j_goto X 7 dX6_lowestBroken_44 (by decide) ?_
  refine j_sub [2, 3, 1, 0] rfl ?_
  exact hK7 _ _ _ _ _ h
def w_X6_lowestBroken_b7 : Nat → (κ : Nat → Nat) → (w : va_W) → (a0 : Nat) → (x2 : Int32) → (x3 : Int32) → (x4 : Int32) → (P : Int32 → va_W → Prop) → Prop
  | 0, _, _, _, _, _, _, _ => False
  | n + 1, κ, w, a0, x2, x3, x4, P =>
    (if x3 = (-1) then w_X6_lowestBroken_b47 κ w x2 P else (if 16 ≤ x4 then w_X6_lowestBroken_b47 κ w x2 P else (jRc w a0 9 ∧ w_X6_holds κ w a0 x3 (fun v1 w1 => (if v1 = 0 then w_X6_lowestBroken_b29 κ w1 a0 x3 x3 x4 (fun w_ z_a0 z_x2 z_x3 z_x4 => w_X6_lowestBroken_b7 n κ w_ z_a0 z_x2 z_x3 z_x4 P) P else w_X6_lowestBroken_b29 κ w1 a0 x2 x3 x4 (fun w_ z_a0 z_x2 z_x3 z_x4 => w_X6_lowestBroken_b7 n κ w_ z_a0 z_x2 z_x3 z_x4 P) P)))))
set_option maxRecDepth 100000 in
set_option maxHeartbeats 4000000 in
theorem k_X6_lowestBroken_b7 {Γ : jG} (X : jX Γ cX6_lowestBroken 5 RX6) (hR : jgR Γ = ({ frames := 3, cells := 0, slots := 0, locals := 72 } : Room)) {P : Int32 → va_W → Prop} (Rt : jRt Γ cX6_lowestBroken 5 0 0 (some .int) (jPi P)) : ∀ (n : Nat) {w : va_W} {a0 : Nat} {x2 : Int32} {x3 : Int32} {x4 : Int32} (h : w_X6_lowestBroken_b7 n (jgE Γ).2.2.2 w a0 x2 x3 x4 P), J Γ 5 w 0 0 7 [(0, .ref a0), (2, .int x2), (3, .int x3), (4, .int x4)] [] := by
  intro n
  induction n with
  | zero => intro w a0 x2 x3 x4 h; exact False.elim h
  | succ n ih =>
    intro w a0 x2 x3 x4 h
    rw [w_X6_lowestBroken_b7] at h
    refine j_iload_n X dX6_lowestBroken_7 2 rfl ?_
    refine j_iconst X (-1) dX6_lowestBroken_8 (by decide) ?_
    refine j_icmp_eq X 47 dX6_lowestBroken_9 (by decide) (fun c => ?_) (fun c => ?_)
    · replace h := jif_t c h
      refine j_sub [1] rfl ?_
      exact k_X6_lowestBroken_b47 X hR Rt h
    · replace h := jif_f c h
      refine j_iload X dX6_lowestBroken_12 3 rfl ?_
      refine j_bipush X 16 dX6_lowestBroken_14 (by decide) ?_
      refine j_icmp_ge X 47 dX6_lowestBroken_16 (by decide) (fun c => ?_) (fun c => ?_)
      · replace h := jif_t c h
        refine j_sub [1] rfl ?_
        exact k_X6_lowestBroken_b47 X hR Rt h
      · replace h := jif_f c h
        refine j_aload_n X dX6_lowestBroken_19 0 rfl ?_
        refine j_iload_n X dX6_lowestBroken_20 2 rfl ?_
        obtain ⟨⟨fs1, g1⟩, h⟩ := h
        refine j_callVi X [.int x3] [] (c_X6_holds h) (T := TX6) (N := 2) g1 rfl jm_X6_holds jw_616 rfl ⟨rfl, rfl⟩ (by rw [hR]; decide) rfl (Nat.le_of_ble_eq_true rfl) dX6_lowestBroken_21 (fun v1 w1 h => ?_)
        refine j_if_ne X 29 dX6_lowestBroken_24 (by decide) (fun c => ?_) (fun c => ?_)
        · replace h := jif_f c h
          exact k_X6_lowestBroken_b29 X hR Rt (fun _ _ _ _ _ h => ih h) h
        · replace h := jif_t c h
          refine j_iload_n X dX6_lowestBroken_27 2 rfl ?_
          refine j_istore_n X [(2, .int x3), (0, .ref a0), (3, .int x3), (4, .int x4)] dX6_lowestBroken_28 (by decide) rfl ?_
          refine j_sub [1, 0, 2, 3] rfl ?_
          exact k_X6_lowestBroken_b29 X hR Rt (fun _ _ _ _ _ h => ih h) h
def w_X6_lowestBroken_b0 (κ : Nat → Nat) (w : va_W) (a0 : Nat) (x1 : Int32) (P : Int32 → va_W → Prop) : Prop :=
    w_X6_lowestBroken_b7 jFu κ w a0 (-1) x1 0 P
set_option maxRecDepth 100000 in
set_option maxHeartbeats 4000000 in
theorem k_X6_lowestBroken_b0 {Γ : jG} (X : jX Γ cX6_lowestBroken 5 RX6) (hR : jgR Γ = ({ frames := 3, cells := 0, slots := 0, locals := 72 } : Room)) {P : Int32 → va_W → Prop} (Rt : jRt Γ cX6_lowestBroken 5 0 0 (some .int) (jPi P)) {w : va_W} {a0 : Nat} {x1 : Int32} (h : w_X6_lowestBroken_b0 (jgE Γ).2.2.2 w a0 x1 P) : J Γ 5 w 0 0 0 [(0, .ref a0), (1, .int x1)] [] := by
  unfold w_X6_lowestBroken_b0 at h
  refine j_iconst X (-1) dX6_lowestBroken_0 (by decide) ?_
  refine j_istore_n X [(2, .int (-1)), (0, .ref a0), (1, .int x1)] dX6_lowestBroken_1 (by decide) rfl ?_
  refine j_iload_n X dX6_lowestBroken_2 2 rfl ?_
  refine j_istore_n X [(3, .int x1), (2, .int (-1)), (0, .ref a0), (1, .int x1)] dX6_lowestBroken_3 (by decide) rfl ?_
  refine j_iconst X 0 dX6_lowestBroken_4 (by decide) ?_
  refine j_istore X [(4, .int 0), (3, .int x1), (2, .int (-1)), (0, .ref a0), (1, .int x1)] dX6_lowestBroken_5 (by decide) rfl ?_
  refine j_sub [3, 2, 1, 0] rfl ?_
  exact k_X6_lowestBroken_b7 X hR Rt _ h
def w_X6_lowestBroken (κ : Nat → Nat) (w : va_W) (a0 : Nat) (x1 : Int32) (P : Int32 → va_W → Prop) : Prop := w_X6_lowestBroken_b0 κ w a0 x1 P
theorem c_X6_lowestBroken {E : jE} {w : va_W} {a0 : Nat} {x1 : Int32} {P : Int32 → va_W → Prop} (h : w_X6_lowestBroken E.2.2.2 w a0 x1 P) : jC E yX6_lowestBroken cX6_lowestBroken 5 (some .int) ({ frames := 3, cells := 0, slots := 0, locals := 72 } : Room) [.ref a0, .int x1] w 0 0 (jPi P) := by
  refine jC_of (by decide) (Nat.le_of_ble_eq_true rfl) ?_
  intro Γ X hE hR Rt
  subst hE
  exact k_X6_lowestBroken_b0 X hR Rt h
theorem jm_X6_ancestor : jMv yX6_ancestor cX6_ancestor 5 (some .int) 2 := ⟨jw_1428, jw_18, jw_27, jw_1429, ⟨by decide +kernel, by decide +kernel⟩, by decide +kernel⟩
def w_X6_ancestor_b5 : Nat → (κ : Nat → Nat) → (w : va_W) → (a0 : Nat) → (x2 : Int32) → (x3 : Int32) → (x4 : Int32) → (P : Int32 → va_W → Prop) → Prop
  | 0, _, _, _, _, _, _, _ => False
  | n + 1, κ, w, a0, x2, x3, x4, P =>
    (if x2 ≤ x4 then P x3 w else jgR' w a0 9 0 (fun r1 => jgR' w r1 8 1 (fun r2 => (jRc w r2 6 ∧ w_X3_at κ w r2 x3 (fun v3 w3 => w_X6_ancestor_b5 n κ w3 a0 x2 v3 (x4 + 1) P)))))
set_option maxRecDepth 100000 in
set_option maxHeartbeats 4000000 in
theorem k_X6_ancestor_b5 {Γ : jG} (X : jX Γ cX6_ancestor 5 RX6) (hR : jgR Γ = ({ frames := 1, cells := 0, slots := 0, locals := 21 } : Room)) {P : Int32 → va_W → Prop} (Rt : jRt Γ cX6_ancestor 5 0 0 (some .int) (jPi P)) : ∀ (n : Nat) {w : va_W} {a0 : Nat} {x2 : Int32} {x3 : Int32} {x4 : Int32} (h : w_X6_ancestor_b5 n (jgE Γ).2.2.2 w a0 x2 x3 x4 P), J Γ 5 w 0 0 5 [(0, .ref a0), (2, .int x2), (3, .int x3), (4, .int x4)] [] := by
  intro n
  induction n with
  | zero => intro w a0 x2 x3 x4 h; exact False.elim h
  | succ n ih =>
    intro w a0 x2 x3 x4 h
    rw [w_X6_ancestor_b5] at h
    refine j_iload X dX6_ancestor_5 3 rfl ?_
    refine j_iload_n X dX6_ancestor_7 1 rfl ?_
    refine j_icmp_ge X 29 dX6_ancestor_8 (by decide) (fun c => ?_) (fun c => ?_)
    · replace h := jif_t c h
      refine j_iload_n X dX6_ancestor_29 2 rfl ?_
      exact Rt.i dX6_ancestor_30 ⟨_, rfl, h⟩ (by first | decide | omega) (by first | decide | omega)
    · replace h := jif_f c h
      refine j_aload_n X dX6_ancestor_11 0 rfl ?_
      obtain ⟨fs1, r1, g1, i1, h⟩ := h
      refine j_get X (ci := 9) (C := RX6) (T := TX6) (N := 2) rfl jin_X6 0 (by decide) g1 i1 jw_178 rfl dX6_ancestor_12 ?_
      obtain ⟨fs2, r2, g2, i2, h⟩ := h
      refine j_getN X (ci := 8) (C := RX5) (T := TX5) (N := 12) rfl jin_X5 1 (by decide) g2 i2 jw_109 rfl dX6_ancestor_15 ?_
      refine j_iload_n X dX6_ancestor_18 2 rfl ?_
      obtain ⟨⟨fs3, g3⟩, h⟩ := h
      refine j_callVi X [.int x3] [] (c_X3_at h) (T := TX3) (N := 1) g3 rfl jm_X3_at jw_620 rfl ⟨rfl, rfl⟩ (by rw [hR]; decide) rfl (Nat.le_of_ble_eq_true rfl) dX6_ancestor_19 (fun v3 w3 h => ?_)
      refine j_istore_n X [(3, .int v3), (0, .ref a0), (2, .int x2), (4, .int x4)] dX6_ancestor_22 (by decide) rfl ?_
      refine j_iinc X (x4 + 1) [(4, .int (x4 + 1)), (3, .int v3), (0, .ref a0), (2, .int x2)] dX6_ancestor_23 3 rfl rfl (by decide) rfl ?_
      refine j_goto X 5 dX6_ancestor_26 (by decide) ?_
      refine j_sub [2, 3, 1, 0] rfl ?_
      exact ih h
def w_X6_ancestor_b0 (κ : Nat → Nat) (w : va_W) (a0 : Nat) (x1 : Int32) (x2 : Int32) (P : Int32 → va_W → Prop) : Prop :=
    w_X6_ancestor_b5 jFu κ w a0 x2 x1 0 P
set_option maxRecDepth 100000 in
set_option maxHeartbeats 4000000 in
theorem k_X6_ancestor_b0 {Γ : jG} (X : jX Γ cX6_ancestor 5 RX6) (hR : jgR Γ = ({ frames := 1, cells := 0, slots := 0, locals := 21 } : Room)) {P : Int32 → va_W → Prop} (Rt : jRt Γ cX6_ancestor 5 0 0 (some .int) (jPi P)) {w : va_W} {a0 : Nat} {x1 : Int32} {x2 : Int32} (h : w_X6_ancestor_b0 (jgE Γ).2.2.2 w a0 x1 x2 P) : J Γ 5 w 0 0 0 [(0, .ref a0), (1, .int x1), (2, .int x2)] [] := by
  unfold w_X6_ancestor_b0 at h
  refine j_iload_n X dX6_ancestor_0 1 rfl ?_
  refine j_istore_n X [(3, .int x1), (0, .ref a0), (1, .int x1), (2, .int x2)] dX6_ancestor_1 (by decide) rfl ?_
  refine j_iconst X 0 dX6_ancestor_2 (by decide) ?_
  refine j_istore X [(4, .int 0), (3, .int x1), (0, .ref a0), (1, .int x1), (2, .int x2)] dX6_ancestor_3 (by decide) rfl ?_
  refine j_sub [2, 4, 1, 0] rfl ?_
  exact k_X6_ancestor_b5 X hR Rt _ h
def w_X6_ancestor (κ : Nat → Nat) (w : va_W) (a0 : Nat) (x1 : Int32) (x2 : Int32) (P : Int32 → va_W → Prop) : Prop := w_X6_ancestor_b0 κ w a0 x1 x2 P
theorem c_X6_ancestor {E : jE} {w : va_W} {a0 : Nat} {x1 : Int32} {x2 : Int32} {P : Int32 → va_W → Prop} (h : w_X6_ancestor E.2.2.2 w a0 x1 x2 P) : jC E yX6_ancestor cX6_ancestor 5 (some .int) ({ frames := 1, cells := 0, slots := 0, locals := 21 } : Room) [.ref a0, .int x1, .int x2] w 0 0 (jPi P) := by
  refine jC_of (by decide) (Nat.le_of_ble_eq_true rfl) ?_
  intro Γ X hE hR Rt
  subst hE
  exact k_X6_ancestor_b0 X hR Rt h
theorem jm_X8_leastNonce : jMs yX8_leastNonce cX8_leastNonce 4 (some .int) 3 := ⟨jw_646, jw_22, jw_647, ⟨by decide +kernel, by decide +kernel⟩, by decide +kernel⟩
def w_X8_leastNonce_b2 : Nat → (κ : Nat → Nat) → (w : va_W) → (x0 : Int32) → (x1 : Int32) → (x2 : Int32) → (x3 : Int32) → (P : Int32 → va_W → Prop) → Prop
  | 0, _, _, _, _, _, _, _ => False
  | n + 1, κ, w, x0, x1, x2, x3, P =>
    (if 9973 ≤ x3 then P 0 w else w_X8_hashWith κ w x0 x1 x2 x3 (fun v1 w1 => (if (jrem v1 4) = 0 then P x3 w1 else w_X8_leastNonce_b2 n κ w1 x0 x1 x2 (x3 + 1) P)))
set_option maxRecDepth 100000 in
set_option maxHeartbeats 4000000 in
theorem k_X8_leastNonce_b2 {Γ : jG} (X : jX Γ cX8_leastNonce 4 RX8) (hR : jgR Γ = ({ frames := 1, cells := 0, slots := 0, locals := 23 } : Room)) {P : Int32 → va_W → Prop} (Rt : jRt Γ cX8_leastNonce 4 0 0 (some .int) (jPi P)) : ∀ (n : Nat) {w : va_W} {x0 : Int32} {x1 : Int32} {x2 : Int32} {x3 : Int32} (h : w_X8_leastNonce_b2 n (jgE Γ).2.2.2 w x0 x1 x2 x3 P), J Γ 4 w 0 0 2 [(0, .int x0), (1, .int x1), (2, .int x2), (3, .int x3)] [] := by
  intro n
  induction n with
  | zero => intro w x0 x1 x2 x3 h; exact False.elim h
  | succ n ih =>
    intro w x0 x1 x2 x3 h
    rw [w_X8_leastNonce_b2] at h
    refine j_iload_n X dX8_leastNonce_2 3 rfl ?_
    refine j_sipush X 9973 dX8_leastNonce_3 (by decide) ?_
    refine j_icmp_ge X 29 dX8_leastNonce_6 (by decide) (fun c => ?_) (fun c => ?_)
    · replace h := jif_t c h
      refine j_iconst X 0 dX8_leastNonce_29 (by decide) ?_
      exact Rt.i dX8_leastNonce_30 ⟨_, rfl, h⟩ (by first | decide | omega) (by first | decide | omega)
    · replace h := jif_f c h
      refine j_iload_n X dX8_leastNonce_9 0 rfl ?_
      refine j_iload_n X dX8_leastNonce_10 1 rfl ?_
      refine j_iload_n X dX8_leastNonce_11 2 rfl ?_
      refine j_iload_n X dX8_leastNonce_12 3 rfl ?_
      refine j_callSi X [.int x0, .int x1, .int x2, .int x3] [] (c_X8_hashWith h) jm_X8_hashWith jw_648 rfl ⟨rfl, rfl⟩ (by rw [hR]; decide) rfl (Nat.le_of_ble_eq_true rfl) dX8_leastNonce_13 (fun v1 w1 h => ?_)
      refine j_iconst X 4 dX8_leastNonce_16 (by decide) ?_
      refine j_irem X dX8_leastNonce_17 (by decide) ?_
      refine j_if_ne X 23 dX8_leastNonce_18 (by decide) (fun c => ?_) (fun c => ?_)
      · replace h := jif_f c h
        refine j_iinc X (x3 + 1) [(3, .int (x3 + 1)), (0, .int x0), (1, .int x1), (2, .int x2)] dX8_leastNonce_23 3 rfl rfl (by decide) rfl ?_
        refine j_goto X 2 dX8_leastNonce_26 (by decide) ?_
        refine j_sub [1, 2, 3, 0] rfl ?_
        exact ih h
      · replace h := jif_t c h
        refine j_iload_n X dX8_leastNonce_21 3 rfl ?_
        exact Rt.i dX8_leastNonce_22 ⟨_, rfl, h⟩ (by first | decide | omega) (by first | decide | omega)
def w_X8_leastNonce_b0 (κ : Nat → Nat) (w : va_W) (x0 : Int32) (x1 : Int32) (x2 : Int32) (P : Int32 → va_W → Prop) : Prop :=
    w_X8_leastNonce_b2 jFu κ w x0 x1 x2 0 P
set_option maxRecDepth 100000 in
set_option maxHeartbeats 4000000 in
theorem k_X8_leastNonce_b0 {Γ : jG} (X : jX Γ cX8_leastNonce 4 RX8) (hR : jgR Γ = ({ frames := 1, cells := 0, slots := 0, locals := 23 } : Room)) {P : Int32 → va_W → Prop} (Rt : jRt Γ cX8_leastNonce 4 0 0 (some .int) (jPi P)) {w : va_W} {x0 : Int32} {x1 : Int32} {x2 : Int32} (h : w_X8_leastNonce_b0 (jgE Γ).2.2.2 w x0 x1 x2 P) : J Γ 4 w 0 0 0 [(0, .int x0), (1, .int x1), (2, .int x2)] [] := by
  unfold w_X8_leastNonce_b0 at h
  refine j_iconst X 0 dX8_leastNonce_0 (by decide) ?_
  refine j_istore_n X [(3, .int 0), (0, .int x0), (1, .int x1), (2, .int x2)] dX8_leastNonce_1 (by decide) rfl ?_
  refine j_sub [1, 2, 3, 0] rfl ?_
  exact k_X8_leastNonce_b2 X hR Rt _ h
def w_X8_leastNonce (κ : Nat → Nat) (w : va_W) (x0 : Int32) (x1 : Int32) (x2 : Int32) (P : Int32 → va_W → Prop) : Prop := w_X8_leastNonce_b0 κ w x0 x1 x2 P
theorem c_X8_leastNonce {E : jE} {w : va_W} {x0 : Int32} {x1 : Int32} {x2 : Int32} {P : Int32 → va_W → Prop} (h : w_X8_leastNonce E.2.2.2 w x0 x1 x2 P) : jC E yX8_leastNonce cX8_leastNonce 4 (some .int) ({ frames := 1, cells := 0, slots := 0, locals := 23 } : Room) [.int x0, .int x1, .int x2] w 0 0 (jPi P) := by
  refine jC_of (by decide) (Nat.le_of_ble_eq_true rfl) ?_
  intro Γ X hE hR Rt
  subst hE
  exact k_X8_leastNonce_b0 X hR Rt h
theorem jm_X8_sealedHash : jMs yX8_sealedHash cX8_sealedHash 3 (some .int) 3 := ⟨jw_1247, jw_22, jw_1248, ⟨by decide +kernel, by decide +kernel⟩, by decide +kernel⟩
def w_X8_sealedHash_b0 (κ : Nat → Nat) (w : va_W) (x0 : Int32) (x1 : Int32) (x2 : Int32) (P : Int32 → va_W → Prop) : Prop :=
    w_X8_leastNonce κ w x0 x1 x2 (fun v1 w1 => w_X8_hashWith κ w1 x0 x1 x2 v1 (fun v2 w2 => P v2 w2))
set_option maxRecDepth 100000 in
set_option maxHeartbeats 4000000 in
theorem k_X8_sealedHash_b0 {Γ : jG} (X : jX Γ cX8_sealedHash 3 RX8) (hR : jgR Γ = ({ frames := 2, cells := 0, slots := 0, locals := 46 } : Room)) {P : Int32 → va_W → Prop} (Rt : jRt Γ cX8_sealedHash 3 0 0 (some .int) (jPi P)) {w : va_W} {x0 : Int32} {x1 : Int32} {x2 : Int32} (h : w_X8_sealedHash_b0 (jgE Γ).2.2.2 w x0 x1 x2 P) : J Γ 3 w 0 0 0 [(0, .int x0), (1, .int x1), (2, .int x2)] [] := by
  unfold w_X8_sealedHash_b0 at h
  refine j_iload_n X dX8_sealedHash_0 0 rfl ?_
  refine j_iload_n X dX8_sealedHash_1 1 rfl ?_
  refine j_iload_n X dX8_sealedHash_2 2 rfl ?_
  refine j_iload_n X dX8_sealedHash_3 0 rfl ?_
  refine j_iload_n X dX8_sealedHash_4 1 rfl ?_
  refine j_iload_n X dX8_sealedHash_5 2 rfl ?_
  refine j_callSi X [.int x0, .int x1, .int x2] [.int x2, .int x1, .int x0] (c_X8_leastNonce h) jm_X8_leastNonce jw_1249 rfl ⟨rfl, rfl⟩ (by rw [hR]; decide) rfl (Nat.le_of_ble_eq_true rfl) dX8_sealedHash_6 (fun v1 w1 h => ?_)
  refine j_callSi X [.int x0, .int x1, .int x2, .int v1] [] (c_X8_hashWith h) jm_X8_hashWith jw_648 rfl ⟨rfl, rfl⟩ (by rw [hR]; decide) rfl (Nat.le_of_ble_eq_true rfl) dX8_sealedHash_9 (fun v2 w2 h => ?_)
  exact Rt.i dX8_sealedHash_12 ⟨_, rfl, h⟩ (by first | decide | omega) (by first | decide | omega)
def w_X8_sealedHash (κ : Nat → Nat) (w : va_W) (x0 : Int32) (x1 : Int32) (x2 : Int32) (P : Int32 → va_W → Prop) : Prop := w_X8_sealedHash_b0 κ w x0 x1 x2 P
theorem c_X8_sealedHash {E : jE} {w : va_W} {x0 : Int32} {x1 : Int32} {x2 : Int32} {P : Int32 → va_W → Prop} (h : w_X8_sealedHash E.2.2.2 w x0 x1 x2 P) : jC E yX8_sealedHash cX8_sealedHash 3 (some .int) ({ frames := 2, cells := 0, slots := 0, locals := 46 } : Room) [.int x0, .int x1, .int x2] w 0 0 (jPi P) := by
  refine jC_of (by decide) (Nat.le_of_ble_eq_true rfl) ?_
  intro Γ X hE hR Rt
  subst hE
  exact k_X8_sealedHash_b0 X hR Rt h
theorem jm_X6_countRepairs : jMv yX6_countRepairs cX6_countRepairs 10 (some .int) 1 := ⟨jw_1423, jw_1424, jw_27, jw_1425, ⟨by decide +kernel, by decide +kernel⟩, by decide +kernel⟩
def w_X6_countRepairs_b121 (κ : Nat → Nat) (w : va_W) (a0 : Nat) (x1 : Int32) (x2 : Int32) (x4 : Int32) (x5 : Int32) (x9 : Int32) (K24 : va_W → Nat → Int32 → Int32 → Int32 → Int32 → Int32 → Prop) (P : Int32 → va_W → Prop) : Prop :=
    K24 w a0 x1 x2 x9 x4 (x5 + 1)
set_option maxRecDepth 100000 in
set_option maxHeartbeats 4000000 in
theorem k_X6_countRepairs_b121 {Γ : jG} (X : jX Γ cX6_countRepairs 10 RX6) (hR : jgR Γ = ({ frames := 3, cells := 0, slots := 0, locals := 68 } : Room)) {P : Int32 → va_W → Prop} (Rt : jRt Γ cX6_countRepairs 10 0 0 (some .int) (jPi P)) {K24 : va_W → Nat → Int32 → Int32 → Int32 → Int32 → Int32 → Prop} (hK24 : ∀ (w : va_W) (a0 : Nat) (x1 : Int32) (x2 : Int32) (x3 : Int32) (x4 : Int32) (x5 : Int32), K24 w a0 x1 x2 x3 x4 x5 → J Γ 10 w 0 0 24 [(0, .ref a0), (1, .int x1), (2, .int x2), (3, .int x3), (4, .int x4), (5, .int x5)] []) {w : va_W} {a0 : Nat} {x1 : Int32} {x2 : Int32} {x4 : Int32} {x5 : Int32} {x9 : Int32} (h : w_X6_countRepairs_b121 (jgE Γ).2.2.2 w a0 x1 x2 x4 x5 x9 K24 P) : J Γ 10 w 0 0 121 [(0, .ref a0), (1, .int x1), (2, .int x2), (4, .int x4), (5, .int x5), (9, .int x9)] [] := by
  unfold w_X6_countRepairs_b121 at h
  refine j_iload X dX6_countRepairs_121 5 rfl ?_
  refine j_istore_n X [(3, .int x9), (0, .ref a0), (1, .int x1), (2, .int x2), (4, .int x4), (5, .int x5), (9, .int x9)] dX6_countRepairs_123 (by decide) rfl ?_
  refine j_iinc X (x5 + 1) [(5, .int (x5 + 1)), (3, .int x9), (0, .ref a0), (1, .int x1), (2, .int x2), (4, .int x4), (9, .int x9)] dX6_countRepairs_124 5 rfl rfl (by decide) rfl ?_
  refine j_goto X 24 dX6_countRepairs_127 (by decide) ?_
  refine j_sub [2, 3, 4, 1, 5, 0] rfl ?_
  exact hK24 _ _ _ _ _ _ _ h
def w_X6_countRepairs_b24 : Nat → (κ : Nat → Nat) → (w : va_W) → (a0 : Nat) → (x1 : Int32) → (x2 : Int32) → (x3 : Int32) → (x4 : Int32) → (x5 : Int32) → (P : Int32 → va_W → Prop) → Prop
  | 0, _, _, _, _, _, _, _, _, _ => False
  | n + 1, κ, w, a0, x1, x2, x3, x4, x5, P =>
    (if x2 < x5 then P x4 w else (jRc w a0 9 ∧ w_X6_ancestor κ w a0 x1 (x2 - x5) (fun v1 w1 => jgR' w1 a0 9 0 (fun r2 => jgR' w1 r2 8 5 (fun r3 => (jRc w1 r3 4 ∧ w_X0_rootByLists κ w1 r3 v1 (fun v4 w4 => jgR' w4 a0 9 0 (fun r5 => jgR' w4 r5 8 2 (fun r6 => (jRc w4 r6 6 ∧ w_X3_at κ w4 r6 v1 (fun v7 w7 => jgR' w7 a0 9 0 (fun r8 => jgR' w7 r8 8 3 (fun r9 => (jRc w7 r9 6 ∧ w_X3_at κ w7 r9 v1 (fun v10 w10 => jgR' w10 a0 9 0 (fun r11 => jgR' w10 r11 8 4 (fun r12 => (jRc w10 r12 6 ∧ w_X3_at κ w10 r12 v1 (fun v13 w13 => w_X8_hashWith κ w13 x3 v4 v7 v13 (fun v14 w14 => (if v10 = v14 then w_X6_countRepairs_b121 κ w14 a0 x1 x2 x4 x5 v10 (fun w_ z_a0 z_x1 z_x2 z_x3 z_x4 z_x5 => w_X6_countRepairs_b24 n κ w_ z_a0 z_x1 z_x2 z_x3 z_x4 z_x5 P) P else w_X8_sealedHash κ w14 x3 v4 v7 (fun v15 w15 => w_X6_countRepairs_b121 κ w15 a0 x1 x2 (x4 + 1) x5 v15 (fun w_ z_a0 z_x1 z_x2 z_x3 z_x4 z_x5 => w_X6_countRepairs_b24 n κ w_ z_a0 z_x1 z_x2 z_x3 z_x4 z_x5 P) P))))))))))))))))))))))
set_option maxRecDepth 100000 in
set_option maxHeartbeats 4000000 in
theorem k_X6_countRepairs_b24 {Γ : jG} (X : jX Γ cX6_countRepairs 10 RX6) (hR : jgR Γ = ({ frames := 3, cells := 0, slots := 0, locals := 68 } : Room)) {P : Int32 → va_W → Prop} (Rt : jRt Γ cX6_countRepairs 10 0 0 (some .int) (jPi P)) : ∀ (n : Nat) {w : va_W} {a0 : Nat} {x1 : Int32} {x2 : Int32} {x3 : Int32} {x4 : Int32} {x5 : Int32} (h : w_X6_countRepairs_b24 n (jgE Γ).2.2.2 w a0 x1 x2 x3 x4 x5 P), J Γ 10 w 0 0 24 [(0, .ref a0), (1, .int x1), (2, .int x2), (3, .int x3), (4, .int x4), (5, .int x5)] [] := by
  intro n
  induction n with
  | zero => intro w a0 x1 x2 x3 x4 x5 h; exact False.elim h
  | succ n ih =>
    intro w a0 x1 x2 x3 x4 x5 h
    rw [w_X6_countRepairs_b24] at h
    refine j_iload X dX6_countRepairs_24 5 rfl ?_
    refine j_iload_n X dX6_countRepairs_26 2 rfl ?_
    refine j_icmp_gt X 130 dX6_countRepairs_27 (by decide) (fun c => ?_) (fun c => ?_)
    · replace h := jif_t c h
      refine j_iload X dX6_countRepairs_130 4 rfl ?_
      exact Rt.i dX6_countRepairs_132 ⟨_, rfl, h⟩ (by first | decide | omega) (by first | decide | omega)
    · replace h := jif_f c h
      refine j_aload_n X dX6_countRepairs_30 0 rfl ?_
      refine j_iload_n X dX6_countRepairs_31 1 rfl ?_
      refine j_iload_n X dX6_countRepairs_32 2 rfl ?_
      refine j_iload X dX6_countRepairs_33 5 rfl ?_
      refine j_isub X dX6_countRepairs_35 ?_
      obtain ⟨⟨fs1, g1⟩, h⟩ := h
      refine j_callVi X [.int x1, .int (x2 - x5)] [] (c_X6_ancestor h) (T := TX6) (N := 2) g1 rfl jm_X6_ancestor jw_1426 rfl ⟨rfl, rfl⟩ (by rw [hR]; decide) rfl (Nat.le_of_ble_eq_true rfl) dX6_countRepairs_36 (fun v1 w1 h => ?_)
      refine j_istore X [(6, .int v1), (0, .ref a0), (1, .int x1), (2, .int x2), (3, .int x3), (4, .int x4), (5, .int x5)] dX6_countRepairs_39 (by decide) rfl ?_
      refine j_aload_n X dX6_countRepairs_41 1 rfl ?_
      obtain ⟨fs2, r2, g2, i2, h⟩ := h
      refine j_get X (ci := 9) (C := RX6) (T := TX6) (N := 2) rfl jin_X6 0 (by decide) g2 i2 jw_178 rfl dX6_countRepairs_42 ?_
      obtain ⟨fs3, r3, g3, i3, h⟩ := h
      refine j_getN X (ci := 8) (C := RX5) (T := TX5) (N := 12) rfl jin_X5 5 (by decide) g3 i3 jw_125 rfl dX6_countRepairs_45 ?_
      refine j_iload X dX6_countRepairs_48 0 rfl ?_
      obtain ⟨⟨fs4, g4⟩, h⟩ := h
      refine j_callVi X [.int v1] [] (c_X0_rootByLists h) (T := TX0) (N := 3) g4 rfl jm_X0_rootByLists jw_621 rfl ⟨rfl, rfl⟩ (by rw [hR]; decide) rfl (Nat.le_of_ble_eq_true rfl) dX6_countRepairs_50 (fun v4 w4 h => ?_)
      refine j_istore X [(7, .int v4), (6, .int v1), (0, .ref a0), (1, .int x1), (2, .int x2), (3, .int x3), (4, .int x4), (5, .int x5)] dX6_countRepairs_53 (by decide) rfl ?_
      refine j_aload_n X dX6_countRepairs_55 2 rfl ?_
      obtain ⟨fs5, r5, g5, i5, h⟩ := h
      refine j_get X (ci := 9) (C := RX6) (T := TX6) (N := 2) rfl jin_X6 0 (by decide) g5 i5 jw_178 rfl dX6_countRepairs_56 ?_
      obtain ⟨fs6, r6, g6, i6, h⟩ := h
      refine j_getN X (ci := 8) (C := RX5) (T := TX5) (N := 12) rfl jin_X5 2 (by decide) g6 i6 jw_113 rfl dX6_countRepairs_59 ?_
      refine j_iload X dX6_countRepairs_62 1 rfl ?_
      obtain ⟨⟨fs7, g7⟩, h⟩ := h
      refine j_callVi X [.int v1] [] (c_X3_at h) (T := TX3) (N := 1) g7 rfl jm_X3_at jw_620 rfl ⟨rfl, rfl⟩ (by rw [hR]; decide) rfl (Nat.le_of_ble_eq_true rfl) dX6_countRepairs_64 (fun v7 w7 h => ?_)
      refine j_istore X [(8, .int v7), (7, .int v4), (6, .int v1), (0, .ref a0), (1, .int x1), (2, .int x2), (3, .int x3), (4, .int x4), (5, .int x5)] dX6_countRepairs_67 (by decide) rfl ?_
      refine j_aload_n X dX6_countRepairs_69 3 rfl ?_
      obtain ⟨fs8, r8, g8, i8, h⟩ := h
      refine j_get X (ci := 9) (C := RX6) (T := TX6) (N := 2) rfl jin_X6 0 (by decide) g8 i8 jw_178 rfl dX6_countRepairs_70 ?_
      obtain ⟨fs9, r9, g9, i9, h⟩ := h
      refine j_getN X (ci := 8) (C := RX5) (T := TX5) (N := 12) rfl jin_X5 3 (by decide) g9 i9 jw_117 rfl dX6_countRepairs_73 ?_
      refine j_iload X dX6_countRepairs_76 2 rfl ?_
      obtain ⟨⟨fs10, g10⟩, h⟩ := h
      refine j_callVi X [.int v1] [] (c_X3_at h) (T := TX3) (N := 1) g10 rfl jm_X3_at jw_620 rfl ⟨rfl, rfl⟩ (by rw [hR]; decide) rfl (Nat.le_of_ble_eq_true rfl) dX6_countRepairs_78 (fun v10 w10 h => ?_)
      refine j_istore X [(9, .int v10), (8, .int v7), (7, .int v4), (6, .int v1), (0, .ref a0), (1, .int x1), (2, .int x2), (3, .int x3), (4, .int x4), (5, .int x5)] dX6_countRepairs_81 (by decide) rfl ?_
      refine j_iload X dX6_countRepairs_83 0 rfl ?_
      refine j_iload_n X dX6_countRepairs_85 7 rfl ?_
      refine j_iload X dX6_countRepairs_86 2 rfl ?_
      refine j_iload X dX6_countRepairs_88 1 rfl ?_
      refine j_aload_n X dX6_countRepairs_90 4 rfl ?_
      obtain ⟨fs11, r11, g11, i11, h⟩ := h
      refine j_get X (ci := 9) (C := RX6) (T := TX6) (N := 2) rfl jin_X6 0 (by decide) g11 i11 jw_178 rfl dX6_countRepairs_91 ?_
      obtain ⟨fs12, r12, g12, i12, h⟩ := h
      refine j_getN X (ci := 8) (C := RX5) (T := TX5) (N := 12) rfl jin_X5 4 (by decide) g12 i12 jw_121 rfl dX6_countRepairs_94 ?_
      refine j_iload X dX6_countRepairs_97 3 rfl ?_
      obtain ⟨⟨fs13, g13⟩, h⟩ := h
      refine j_callVi X [.int v1] [.int v7, .int v4, .int x3, .int v10] (c_X3_at h) (T := TX3) (N := 1) g13 rfl jm_X3_at jw_620 rfl ⟨rfl, rfl⟩ (by rw [hR]; decide) rfl (Nat.le_of_ble_eq_true rfl) dX6_countRepairs_99 (fun v13 w13 h => ?_)
      refine j_callSNi X [.int x3, .int v4, .int v7, .int v13] [.int v10] (c_X8_hashWith h) jm_X8_hashWith jw_628 rfl ⟨rfl, rfl⟩ (by rw [hR]; decide) rfl (Nat.le_of_ble_eq_true rfl) dX6_countRepairs_102 (fun v14 w14 h => ?_)
      refine j_icmp_eq X 121 dX6_countRepairs_105 (by decide) (fun c => ?_) (fun c => ?_)
      · replace h := jif_t c h
        refine j_sub [4, 5, 6, 8, 9, 0] rfl ?_
        exact k_X6_countRepairs_b121 X hR Rt (fun _ _ _ _ _ _ _ h => ih h) h
      · replace h := jif_f c h
        refine j_iload_n X dX6_countRepairs_108 7 rfl ?_
        refine j_iload X dX6_countRepairs_109 2 rfl ?_
        refine j_iload X dX6_countRepairs_111 1 rfl ?_
        refine j_callSNi X [.int x3, .int v4, .int v7] [] (c_X8_sealedHash h) jm_X8_sealedHash jw_1430 rfl ⟨rfl, rfl⟩ (by rw [hR]; decide) rfl (Nat.le_of_ble_eq_true rfl) dX6_countRepairs_113 (fun v15 w15 h => ?_)
        refine j_istore X [(9, .int v15), (8, .int v7), (7, .int v4), (6, .int v1), (0, .ref a0), (1, .int x1), (2, .int x2), (3, .int x3), (4, .int x4), (5, .int x5)] dX6_countRepairs_116 (by decide) rfl ?_
        refine j_iinc X (x4 + 1) [(4, .int (x4 + 1)), (9, .int v15), (8, .int v7), (7, .int v4), (6, .int v1), (0, .ref a0), (1, .int x1), (2, .int x2), (3, .int x3), (5, .int x5)] dX6_countRepairs_118 8 rfl rfl (by decide) rfl ?_
        refine j_sub [5, 6, 7, 0, 9, 1] rfl ?_
        exact k_X6_countRepairs_b121 X hR Rt (fun _ _ _ _ _ _ _ h => ih h) h
def w_X6_countRepairs_b0 (κ : Nat → Nat) (w : va_W) (a0 : Nat) (x1 : Int32) (P : Int32 → va_W → Prop) : Prop :=
    (jRc w a0 9 ∧ w_X6_heightByWalk κ w a0 x1 (fun v1 w1 => jgR' w1 a0 9 0 (fun r2 => jgR' w1 r2 8 3 (fun r3 => (jRc w1 r3 6 ∧ w_X3_at κ w1 r3 0 (fun v4 w4 => w_X6_countRepairs_b24 jFu κ w4 a0 x1 v1 v4 0 1 P))))))
set_option maxRecDepth 100000 in
set_option maxHeartbeats 4000000 in
theorem k_X6_countRepairs_b0 {Γ : jG} (X : jX Γ cX6_countRepairs 10 RX6) (hR : jgR Γ = ({ frames := 3, cells := 0, slots := 0, locals := 68 } : Room)) {P : Int32 → va_W → Prop} (Rt : jRt Γ cX6_countRepairs 10 0 0 (some .int) (jPi P)) {w : va_W} {a0 : Nat} {x1 : Int32} (h : w_X6_countRepairs_b0 (jgE Γ).2.2.2 w a0 x1 P) : J Γ 10 w 0 0 0 [(0, .ref a0), (1, .int x1)] [] := by
  unfold w_X6_countRepairs_b0 at h
  refine j_aload_n X dX6_countRepairs_0 0 rfl ?_
  refine j_iload_n X dX6_countRepairs_1 1 rfl ?_
  obtain ⟨⟨fs1, g1⟩, h⟩ := h
  refine j_callVi X [.int x1] [] (c_X6_heightByWalk h) (T := TX6) (N := 2) g1 rfl jm_X6_heightByWalk jw_1315 rfl ⟨rfl, rfl⟩ (by rw [hR]; decide) rfl (Nat.le_of_ble_eq_true rfl) dX6_countRepairs_2 (fun v1 w1 h => ?_)
  refine j_istore_n X [(2, .int v1), (0, .ref a0), (1, .int x1)] dX6_countRepairs_5 (by decide) rfl ?_
  refine j_aload_n X dX6_countRepairs_6 1 rfl ?_
  obtain ⟨fs2, r2, g2, i2, h⟩ := h
  refine j_get X (ci := 9) (C := RX6) (T := TX6) (N := 2) rfl jin_X6 0 (by decide) g2 i2 jw_178 rfl dX6_countRepairs_7 ?_
  obtain ⟨fs3, r3, g3, i3, h⟩ := h
  refine j_getN X (ci := 8) (C := RX5) (T := TX5) (N := 12) rfl jin_X5 3 (by decide) g3 i3 jw_117 rfl dX6_countRepairs_10 ?_
  refine j_iconst X 0 dX6_countRepairs_13 (by decide) ?_
  obtain ⟨⟨fs4, g4⟩, h⟩ := h
  refine j_callVi X [.int 0] [] (c_X3_at h) (T := TX3) (N := 1) g4 rfl jm_X3_at jw_620 rfl ⟨rfl, rfl⟩ (by rw [hR]; decide) rfl (Nat.le_of_ble_eq_true rfl) dX6_countRepairs_14 (fun v4 w4 h => ?_)
  refine j_istore_n X [(3, .int v4), (2, .int v1), (0, .ref a0), (1, .int x1)] dX6_countRepairs_17 (by decide) rfl ?_
  refine j_iconst X 0 dX6_countRepairs_18 (by decide) ?_
  refine j_istore X [(4, .int 0), (3, .int v4), (2, .int v1), (0, .ref a0), (1, .int x1)] dX6_countRepairs_19 (by decide) rfl ?_
  refine j_iconst X 1 dX6_countRepairs_21 (by decide) ?_
  refine j_istore X [(5, .int 1), (4, .int 0), (3, .int v4), (2, .int v1), (0, .ref a0), (1, .int x1)] dX6_countRepairs_22 (by decide) rfl ?_
  refine j_sub [4, 5, 3, 2, 1, 0] rfl ?_
  exact k_X6_countRepairs_b24 X hR Rt _ h
def w_X6_countRepairs (κ : Nat → Nat) (w : va_W) (a0 : Nat) (x1 : Int32) (P : Int32 → va_W → Prop) : Prop := w_X6_countRepairs_b0 κ w a0 x1 P
theorem c_X6_countRepairs {E : jE} {w : va_W} {a0 : Nat} {x1 : Int32} {P : Int32 → va_W → Prop} (h : w_X6_countRepairs E.2.2.2 w a0 x1 P) : jC E yX6_countRepairs cX6_countRepairs 10 (some .int) ({ frames := 3, cells := 0, slots := 0, locals := 68 } : Room) [.ref a0, .int x1] w 0 0 (jPi P) := by
  refine jC_of (by decide) (Nat.le_of_ble_eq_true rfl) ?_
  intro Γ X hE hR Rt
  subst hE
  exact k_X6_countRepairs_b0 X hR Rt h
theorem jm_X6_reaches : jMv yX6_reaches cX6_reaches 5 (some .boolean) 2 := ⟨jw_1106, jw_1107, jw_27, jw_1108, ⟨by decide +kernel, by decide +kernel⟩, by decide +kernel⟩
def w_X6_reaches_b42 (κ : Nat → Nat) (w : va_W) (P : Int32 → va_W → Prop) : Prop :=
    P 0 w
set_option maxRecDepth 100000 in
set_option maxHeartbeats 4000000 in
theorem k_X6_reaches_b42 {Γ : jG} (X : jX Γ cX6_reaches 5 RX6) (hR : jgR Γ = ({ frames := 1, cells := 0, slots := 0, locals := 21 } : Room)) {P : Int32 → va_W → Prop} (Rt : jRt Γ cX6_reaches 5 0 0 (some .boolean) (jPi P)) {w : va_W} (h : w_X6_reaches_b42 (jgE Γ).2.2.2 w  P) : J Γ 5 w 0 0 42 [] [] := by
  unfold w_X6_reaches_b42 at h
  refine j_iconst X 0 dX6_reaches_42 (by decide) ?_
  exact Rt.z dX6_reaches_43 (by decide) ⟨_, rfl, h⟩ (by first | decide | omega) (by first | decide | omega)
def w_X6_reaches_b5 : Nat → (κ : Nat → Nat) → (w : va_W) → (a0 : Nat) → (x2 : Int32) → (x3 : Int32) → (x4 : Int32) → (P : Int32 → va_W → Prop) → Prop
  | 0, _, _, _, _, _, _, _ => False
  | n + 1, κ, w, a0, x2, x3, x4, P =>
    (if x3 = (-1) then w_X6_reaches_b42 κ w  P else (if 16 ≤ x4 then w_X6_reaches_b42 κ w  P else (if x3 = x2 then P 1 w else jgR' w a0 9 0 (fun r1 => jgR' w r1 8 1 (fun r2 => (jRc w r2 6 ∧ w_X3_at κ w r2 x3 (fun v3 w3 => w_X6_reaches_b5 n κ w3 a0 x2 v3 (x4 + 1) P)))))))
set_option maxRecDepth 100000 in
set_option maxHeartbeats 4000000 in
theorem k_X6_reaches_b5 {Γ : jG} (X : jX Γ cX6_reaches 5 RX6) (hR : jgR Γ = ({ frames := 1, cells := 0, slots := 0, locals := 21 } : Room)) {P : Int32 → va_W → Prop} (Rt : jRt Γ cX6_reaches 5 0 0 (some .boolean) (jPi P)) : ∀ (n : Nat) {w : va_W} {a0 : Nat} {x2 : Int32} {x3 : Int32} {x4 : Int32} (h : w_X6_reaches_b5 n (jgE Γ).2.2.2 w a0 x2 x3 x4 P), J Γ 5 w 0 0 5 [(0, .ref a0), (2, .int x2), (3, .int x3), (4, .int x4)] [] := by
  intro n
  induction n with
  | zero => intro w a0 x2 x3 x4 h; exact False.elim h
  | succ n ih =>
    intro w a0 x2 x3 x4 h
    rw [w_X6_reaches_b5] at h
    refine j_iload_n X dX6_reaches_5 2 rfl ?_
    refine j_iconst X (-1) dX6_reaches_6 (by decide) ?_
    refine j_icmp_eq X 42 dX6_reaches_7 (by decide) (fun c => ?_) (fun c => ?_)
    · replace h := jif_t c h
      refine j_sub [] rfl ?_
      exact k_X6_reaches_b42 X hR Rt h
    · replace h := jif_f c h
      refine j_iload X dX6_reaches_10 3 rfl ?_
      refine j_bipush X 16 dX6_reaches_12 (by decide) ?_
      refine j_icmp_ge X 42 dX6_reaches_14 (by decide) (fun c => ?_) (fun c => ?_)
      · replace h := jif_t c h
        refine j_sub [] rfl ?_
        exact k_X6_reaches_b42 X hR Rt h
      · replace h := jif_f c h
        refine j_iload_n X dX6_reaches_17 2 rfl ?_
        refine j_iload_n X dX6_reaches_18 1 rfl ?_
        refine j_icmp_ne X 24 dX6_reaches_19 (by decide) (fun c => ?_) (fun c => ?_)
        · replace h := jif_f c h
          refine j_aload_n X dX6_reaches_24 0 rfl ?_
          obtain ⟨fs1, r1, g1, i1, h⟩ := h
          refine j_get X (ci := 9) (C := RX6) (T := TX6) (N := 2) rfl jin_X6 0 (by decide) g1 i1 jw_178 rfl dX6_reaches_25 ?_
          obtain ⟨fs2, r2, g2, i2, h⟩ := h
          refine j_getN X (ci := 8) (C := RX5) (T := TX5) (N := 12) rfl jin_X5 1 (by decide) g2 i2 jw_109 rfl dX6_reaches_28 ?_
          refine j_iload_n X dX6_reaches_31 2 rfl ?_
          obtain ⟨⟨fs3, g3⟩, h⟩ := h
          refine j_callVi X [.int x3] [] (c_X3_at h) (T := TX3) (N := 1) g3 rfl jm_X3_at jw_620 rfl ⟨rfl, rfl⟩ (by rw [hR]; decide) rfl (Nat.le_of_ble_eq_true rfl) dX6_reaches_32 (fun v3 w3 h => ?_)
          refine j_istore_n X [(3, .int v3), (0, .ref a0), (2, .int x2), (4, .int x4)] dX6_reaches_35 (by decide) rfl ?_
          refine j_iinc X (x4 + 1) [(4, .int (x4 + 1)), (3, .int v3), (0, .ref a0), (2, .int x2)] dX6_reaches_36 3 rfl rfl (by decide) rfl ?_
          refine j_goto X 5 dX6_reaches_39 (by decide) ?_
          refine j_sub [2, 3, 1, 0] rfl ?_
          exact ih h
        · replace h := jif_t c h
          refine j_iconst X 1 dX6_reaches_22 (by decide) ?_
          exact Rt.z dX6_reaches_23 (by decide) ⟨_, rfl, h⟩ (by first | decide | omega) (by first | decide | omega)
def w_X6_reaches_b0 (κ : Nat → Nat) (w : va_W) (a0 : Nat) (x1 : Int32) (x2 : Int32) (P : Int32 → va_W → Prop) : Prop :=
    w_X6_reaches_b5 jFu κ w a0 x2 x1 0 P
set_option maxRecDepth 100000 in
set_option maxHeartbeats 4000000 in
theorem k_X6_reaches_b0 {Γ : jG} (X : jX Γ cX6_reaches 5 RX6) (hR : jgR Γ = ({ frames := 1, cells := 0, slots := 0, locals := 21 } : Room)) {P : Int32 → va_W → Prop} (Rt : jRt Γ cX6_reaches 5 0 0 (some .boolean) (jPi P)) {w : va_W} {a0 : Nat} {x1 : Int32} {x2 : Int32} (h : w_X6_reaches_b0 (jgE Γ).2.2.2 w a0 x1 x2 P) : J Γ 5 w 0 0 0 [(0, .ref a0), (1, .int x1), (2, .int x2)] [] := by
  unfold w_X6_reaches_b0 at h
  refine j_iload_n X dX6_reaches_0 1 rfl ?_
  refine j_istore_n X [(3, .int x1), (0, .ref a0), (1, .int x1), (2, .int x2)] dX6_reaches_1 (by decide) rfl ?_
  refine j_iconst X 0 dX6_reaches_2 (by decide) ?_
  refine j_istore X [(4, .int 0), (3, .int x1), (0, .ref a0), (1, .int x1), (2, .int x2)] dX6_reaches_3 (by decide) rfl ?_
  refine j_sub [2, 4, 1, 0] rfl ?_
  exact k_X6_reaches_b5 X hR Rt _ h
def w_X6_reaches (κ : Nat → Nat) (w : va_W) (a0 : Nat) (x1 : Int32) (x2 : Int32) (P : Int32 → va_W → Prop) : Prop := w_X6_reaches_b0 κ w a0 x1 x2 P
theorem c_X6_reaches {E : jE} {w : va_W} {a0 : Nat} {x1 : Int32} {x2 : Int32} {P : Int32 → va_W → Prop} (h : w_X6_reaches E.2.2.2 w a0 x1 x2 P) : jC E yX6_reaches cX6_reaches 5 (some .boolean) ({ frames := 1, cells := 0, slots := 0, locals := 21 } : Room) [.ref a0, .int x1, .int x2] w 0 0 (jPi P) := by
  refine jC_of (by decide) (Nat.le_of_ble_eq_true rfl) ?_
  intro Γ X hE hR Rt
  subst hE
  exact k_X6_reaches_b0 X hR Rt h
theorem jm_X6_countReaching : jMv yX6_countReaching cX6_countReaching 4 (some .int) 1 := ⟨jw_1414, jw_1415, jw_27, jw_1416, ⟨by decide +kernel, by decide +kernel⟩, by decide +kernel⟩
def w_X6_countReaching_b22 (κ : Nat → Nat) (w : va_W) (a0 : Nat) (x1 : Int32) (x2 : Int32) (x3 : Int32) (K4 : va_W → Nat → Int32 → Int32 → Int32 → Prop) (P : Int32 → va_W → Prop) : Prop :=
    K4 w a0 x1 x2 (x3 + 1)
set_option maxRecDepth 100000 in
set_option maxHeartbeats 4000000 in
theorem k_X6_countReaching_b22 {Γ : jG} (X : jX Γ cX6_countReaching 4 RX6) (hR : jgR Γ = ({ frames := 2, cells := 0, slots := 0, locals := 45 } : Room)) {P : Int32 → va_W → Prop} (Rt : jRt Γ cX6_countReaching 4 0 0 (some .int) (jPi P)) {K4 : va_W → Nat → Int32 → Int32 → Int32 → Prop} (hK4 : ∀ (w : va_W) (a0 : Nat) (x1 : Int32) (x2 : Int32) (x3 : Int32), K4 w a0 x1 x2 x3 → J Γ 4 w 0 0 4 [(0, .ref a0), (1, .int x1), (2, .int x2), (3, .int x3)] []) {w : va_W} {a0 : Nat} {x1 : Int32} {x2 : Int32} {x3 : Int32} (h : w_X6_countReaching_b22 (jgE Γ).2.2.2 w a0 x1 x2 x3 K4 P) : J Γ 4 w 0 0 22 [(0, .ref a0), (1, .int x1), (2, .int x2), (3, .int x3)] [] := by
  unfold w_X6_countReaching_b22 at h
  refine j_iinc X (x3 + 1) [(3, .int (x3 + 1)), (0, .ref a0), (1, .int x1), (2, .int x2)] dX6_countReaching_22 3 rfl rfl (by decide) rfl ?_
  refine j_goto X 4 dX6_countReaching_25 (by decide) ?_
  refine j_sub [1, 2, 3, 0] rfl ?_
  exact hK4 _ _ _ _ _ h
def w_X6_countReaching_b4 : Nat → (κ : Nat → Nat) → (w : va_W) → (a0 : Nat) → (x1 : Int32) → (x2 : Int32) → (x3 : Int32) → (P : Int32 → va_W → Prop) → Prop
  | 0, _, _, _, _, _, _, _ => False
  | n + 1, κ, w, a0, x1, x2, x3, P =>
    (if 16 ≤ x3 then P x2 w else (jRc w a0 9 ∧ w_X6_reaches κ w a0 x3 x1 (fun v1 w1 => (if v1 = 0 then w_X6_countReaching_b22 κ w1 a0 x1 x2 x3 (fun w_ z_a0 z_x1 z_x2 z_x3 => w_X6_countReaching_b4 n κ w_ z_a0 z_x1 z_x2 z_x3 P) P else w_X6_countReaching_b22 κ w1 a0 x1 (x2 + 1) x3 (fun w_ z_a0 z_x1 z_x2 z_x3 => w_X6_countReaching_b4 n κ w_ z_a0 z_x1 z_x2 z_x3 P) P))))
set_option maxRecDepth 100000 in
set_option maxHeartbeats 4000000 in
theorem k_X6_countReaching_b4 {Γ : jG} (X : jX Γ cX6_countReaching 4 RX6) (hR : jgR Γ = ({ frames := 2, cells := 0, slots := 0, locals := 45 } : Room)) {P : Int32 → va_W → Prop} (Rt : jRt Γ cX6_countReaching 4 0 0 (some .int) (jPi P)) : ∀ (n : Nat) {w : va_W} {a0 : Nat} {x1 : Int32} {x2 : Int32} {x3 : Int32} (h : w_X6_countReaching_b4 n (jgE Γ).2.2.2 w a0 x1 x2 x3 P), J Γ 4 w 0 0 4 [(0, .ref a0), (1, .int x1), (2, .int x2), (3, .int x3)] [] := by
  intro n
  induction n with
  | zero => intro w a0 x1 x2 x3 h; exact False.elim h
  | succ n ih =>
    intro w a0 x1 x2 x3 h
    rw [w_X6_countReaching_b4] at h
    refine j_iload_n X dX6_countReaching_4 3 rfl ?_
    refine j_bipush X 16 dX6_countReaching_5 (by decide) ?_
    refine j_icmp_ge X 28 dX6_countReaching_7 (by decide) (fun c => ?_) (fun c => ?_)
    · replace h := jif_t c h
      refine j_iload_n X dX6_countReaching_28 2 rfl ?_
      exact Rt.i dX6_countReaching_29 ⟨_, rfl, h⟩ (by first | decide | omega) (by first | decide | omega)
    · replace h := jif_f c h
      refine j_aload_n X dX6_countReaching_10 0 rfl ?_
      refine j_iload_n X dX6_countReaching_11 3 rfl ?_
      refine j_iload_n X dX6_countReaching_12 1 rfl ?_
      obtain ⟨⟨fs1, g1⟩, h⟩ := h
      refine j_callVi X [.int x3, .int x1] [] (c_X6_reaches h) (T := TX6) (N := 2) g1 rfl jm_X6_reaches jw_1417 rfl ⟨rfl, rfl⟩ (by rw [hR]; decide) rfl (Nat.le_of_ble_eq_true rfl) dX6_countReaching_13 (fun v1 w1 h => ?_)
      refine j_if_eq X 22 dX6_countReaching_16 (by decide) (fun c => ?_) (fun c => ?_)
      · replace h := jif_t c h
        exact k_X6_countReaching_b22 X hR Rt (fun _ _ _ _ _ h => ih h) h
      · replace h := jif_f c h
        refine j_iinc X (x2 + 1) [(2, .int (x2 + 1)), (0, .ref a0), (1, .int x1), (3, .int x3)] dX6_countReaching_19 2 rfl rfl (by decide) rfl ?_
        refine j_sub [1, 2, 0, 3] rfl ?_
        exact k_X6_countReaching_b22 X hR Rt (fun _ _ _ _ _ h => ih h) h
def w_X6_countReaching_b0 (κ : Nat → Nat) (w : va_W) (a0 : Nat) (x1 : Int32) (P : Int32 → va_W → Prop) : Prop :=
    w_X6_countReaching_b4 jFu κ w a0 x1 0 0 P
set_option maxRecDepth 100000 in
set_option maxHeartbeats 4000000 in
theorem k_X6_countReaching_b0 {Γ : jG} (X : jX Γ cX6_countReaching 4 RX6) (hR : jgR Γ = ({ frames := 2, cells := 0, slots := 0, locals := 45 } : Room)) {P : Int32 → va_W → Prop} (Rt : jRt Γ cX6_countReaching 4 0 0 (some .int) (jPi P)) {w : va_W} {a0 : Nat} {x1 : Int32} (h : w_X6_countReaching_b0 (jgE Γ).2.2.2 w a0 x1 P) : J Γ 4 w 0 0 0 [(0, .ref a0), (1, .int x1)] [] := by
  unfold w_X6_countReaching_b0 at h
  refine j_iconst X 0 dX6_countReaching_0 (by decide) ?_
  refine j_istore_n X [(2, .int 0), (0, .ref a0), (1, .int x1)] dX6_countReaching_1 (by decide) rfl ?_
  refine j_iconst X 0 dX6_countReaching_2 (by decide) ?_
  refine j_istore_n X [(3, .int 0), (2, .int 0), (0, .ref a0), (1, .int x1)] dX6_countReaching_3 (by decide) rfl ?_
  refine j_sub [2, 3, 1, 0] rfl ?_
  exact k_X6_countReaching_b4 X hR Rt _ h
def w_X6_countReaching (κ : Nat → Nat) (w : va_W) (a0 : Nat) (x1 : Int32) (P : Int32 → va_W → Prop) : Prop := w_X6_countReaching_b0 κ w a0 x1 P
theorem c_X6_countReaching {E : jE} {w : va_W} {a0 : Nat} {x1 : Int32} {P : Int32 → va_W → Prop} (h : w_X6_countReaching E.2.2.2 w a0 x1 P) : jC E yX6_countReaching cX6_countReaching 4 (some .int) ({ frames := 2, cells := 0, slots := 0, locals := 45 } : Room) [.ref a0, .int x1] w 0 0 (jPi P) := by
  refine jC_of (by decide) (Nat.le_of_ble_eq_true rfl) ?_
  intro Γ X hE hR Rt
  subst hE
  exact k_X6_countReaching_b0 X hR Rt h
theorem jm_X6_fork : jMv yX6_fork cX6_fork 5 (some .int) 2 := ⟨jw_1459, jw_1460, jw_27, jw_1461, ⟨by decide +kernel, by decide +kernel⟩, by decide +kernel⟩
def w_X6_fork_b46 (κ : Nat → Nat) (w : va_W) (P : Int32 → va_W → Prop) : Prop :=
    P 0 w
set_option maxRecDepth 100000 in
set_option maxHeartbeats 4000000 in
theorem k_X6_fork_b46 {Γ : jG} (X : jX Γ cX6_fork 5 RX6) (hR : jgR Γ = ({ frames := 2, cells := 0, slots := 0, locals := 45 } : Room)) {P : Int32 → va_W → Prop} (Rt : jRt Γ cX6_fork 5 0 0 (some .int) (jPi P)) {w : va_W} (h : w_X6_fork_b46 (jgE Γ).2.2.2 w  P) : J Γ 5 w 0 0 46 [] [] := by
  unfold w_X6_fork_b46 at h
  refine j_iconst X 0 dX6_fork_46 (by decide) ?_
  exact Rt.i dX6_fork_47 ⟨_, rfl, h⟩ (by first | decide | omega) (by first | decide | omega)
def w_X6_fork_b5 : Nat → (κ : Nat → Nat) → (w : va_W) → (a0 : Nat) → (x2 : Int32) → (x3 : Int32) → (x4 : Int32) → (P : Int32 → va_W → Prop) → Prop
  | 0, _, _, _, _, _, _, _ => False
  | n + 1, κ, w, a0, x2, x3, x4, P =>
    (if x3 = (-1) then w_X6_fork_b46 κ w  P else (if 16 ≤ x4 then w_X6_fork_b46 κ w  P else (jRc w a0 9 ∧ w_X6_reaches κ w a0 x2 x3 (fun v1 w1 => (if v1 = 0 then jgR' w1 a0 9 0 (fun r2 => jgR' w1 r2 8 1 (fun r3 => (jRc w1 r3 6 ∧ w_X3_at κ w1 r3 x3 (fun v4 w4 => w_X6_fork_b5 n κ w4 a0 x2 v4 (x4 + 1) P)))) else P x3 w1)))))
set_option maxRecDepth 100000 in
set_option maxHeartbeats 4000000 in
theorem k_X6_fork_b5 {Γ : jG} (X : jX Γ cX6_fork 5 RX6) (hR : jgR Γ = ({ frames := 2, cells := 0, slots := 0, locals := 45 } : Room)) {P : Int32 → va_W → Prop} (Rt : jRt Γ cX6_fork 5 0 0 (some .int) (jPi P)) : ∀ (n : Nat) {w : va_W} {a0 : Nat} {x2 : Int32} {x3 : Int32} {x4 : Int32} (h : w_X6_fork_b5 n (jgE Γ).2.2.2 w a0 x2 x3 x4 P), J Γ 5 w 0 0 5 [(0, .ref a0), (2, .int x2), (3, .int x3), (4, .int x4)] [] := by
  intro n
  induction n with
  | zero => intro w a0 x2 x3 x4 h; exact False.elim h
  | succ n ih =>
    intro w a0 x2 x3 x4 h
    rw [w_X6_fork_b5] at h
    refine j_iload_n X dX6_fork_5 2 rfl ?_
    refine j_iconst X (-1) dX6_fork_6 (by decide) ?_
    refine j_icmp_eq X 46 dX6_fork_7 (by decide) (fun c => ?_) (fun c => ?_)
    · replace h := jif_t c h
      refine j_sub [] rfl ?_
      exact k_X6_fork_b46 X hR Rt h
    · replace h := jif_f c h
      refine j_iload X dX6_fork_10 3 rfl ?_
      refine j_bipush X 16 dX6_fork_12 (by decide) ?_
      refine j_icmp_ge X 46 dX6_fork_14 (by decide) (fun c => ?_) (fun c => ?_)
      · replace h := jif_t c h
        refine j_sub [] rfl ?_
        exact k_X6_fork_b46 X hR Rt h
      · replace h := jif_f c h
        refine j_aload_n X dX6_fork_17 0 rfl ?_
        refine j_iload_n X dX6_fork_18 1 rfl ?_
        refine j_iload_n X dX6_fork_19 2 rfl ?_
        obtain ⟨⟨fs1, g1⟩, h⟩ := h
        refine j_callVi X [.int x2, .int x3] [] (c_X6_reaches h) (T := TX6) (N := 2) g1 rfl jm_X6_reaches jw_1417 rfl ⟨rfl, rfl⟩ (by rw [hR]; decide) rfl (Nat.le_of_ble_eq_true rfl) dX6_fork_20 (fun v1 w1 h => ?_)
        refine j_if_eq X 28 dX6_fork_23 (by decide) (fun c => ?_) (fun c => ?_)
        · replace h := jif_t c h
          refine j_aload_n X dX6_fork_28 0 rfl ?_
          obtain ⟨fs2, r2, g2, i2, h⟩ := h
          refine j_get X (ci := 9) (C := RX6) (T := TX6) (N := 2) rfl jin_X6 0 (by decide) g2 i2 jw_178 rfl dX6_fork_29 ?_
          obtain ⟨fs3, r3, g3, i3, h⟩ := h
          refine j_getN X (ci := 8) (C := RX5) (T := TX5) (N := 12) rfl jin_X5 1 (by decide) g3 i3 jw_109 rfl dX6_fork_32 ?_
          refine j_iload_n X dX6_fork_35 2 rfl ?_
          obtain ⟨⟨fs4, g4⟩, h⟩ := h
          refine j_callVi X [.int x3] [] (c_X3_at h) (T := TX3) (N := 1) g4 rfl jm_X3_at jw_620 rfl ⟨rfl, rfl⟩ (by rw [hR]; decide) rfl (Nat.le_of_ble_eq_true rfl) dX6_fork_36 (fun v4 w4 h => ?_)
          refine j_istore_n X [(3, .int v4), (0, .ref a0), (2, .int x2), (4, .int x4)] dX6_fork_39 (by decide) rfl ?_
          refine j_iinc X (x4 + 1) [(4, .int (x4 + 1)), (3, .int v4), (0, .ref a0), (2, .int x2)] dX6_fork_40 3 rfl rfl (by decide) rfl ?_
          refine j_goto X 5 dX6_fork_43 (by decide) ?_
          refine j_sub [2, 3, 1, 0] rfl ?_
          exact ih h
        · replace h := jif_f c h
          refine j_iload_n X dX6_fork_26 2 rfl ?_
          exact Rt.i dX6_fork_27 ⟨_, rfl, h⟩ (by first | decide | omega) (by first | decide | omega)
def w_X6_fork_b0 (κ : Nat → Nat) (w : va_W) (a0 : Nat) (x1 : Int32) (x2 : Int32) (P : Int32 → va_W → Prop) : Prop :=
    w_X6_fork_b5 jFu κ w a0 x2 x1 0 P
set_option maxRecDepth 100000 in
set_option maxHeartbeats 4000000 in
theorem k_X6_fork_b0 {Γ : jG} (X : jX Γ cX6_fork 5 RX6) (hR : jgR Γ = ({ frames := 2, cells := 0, slots := 0, locals := 45 } : Room)) {P : Int32 → va_W → Prop} (Rt : jRt Γ cX6_fork 5 0 0 (some .int) (jPi P)) {w : va_W} {a0 : Nat} {x1 : Int32} {x2 : Int32} (h : w_X6_fork_b0 (jgE Γ).2.2.2 w a0 x1 x2 P) : J Γ 5 w 0 0 0 [(0, .ref a0), (1, .int x1), (2, .int x2)] [] := by
  unfold w_X6_fork_b0 at h
  refine j_iload_n X dX6_fork_0 1 rfl ?_
  refine j_istore_n X [(3, .int x1), (0, .ref a0), (1, .int x1), (2, .int x2)] dX6_fork_1 (by decide) rfl ?_
  refine j_iconst X 0 dX6_fork_2 (by decide) ?_
  refine j_istore X [(4, .int 0), (3, .int x1), (0, .ref a0), (1, .int x1), (2, .int x2)] dX6_fork_3 (by decide) rfl ?_
  refine j_sub [2, 4, 1, 0] rfl ?_
  exact k_X6_fork_b5 X hR Rt _ h
def w_X6_fork (κ : Nat → Nat) (w : va_W) (a0 : Nat) (x1 : Int32) (x2 : Int32) (P : Int32 → va_W → Prop) : Prop := w_X6_fork_b0 κ w a0 x1 x2 P
theorem c_X6_fork {E : jE} {w : va_W} {a0 : Nat} {x1 : Int32} {x2 : Int32} {P : Int32 → va_W → Prop} (h : w_X6_fork E.2.2.2 w a0 x1 x2 P) : jC E yX6_fork cX6_fork 5 (some .int) ({ frames := 2, cells := 0, slots := 0, locals := 45 } : Room) [.ref a0, .int x1, .int x2] w 0 0 (jPi P) := by
  refine jC_of (by decide) (Nat.le_of_ble_eq_true rfl) ?_
  intro Γ X hE hR Rt
  subst hE
  exact k_X6_fork_b0 X hR Rt h
theorem jm_X6_markFlakes : jMv yX6_markFlakes cX6_markFlakes 8 none 2 := ⟨jw_1445, jw_19, jw_27, jw_1446, ⟨by decide +kernel, by decide +kernel⟩, by decide +kernel⟩
def w_X6_markFlakes_b99 (κ : Nat → Nat) (w : va_W) (P : va_W → Prop) : Prop :=
    P w
set_option maxRecDepth 100000 in
set_option maxHeartbeats 4000000 in
theorem k_X6_markFlakes_b99 {Γ : jG} (X : jX Γ cX6_markFlakes 8 RX6) (hR : jgR Γ = ({ frames := 2, cells := 0, slots := 0, locals := 43 } : Room)) {P : va_W → Prop} (Rt : jRt Γ cX6_markFlakes 8 0 0 none (jPv P)) {w : va_W} (h : w_X6_markFlakes_b99 (jgE Γ).2.2.2 w  P) : J Γ 8 w 0 0 99 [] [] := by
  unfold w_X6_markFlakes_b99 at h
  exact Rt.v dX6_markFlakes_99 ⟨rfl, h⟩ (by first | decide | omega) (by first | decide | omega)
def w_X6_markFlakes_b33 : Nat → (κ : Nat → Nat) → (w : va_W) → (a0 : Nat) → (x2 : Int32) → (x3 : Int32) → (x4 : Int32) → (x5 : Int32) → (x6 : Int32) → (K5 : va_W → Nat → Int32 → Int32 → Int32 → Prop) → (P : va_W → Prop) → Prop
  | 0, _, _, _, _, _, _, _, _, _, _ => False
  | n + 1, κ, w, a0, x2, x3, x4, x5, x6, K5, P =>
    (if x5 ≤ x6 then jgR' w a0 9 0 (fun r1 => jgR' w r1 8 1 (fun r2 => (jRc w r2 6 ∧ w_X3_at κ w r2 x3 (fun v3 w3 => K5 w3 a0 x2 v3 (x4 + 1))))) else jgR' w a0 9 0 (fun r4 => jgR' w r4 8 5 (fun r5 => (jRc w r5 4 ∧ w_X0_flake κ w r5 x3 x6 (fun v6 w6 => jgR' w6 a0 9 1 (fun r7 => jgR' w6 a0 9 1 (fun r8 => (jRc w6 r8 6 ∧ w_X3_at κ w6 r8 v6 (fun v9 w9 => (jRc w9 r7 6 ∧ w_X3_put κ w9 r7 v6 (v9 ||| x2) (fun w10 => w_X6_markFlakes_b33 n κ w10 a0 x2 x3 x4 x5 (x6 + 1) K5 P)))))))))))
set_option maxRecDepth 100000 in
set_option maxHeartbeats 4000000 in
theorem k_X6_markFlakes_b33 {Γ : jG} (X : jX Γ cX6_markFlakes 8 RX6) (hR : jgR Γ = ({ frames := 2, cells := 0, slots := 0, locals := 43 } : Room)) {P : va_W → Prop} (Rt : jRt Γ cX6_markFlakes 8 0 0 none (jPv P)) {K5 : va_W → Nat → Int32 → Int32 → Int32 → Prop} (hK5 : ∀ (w : va_W) (a0 : Nat) (x2 : Int32) (x3 : Int32) (x4 : Int32), K5 w a0 x2 x3 x4 → J Γ 8 w 0 0 5 [(0, .ref a0), (2, .int x2), (3, .int x3), (4, .int x4)] []) : ∀ (n : Nat) {w : va_W} {a0 : Nat} {x2 : Int32} {x3 : Int32} {x4 : Int32} {x5 : Int32} {x6 : Int32} (h : w_X6_markFlakes_b33 n (jgE Γ).2.2.2 w a0 x2 x3 x4 x5 x6 K5 P), J Γ 8 w 0 0 33 [(0, .ref a0), (2, .int x2), (3, .int x3), (4, .int x4), (5, .int x5), (6, .int x6)] [] := by
  intro n
  induction n with
  | zero => intro w a0 x2 x3 x4 x5 x6 h; exact False.elim h
  | succ n ih =>
    intro w a0 x2 x3 x4 x5 x6 h
    rw [w_X6_markFlakes_b33] at h
    refine j_iload X dX6_markFlakes_33 5 rfl ?_
    refine j_iload X dX6_markFlakes_35 4 rfl ?_
    refine j_icmp_ge X 81 dX6_markFlakes_37 (by decide) (fun c => ?_) (fun c => ?_)
    · replace h := jif_t c h
      refine j_aload_n X dX6_markFlakes_81 0 rfl ?_
      obtain ⟨fs1, r1, g1, i1, h⟩ := h
      refine j_get X (ci := 9) (C := RX6) (T := TX6) (N := 2) rfl jin_X6 0 (by decide) g1 i1 jw_178 rfl dX6_markFlakes_82 ?_
      obtain ⟨fs2, r2, g2, i2, h⟩ := h
      refine j_getN X (ci := 8) (C := RX5) (T := TX5) (N := 12) rfl jin_X5 1 (by decide) g2 i2 jw_109 rfl dX6_markFlakes_85 ?_
      refine j_iload_n X dX6_markFlakes_88 2 rfl ?_
      obtain ⟨⟨fs3, g3⟩, h⟩ := h
      refine j_callVi X [.int x3] [] (c_X3_at h) (T := TX3) (N := 1) g3 rfl jm_X3_at jw_620 rfl ⟨rfl, rfl⟩ (by rw [hR]; decide) rfl (Nat.le_of_ble_eq_true rfl) dX6_markFlakes_89 (fun v3 w3 h => ?_)
      refine j_istore_n X [(3, .int v3), (0, .ref a0), (2, .int x2), (4, .int x4), (5, .int x5), (6, .int x6)] dX6_markFlakes_92 (by decide) rfl ?_
      refine j_iinc X (x4 + 1) [(4, .int (x4 + 1)), (3, .int v3), (0, .ref a0), (2, .int x2), (5, .int x5), (6, .int x6)] dX6_markFlakes_93 3 rfl rfl (by decide) rfl ?_
      refine j_goto X 5 dX6_markFlakes_96 (by decide) ?_
      refine j_sub [2, 3, 1, 0] rfl ?_
      exact hK5 _ _ _ _ _ h
    · replace h := jif_f c h
      refine j_aload_n X dX6_markFlakes_40 0 rfl ?_
      obtain ⟨fs4, r4, g4, i4, h⟩ := h
      refine j_get X (ci := 9) (C := RX6) (T := TX6) (N := 2) rfl jin_X6 0 (by decide) g4 i4 jw_178 rfl dX6_markFlakes_41 ?_
      obtain ⟨fs5, r5, g5, i5, h⟩ := h
      refine j_getN X (ci := 8) (C := RX5) (T := TX5) (N := 12) rfl jin_X5 5 (by decide) g5 i5 jw_125 rfl dX6_markFlakes_44 ?_
      refine j_iload_n X dX6_markFlakes_47 2 rfl ?_
      refine j_iload X dX6_markFlakes_48 5 rfl ?_
      obtain ⟨⟨fs6, g6⟩, h⟩ := h
      refine j_callVi X [.int x3, .int x6] [] (c_X0_flake h) (T := TX0) (N := 3) g6 rfl jm_X0_flake jw_1448 rfl ⟨rfl, rfl⟩ (by rw [hR]; decide) rfl (Nat.le_of_ble_eq_true rfl) dX6_markFlakes_50 (fun v6 w6 h => ?_)
      refine j_istore X [(7, .int v6), (0, .ref a0), (2, .int x2), (3, .int x3), (4, .int x4), (5, .int x5), (6, .int x6)] dX6_markFlakes_53 (by decide) rfl ?_
      refine j_aload_n X dX6_markFlakes_55 1 rfl ?_
      obtain ⟨fs7, r7, g7, i7, h⟩ := h
      refine j_get X (ci := 9) (C := RX6) (T := TX6) (N := 2) rfl jin_X6 1 (by decide) g7 i7 jw_179 rfl dX6_markFlakes_56 ?_
      refine j_iload X dX6_markFlakes_59 0 rfl ?_
      refine j_aload_n X dX6_markFlakes_61 1 rfl ?_
      obtain ⟨fs8, r8, g8, i8, h⟩ := h
      refine j_get X (ci := 9) (C := RX6) (T := TX6) (N := 2) rfl jin_X6 1 (by decide) g8 i8 jw_179 rfl dX6_markFlakes_62 ?_
      refine j_iload X dX6_markFlakes_65 0 rfl ?_
      obtain ⟨⟨fs9, g9⟩, h⟩ := h
      refine j_callVi X [.int v6] [.int v6, .ref r7] (c_X3_at h) (T := TX3) (N := 1) g9 rfl jm_X3_at jw_620 rfl ⟨rfl, rfl⟩ (by rw [hR]; decide) rfl (Nat.le_of_ble_eq_true rfl) dX6_markFlakes_67 (fun v9 w9 h => ?_)
      refine j_iload_n X dX6_markFlakes_70 2 rfl ?_
      refine j_ior X dX6_markFlakes_71 ?_
      obtain ⟨⟨fs10, g10⟩, h⟩ := h
      refine j_callVv X [.int v6, .int (v9 ||| x2)] [] (c_X3_put h) (T := TX3) (N := 1) g10 rfl jm_X3_put jw_1449 rfl ⟨rfl, rfl⟩ (by rw [hR]; decide) rfl (Nat.le_of_ble_eq_true rfl) dX6_markFlakes_72 (fun w10 h => ?_)
      refine j_iinc X (x6 + 1) [(6, .int (x6 + 1)), (7, .int v6), (0, .ref a0), (2, .int x2), (3, .int x3), (4, .int x4), (5, .int x5)] dX6_markFlakes_75 6 rfl rfl (by decide) rfl ?_
      refine j_goto X 33 dX6_markFlakes_78 (by decide) ?_
      refine j_sub [2, 3, 4, 5, 6, 0] rfl ?_
      exact ih h
def w_X6_markFlakes_b5 : Nat → (κ : Nat → Nat) → (w : va_W) → (a0 : Nat) → (x2 : Int32) → (x3 : Int32) → (x4 : Int32) → (P : va_W → Prop) → Prop
  | 0, _, _, _, _, _, _, _ => False
  | n + 1, κ, w, a0, x2, x3, x4, P =>
    (if x3 = (-1) then w_X6_markFlakes_b99 κ w  P else (if 16 ≤ x4 then w_X6_markFlakes_b99 κ w  P else jgR' w a0 9 0 (fun r1 => jgR' w r1 8 5 (fun r2 => (jRc w r2 4 ∧ w_X0_size κ w r2 x3 (fun v3 w3 => w_X6_markFlakes_b33 jFu κ w3 a0 x2 x3 x4 v3 0 (fun w_ z_a0 z_x2 z_x3 z_x4 => w_X6_markFlakes_b5 n κ w_ z_a0 z_x2 z_x3 z_x4 P) P))))))
set_option maxRecDepth 100000 in
set_option maxHeartbeats 4000000 in
theorem k_X6_markFlakes_b5 {Γ : jG} (X : jX Γ cX6_markFlakes 8 RX6) (hR : jgR Γ = ({ frames := 2, cells := 0, slots := 0, locals := 43 } : Room)) {P : va_W → Prop} (Rt : jRt Γ cX6_markFlakes 8 0 0 none (jPv P)) : ∀ (n : Nat) {w : va_W} {a0 : Nat} {x2 : Int32} {x3 : Int32} {x4 : Int32} (h : w_X6_markFlakes_b5 n (jgE Γ).2.2.2 w a0 x2 x3 x4 P), J Γ 8 w 0 0 5 [(0, .ref a0), (2, .int x2), (3, .int x3), (4, .int x4)] [] := by
  intro n
  induction n with
  | zero => intro w a0 x2 x3 x4 h; exact False.elim h
  | succ n ih =>
    intro w a0 x2 x3 x4 h
    rw [w_X6_markFlakes_b5] at h
    refine j_iload_n X dX6_markFlakes_5 2 rfl ?_
    refine j_iconst X (-1) dX6_markFlakes_6 (by decide) ?_
    refine j_icmp_eq X 99 dX6_markFlakes_7 (by decide) (fun c => ?_) (fun c => ?_)
    · replace h := jif_t c h
      refine j_sub [] rfl ?_
      exact k_X6_markFlakes_b99 X hR Rt h
    · replace h := jif_f c h
      refine j_iload X dX6_markFlakes_10 3 rfl ?_
      refine j_bipush X 16 dX6_markFlakes_12 (by decide) ?_
      refine j_icmp_ge X 99 dX6_markFlakes_14 (by decide) (fun c => ?_) (fun c => ?_)
      · replace h := jif_t c h
        refine j_sub [] rfl ?_
        exact k_X6_markFlakes_b99 X hR Rt h
      · replace h := jif_f c h
        refine j_aload_n X dX6_markFlakes_17 0 rfl ?_
        obtain ⟨fs1, r1, g1, i1, h⟩ := h
        refine j_get X (ci := 9) (C := RX6) (T := TX6) (N := 2) rfl jin_X6 0 (by decide) g1 i1 jw_178 rfl dX6_markFlakes_18 ?_
        obtain ⟨fs2, r2, g2, i2, h⟩ := h
        refine j_getN X (ci := 8) (C := RX5) (T := TX5) (N := 12) rfl jin_X5 5 (by decide) g2 i2 jw_125 rfl dX6_markFlakes_21 ?_
        refine j_iload_n X dX6_markFlakes_24 2 rfl ?_
        obtain ⟨⟨fs3, g3⟩, h⟩ := h
        refine j_callVi X [.int x3] [] (c_X0_size h) (T := TX0) (N := 3) g3 rfl jm_X0_size jw_1447 rfl ⟨rfl, rfl⟩ (by rw [hR]; decide) rfl (Nat.le_of_ble_eq_true rfl) dX6_markFlakes_25 (fun v3 w3 h => ?_)
        refine j_istore X [(5, .int v3), (0, .ref a0), (2, .int x2), (3, .int x3), (4, .int x4)] dX6_markFlakes_28 (by decide) rfl ?_
        refine j_iconst X 0 dX6_markFlakes_30 (by decide) ?_
        refine j_istore X [(6, .int 0), (5, .int v3), (0, .ref a0), (2, .int x2), (3, .int x3), (4, .int x4)] dX6_markFlakes_31 (by decide) rfl ?_
        refine j_sub [2, 3, 4, 5, 1, 0] rfl ?_
        exact k_X6_markFlakes_b33 X hR Rt (fun _ _ _ _ _ h => ih h) _ h
def w_X6_markFlakes_b0 (κ : Nat → Nat) (w : va_W) (a0 : Nat) (x1 : Int32) (x2 : Int32) (P : va_W → Prop) : Prop :=
    w_X6_markFlakes_b5 jFu κ w a0 x2 x1 0 P
set_option maxRecDepth 100000 in
set_option maxHeartbeats 4000000 in
theorem k_X6_markFlakes_b0 {Γ : jG} (X : jX Γ cX6_markFlakes 8 RX6) (hR : jgR Γ = ({ frames := 2, cells := 0, slots := 0, locals := 43 } : Room)) {P : va_W → Prop} (Rt : jRt Γ cX6_markFlakes 8 0 0 none (jPv P)) {w : va_W} {a0 : Nat} {x1 : Int32} {x2 : Int32} (h : w_X6_markFlakes_b0 (jgE Γ).2.2.2 w a0 x1 x2 P) : J Γ 8 w 0 0 0 [(0, .ref a0), (1, .int x1), (2, .int x2)] [] := by
  unfold w_X6_markFlakes_b0 at h
  refine j_iload_n X dX6_markFlakes_0 1 rfl ?_
  refine j_istore_n X [(3, .int x1), (0, .ref a0), (1, .int x1), (2, .int x2)] dX6_markFlakes_1 (by decide) rfl ?_
  refine j_iconst X 0 dX6_markFlakes_2 (by decide) ?_
  refine j_istore X [(4, .int 0), (3, .int x1), (0, .ref a0), (1, .int x1), (2, .int x2)] dX6_markFlakes_3 (by decide) rfl ?_
  refine j_sub [2, 4, 1, 0] rfl ?_
  exact k_X6_markFlakes_b5 X hR Rt _ h
def w_X6_markFlakes (κ : Nat → Nat) (w : va_W) (a0 : Nat) (x1 : Int32) (x2 : Int32) (P : va_W → Prop) : Prop := w_X6_markFlakes_b0 κ w a0 x1 x2 P
theorem c_X6_markFlakes {E : jE} {w : va_W} {a0 : Nat} {x1 : Int32} {x2 : Int32} {P : va_W → Prop} (h : w_X6_markFlakes E.2.2.2 w a0 x1 x2 P) : jC E yX6_markFlakes cX6_markFlakes 8 none ({ frames := 2, cells := 0, slots := 0, locals := 43 } : Room) [.ref a0, .int x1, .int x2] w 0 0 (jPv P) := by
  refine jC_of (by decide) (Nat.le_of_ble_eq_true rfl) ?_
  intro Γ X hE hR Rt
  subst hE
  exact k_X6_markFlakes_b0 X hR Rt h
theorem jm_X6_countCommonFlakes : jMv yX6_countCommonFlakes cX6_countCommonFlakes 5 (some .int) 2 := ⟨jw_1436, jw_1437, jw_27, jw_1438, ⟨by decide +kernel, by decide +kernel⟩, by decide +kernel⟩
def w_X6_countCommonFlakes_b48 (κ : Nat → Nat) (w : va_W) (a0 : Nat) (x3 : Int32) (x4 : Int32) (K25 : va_W → Nat → Int32 → Int32 → Prop) (P : Int32 → va_W → Prop) : Prop :=
    K25 w a0 x3 (x4 + 1)
set_option maxRecDepth 100000 in
set_option maxHeartbeats 4000000 in
theorem k_X6_countCommonFlakes_b48 {Γ : jG} (X : jX Γ cX6_countCommonFlakes 5 RX6) (hR : jgR Γ = ({ frames := 3, cells := 0, slots := 0, locals := 70 } : Room)) {P : Int32 → va_W → Prop} (Rt : jRt Γ cX6_countCommonFlakes 5 0 0 (some .int) (jPi P)) {K25 : va_W → Nat → Int32 → Int32 → Prop} (hK25 : ∀ (w : va_W) (a0 : Nat) (x3 : Int32) (x4 : Int32), K25 w a0 x3 x4 → J Γ 5 w 0 0 25 [(0, .ref a0), (3, .int x3), (4, .int x4)] []) {w : va_W} {a0 : Nat} {x3 : Int32} {x4 : Int32} (h : w_X6_countCommonFlakes_b48 (jgE Γ).2.2.2 w a0 x3 x4 K25 P) : J Γ 5 w 0 0 48 [(0, .ref a0), (3, .int x3), (4, .int x4)] [] := by
  unfold w_X6_countCommonFlakes_b48 at h
  refine j_iinc X (x4 + 1) [(4, .int (x4 + 1)), (0, .ref a0), (3, .int x3)] dX6_countCommonFlakes_48 2 rfl rfl (by decide) rfl ?_
  refine j_goto X 25 dX6_countCommonFlakes_51 (by decide) ?_
  refine j_sub [1, 2, 0] rfl ?_
  exact hK25 _ _ _ _ h
def w_X6_countCommonFlakes_b25 : Nat → (κ : Nat → Nat) → (w : va_W) → (a0 : Nat) → (x3 : Int32) → (x4 : Int32) → (P : Int32 → va_W → Prop) → Prop
  | 0, _, _, _, _, _, _ => False
  | n + 1, κ, w, a0, x3, x4, P =>
    (if 100 ≤ x4 then P x3 w else jgR' w a0 9 1 (fun r1 => (jRc w r1 6 ∧ w_X3_at κ w r1 x4 (fun v2 w2 => (if v2 = 3 then w_X6_countCommonFlakes_b48 κ w2 a0 (x3 + 1) x4 (fun w_ z_a0 z_x3 z_x4 => w_X6_countCommonFlakes_b25 n κ w_ z_a0 z_x3 z_x4 P) P else w_X6_countCommonFlakes_b48 κ w2 a0 x3 x4 (fun w_ z_a0 z_x3 z_x4 => w_X6_countCommonFlakes_b25 n κ w_ z_a0 z_x3 z_x4 P) P)))))
set_option maxRecDepth 100000 in
set_option maxHeartbeats 4000000 in
theorem k_X6_countCommonFlakes_b25 {Γ : jG} (X : jX Γ cX6_countCommonFlakes 5 RX6) (hR : jgR Γ = ({ frames := 3, cells := 0, slots := 0, locals := 70 } : Room)) {P : Int32 → va_W → Prop} (Rt : jRt Γ cX6_countCommonFlakes 5 0 0 (some .int) (jPi P)) : ∀ (n : Nat) {w : va_W} {a0 : Nat} {x3 : Int32} {x4 : Int32} (h : w_X6_countCommonFlakes_b25 n (jgE Γ).2.2.2 w a0 x3 x4 P), J Γ 5 w 0 0 25 [(0, .ref a0), (3, .int x3), (4, .int x4)] [] := by
  intro n
  induction n with
  | zero => intro w a0 x3 x4 h; exact False.elim h
  | succ n ih =>
    intro w a0 x3 x4 h
    rw [w_X6_countCommonFlakes_b25] at h
    refine j_iload X dX6_countCommonFlakes_25 2 rfl ?_
    refine j_bipush X 100 dX6_countCommonFlakes_27 (by decide) ?_
    refine j_icmp_ge X 54 dX6_countCommonFlakes_29 (by decide) (fun c => ?_) (fun c => ?_)
    · replace h := jif_t c h
      refine j_iload_n X dX6_countCommonFlakes_54 1 rfl ?_
      exact Rt.i dX6_countCommonFlakes_55 ⟨_, rfl, h⟩ (by first | decide | omega) (by first | decide | omega)
    · replace h := jif_f c h
      refine j_aload_n X dX6_countCommonFlakes_32 0 rfl ?_
      obtain ⟨fs1, r1, g1, i1, h⟩ := h
      refine j_get X (ci := 9) (C := RX6) (T := TX6) (N := 2) rfl jin_X6 1 (by decide) g1 i1 jw_179 rfl dX6_countCommonFlakes_33 ?_
      refine j_iload X dX6_countCommonFlakes_36 2 rfl ?_
      obtain ⟨⟨fs2, g2⟩, h⟩ := h
      refine j_callVi X [.int x4] [] (c_X3_at h) (T := TX3) (N := 1) g2 rfl jm_X3_at jw_620 rfl ⟨rfl, rfl⟩ (by rw [hR]; decide) rfl (Nat.le_of_ble_eq_true rfl) dX6_countCommonFlakes_38 (fun v2 w2 h => ?_)
      refine j_iconst X 3 dX6_countCommonFlakes_41 (by decide) ?_
      refine j_icmp_ne X 48 dX6_countCommonFlakes_42 (by decide) (fun c => ?_) (fun c => ?_)
      · replace h := jif_f c h
        exact k_X6_countCommonFlakes_b48 X hR Rt (fun _ _ _ _ h => ih h) h
      · replace h := jif_t c h
        refine j_iinc X (x3 + 1) [(3, .int (x3 + 1)), (0, .ref a0), (4, .int x4)] dX6_countCommonFlakes_45 1 rfl rfl (by decide) rfl ?_
        refine j_sub [1, 0, 2] rfl ?_
        exact k_X6_countCommonFlakes_b48 X hR Rt (fun _ _ _ _ h => ih h) h
def w_X6_countCommonFlakes_b0 (κ : Nat → Nat) (w : va_W) (a0 : Nat) (x1 : Int32) (x2 : Int32) (P : Int32 → va_W → Prop) : Prop :=
    jgR' w a0 9 1 (fun r1 => (jRc w r1 6 ∧ w_X3_fill κ w r1 0 (fun w2 => (jRc w2 a0 9 ∧ w_X6_markFlakes κ w2 a0 x1 1 (fun w3 => (jRc w3 a0 9 ∧ w_X6_markFlakes κ w3 a0 x2 2 (fun w4 => w_X6_countCommonFlakes_b25 jFu κ w4 a0 0 0 P)))))))
set_option maxRecDepth 100000 in
set_option maxHeartbeats 4000000 in
theorem k_X6_countCommonFlakes_b0 {Γ : jG} (X : jX Γ cX6_countCommonFlakes 5 RX6) (hR : jgR Γ = ({ frames := 3, cells := 0, slots := 0, locals := 70 } : Room)) {P : Int32 → va_W → Prop} (Rt : jRt Γ cX6_countCommonFlakes 5 0 0 (some .int) (jPi P)) {w : va_W} {a0 : Nat} {x1 : Int32} {x2 : Int32} (h : w_X6_countCommonFlakes_b0 (jgE Γ).2.2.2 w a0 x1 x2 P) : J Γ 5 w 0 0 0 [(0, .ref a0), (1, .int x1), (2, .int x2)] [] := by
  unfold w_X6_countCommonFlakes_b0 at h
  refine j_aload_n X dX6_countCommonFlakes_0 0 rfl ?_
  obtain ⟨fs1, r1, g1, i1, h⟩ := h
  refine j_get X (ci := 9) (C := RX6) (T := TX6) (N := 2) rfl jin_X6 1 (by decide) g1 i1 jw_179 rfl dX6_countCommonFlakes_1 ?_
  refine j_iconst X 0 dX6_countCommonFlakes_4 (by decide) ?_
  obtain ⟨⟨fs2, g2⟩, h⟩ := h
  refine j_callVv X [.int 0] [] (c_X3_fill h) (T := TX3) (N := 1) g2 rfl jm_X3_fill jw_1439 rfl ⟨rfl, rfl⟩ (by rw [hR]; decide) rfl (Nat.le_of_ble_eq_true rfl) dX6_countCommonFlakes_5 (fun w2 h => ?_)
  refine j_aload_n X dX6_countCommonFlakes_8 0 rfl ?_
  refine j_iload_n X dX6_countCommonFlakes_9 1 rfl ?_
  refine j_iconst X 1 dX6_countCommonFlakes_10 (by decide) ?_
  obtain ⟨⟨fs3, g3⟩, h⟩ := h
  refine j_callVv X [.int x1, .int 1] [] (c_X6_markFlakes h) (T := TX6) (N := 2) g3 rfl jm_X6_markFlakes jw_1443 rfl ⟨rfl, rfl⟩ (by rw [hR]; decide) rfl (Nat.le_of_ble_eq_true rfl) dX6_countCommonFlakes_11 (fun w3 h => ?_)
  refine j_aload_n X dX6_countCommonFlakes_14 0 rfl ?_
  refine j_iload_n X dX6_countCommonFlakes_15 2 rfl ?_
  refine j_iconst X 2 dX6_countCommonFlakes_16 (by decide) ?_
  obtain ⟨⟨fs4, g4⟩, h⟩ := h
  refine j_callVv X [.int x2, .int 2] [] (c_X6_markFlakes h) (T := TX6) (N := 2) g4 rfl jm_X6_markFlakes jw_1443 rfl ⟨rfl, rfl⟩ (by rw [hR]; decide) rfl (Nat.le_of_ble_eq_true rfl) dX6_countCommonFlakes_17 (fun w4 h => ?_)
  refine j_iconst X 0 dX6_countCommonFlakes_20 (by decide) ?_
  refine j_istore_n X [(3, .int 0), (0, .ref a0), (1, .int x1), (2, .int x2)] dX6_countCommonFlakes_21 (by decide) rfl ?_
  refine j_iconst X 0 dX6_countCommonFlakes_22 (by decide) ?_
  refine j_istore X [(4, .int 0), (3, .int 0), (0, .ref a0), (1, .int x1), (2, .int x2)] dX6_countCommonFlakes_23 (by decide) rfl ?_
  refine j_sub [2, 1, 0] rfl ?_
  exact k_X6_countCommonFlakes_b25 X hR Rt _ h
def w_X6_countCommonFlakes (κ : Nat → Nat) (w : va_W) (a0 : Nat) (x1 : Int32) (x2 : Int32) (P : Int32 → va_W → Prop) : Prop := w_X6_countCommonFlakes_b0 κ w a0 x1 x2 P
theorem c_X6_countCommonFlakes {E : jE} {w : va_W} {a0 : Nat} {x1 : Int32} {x2 : Int32} {P : Int32 → va_W → Prop} (h : w_X6_countCommonFlakes E.2.2.2 w a0 x1 x2 P) : jC E yX6_countCommonFlakes cX6_countCommonFlakes 5 (some .int) ({ frames := 3, cells := 0, slots := 0, locals := 70 } : Room) [.ref a0, .int x1, .int x2] w 0 0 (jPi P) := by
  refine jC_of (by decide) (Nat.le_of_ble_eq_true rfl) ?_
  intro Γ X hE hR Rt
  subst hE
  exact k_X6_countCommonFlakes_b0 X hR Rt h
theorem jm_X6_isTip : jMv yX6_isTip cX6_isTip 2 (some .boolean) 1 := ⟨jw_1492, jw_1493, jw_27, jw_1494, ⟨by decide +kernel, by decide +kernel⟩, by decide +kernel⟩
def w_X6_isTip_b24 (κ : Nat → Nat) (w : va_W) (s0 : Int32) (P : Int32 → va_W → Prop) : Prop :=
    (narrow .boolean (.int s0) = .int s0 ∧ P s0 w)
set_option maxRecDepth 100000 in
set_option maxHeartbeats 4000000 in
theorem k_X6_isTip_b24 {Γ : jG} (X : jX Γ cX6_isTip 2 RX6) (hR : jgR Γ = ({ frames := 2, cells := 0, slots := 0, locals := 44 } : Room)) {P : Int32 → va_W → Prop} (Rt : jRt Γ cX6_isTip 2 0 0 (some .boolean) (jPi P)) {w : va_W} {s0 : Int32} (h : w_X6_isTip_b24 (jgE Γ).2.2.2 w s0 P) : J Γ 2 w 0 0 24 [] [.int s0] := by
  unfold w_X6_isTip_b24 at h
  exact Rt.z dX6_isTip_24 h.1 ⟨_, rfl, h.2⟩ (by first | decide | omega) (by first | decide | omega)
def w_X6_isTip_b23 (κ : Nat → Nat) (w : va_W) (P : Int32 → va_W → Prop) : Prop :=
    w_X6_isTip_b24 κ w 0 P
set_option maxRecDepth 100000 in
set_option maxHeartbeats 4000000 in
theorem k_X6_isTip_b23 {Γ : jG} (X : jX Γ cX6_isTip 2 RX6) (hR : jgR Γ = ({ frames := 2, cells := 0, slots := 0, locals := 44 } : Room)) {P : Int32 → va_W → Prop} (Rt : jRt Γ cX6_isTip 2 0 0 (some .boolean) (jPi P)) {w : va_W} (h : w_X6_isTip_b23 (jgE Γ).2.2.2 w  P) : J Γ 2 w 0 0 23 [] [] := by
  unfold w_X6_isTip_b23 at h
  refine j_iconst X 0 dX6_isTip_23 (by decide) ?_
  exact k_X6_isTip_b24 X hR Rt h
def w_X6_isTip_b0 (κ : Nat → Nat) (w : va_W) (a0 : Nat) (x1 : Int32) (P : Int32 → va_W → Prop) : Prop :=
    jgR' w a0 9 0 (fun r1 => (jRc w r1 8 ∧ w_X5_isUsed κ w r1 x1 (fun v2 w2 => (if v2 = 0 then w_X6_isTip_b23 κ w2  P else (jRc w2 a0 9 ∧ w_X6_countChildren κ w2 a0 x1 (fun v3 w3 => (if v3 = 0 then w_X6_isTip_b24 κ w3 1 P else w_X6_isTip_b23 κ w3  P)))))))
set_option maxRecDepth 100000 in
set_option maxHeartbeats 4000000 in
theorem k_X6_isTip_b0 {Γ : jG} (X : jX Γ cX6_isTip 2 RX6) (hR : jgR Γ = ({ frames := 2, cells := 0, slots := 0, locals := 44 } : Room)) {P : Int32 → va_W → Prop} (Rt : jRt Γ cX6_isTip 2 0 0 (some .boolean) (jPi P)) {w : va_W} {a0 : Nat} {x1 : Int32} (h : w_X6_isTip_b0 (jgE Γ).2.2.2 w a0 x1 P) : J Γ 2 w 0 0 0 [(0, .ref a0), (1, .int x1)] [] := by
  unfold w_X6_isTip_b0 at h
  refine j_aload_n X dX6_isTip_0 0 rfl ?_
  obtain ⟨fs1, r1, g1, i1, h⟩ := h
  refine j_get X (ci := 9) (C := RX6) (T := TX6) (N := 2) rfl jin_X6 0 (by decide) g1 i1 jw_178 rfl dX6_isTip_1 ?_
  refine j_iload_n X dX6_isTip_4 1 rfl ?_
  obtain ⟨⟨fs2, g2⟩, h⟩ := h
  refine j_callVi X [.int x1] [] (c_X5_isUsed h) (T := TX5) (N := 12) g2 rfl jm_X5_isUsed jw_363 rfl ⟨rfl, rfl⟩ (by rw [hR]; decide) rfl (Nat.le_of_ble_eq_true rfl) dX6_isTip_5 (fun v2 w2 h => ?_)
  refine j_if_eq X 23 dX6_isTip_8 (by decide) (fun c => ?_) (fun c => ?_)
  · replace h := jif_t c h
    refine j_sub [] rfl ?_
    exact k_X6_isTip_b23 X hR Rt h
  · replace h := jif_f c h
    refine j_aload_n X dX6_isTip_11 0 rfl ?_
    refine j_iload_n X dX6_isTip_12 1 rfl ?_
    obtain ⟨⟨fs3, g3⟩, h⟩ := h
    refine j_callVi X [.int x1] [] (c_X6_countChildren h) (T := TX6) (N := 2) g3 rfl jm_X6_countChildren jw_1495 rfl ⟨rfl, rfl⟩ (by rw [hR]; decide) rfl (Nat.le_of_ble_eq_true rfl) dX6_isTip_13 (fun v3 w3 h => ?_)
    refine j_if_ne X 23 dX6_isTip_16 (by decide) (fun c => ?_) (fun c => ?_)
    · replace h := jif_f c h
      refine j_sub [] rfl ?_
      exact k_X6_isTip_b23 X hR Rt h
    · replace h := jif_t c h
      refine j_iconst X 1 dX6_isTip_19 (by decide) ?_
      refine j_goto X 24 dX6_isTip_20 (by decide) ?_
      refine j_sub [] rfl ?_
      exact k_X6_isTip_b24 X hR Rt h
def w_X6_isTip (κ : Nat → Nat) (w : va_W) (a0 : Nat) (x1 : Int32) (P : Int32 → va_W → Prop) : Prop := w_X6_isTip_b0 κ w a0 x1 P
theorem c_X6_isTip {E : jE} {w : va_W} {a0 : Nat} {x1 : Int32} {P : Int32 → va_W → Prop} (h : w_X6_isTip E.2.2.2 w a0 x1 P) : jC E yX6_isTip cX6_isTip 2 (some .boolean) ({ frames := 2, cells := 0, slots := 0, locals := 44 } : Room) [.ref a0, .int x1] w 0 0 (jPi P) := by
  refine jC_of (by decide) (Nat.le_of_ble_eq_true rfl) ?_
  intro Γ X hE hR Rt
  subst hE
  exact k_X6_isTip_b0 X hR Rt h
theorem jm_X6_countTips : jMv yX6_countTips cX6_countTips 3 (some .int) 0 := ⟨jw_1488, jw_1489, jw_27, jw_1490, ⟨by decide +kernel, by decide +kernel⟩, by decide +kernel⟩
def w_X6_countTips_b21 (κ : Nat → Nat) (w : va_W) (a0 : Nat) (x1 : Int32) (x2 : Int32) (K4 : va_W → Nat → Int32 → Int32 → Prop) (P : Int32 → va_W → Prop) : Prop :=
    K4 w a0 x1 (x2 + 1)
set_option maxRecDepth 100000 in
set_option maxHeartbeats 4000000 in
theorem k_X6_countTips_b21 {Γ : jG} (X : jX Γ cX6_countTips 3 RX6) (hR : jgR Γ = ({ frames := 3, cells := 0, slots := 0, locals := 65 } : Room)) {P : Int32 → va_W → Prop} (Rt : jRt Γ cX6_countTips 3 0 0 (some .int) (jPi P)) {K4 : va_W → Nat → Int32 → Int32 → Prop} (hK4 : ∀ (w : va_W) (a0 : Nat) (x1 : Int32) (x2 : Int32), K4 w a0 x1 x2 → J Γ 3 w 0 0 4 [(0, .ref a0), (1, .int x1), (2, .int x2)] []) {w : va_W} {a0 : Nat} {x1 : Int32} {x2 : Int32} (h : w_X6_countTips_b21 (jgE Γ).2.2.2 w a0 x1 x2 K4 P) : J Γ 3 w 0 0 21 [(0, .ref a0), (1, .int x1), (2, .int x2)] [] := by
  unfold w_X6_countTips_b21 at h
  refine j_iinc X (x2 + 1) [(2, .int (x2 + 1)), (0, .ref a0), (1, .int x1)] dX6_countTips_21 2 rfl rfl (by decide) rfl ?_
  refine j_goto X 4 dX6_countTips_24 (by decide) ?_
  refine j_sub [1, 2, 0] rfl ?_
  exact hK4 _ _ _ _ h
def w_X6_countTips_b4 : Nat → (κ : Nat → Nat) → (w : va_W) → (a0 : Nat) → (x1 : Int32) → (x2 : Int32) → (P : Int32 → va_W → Prop) → Prop
  | 0, _, _, _, _, _, _ => False
  | n + 1, κ, w, a0, x1, x2, P =>
    (if 16 ≤ x2 then P x1 w else (jRc w a0 9 ∧ w_X6_isTip κ w a0 x2 (fun v1 w1 => (if v1 = 0 then w_X6_countTips_b21 κ w1 a0 x1 x2 (fun w_ z_a0 z_x1 z_x2 => w_X6_countTips_b4 n κ w_ z_a0 z_x1 z_x2 P) P else w_X6_countTips_b21 κ w1 a0 (x1 + 1) x2 (fun w_ z_a0 z_x1 z_x2 => w_X6_countTips_b4 n κ w_ z_a0 z_x1 z_x2 P) P))))
set_option maxRecDepth 100000 in
set_option maxHeartbeats 4000000 in
theorem k_X6_countTips_b4 {Γ : jG} (X : jX Γ cX6_countTips 3 RX6) (hR : jgR Γ = ({ frames := 3, cells := 0, slots := 0, locals := 65 } : Room)) {P : Int32 → va_W → Prop} (Rt : jRt Γ cX6_countTips 3 0 0 (some .int) (jPi P)) : ∀ (n : Nat) {w : va_W} {a0 : Nat} {x1 : Int32} {x2 : Int32} (h : w_X6_countTips_b4 n (jgE Γ).2.2.2 w a0 x1 x2 P), J Γ 3 w 0 0 4 [(0, .ref a0), (1, .int x1), (2, .int x2)] [] := by
  intro n
  induction n with
  | zero => intro w a0 x1 x2 h; exact False.elim h
  | succ n ih =>
    intro w a0 x1 x2 h
    rw [w_X6_countTips_b4] at h
    refine j_iload_n X dX6_countTips_4 2 rfl ?_
    refine j_bipush X 16 dX6_countTips_5 (by decide) ?_
    refine j_icmp_ge X 27 dX6_countTips_7 (by decide) (fun c => ?_) (fun c => ?_)
    · replace h := jif_t c h
      refine j_iload_n X dX6_countTips_27 1 rfl ?_
      exact Rt.i dX6_countTips_28 ⟨_, rfl, h⟩ (by first | decide | omega) (by first | decide | omega)
    · replace h := jif_f c h
      refine j_aload_n X dX6_countTips_10 0 rfl ?_
      refine j_iload_n X dX6_countTips_11 2 rfl ?_
      obtain ⟨⟨fs1, g1⟩, h⟩ := h
      refine j_callVi X [.int x2] [] (c_X6_isTip h) (T := TX6) (N := 2) g1 rfl jm_X6_isTip jw_1491 rfl ⟨rfl, rfl⟩ (by rw [hR]; decide) rfl (Nat.le_of_ble_eq_true rfl) dX6_countTips_12 (fun v1 w1 h => ?_)
      refine j_if_eq X 21 dX6_countTips_15 (by decide) (fun c => ?_) (fun c => ?_)
      · replace h := jif_t c h
        exact k_X6_countTips_b21 X hR Rt (fun _ _ _ _ h => ih h) h
      · replace h := jif_f c h
        refine j_iinc X (x1 + 1) [(1, .int (x1 + 1)), (0, .ref a0), (2, .int x2)] dX6_countTips_18 1 rfl rfl (by decide) rfl ?_
        refine j_sub [1, 0, 2] rfl ?_
        exact k_X6_countTips_b21 X hR Rt (fun _ _ _ _ h => ih h) h
def w_X6_countTips_b0 (κ : Nat → Nat) (w : va_W) (a0 : Nat) (P : Int32 → va_W → Prop) : Prop :=
    w_X6_countTips_b4 jFu κ w a0 0 0 P
set_option maxRecDepth 100000 in
set_option maxHeartbeats 4000000 in
theorem k_X6_countTips_b0 {Γ : jG} (X : jX Γ cX6_countTips 3 RX6) (hR : jgR Γ = ({ frames := 3, cells := 0, slots := 0, locals := 65 } : Room)) {P : Int32 → va_W → Prop} (Rt : jRt Γ cX6_countTips 3 0 0 (some .int) (jPi P)) {w : va_W} {a0 : Nat} (h : w_X6_countTips_b0 (jgE Γ).2.2.2 w a0 P) : J Γ 3 w 0 0 0 [(0, .ref a0)] [] := by
  unfold w_X6_countTips_b0 at h
  refine j_iconst X 0 dX6_countTips_0 (by decide) ?_
  refine j_istore_n X [(1, .int 0), (0, .ref a0)] dX6_countTips_1 (by decide) rfl ?_
  refine j_iconst X 0 dX6_countTips_2 (by decide) ?_
  refine j_istore_n X [(2, .int 0), (1, .int 0), (0, .ref a0)] dX6_countTips_3 (by decide) rfl ?_
  refine j_sub [2, 1, 0] rfl ?_
  exact k_X6_countTips_b4 X hR Rt _ h
def w_X6_countTips (κ : Nat → Nat) (w : va_W) (a0 : Nat) (P : Int32 → va_W → Prop) : Prop := w_X6_countTips_b0 κ w a0 P
theorem c_X6_countTips {E : jE} {w : va_W} {a0 : Nat} {P : Int32 → va_W → Prop} (h : w_X6_countTips E.2.2.2 w a0 P) : jC E yX6_countTips cX6_countTips 3 (some .int) ({ frames := 3, cells := 0, slots := 0, locals := 65 } : Room) [.ref a0] w 0 0 (jPi P) := by
  refine jC_of (by decide) (Nat.le_of_ble_eq_true rfl) ?_
  intro Γ X hE hR Rt
  subst hE
  exact k_X6_countTips_b0 X hR Rt h
theorem jm_X6_sumOfTipHeights : jMv yX6_sumOfTipHeights cX6_sumOfTipHeights 3 (some .int) 0 := ⟨jw_1528, jw_1529, jw_27, jw_1530, ⟨by decide +kernel, by decide +kernel⟩, by decide +kernel⟩
def w_X6_sumOfTipHeights_b26 (κ : Nat → Nat) (w : va_W) (a0 : Nat) (x1 : Int32) (x2 : Int32) (K4 : va_W → Nat → Int32 → Int32 → Prop) (P : Int32 → va_W → Prop) : Prop :=
    K4 w a0 x1 (x2 + 1)
set_option maxRecDepth 100000 in
set_option maxHeartbeats 4000000 in
theorem k_X6_sumOfTipHeights_b26 {Γ : jG} (X : jX Γ cX6_sumOfTipHeights 3 RX6) (hR : jgR Γ = ({ frames := 3, cells := 0, slots := 0, locals := 65 } : Room)) {P : Int32 → va_W → Prop} (Rt : jRt Γ cX6_sumOfTipHeights 3 0 0 (some .int) (jPi P)) {K4 : va_W → Nat → Int32 → Int32 → Prop} (hK4 : ∀ (w : va_W) (a0 : Nat) (x1 : Int32) (x2 : Int32), K4 w a0 x1 x2 → J Γ 3 w 0 0 4 [(0, .ref a0), (1, .int x1), (2, .int x2)] []) {w : va_W} {a0 : Nat} {x1 : Int32} {x2 : Int32} (h : w_X6_sumOfTipHeights_b26 (jgE Γ).2.2.2 w a0 x1 x2 K4 P) : J Γ 3 w 0 0 26 [(0, .ref a0), (1, .int x1), (2, .int x2)] [] := by
  unfold w_X6_sumOfTipHeights_b26 at h
  refine j_iinc X (x2 + 1) [(2, .int (x2 + 1)), (0, .ref a0), (1, .int x1)] dX6_sumOfTipHeights_26 2 rfl rfl (by decide) rfl ?_
  refine j_goto X 4 dX6_sumOfTipHeights_29 (by decide) ?_
  refine j_sub [1, 2, 0] rfl ?_
  exact hK4 _ _ _ _ h
def w_X6_sumOfTipHeights_b4 : Nat → (κ : Nat → Nat) → (w : va_W) → (a0 : Nat) → (x1 : Int32) → (x2 : Int32) → (P : Int32 → va_W → Prop) → Prop
  | 0, _, _, _, _, _, _ => False
  | n + 1, κ, w, a0, x1, x2, P =>
    (if 16 ≤ x2 then P x1 w else (jRc w a0 9 ∧ w_X6_isTip κ w a0 x2 (fun v1 w1 => (if v1 = 0 then w_X6_sumOfTipHeights_b26 κ w1 a0 x1 x2 (fun w_ z_a0 z_x1 z_x2 => w_X6_sumOfTipHeights_b4 n κ w_ z_a0 z_x1 z_x2 P) P else (jRc w1 a0 9 ∧ w_X6_heightByWalk κ w1 a0 x2 (fun v2 w2 => w_X6_sumOfTipHeights_b26 κ w2 a0 (x1 + v2) x2 (fun w_ z_a0 z_x1 z_x2 => w_X6_sumOfTipHeights_b4 n κ w_ z_a0 z_x1 z_x2 P) P))))))
set_option maxRecDepth 100000 in
set_option maxHeartbeats 4000000 in
theorem k_X6_sumOfTipHeights_b4 {Γ : jG} (X : jX Γ cX6_sumOfTipHeights 3 RX6) (hR : jgR Γ = ({ frames := 3, cells := 0, slots := 0, locals := 65 } : Room)) {P : Int32 → va_W → Prop} (Rt : jRt Γ cX6_sumOfTipHeights 3 0 0 (some .int) (jPi P)) : ∀ (n : Nat) {w : va_W} {a0 : Nat} {x1 : Int32} {x2 : Int32} (h : w_X6_sumOfTipHeights_b4 n (jgE Γ).2.2.2 w a0 x1 x2 P), J Γ 3 w 0 0 4 [(0, .ref a0), (1, .int x1), (2, .int x2)] [] := by
  intro n
  induction n with
  | zero => intro w a0 x1 x2 h; exact False.elim h
  | succ n ih =>
    intro w a0 x1 x2 h
    rw [w_X6_sumOfTipHeights_b4] at h
    refine j_iload_n X dX6_sumOfTipHeights_4 2 rfl ?_
    refine j_bipush X 16 dX6_sumOfTipHeights_5 (by decide) ?_
    refine j_icmp_ge X 32 dX6_sumOfTipHeights_7 (by decide) (fun c => ?_) (fun c => ?_)
    · replace h := jif_t c h
      refine j_iload_n X dX6_sumOfTipHeights_32 1 rfl ?_
      exact Rt.i dX6_sumOfTipHeights_33 ⟨_, rfl, h⟩ (by first | decide | omega) (by first | decide | omega)
    · replace h := jif_f c h
      refine j_aload_n X dX6_sumOfTipHeights_10 0 rfl ?_
      refine j_iload_n X dX6_sumOfTipHeights_11 2 rfl ?_
      obtain ⟨⟨fs1, g1⟩, h⟩ := h
      refine j_callVi X [.int x2] [] (c_X6_isTip h) (T := TX6) (N := 2) g1 rfl jm_X6_isTip jw_1491 rfl ⟨rfl, rfl⟩ (by rw [hR]; decide) rfl (Nat.le_of_ble_eq_true rfl) dX6_sumOfTipHeights_12 (fun v1 w1 h => ?_)
      refine j_if_eq X 26 dX6_sumOfTipHeights_15 (by decide) (fun c => ?_) (fun c => ?_)
      · replace h := jif_t c h
        exact k_X6_sumOfTipHeights_b26 X hR Rt (fun _ _ _ _ h => ih h) h
      · replace h := jif_f c h
        refine j_iload_n X dX6_sumOfTipHeights_18 1 rfl ?_
        refine j_aload_n X dX6_sumOfTipHeights_19 0 rfl ?_
        refine j_iload_n X dX6_sumOfTipHeights_20 2 rfl ?_
        obtain ⟨⟨fs2, g2⟩, h⟩ := h
        refine j_callVi X [.int x2] [.int x1] (c_X6_heightByWalk h) (T := TX6) (N := 2) g2 rfl jm_X6_heightByWalk jw_1315 rfl ⟨rfl, rfl⟩ (by rw [hR]; decide) rfl (Nat.le_of_ble_eq_true rfl) dX6_sumOfTipHeights_21 (fun v2 w2 h => ?_)
        refine j_iadd X dX6_sumOfTipHeights_24 ?_
        refine j_istore_n X [(1, .int (x1 + v2)), (0, .ref a0), (2, .int x2)] dX6_sumOfTipHeights_25 (by decide) rfl ?_
        refine j_sub [1, 0, 2] rfl ?_
        exact k_X6_sumOfTipHeights_b26 X hR Rt (fun _ _ _ _ h => ih h) h
def w_X6_sumOfTipHeights_b0 (κ : Nat → Nat) (w : va_W) (a0 : Nat) (P : Int32 → va_W → Prop) : Prop :=
    w_X6_sumOfTipHeights_b4 jFu κ w a0 0 0 P
set_option maxRecDepth 100000 in
set_option maxHeartbeats 4000000 in
theorem k_X6_sumOfTipHeights_b0 {Γ : jG} (X : jX Γ cX6_sumOfTipHeights 3 RX6) (hR : jgR Γ = ({ frames := 3, cells := 0, slots := 0, locals := 65 } : Room)) {P : Int32 → va_W → Prop} (Rt : jRt Γ cX6_sumOfTipHeights 3 0 0 (some .int) (jPi P)) {w : va_W} {a0 : Nat} (h : w_X6_sumOfTipHeights_b0 (jgE Γ).2.2.2 w a0 P) : J Γ 3 w 0 0 0 [(0, .ref a0)] [] := by
  unfold w_X6_sumOfTipHeights_b0 at h
  refine j_iconst X 0 dX6_sumOfTipHeights_0 (by decide) ?_
  refine j_istore_n X [(1, .int 0), (0, .ref a0)] dX6_sumOfTipHeights_1 (by decide) rfl ?_
  refine j_iconst X 0 dX6_sumOfTipHeights_2 (by decide) ?_
  refine j_istore_n X [(2, .int 0), (1, .int 0), (0, .ref a0)] dX6_sumOfTipHeights_3 (by decide) rfl ?_
  refine j_sub [2, 1, 0] rfl ?_
  exact k_X6_sumOfTipHeights_b4 X hR Rt _ h
def w_X6_sumOfTipHeights (κ : Nat → Nat) (w : va_W) (a0 : Nat) (P : Int32 → va_W → Prop) : Prop := w_X6_sumOfTipHeights_b0 κ w a0 P
theorem c_X6_sumOfTipHeights {E : jE} {w : va_W} {a0 : Nat} {P : Int32 → va_W → Prop} (h : w_X6_sumOfTipHeights E.2.2.2 w a0 P) : jC E yX6_sumOfTipHeights cX6_sumOfTipHeights 3 (some .int) ({ frames := 3, cells := 0, slots := 0, locals := 65 } : Room) [.ref a0] w 0 0 (jPi P) := by
  refine jC_of (by decide) (Nat.le_of_ble_eq_true rfl) ?_
  intro Γ X hE hR Rt
  subst hE
  exact k_X6_sumOfTipHeights_b0 X hR Rt h
theorem jm_X6_ranksBefore : jMv yX6_ranksBefore cX6_ranksBefore 5 (some .boolean) 2 := ⟨jw_1313, jw_17, jw_27, jw_1314, ⟨by decide +kernel, by decide +kernel⟩, by decide +kernel⟩
def w_X6_ranksBefore_b117 (κ : Nat → Nat) (w : va_W) (s0 : Int32) (P : Int32 → va_W → Prop) : Prop :=
    (narrow .boolean (.int s0) = .int s0 ∧ P s0 w)
set_option maxRecDepth 100000 in
set_option maxHeartbeats 4000000 in
theorem k_X6_ranksBefore_b117 {Γ : jG} (X : jX Γ cX6_ranksBefore 5 RX6) (hR : jgR Γ = ({ frames := 2, cells := 0, slots := 0, locals := 44 } : Room)) {P : Int32 → va_W → Prop} (Rt : jRt Γ cX6_ranksBefore 5 0 0 (some .boolean) (jPi P)) {w : va_W} {s0 : Int32} (h : w_X6_ranksBefore_b117 (jgE Γ).2.2.2 w s0 P) : J Γ 5 w 0 0 117 [] [.int s0] := by
  unfold w_X6_ranksBefore_b117 at h
  exact Rt.z dX6_ranksBefore_117 h.1 ⟨_, rfl, h.2⟩ (by first | decide | omega) (by first | decide | omega)
def w_X6_ranksBefore_b86 (κ : Nat → Nat) (w : va_W) (s0 : Int32) (P : Int32 → va_W → Prop) : Prop :=
    (narrow .boolean (.int s0) = .int s0 ∧ P s0 w)
set_option maxRecDepth 100000 in
set_option maxHeartbeats 4000000 in
theorem k_X6_ranksBefore_b86 {Γ : jG} (X : jX Γ cX6_ranksBefore 5 RX6) (hR : jgR Γ = ({ frames := 2, cells := 0, slots := 0, locals := 44 } : Room)) {P : Int32 → va_W → Prop} (Rt : jRt Γ cX6_ranksBefore 5 0 0 (some .boolean) (jPi P)) {w : va_W} {s0 : Int32} (h : w_X6_ranksBefore_b86 (jgE Γ).2.2.2 w s0 P) : J Γ 5 w 0 0 86 [] [.int s0] := by
  unfold w_X6_ranksBefore_b86 at h
  exact Rt.z dX6_ranksBefore_86 h.1 ⟨_, rfl, h.2⟩ (by first | decide | omega) (by first | decide | omega)
def w_X6_ranksBefore_b30 (κ : Nat → Nat) (w : va_W) (s0 : Int32) (P : Int32 → va_W → Prop) : Prop :=
    (narrow .boolean (.int s0) = .int s0 ∧ P s0 w)
set_option maxRecDepth 100000 in
set_option maxHeartbeats 4000000 in
theorem k_X6_ranksBefore_b30 {Γ : jG} (X : jX Γ cX6_ranksBefore 5 RX6) (hR : jgR Γ = ({ frames := 2, cells := 0, slots := 0, locals := 44 } : Room)) {P : Int32 → va_W → Prop} (Rt : jRt Γ cX6_ranksBefore 5 0 0 (some .boolean) (jPi P)) {w : va_W} {s0 : Int32} (h : w_X6_ranksBefore_b30 (jgE Γ).2.2.2 w s0 P) : J Γ 5 w 0 0 30 [] [.int s0] := by
  unfold w_X6_ranksBefore_b30 at h
  exact Rt.z dX6_ranksBefore_30 h.1 ⟨_, rfl, h.2⟩ (by first | decide | omega) (by first | decide | omega)
def w_X6_ranksBefore_b0 (κ : Nat → Nat) (w : va_W) (a0 : Nat) (x1 : Int32) (x2 : Int32) (P : Int32 → va_W → Prop) : Prop :=
    (jRc w a0 9 ∧ w_X6_heightByWalk κ w a0 x1 (fun v1 w1 => (jRc w1 a0 9 ∧ w_X6_heightByWalk κ w1 a0 x2 (fun v2 w2 => (if v1 = v2 then jgR' w2 a0 9 0 (fun r3 => jgR' w2 r3 8 3 (fun r4 => (jRc w2 r4 6 ∧ w_X3_at κ w2 r4 x1 (fun v5 w5 => jgR' w5 a0 9 0 (fun r6 => jgR' w5 r6 8 3 (fun r7 => (jRc w5 r7 6 ∧ w_X3_at κ w5 r7 x2 (fun v8 w8 => (if v5 = v8 then jgR' w8 a0 9 0 (fun r9 => jgR' w8 r9 8 0 (fun r10 => (jRc w8 r10 6 ∧ w_X3_at κ w8 r10 x1 (fun v11 w11 => jgR' w11 a0 9 0 (fun r12 => jgR' w11 r12 8 0 (fun r13 => (jRc w11 r13 6 ∧ w_X3_at κ w11 r13 x2 (fun v14 w14 => (if v14 ≤ v11 then w_X6_ranksBefore_b117 κ w14 0 P else w_X6_ranksBefore_b117 κ w14 1 P))))))))) else jgR' w8 a0 9 0 (fun r15 => jgR' w8 r15 8 3 (fun r16 => (jRc w8 r16 6 ∧ w_X3_at κ w8 r16 x1 (fun v17 w17 => jgR' w17 a0 9 0 (fun r18 => jgR' w17 r18 8 3 (fun r19 => (jRc w17 r19 6 ∧ w_X3_at κ w17 r19 x2 (fun v20 w20 => (if v20 ≤ v17 then w_X6_ranksBefore_b86 κ w20 0 P else w_X6_ranksBefore_b86 κ w20 1 P)))))))))))))))))) else (if v1 ≤ v2 then w_X6_ranksBefore_b30 κ w2 0 P else w_X6_ranksBefore_b30 κ w2 1 P))))))
set_option maxRecDepth 100000 in
set_option maxHeartbeats 4000000 in
theorem k_X6_ranksBefore_b0 {Γ : jG} (X : jX Γ cX6_ranksBefore 5 RX6) (hR : jgR Γ = ({ frames := 2, cells := 0, slots := 0, locals := 44 } : Room)) {P : Int32 → va_W → Prop} (Rt : jRt Γ cX6_ranksBefore 5 0 0 (some .boolean) (jPi P)) {w : va_W} {a0 : Nat} {x1 : Int32} {x2 : Int32} (h : w_X6_ranksBefore_b0 (jgE Γ).2.2.2 w a0 x1 x2 P) : J Γ 5 w 0 0 0 [(0, .ref a0), (1, .int x1), (2, .int x2)] [] := by
  unfold w_X6_ranksBefore_b0 at h
  refine j_aload_n X dX6_ranksBefore_0 0 rfl ?_
  refine j_iload_n X dX6_ranksBefore_1 1 rfl ?_
  obtain ⟨⟨fs1, g1⟩, h⟩ := h
  refine j_callVi X [.int x1] [] (c_X6_heightByWalk h) (T := TX6) (N := 2) g1 rfl jm_X6_heightByWalk jw_1315 rfl ⟨rfl, rfl⟩ (by rw [hR]; decide) rfl (Nat.le_of_ble_eq_true rfl) dX6_ranksBefore_2 (fun v1 w1 h => ?_)
  refine j_istore_n X [(3, .int v1), (0, .ref a0), (1, .int x1), (2, .int x2)] dX6_ranksBefore_5 (by decide) rfl ?_
  refine j_aload_n X dX6_ranksBefore_6 1 rfl ?_
  refine j_iload_n X dX6_ranksBefore_7 3 rfl ?_
  obtain ⟨⟨fs2, g2⟩, h⟩ := h
  refine j_callVi X [.int x2] [] (c_X6_heightByWalk h) (T := TX6) (N := 2) g2 rfl jm_X6_heightByWalk jw_1315 rfl ⟨rfl, rfl⟩ (by rw [hR]; decide) rfl (Nat.le_of_ble_eq_true rfl) dX6_ranksBefore_8 (fun v2 w2 h => ?_)
  refine j_istore X [(4, .int v2), (3, .int v1), (0, .ref a0), (1, .int x1), (2, .int x2)] dX6_ranksBefore_11 (by decide) rfl ?_
  refine j_iload_n X dX6_ranksBefore_13 1 rfl ?_
  refine j_iload X dX6_ranksBefore_14 0 rfl ?_
  refine j_icmp_eq X 31 dX6_ranksBefore_16 (by decide) (fun c => ?_) (fun c => ?_)
  · replace h := jif_t c h
    refine j_aload_n X dX6_ranksBefore_31 2 rfl ?_
    obtain ⟨fs3, r3, g3, i3, h⟩ := h
    refine j_get X (ci := 9) (C := RX6) (T := TX6) (N := 2) rfl jin_X6 0 (by decide) g3 i3 jw_178 rfl dX6_ranksBefore_32 ?_
    obtain ⟨fs4, r4, g4, i4, h⟩ := h
    refine j_getN X (ci := 8) (C := RX5) (T := TX5) (N := 12) rfl jin_X5 3 (by decide) g4 i4 jw_117 rfl dX6_ranksBefore_35 ?_
    refine j_iload_n X dX6_ranksBefore_38 3 rfl ?_
    obtain ⟨⟨fs5, g5⟩, h⟩ := h
    refine j_callVi X [.int x1] [] (c_X3_at h) (T := TX3) (N := 1) g5 rfl jm_X3_at jw_620 rfl ⟨rfl, rfl⟩ (by rw [hR]; decide) rfl (Nat.le_of_ble_eq_true rfl) dX6_ranksBefore_39 (fun v5 w5 h => ?_)
    refine j_aload_n X dX6_ranksBefore_42 2 rfl ?_
    obtain ⟨fs6, r6, g6, i6, h⟩ := h
    refine j_get X (ci := 9) (C := RX6) (T := TX6) (N := 2) rfl jin_X6 0 (by decide) g6 i6 jw_178 rfl dX6_ranksBefore_43 ?_
    obtain ⟨fs7, r7, g7, i7, h⟩ := h
    refine j_getN X (ci := 8) (C := RX5) (T := TX5) (N := 12) rfl jin_X5 3 (by decide) g7 i7 jw_117 rfl dX6_ranksBefore_46 ?_
    refine j_iload_n X dX6_ranksBefore_49 4 rfl ?_
    obtain ⟨⟨fs8, g8⟩, h⟩ := h
    refine j_callVi X [.int x2] [.int v5] (c_X3_at h) (T := TX3) (N := 1) g8 rfl jm_X3_at jw_620 rfl ⟨rfl, rfl⟩ (by rw [hR]; decide) rfl (Nat.le_of_ble_eq_true rfl) dX6_ranksBefore_50 (fun v8 w8 h => ?_)
    refine j_icmp_eq X 87 dX6_ranksBefore_53 (by decide) (fun c => ?_) (fun c => ?_)
    · replace h := jif_t c h
      refine j_aload_n X dX6_ranksBefore_87 2 rfl ?_
      obtain ⟨fs9, r9, g9, i9, h⟩ := h
      refine j_get X (ci := 9) (C := RX6) (T := TX6) (N := 2) rfl jin_X6 0 (by decide) g9 i9 jw_178 rfl dX6_ranksBefore_88 ?_
      obtain ⟨fs10, r10, g10, i10, h⟩ := h
      refine j_getN X (ci := 8) (C := RX5) (T := TX5) (N := 12) rfl jin_X5 0 (by decide) g10 i10 jw_107 rfl dX6_ranksBefore_91 ?_
      refine j_iload_n X dX6_ranksBefore_94 3 rfl ?_
      obtain ⟨⟨fs11, g11⟩, h⟩ := h
      refine j_callVi X [.int x1] [] (c_X3_at h) (T := TX3) (N := 1) g11 rfl jm_X3_at jw_620 rfl ⟨rfl, rfl⟩ (by rw [hR]; decide) rfl (Nat.le_of_ble_eq_true rfl) dX6_ranksBefore_95 (fun v11 w11 h => ?_)
      refine j_aload_n X dX6_ranksBefore_98 2 rfl ?_
      obtain ⟨fs12, r12, g12, i12, h⟩ := h
      refine j_get X (ci := 9) (C := RX6) (T := TX6) (N := 2) rfl jin_X6 0 (by decide) g12 i12 jw_178 rfl dX6_ranksBefore_99 ?_
      obtain ⟨fs13, r13, g13, i13, h⟩ := h
      refine j_getN X (ci := 8) (C := RX5) (T := TX5) (N := 12) rfl jin_X5 0 (by decide) g13 i13 jw_107 rfl dX6_ranksBefore_102 ?_
      refine j_iload_n X dX6_ranksBefore_105 4 rfl ?_
      obtain ⟨⟨fs14, g14⟩, h⟩ := h
      refine j_callVi X [.int x2] [.int v11] (c_X3_at h) (T := TX3) (N := 1) g14 rfl jm_X3_at jw_620 rfl ⟨rfl, rfl⟩ (by rw [hR]; decide) rfl (Nat.le_of_ble_eq_true rfl) dX6_ranksBefore_106 (fun v14 w14 h => ?_)
      refine j_icmp_ge X 116 dX6_ranksBefore_109 (by decide) (fun c => ?_) (fun c => ?_)
      · replace h := jif_t c h
        refine j_iconst X 0 dX6_ranksBefore_116 (by decide) ?_
        refine j_sub [] rfl ?_
        exact k_X6_ranksBefore_b117 X hR Rt h
      · replace h := jif_f c h
        refine j_iconst X 1 dX6_ranksBefore_112 (by decide) ?_
        refine j_goto X 117 dX6_ranksBefore_113 (by decide) ?_
        refine j_sub [] rfl ?_
        exact k_X6_ranksBefore_b117 X hR Rt h
    · replace h := jif_f c h
      refine j_aload_n X dX6_ranksBefore_56 2 rfl ?_
      obtain ⟨fs15, r15, g15, i15, h⟩ := h
      refine j_get X (ci := 9) (C := RX6) (T := TX6) (N := 2) rfl jin_X6 0 (by decide) g15 i15 jw_178 rfl dX6_ranksBefore_57 ?_
      obtain ⟨fs16, r16, g16, i16, h⟩ := h
      refine j_getN X (ci := 8) (C := RX5) (T := TX5) (N := 12) rfl jin_X5 3 (by decide) g16 i16 jw_117 rfl dX6_ranksBefore_60 ?_
      refine j_iload_n X dX6_ranksBefore_63 3 rfl ?_
      obtain ⟨⟨fs17, g17⟩, h⟩ := h
      refine j_callVi X [.int x1] [] (c_X3_at h) (T := TX3) (N := 1) g17 rfl jm_X3_at jw_620 rfl ⟨rfl, rfl⟩ (by rw [hR]; decide) rfl (Nat.le_of_ble_eq_true rfl) dX6_ranksBefore_64 (fun v17 w17 h => ?_)
      refine j_aload_n X dX6_ranksBefore_67 2 rfl ?_
      obtain ⟨fs18, r18, g18, i18, h⟩ := h
      refine j_get X (ci := 9) (C := RX6) (T := TX6) (N := 2) rfl jin_X6 0 (by decide) g18 i18 jw_178 rfl dX6_ranksBefore_68 ?_
      obtain ⟨fs19, r19, g19, i19, h⟩ := h
      refine j_getN X (ci := 8) (C := RX5) (T := TX5) (N := 12) rfl jin_X5 3 (by decide) g19 i19 jw_117 rfl dX6_ranksBefore_71 ?_
      refine j_iload_n X dX6_ranksBefore_74 4 rfl ?_
      obtain ⟨⟨fs20, g20⟩, h⟩ := h
      refine j_callVi X [.int x2] [.int v17] (c_X3_at h) (T := TX3) (N := 1) g20 rfl jm_X3_at jw_620 rfl ⟨rfl, rfl⟩ (by rw [hR]; decide) rfl (Nat.le_of_ble_eq_true rfl) dX6_ranksBefore_75 (fun v20 w20 h => ?_)
      refine j_icmp_ge X 85 dX6_ranksBefore_78 (by decide) (fun c => ?_) (fun c => ?_)
      · replace h := jif_t c h
        refine j_iconst X 0 dX6_ranksBefore_85 (by decide) ?_
        refine j_sub [] rfl ?_
        exact k_X6_ranksBefore_b86 X hR Rt h
      · replace h := jif_f c h
        refine j_iconst X 1 dX6_ranksBefore_81 (by decide) ?_
        refine j_goto X 86 dX6_ranksBefore_82 (by decide) ?_
        refine j_sub [] rfl ?_
        exact k_X6_ranksBefore_b86 X hR Rt h
  · replace h := jif_f c h
    refine j_iload_n X dX6_ranksBefore_19 1 rfl ?_
    refine j_iload X dX6_ranksBefore_20 0 rfl ?_
    refine j_icmp_le X 29 dX6_ranksBefore_22 (by decide) (fun c => ?_) (fun c => ?_)
    · replace h := jif_t c h
      refine j_iconst X 0 dX6_ranksBefore_29 (by decide) ?_
      refine j_sub [] rfl ?_
      exact k_X6_ranksBefore_b30 X hR Rt h
    · replace h := jif_f c h
      refine j_iconst X 1 dX6_ranksBefore_25 (by decide) ?_
      refine j_goto X 30 dX6_ranksBefore_26 (by decide) ?_
      refine j_sub [] rfl ?_
      exact k_X6_ranksBefore_b30 X hR Rt h
def w_X6_ranksBefore (κ : Nat → Nat) (w : va_W) (a0 : Nat) (x1 : Int32) (x2 : Int32) (P : Int32 → va_W → Prop) : Prop := w_X6_ranksBefore_b0 κ w a0 x1 x2 P
theorem c_X6_ranksBefore {E : jE} {w : va_W} {a0 : Nat} {x1 : Int32} {x2 : Int32} {P : Int32 → va_W → Prop} (h : w_X6_ranksBefore E.2.2.2 w a0 x1 x2 P) : jC E yX6_ranksBefore cX6_ranksBefore 5 (some .boolean) ({ frames := 2, cells := 0, slots := 0, locals := 44 } : Room) [.ref a0, .int x1, .int x2] w 0 0 (jPi P) := by
  refine jC_of (by decide) (Nat.le_of_ble_eq_true rfl) ?_
  intro Γ X hE hR Rt
  subst hE
  exact k_X6_ranksBefore_b0 X hR Rt h
theorem jm_X6_countTipsBefore : jMv yX6_countTipsBefore cX6_countTipsBefore 4 (some .int) 1 := ⟨jw_1509, jw_20, jw_27, jw_1510, ⟨by decide +kernel, by decide +kernel⟩, by decide +kernel⟩
def w_X6_countTipsBefore_b30 (κ : Nat → Nat) (w : va_W) (a0 : Nat) (x1 : Int32) (x2 : Int32) (x3 : Int32) (K4 : va_W → Nat → Int32 → Int32 → Int32 → Prop) (P : Int32 → va_W → Prop) : Prop :=
    K4 w a0 x1 x2 (x3 + 1)
set_option maxRecDepth 100000 in
set_option maxHeartbeats 4000000 in
theorem k_X6_countTipsBefore_b30 {Γ : jG} (X : jX Γ cX6_countTipsBefore 4 RX6) (hR : jgR Γ = ({ frames := 3, cells := 0, slots := 0, locals := 68 } : Room)) {P : Int32 → va_W → Prop} (Rt : jRt Γ cX6_countTipsBefore 4 0 0 (some .int) (jPi P)) {K4 : va_W → Nat → Int32 → Int32 → Int32 → Prop} (hK4 : ∀ (w : va_W) (a0 : Nat) (x1 : Int32) (x2 : Int32) (x3 : Int32), K4 w a0 x1 x2 x3 → J Γ 4 w 0 0 4 [(0, .ref a0), (1, .int x1), (2, .int x2), (3, .int x3)] []) {w : va_W} {a0 : Nat} {x1 : Int32} {x2 : Int32} {x3 : Int32} (h : w_X6_countTipsBefore_b30 (jgE Γ).2.2.2 w a0 x1 x2 x3 K4 P) : J Γ 4 w 0 0 30 [(0, .ref a0), (1, .int x1), (2, .int x2), (3, .int x3)] [] := by
  unfold w_X6_countTipsBefore_b30 at h
  refine j_iinc X (x3 + 1) [(3, .int (x3 + 1)), (0, .ref a0), (1, .int x1), (2, .int x2)] dX6_countTipsBefore_30 3 rfl rfl (by decide) rfl ?_
  refine j_goto X 4 dX6_countTipsBefore_33 (by decide) ?_
  refine j_sub [1, 2, 3, 0] rfl ?_
  exact hK4 _ _ _ _ _ h
def w_X6_countTipsBefore_b4 : Nat → (κ : Nat → Nat) → (w : va_W) → (a0 : Nat) → (x1 : Int32) → (x2 : Int32) → (x3 : Int32) → (P : Int32 → va_W → Prop) → Prop
  | 0, _, _, _, _, _, _, _ => False
  | n + 1, κ, w, a0, x1, x2, x3, P =>
    (if 16 ≤ x3 then P x2 w else (jRc w a0 9 ∧ w_X6_isTip κ w a0 x3 (fun v1 w1 => (if v1 = 0 then w_X6_countTipsBefore_b30 κ w1 a0 x1 x2 x3 (fun w_ z_a0 z_x1 z_x2 z_x3 => w_X6_countTipsBefore_b4 n κ w_ z_a0 z_x1 z_x2 z_x3 P) P else (jRc w1 a0 9 ∧ w_X6_ranksBefore κ w1 a0 x3 x1 (fun v2 w2 => (if v2 = 0 then w_X6_countTipsBefore_b30 κ w2 a0 x1 x2 x3 (fun w_ z_a0 z_x1 z_x2 z_x3 => w_X6_countTipsBefore_b4 n κ w_ z_a0 z_x1 z_x2 z_x3 P) P else w_X6_countTipsBefore_b30 κ w2 a0 x1 (x2 + 1) x3 (fun w_ z_a0 z_x1 z_x2 z_x3 => w_X6_countTipsBefore_b4 n κ w_ z_a0 z_x1 z_x2 z_x3 P) P)))))))
set_option maxRecDepth 100000 in
set_option maxHeartbeats 4000000 in
theorem k_X6_countTipsBefore_b4 {Γ : jG} (X : jX Γ cX6_countTipsBefore 4 RX6) (hR : jgR Γ = ({ frames := 3, cells := 0, slots := 0, locals := 68 } : Room)) {P : Int32 → va_W → Prop} (Rt : jRt Γ cX6_countTipsBefore 4 0 0 (some .int) (jPi P)) : ∀ (n : Nat) {w : va_W} {a0 : Nat} {x1 : Int32} {x2 : Int32} {x3 : Int32} (h : w_X6_countTipsBefore_b4 n (jgE Γ).2.2.2 w a0 x1 x2 x3 P), J Γ 4 w 0 0 4 [(0, .ref a0), (1, .int x1), (2, .int x2), (3, .int x3)] [] := by
  intro n
  induction n with
  | zero => intro w a0 x1 x2 x3 h; exact False.elim h
  | succ n ih =>
    intro w a0 x1 x2 x3 h
    rw [w_X6_countTipsBefore_b4] at h
    refine j_iload_n X dX6_countTipsBefore_4 3 rfl ?_
    refine j_bipush X 16 dX6_countTipsBefore_5 (by decide) ?_
    refine j_icmp_ge X 36 dX6_countTipsBefore_7 (by decide) (fun c => ?_) (fun c => ?_)
    · replace h := jif_t c h
      refine j_iload_n X dX6_countTipsBefore_36 2 rfl ?_
      exact Rt.i dX6_countTipsBefore_37 ⟨_, rfl, h⟩ (by first | decide | omega) (by first | decide | omega)
    · replace h := jif_f c h
      refine j_aload_n X dX6_countTipsBefore_10 0 rfl ?_
      refine j_iload_n X dX6_countTipsBefore_11 3 rfl ?_
      obtain ⟨⟨fs1, g1⟩, h⟩ := h
      refine j_callVi X [.int x3] [] (c_X6_isTip h) (T := TX6) (N := 2) g1 rfl jm_X6_isTip jw_1491 rfl ⟨rfl, rfl⟩ (by rw [hR]; decide) rfl (Nat.le_of_ble_eq_true rfl) dX6_countTipsBefore_12 (fun v1 w1 h => ?_)
      refine j_if_eq X 30 dX6_countTipsBefore_15 (by decide) (fun c => ?_) (fun c => ?_)
      · replace h := jif_t c h
        exact k_X6_countTipsBefore_b30 X hR Rt (fun _ _ _ _ _ h => ih h) h
      · replace h := jif_f c h
        refine j_aload_n X dX6_countTipsBefore_18 0 rfl ?_
        refine j_iload_n X dX6_countTipsBefore_19 3 rfl ?_
        refine j_iload_n X dX6_countTipsBefore_20 1 rfl ?_
        obtain ⟨⟨fs2, g2⟩, h⟩ := h
        refine j_callVi X [.int x3, .int x1] [] (c_X6_ranksBefore h) (T := TX6) (N := 2) g2 rfl jm_X6_ranksBefore jw_1311 rfl ⟨rfl, rfl⟩ (by rw [hR]; decide) rfl (Nat.le_of_ble_eq_true rfl) dX6_countTipsBefore_21 (fun v2 w2 h => ?_)
        refine j_if_eq X 30 dX6_countTipsBefore_24 (by decide) (fun c => ?_) (fun c => ?_)
        · replace h := jif_t c h
          exact k_X6_countTipsBefore_b30 X hR Rt (fun _ _ _ _ _ h => ih h) h
        · replace h := jif_f c h
          refine j_iinc X (x2 + 1) [(2, .int (x2 + 1)), (0, .ref a0), (1, .int x1), (3, .int x3)] dX6_countTipsBefore_27 2 rfl rfl (by decide) rfl ?_
          refine j_sub [1, 2, 0, 3] rfl ?_
          exact k_X6_countTipsBefore_b30 X hR Rt (fun _ _ _ _ _ h => ih h) h
def w_X6_countTipsBefore_b0 (κ : Nat → Nat) (w : va_W) (a0 : Nat) (x1 : Int32) (P : Int32 → va_W → Prop) : Prop :=
    w_X6_countTipsBefore_b4 jFu κ w a0 x1 0 0 P
set_option maxRecDepth 100000 in
set_option maxHeartbeats 4000000 in
theorem k_X6_countTipsBefore_b0 {Γ : jG} (X : jX Γ cX6_countTipsBefore 4 RX6) (hR : jgR Γ = ({ frames := 3, cells := 0, slots := 0, locals := 68 } : Room)) {P : Int32 → va_W → Prop} (Rt : jRt Γ cX6_countTipsBefore 4 0 0 (some .int) (jPi P)) {w : va_W} {a0 : Nat} {x1 : Int32} (h : w_X6_countTipsBefore_b0 (jgE Γ).2.2.2 w a0 x1 P) : J Γ 4 w 0 0 0 [(0, .ref a0), (1, .int x1)] [] := by
  unfold w_X6_countTipsBefore_b0 at h
  refine j_iconst X 0 dX6_countTipsBefore_0 (by decide) ?_
  refine j_istore_n X [(2, .int 0), (0, .ref a0), (1, .int x1)] dX6_countTipsBefore_1 (by decide) rfl ?_
  refine j_iconst X 0 dX6_countTipsBefore_2 (by decide) ?_
  refine j_istore_n X [(3, .int 0), (2, .int 0), (0, .ref a0), (1, .int x1)] dX6_countTipsBefore_3 (by decide) rfl ?_
  refine j_sub [2, 3, 1, 0] rfl ?_
  exact k_X6_countTipsBefore_b4 X hR Rt _ h
def w_X6_countTipsBefore (κ : Nat → Nat) (w : va_W) (a0 : Nat) (x1 : Int32) (P : Int32 → va_W → Prop) : Prop := w_X6_countTipsBefore_b0 κ w a0 x1 P
theorem c_X6_countTipsBefore {E : jE} {w : va_W} {a0 : Nat} {x1 : Int32} {P : Int32 → va_W → Prop} (h : w_X6_countTipsBefore E.2.2.2 w a0 x1 P) : jC E yX6_countTipsBefore cX6_countTipsBefore 4 (some .int) ({ frames := 3, cells := 0, slots := 0, locals := 68 } : Room) [.ref a0, .int x1] w 0 0 (jPi P) := by
  refine jC_of (by decide) (Nat.le_of_ble_eq_true rfl) ?_
  intro Γ X hE hR Rt
  subst hE
  exact k_X6_countTipsBefore_b0 X hR Rt h
theorem jm_X6_tipRanked : jMv yX6_tipRanked cX6_tipRanked 3 (some .int) 1 := ⟨jw_1504, jw_1505, jw_27, jw_1506, ⟨by decide +kernel, by decide +kernel⟩, by decide +kernel⟩
def w_X6_tipRanked_b27 (κ : Nat → Nat) (w : va_W) (a0 : Nat) (x1 : Int32) (x2 : Int32) (K2 : va_W → Nat → Int32 → Int32 → Prop) (P : Int32 → va_W → Prop) : Prop :=
    K2 w a0 x1 (x2 + 1)
set_option maxRecDepth 100000 in
set_option maxHeartbeats 4000000 in
theorem k_X6_tipRanked_b27 {Γ : jG} (X : jX Γ cX6_tipRanked 3 RX6) (hR : jgR Γ = ({ frames := 4, cells := 0, slots := 0, locals := 91 } : Room)) {P : Int32 → va_W → Prop} (Rt : jRt Γ cX6_tipRanked 3 0 0 (some .int) (jPi P)) {K2 : va_W → Nat → Int32 → Int32 → Prop} (hK2 : ∀ (w : va_W) (a0 : Nat) (x1 : Int32) (x2 : Int32), K2 w a0 x1 x2 → J Γ 3 w 0 0 2 [(0, .ref a0), (1, .int x1), (2, .int x2)] []) {w : va_W} {a0 : Nat} {x1 : Int32} {x2 : Int32} (h : w_X6_tipRanked_b27 (jgE Γ).2.2.2 w a0 x1 x2 K2 P) : J Γ 3 w 0 0 27 [(0, .ref a0), (1, .int x1), (2, .int x2)] [] := by
  unfold w_X6_tipRanked_b27 at h
  refine j_iinc X (x2 + 1) [(2, .int (x2 + 1)), (0, .ref a0), (1, .int x1)] dX6_tipRanked_27 2 rfl rfl (by decide) rfl ?_
  refine j_goto X 2 dX6_tipRanked_30 (by decide) ?_
  refine j_sub [1, 2, 0] rfl ?_
  exact hK2 _ _ _ _ h
def w_X6_tipRanked_b2 : Nat → (κ : Nat → Nat) → (w : va_W) → (a0 : Nat) → (x1 : Int32) → (x2 : Int32) → (P : Int32 → va_W → Prop) → Prop
  | 0, _, _, _, _, _, _ => False
  | n + 1, κ, w, a0, x1, x2, P =>
    (if 16 ≤ x2 then P (-1) w else (jRc w a0 9 ∧ w_X6_isTip κ w a0 x2 (fun v1 w1 => (if v1 = 0 then w_X6_tipRanked_b27 κ w1 a0 x1 x2 (fun w_ z_a0 z_x1 z_x2 => w_X6_tipRanked_b2 n κ w_ z_a0 z_x1 z_x2 P) P else (jRc w1 a0 9 ∧ w_X6_countTipsBefore κ w1 a0 x2 (fun v2 w2 => (if v2 = x1 then P x2 w2 else w_X6_tipRanked_b27 κ w2 a0 x1 x2 (fun w_ z_a0 z_x1 z_x2 => w_X6_tipRanked_b2 n κ w_ z_a0 z_x1 z_x2 P) P)))))))
set_option maxRecDepth 100000 in
set_option maxHeartbeats 4000000 in
theorem k_X6_tipRanked_b2 {Γ : jG} (X : jX Γ cX6_tipRanked 3 RX6) (hR : jgR Γ = ({ frames := 4, cells := 0, slots := 0, locals := 91 } : Room)) {P : Int32 → va_W → Prop} (Rt : jRt Γ cX6_tipRanked 3 0 0 (some .int) (jPi P)) : ∀ (n : Nat) {w : va_W} {a0 : Nat} {x1 : Int32} {x2 : Int32} (h : w_X6_tipRanked_b2 n (jgE Γ).2.2.2 w a0 x1 x2 P), J Γ 3 w 0 0 2 [(0, .ref a0), (1, .int x1), (2, .int x2)] [] := by
  intro n
  induction n with
  | zero => intro w a0 x1 x2 h; exact False.elim h
  | succ n ih =>
    intro w a0 x1 x2 h
    rw [w_X6_tipRanked_b2] at h
    refine j_iload_n X dX6_tipRanked_2 2 rfl ?_
    refine j_bipush X 16 dX6_tipRanked_3 (by decide) ?_
    refine j_icmp_ge X 33 dX6_tipRanked_5 (by decide) (fun c => ?_) (fun c => ?_)
    · replace h := jif_t c h
      refine j_iconst X (-1) dX6_tipRanked_33 (by decide) ?_
      exact Rt.i dX6_tipRanked_34 ⟨_, rfl, h⟩ (by first | decide | omega) (by first | decide | omega)
    · replace h := jif_f c h
      refine j_aload_n X dX6_tipRanked_8 0 rfl ?_
      refine j_iload_n X dX6_tipRanked_9 2 rfl ?_
      obtain ⟨⟨fs1, g1⟩, h⟩ := h
      refine j_callVi X [.int x2] [] (c_X6_isTip h) (T := TX6) (N := 2) g1 rfl jm_X6_isTip jw_1491 rfl ⟨rfl, rfl⟩ (by rw [hR]; decide) rfl (Nat.le_of_ble_eq_true rfl) dX6_tipRanked_10 (fun v1 w1 h => ?_)
      refine j_if_eq X 27 dX6_tipRanked_13 (by decide) (fun c => ?_) (fun c => ?_)
      · replace h := jif_t c h
        exact k_X6_tipRanked_b27 X hR Rt (fun _ _ _ _ h => ih h) h
      · replace h := jif_f c h
        refine j_aload_n X dX6_tipRanked_16 0 rfl ?_
        refine j_iload_n X dX6_tipRanked_17 2 rfl ?_
        obtain ⟨⟨fs2, g2⟩, h⟩ := h
        refine j_callVi X [.int x2] [] (c_X6_countTipsBefore h) (T := TX6) (N := 2) g2 rfl jm_X6_countTipsBefore jw_1507 rfl ⟨rfl, rfl⟩ (by rw [hR]; decide) rfl (Nat.le_of_ble_eq_true rfl) dX6_tipRanked_18 (fun v2 w2 h => ?_)
        refine j_iload_n X dX6_tipRanked_21 1 rfl ?_
        refine j_icmp_ne X 27 dX6_tipRanked_22 (by decide) (fun c => ?_) (fun c => ?_)
        · replace h := jif_f c h
          exact k_X6_tipRanked_b27 X hR Rt (fun _ _ _ _ h => ih h) h
        · replace h := jif_t c h
          refine j_iload_n X dX6_tipRanked_25 2 rfl ?_
          exact Rt.i dX6_tipRanked_26 ⟨_, rfl, h⟩ (by first | decide | omega) (by first | decide | omega)
def w_X6_tipRanked_b0 (κ : Nat → Nat) (w : va_W) (a0 : Nat) (x1 : Int32) (P : Int32 → va_W → Prop) : Prop :=
    w_X6_tipRanked_b2 jFu κ w a0 x1 0 P
set_option maxRecDepth 100000 in
set_option maxHeartbeats 4000000 in
theorem k_X6_tipRanked_b0 {Γ : jG} (X : jX Γ cX6_tipRanked 3 RX6) (hR : jgR Γ = ({ frames := 4, cells := 0, slots := 0, locals := 91 } : Room)) {P : Int32 → va_W → Prop} (Rt : jRt Γ cX6_tipRanked 3 0 0 (some .int) (jPi P)) {w : va_W} {a0 : Nat} {x1 : Int32} (h : w_X6_tipRanked_b0 (jgE Γ).2.2.2 w a0 x1 P) : J Γ 3 w 0 0 0 [(0, .ref a0), (1, .int x1)] [] := by
  unfold w_X6_tipRanked_b0 at h
  refine j_iconst X 0 dX6_tipRanked_0 (by decide) ?_
  refine j_istore_n X [(2, .int 0), (0, .ref a0), (1, .int x1)] dX6_tipRanked_1 (by decide) rfl ?_
  refine j_sub [1, 2, 0] rfl ?_
  exact k_X6_tipRanked_b2 X hR Rt _ h
def w_X6_tipRanked (κ : Nat → Nat) (w : va_W) (a0 : Nat) (x1 : Int32) (P : Int32 → va_W → Prop) : Prop := w_X6_tipRanked_b0 κ w a0 x1 P
theorem c_X6_tipRanked {E : jE} {w : va_W} {a0 : Nat} {x1 : Int32} {P : Int32 → va_W → Prop} (h : w_X6_tipRanked E.2.2.2 w a0 x1 P) : jC E yX6_tipRanked cX6_tipRanked 3 (some .int) ({ frames := 4, cells := 0, slots := 0, locals := 91 } : Room) [.ref a0, .int x1] w 0 0 (jPi P) := by
  refine jC_of (by decide) (Nat.le_of_ble_eq_true rfl) ?_
  intro Γ X hE hR Rt
  subst hE
  exact k_X6_tipRanked_b0 X hR Rt h
theorem jm_X6_best : jMv yX6_best cX6_best 3 (some .int) 0 := ⟨jw_1308, jw_1309, jw_27, jw_1310, ⟨by decide +kernel, by decide +kernel⟩, by decide +kernel⟩
def w_X6_best_b41 (κ : Nat → Nat) (w : va_W) (a0 : Nat) (x1 : Int32) (x2 : Int32) (K4 : va_W → Nat → Int32 → Int32 → Prop) (P : Int32 → va_W → Prop) : Prop :=
    K4 w a0 x1 (x2 + 1)
set_option maxRecDepth 100000 in
set_option maxHeartbeats 4000000 in
theorem k_X6_best_b41 {Γ : jG} (X : jX Γ cX6_best 3 RX6) (hR : jgR Γ = ({ frames := 4, cells := 0, slots := 0, locals := 96 } : Room)) {P : Int32 → va_W → Prop} (Rt : jRt Γ cX6_best 3 0 0 (some .int) (jPi P)) {K4 : va_W → Nat → Int32 → Int32 → Prop} (hK4 : ∀ (w : va_W) (a0 : Nat) (x1 : Int32) (x2 : Int32), K4 w a0 x1 x2 → J Γ 3 w 0 0 4 [(0, .ref a0), (1, .int x1), (2, .int x2)] []) {w : va_W} {a0 : Nat} {x1 : Int32} {x2 : Int32} (h : w_X6_best_b41 (jgE Γ).2.2.2 w a0 x1 x2 K4 P) : J Γ 3 w 0 0 41 [(0, .ref a0), (1, .int x1), (2, .int x2)] [] := by
  unfold w_X6_best_b41 at h
  refine j_iinc X (x2 + 1) [(2, .int (x2 + 1)), (0, .ref a0), (1, .int x1)] dX6_best_41 2 rfl rfl (by decide) rfl ?_
  refine j_goto X 4 dX6_best_44 (by decide) ?_
  refine j_sub [1, 2, 0] rfl ?_
  exact hK4 _ _ _ _ h
def w_X6_best_b4 : Nat → (κ : Nat → Nat) → (w : va_W) → (a0 : Nat) → (x1 : Int32) → (x2 : Int32) → (P : Int32 → va_W → Prop) → Prop
  | 0, _, _, _, _, _, _ => False
  | n + 1, κ, w, a0, x1, x2, P =>
    (if 16 ≤ x2 then P x1 w else jgR' w a0 9 0 (fun r1 => (jRc w r1 8 ∧ w_X5_isUsed κ w r1 x2 (fun v2 w2 => (if v2 = 0 then w_X6_best_b41 κ w2 a0 x1 x2 (fun w_ z_a0 z_x1 z_x2 => w_X6_best_b4 n κ w_ z_a0 z_x1 z_x2 P) P else (jRc w2 a0 9 ∧ w_X6_ranksBefore κ w2 a0 x2 x1 (fun v3 w3 => (if v3 = 0 then w_X6_best_b41 κ w3 a0 x1 x2 (fun w_ z_a0 z_x1 z_x2 => w_X6_best_b4 n κ w_ z_a0 z_x1 z_x2 P) P else (jRc w3 a0 9 ∧ w_X6_lowestBroken κ w3 a0 x2 (fun v4 w4 => (if v4 = (-1) then w_X6_best_b41 κ w4 a0 x2 x2 (fun w_ z_a0 z_x1 z_x2 => w_X6_best_b4 n κ w_ z_a0 z_x1 z_x2 P) P else w_X6_best_b41 κ w4 a0 x1 x2 (fun w_ z_a0 z_x1 z_x2 => w_X6_best_b4 n κ w_ z_a0 z_x1 z_x2 P) P)))))))))))
set_option maxRecDepth 100000 in
set_option maxHeartbeats 4000000 in
theorem k_X6_best_b4 {Γ : jG} (X : jX Γ cX6_best 3 RX6) (hR : jgR Γ = ({ frames := 4, cells := 0, slots := 0, locals := 96 } : Room)) {P : Int32 → va_W → Prop} (Rt : jRt Γ cX6_best 3 0 0 (some .int) (jPi P)) : ∀ (n : Nat) {w : va_W} {a0 : Nat} {x1 : Int32} {x2 : Int32} (h : w_X6_best_b4 n (jgE Γ).2.2.2 w a0 x1 x2 P), J Γ 3 w 0 0 4 [(0, .ref a0), (1, .int x1), (2, .int x2)] [] := by
  intro n
  induction n with
  | zero => intro w a0 x1 x2 h; exact False.elim h
  | succ n ih =>
    intro w a0 x1 x2 h
    rw [w_X6_best_b4] at h
    refine j_iload_n X dX6_best_4 2 rfl ?_
    refine j_bipush X 16 dX6_best_5 (by decide) ?_
    refine j_icmp_ge X 47 dX6_best_7 (by decide) (fun c => ?_) (fun c => ?_)
    · replace h := jif_t c h
      refine j_iload_n X dX6_best_47 1 rfl ?_
      exact Rt.i dX6_best_48 ⟨_, rfl, h⟩ (by first | decide | omega) (by first | decide | omega)
    · replace h := jif_f c h
      refine j_aload_n X dX6_best_10 0 rfl ?_
      obtain ⟨fs1, r1, g1, i1, h⟩ := h
      refine j_get X (ci := 9) (C := RX6) (T := TX6) (N := 2) rfl jin_X6 0 (by decide) g1 i1 jw_178 rfl dX6_best_11 ?_
      refine j_iload_n X dX6_best_14 2 rfl ?_
      obtain ⟨⟨fs2, g2⟩, h⟩ := h
      refine j_callVi X [.int x2] [] (c_X5_isUsed h) (T := TX5) (N := 12) g2 rfl jm_X5_isUsed jw_363 rfl ⟨rfl, rfl⟩ (by rw [hR]; decide) rfl (Nat.le_of_ble_eq_true rfl) dX6_best_15 (fun v2 w2 h => ?_)
      refine j_if_eq X 41 dX6_best_18 (by decide) (fun c => ?_) (fun c => ?_)
      · replace h := jif_t c h
        exact k_X6_best_b41 X hR Rt (fun _ _ _ _ h => ih h) h
      · replace h := jif_f c h
        refine j_aload_n X dX6_best_21 0 rfl ?_
        refine j_iload_n X dX6_best_22 2 rfl ?_
        refine j_iload_n X dX6_best_23 1 rfl ?_
        obtain ⟨⟨fs3, g3⟩, h⟩ := h
        refine j_callVi X [.int x2, .int x1] [] (c_X6_ranksBefore h) (T := TX6) (N := 2) g3 rfl jm_X6_ranksBefore jw_1311 rfl ⟨rfl, rfl⟩ (by rw [hR]; decide) rfl (Nat.le_of_ble_eq_true rfl) dX6_best_24 (fun v3 w3 h => ?_)
        refine j_if_eq X 41 dX6_best_27 (by decide) (fun c => ?_) (fun c => ?_)
        · replace h := jif_t c h
          exact k_X6_best_b41 X hR Rt (fun _ _ _ _ h => ih h) h
        · replace h := jif_f c h
          refine j_aload_n X dX6_best_30 0 rfl ?_
          refine j_iload_n X dX6_best_31 2 rfl ?_
          obtain ⟨⟨fs4, g4⟩, h⟩ := h
          refine j_callVi X [.int x2] [] (c_X6_lowestBroken h) (T := TX6) (N := 2) g4 rfl jm_X6_lowestBroken jw_1319 rfl ⟨rfl, rfl⟩ (by rw [hR]; decide) rfl (Nat.le_of_ble_eq_true rfl) dX6_best_32 (fun v4 w4 h => ?_)
          refine j_iconst X (-1) dX6_best_35 (by decide) ?_
          refine j_icmp_ne X 41 dX6_best_36 (by decide) (fun c => ?_) (fun c => ?_)
          · replace h := jif_f c h
            exact k_X6_best_b41 X hR Rt (fun _ _ _ _ h => ih h) h
          · replace h := jif_t c h
            refine j_iload_n X dX6_best_39 2 rfl ?_
            refine j_istore_n X [(1, .int x2), (0, .ref a0), (2, .int x2)] dX6_best_40 (by decide) rfl ?_
            refine j_sub [1, 0, 2] rfl ?_
            exact k_X6_best_b41 X hR Rt (fun _ _ _ _ h => ih h) h
def w_X6_best_b0 (κ : Nat → Nat) (w : va_W) (a0 : Nat) (P : Int32 → va_W → Prop) : Prop :=
    w_X6_best_b4 jFu κ w a0 0 0 P
set_option maxRecDepth 100000 in
set_option maxHeartbeats 4000000 in
theorem k_X6_best_b0 {Γ : jG} (X : jX Γ cX6_best 3 RX6) (hR : jgR Γ = ({ frames := 4, cells := 0, slots := 0, locals := 96 } : Room)) {P : Int32 → va_W → Prop} (Rt : jRt Γ cX6_best 3 0 0 (some .int) (jPi P)) {w : va_W} {a0 : Nat} (h : w_X6_best_b0 (jgE Γ).2.2.2 w a0 P) : J Γ 3 w 0 0 0 [(0, .ref a0)] [] := by
  unfold w_X6_best_b0 at h
  refine j_iconst X 0 dX6_best_0 (by decide) ?_
  refine j_istore_n X [(1, .int 0), (0, .ref a0)] dX6_best_1 (by decide) rfl ?_
  refine j_iconst X 0 dX6_best_2 (by decide) ?_
  refine j_istore_n X [(2, .int 0), (1, .int 0), (0, .ref a0)] dX6_best_3 (by decide) rfl ?_
  refine j_sub [2, 1, 0] rfl ?_
  exact k_X6_best_b4 X hR Rt _ h
def w_X6_best (κ : Nat → Nat) (w : va_W) (a0 : Nat) (P : Int32 → va_W → Prop) : Prop := w_X6_best_b0 κ w a0 P
theorem c_X6_best {E : jE} {w : va_W} {a0 : Nat} {P : Int32 → va_W → Prop} (h : w_X6_best E.2.2.2 w a0 P) : jC E yX6_best cX6_best 3 (some .int) ({ frames := 4, cells := 0, slots := 0, locals := 96 } : Room) [.ref a0] w 0 0 (jPi P) := by
  refine jC_of (by decide) (Nat.le_of_ble_eq_true rfl) ?_
  intro Γ X hE hR Rt
  subst hE
  exact k_X6_best_b0 X hR Rt h
theorem jm_X6_waysAgree : jMv yX6_waysAgree cX6_waysAgree 2 (some .boolean) 0 := ⟨jw_1325, jw_1326, jw_27, jw_1327, ⟨by decide +kernel, by decide +kernel⟩, by decide +kernel⟩
def w_X6_waysAgree_b59 (κ : Nat → Nat) (w : va_W) (a0 : Nat) (x1 : Int32) (K2 : va_W → Nat → Int32 → Prop) (P : Int32 → va_W → Prop) : Prop :=
    K2 w a0 (x1 + 1)
set_option maxRecDepth 100000 in
set_option maxHeartbeats 4000000 in
theorem k_X6_waysAgree_b59 {Γ : jG} (X : jX Γ cX6_waysAgree 2 RX6) (hR : jgR Γ = ({ frames := 23, cells := 0, slots := 0, locals := 567 } : Room)) {P : Int32 → va_W → Prop} (Rt : jRt Γ cX6_waysAgree 2 0 0 (some .boolean) (jPi P)) {K2 : va_W → Nat → Int32 → Prop} (hK2 : ∀ (w : va_W) (a0 : Nat) (x1 : Int32), K2 w a0 x1 → J Γ 2 w 0 0 2 [(0, .ref a0), (1, .int x1)] []) {w : va_W} {a0 : Nat} {x1 : Int32} (h : w_X6_waysAgree_b59 (jgE Γ).2.2.2 w a0 x1 K2 P) : J Γ 2 w 0 0 59 [(0, .ref a0), (1, .int x1)] [] := by
  unfold w_X6_waysAgree_b59 at h
  refine j_iinc X (x1 + 1) [(1, .int (x1 + 1)), (0, .ref a0)] dX6_waysAgree_59 1 rfl rfl (by decide) rfl ?_
  refine j_goto X 2 dX6_waysAgree_62 (by decide) ?_
  refine j_sub [1, 0] rfl ?_
  exact hK2 _ _ _ h
def w_X6_waysAgree_b57 (κ : Nat → Nat) (w : va_W) (P : Int32 → va_W → Prop) : Prop :=
    P 0 w
set_option maxRecDepth 100000 in
set_option maxHeartbeats 4000000 in
theorem k_X6_waysAgree_b57 {Γ : jG} (X : jX Γ cX6_waysAgree 2 RX6) (hR : jgR Γ = ({ frames := 23, cells := 0, slots := 0, locals := 567 } : Room)) {P : Int32 → va_W → Prop} (Rt : jRt Γ cX6_waysAgree 2 0 0 (some .boolean) (jPi P)) {w : va_W} (h : w_X6_waysAgree_b57 (jgE Γ).2.2.2 w  P) : J Γ 2 w 0 0 57 [] [] := by
  unfold w_X6_waysAgree_b57 at h
  refine j_iconst X 0 dX6_waysAgree_57 (by decide) ?_
  exact Rt.z dX6_waysAgree_58 (by decide) ⟨_, rfl, h⟩ (by first | decide | omega) (by first | decide | omega)
def w_X6_waysAgree_b2 : Nat → (κ : Nat → Nat) → (w : va_W) → (a0 : Nat) → (x1 : Int32) → (P : Int32 → va_W → Prop) → Prop
  | 0, _, _, _, _, _ => False
  | n + 1, κ, w, a0, x1, P =>
    (if 16 ≤ x1 then P 1 w else jgR' w a0 9 0 (fun r1 => (jRc w r1 8 ∧ w_X5_isUsed κ w r1 x1 (fun v2 w2 => (if v2 = 0 then w_X6_waysAgree_b59 κ w2 a0 x1 (fun w_ z_a0 z_x1 => w_X6_waysAgree_b2 n κ w_ z_a0 z_x1 P) P else (jRc w2 a0 9 ∧ w_X6_heightByWalk κ w2 a0 x1 (fun v3 w3 => (jRc w3 a0 9 ∧ w_X6_heightBySearch κ w3 a0 x1 (fun v4 w4 => (if v3 = v4 then jgR' w4 a0 9 0 (fun r5 => jgR' w4 r5 8 5 (fun r6 => (jRc w4 r6 4 ∧ w_X0_rootByLists κ w4 r6 x1 (fun v7 w7 => jgR' w7 a0 9 0 (fun r8 => jgR' w7 r8 8 5 (fun r9 => (jRc w7 r9 4 ∧ w_X0_rootByHalves κ w7 r9 x1 (fun v10 w10 => (if v7 = v10 then w_X6_waysAgree_b59 κ w10 a0 x1 (fun w_ z_a0 z_x1 => w_X6_waysAgree_b2 n κ w_ z_a0 z_x1 P) P else w_X6_waysAgree_b57 κ w10  P))))))))) else w_X6_waysAgree_b57 κ w4  P))))))))))
set_option maxRecDepth 100000 in
set_option maxHeartbeats 4000000 in
theorem k_X6_waysAgree_b2 {Γ : jG} (X : jX Γ cX6_waysAgree 2 RX6) (hR : jgR Γ = ({ frames := 23, cells := 0, slots := 0, locals := 567 } : Room)) {P : Int32 → va_W → Prop} (Rt : jRt Γ cX6_waysAgree 2 0 0 (some .boolean) (jPi P)) : ∀ (n : Nat) {w : va_W} {a0 : Nat} {x1 : Int32} (h : w_X6_waysAgree_b2 n (jgE Γ).2.2.2 w a0 x1 P), J Γ 2 w 0 0 2 [(0, .ref a0), (1, .int x1)] [] := by
  intro n
  induction n with
  | zero => intro w a0 x1 h; exact False.elim h
  | succ n ih =>
    intro w a0 x1 h
    rw [w_X6_waysAgree_b2] at h
    refine j_iload_n X dX6_waysAgree_2 1 rfl ?_
    refine j_bipush X 16 dX6_waysAgree_3 (by decide) ?_
    refine j_icmp_ge X 65 dX6_waysAgree_5 (by decide) (fun c => ?_) (fun c => ?_)
    · replace h := jif_t c h
      refine j_iconst X 1 dX6_waysAgree_65 (by decide) ?_
      exact Rt.z dX6_waysAgree_66 (by decide) ⟨_, rfl, h⟩ (by first | decide | omega) (by first | decide | omega)
    · replace h := jif_f c h
      refine j_aload_n X dX6_waysAgree_8 0 rfl ?_
      obtain ⟨fs1, r1, g1, i1, h⟩ := h
      refine j_get X (ci := 9) (C := RX6) (T := TX6) (N := 2) rfl jin_X6 0 (by decide) g1 i1 jw_178 rfl dX6_waysAgree_9 ?_
      refine j_iload_n X dX6_waysAgree_12 1 rfl ?_
      obtain ⟨⟨fs2, g2⟩, h⟩ := h
      refine j_callVi X [.int x1] [] (c_X5_isUsed h) (T := TX5) (N := 12) g2 rfl jm_X5_isUsed jw_363 rfl ⟨rfl, rfl⟩ (by rw [hR]; decide) rfl (Nat.le_of_ble_eq_true rfl) dX6_waysAgree_13 (fun v2 w2 h => ?_)
      refine j_if_eq X 59 dX6_waysAgree_16 (by decide) (fun c => ?_) (fun c => ?_)
      · replace h := jif_t c h
        exact k_X6_waysAgree_b59 X hR Rt (fun _ _ _ h => ih h) h
      · replace h := jif_f c h
        refine j_aload_n X dX6_waysAgree_19 0 rfl ?_
        refine j_iload_n X dX6_waysAgree_20 1 rfl ?_
        obtain ⟨⟨fs3, g3⟩, h⟩ := h
        refine j_callVi X [.int x1] [] (c_X6_heightByWalk h) (T := TX6) (N := 2) g3 rfl jm_X6_heightByWalk jw_1315 rfl ⟨rfl, rfl⟩ (by rw [hR]; decide) rfl (Nat.le_of_ble_eq_true rfl) dX6_waysAgree_21 (fun v3 w3 h => ?_)
        refine j_aload_n X dX6_waysAgree_24 0 rfl ?_
        refine j_iload_n X dX6_waysAgree_25 1 rfl ?_
        obtain ⟨⟨fs4, g4⟩, h⟩ := h
        refine j_callVi X [.int x1] [.int v3] (c_X6_heightBySearch h) (T := TX6) (N := 2) g4 rfl jm_X6_heightBySearch jw_1328 rfl ⟨rfl, rfl⟩ (by rw [hR]; decide) rfl (Nat.le_of_ble_eq_true rfl) dX6_waysAgree_26 (fun v4 w4 h => ?_)
        refine j_icmp_ne X 57 dX6_waysAgree_29 (by decide) (fun c => ?_) (fun c => ?_)
        · replace h := jif_f c h
          refine j_sub [] rfl ?_
          exact k_X6_waysAgree_b57 X hR Rt h
        · replace h := jif_t c h
          refine j_aload_n X dX6_waysAgree_32 0 rfl ?_
          obtain ⟨fs5, r5, g5, i5, h⟩ := h
          refine j_get X (ci := 9) (C := RX6) (T := TX6) (N := 2) rfl jin_X6 0 (by decide) g5 i5 jw_178 rfl dX6_waysAgree_33 ?_
          obtain ⟨fs6, r6, g6, i6, h⟩ := h
          refine j_getN X (ci := 8) (C := RX5) (T := TX5) (N := 12) rfl jin_X5 5 (by decide) g6 i6 jw_125 rfl dX6_waysAgree_36 ?_
          refine j_iload_n X dX6_waysAgree_39 1 rfl ?_
          obtain ⟨⟨fs7, g7⟩, h⟩ := h
          refine j_callVi X [.int x1] [] (c_X0_rootByLists h) (T := TX0) (N := 3) g7 rfl jm_X0_rootByLists jw_621 rfl ⟨rfl, rfl⟩ (by rw [hR]; decide) rfl (Nat.le_of_ble_eq_true rfl) dX6_waysAgree_40 (fun v7 w7 h => ?_)
          refine j_aload_n X dX6_waysAgree_43 0 rfl ?_
          obtain ⟨fs8, r8, g8, i8, h⟩ := h
          refine j_get X (ci := 9) (C := RX6) (T := TX6) (N := 2) rfl jin_X6 0 (by decide) g8 i8 jw_178 rfl dX6_waysAgree_44 ?_
          obtain ⟨fs9, r9, g9, i9, h⟩ := h
          refine j_getN X (ci := 8) (C := RX5) (T := TX5) (N := 12) rfl jin_X5 5 (by decide) g9 i9 jw_125 rfl dX6_waysAgree_47 ?_
          refine j_iload_n X dX6_waysAgree_50 1 rfl ?_
          obtain ⟨⟨fs10, g10⟩, h⟩ := h
          refine j_callVi X [.int x1] [.int v7] (c_X0_rootByHalves h) (T := TX0) (N := 3) g10 rfl jm_X0_rootByHalves jw_1335 rfl ⟨rfl, rfl⟩ (by rw [hR]; decide) rfl (Nat.le_of_ble_eq_true rfl) dX6_waysAgree_51 (fun v10 w10 h => ?_)
          refine j_icmp_eq X 59 dX6_waysAgree_54 (by decide) (fun c => ?_) (fun c => ?_)
          · replace h := jif_t c h
            exact k_X6_waysAgree_b59 X hR Rt (fun _ _ _ h => ih h) h
          · replace h := jif_f c h
            refine j_sub [] rfl ?_
            exact k_X6_waysAgree_b57 X hR Rt h
def w_X6_waysAgree_b0 (κ : Nat → Nat) (w : va_W) (a0 : Nat) (P : Int32 → va_W → Prop) : Prop :=
    w_X6_waysAgree_b2 jFu κ w a0 0 P
set_option maxRecDepth 100000 in
set_option maxHeartbeats 4000000 in
theorem k_X6_waysAgree_b0 {Γ : jG} (X : jX Γ cX6_waysAgree 2 RX6) (hR : jgR Γ = ({ frames := 23, cells := 0, slots := 0, locals := 567 } : Room)) {P : Int32 → va_W → Prop} (Rt : jRt Γ cX6_waysAgree 2 0 0 (some .boolean) (jPi P)) {w : va_W} {a0 : Nat} (h : w_X6_waysAgree_b0 (jgE Γ).2.2.2 w a0 P) : J Γ 2 w 0 0 0 [(0, .ref a0)] [] := by
  unfold w_X6_waysAgree_b0 at h
  refine j_iconst X 0 dX6_waysAgree_0 (by decide) ?_
  refine j_istore_n X [(1, .int 0), (0, .ref a0)] dX6_waysAgree_1 (by decide) rfl ?_
  refine j_sub [1, 0] rfl ?_
  exact k_X6_waysAgree_b2 X hR Rt _ h
def w_X6_waysAgree (κ : Nat → Nat) (w : va_W) (a0 : Nat) (P : Int32 → va_W → Prop) : Prop := w_X6_waysAgree_b0 κ w a0 P
theorem c_X6_waysAgree {E : jE} {w : va_W} {a0 : Nat} {P : Int32 → va_W → Prop} (h : w_X6_waysAgree E.2.2.2 w a0 P) : jC E yX6_waysAgree cX6_waysAgree 2 (some .boolean) ({ frames := 23, cells := 0, slots := 0, locals := 567 } : Room) [.ref a0] w 0 0 (jPi P) := by
  refine jC_of (by decide) (Nat.le_of_ble_eq_true rfl) ?_
  intro Γ X hE hR Rt
  subst hE
  exact k_X6_waysAgree_b0 X hR Rt h
theorem jm_X6_hashesAreSteps : jMv yX6_hashesAreSteps cX6_hashesAreSteps 2 (some .boolean) 0 := ⟨jw_1343, jw_1344, jw_27, jw_1345, ⟨by decide +kernel, by decide +kernel⟩, by decide +kernel⟩
def w_X6_hashesAreSteps_b41 (κ : Nat → Nat) (w : va_W) (a0 : Nat) (x1 : Int32) (K2 : va_W → Nat → Int32 → Prop) (P : Int32 → va_W → Prop) : Prop :=
    K2 w a0 (x1 + 1)
set_option maxRecDepth 100000 in
set_option maxHeartbeats 4000000 in
theorem k_X6_hashesAreSteps_b41 {Γ : jG} (X : jX Γ cX6_hashesAreSteps 2 RX6) (hR : jgR Γ = ({ frames := 2, cells := 0, slots := 0, locals := 42 } : Room)) {P : Int32 → va_W → Prop} (Rt : jRt Γ cX6_hashesAreSteps 2 0 0 (some .boolean) (jPi P)) {K2 : va_W → Nat → Int32 → Prop} (hK2 : ∀ (w : va_W) (a0 : Nat) (x1 : Int32), K2 w a0 x1 → J Γ 2 w 0 0 2 [(0, .ref a0), (1, .int x1)] []) {w : va_W} {a0 : Nat} {x1 : Int32} (h : w_X6_hashesAreSteps_b41 (jgE Γ).2.2.2 w a0 x1 K2 P) : J Γ 2 w 0 0 41 [(0, .ref a0), (1, .int x1)] [] := by
  unfold w_X6_hashesAreSteps_b41 at h
  refine j_iinc X (x1 + 1) [(1, .int (x1 + 1)), (0, .ref a0)] dX6_hashesAreSteps_41 1 rfl rfl (by decide) rfl ?_
  refine j_goto X 2 dX6_hashesAreSteps_44 (by decide) ?_
  refine j_sub [1, 0] rfl ?_
  exact hK2 _ _ _ h
def w_X6_hashesAreSteps_b2 : Nat → (κ : Nat → Nat) → (w : va_W) → (a0 : Nat) → (x1 : Int32) → (P : Int32 → va_W → Prop) → Prop
  | 0, _, _, _, _, _ => False
  | n + 1, κ, w, a0, x1, P =>
    (if 16 ≤ x1 then P 1 w else (if x1 = 0 then w_X6_hashesAreSteps_b41 κ w a0 x1 (fun w_ z_a0 z_x1 => w_X6_hashesAreSteps_b2 n κ w_ z_a0 z_x1 P) P else jgR' w a0 9 0 (fun r1 => (jRc w r1 8 ∧ w_X5_isUsed κ w r1 x1 (fun v2 w2 => (if v2 = 0 then w_X6_hashesAreSteps_b41 κ w2 a0 x1 (fun w_ z_a0 z_x1 => w_X6_hashesAreSteps_b2 n κ w_ z_a0 z_x1 P) P else jgR' w2 a0 9 0 (fun r3 => jgR' w2 r3 8 3 (fun r4 => (jRc w2 r4 6 ∧ w_X3_at κ w2 r4 x1 (fun v5 w5 => (if (jrem v5 4) = 0 then w_X6_hashesAreSteps_b41 κ w5 a0 x1 (fun w_ z_a0 z_x1 => w_X6_hashesAreSteps_b2 n κ w_ z_a0 z_x1 P) P else P 0 w5)))))))))))
set_option maxRecDepth 100000 in
set_option maxHeartbeats 4000000 in
theorem k_X6_hashesAreSteps_b2 {Γ : jG} (X : jX Γ cX6_hashesAreSteps 2 RX6) (hR : jgR Γ = ({ frames := 2, cells := 0, slots := 0, locals := 42 } : Room)) {P : Int32 → va_W → Prop} (Rt : jRt Γ cX6_hashesAreSteps 2 0 0 (some .boolean) (jPi P)) : ∀ (n : Nat) {w : va_W} {a0 : Nat} {x1 : Int32} (h : w_X6_hashesAreSteps_b2 n (jgE Γ).2.2.2 w a0 x1 P), J Γ 2 w 0 0 2 [(0, .ref a0), (1, .int x1)] [] := by
  intro n
  induction n with
  | zero => intro w a0 x1 h; exact False.elim h
  | succ n ih =>
    intro w a0 x1 h
    rw [w_X6_hashesAreSteps_b2] at h
    refine j_iload_n X dX6_hashesAreSteps_2 1 rfl ?_
    refine j_bipush X 16 dX6_hashesAreSteps_3 (by decide) ?_
    refine j_icmp_ge X 47 dX6_hashesAreSteps_5 (by decide) (fun c => ?_) (fun c => ?_)
    · replace h := jif_t c h
      refine j_iconst X 1 dX6_hashesAreSteps_47 (by decide) ?_
      exact Rt.z dX6_hashesAreSteps_48 (by decide) ⟨_, rfl, h⟩ (by first | decide | omega) (by first | decide | omega)
    · replace h := jif_f c h
      refine j_iload_n X dX6_hashesAreSteps_8 1 rfl ?_
      refine j_if_eq X 41 dX6_hashesAreSteps_9 (by decide) (fun c => ?_) (fun c => ?_)
      · replace h := jif_t c h
        exact k_X6_hashesAreSteps_b41 X hR Rt (fun _ _ _ h => ih h) h
      · replace h := jif_f c h
        refine j_aload_n X dX6_hashesAreSteps_12 0 rfl ?_
        obtain ⟨fs1, r1, g1, i1, h⟩ := h
        refine j_get X (ci := 9) (C := RX6) (T := TX6) (N := 2) rfl jin_X6 0 (by decide) g1 i1 jw_178 rfl dX6_hashesAreSteps_13 ?_
        refine j_iload_n X dX6_hashesAreSteps_16 1 rfl ?_
        obtain ⟨⟨fs2, g2⟩, h⟩ := h
        refine j_callVi X [.int x1] [] (c_X5_isUsed h) (T := TX5) (N := 12) g2 rfl jm_X5_isUsed jw_363 rfl ⟨rfl, rfl⟩ (by rw [hR]; decide) rfl (Nat.le_of_ble_eq_true rfl) dX6_hashesAreSteps_17 (fun v2 w2 h => ?_)
        refine j_if_eq X 41 dX6_hashesAreSteps_20 (by decide) (fun c => ?_) (fun c => ?_)
        · replace h := jif_t c h
          exact k_X6_hashesAreSteps_b41 X hR Rt (fun _ _ _ h => ih h) h
        · replace h := jif_f c h
          refine j_aload_n X dX6_hashesAreSteps_23 0 rfl ?_
          obtain ⟨fs3, r3, g3, i3, h⟩ := h
          refine j_get X (ci := 9) (C := RX6) (T := TX6) (N := 2) rfl jin_X6 0 (by decide) g3 i3 jw_178 rfl dX6_hashesAreSteps_24 ?_
          obtain ⟨fs4, r4, g4, i4, h⟩ := h
          refine j_getN X (ci := 8) (C := RX5) (T := TX5) (N := 12) rfl jin_X5 3 (by decide) g4 i4 jw_117 rfl dX6_hashesAreSteps_27 ?_
          refine j_iload_n X dX6_hashesAreSteps_30 1 rfl ?_
          obtain ⟨⟨fs5, g5⟩, h⟩ := h
          refine j_callVi X [.int x1] [] (c_X3_at h) (T := TX3) (N := 1) g5 rfl jm_X3_at jw_620 rfl ⟨rfl, rfl⟩ (by rw [hR]; decide) rfl (Nat.le_of_ble_eq_true rfl) dX6_hashesAreSteps_31 (fun v5 w5 h => ?_)
          refine j_iconst X 4 dX6_hashesAreSteps_34 (by decide) ?_
          refine j_irem X dX6_hashesAreSteps_35 (by decide) ?_
          refine j_if_eq X 41 dX6_hashesAreSteps_36 (by decide) (fun c => ?_) (fun c => ?_)
          · replace h := jif_t c h
            exact k_X6_hashesAreSteps_b41 X hR Rt (fun _ _ _ h => ih h) h
          · replace h := jif_f c h
            refine j_iconst X 0 dX6_hashesAreSteps_39 (by decide) ?_
            exact Rt.z dX6_hashesAreSteps_40 (by decide) ⟨_, rfl, h⟩ (by first | decide | omega) (by first | decide | omega)
def w_X6_hashesAreSteps_b0 (κ : Nat → Nat) (w : va_W) (a0 : Nat) (P : Int32 → va_W → Prop) : Prop :=
    w_X6_hashesAreSteps_b2 jFu κ w a0 0 P
set_option maxRecDepth 100000 in
set_option maxHeartbeats 4000000 in
theorem k_X6_hashesAreSteps_b0 {Γ : jG} (X : jX Γ cX6_hashesAreSteps 2 RX6) (hR : jgR Γ = ({ frames := 2, cells := 0, slots := 0, locals := 42 } : Room)) {P : Int32 → va_W → Prop} (Rt : jRt Γ cX6_hashesAreSteps 2 0 0 (some .boolean) (jPi P)) {w : va_W} {a0 : Nat} (h : w_X6_hashesAreSteps_b0 (jgE Γ).2.2.2 w a0 P) : J Γ 2 w 0 0 0 [(0, .ref a0)] [] := by
  unfold w_X6_hashesAreSteps_b0 at h
  refine j_iconst X 0 dX6_hashesAreSteps_0 (by decide) ?_
  refine j_istore_n X [(1, .int 0), (0, .ref a0)] dX6_hashesAreSteps_1 (by decide) rfl ?_
  refine j_sub [1, 0] rfl ?_
  exact k_X6_hashesAreSteps_b2 X hR Rt _ h
def w_X6_hashesAreSteps (κ : Nat → Nat) (w : va_W) (a0 : Nat) (P : Int32 → va_W → Prop) : Prop := w_X6_hashesAreSteps_b0 κ w a0 P
theorem c_X6_hashesAreSteps {E : jE} {w : va_W} {a0 : Nat} {P : Int32 → va_W → Prop} (h : w_X6_hashesAreSteps E.2.2.2 w a0 P) : jC E yX6_hashesAreSteps cX6_hashesAreSteps 2 (some .boolean) ({ frames := 2, cells := 0, slots := 0, locals := 42 } : Room) [.ref a0] w 0 0 (jPi P) := by
  refine jC_of (by decide) (Nat.le_of_ble_eq_true rfl) ?_
  intro Γ X hE hR Rt
  subst hE
  exact k_X6_hashesAreSteps_b0 X hR Rt h
theorem jmi_X7_init : jMi yX7_init cX7_init 3 2 := ⟨jw_188, jw_28, jw_189, ⟨by decide +kernel, by decide +kernel⟩, by decide +kernel, rfl⟩
def w_X7_init_b0 (κ : Nat → Nat) (w : va_W) (a0 : Nat) (a1 : Nat) (a2 : Nat) (P : va_W → Prop) : Prop :=
    (jpV w a0 10 0 (.ref a1) (fun w1 => (jpV w1 a0 10 1 (.ref a2) (fun w2 => (∀ q3 : Nat, jlk w2 q3 = none → (fun w3 => w_X3_init κ w3 q3 16 0 (fun w4 => (jpV w4 a0 10 2 (.ref q3) (fun w5 => P w5)))) (w2 ++ [(q3, .inr (6, [.null]))]))))))
set_option maxRecDepth 100000 in
set_option maxHeartbeats 4000000 in
theorem k_X7_init_b0 {Γ : jG} (hNm : (jgM Γ).name = "<init>") (X : jX Γ cX7_init 3 RX7) (hR : jgR Γ = ({ frames := 2, cells := 2, slots := 101, locals := 45 } : Room)) {P : va_W → Prop} (Rt : jRt Γ cX7_init 3 2 101 none (jPv P)) {w : va_W} {a0 : Nat} {a1 : Nat} {a2 : Nat} (h : w_X7_init_b0 (jgE Γ).2.2.2 w a0 a1 a2 P) : J Γ 3 w 0 0 0 [(0, .ref a0), (1, .ref a1), (2, .ref a2)] [] := by
  unfold w_X7_init_b0 at h
  refine j_aload_n X dX7_init_0 0 rfl ?_
  refine j_objInit X jw_190 jw_60 jw_61 (by rw [hR]; exact ⟨by decide, Nat.le_of_ble_eq_true rfl⟩) dX7_init_1 ?_
  refine j_aload_n X dX7_init_4 0 rfl ?_
  refine j_aload_n X dX7_init_5 1 rfl ?_
  obtain ⟨fs1, g1, i1, h⟩ := h
  refine j_putF X hNm (ci := 10) (C := RX7) (T := TX7) (N := 3) rfl jin_X7 tyX7 tyX7_ok nmX7 0 (by decide) g1 jw_193 rfl rfl rfl (by rfl) (by rfl) i1 dX7_init_6 ?_
  generalize jst w a0 _ = w1 at h ⊢
  refine j_aload_n X dX7_init_9 0 rfl ?_
  refine j_aload_n X dX7_init_10 2 rfl ?_
  obtain ⟨fs2, g2, i2, h⟩ := h
  refine j_putF X hNm (ci := 10) (C := RX7) (T := TX7) (N := 3) rfl jin_X7 tyX7 tyX7_ok nmX7 1 (by decide) g2 jw_194 rfl rfl rfl (by rfl) (by rfl) i2 dX7_init_11 ?_
  generalize jst w1 a0 _ = w2 at h ⊢
  refine j_aload_n X dX7_init_14 0 rfl ?_
  refine j_new X (C := RX3) (T := TX3) (N := 1) 6 [.null] rfl jin_X3 tyX3 tyX3_ok jw_191 jw_69 jw_24 (fun j hj => by rcases (show j = 0 by omega) with rfl <;> rfl) (by rw [hR]; exact ⟨by simp only []; omega, by simp only []; omega⟩) dX7_init_15 (fun q3 e3 => ?_)
  replace h := h q3 e3
  generalize w2 ++ [(q3, _)] = w3 at h ⊢
  refine j_dup X dX7_init_18 rfl ?_
  refine j_bipush X 16 dX7_init_19 (by decide) ?_
  refine j_iconst X 0 dX7_init_21 (by decide) ?_
  refine j_callI X [.int 16, .int 0] [.ref q3, .ref a0] (c_X3_init h) jmi_X3_init jw_192 rfl ⟨rfl, rfl⟩ (by rw [hR]; decide) rfl (Nat.le_of_ble_eq_true rfl) dX7_init_22 (fun w4 h => ?_)
  obtain ⟨fs5, g5, i5, h⟩ := h
  refine j_putF X hNm (ci := 10) (C := RX7) (T := TX7) (N := 3) rfl jin_X7 tyX7 tyX7_ok nmX7 2 (by decide) g5 jw_195 rfl rfl rfl (by rfl) (by rfl) i5 dX7_init_25 ?_
  generalize jst w4 a0 _ = w5 at h ⊢
  exact Rt.v dX7_init_28 ⟨rfl, h⟩ (by first | decide | omega) (by first | decide | omega)
def w_X7_init (κ : Nat → Nat) (w : va_W) (a0 : Nat) (a1 : Nat) (a2 : Nat) (P : va_W → Prop) : Prop := w_X7_init_b0 κ w a0 a1 a2 P
theorem c_X7_init {E : jE} {w : va_W} {a0 : Nat} {a1 : Nat} {a2 : Nat} {P : va_W → Prop} (h : w_X7_init E.2.2.2 w a0 a1 a2 P) : jC E yX7_init cX7_init 3 none ({ frames := 2, cells := 2, slots := 101, locals := 45 } : Room) [.ref a0, .ref a1, .ref a2] w 2 101 (jPv P) := by
  refine jC_ofN (by decide) (Nat.le_of_ble_eq_true rfl) ?_
  intro Γ hNm X hE hR Rt
  subst hE
  exact k_X7_init_b0 hNm X hR Rt h
theorem jm_X7_refusalToRaiseHill : jMv yX7_refusalToRaiseHill cX7_refusalToRaiseHill 1 (some (.object "SnowLedger$Refusal")) 0 := ⟨jw_385, jw_386, jw_28, jw_387, ⟨by decide +kernel, by decide +kernel⟩, by decide +kernel⟩
def w_X7_refusalToRaiseHill_b20 (κ : Nat → Nat) (w : va_W) (s0 : Nat) (P : Nat → va_W → Prop) : Prop :=
    P s0 w
set_option maxRecDepth 100000 in
set_option maxHeartbeats 4000000 in
theorem k_X7_refusalToRaiseHill_b20 {Γ : jG} (X : jX Γ cX7_refusalToRaiseHill 1 RX7) (hR : jgR Γ = ({ frames := 0, cells := 0, slots := 0, locals := 0 } : Room)) {P : Nat → va_W → Prop} (Rt : jRt Γ cX7_refusalToRaiseHill 1 0 0 (some (.object "SnowLedger$Refusal")) (jPr P)) {w : va_W} {s0 : Nat} (h : w_X7_refusalToRaiseHill_b20 (jgE Γ).2.2.2 w s0 P) : J Γ 1 w 0 0 20 [] [.ref s0] := by
  unfold w_X7_refusalToRaiseHill_b20 at h
  exact Rt.a (Or.inl ⟨_, rfl⟩) dX7_refusalToRaiseHill_20 ⟨_, rfl, h⟩ (by first | decide | omega) (by first | decide | omega)
def w_X7_refusalToRaiseHill_b0 (κ : Nat → Nat) (w : va_W) (a0 : Nat) (P : Nat → va_W → Prop) : Prop :=
    jgR' w a0 10 0 (fun r1 => jgI w r1 8 8 (fun v2 => (if 4 ≤ v2 then w_X7_refusalToRaiseHill_b20 κ w (κ 6) P else w_X7_refusalToRaiseHill_b20 κ w (κ 2) P)))
set_option maxRecDepth 100000 in
set_option maxHeartbeats 4000000 in
theorem k_X7_refusalToRaiseHill_b0 {Γ : jG} (X : jX Γ cX7_refusalToRaiseHill 1 RX7) (hR : jgR Γ = ({ frames := 0, cells := 0, slots := 0, locals := 0 } : Room)) {P : Nat → va_W → Prop} (Rt : jRt Γ cX7_refusalToRaiseHill 1 0 0 (some (.object "SnowLedger$Refusal")) (jPr P)) {w : va_W} {a0 : Nat} (h : w_X7_refusalToRaiseHill_b0 (jgE Γ).2.2.2 w a0 P) : J Γ 1 w 0 0 0 [(0, .ref a0)] [] := by
  unfold w_X7_refusalToRaiseHill_b0 at h
  refine j_aload_n X dX7_refusalToRaiseHill_0 0 rfl ?_
  obtain ⟨fs1, r1, g1, i1, h⟩ := h
  refine j_get X (ci := 10) (C := RX7) (T := TX7) (N := 3) rfl jin_X7 0 (by decide) g1 i1 jw_193 rfl dX7_refusalToRaiseHill_1 ?_
  obtain ⟨fs2, v2, g2, i2, h⟩ := h
  refine j_getN X (ci := 8) (C := RX5) (T := TX5) (N := 12) rfl jin_X5 8 (by decide) g2 i2 jw_135 rfl dX7_refusalToRaiseHill_4 ?_
  refine j_iconst X 4 dX7_refusalToRaiseHill_7 (by decide) ?_
  refine j_icmp_ge X 17 dX7_refusalToRaiseHill_8 (by decide) (fun c => ?_) (fun c => ?_)
  · replace h := jif_t c h
    refine j_getsE X 4 (by decide) rfl jw_390 dX7_refusalToRaiseHill_17 ?_
    refine j_sub [] rfl ?_
    exact k_X7_refusalToRaiseHill_b20 X hR Rt h
  · replace h := jif_f c h
    refine j_getsE X 0 (by decide) rfl jw_388 dX7_refusalToRaiseHill_11 ?_
    refine j_goto X 20 dX7_refusalToRaiseHill_14 (by decide) ?_
    refine j_sub [] rfl ?_
    exact k_X7_refusalToRaiseHill_b20 X hR Rt h
def w_X7_refusalToRaiseHill (κ : Nat → Nat) (w : va_W) (a0 : Nat) (P : Nat → va_W → Prop) : Prop := w_X7_refusalToRaiseHill_b0 κ w a0 P
theorem c_X7_refusalToRaiseHill {E : jE} {w : va_W} {a0 : Nat} {P : Nat → va_W → Prop} (h : w_X7_refusalToRaiseHill E.2.2.2 w a0 P) : jC E yX7_refusalToRaiseHill cX7_refusalToRaiseHill 1 (some (.object "SnowLedger$Refusal")) ({ frames := 0, cells := 0, slots := 0, locals := 0 } : Room) [.ref a0] w 0 0 (jPr P) := by
  refine jC_of (by decide) (Nat.le_of_ble_eq_true rfl) ?_
  intro Γ X hE hR Rt
  subst hE
  exact k_X7_refusalToRaiseHill_b0 X hR Rt h
theorem jm_X8_isFlake : jMs yX8_isFlake cX8_isFlake 1 (some .boolean) 1 := ⟨jw_578, jw_22, jw_579, ⟨by decide +kernel, by decide +kernel⟩, by decide +kernel⟩
def w_X8_isFlake_b15 (κ : Nat → Nat) (w : va_W) (s0 : Int32) (P : Int32 → va_W → Prop) : Prop :=
    (narrow .boolean (.int s0) = .int s0 ∧ P s0 w)
set_option maxRecDepth 100000 in
set_option maxHeartbeats 4000000 in
theorem k_X8_isFlake_b15 {Γ : jG} (X : jX Γ cX8_isFlake 1 RX8) (hR : jgR Γ = ({ frames := 0, cells := 0, slots := 0, locals := 0 } : Room)) {P : Int32 → va_W → Prop} (Rt : jRt Γ cX8_isFlake 1 0 0 (some .boolean) (jPi P)) {w : va_W} {s0 : Int32} (h : w_X8_isFlake_b15 (jgE Γ).2.2.2 w s0 P) : J Γ 1 w 0 0 15 [] [.int s0] := by
  unfold w_X8_isFlake_b15 at h
  exact Rt.z dX8_isFlake_15 h.1 ⟨_, rfl, h.2⟩ (by first | decide | omega) (by first | decide | omega)
def w_X8_isFlake_b14 (κ : Nat → Nat) (w : va_W) (P : Int32 → va_W → Prop) : Prop :=
    w_X8_isFlake_b15 κ w 0 P
set_option maxRecDepth 100000 in
set_option maxHeartbeats 4000000 in
theorem k_X8_isFlake_b14 {Γ : jG} (X : jX Γ cX8_isFlake 1 RX8) (hR : jgR Γ = ({ frames := 0, cells := 0, slots := 0, locals := 0 } : Room)) {P : Int32 → va_W → Prop} (Rt : jRt Γ cX8_isFlake 1 0 0 (some .boolean) (jPi P)) {w : va_W} (h : w_X8_isFlake_b14 (jgE Γ).2.2.2 w  P) : J Γ 1 w 0 0 14 [] [] := by
  unfold w_X8_isFlake_b14 at h
  refine j_iconst X 0 dX8_isFlake_14 (by decide) ?_
  exact k_X8_isFlake_b15 X hR Rt h
def w_X8_isFlake_b0 (κ : Nat → Nat) (w : va_W) (x0 : Int32) (P : Int32 → va_W → Prop) : Prop :=
    (if x0 < 0 then w_X8_isFlake_b14 κ w  P else (if 100 ≤ x0 then w_X8_isFlake_b14 κ w  P else w_X8_isFlake_b15 κ w 1 P))
set_option maxRecDepth 100000 in
set_option maxHeartbeats 4000000 in
theorem k_X8_isFlake_b0 {Γ : jG} (X : jX Γ cX8_isFlake 1 RX8) (hR : jgR Γ = ({ frames := 0, cells := 0, slots := 0, locals := 0 } : Room)) {P : Int32 → va_W → Prop} (Rt : jRt Γ cX8_isFlake 1 0 0 (some .boolean) (jPi P)) {w : va_W} {x0 : Int32} (h : w_X8_isFlake_b0 (jgE Γ).2.2.2 w x0 P) : J Γ 1 w 0 0 0 [(0, .int x0)] [] := by
  unfold w_X8_isFlake_b0 at h
  refine j_iload_n X dX8_isFlake_0 0 rfl ?_
  refine j_if_lt X 14 dX8_isFlake_1 (by decide) (fun c => ?_) (fun c => ?_)
  · replace h := jif_t c h
    refine j_sub [] rfl ?_
    exact k_X8_isFlake_b14 X hR Rt h
  · replace h := jif_f c h
    refine j_iload_n X dX8_isFlake_4 0 rfl ?_
    refine j_bipush X 100 dX8_isFlake_5 (by decide) ?_
    refine j_icmp_ge X 14 dX8_isFlake_7 (by decide) (fun c => ?_) (fun c => ?_)
    · replace h := jif_t c h
      refine j_sub [] rfl ?_
      exact k_X8_isFlake_b14 X hR Rt h
    · replace h := jif_f c h
      refine j_iconst X 1 dX8_isFlake_10 (by decide) ?_
      refine j_goto X 15 dX8_isFlake_11 (by decide) ?_
      refine j_sub [] rfl ?_
      exact k_X8_isFlake_b15 X hR Rt h
def w_X8_isFlake (κ : Nat → Nat) (w : va_W) (x0 : Int32) (P : Int32 → va_W → Prop) : Prop := w_X8_isFlake_b0 κ w x0 P
theorem c_X8_isFlake {E : jE} {w : va_W} {x0 : Int32} {P : Int32 → va_W → Prop} (h : w_X8_isFlake E.2.2.2 w x0 P) : jC E yX8_isFlake cX8_isFlake 1 (some .boolean) ({ frames := 0, cells := 0, slots := 0, locals := 0 } : Room) [.int x0] w 0 0 (jPi P) := by
  refine jC_of (by decide) (Nat.le_of_ble_eq_true rfl) ?_
  intro Γ X hE hR Rt
  subst hE
  exact k_X8_isFlake_b0 X hR Rt h
theorem jm_X7_refusalToHold : jMv yX7_refusalToHold cX7_refusalToHold 3 (some (.object "SnowLedger$Refusal")) 2 := ⟨jw_569, jw_570, jw_28, jw_571, ⟨by decide +kernel, by decide +kernel⟩, by decide +kernel⟩
def w_X7_refusalToHold_b50 (κ : Nat → Nat) (w : va_W) (s0 : Nat) (P : Nat → va_W → Prop) : Prop :=
    P s0 w
set_option maxRecDepth 100000 in
set_option maxHeartbeats 4000000 in
theorem k_X7_refusalToHold_b50 {Γ : jG} (X : jX Γ cX7_refusalToHold 3 RX7) (hR : jgR Γ = ({ frames := 2, cells := 0, slots := 0, locals := 42 } : Room)) {P : Nat → va_W → Prop} (Rt : jRt Γ cX7_refusalToHold 3 0 0 (some (.object "SnowLedger$Refusal")) (jPr P)) {w : va_W} {s0 : Nat} (h : w_X7_refusalToHold_b50 (jgE Γ).2.2.2 w s0 P) : J Γ 3 w 0 0 50 [] [.ref s0] := by
  unfold w_X7_refusalToHold_b50 at h
  exact Rt.a (Or.inl ⟨_, rfl⟩) dX7_refusalToHold_50 ⟨_, rfl, h⟩ (by first | decide | omega) (by first | decide | omega)
def w_X7_refusalToHold_b0 (κ : Nat → Nat) (w : va_W) (a0 : Nat) (x1 : Int32) (x2 : Int32) (P : Nat → va_W → Prop) : Prop :=
    jgR' w a0 10 0 (fun r1 => (jRc w r1 8 ∧ w_X5_hasHill κ w r1 x1 (fun v2 w2 => (if v2 = 0 then P (κ 3) w2 else w_X8_isFlake κ w2 x2 (fun v3 w3 => (if v3 = 0 then P (κ 5) w3 else jgR' w3 a0 10 0 (fun r4 => jgR' w3 r4 8 7 (fun r5 => (jRc w3 r5 4 ∧ w_X0_size κ w3 r5 x1 (fun v6 w6 => (if 4 ≤ v6 then w_X7_refusalToHold_b50 κ w6 (κ 6) P else w_X7_refusalToHold_b50 κ w6 (κ 2) P)))))))))))
set_option maxRecDepth 100000 in
set_option maxHeartbeats 4000000 in
theorem k_X7_refusalToHold_b0 {Γ : jG} (X : jX Γ cX7_refusalToHold 3 RX7) (hR : jgR Γ = ({ frames := 2, cells := 0, slots := 0, locals := 42 } : Room)) {P : Nat → va_W → Prop} (Rt : jRt Γ cX7_refusalToHold 3 0 0 (some (.object "SnowLedger$Refusal")) (jPr P)) {w : va_W} {a0 : Nat} {x1 : Int32} {x2 : Int32} (h : w_X7_refusalToHold_b0 (jgE Γ).2.2.2 w a0 x1 x2 P) : J Γ 3 w 0 0 0 [(0, .ref a0), (1, .int x1), (2, .int x2)] [] := by
  unfold w_X7_refusalToHold_b0 at h
  refine j_aload_n X dX7_refusalToHold_0 0 rfl ?_
  obtain ⟨fs1, r1, g1, i1, h⟩ := h
  refine j_get X (ci := 10) (C := RX7) (T := TX7) (N := 3) rfl jin_X7 0 (by decide) g1 i1 jw_193 rfl dX7_refusalToHold_1 ?_
  refine j_iload_n X dX7_refusalToHold_4 1 rfl ?_
  obtain ⟨⟨fs2, g2⟩, h⟩ := h
  refine j_callVi X [.int x1] [] (c_X5_hasHill h) (T := TX5) (N := 12) g2 rfl jm_X5_hasHill jw_572 rfl ⟨rfl, rfl⟩ (by rw [hR]; decide) rfl (Nat.le_of_ble_eq_true rfl) dX7_refusalToHold_5 (fun v2 w2 h => ?_)
  refine j_if_ne X 15 dX7_refusalToHold_8 (by decide) (fun c => ?_) (fun c => ?_)
  · replace h := jif_f c h
    refine j_iload_n X dX7_refusalToHold_15 2 rfl ?_
    refine j_callSNi X [.int x2] [] (c_X8_isFlake h) jm_X8_isFlake jw_577 rfl ⟨rfl, rfl⟩ (by rw [hR]; decide) rfl (Nat.le_of_ble_eq_true rfl) dX7_refusalToHold_16 (fun v3 w3 h => ?_)
    refine j_if_ne X 26 dX7_refusalToHold_19 (by decide) (fun c => ?_) (fun c => ?_)
    · replace h := jif_f c h
      refine j_aload_n X dX7_refusalToHold_26 0 rfl ?_
      obtain ⟨fs4, r4, g4, i4, h⟩ := h
      refine j_get X (ci := 10) (C := RX7) (T := TX7) (N := 3) rfl jin_X7 0 (by decide) g4 i4 jw_193 rfl dX7_refusalToHold_27 ?_
      obtain ⟨fs5, r5, g5, i5, h⟩ := h
      refine j_getN X (ci := 8) (C := RX5) (T := TX5) (N := 12) rfl jin_X5 7 (by decide) g5 i5 jw_132 rfl dX7_refusalToHold_30 ?_
      refine j_iload_n X dX7_refusalToHold_33 1 rfl ?_
      obtain ⟨⟨fs6, g6⟩, h⟩ := h
      refine j_callVi X [.int x1] [] (c_X0_size h) (T := TX0) (N := 3) g6 rfl jm_X0_size jw_581 rfl ⟨rfl, rfl⟩ (by rw [hR]; decide) rfl (Nat.le_of_ble_eq_true rfl) dX7_refusalToHold_34 (fun v6 w6 h => ?_)
      refine j_iconst X 4 dX7_refusalToHold_37 (by decide) ?_
      refine j_icmp_ge X 47 dX7_refusalToHold_38 (by decide) (fun c => ?_) (fun c => ?_)
      · replace h := jif_t c h
        refine j_getsE X 4 (by decide) rfl jw_390 dX7_refusalToHold_47 ?_
        refine j_sub [] rfl ?_
        exact k_X7_refusalToHold_b50 X hR Rt h
      · replace h := jif_f c h
        refine j_getsE X 0 (by decide) rfl jw_388 dX7_refusalToHold_41 ?_
        refine j_goto X 50 dX7_refusalToHold_44 (by decide) ?_
        refine j_sub [] rfl ?_
        exact k_X7_refusalToHold_b50 X hR Rt h
    · replace h := jif_t c h
      refine j_getsE X 3 (by decide) rfl jw_580 dX7_refusalToHold_22 ?_
      exact Rt.a (Or.inl ⟨_, rfl⟩) dX7_refusalToHold_25 ⟨_, rfl, h⟩ (by first | decide | omega) (by first | decide | omega)
  · replace h := jif_t c h
    refine j_getsE X 1 (by decide) rfl jw_576 dX7_refusalToHold_11 ?_
    exact Rt.a (Or.inl ⟨_, rfl⟩) dX7_refusalToHold_14 ⟨_, rfl, h⟩ (by first | decide | omega) (by first | decide | omega)
def w_X7_refusalToHold (κ : Nat → Nat) (w : va_W) (a0 : Nat) (x1 : Int32) (x2 : Int32) (P : Nat → va_W → Prop) : Prop := w_X7_refusalToHold_b0 κ w a0 x1 x2 P
theorem c_X7_refusalToHold {E : jE} {w : va_W} {a0 : Nat} {x1 : Int32} {x2 : Int32} {P : Nat → va_W → Prop} (h : w_X7_refusalToHold E.2.2.2 w a0 x1 x2 P) : jC E yX7_refusalToHold cX7_refusalToHold 3 (some (.object "SnowLedger$Refusal")) ({ frames := 2, cells := 0, slots := 0, locals := 42 } : Room) [.ref a0, .int x1, .int x2] w 0 0 (jPr P) := by
  refine jC_of (by decide) (Nat.le_of_ble_eq_true rfl) ?_
  intro Γ X hE hR Rt
  subst hE
  exact k_X7_refusalToHold_b0 X hR Rt h
theorem jm_X7_refusalToAppend : jMv yX7_refusalToAppend cX7_refusalToAppend 2 (some (.object "SnowLedger$Refusal")) 1 := ⟨jw_603, jw_604, jw_28, jw_605, ⟨by decide +kernel, by decide +kernel⟩, by decide +kernel⟩
def w_X7_refusalToAppend_b61 (κ : Nat → Nat) (w : va_W) (s0 : Nat) (P : Nat → va_W → Prop) : Prop :=
    P s0 w
set_option maxRecDepth 100000 in
set_option maxHeartbeats 4000000 in
theorem k_X7_refusalToAppend_b61 {Γ : jG} (X : jX Γ cX7_refusalToAppend 2 RX7) (hR : jgR Γ = ({ frames := 4, cells := 0, slots := 0, locals := 96 } : Room)) {P : Nat → va_W → Prop} (Rt : jRt Γ cX7_refusalToAppend 2 0 0 (some (.object "SnowLedger$Refusal")) (jPr P)) {w : va_W} {s0 : Nat} (h : w_X7_refusalToAppend_b61 (jgE Γ).2.2.2 w s0 P) : J Γ 2 w 0 0 61 [] [.ref s0] := by
  unfold w_X7_refusalToAppend_b61 at h
  exact Rt.a (Or.inl ⟨_, rfl⟩) dX7_refusalToAppend_61 ⟨_, rfl, h⟩ (by first | decide | omega) (by first | decide | omega)
def w_X7_refusalToAppend_b0 (κ : Nat → Nat) (w : va_W) (a0 : Nat) (x1 : Int32) (P : Nat → va_W → Prop) : Prop :=
    jgR' w a0 10 0 (fun r1 => (jRc w r1 8 ∧ w_X5_hasHill κ w r1 x1 (fun v2 w2 => (if v2 = 0 then P (κ 3) w2 else jgR' w2 a0 10 0 (fun r3 => (jRc w2 r3 8 ∧ w_X5_freeSlot κ w2 r3 (fun v4 w4 => (if v4 = (-1) then P (κ 6) w4 else jgR' w4 a0 10 1 (fun r5 => jgR' w4 a0 10 0 (fun r6 => jgR' w4 r6 8 6 (fun r7 => (jRc w4 r7 6 ∧ w_X3_at κ w4 r7 x1 (fun v8 w8 => (jRc w8 r5 9 ∧ w_X6_lowestBroken κ w8 r5 v8 (fun v9 w9 => (if v9 = (-1) then w_X7_refusalToAppend_b61 κ w9 (κ 2) P else w_X7_refusalToAppend_b61 κ w9 (κ 7) P))))))))))))))))
set_option maxRecDepth 100000 in
set_option maxHeartbeats 4000000 in
theorem k_X7_refusalToAppend_b0 {Γ : jG} (X : jX Γ cX7_refusalToAppend 2 RX7) (hR : jgR Γ = ({ frames := 4, cells := 0, slots := 0, locals := 96 } : Room)) {P : Nat → va_W → Prop} (Rt : jRt Γ cX7_refusalToAppend 2 0 0 (some (.object "SnowLedger$Refusal")) (jPr P)) {w : va_W} {a0 : Nat} {x1 : Int32} (h : w_X7_refusalToAppend_b0 (jgE Γ).2.2.2 w a0 x1 P) : J Γ 2 w 0 0 0 [(0, .ref a0), (1, .int x1)] [] := by
  unfold w_X7_refusalToAppend_b0 at h
  refine j_aload_n X dX7_refusalToAppend_0 0 rfl ?_
  obtain ⟨fs1, r1, g1, i1, h⟩ := h
  refine j_get X (ci := 10) (C := RX7) (T := TX7) (N := 3) rfl jin_X7 0 (by decide) g1 i1 jw_193 rfl dX7_refusalToAppend_1 ?_
  refine j_iload_n X dX7_refusalToAppend_4 1 rfl ?_
  obtain ⟨⟨fs2, g2⟩, h⟩ := h
  refine j_callVi X [.int x1] [] (c_X5_hasHill h) (T := TX5) (N := 12) g2 rfl jm_X5_hasHill jw_572 rfl ⟨rfl, rfl⟩ (by rw [hR]; decide) rfl (Nat.le_of_ble_eq_true rfl) dX7_refusalToAppend_5 (fun v2 w2 h => ?_)
  refine j_if_ne X 15 dX7_refusalToAppend_8 (by decide) (fun c => ?_) (fun c => ?_)
  · replace h := jif_f c h
    refine j_aload_n X dX7_refusalToAppend_15 0 rfl ?_
    obtain ⟨fs3, r3, g3, i3, h⟩ := h
    refine j_get X (ci := 10) (C := RX7) (T := TX7) (N := 3) rfl jin_X7 0 (by decide) g3 i3 jw_193 rfl dX7_refusalToAppend_16 ?_
    obtain ⟨⟨fs4, g4⟩, h⟩ := h
    refine j_callVi X [] [] (c_X5_freeSlot h) (T := TX5) (N := 12) g4 rfl jm_X5_freeSlot jw_606 rfl ⟨rfl, rfl⟩ (by rw [hR]; decide) rfl (Nat.le_of_ble_eq_true rfl) dX7_refusalToAppend_19 (fun v4 w4 h => ?_)
    refine j_iconst X (-1) dX7_refusalToAppend_22 (by decide) ?_
    refine j_icmp_ne X 30 dX7_refusalToAppend_23 (by decide) (fun c => ?_) (fun c => ?_)
    · replace h := jif_f c h
      refine j_aload_n X dX7_refusalToAppend_30 0 rfl ?_
      obtain ⟨fs5, r5, g5, i5, h⟩ := h
      refine j_get X (ci := 10) (C := RX7) (T := TX7) (N := 3) rfl jin_X7 1 (by decide) g5 i5 jw_194 rfl dX7_refusalToAppend_31 ?_
      refine j_aload_n X dX7_refusalToAppend_34 0 rfl ?_
      obtain ⟨fs6, r6, g6, i6, h⟩ := h
      refine j_get X (ci := 10) (C := RX7) (T := TX7) (N := 3) rfl jin_X7 0 (by decide) g6 i6 jw_193 rfl dX7_refusalToAppend_35 ?_
      obtain ⟨fs7, r7, g7, i7, h⟩ := h
      refine j_getN X (ci := 8) (C := RX5) (T := TX5) (N := 12) rfl jin_X5 6 (by decide) g7 i7 jw_129 rfl dX7_refusalToAppend_38 ?_
      refine j_iload_n X dX7_refusalToAppend_41 1 rfl ?_
      obtain ⟨⟨fs8, g8⟩, h⟩ := h
      refine j_callVi X [.int x1] [.ref r5] (c_X3_at h) (T := TX3) (N := 1) g8 rfl jm_X3_at jw_611 rfl ⟨rfl, rfl⟩ (by rw [hR]; decide) rfl (Nat.le_of_ble_eq_true rfl) dX7_refusalToAppend_42 (fun v8 w8 h => ?_)
      obtain ⟨⟨fs9, g9⟩, h⟩ := h
      refine j_callVi X [.int v8] [] (c_X6_lowestBroken h) (T := TX6) (N := 2) g9 rfl jm_X6_lowestBroken jw_612 rfl ⟨rfl, rfl⟩ (by rw [hR]; decide) rfl (Nat.le_of_ble_eq_true rfl) dX7_refusalToAppend_45 (fun v9 w9 h => ?_)
      refine j_iconst X (-1) dX7_refusalToAppend_48 (by decide) ?_
      refine j_icmp_ne X 58 dX7_refusalToAppend_49 (by decide) (fun c => ?_) (fun c => ?_)
      · replace h := jif_f c h
        refine j_getsE X 5 (by decide) rfl jw_631 dX7_refusalToAppend_58 ?_
        refine j_sub [] rfl ?_
        exact k_X7_refusalToAppend_b61 X hR Rt h
      · replace h := jif_t c h
        refine j_getsE X 0 (by decide) rfl jw_388 dX7_refusalToAppend_52 ?_
        refine j_goto X 61 dX7_refusalToAppend_55 (by decide) ?_
        refine j_sub [] rfl ?_
        exact k_X7_refusalToAppend_b61 X hR Rt h
    · replace h := jif_t c h
      refine j_getsE X 4 (by decide) rfl jw_390 dX7_refusalToAppend_26 ?_
      exact Rt.a (Or.inl ⟨_, rfl⟩) dX7_refusalToAppend_29 ⟨_, rfl, h⟩ (by first | decide | omega) (by first | decide | omega)
  · replace h := jif_t c h
    refine j_getsE X 1 (by decide) rfl jw_576 dX7_refusalToAppend_11 ?_
    exact Rt.a (Or.inl ⟨_, rfl⟩) dX7_refusalToAppend_14 ⟨_, rfl, h⟩ (by first | decide | omega) (by first | decide | omega)
def w_X7_refusalToAppend (κ : Nat → Nat) (w : va_W) (a0 : Nat) (x1 : Int32) (P : Nat → va_W → Prop) : Prop := w_X7_refusalToAppend_b0 κ w a0 x1 P
theorem c_X7_refusalToAppend {E : jE} {w : va_W} {a0 : Nat} {x1 : Int32} {P : Nat → va_W → Prop} (h : w_X7_refusalToAppend E.2.2.2 w a0 x1 P) : jC E yX7_refusalToAppend cX7_refusalToAppend 2 (some (.object "SnowLedger$Refusal")) ({ frames := 4, cells := 0, slots := 0, locals := 96 } : Room) [.ref a0, .int x1] w 0 0 (jPr P) := by
  refine jC_of (by decide) (Nat.le_of_ble_eq_true rfl) ?_
  intro Γ X hE hR Rt
  subst hE
  exact k_X7_refusalToAppend_b0 X hR Rt h
theorem jm_X7_refusalToTurn : jMv yX7_refusalToTurn cX7_refusalToTurn 3 (some (.object "SnowLedger$Refusal")) 2 := ⟨jw_659, jw_660, jw_28, jw_661, ⟨by decide +kernel, by decide +kernel⟩, by decide +kernel⟩
def w_X7_refusalToTurn_b36 (κ : Nat → Nat) (w : va_W) (s0 : Nat) (P : Nat → va_W → Prop) : Prop :=
    P s0 w
set_option maxRecDepth 100000 in
set_option maxHeartbeats 4000000 in
theorem k_X7_refusalToTurn_b36 {Γ : jG} (X : jX Γ cX7_refusalToTurn 3 RX7) (hR : jgR Γ = ({ frames := 2, cells := 0, slots := 0, locals := 43 } : Room)) {P : Nat → va_W → Prop} (Rt : jRt Γ cX7_refusalToTurn 3 0 0 (some (.object "SnowLedger$Refusal")) (jPr P)) {w : va_W} {s0 : Nat} (h : w_X7_refusalToTurn_b36 (jgE Γ).2.2.2 w s0 P) : J Γ 3 w 0 0 36 [] [.ref s0] := by
  unfold w_X7_refusalToTurn_b36 at h
  exact Rt.a (Or.inl ⟨_, rfl⟩) dX7_refusalToTurn_36 ⟨_, rfl, h⟩ (by first | decide | omega) (by first | decide | omega)
def w_X7_refusalToTurn_b0 (κ : Nat → Nat) (w : va_W) (a0 : Nat) (x1 : Int32) (x2 : Int32) (P : Nat → va_W → Prop) : Prop :=
    jgR' w a0 10 0 (fun r1 => (jRc w r1 8 ∧ w_X5_hasHill κ w r1 x1 (fun v2 w2 => (if v2 = 0 then P (κ 3) w2 else jgR' w2 a0 10 0 (fun r3 => (jRc w2 r3 8 ∧ w_X5_slotOf κ w2 r3 x2 (fun v4 w4 => (if v4 = (-1) then w_X7_refusalToTurn_b36 κ w4 (κ 4) P else w_X7_refusalToTurn_b36 κ w4 (κ 2) P))))))))
set_option maxRecDepth 100000 in
set_option maxHeartbeats 4000000 in
theorem k_X7_refusalToTurn_b0 {Γ : jG} (X : jX Γ cX7_refusalToTurn 3 RX7) (hR : jgR Γ = ({ frames := 2, cells := 0, slots := 0, locals := 43 } : Room)) {P : Nat → va_W → Prop} (Rt : jRt Γ cX7_refusalToTurn 3 0 0 (some (.object "SnowLedger$Refusal")) (jPr P)) {w : va_W} {a0 : Nat} {x1 : Int32} {x2 : Int32} (h : w_X7_refusalToTurn_b0 (jgE Γ).2.2.2 w a0 x1 x2 P) : J Γ 3 w 0 0 0 [(0, .ref a0), (1, .int x1), (2, .int x2)] [] := by
  unfold w_X7_refusalToTurn_b0 at h
  refine j_aload_n X dX7_refusalToTurn_0 0 rfl ?_
  obtain ⟨fs1, r1, g1, i1, h⟩ := h
  refine j_get X (ci := 10) (C := RX7) (T := TX7) (N := 3) rfl jin_X7 0 (by decide) g1 i1 jw_193 rfl dX7_refusalToTurn_1 ?_
  refine j_iload_n X dX7_refusalToTurn_4 1 rfl ?_
  obtain ⟨⟨fs2, g2⟩, h⟩ := h
  refine j_callVi X [.int x1] [] (c_X5_hasHill h) (T := TX5) (N := 12) g2 rfl jm_X5_hasHill jw_572 rfl ⟨rfl, rfl⟩ (by rw [hR]; decide) rfl (Nat.le_of_ble_eq_true rfl) dX7_refusalToTurn_5 (fun v2 w2 h => ?_)
  refine j_if_ne X 15 dX7_refusalToTurn_8 (by decide) (fun c => ?_) (fun c => ?_)
  · replace h := jif_f c h
    refine j_aload_n X dX7_refusalToTurn_15 0 rfl ?_
    obtain ⟨fs3, r3, g3, i3, h⟩ := h
    refine j_get X (ci := 10) (C := RX7) (T := TX7) (N := 3) rfl jin_X7 0 (by decide) g3 i3 jw_193 rfl dX7_refusalToTurn_16 ?_
    refine j_iload_n X dX7_refusalToTurn_19 2 rfl ?_
    obtain ⟨⟨fs4, g4⟩, h⟩ := h
    refine j_callVi X [.int x2] [] (c_X5_slotOf h) (T := TX5) (N := 12) g4 rfl jm_X5_slotOf jw_662 rfl ⟨rfl, rfl⟩ (by rw [hR]; decide) rfl (Nat.le_of_ble_eq_true rfl) dX7_refusalToTurn_20 (fun v4 w4 h => ?_)
    refine j_iconst X (-1) dX7_refusalToTurn_23 (by decide) ?_
    refine j_icmp_ne X 33 dX7_refusalToTurn_24 (by decide) (fun c => ?_) (fun c => ?_)
    · replace h := jif_f c h
      refine j_getsE X 0 (by decide) rfl jw_388 dX7_refusalToTurn_33 ?_
      refine j_sub [] rfl ?_
      exact k_X7_refusalToTurn_b36 X hR Rt h
    · replace h := jif_t c h
      refine j_getsE X 2 (by decide) rfl jw_666 dX7_refusalToTurn_27 ?_
      refine j_goto X 36 dX7_refusalToTurn_30 (by decide) ?_
      refine j_sub [] rfl ?_
      exact k_X7_refusalToTurn_b36 X hR Rt h
  · replace h := jif_t c h
    refine j_getsE X 1 (by decide) rfl jw_576 dX7_refusalToTurn_11 ?_
    exact Rt.a (Or.inl ⟨_, rfl⟩) dX7_refusalToTurn_14 ⟨_, rfl, h⟩ (by first | decide | omega) (by first | decide | omega)
def w_X7_refusalToTurn (κ : Nat → Nat) (w : va_W) (a0 : Nat) (x1 : Int32) (x2 : Int32) (P : Nat → va_W → Prop) : Prop := w_X7_refusalToTurn_b0 κ w a0 x1 x2 P
theorem c_X7_refusalToTurn {E : jE} {w : va_W} {a0 : Nat} {x1 : Int32} {x2 : Int32} {P : Nat → va_W → Prop} (h : w_X7_refusalToTurn E.2.2.2 w a0 x1 x2 P) : jC E yX7_refusalToTurn cX7_refusalToTurn 3 (some (.object "SnowLedger$Refusal")) ({ frames := 2, cells := 0, slots := 0, locals := 43 } : Room) [.ref a0, .int x1, .int x2] w 0 0 (jPr P) := by
  refine jC_of (by decide) (Nat.le_of_ble_eq_true rfl) ?_
  intro Γ X hE hR Rt
  subst hE
  exact k_X7_refusalToTurn_b0 X hR Rt h
theorem jm_X7_refusalToRemove : jMv yX7_refusalToRemove cX7_refusalToRemove 3 (some (.object "SnowLedger$Refusal")) 1 := ⟨jw_1082, jw_1083, jw_28, jw_1084, ⟨by decide +kernel, by decide +kernel⟩, by decide +kernel⟩
def w_X7_refusalToRemove_b31 (κ : Nat → Nat) (w : va_W) (s0 : Nat) (P : Nat → va_W → Prop) : Prop :=
    P s0 w
set_option maxRecDepth 100000 in
set_option maxHeartbeats 4000000 in
theorem k_X7_refusalToRemove_b31 {Γ : jG} (X : jX Γ cX7_refusalToRemove 3 RX7) (hR : jgR Γ = ({ frames := 2, cells := 0, slots := 0, locals := 43 } : Room)) {P : Nat → va_W → Prop} (Rt : jRt Γ cX7_refusalToRemove 3 0 0 (some (.object "SnowLedger$Refusal")) (jPr P)) {w : va_W} {s0 : Nat} (h : w_X7_refusalToRemove_b31 (jgE Γ).2.2.2 w s0 P) : J Γ 3 w 0 0 31 [] [.ref s0] := by
  unfold w_X7_refusalToRemove_b31 at h
  exact Rt.a (Or.inl ⟨_, rfl⟩) dX7_refusalToRemove_31 ⟨_, rfl, h⟩ (by first | decide | omega) (by first | decide | omega)
def w_X7_refusalToRemove_b0 (κ : Nat → Nat) (w : va_W) (a0 : Nat) (x1 : Int32) (P : Nat → va_W → Prop) : Prop :=
    jgR' w a0 10 0 (fun r1 => (jRc w r1 8 ∧ w_X5_slotOf κ w r1 x1 (fun v2 w2 => (if v2 = (-1) then P (κ 4) w2 else (if v2 = 0 then w_X7_refusalToRemove_b31 κ w2 (κ 5) P else w_X7_refusalToRemove_b31 κ w2 (κ 2) P)))))
set_option maxRecDepth 100000 in
set_option maxHeartbeats 4000000 in
theorem k_X7_refusalToRemove_b0 {Γ : jG} (X : jX Γ cX7_refusalToRemove 3 RX7) (hR : jgR Γ = ({ frames := 2, cells := 0, slots := 0, locals := 43 } : Room)) {P : Nat → va_W → Prop} (Rt : jRt Γ cX7_refusalToRemove 3 0 0 (some (.object "SnowLedger$Refusal")) (jPr P)) {w : va_W} {a0 : Nat} {x1 : Int32} (h : w_X7_refusalToRemove_b0 (jgE Γ).2.2.2 w a0 x1 P) : J Γ 3 w 0 0 0 [(0, .ref a0), (1, .int x1)] [] := by
  unfold w_X7_refusalToRemove_b0 at h
  refine j_aload_n X dX7_refusalToRemove_0 0 rfl ?_
  obtain ⟨fs1, r1, g1, i1, h⟩ := h
  refine j_get X (ci := 10) (C := RX7) (T := TX7) (N := 3) rfl jin_X7 0 (by decide) g1 i1 jw_193 rfl dX7_refusalToRemove_1 ?_
  refine j_iload_n X dX7_refusalToRemove_4 1 rfl ?_
  obtain ⟨⟨fs2, g2⟩, h⟩ := h
  refine j_callVi X [.int x1] [] (c_X5_slotOf h) (T := TX5) (N := 12) g2 rfl jm_X5_slotOf jw_662 rfl ⟨rfl, rfl⟩ (by rw [hR]; decide) rfl (Nat.le_of_ble_eq_true rfl) dX7_refusalToRemove_5 (fun v2 w2 h => ?_)
  refine j_istore_n X [(2, .int v2), (0, .ref a0), (1, .int x1)] dX7_refusalToRemove_8 (by decide) rfl ?_
  refine j_iload_n X dX7_refusalToRemove_9 0 rfl ?_
  refine j_iconst X (-1) dX7_refusalToRemove_10 (by decide) ?_
  refine j_icmp_ne X 18 dX7_refusalToRemove_11 (by decide) (fun c => ?_) (fun c => ?_)
  · replace h := jif_f c h
    refine j_iload_n X dX7_refusalToRemove_18 0 rfl ?_
    refine j_if_ne X 28 dX7_refusalToRemove_19 (by decide) (fun c => ?_) (fun c => ?_)
    · replace h := jif_f c h
      refine j_getsE X 0 (by decide) rfl jw_388 dX7_refusalToRemove_28 ?_
      refine j_sub [] rfl ?_
      exact k_X7_refusalToRemove_b31 X hR Rt h
    · replace h := jif_t c h
      refine j_getsE X 3 (by decide) rfl jw_580 dX7_refusalToRemove_22 ?_
      refine j_goto X 31 dX7_refusalToRemove_25 (by decide) ?_
      refine j_sub [] rfl ?_
      exact k_X7_refusalToRemove_b31 X hR Rt h
  · replace h := jif_t c h
    refine j_getsE X 2 (by decide) rfl jw_666 dX7_refusalToRemove_14 ?_
    exact Rt.a (Or.inl ⟨_, rfl⟩) dX7_refusalToRemove_17 ⟨_, rfl, h⟩ (by first | decide | omega) (by first | decide | omega)
def w_X7_refusalToRemove (κ : Nat → Nat) (w : va_W) (a0 : Nat) (x1 : Int32) (P : Nat → va_W → Prop) : Prop := w_X7_refusalToRemove_b0 κ w a0 x1 P
theorem c_X7_refusalToRemove {E : jE} {w : va_W} {a0 : Nat} {x1 : Int32} {P : Nat → va_W → Prop} (h : w_X7_refusalToRemove E.2.2.2 w a0 x1 P) : jC E yX7_refusalToRemove cX7_refusalToRemove 3 (some (.object "SnowLedger$Refusal")) ({ frames := 2, cells := 0, slots := 0, locals := 43 } : Room) [.ref a0, .int x1] w 0 0 (jPr P) := by
  refine jC_of (by decide) (Nat.le_of_ble_eq_true rfl) ?_
  intro Γ X hE hR Rt
  subst hE
  exact k_X7_refusalToRemove_b0 X hR Rt h
theorem jm_X7_refusalToSwap : jMv yX7_refusalToSwap cX7_refusalToSwap 5 (some (.object "SnowLedger$Refusal")) 3 := ⟨jw_679, jw_680, jw_28, jw_681, ⟨by decide +kernel, by decide +kernel⟩, by decide +kernel⟩
def w_X7_refusalToSwap_b56 (κ : Nat → Nat) (w : va_W) (s0 : Nat) (P : Nat → va_W → Prop) : Prop :=
    P s0 w
set_option maxRecDepth 100000 in
set_option maxHeartbeats 4000000 in
theorem k_X7_refusalToSwap_b56 {Γ : jG} (X : jX Γ cX7_refusalToSwap 5 RX7) (hR : jgR Γ = ({ frames := 2, cells := 0, slots := 0, locals := 43 } : Room)) {P : Nat → va_W → Prop} (Rt : jRt Γ cX7_refusalToSwap 5 0 0 (some (.object "SnowLedger$Refusal")) (jPr P)) {w : va_W} {s0 : Nat} (h : w_X7_refusalToSwap_b56 (jgE Γ).2.2.2 w s0 P) : J Γ 5 w 0 0 56 [] [.ref s0] := by
  unfold w_X7_refusalToSwap_b56 at h
  exact Rt.a (Or.inl ⟨_, rfl⟩) dX7_refusalToSwap_56 ⟨_, rfl, h⟩ (by first | decide | omega) (by first | decide | omega)
def w_X7_refusalToSwap_b0 (κ : Nat → Nat) (w : va_W) (a0 : Nat) (x1 : Int32) (x2 : Int32) (x3 : Int32) (P : Nat → va_W → Prop) : Prop :=
    jgR' w a0 10 0 (fun r1 => (jRc w r1 8 ∧ w_X5_slotOf κ w r1 x1 (fun v2 w2 => (if v2 = (-1) then P (κ 4) w2 else jgR' w2 a0 10 0 (fun r3 => jgR' w2 r3 8 5 (fun r4 => (jRc w2 r4 4 ∧ w_X0_hasPosition κ w2 r4 v2 x2 (fun v5 w5 => (if v5 = 0 then P (κ 3) w5 else w_X8_isFlake κ w5 x3 (fun v6 w6 => (if v6 = 0 then w_X7_refusalToSwap_b56 κ w6 (κ 5) P else w_X7_refusalToSwap_b56 κ w6 (κ 2) P)))))))))))
set_option maxRecDepth 100000 in
set_option maxHeartbeats 4000000 in
theorem k_X7_refusalToSwap_b0 {Γ : jG} (X : jX Γ cX7_refusalToSwap 5 RX7) (hR : jgR Γ = ({ frames := 2, cells := 0, slots := 0, locals := 43 } : Room)) {P : Nat → va_W → Prop} (Rt : jRt Γ cX7_refusalToSwap 5 0 0 (some (.object "SnowLedger$Refusal")) (jPr P)) {w : va_W} {a0 : Nat} {x1 : Int32} {x2 : Int32} {x3 : Int32} (h : w_X7_refusalToSwap_b0 (jgE Γ).2.2.2 w a0 x1 x2 x3 P) : J Γ 5 w 0 0 0 [(0, .ref a0), (1, .int x1), (2, .int x2), (3, .int x3)] [] := by
  unfold w_X7_refusalToSwap_b0 at h
  refine j_aload_n X dX7_refusalToSwap_0 0 rfl ?_
  obtain ⟨fs1, r1, g1, i1, h⟩ := h
  refine j_get X (ci := 10) (C := RX7) (T := TX7) (N := 3) rfl jin_X7 0 (by decide) g1 i1 jw_193 rfl dX7_refusalToSwap_1 ?_
  refine j_iload_n X dX7_refusalToSwap_4 1 rfl ?_
  obtain ⟨⟨fs2, g2⟩, h⟩ := h
  refine j_callVi X [.int x1] [] (c_X5_slotOf h) (T := TX5) (N := 12) g2 rfl jm_X5_slotOf jw_662 rfl ⟨rfl, rfl⟩ (by rw [hR]; decide) rfl (Nat.le_of_ble_eq_true rfl) dX7_refusalToSwap_5 (fun v2 w2 h => ?_)
  refine j_istore X [(4, .int v2), (0, .ref a0), (1, .int x1), (2, .int x2), (3, .int x3)] dX7_refusalToSwap_8 (by decide) rfl ?_
  refine j_iload X dX7_refusalToSwap_10 0 rfl ?_
  refine j_iconst X (-1) dX7_refusalToSwap_12 (by decide) ?_
  refine j_icmp_ne X 20 dX7_refusalToSwap_13 (by decide) (fun c => ?_) (fun c => ?_)
  · replace h := jif_f c h
    refine j_aload_n X dX7_refusalToSwap_20 1 rfl ?_
    obtain ⟨fs3, r3, g3, i3, h⟩ := h
    refine j_get X (ci := 10) (C := RX7) (T := TX7) (N := 3) rfl jin_X7 0 (by decide) g3 i3 jw_193 rfl dX7_refusalToSwap_21 ?_
    obtain ⟨fs4, r4, g4, i4, h⟩ := h
    refine j_getN X (ci := 8) (C := RX5) (T := TX5) (N := 12) rfl jin_X5 5 (by decide) g4 i4 jw_126 rfl dX7_refusalToSwap_24 ?_
    refine j_iload X dX7_refusalToSwap_27 0 rfl ?_
    refine j_iload_n X dX7_refusalToSwap_29 3 rfl ?_
    obtain ⟨⟨fs5, g5⟩, h⟩ := h
    refine j_callVi X [.int v2, .int x2] [] (c_X0_hasPosition h) (T := TX0) (N := 3) g5 rfl jm_X0_hasPosition jw_682 rfl ⟨rfl, rfl⟩ (by rw [hR]; decide) rfl (Nat.le_of_ble_eq_true rfl) dX7_refusalToSwap_30 (fun v5 w5 h => ?_)
    refine j_if_ne X 40 dX7_refusalToSwap_33 (by decide) (fun c => ?_) (fun c => ?_)
    · replace h := jif_f c h
      refine j_iload_n X dX7_refusalToSwap_40 4 rfl ?_
      refine j_callSNi X [.int x3] [] (c_X8_isFlake h) jm_X8_isFlake jw_577 rfl ⟨rfl, rfl⟩ (by rw [hR]; decide) rfl (Nat.le_of_ble_eq_true rfl) dX7_refusalToSwap_41 (fun v6 w6 h => ?_)
      refine j_if_eq X 53 dX7_refusalToSwap_44 (by decide) (fun c => ?_) (fun c => ?_)
      · replace h := jif_t c h
        refine j_getsE X 3 (by decide) rfl jw_580 dX7_refusalToSwap_53 ?_
        refine j_sub [] rfl ?_
        exact k_X7_refusalToSwap_b56 X hR Rt h
      · replace h := jif_f c h
        refine j_getsE X 0 (by decide) rfl jw_388 dX7_refusalToSwap_47 ?_
        refine j_goto X 56 dX7_refusalToSwap_50 (by decide) ?_
        refine j_sub [] rfl ?_
        exact k_X7_refusalToSwap_b56 X hR Rt h
    · replace h := jif_t c h
      refine j_getsE X 1 (by decide) rfl jw_576 dX7_refusalToSwap_36 ?_
      exact Rt.a (Or.inl ⟨_, rfl⟩) dX7_refusalToSwap_39 ⟨_, rfl, h⟩ (by first | decide | omega) (by first | decide | omega)
  · replace h := jif_t c h
    refine j_getsE X 2 (by decide) rfl jw_666 dX7_refusalToSwap_16 ?_
    exact Rt.a (Or.inl ⟨_, rfl⟩) dX7_refusalToSwap_19 ⟨_, rfl, h⟩ (by first | decide | omega) (by first | decide | omega)
def w_X7_refusalToSwap (κ : Nat → Nat) (w : va_W) (a0 : Nat) (x1 : Int32) (x2 : Int32) (x3 : Int32) (P : Nat → va_W → Prop) : Prop := w_X7_refusalToSwap_b0 κ w a0 x1 x2 x3 P
theorem c_X7_refusalToSwap {E : jE} {w : va_W} {a0 : Nat} {x1 : Int32} {x2 : Int32} {x3 : Int32} {P : Nat → va_W → Prop} (h : w_X7_refusalToSwap E.2.2.2 w a0 x1 x2 x3 P) : jC E yX7_refusalToSwap cX7_refusalToSwap 5 (some (.object "SnowLedger$Refusal")) ({ frames := 2, cells := 0, slots := 0, locals := 43 } : Room) [.ref a0, .int x1, .int x2, .int x3] w 0 0 (jPr P) := by
  refine jC_of (by decide) (Nat.le_of_ble_eq_true rfl) ?_
  intro Γ X hE hR Rt
  subst hE
  exact k_X7_refusalToSwap_b0 X hR Rt h
theorem jm_X7_refusalToMend : jMv yX7_refusalToMend cX7_refusalToMend 3 (some (.object "SnowLedger$Refusal")) 1 := ⟨jw_1087, jw_1088, jw_28, jw_1089, ⟨by decide +kernel, by decide +kernel⟩, by decide +kernel⟩
def w_X7_refusalToMend_b42 (κ : Nat → Nat) (w : va_W) (s0 : Nat) (P : Nat → va_W → Prop) : Prop :=
    P s0 w
set_option maxRecDepth 100000 in
set_option maxHeartbeats 4000000 in
theorem k_X7_refusalToMend_b42 {Γ : jG} (X : jX Γ cX7_refusalToMend 3 RX7) (hR : jgR Γ = ({ frames := 3, cells := 0, slots := 0, locals := 72 } : Room)) {P : Nat → va_W → Prop} (Rt : jRt Γ cX7_refusalToMend 3 0 0 (some (.object "SnowLedger$Refusal")) (jPr P)) {w : va_W} {s0 : Nat} (h : w_X7_refusalToMend_b42 (jgE Γ).2.2.2 w s0 P) : J Γ 3 w 0 0 42 [] [.ref s0] := by
  unfold w_X7_refusalToMend_b42 at h
  exact Rt.a (Or.inl ⟨_, rfl⟩) dX7_refusalToMend_42 ⟨_, rfl, h⟩ (by first | decide | omega) (by first | decide | omega)
def w_X7_refusalToMend_b0 (κ : Nat → Nat) (w : va_W) (a0 : Nat) (x1 : Int32) (P : Nat → va_W → Prop) : Prop :=
    (jRc w a0 10 ∧ w_X7_refusalToRemove κ w a0 x1 (fun r1 w1 => (if r1 = (κ 2) then jgR' w1 a0 10 1 (fun r2 => jgR' w1 a0 10 0 (fun r3 => (jRc w1 r3 8 ∧ w_X5_slotOf κ w1 r3 x1 (fun v4 w4 => (jRc w4 r2 9 ∧ w_X6_holds κ w4 r2 v4 (fun v5 w5 => (if v5 = 0 then w_X7_refusalToMend_b42 κ w5 (κ 2) P else w_X7_refusalToMend_b42 κ w5 (κ 6) P))))))) else P r1 w1)))
set_option maxRecDepth 100000 in
set_option maxHeartbeats 4000000 in
theorem k_X7_refusalToMend_b0 {Γ : jG} (X : jX Γ cX7_refusalToMend 3 RX7) (hR : jgR Γ = ({ frames := 3, cells := 0, slots := 0, locals := 72 } : Room)) {P : Nat → va_W → Prop} (Rt : jRt Γ cX7_refusalToMend 3 0 0 (some (.object "SnowLedger$Refusal")) (jPr P)) {w : va_W} {a0 : Nat} {x1 : Int32} (h : w_X7_refusalToMend_b0 (jgE Γ).2.2.2 w a0 x1 P) : J Γ 3 w 0 0 0 [(0, .ref a0), (1, .int x1)] [] := by
  unfold w_X7_refusalToMend_b0 at h
  refine j_aload_n X dX7_refusalToMend_0 0 rfl ?_
  refine j_iload_n X dX7_refusalToMend_1 1 rfl ?_
  obtain ⟨⟨fs1, g1⟩, h⟩ := h
  refine j_callVr X [.int x1] [] (c_X7_refusalToRemove h) (T := TX7) (N := 3) g1 rfl jm_X7_refusalToRemove jw_1081 rfl ⟨rfl, rfl⟩ (by rw [hR]; decide) rfl (Nat.le_of_ble_eq_true rfl) dX7_refusalToMend_2 (fun r1 w1 h => ?_)
  refine j_astore_n X [(2, .ref r1), (0, .ref a0), (1, .int x1)] dX7_refusalToMend_5 (by decide) rfl ?_
  refine j_aload_n X dX7_refusalToMend_6 0 rfl ?_
  refine j_getsE X 0 (by decide) rfl jw_388 dX7_refusalToMend_7 ?_
  refine j_acmp_eq X 15 dX7_refusalToMend_10 (by decide) (fun c => ?_) (fun c => ?_)
  · replace h := jif_t c h
    refine j_aload_n X dX7_refusalToMend_15 1 rfl ?_
    obtain ⟨fs2, r2, g2, i2, h⟩ := h
    refine j_get X (ci := 10) (C := RX7) (T := TX7) (N := 3) rfl jin_X7 1 (by decide) g2 i2 jw_194 rfl dX7_refusalToMend_16 ?_
    refine j_aload_n X dX7_refusalToMend_19 1 rfl ?_
    obtain ⟨fs3, r3, g3, i3, h⟩ := h
    refine j_get X (ci := 10) (C := RX7) (T := TX7) (N := 3) rfl jin_X7 0 (by decide) g3 i3 jw_193 rfl dX7_refusalToMend_20 ?_
    refine j_iload_n X dX7_refusalToMend_23 2 rfl ?_
    obtain ⟨⟨fs4, g4⟩, h⟩ := h
    refine j_callVi X [.int x1] [.ref r2] (c_X5_slotOf h) (T := TX5) (N := 12) g4 rfl jm_X5_slotOf jw_662 rfl ⟨rfl, rfl⟩ (by rw [hR]; decide) rfl (Nat.le_of_ble_eq_true rfl) dX7_refusalToMend_24 (fun v4 w4 h => ?_)
    obtain ⟨⟨fs5, g5⟩, h⟩ := h
    refine j_callVi X [.int v4] [] (c_X6_holds h) (T := TX6) (N := 2) g5 rfl jm_X6_holds jw_1090 rfl ⟨rfl, rfl⟩ (by rw [hR]; decide) rfl (Nat.le_of_ble_eq_true rfl) dX7_refusalToMend_27 (fun v5 w5 h => ?_)
    refine j_if_eq X 39 dX7_refusalToMend_30 (by decide) (fun c => ?_) (fun c => ?_)
    · replace h := jif_t c h
      refine j_getsE X 0 (by decide) rfl jw_388 dX7_refusalToMend_39 ?_
      refine j_sub [] rfl ?_
      exact k_X7_refusalToMend_b42 X hR Rt h
    · replace h := jif_f c h
      refine j_getsE X 4 (by decide) rfl jw_390 dX7_refusalToMend_33 ?_
      refine j_goto X 42 dX7_refusalToMend_36 (by decide) ?_
      refine j_sub [] rfl ?_
      exact k_X7_refusalToMend_b42 X hR Rt h
  · replace h := jif_f c h
    refine j_aload_n X dX7_refusalToMend_13 0 rfl ?_
    exact Rt.a (Or.inl ⟨_, rfl⟩) dX7_refusalToMend_14 ⟨_, rfl, h⟩ (by first | decide | omega) (by first | decide | omega)
def w_X7_refusalToMend (κ : Nat → Nat) (w : va_W) (a0 : Nat) (x1 : Int32) (P : Nat → va_W → Prop) : Prop := w_X7_refusalToMend_b0 κ w a0 x1 P
theorem c_X7_refusalToMend {E : jE} {w : va_W} {a0 : Nat} {x1 : Int32} {P : Nat → va_W → Prop} (h : w_X7_refusalToMend E.2.2.2 w a0 x1 P) : jC E yX7_refusalToMend cX7_refusalToMend 3 (some (.object "SnowLedger$Refusal")) ({ frames := 3, cells := 0, slots := 0, locals := 72 } : Room) [.ref a0, .int x1] w 0 0 (jPr P) := by
  refine jC_of (by decide) (Nat.le_of_ble_eq_true rfl) ?_
  intro Γ X hE hR Rt
  subst hE
  exact k_X7_refusalToMend_b0 X hR Rt h
theorem jm_X7_refusalOf : jMv yX7_refusalOf cX7_refusalOf 5 (some (.object "SnowLedger$Refusal")) 4 := ⟨jw_1074, jw_1075, jw_28, jw_1076, ⟨by decide +kernel, by decide +kernel⟩, by decide +kernel⟩
def w_X7_refusalOf_b0 (κ : Nat → Nat) (w : va_W) (a0 : Nat) (x1 : Int32) (x2 : Int32) (x3 : Int32) (x4 : Int32) (P : Nat → va_W → Prop) : Prop :=
    (if x1 = 0 then (jRc w a0 10 ∧ w_X7_refusalToRaiseHill κ w a0 (fun r2 w2 => P r2 w2)) else (if x1 = 1 then (jRc w a0 10 ∧ w_X7_refusalToHold κ w a0 x2 x3 (fun r3 w3 => P r3 w3)) else (if x1 = 2 then (jRc w a0 10 ∧ w_X7_refusalToAppend κ w a0 x2 (fun r4 w4 => P r4 w4)) else (if x1 = 3 then (jRc w a0 10 ∧ w_X7_refusalToTurn κ w a0 x2 x3 (fun r5 w5 => P r5 w5)) else (if x1 = 4 then (jRc w a0 10 ∧ w_X7_refusalToRemove κ w a0 x2 (fun r6 w6 => P r6 w6)) else (if x1 = 5 then (jRc w a0 10 ∧ w_X7_refusalToSwap κ w a0 x2 x3 x4 (fun r7 w7 => P r7 w7)) else (jRc w a0 10 ∧ w_X7_refusalToMend κ w a0 x2 (fun r8 w8 => P r8 w8))))))))
set_option maxRecDepth 100000 in
set_option maxHeartbeats 4000000 in
theorem k_X7_refusalOf_b0 {Γ : jG} (X : jX Γ cX7_refusalOf 5 RX7) (hR : jgR Γ = ({ frames := 5, cells := 0, slots := 0, locals := 117 } : Room)) {P : Nat → va_W → Prop} (Rt : jRt Γ cX7_refusalOf 5 0 0 (some (.object "SnowLedger$Refusal")) (jPr P)) {w : va_W} {a0 : Nat} {x1 : Int32} {x2 : Int32} {x3 : Int32} {x4 : Int32} (h : w_X7_refusalOf_b0 (jgE Γ).2.2.2 w a0 x1 x2 x3 x4 P) : J Γ 5 w 0 0 0 [(0, .ref a0), (1, .int x1), (2, .int x2), (3, .int x3), (4, .int x4)] [] := by
  unfold w_X7_refusalOf_b0 at h
  refine j_iload_n X dX7_refusalOf_0 1 rfl ?_
  by_cases c1_0 : x1 = 0
  · replace h := jif_t c1_0 h
    refine j_tableIn X 40 dX7_refusalOf_1 (by rw [c1_0]; decide) (by rw [c1_0]; decide) (by rw [c1_0]; rfl) (by decide) ?_
    refine j_aload_n X dX7_refusalOf_40 0 rfl ?_
    obtain ⟨⟨fs2, g2⟩, h⟩ := h
    refine j_callVr X [] [] (c_X7_refusalToRaiseHill h) (T := TX7) (N := 3) g2 rfl jm_X7_refusalToRaiseHill jw_1077 rfl ⟨rfl, rfl⟩ (by rw [hR]; decide) rfl (Nat.le_of_ble_eq_true rfl) dX7_refusalOf_41 (fun r2 w2 h => ?_)
    exact Rt.a (Or.inl ⟨_, rfl⟩) dX7_refusalOf_44 ⟨_, rfl, h⟩ (by first | decide | omega) (by first | decide | omega)
  replace h := jif_f c1_0 h
  by_cases c1_1 : x1 = 1
  · replace h := jif_t c1_1 h
    refine j_tableIn X 45 dX7_refusalOf_1 (by rw [c1_1]; decide) (by rw [c1_1]; decide) (by rw [c1_1]; rfl) (by decide) ?_
    refine j_aload_n X dX7_refusalOf_45 0 rfl ?_
    refine j_iload_n X dX7_refusalOf_46 2 rfl ?_
    refine j_iload_n X dX7_refusalOf_47 3 rfl ?_
    obtain ⟨⟨fs3, g3⟩, h⟩ := h
    refine j_callVr X [.int x2, .int x3] [] (c_X7_refusalToHold h) (T := TX7) (N := 3) g3 rfl jm_X7_refusalToHold jw_1078 rfl ⟨rfl, rfl⟩ (by rw [hR]; decide) rfl (Nat.le_of_ble_eq_true rfl) dX7_refusalOf_48 (fun r3 w3 h => ?_)
    exact Rt.a (Or.inl ⟨_, rfl⟩) dX7_refusalOf_51 ⟨_, rfl, h⟩ (by first | decide | omega) (by first | decide | omega)
  replace h := jif_f c1_1 h
  by_cases c1_2 : x1 = 2
  · replace h := jif_t c1_2 h
    refine j_tableIn X 52 dX7_refusalOf_1 (by rw [c1_2]; decide) (by rw [c1_2]; decide) (by rw [c1_2]; rfl) (by decide) ?_
    refine j_aload_n X dX7_refusalOf_52 0 rfl ?_
    refine j_iload_n X dX7_refusalOf_53 2 rfl ?_
    obtain ⟨⟨fs4, g4⟩, h⟩ := h
    refine j_callVr X [.int x2] [] (c_X7_refusalToAppend h) (T := TX7) (N := 3) g4 rfl jm_X7_refusalToAppend jw_1079 rfl ⟨rfl, rfl⟩ (by rw [hR]; decide) rfl (Nat.le_of_ble_eq_true rfl) dX7_refusalOf_54 (fun r4 w4 h => ?_)
    exact Rt.a (Or.inl ⟨_, rfl⟩) dX7_refusalOf_57 ⟨_, rfl, h⟩ (by first | decide | omega) (by first | decide | omega)
  replace h := jif_f c1_2 h
  by_cases c1_3 : x1 = 3
  · replace h := jif_t c1_3 h
    refine j_tableIn X 58 dX7_refusalOf_1 (by rw [c1_3]; decide) (by rw [c1_3]; decide) (by rw [c1_3]; rfl) (by decide) ?_
    refine j_aload_n X dX7_refusalOf_58 0 rfl ?_
    refine j_iload_n X dX7_refusalOf_59 2 rfl ?_
    refine j_iload_n X dX7_refusalOf_60 3 rfl ?_
    obtain ⟨⟨fs5, g5⟩, h⟩ := h
    refine j_callVr X [.int x2, .int x3] [] (c_X7_refusalToTurn h) (T := TX7) (N := 3) g5 rfl jm_X7_refusalToTurn jw_1080 rfl ⟨rfl, rfl⟩ (by rw [hR]; decide) rfl (Nat.le_of_ble_eq_true rfl) dX7_refusalOf_61 (fun r5 w5 h => ?_)
    exact Rt.a (Or.inl ⟨_, rfl⟩) dX7_refusalOf_64 ⟨_, rfl, h⟩ (by first | decide | omega) (by first | decide | omega)
  replace h := jif_f c1_3 h
  by_cases c1_4 : x1 = 4
  · replace h := jif_t c1_4 h
    refine j_tableIn X 65 dX7_refusalOf_1 (by rw [c1_4]; decide) (by rw [c1_4]; decide) (by rw [c1_4]; rfl) (by decide) ?_
    refine j_aload_n X dX7_refusalOf_65 0 rfl ?_
    refine j_iload_n X dX7_refusalOf_66 2 rfl ?_
    obtain ⟨⟨fs6, g6⟩, h⟩ := h
    refine j_callVr X [.int x2] [] (c_X7_refusalToRemove h) (T := TX7) (N := 3) g6 rfl jm_X7_refusalToRemove jw_1081 rfl ⟨rfl, rfl⟩ (by rw [hR]; decide) rfl (Nat.le_of_ble_eq_true rfl) dX7_refusalOf_67 (fun r6 w6 h => ?_)
    exact Rt.a (Or.inl ⟨_, rfl⟩) dX7_refusalOf_70 ⟨_, rfl, h⟩ (by first | decide | omega) (by first | decide | omega)
  replace h := jif_f c1_4 h
  by_cases c1_5 : x1 = 5
  · replace h := jif_t c1_5 h
    refine j_tableIn X 71 dX7_refusalOf_1 (by rw [c1_5]; decide) (by rw [c1_5]; decide) (by rw [c1_5]; rfl) (by decide) ?_
    refine j_aload_n X dX7_refusalOf_71 0 rfl ?_
    refine j_iload_n X dX7_refusalOf_72 2 rfl ?_
    refine j_iload_n X dX7_refusalOf_73 3 rfl ?_
    refine j_iload X dX7_refusalOf_74 4 rfl ?_
    obtain ⟨⟨fs7, g7⟩, h⟩ := h
    refine j_callVr X [.int x2, .int x3, .int x4] [] (c_X7_refusalToSwap h) (T := TX7) (N := 3) g7 rfl jm_X7_refusalToSwap jw_1085 rfl ⟨rfl, rfl⟩ (by rw [hR]; decide) rfl (Nat.le_of_ble_eq_true rfl) dX7_refusalOf_76 (fun r7 w7 h => ?_)
    exact Rt.a (Or.inl ⟨_, rfl⟩) dX7_refusalOf_79 ⟨_, rfl, h⟩ (by first | decide | omega) (by first | decide | omega)
  replace h := jif_f c1_5 h
  refine j_tableOut X 80 dX7_refusalOf_1 (jtabOut (n := 5) (by decide) (fun k hk => by
    rcases (show k = 0 ∨ k = 1 ∨ k = 2 ∨ k = 3 ∨ k = 4 ∨ k = 5 by omega) with rfl | rfl | rfl | rfl | rfl | rfl
    · exact c1_0
    · exact c1_1
    · exact c1_2
    · exact c1_3
    · exact c1_4
    · exact c1_5)) (by decide) ?_
  refine j_aload_n X dX7_refusalOf_80 0 rfl ?_
  refine j_iload_n X dX7_refusalOf_81 2 rfl ?_
  obtain ⟨⟨fs8, g8⟩, h⟩ := h
  refine j_callVr X [.int x2] [] (c_X7_refusalToMend h) (T := TX7) (N := 3) g8 rfl jm_X7_refusalToMend jw_1086 rfl ⟨rfl, rfl⟩ (by rw [hR]; decide) rfl (Nat.le_of_ble_eq_true rfl) dX7_refusalOf_82 (fun r8 w8 h => ?_)
  exact Rt.a (Or.inl ⟨_, rfl⟩) dX7_refusalOf_85 ⟨_, rfl, h⟩ (by first | decide | omega) (by first | decide | omega)
def w_X7_refusalOf (κ : Nat → Nat) (w : va_W) (a0 : Nat) (x1 : Int32) (x2 : Int32) (x3 : Int32) (x4 : Int32) (P : Nat → va_W → Prop) : Prop := w_X7_refusalOf_b0 κ w a0 x1 x2 x3 x4 P
theorem c_X7_refusalOf {E : jE} {w : va_W} {a0 : Nat} {x1 : Int32} {x2 : Int32} {x3 : Int32} {x4 : Int32} {P : Nat → va_W → Prop} (h : w_X7_refusalOf E.2.2.2 w a0 x1 x2 x3 x4 P) : jC E yX7_refusalOf cX7_refusalOf 5 (some (.object "SnowLedger$Refusal")) ({ frames := 5, cells := 0, slots := 0, locals := 117 } : Room) [.ref a0, .int x1, .int x2, .int x3, .int x4] w 0 0 (jPr P) := by
  refine jC_of (by decide) (Nat.le_of_ble_eq_true rfl) ?_
  intro Γ X hE hR Rt
  subst hE
  exact k_X7_refusalOf_b0 X hR Rt h
theorem jm_X7_raiseHill : jMv yX7_raiseHill cX7_raiseHill 2 (some .int) 0 := ⟨jw_550, jw_551, jw_28, jw_552, ⟨by decide +kernel, by decide +kernel⟩, by decide +kernel⟩
def w_X7_raiseHill_b0 (κ : Nat → Nat) (w : va_W) (a0 : Nat) (P : Int32 → va_W → Prop) : Prop :=
    jgR' w a0 10 0 (fun r1 => jgI w r1 8 8 (fun v2 => jgR' w a0 10 0 (fun r3 => jgR' w r3 8 6 (fun r4 => (jRc w r4 6 ∧ w_X3_put κ w r4 v2 0 (fun w5 => jgR' w5 a0 10 0 (fun r6 => jgR' w5 r6 8 7 (fun r7 => (jRc w5 r7 4 ∧ w_X0_clear κ w5 r7 v2 (fun w8 => jgR' w8 a0 10 0 (fun r9 => jgI w8 r9 8 8 (fun v10 => (jpV w8 r9 8 8 (.int (v10 + 1)) (fun w11 => P v2 w11))))))))))))))
set_option maxRecDepth 100000 in
set_option maxHeartbeats 4000000 in
theorem k_X7_raiseHill_b0 {Γ : jG} (X : jX Γ cX7_raiseHill 2 RX7) (hR : jgR Γ = ({ frames := 2, cells := 0, slots := 0, locals := 43 } : Room)) {P : Int32 → va_W → Prop} (Rt : jRt Γ cX7_raiseHill 2 0 0 (some .int) (jPi P)) {w : va_W} {a0 : Nat} (h : w_X7_raiseHill_b0 (jgE Γ).2.2.2 w a0 P) : J Γ 2 w 0 0 0 [(0, .ref a0)] [] := by
  unfold w_X7_raiseHill_b0 at h
  refine j_aload_n X dX7_raiseHill_0 0 rfl ?_
  obtain ⟨fs1, r1, g1, i1, h⟩ := h
  refine j_get X (ci := 10) (C := RX7) (T := TX7) (N := 3) rfl jin_X7 0 (by decide) g1 i1 jw_193 rfl dX7_raiseHill_1 ?_
  obtain ⟨fs2, v2, g2, i2, h⟩ := h
  refine j_getN X (ci := 8) (C := RX5) (T := TX5) (N := 12) rfl jin_X5 8 (by decide) g2 i2 jw_135 rfl dX7_raiseHill_4 ?_
  refine j_istore_n X [(1, .int v2), (0, .ref a0)] dX7_raiseHill_7 (by decide) rfl ?_
  refine j_aload_n X dX7_raiseHill_8 1 rfl ?_
  obtain ⟨fs3, r3, g3, i3, h⟩ := h
  refine j_get X (ci := 10) (C := RX7) (T := TX7) (N := 3) rfl jin_X7 0 (by decide) g3 i3 jw_193 rfl dX7_raiseHill_9 ?_
  obtain ⟨fs4, r4, g4, i4, h⟩ := h
  refine j_getN X (ci := 8) (C := RX5) (T := TX5) (N := 12) rfl jin_X5 6 (by decide) g4 i4 jw_129 rfl dX7_raiseHill_12 ?_
  refine j_iload_n X dX7_raiseHill_15 0 rfl ?_
  refine j_iconst X 0 dX7_raiseHill_16 (by decide) ?_
  obtain ⟨⟨fs5, g5⟩, h⟩ := h
  refine j_callVv X [.int v2, .int 0] [] (c_X3_put h) (T := TX3) (N := 1) g5 rfl jm_X3_put jw_553 rfl ⟨rfl, rfl⟩ (by rw [hR]; decide) rfl (Nat.le_of_ble_eq_true rfl) dX7_raiseHill_17 (fun w5 h => ?_)
  refine j_aload_n X dX7_raiseHill_20 1 rfl ?_
  obtain ⟨fs6, r6, g6, i6, h⟩ := h
  refine j_get X (ci := 10) (C := RX7) (T := TX7) (N := 3) rfl jin_X7 0 (by decide) g6 i6 jw_193 rfl dX7_raiseHill_21 ?_
  obtain ⟨fs7, r7, g7, i7, h⟩ := h
  refine j_getN X (ci := 8) (C := RX5) (T := TX5) (N := 12) rfl jin_X5 7 (by decide) g7 i7 jw_132 rfl dX7_raiseHill_24 ?_
  refine j_iload_n X dX7_raiseHill_27 0 rfl ?_
  obtain ⟨⟨fs8, g8⟩, h⟩ := h
  refine j_callVv X [.int v2] [] (c_X0_clear h) (T := TX0) (N := 3) g8 rfl jm_X0_clear jw_554 rfl ⟨rfl, rfl⟩ (by rw [hR]; decide) rfl (Nat.le_of_ble_eq_true rfl) dX7_raiseHill_28 (fun w8 h => ?_)
  refine j_aload_n X dX7_raiseHill_31 1 rfl ?_
  obtain ⟨fs9, r9, g9, i9, h⟩ := h
  refine j_get X (ci := 10) (C := RX7) (T := TX7) (N := 3) rfl jin_X7 0 (by decide) g9 i9 jw_193 rfl dX7_raiseHill_32 ?_
  refine j_dup X dX7_raiseHill_35 rfl ?_
  obtain ⟨fs10, v10, g10, i10, h⟩ := h
  refine j_getN X (ci := 8) (C := RX5) (T := TX5) (N := 12) rfl jin_X5 8 (by decide) g10 i10 jw_135 rfl dX7_raiseHill_36 ?_
  refine j_iconst X 1 dX7_raiseHill_39 (by decide) ?_
  refine j_iadd X dX7_raiseHill_40 ?_
  obtain ⟨fs11, g11, i11, h⟩ := h
  refine j_putN X (ci := 8) (C := RX5) (T := TX5) (N := 12) rfl jin_X5 tyX5 tyX5_ok nmX5 8 (by decide) g11 jw_135 rfl rfl (by rfl) (by rfl) i11 dX7_raiseHill_41 ?_
  generalize jst w8 r9 _ = w11 at h ⊢
  refine j_iload_n X dX7_raiseHill_44 0 rfl ?_
  exact Rt.i dX7_raiseHill_45 ⟨_, rfl, h⟩ (by first | decide | omega) (by first | decide | omega)
def w_X7_raiseHill (κ : Nat → Nat) (w : va_W) (a0 : Nat) (P : Int32 → va_W → Prop) : Prop := w_X7_raiseHill_b0 κ w a0 P
theorem c_X7_raiseHill {E : jE} {w : va_W} {a0 : Nat} {P : Int32 → va_W → Prop} (h : w_X7_raiseHill E.2.2.2 w a0 P) : jC E yX7_raiseHill cX7_raiseHill 2 (some .int) ({ frames := 2, cells := 0, slots := 0, locals := 43 } : Room) [.ref a0] w 0 0 (jPi P) := by
  refine jC_of (by decide) (Nat.le_of_ble_eq_true rfl) ?_
  intro Γ X hE hR Rt
  subst hE
  exact k_X7_raiseHill_b0 X hR Rt h
theorem jm_X7_hold : jMv yX7_hold cX7_hold 3 (some .int) 2 := ⟨jw_587, jw_588, jw_28, jw_589, ⟨by decide +kernel, by decide +kernel⟩, by decide +kernel⟩
def w_X7_hold_b0 (κ : Nat → Nat) (w : va_W) (a0 : Nat) (x1 : Int32) (x2 : Int32) (P : Int32 → va_W → Prop) : Prop :=
    jgR' w a0 10 0 (fun r1 => jgR' w r1 8 7 (fun r2 => (jRc w r2 4 ∧ w_X0_add κ w r2 x1 x2 (fun w3 => jgR' w3 a0 10 0 (fun r4 => jgR' w3 r4 8 7 (fun r5 => (jRc w3 r5 4 ∧ w_X0_size κ w3 r5 x1 (fun v6 w6 => P v6 w6))))))))
set_option maxRecDepth 100000 in
set_option maxHeartbeats 4000000 in
theorem k_X7_hold_b0 {Γ : jG} (X : jX Γ cX7_hold 3 RX7) (hR : jgR Γ = ({ frames := 2, cells := 0, slots := 0, locals := 45 } : Room)) {P : Int32 → va_W → Prop} (Rt : jRt Γ cX7_hold 3 0 0 (some .int) (jPi P)) {w : va_W} {a0 : Nat} {x1 : Int32} {x2 : Int32} (h : w_X7_hold_b0 (jgE Γ).2.2.2 w a0 x1 x2 P) : J Γ 3 w 0 0 0 [(0, .ref a0), (1, .int x1), (2, .int x2)] [] := by
  unfold w_X7_hold_b0 at h
  refine j_aload_n X dX7_hold_0 0 rfl ?_
  obtain ⟨fs1, r1, g1, i1, h⟩ := h
  refine j_get X (ci := 10) (C := RX7) (T := TX7) (N := 3) rfl jin_X7 0 (by decide) g1 i1 jw_193 rfl dX7_hold_1 ?_
  obtain ⟨fs2, r2, g2, i2, h⟩ := h
  refine j_getN X (ci := 8) (C := RX5) (T := TX5) (N := 12) rfl jin_X5 7 (by decide) g2 i2 jw_132 rfl dX7_hold_4 ?_
  refine j_iload_n X dX7_hold_7 1 rfl ?_
  refine j_iload_n X dX7_hold_8 2 rfl ?_
  obtain ⟨⟨fs3, g3⟩, h⟩ := h
  refine j_callVv X [.int x1, .int x2] [] (c_X0_add h) (T := TX0) (N := 3) g3 rfl jm_X0_add jw_590 rfl ⟨rfl, rfl⟩ (by rw [hR]; decide) rfl (Nat.le_of_ble_eq_true rfl) dX7_hold_9 (fun w3 h => ?_)
  refine j_aload_n X dX7_hold_12 0 rfl ?_
  obtain ⟨fs4, r4, g4, i4, h⟩ := h
  refine j_get X (ci := 10) (C := RX7) (T := TX7) (N := 3) rfl jin_X7 0 (by decide) g4 i4 jw_193 rfl dX7_hold_13 ?_
  obtain ⟨fs5, r5, g5, i5, h⟩ := h
  refine j_getN X (ci := 8) (C := RX5) (T := TX5) (N := 12) rfl jin_X5 7 (by decide) g5 i5 jw_132 rfl dX7_hold_16 ?_
  refine j_iload_n X dX7_hold_19 1 rfl ?_
  obtain ⟨⟨fs6, g6⟩, h⟩ := h
  refine j_callVi X [.int x1] [] (c_X0_size h) (T := TX0) (N := 3) g6 rfl jm_X0_size jw_581 rfl ⟨rfl, rfl⟩ (by rw [hR]; decide) rfl (Nat.le_of_ble_eq_true rfl) dX7_hold_20 (fun v6 w6 h => ?_)
  exact Rt.i dX7_hold_23 ⟨_, rfl, h⟩ (by first | decide | omega) (by first | decide | omega)
def w_X7_hold (κ : Nat → Nat) (w : va_W) (a0 : Nat) (x1 : Int32) (x2 : Int32) (P : Int32 → va_W → Prop) : Prop := w_X7_hold_b0 κ w a0 x1 x2 P
theorem c_X7_hold {E : jE} {w : va_W} {a0 : Nat} {x1 : Int32} {x2 : Int32} {P : Int32 → va_W → Prop} (h : w_X7_hold E.2.2.2 w a0 x1 x2 P) : jC E yX7_hold cX7_hold 3 (some .int) ({ frames := 2, cells := 0, slots := 0, locals := 45 } : Room) [.ref a0, .int x1, .int x2] w 0 0 (jPi P) := by
  refine jC_of (by decide) (Nat.le_of_ble_eq_true rfl) ?_
  intro Γ X hE hR Rt
  subst hE
  exact k_X7_hold_b0 X hR Rt h
theorem jm_X7_seal : jMv yX7_seal cX7_seal 5 none 1 := ⟨jw_642, jw_2, jw_28, jw_643, ⟨by decide +kernel, by decide +kernel⟩, by decide +kernel⟩
def w_X7_seal_b0 (κ : Nat → Nat) (w : va_W) (a0 : Nat) (x1 : Int32) (P : va_W → Prop) : Prop :=
    jgR' w a0 10 0 (fun r1 => jgR' w r1 8 3 (fun r2 => jgR' w a0 10 0 (fun r3 => jgR' w r3 8 1 (fun r4 => (jRc w r4 6 ∧ w_X3_at κ w r4 x1 (fun v5 w5 => (jRc w5 r2 6 ∧ w_X3_at κ w5 r2 v5 (fun v6 w6 => jgR' w6 a0 10 0 (fun r7 => jgR' w6 r7 8 5 (fun r8 => (jRc w6 r8 4 ∧ w_X0_rootByLists κ w6 r8 x1 (fun v9 w9 => jgR' w9 a0 10 0 (fun r10 => jgR' w9 r10 8 2 (fun r11 => (jRc w9 r11 6 ∧ w_X3_at κ w9 r11 x1 (fun v12 w12 => w_X8_leastNonce κ w12 v6 v9 v12 (fun v13 w13 => jgR' w13 a0 10 0 (fun r14 => jgR' w13 r14 8 4 (fun r15 => (jRc w13 r15 6 ∧ w_X3_put κ w13 r15 x1 v13 (fun w16 => jgR' w16 a0 10 0 (fun r17 => jgR' w16 r17 8 3 (fun r18 => jgR' w16 a0 10 0 (fun r19 => jgR' w16 r19 8 2 (fun r20 => (jRc w16 r20 6 ∧ w_X3_at κ w16 r20 x1 (fun v21 w21 => w_X8_hashWith κ w21 v6 v9 v21 v13 (fun v22 w22 => (jRc w22 r18 6 ∧ w_X3_put κ w22 r18 x1 v22 (fun w23 => P w23))))))))))))))))))))))))))))))
set_option maxRecDepth 100000 in
set_option maxHeartbeats 4000000 in
theorem k_X7_seal_b0 {Γ : jG} (X : jX Γ cX7_seal 5 RX7) (hR : jgR Γ = ({ frames := 2, cells := 0, slots := 0, locals := 49 } : Room)) {P : va_W → Prop} (Rt : jRt Γ cX7_seal 5 0 0 none (jPv P)) {w : va_W} {a0 : Nat} {x1 : Int32} (h : w_X7_seal_b0 (jgE Γ).2.2.2 w a0 x1 P) : J Γ 5 w 0 0 0 [(0, .ref a0), (1, .int x1)] [] := by
  unfold w_X7_seal_b0 at h
  refine j_aload_n X dX7_seal_0 0 rfl ?_
  obtain ⟨fs1, r1, g1, i1, h⟩ := h
  refine j_get X (ci := 10) (C := RX7) (T := TX7) (N := 3) rfl jin_X7 0 (by decide) g1 i1 jw_193 rfl dX7_seal_1 ?_
  obtain ⟨fs2, r2, g2, i2, h⟩ := h
  refine j_getN X (ci := 8) (C := RX5) (T := TX5) (N := 12) rfl jin_X5 3 (by decide) g2 i2 jw_118 rfl dX7_seal_4 ?_
  refine j_aload_n X dX7_seal_7 0 rfl ?_
  obtain ⟨fs3, r3, g3, i3, h⟩ := h
  refine j_get X (ci := 10) (C := RX7) (T := TX7) (N := 3) rfl jin_X7 0 (by decide) g3 i3 jw_193 rfl dX7_seal_8 ?_
  obtain ⟨fs4, r4, g4, i4, h⟩ := h
  refine j_getN X (ci := 8) (C := RX5) (T := TX5) (N := 12) rfl jin_X5 1 (by decide) g4 i4 jw_110 rfl dX7_seal_11 ?_
  refine j_iload_n X dX7_seal_14 1 rfl ?_
  obtain ⟨⟨fs5, g5⟩, h⟩ := h
  refine j_callVi X [.int x1] [.ref r2] (c_X3_at h) (T := TX3) (N := 1) g5 rfl jm_X3_at jw_611 rfl ⟨rfl, rfl⟩ (by rw [hR]; decide) rfl (Nat.le_of_ble_eq_true rfl) dX7_seal_15 (fun v5 w5 h => ?_)
  obtain ⟨⟨fs6, g6⟩, h⟩ := h
  refine j_callVi X [.int v5] [] (c_X3_at h) (T := TX3) (N := 1) g6 rfl jm_X3_at jw_611 rfl ⟨rfl, rfl⟩ (by rw [hR]; decide) rfl (Nat.le_of_ble_eq_true rfl) dX7_seal_18 (fun v6 w6 h => ?_)
  refine j_istore_n X [(2, .int v6), (0, .ref a0), (1, .int x1)] dX7_seal_21 (by decide) rfl ?_
  refine j_aload_n X dX7_seal_22 1 rfl ?_
  obtain ⟨fs7, r7, g7, i7, h⟩ := h
  refine j_get X (ci := 10) (C := RX7) (T := TX7) (N := 3) rfl jin_X7 0 (by decide) g7 i7 jw_193 rfl dX7_seal_23 ?_
  obtain ⟨fs8, r8, g8, i8, h⟩ := h
  refine j_getN X (ci := 8) (C := RX5) (T := TX5) (N := 12) rfl jin_X5 5 (by decide) g8 i8 jw_126 rfl dX7_seal_26 ?_
  refine j_iload_n X dX7_seal_29 2 rfl ?_
  obtain ⟨⟨fs9, g9⟩, h⟩ := h
  refine j_callVi X [.int x1] [] (c_X0_rootByLists h) (T := TX0) (N := 3) g9 rfl jm_X0_rootByLists jw_644 rfl ⟨rfl, rfl⟩ (by rw [hR]; decide) rfl (Nat.le_of_ble_eq_true rfl) dX7_seal_30 (fun v9 w9 h => ?_)
  refine j_istore_n X [(3, .int v9), (2, .int v6), (0, .ref a0), (1, .int x1)] dX7_seal_33 (by decide) rfl ?_
  refine j_iload_n X dX7_seal_34 1 rfl ?_
  refine j_iload_n X dX7_seal_35 0 rfl ?_
  refine j_aload_n X dX7_seal_36 2 rfl ?_
  obtain ⟨fs10, r10, g10, i10, h⟩ := h
  refine j_get X (ci := 10) (C := RX7) (T := TX7) (N := 3) rfl jin_X7 0 (by decide) g10 i10 jw_193 rfl dX7_seal_37 ?_
  obtain ⟨fs11, r11, g11, i11, h⟩ := h
  refine j_getN X (ci := 8) (C := RX5) (T := TX5) (N := 12) rfl jin_X5 2 (by decide) g11 i11 jw_114 rfl dX7_seal_40 ?_
  refine j_iload_n X dX7_seal_43 3 rfl ?_
  obtain ⟨⟨fs12, g12⟩, h⟩ := h
  refine j_callVi X [.int x1] [.int v9, .int v6] (c_X3_at h) (T := TX3) (N := 1) g12 rfl jm_X3_at jw_611 rfl ⟨rfl, rfl⟩ (by rw [hR]; decide) rfl (Nat.le_of_ble_eq_true rfl) dX7_seal_44 (fun v12 w12 h => ?_)
  refine j_callSNi X [.int v6, .int v9, .int v12] [] (c_X8_leastNonce h) jm_X8_leastNonce jw_645 rfl ⟨rfl, rfl⟩ (by rw [hR]; decide) rfl (Nat.le_of_ble_eq_true rfl) dX7_seal_47 (fun v13 w13 h => ?_)
  refine j_istore X [(4, .int v13), (3, .int v9), (2, .int v6), (0, .ref a0), (1, .int x1)] dX7_seal_50 (by decide) rfl ?_
  refine j_aload_n X dX7_seal_52 3 rfl ?_
  obtain ⟨fs14, r14, g14, i14, h⟩ := h
  refine j_get X (ci := 10) (C := RX7) (T := TX7) (N := 3) rfl jin_X7 0 (by decide) g14 i14 jw_193 rfl dX7_seal_53 ?_
  obtain ⟨fs15, r15, g15, i15, h⟩ := h
  refine j_getN X (ci := 8) (C := RX5) (T := TX5) (N := 12) rfl jin_X5 4 (by decide) g15 i15 jw_122 rfl dX7_seal_56 ?_
  refine j_iload_n X dX7_seal_59 4 rfl ?_
  refine j_iload X dX7_seal_60 0 rfl ?_
  obtain ⟨⟨fs16, g16⟩, h⟩ := h
  refine j_callVv X [.int x1, .int v13] [] (c_X3_put h) (T := TX3) (N := 1) g16 rfl jm_X3_put jw_553 rfl ⟨rfl, rfl⟩ (by rw [hR]; decide) rfl (Nat.le_of_ble_eq_true rfl) dX7_seal_62 (fun w16 h => ?_)
  refine j_aload_n X dX7_seal_65 3 rfl ?_
  obtain ⟨fs17, r17, g17, i17, h⟩ := h
  refine j_get X (ci := 10) (C := RX7) (T := TX7) (N := 3) rfl jin_X7 0 (by decide) g17 i17 jw_193 rfl dX7_seal_66 ?_
  obtain ⟨fs18, r18, g18, i18, h⟩ := h
  refine j_getN X (ci := 8) (C := RX5) (T := TX5) (N := 12) rfl jin_X5 3 (by decide) g18 i18 jw_118 rfl dX7_seal_69 ?_
  refine j_iload_n X dX7_seal_72 4 rfl ?_
  refine j_iload_n X dX7_seal_73 2 rfl ?_
  refine j_iload_n X dX7_seal_74 1 rfl ?_
  refine j_aload_n X dX7_seal_75 3 rfl ?_
  obtain ⟨fs19, r19, g19, i19, h⟩ := h
  refine j_get X (ci := 10) (C := RX7) (T := TX7) (N := 3) rfl jin_X7 0 (by decide) g19 i19 jw_193 rfl dX7_seal_76 ?_
  obtain ⟨fs20, r20, g20, i20, h⟩ := h
  refine j_getN X (ci := 8) (C := RX5) (T := TX5) (N := 12) rfl jin_X5 2 (by decide) g20 i20 jw_114 rfl dX7_seal_79 ?_
  refine j_iload_n X dX7_seal_82 4 rfl ?_
  obtain ⟨⟨fs21, g21⟩, h⟩ := h
  refine j_callVi X [.int x1] [.int v9, .int v6, .int x1, .ref r18] (c_X3_at h) (T := TX3) (N := 1) g21 rfl jm_X3_at jw_611 rfl ⟨rfl, rfl⟩ (by rw [hR]; decide) rfl (Nat.le_of_ble_eq_true rfl) dX7_seal_83 (fun v21 w21 h => ?_)
  refine j_iload X dX7_seal_86 0 rfl ?_
  refine j_callSNi X [.int v6, .int v9, .int v21, .int v13] [.int x1, .ref r18] (c_X8_hashWith h) jm_X8_hashWith jw_649 rfl ⟨rfl, rfl⟩ (by rw [hR]; decide) rfl (Nat.le_of_ble_eq_true rfl) dX7_seal_88 (fun v22 w22 h => ?_)
  obtain ⟨⟨fs23, g23⟩, h⟩ := h
  refine j_callVv X [.int x1, .int v22] [] (c_X3_put h) (T := TX3) (N := 1) g23 rfl jm_X3_put jw_553 rfl ⟨rfl, rfl⟩ (by rw [hR]; decide) rfl (Nat.le_of_ble_eq_true rfl) dX7_seal_91 (fun w23 h => ?_)
  exact Rt.v dX7_seal_94 ⟨rfl, h⟩ (by first | decide | omega) (by first | decide | omega)
def w_X7_seal (κ : Nat → Nat) (w : va_W) (a0 : Nat) (x1 : Int32) (P : va_W → Prop) : Prop := w_X7_seal_b0 κ w a0 x1 P
theorem c_X7_seal {E : jE} {w : va_W} {a0 : Nat} {x1 : Int32} {P : va_W → Prop} (h : w_X7_seal E.2.2.2 w a0 x1 P) : jC E yX7_seal cX7_seal 5 none ({ frames := 2, cells := 0, slots := 0, locals := 49 } : Room) [.ref a0, .int x1] w 0 0 (jPv P) := by
  refine jC_of (by decide) (Nat.le_of_ble_eq_true rfl) ?_
  intro Γ X hE hR Rt
  subst hE
  exact k_X7_seal_b0 X hR Rt h
theorem jm_X7_append : jMv yX7_append cX7_append 4 (some .int) 1 := ⟨jw_633, jw_634, jw_28, jw_635, ⟨by decide +kernel, by decide +kernel⟩, by decide +kernel⟩
def w_X7_append_b0 (κ : Nat → Nat) (w : va_W) (a0 : Nat) (x1 : Int32) (P : Int32 → va_W → Prop) : Prop :=
    jgR' w a0 10 0 (fun r1 => (jRc w r1 8 ∧ w_X5_freeSlot κ w r1 (fun v2 w2 => jgR' w2 a0 10 0 (fun r3 => jgI w2 r3 8 9 (fun v4 => jgR' w2 a0 10 0 (fun r5 => jgR' w2 r5 8 0 (fun r6 => (jRc w2 r6 6 ∧ w_X3_put κ w2 r6 v2 v4 (fun w7 => jgR' w7 a0 10 0 (fun r8 => jgR' w7 r8 8 1 (fun r9 => jgR' w7 a0 10 0 (fun r10 => jgR' w7 r10 8 6 (fun r11 => (jRc w7 r11 6 ∧ w_X3_at κ w7 r11 x1 (fun v12 w12 => (jRc w12 r9 6 ∧ w_X3_put κ w12 r9 v2 v12 (fun w13 => jgR' w13 a0 10 0 (fun r14 => jgR' w13 r14 8 2 (fun r15 => (jRc w13 r15 6 ∧ w_X3_put κ w13 r15 v2 x1 (fun w16 => jgR' w16 a0 10 0 (fun r17 => jgR' w16 r17 8 5 (fun r18 => jgR' w16 a0 10 0 (fun r19 => jgR' w16 r19 8 7 (fun r20 => (jRc w16 r18 4 ∧ w_X0_takeList κ w16 r18 v2 r20 x1 (fun w21 => (jRc w21 a0 10 ∧ w_X7_seal κ w21 a0 v2 (fun w22 => jgR' w22 a0 10 0 (fun r23 => jgR' w22 r23 8 7 (fun r24 => (jRc w22 r24 4 ∧ w_X0_clear κ w22 r24 x1 (fun w25 => jgR' w25 a0 10 0 (fun r26 => jgR' w25 r26 8 6 (fun r27 => (jRc w25 r27 6 ∧ w_X3_put κ w25 r27 x1 v2 (fun w28 => jgR' w28 a0 10 0 (fun r29 => jgI w28 r29 8 9 (fun v30 => (jpV w28 r29 8 9 (.int (v30 + 1)) (fun w31 => jgR' w31 a0 10 0 (fun r32 => jgI w31 r32 8 10 (fun v33 => (jpV w31 r32 8 10 (.int (v33 + 1)) (fun w34 => P v4 w34)))))))))))))))))))))))))))))))))))))))))))))
set_option maxRecDepth 100000 in
set_option maxHeartbeats 4000000 in
theorem k_X7_append_b0 {Γ : jG} (X : jX Γ cX7_append 4 RX7) (hR : jgR Γ = ({ frames := 3, cells := 0, slots := 0, locals := 73 } : Room)) {P : Int32 → va_W → Prop} (Rt : jRt Γ cX7_append 4 0 0 (some .int) (jPi P)) {w : va_W} {a0 : Nat} {x1 : Int32} (h : w_X7_append_b0 (jgE Γ).2.2.2 w a0 x1 P) : J Γ 4 w 0 0 0 [(0, .ref a0), (1, .int x1)] [] := by
  unfold w_X7_append_b0 at h
  refine j_aload_n X dX7_append_0 0 rfl ?_
  obtain ⟨fs1, r1, g1, i1, h⟩ := h
  refine j_get X (ci := 10) (C := RX7) (T := TX7) (N := 3) rfl jin_X7 0 (by decide) g1 i1 jw_193 rfl dX7_append_1 ?_
  obtain ⟨⟨fs2, g2⟩, h⟩ := h
  refine j_callVi X [] [] (c_X5_freeSlot h) (T := TX5) (N := 12) g2 rfl jm_X5_freeSlot jw_606 rfl ⟨rfl, rfl⟩ (by rw [hR]; decide) rfl (Nat.le_of_ble_eq_true rfl) dX7_append_4 (fun v2 w2 h => ?_)
  refine j_istore_n X [(2, .int v2), (0, .ref a0), (1, .int x1)] dX7_append_7 (by decide) rfl ?_
  refine j_aload_n X dX7_append_8 1 rfl ?_
  obtain ⟨fs3, r3, g3, i3, h⟩ := h
  refine j_get X (ci := 10) (C := RX7) (T := TX7) (N := 3) rfl jin_X7 0 (by decide) g3 i3 jw_193 rfl dX7_append_9 ?_
  obtain ⟨fs4, v4, g4, i4, h⟩ := h
  refine j_getN X (ci := 8) (C := RX5) (T := TX5) (N := 12) rfl jin_X5 9 (by decide) g4 i4 jw_138 rfl dX7_append_12 ?_
  refine j_istore_n X [(3, .int v4), (2, .int v2), (0, .ref a0), (1, .int x1)] dX7_append_15 (by decide) rfl ?_
  refine j_aload_n X dX7_append_16 2 rfl ?_
  obtain ⟨fs5, r5, g5, i5, h⟩ := h
  refine j_get X (ci := 10) (C := RX7) (T := TX7) (N := 3) rfl jin_X7 0 (by decide) g5 i5 jw_193 rfl dX7_append_17 ?_
  obtain ⟨fs6, r6, g6, i6, h⟩ := h
  refine j_getN X (ci := 8) (C := RX5) (T := TX5) (N := 12) rfl jin_X5 0 (by decide) g6 i6 jw_105 rfl dX7_append_20 ?_
  refine j_iload_n X dX7_append_23 1 rfl ?_
  refine j_iload_n X dX7_append_24 0 rfl ?_
  obtain ⟨⟨fs7, g7⟩, h⟩ := h
  refine j_callVv X [.int v2, .int v4] [] (c_X3_put h) (T := TX3) (N := 1) g7 rfl jm_X3_put jw_553 rfl ⟨rfl, rfl⟩ (by rw [hR]; decide) rfl (Nat.le_of_ble_eq_true rfl) dX7_append_25 (fun w7 h => ?_)
  refine j_aload_n X dX7_append_28 2 rfl ?_
  obtain ⟨fs8, r8, g8, i8, h⟩ := h
  refine j_get X (ci := 10) (C := RX7) (T := TX7) (N := 3) rfl jin_X7 0 (by decide) g8 i8 jw_193 rfl dX7_append_29 ?_
  obtain ⟨fs9, r9, g9, i9, h⟩ := h
  refine j_getN X (ci := 8) (C := RX5) (T := TX5) (N := 12) rfl jin_X5 1 (by decide) g9 i9 jw_110 rfl dX7_append_32 ?_
  refine j_iload_n X dX7_append_35 1 rfl ?_
  refine j_aload_n X dX7_append_36 2 rfl ?_
  obtain ⟨fs10, r10, g10, i10, h⟩ := h
  refine j_get X (ci := 10) (C := RX7) (T := TX7) (N := 3) rfl jin_X7 0 (by decide) g10 i10 jw_193 rfl dX7_append_37 ?_
  obtain ⟨fs11, r11, g11, i11, h⟩ := h
  refine j_getN X (ci := 8) (C := RX5) (T := TX5) (N := 12) rfl jin_X5 6 (by decide) g11 i11 jw_129 rfl dX7_append_40 ?_
  refine j_iload_n X dX7_append_43 3 rfl ?_
  obtain ⟨⟨fs12, g12⟩, h⟩ := h
  refine j_callVi X [.int x1] [.int v2, .ref r9] (c_X3_at h) (T := TX3) (N := 1) g12 rfl jm_X3_at jw_611 rfl ⟨rfl, rfl⟩ (by rw [hR]; decide) rfl (Nat.le_of_ble_eq_true rfl) dX7_append_44 (fun v12 w12 h => ?_)
  obtain ⟨⟨fs13, g13⟩, h⟩ := h
  refine j_callVv X [.int v2, .int v12] [] (c_X3_put h) (T := TX3) (N := 1) g13 rfl jm_X3_put jw_553 rfl ⟨rfl, rfl⟩ (by rw [hR]; decide) rfl (Nat.le_of_ble_eq_true rfl) dX7_append_47 (fun w13 h => ?_)
  refine j_aload_n X dX7_append_50 2 rfl ?_
  obtain ⟨fs14, r14, g14, i14, h⟩ := h
  refine j_get X (ci := 10) (C := RX7) (T := TX7) (N := 3) rfl jin_X7 0 (by decide) g14 i14 jw_193 rfl dX7_append_51 ?_
  obtain ⟨fs15, r15, g15, i15, h⟩ := h
  refine j_getN X (ci := 8) (C := RX5) (T := TX5) (N := 12) rfl jin_X5 2 (by decide) g15 i15 jw_114 rfl dX7_append_54 ?_
  refine j_iload_n X dX7_append_57 1 rfl ?_
  refine j_iload_n X dX7_append_58 3 rfl ?_
  obtain ⟨⟨fs16, g16⟩, h⟩ := h
  refine j_callVv X [.int v2, .int x1] [] (c_X3_put h) (T := TX3) (N := 1) g16 rfl jm_X3_put jw_553 rfl ⟨rfl, rfl⟩ (by rw [hR]; decide) rfl (Nat.le_of_ble_eq_true rfl) dX7_append_59 (fun w16 h => ?_)
  refine j_aload_n X dX7_append_62 2 rfl ?_
  obtain ⟨fs17, r17, g17, i17, h⟩ := h
  refine j_get X (ci := 10) (C := RX7) (T := TX7) (N := 3) rfl jin_X7 0 (by decide) g17 i17 jw_193 rfl dX7_append_63 ?_
  obtain ⟨fs18, r18, g18, i18, h⟩ := h
  refine j_getN X (ci := 8) (C := RX5) (T := TX5) (N := 12) rfl jin_X5 5 (by decide) g18 i18 jw_126 rfl dX7_append_66 ?_
  refine j_iload_n X dX7_append_69 1 rfl ?_
  refine j_aload_n X dX7_append_70 2 rfl ?_
  obtain ⟨fs19, r19, g19, i19, h⟩ := h
  refine j_get X (ci := 10) (C := RX7) (T := TX7) (N := 3) rfl jin_X7 0 (by decide) g19 i19 jw_193 rfl dX7_append_71 ?_
  obtain ⟨fs20, r20, g20, i20, h⟩ := h
  refine j_getN X (ci := 8) (C := RX5) (T := TX5) (N := 12) rfl jin_X5 7 (by decide) g20 i20 jw_132 rfl dX7_append_74 ?_
  refine j_iload_n X dX7_append_77 3 rfl ?_
  obtain ⟨⟨fs21, g21⟩, h⟩ := h
  refine j_callVv X [.int v2, .ref r20, .int x1] [] (c_X0_takeList h) (T := TX0) (N := 3) g21 rfl jm_X0_takeList jw_636 rfl ⟨rfl, rfl⟩ (by rw [hR]; decide) rfl (Nat.le_of_ble_eq_true rfl) dX7_append_78 (fun w21 h => ?_)
  refine j_aload_n X dX7_append_81 2 rfl ?_
  refine j_iload_n X dX7_append_82 1 rfl ?_
  obtain ⟨⟨fs22, g22⟩, h⟩ := h
  refine j_callVv X [.int v2] [] (c_X7_seal h) (T := TX7) (N := 3) g22 rfl jm_X7_seal jw_640 rfl ⟨rfl, rfl⟩ (by rw [hR]; decide) rfl (Nat.le_of_ble_eq_true rfl) dX7_append_83 (fun w22 h => ?_)
  refine j_aload_n X dX7_append_86 2 rfl ?_
  obtain ⟨fs23, r23, g23, i23, h⟩ := h
  refine j_get X (ci := 10) (C := RX7) (T := TX7) (N := 3) rfl jin_X7 0 (by decide) g23 i23 jw_193 rfl dX7_append_87 ?_
  obtain ⟨fs24, r24, g24, i24, h⟩ := h
  refine j_getN X (ci := 8) (C := RX5) (T := TX5) (N := 12) rfl jin_X5 7 (by decide) g24 i24 jw_132 rfl dX7_append_90 ?_
  refine j_iload_n X dX7_append_93 3 rfl ?_
  obtain ⟨⟨fs25, g25⟩, h⟩ := h
  refine j_callVv X [.int x1] [] (c_X0_clear h) (T := TX0) (N := 3) g25 rfl jm_X0_clear jw_554 rfl ⟨rfl, rfl⟩ (by rw [hR]; decide) rfl (Nat.le_of_ble_eq_true rfl) dX7_append_94 (fun w25 h => ?_)
  refine j_aload_n X dX7_append_97 2 rfl ?_
  obtain ⟨fs26, r26, g26, i26, h⟩ := h
  refine j_get X (ci := 10) (C := RX7) (T := TX7) (N := 3) rfl jin_X7 0 (by decide) g26 i26 jw_193 rfl dX7_append_98 ?_
  obtain ⟨fs27, r27, g27, i27, h⟩ := h
  refine j_getN X (ci := 8) (C := RX5) (T := TX5) (N := 12) rfl jin_X5 6 (by decide) g27 i27 jw_129 rfl dX7_append_101 ?_
  refine j_iload_n X dX7_append_104 3 rfl ?_
  refine j_iload_n X dX7_append_105 1 rfl ?_
  obtain ⟨⟨fs28, g28⟩, h⟩ := h
  refine j_callVv X [.int x1, .int v2] [] (c_X3_put h) (T := TX3) (N := 1) g28 rfl jm_X3_put jw_553 rfl ⟨rfl, rfl⟩ (by rw [hR]; decide) rfl (Nat.le_of_ble_eq_true rfl) dX7_append_106 (fun w28 h => ?_)
  refine j_aload_n X dX7_append_109 2 rfl ?_
  obtain ⟨fs29, r29, g29, i29, h⟩ := h
  refine j_get X (ci := 10) (C := RX7) (T := TX7) (N := 3) rfl jin_X7 0 (by decide) g29 i29 jw_193 rfl dX7_append_110 ?_
  refine j_dup X dX7_append_113 rfl ?_
  obtain ⟨fs30, v30, g30, i30, h⟩ := h
  refine j_getN X (ci := 8) (C := RX5) (T := TX5) (N := 12) rfl jin_X5 9 (by decide) g30 i30 jw_138 rfl dX7_append_114 ?_
  refine j_iconst X 1 dX7_append_117 (by decide) ?_
  refine j_iadd X dX7_append_118 ?_
  obtain ⟨fs31, g31, i31, h⟩ := h
  refine j_putN X (ci := 8) (C := RX5) (T := TX5) (N := 12) rfl jin_X5 tyX5 tyX5_ok nmX5 9 (by decide) g31 jw_138 rfl rfl (by rfl) (by rfl) i31 dX7_append_119 ?_
  generalize jst w28 r29 _ = w31 at h ⊢
  refine j_aload_n X dX7_append_122 2 rfl ?_
  obtain ⟨fs32, r32, g32, i32, h⟩ := h
  refine j_get X (ci := 10) (C := RX7) (T := TX7) (N := 3) rfl jin_X7 0 (by decide) g32 i32 jw_193 rfl dX7_append_123 ?_
  refine j_dup X dX7_append_126 rfl ?_
  obtain ⟨fs33, v33, g33, i33, h⟩ := h
  refine j_getN X (ci := 8) (C := RX5) (T := TX5) (N := 12) rfl jin_X5 10 (by decide) g33 i33 jw_140 rfl dX7_append_127 ?_
  refine j_iconst X 1 dX7_append_130 (by decide) ?_
  refine j_iadd X dX7_append_131 ?_
  obtain ⟨fs34, g34, i34, h⟩ := h
  refine j_putN X (ci := 8) (C := RX5) (T := TX5) (N := 12) rfl jin_X5 tyX5 tyX5_ok nmX5 10 (by decide) g34 jw_140 rfl rfl (by rfl) (by rfl) i34 dX7_append_132 ?_
  generalize jst w31 r32 _ = w34 at h ⊢
  refine j_iload_n X dX7_append_135 0 rfl ?_
  exact Rt.i dX7_append_136 ⟨_, rfl, h⟩ (by first | decide | omega) (by first | decide | omega)
def w_X7_append (κ : Nat → Nat) (w : va_W) (a0 : Nat) (x1 : Int32) (P : Int32 → va_W → Prop) : Prop := w_X7_append_b0 κ w a0 x1 P
theorem c_X7_append {E : jE} {w : va_W} {a0 : Nat} {x1 : Int32} {P : Int32 → va_W → Prop} (h : w_X7_append E.2.2.2 w a0 x1 P) : jC E yX7_append cX7_append 4 (some .int) ({ frames := 3, cells := 0, slots := 0, locals := 73 } : Room) [.ref a0, .int x1] w 0 0 (jPi P) := by
  refine jC_of (by decide) (Nat.le_of_ble_eq_true rfl) ?_
  intro Γ X hE hR Rt
  subst hE
  exact k_X7_append_b0 X hR Rt h
theorem jm_X7_turn : jMv yX7_turn cX7_turn 4 (some .int) 2 := ⟨jw_668, jw_669, jw_28, jw_670, ⟨by decide +kernel, by decide +kernel⟩, by decide +kernel⟩
def w_X7_turn_b0 (κ : Nat → Nat) (w : va_W) (a0 : Nat) (x1 : Int32) (x2 : Int32) (P : Int32 → va_W → Prop) : Prop :=
    jgR' w a0 10 0 (fun r1 => jgR' w r1 8 0 (fun r2 => jgR' w a0 10 0 (fun r3 => jgR' w r3 8 6 (fun r4 => (jRc w r4 6 ∧ w_X3_at κ w r4 x1 (fun v5 w5 => (jRc w5 r2 6 ∧ w_X3_at κ w5 r2 v5 (fun v6 w6 => jgR' w6 a0 10 0 (fun r7 => jgR' w6 r7 8 6 (fun r8 => jgR' w6 a0 10 0 (fun r9 => (jRc w6 r9 8 ∧ w_X5_slotOf κ w6 r9 x2 (fun v10 w10 => (jRc w10 r8 6 ∧ w_X3_put κ w10 r8 x1 v10 (fun w11 => P v6 w11)))))))))))))))
set_option maxRecDepth 100000 in
set_option maxHeartbeats 4000000 in
theorem k_X7_turn_b0 {Γ : jG} (X : jX Γ cX7_turn 4 RX7) (hR : jgR Γ = ({ frames := 2, cells := 0, slots := 0, locals := 43 } : Room)) {P : Int32 → va_W → Prop} (Rt : jRt Γ cX7_turn 4 0 0 (some .int) (jPi P)) {w : va_W} {a0 : Nat} {x1 : Int32} {x2 : Int32} (h : w_X7_turn_b0 (jgE Γ).2.2.2 w a0 x1 x2 P) : J Γ 4 w 0 0 0 [(0, .ref a0), (1, .int x1), (2, .int x2)] [] := by
  unfold w_X7_turn_b0 at h
  refine j_aload_n X dX7_turn_0 0 rfl ?_
  obtain ⟨fs1, r1, g1, i1, h⟩ := h
  refine j_get X (ci := 10) (C := RX7) (T := TX7) (N := 3) rfl jin_X7 0 (by decide) g1 i1 jw_193 rfl dX7_turn_1 ?_
  obtain ⟨fs2, r2, g2, i2, h⟩ := h
  refine j_getN X (ci := 8) (C := RX5) (T := TX5) (N := 12) rfl jin_X5 0 (by decide) g2 i2 jw_105 rfl dX7_turn_4 ?_
  refine j_aload_n X dX7_turn_7 0 rfl ?_
  obtain ⟨fs3, r3, g3, i3, h⟩ := h
  refine j_get X (ci := 10) (C := RX7) (T := TX7) (N := 3) rfl jin_X7 0 (by decide) g3 i3 jw_193 rfl dX7_turn_8 ?_
  obtain ⟨fs4, r4, g4, i4, h⟩ := h
  refine j_getN X (ci := 8) (C := RX5) (T := TX5) (N := 12) rfl jin_X5 6 (by decide) g4 i4 jw_129 rfl dX7_turn_11 ?_
  refine j_iload_n X dX7_turn_14 1 rfl ?_
  obtain ⟨⟨fs5, g5⟩, h⟩ := h
  refine j_callVi X [.int x1] [.ref r2] (c_X3_at h) (T := TX3) (N := 1) g5 rfl jm_X3_at jw_611 rfl ⟨rfl, rfl⟩ (by rw [hR]; decide) rfl (Nat.le_of_ble_eq_true rfl) dX7_turn_15 (fun v5 w5 h => ?_)
  obtain ⟨⟨fs6, g6⟩, h⟩ := h
  refine j_callVi X [.int v5] [] (c_X3_at h) (T := TX3) (N := 1) g6 rfl jm_X3_at jw_611 rfl ⟨rfl, rfl⟩ (by rw [hR]; decide) rfl (Nat.le_of_ble_eq_true rfl) dX7_turn_18 (fun v6 w6 h => ?_)
  refine j_istore_n X [(3, .int v6), (0, .ref a0), (1, .int x1), (2, .int x2)] dX7_turn_21 (by decide) rfl ?_
  refine j_aload_n X dX7_turn_22 1 rfl ?_
  obtain ⟨fs7, r7, g7, i7, h⟩ := h
  refine j_get X (ci := 10) (C := RX7) (T := TX7) (N := 3) rfl jin_X7 0 (by decide) g7 i7 jw_193 rfl dX7_turn_23 ?_
  obtain ⟨fs8, r8, g8, i8, h⟩ := h
  refine j_getN X (ci := 8) (C := RX5) (T := TX5) (N := 12) rfl jin_X5 6 (by decide) g8 i8 jw_129 rfl dX7_turn_26 ?_
  refine j_iload_n X dX7_turn_29 2 rfl ?_
  refine j_aload_n X dX7_turn_30 1 rfl ?_
  obtain ⟨fs9, r9, g9, i9, h⟩ := h
  refine j_get X (ci := 10) (C := RX7) (T := TX7) (N := 3) rfl jin_X7 0 (by decide) g9 i9 jw_193 rfl dX7_turn_31 ?_
  refine j_iload_n X dX7_turn_34 3 rfl ?_
  obtain ⟨⟨fs10, g10⟩, h⟩ := h
  refine j_callVi X [.int x2] [.int x1, .ref r8] (c_X5_slotOf h) (T := TX5) (N := 12) g10 rfl jm_X5_slotOf jw_662 rfl ⟨rfl, rfl⟩ (by rw [hR]; decide) rfl (Nat.le_of_ble_eq_true rfl) dX7_turn_35 (fun v10 w10 h => ?_)
  obtain ⟨⟨fs11, g11⟩, h⟩ := h
  refine j_callVv X [.int x1, .int v10] [] (c_X3_put h) (T := TX3) (N := 1) g11 rfl jm_X3_put jw_553 rfl ⟨rfl, rfl⟩ (by rw [hR]; decide) rfl (Nat.le_of_ble_eq_true rfl) dX7_turn_38 (fun w11 h => ?_)
  refine j_iload_n X dX7_turn_41 0 rfl ?_
  exact Rt.i dX7_turn_42 ⟨_, rfl, h⟩ (by first | decide | omega) (by first | decide | omega)
def w_X7_turn (κ : Nat → Nat) (w : va_W) (a0 : Nat) (x1 : Int32) (x2 : Int32) (P : Int32 → va_W → Prop) : Prop := w_X7_turn_b0 κ w a0 x1 x2 P
theorem c_X7_turn {E : jE} {w : va_W} {a0 : Nat} {x1 : Int32} {x2 : Int32} {P : Int32 → va_W → Prop} (h : w_X7_turn E.2.2.2 w a0 x1 x2 P) : jC E yX7_turn cX7_turn 4 (some .int) ({ frames := 2, cells := 0, slots := 0, locals := 43 } : Room) [.ref a0, .int x1, .int x2] w 0 0 (jPi P) := by
  refine jC_of (by decide) (Nat.le_of_ble_eq_true rfl) ?_
  intro Γ X hE hR Rt
  subst hE
  exact k_X7_turn_b0 X hR Rt h
theorem jm_X7_remove : jMv yX7_remove cX7_remove 6 (some .int) 1 := ⟨jw_1102, jw_1103, jw_28, jw_1104, ⟨by decide +kernel, by decide +kernel⟩, by decide +kernel⟩
def w_X7_remove_b159 (κ : Nat → Nat) (w : va_W) (a0 : Nat) (x4 : Int32) (x5 : Int32) (K127 : va_W → Nat → Int32 → Int32 → Prop) (P : Int32 → va_W → Prop) : Prop :=
    K127 w a0 x4 (x5 + 1)
set_option maxRecDepth 100000 in
set_option maxHeartbeats 4000000 in
theorem k_X7_remove_b159 {Γ : jG} (X : jX Γ cX7_remove 6 RX7) (hR : jgR Γ = ({ frames := 2, cells := 0, slots := 0, locals := 45 } : Room)) {P : Int32 → va_W → Prop} (Rt : jRt Γ cX7_remove 6 0 0 (some .int) (jPi P)) {K127 : va_W → Nat → Int32 → Int32 → Prop} (hK127 : ∀ (w : va_W) (a0 : Nat) (x4 : Int32) (x5 : Int32), K127 w a0 x4 x5 → J Γ 6 w 0 0 127 [(0, .ref a0), (4, .int x4), (5, .int x5)] []) {w : va_W} {a0 : Nat} {x4 : Int32} {x5 : Int32} (h : w_X7_remove_b159 (jgE Γ).2.2.2 w a0 x4 x5 K127 P) : J Γ 6 w 0 0 159 [(0, .ref a0), (4, .int x4), (5, .int x5)] [] := by
  unfold w_X7_remove_b159 at h
  refine j_iinc X (x5 + 1) [(5, .int (x5 + 1)), (0, .ref a0), (4, .int x4)] dX7_remove_159 2 rfl rfl (by decide) rfl ?_
  refine j_goto X 127 dX7_remove_162 (by decide) ?_
  refine j_sub [1, 2, 0] rfl ?_
  exact hK127 _ _ _ _ h
def w_X7_remove_b127 : Nat → (κ : Nat → Nat) → (w : va_W) → (a0 : Nat) → (x4 : Int32) → (x5 : Int32) → (P : Int32 → va_W → Prop) → Prop
  | 0, _, _, _, _, _, _ => False
  | n + 1, κ, w, a0, x4, x5, P =>
    (if 16 ≤ x5 then jgR' w a0 10 0 (fun r1 => jgI w r1 8 11 (fun v2 => (jpV w r1 8 11 (.int (v2 + x4)) (fun w3 => P x4 w3)))) else jgR' w a0 10 2 (fun r4 => (jRc w r4 6 ∧ w_X3_at κ w r4 x5 (fun v5 w5 => (if v5 = 1 then jgR' w5 a0 10 0 (fun r6 => (jRc w5 r6 8 ∧ w_X5_free κ w5 r6 x5 (fun w7 => w_X7_remove_b159 κ w7 a0 (x4 + 1) x5 (fun w_ z_a0 z_x4 z_x5 => w_X7_remove_b127 n κ w_ z_a0 z_x4 z_x5 P) P))) else w_X7_remove_b159 κ w5 a0 x4 x5 (fun w_ z_a0 z_x4 z_x5 => w_X7_remove_b127 n κ w_ z_a0 z_x4 z_x5 P) P)))))
set_option maxRecDepth 100000 in
set_option maxHeartbeats 4000000 in
theorem k_X7_remove_b127 {Γ : jG} (X : jX Γ cX7_remove 6 RX7) (hR : jgR Γ = ({ frames := 2, cells := 0, slots := 0, locals := 45 } : Room)) {P : Int32 → va_W → Prop} (Rt : jRt Γ cX7_remove 6 0 0 (some .int) (jPi P)) : ∀ (n : Nat) {w : va_W} {a0 : Nat} {x4 : Int32} {x5 : Int32} (h : w_X7_remove_b127 n (jgE Γ).2.2.2 w a0 x4 x5 P), J Γ 6 w 0 0 127 [(0, .ref a0), (4, .int x4), (5, .int x5)] [] := by
  intro n
  induction n with
  | zero => intro w a0 x4 x5 h; exact False.elim h
  | succ n ih =>
    intro w a0 x4 x5 h
    rw [w_X7_remove_b127] at h
    refine j_iload X dX7_remove_127 2 rfl ?_
    refine j_bipush X 16 dX7_remove_129 (by decide) ?_
    refine j_icmp_ge X 165 dX7_remove_131 (by decide) (fun c => ?_) (fun c => ?_)
    · replace h := jif_t c h
      refine j_aload_n X dX7_remove_165 0 rfl ?_
      obtain ⟨fs1, r1, g1, i1, h⟩ := h
      refine j_get X (ci := 10) (C := RX7) (T := TX7) (N := 3) rfl jin_X7 0 (by decide) g1 i1 jw_193 rfl dX7_remove_166 ?_
      refine j_dup X dX7_remove_169 rfl ?_
      obtain ⟨fs2, v2, g2, i2, h⟩ := h
      refine j_getN X (ci := 8) (C := RX5) (T := TX5) (N := 12) rfl jin_X5 11 (by decide) g2 i2 jw_143 rfl dX7_remove_170 ?_
      refine j_iload X dX7_remove_173 1 rfl ?_
      refine j_iadd X dX7_remove_175 ?_
      obtain ⟨fs3, g3, i3, h⟩ := h
      refine j_putN X (ci := 8) (C := RX5) (T := TX5) (N := 12) rfl jin_X5 tyX5 tyX5_ok nmX5 11 (by decide) g3 jw_143 rfl rfl (by rfl) (by rfl) i3 dX7_remove_176 ?_
      generalize jst w r1 _ = w3 at h ⊢
      refine j_iload X dX7_remove_179 1 rfl ?_
      exact Rt.i dX7_remove_181 ⟨_, rfl, h⟩ (by first | decide | omega) (by first | decide | omega)
    · replace h := jif_f c h
      refine j_aload_n X dX7_remove_134 0 rfl ?_
      obtain ⟨fs4, r4, g4, i4, h⟩ := h
      refine j_get X (ci := 10) (C := RX7) (T := TX7) (N := 3) rfl jin_X7 2 (by decide) g4 i4 jw_195 rfl dX7_remove_135 ?_
      refine j_iload X dX7_remove_138 2 rfl ?_
      obtain ⟨⟨fs5, g5⟩, h⟩ := h
      refine j_callVi X [.int x5] [] (c_X3_at h) (T := TX3) (N := 1) g5 rfl jm_X3_at jw_611 rfl ⟨rfl, rfl⟩ (by rw [hR]; decide) rfl (Nat.le_of_ble_eq_true rfl) dX7_remove_140 (fun v5 w5 h => ?_)
      refine j_iconst X 1 dX7_remove_143 (by decide) ?_
      refine j_icmp_ne X 159 dX7_remove_144 (by decide) (fun c => ?_) (fun c => ?_)
      · replace h := jif_f c h
        exact k_X7_remove_b159 X hR Rt (fun _ _ _ _ h => ih h) h
      · replace h := jif_t c h
        refine j_aload_n X dX7_remove_147 0 rfl ?_
        obtain ⟨fs6, r6, g6, i6, h⟩ := h
        refine j_get X (ci := 10) (C := RX7) (T := TX7) (N := 3) rfl jin_X7 0 (by decide) g6 i6 jw_193 rfl dX7_remove_148 ?_
        refine j_iload X dX7_remove_151 2 rfl ?_
        obtain ⟨⟨fs7, g7⟩, h⟩ := h
        refine j_callVv X [.int x5] [] (c_X5_free h) (T := TX5) (N := 12) g7 rfl jm_X5_free jw_1109 rfl ⟨rfl, rfl⟩ (by rw [hR]; decide) rfl (Nat.le_of_ble_eq_true rfl) dX7_remove_153 (fun w7 h => ?_)
        refine j_iinc X (x4 + 1) [(4, .int (x4 + 1)), (0, .ref a0), (5, .int x5)] dX7_remove_156 1 rfl rfl (by decide) rfl ?_
        refine j_sub [1, 0, 2] rfl ?_
        exact k_X7_remove_b159 X hR Rt (fun _ _ _ _ h => ih h) h
def w_X7_remove_b115 (κ : Nat → Nat) (w : va_W) (a0 : Nat) (x3 : Int32) (x4 : Int32) (K67 : va_W → Nat → Int32 → Int32 → Prop) (P : Int32 → va_W → Prop) : Prop :=
    K67 w a0 x3 (x4 + 1)
set_option maxRecDepth 100000 in
set_option maxHeartbeats 4000000 in
theorem k_X7_remove_b115 {Γ : jG} (X : jX Γ cX7_remove 6 RX7) (hR : jgR Γ = ({ frames := 2, cells := 0, slots := 0, locals := 45 } : Room)) {P : Int32 → va_W → Prop} (Rt : jRt Γ cX7_remove 6 0 0 (some .int) (jPi P)) {K67 : va_W → Nat → Int32 → Int32 → Prop} (hK67 : ∀ (w : va_W) (a0 : Nat) (x3 : Int32) (x4 : Int32), K67 w a0 x3 x4 → J Γ 6 w 0 0 67 [(0, .ref a0), (3, .int x3), (4, .int x4)] []) {w : va_W} {a0 : Nat} {x3 : Int32} {x4 : Int32} (h : w_X7_remove_b115 (jgE Γ).2.2.2 w a0 x3 x4 K67 P) : J Γ 6 w 0 0 115 [(0, .ref a0), (3, .int x3), (4, .int x4)] [] := by
  unfold w_X7_remove_b115 at h
  refine j_iinc X (x4 + 1) [(4, .int (x4 + 1)), (0, .ref a0), (3, .int x3)] dX7_remove_115 2 rfl rfl (by decide) rfl ?_
  refine j_goto X 67 dX7_remove_118 (by decide) ?_
  refine j_sub [1, 2, 0] rfl ?_
  exact hK67 _ _ _ _ h
def w_X7_remove_b67 : Nat → (κ : Nat → Nat) → (w : va_W) → (a0 : Nat) → (x3 : Int32) → (x4 : Int32) → (P : Int32 → va_W → Prop) → Prop
  | 0, _, _, _, _, _, _ => False
  | n + 1, κ, w, a0, x3, x4, P =>
    jgR' w a0 10 0 (fun r1 => jgI w r1 8 8 (fun v2 => (if v2 ≤ x4 then w_X7_remove_b127 jFu κ w a0 0 0 P else jgR' w a0 10 2 (fun r3 => jgR' w a0 10 0 (fun r4 => jgR' w r4 8 6 (fun r5 => (jRc w r5 6 ∧ w_X3_at κ w r5 x4 (fun v6 w6 => (jRc w6 r3 6 ∧ w_X3_at κ w6 r3 v6 (fun v7 w7 => (if v7 = 1 then jgR' w7 a0 10 0 (fun r8 => jgR' w7 r8 8 6 (fun r9 => (jRc w7 r9 6 ∧ w_X3_put κ w7 r9 x4 x3 (fun w10 => w_X7_remove_b115 κ w10 a0 x3 x4 (fun w_ z_a0 z_x3 z_x4 => w_X7_remove_b67 n κ w_ z_a0 z_x3 z_x4 P) P)))) else w_X7_remove_b115 κ w7 a0 x3 x4 (fun w_ z_a0 z_x3 z_x4 => w_X7_remove_b67 n κ w_ z_a0 z_x3 z_x4 P) P)))))))))))
set_option maxRecDepth 100000 in
set_option maxHeartbeats 4000000 in
theorem k_X7_remove_b67 {Γ : jG} (X : jX Γ cX7_remove 6 RX7) (hR : jgR Γ = ({ frames := 2, cells := 0, slots := 0, locals := 45 } : Room)) {P : Int32 → va_W → Prop} (Rt : jRt Γ cX7_remove 6 0 0 (some .int) (jPi P)) : ∀ (n : Nat) {w : va_W} {a0 : Nat} {x3 : Int32} {x4 : Int32} (h : w_X7_remove_b67 n (jgE Γ).2.2.2 w a0 x3 x4 P), J Γ 6 w 0 0 67 [(0, .ref a0), (3, .int x3), (4, .int x4)] [] := by
  intro n
  induction n with
  | zero => intro w a0 x3 x4 h; exact False.elim h
  | succ n ih =>
    intro w a0 x3 x4 h
    rw [w_X7_remove_b67] at h
    refine j_iload X dX7_remove_67 2 rfl ?_
    refine j_aload_n X dX7_remove_69 0 rfl ?_
    obtain ⟨fs1, r1, g1, i1, h⟩ := h
    refine j_get X (ci := 10) (C := RX7) (T := TX7) (N := 3) rfl jin_X7 0 (by decide) g1 i1 jw_193 rfl dX7_remove_70 ?_
    obtain ⟨fs2, v2, g2, i2, h⟩ := h
    refine j_getN X (ci := 8) (C := RX5) (T := TX5) (N := 12) rfl jin_X5 8 (by decide) g2 i2 jw_135 rfl dX7_remove_73 ?_
    refine j_icmp_ge X 121 dX7_remove_76 (by decide) (fun c => ?_) (fun c => ?_)
    · replace h := jif_t c h
      refine j_iconst X 0 dX7_remove_121 (by decide) ?_
      refine j_istore X [(4, .int 0), (0, .ref a0), (3, .int x3)] dX7_remove_122 (by decide) rfl ?_
      refine j_iconst X 0 dX7_remove_124 (by decide) ?_
      refine j_istore X [(5, .int 0), (4, .int 0), (0, .ref a0), (3, .int x3)] dX7_remove_125 (by decide) rfl ?_
      refine j_sub [2, 1, 0] rfl ?_
      exact k_X7_remove_b127 X hR Rt _ h
    · replace h := jif_f c h
      refine j_aload_n X dX7_remove_79 0 rfl ?_
      obtain ⟨fs3, r3, g3, i3, h⟩ := h
      refine j_get X (ci := 10) (C := RX7) (T := TX7) (N := 3) rfl jin_X7 2 (by decide) g3 i3 jw_195 rfl dX7_remove_80 ?_
      refine j_aload_n X dX7_remove_83 0 rfl ?_
      obtain ⟨fs4, r4, g4, i4, h⟩ := h
      refine j_get X (ci := 10) (C := RX7) (T := TX7) (N := 3) rfl jin_X7 0 (by decide) g4 i4 jw_193 rfl dX7_remove_84 ?_
      obtain ⟨fs5, r5, g5, i5, h⟩ := h
      refine j_getN X (ci := 8) (C := RX5) (T := TX5) (N := 12) rfl jin_X5 6 (by decide) g5 i5 jw_129 rfl dX7_remove_87 ?_
      refine j_iload X dX7_remove_90 2 rfl ?_
      obtain ⟨⟨fs6, g6⟩, h⟩ := h
      refine j_callVi X [.int x4] [.ref r3] (c_X3_at h) (T := TX3) (N := 1) g6 rfl jm_X3_at jw_611 rfl ⟨rfl, rfl⟩ (by rw [hR]; decide) rfl (Nat.le_of_ble_eq_true rfl) dX7_remove_92 (fun v6 w6 h => ?_)
      obtain ⟨⟨fs7, g7⟩, h⟩ := h
      refine j_callVi X [.int v6] [] (c_X3_at h) (T := TX3) (N := 1) g7 rfl jm_X3_at jw_611 rfl ⟨rfl, rfl⟩ (by rw [hR]; decide) rfl (Nat.le_of_ble_eq_true rfl) dX7_remove_95 (fun v7 w7 h => ?_)
      refine j_iconst X 1 dX7_remove_98 (by decide) ?_
      refine j_icmp_ne X 115 dX7_remove_99 (by decide) (fun c => ?_) (fun c => ?_)
      · replace h := jif_f c h
        exact k_X7_remove_b115 X hR Rt (fun _ _ _ _ h => ih h) h
      · replace h := jif_t c h
        refine j_aload_n X dX7_remove_102 0 rfl ?_
        obtain ⟨fs8, r8, g8, i8, h⟩ := h
        refine j_get X (ci := 10) (C := RX7) (T := TX7) (N := 3) rfl jin_X7 0 (by decide) g8 i8 jw_193 rfl dX7_remove_103 ?_
        obtain ⟨fs9, r9, g9, i9, h⟩ := h
        refine j_getN X (ci := 8) (C := RX5) (T := TX5) (N := 12) rfl jin_X5 6 (by decide) g9 i9 jw_129 rfl dX7_remove_106 ?_
        refine j_iload X dX7_remove_109 2 rfl ?_
        refine j_iload_n X dX7_remove_111 1 rfl ?_
        obtain ⟨⟨fs10, g10⟩, h⟩ := h
        refine j_callVv X [.int x4, .int x3] [] (c_X3_put h) (T := TX3) (N := 1) g10 rfl jm_X3_put jw_553 rfl ⟨rfl, rfl⟩ (by rw [hR]; decide) rfl (Nat.le_of_ble_eq_true rfl) dX7_remove_112 (fun w10 h => ?_)
        exact k_X7_remove_b115 X hR Rt (fun _ _ _ _ h => ih h) h
def w_X7_remove_b55 (κ : Nat → Nat) (w : va_W) (a0 : Nat) (x2 : Int32) (x3 : Int32) (x4 : Int32) (s0 : Int32) (s1 : Int32) (s2 : Nat) (K24 : va_W → Nat → Int32 → Int32 → Int32 → Prop) (P : Int32 → va_W → Prop) : Prop :=
    (jRc w s2 6 ∧ w_X3_put κ w s2 s1 s0 (fun w1 => K24 w1 a0 x2 x3 (x4 + 1)))
set_option maxRecDepth 100000 in
set_option maxHeartbeats 4000000 in
theorem k_X7_remove_b55 {Γ : jG} (X : jX Γ cX7_remove 6 RX7) (hR : jgR Γ = ({ frames := 2, cells := 0, slots := 0, locals := 45 } : Room)) {P : Int32 → va_W → Prop} (Rt : jRt Γ cX7_remove 6 0 0 (some .int) (jPi P)) {K24 : va_W → Nat → Int32 → Int32 → Int32 → Prop} (hK24 : ∀ (w : va_W) (a0 : Nat) (x2 : Int32) (x3 : Int32) (x4 : Int32), K24 w a0 x2 x3 x4 → J Γ 6 w 0 0 24 [(0, .ref a0), (2, .int x2), (3, .int x3), (4, .int x4)] []) {w : va_W} {a0 : Nat} {x2 : Int32} {x3 : Int32} {x4 : Int32} {s0 : Int32} {s1 : Int32} {s2 : Nat} (h : w_X7_remove_b55 (jgE Γ).2.2.2 w a0 x2 x3 x4 s0 s1 s2 K24 P) : J Γ 6 w 0 0 55 [(0, .ref a0), (2, .int x2), (3, .int x3), (4, .int x4)] [.int s0, .int s1, .ref s2] := by
  unfold w_X7_remove_b55 at h
  obtain ⟨⟨fs1, g1⟩, h⟩ := h
  refine j_callVv X [.int s1, .int s0] [] (c_X3_put h) (T := TX3) (N := 1) g1 rfl jm_X3_put jw_553 rfl ⟨rfl, rfl⟩ (by rw [hR]; decide) rfl (Nat.le_of_ble_eq_true rfl) dX7_remove_55 (fun w1 h => ?_)
  refine j_iinc X (x4 + 1) [(4, .int (x4 + 1)), (0, .ref a0), (2, .int x2), (3, .int x3)] dX7_remove_58 3 rfl rfl (by decide) rfl ?_
  refine j_goto X 24 dX7_remove_61 (by decide) ?_
  refine j_sub [1, 2, 3, 0] rfl ?_
  exact hK24 _ _ _ _ _ h
def w_X7_remove_b24 : Nat → (κ : Nat → Nat) → (w : va_W) → (a0 : Nat) → (x2 : Int32) → (x3 : Int32) → (x4 : Int32) → (P : Int32 → va_W → Prop) → Prop
  | 0, _, _, _, _, _, _, _ => False
  | n + 1, κ, w, a0, x2, x3, x4, P =>
    (if 16 ≤ x4 then w_X7_remove_b67 jFu κ w a0 x3 0 P else jgR' w a0 10 2 (fun r1 => jgR' w a0 10 1 (fun r2 => (jRc w r2 9 ∧ w_X6_reaches κ w r2 x4 x2 (fun v3 w3 => (if v3 = 0 then w_X7_remove_b55 κ w3 a0 x2 x3 x4 0 x4 r1 (fun w_ z_a0 z_x2 z_x3 z_x4 => w_X7_remove_b24 n κ w_ z_a0 z_x2 z_x3 z_x4 P) P else w_X7_remove_b55 κ w3 a0 x2 x3 x4 1 x4 r1 (fun w_ z_a0 z_x2 z_x3 z_x4 => w_X7_remove_b24 n κ w_ z_a0 z_x2 z_x3 z_x4 P) P))))))
set_option maxRecDepth 100000 in
set_option maxHeartbeats 4000000 in
theorem k_X7_remove_b24 {Γ : jG} (X : jX Γ cX7_remove 6 RX7) (hR : jgR Γ = ({ frames := 2, cells := 0, slots := 0, locals := 45 } : Room)) {P : Int32 → va_W → Prop} (Rt : jRt Γ cX7_remove 6 0 0 (some .int) (jPi P)) : ∀ (n : Nat) {w : va_W} {a0 : Nat} {x2 : Int32} {x3 : Int32} {x4 : Int32} (h : w_X7_remove_b24 n (jgE Γ).2.2.2 w a0 x2 x3 x4 P), J Γ 6 w 0 0 24 [(0, .ref a0), (2, .int x2), (3, .int x3), (4, .int x4)] [] := by
  intro n
  induction n with
  | zero => intro w a0 x2 x3 x4 h; exact False.elim h
  | succ n ih =>
    intro w a0 x2 x3 x4 h
    rw [w_X7_remove_b24] at h
    refine j_iload X dX7_remove_24 3 rfl ?_
    refine j_bipush X 16 dX7_remove_26 (by decide) ?_
    refine j_icmp_ge X 64 dX7_remove_28 (by decide) (fun c => ?_) (fun c => ?_)
    · replace h := jif_t c h
      refine j_iconst X 0 dX7_remove_64 (by decide) ?_
      refine j_istore X [(4, .int 0), (0, .ref a0), (2, .int x2), (3, .int x3)] dX7_remove_65 (by decide) rfl ?_
      refine j_sub [1, 3, 0] rfl ?_
      exact k_X7_remove_b67 X hR Rt _ h
    · replace h := jif_f c h
      refine j_aload_n X dX7_remove_31 0 rfl ?_
      obtain ⟨fs1, r1, g1, i1, h⟩ := h
      refine j_get X (ci := 10) (C := RX7) (T := TX7) (N := 3) rfl jin_X7 2 (by decide) g1 i1 jw_195 rfl dX7_remove_32 ?_
      refine j_iload X dX7_remove_35 3 rfl ?_
      refine j_aload_n X dX7_remove_37 0 rfl ?_
      obtain ⟨fs2, r2, g2, i2, h⟩ := h
      refine j_get X (ci := 10) (C := RX7) (T := TX7) (N := 3) rfl jin_X7 1 (by decide) g2 i2 jw_194 rfl dX7_remove_38 ?_
      refine j_iload X dX7_remove_41 3 rfl ?_
      refine j_iload_n X dX7_remove_43 1 rfl ?_
      obtain ⟨⟨fs3, g3⟩, h⟩ := h
      refine j_callVi X [.int x4, .int x2] [.int x4, .ref r1] (c_X6_reaches h) (T := TX6) (N := 2) g3 rfl jm_X6_reaches jw_1105 rfl ⟨rfl, rfl⟩ (by rw [hR]; decide) rfl (Nat.le_of_ble_eq_true rfl) dX7_remove_44 (fun v3 w3 h => ?_)
      refine j_if_eq X 54 dX7_remove_47 (by decide) (fun c => ?_) (fun c => ?_)
      · replace h := jif_t c h
        refine j_iconst X 0 dX7_remove_54 (by decide) ?_
        exact k_X7_remove_b55 X hR Rt (fun _ _ _ _ _ h => ih h) h
      · replace h := jif_f c h
        refine j_iconst X 1 dX7_remove_50 (by decide) ?_
        refine j_goto X 55 dX7_remove_51 (by decide) ?_
        exact k_X7_remove_b55 X hR Rt (fun _ _ _ _ _ h => ih h) h
def w_X7_remove_b0 (κ : Nat → Nat) (w : va_W) (a0 : Nat) (x1 : Int32) (P : Int32 → va_W → Prop) : Prop :=
    jgR' w a0 10 0 (fun r1 => (jRc w r1 8 ∧ w_X5_slotOf κ w r1 x1 (fun v2 w2 => jgR' w2 a0 10 0 (fun r3 => jgR' w2 r3 8 1 (fun r4 => (jRc w2 r4 6 ∧ w_X3_at κ w2 r4 v2 (fun v5 w5 => w_X7_remove_b24 jFu κ w5 a0 v2 v5 0 P)))))))
set_option maxRecDepth 100000 in
set_option maxHeartbeats 4000000 in
theorem k_X7_remove_b0 {Γ : jG} (X : jX Γ cX7_remove 6 RX7) (hR : jgR Γ = ({ frames := 2, cells := 0, slots := 0, locals := 45 } : Room)) {P : Int32 → va_W → Prop} (Rt : jRt Γ cX7_remove 6 0 0 (some .int) (jPi P)) {w : va_W} {a0 : Nat} {x1 : Int32} (h : w_X7_remove_b0 (jgE Γ).2.2.2 w a0 x1 P) : J Γ 6 w 0 0 0 [(0, .ref a0), (1, .int x1)] [] := by
  unfold w_X7_remove_b0 at h
  refine j_aload_n X dX7_remove_0 0 rfl ?_
  obtain ⟨fs1, r1, g1, i1, h⟩ := h
  refine j_get X (ci := 10) (C := RX7) (T := TX7) (N := 3) rfl jin_X7 0 (by decide) g1 i1 jw_193 rfl dX7_remove_1 ?_
  refine j_iload_n X dX7_remove_4 1 rfl ?_
  obtain ⟨⟨fs2, g2⟩, h⟩ := h
  refine j_callVi X [.int x1] [] (c_X5_slotOf h) (T := TX5) (N := 12) g2 rfl jm_X5_slotOf jw_662 rfl ⟨rfl, rfl⟩ (by rw [hR]; decide) rfl (Nat.le_of_ble_eq_true rfl) dX7_remove_5 (fun v2 w2 h => ?_)
  refine j_istore_n X [(2, .int v2), (0, .ref a0), (1, .int x1)] dX7_remove_8 (by decide) rfl ?_
  refine j_aload_n X dX7_remove_9 1 rfl ?_
  obtain ⟨fs3, r3, g3, i3, h⟩ := h
  refine j_get X (ci := 10) (C := RX7) (T := TX7) (N := 3) rfl jin_X7 0 (by decide) g3 i3 jw_193 rfl dX7_remove_10 ?_
  obtain ⟨fs4, r4, g4, i4, h⟩ := h
  refine j_getN X (ci := 8) (C := RX5) (T := TX5) (N := 12) rfl jin_X5 1 (by decide) g4 i4 jw_110 rfl dX7_remove_13 ?_
  refine j_iload_n X dX7_remove_16 0 rfl ?_
  obtain ⟨⟨fs5, g5⟩, h⟩ := h
  refine j_callVi X [.int v2] [] (c_X3_at h) (T := TX3) (N := 1) g5 rfl jm_X3_at jw_611 rfl ⟨rfl, rfl⟩ (by rw [hR]; decide) rfl (Nat.le_of_ble_eq_true rfl) dX7_remove_17 (fun v5 w5 h => ?_)
  refine j_istore_n X [(3, .int v5), (2, .int v2), (0, .ref a0), (1, .int x1)] dX7_remove_20 (by decide) rfl ?_
  refine j_iconst X 0 dX7_remove_21 (by decide) ?_
  refine j_istore X [(4, .int 0), (3, .int v5), (2, .int v2), (0, .ref a0), (1, .int x1)] dX7_remove_22 (by decide) rfl ?_
  refine j_sub [3, 2, 1, 0] rfl ?_
  exact k_X7_remove_b24 X hR Rt _ h
def w_X7_remove (κ : Nat → Nat) (w : va_W) (a0 : Nat) (x1 : Int32) (P : Int32 → va_W → Prop) : Prop := w_X7_remove_b0 κ w a0 x1 P
theorem c_X7_remove {E : jE} {w : va_W} {a0 : Nat} {x1 : Int32} {P : Int32 → va_W → Prop} (h : w_X7_remove E.2.2.2 w a0 x1 P) : jC E yX7_remove cX7_remove 6 (some .int) ({ frames := 2, cells := 0, slots := 0, locals := 45 } : Room) [.ref a0, .int x1] w 0 0 (jPi P) := by
  refine jC_of (by decide) (Nat.le_of_ble_eq_true rfl) ?_
  intro Γ X hE hR Rt
  subst hE
  exact k_X7_remove_b0 X hR Rt h
theorem jm_X7_swap : jMv yX7_swap cX7_swap 6 (some .int) 3 := ⟨jw_687, jw_688, jw_28, jw_689, ⟨by decide +kernel, by decide +kernel⟩, by decide +kernel⟩
def w_X7_swap_b0 (κ : Nat → Nat) (w : va_W) (a0 : Nat) (x1 : Int32) (x2 : Int32) (x3 : Int32) (P : Int32 → va_W → Prop) : Prop :=
    jgR' w a0 10 0 (fun r1 => (jRc w r1 8 ∧ w_X5_slotOf κ w r1 x1 (fun v2 w2 => jgR' w2 a0 10 0 (fun r3 => jgR' w2 r3 8 5 (fun r4 => (jRc w2 r4 4 ∧ w_X0_flake κ w2 r4 v2 x2 (fun v5 w5 => jgR' w5 a0 10 0 (fun r6 => jgR' w5 r6 8 5 (fun r7 => (jRc w5 r7 4 ∧ w_X0_replace κ w5 r7 v2 x2 x3 (fun w8 => P v5 w8)))))))))))
set_option maxRecDepth 100000 in
set_option maxHeartbeats 4000000 in
theorem k_X7_swap_b0 {Γ : jG} (X : jX Γ cX7_swap 6 RX7) (hR : jgR Γ = ({ frames := 2, cells := 0, slots := 0, locals := 45 } : Room)) {P : Int32 → va_W → Prop} (Rt : jRt Γ cX7_swap 6 0 0 (some .int) (jPi P)) {w : va_W} {a0 : Nat} {x1 : Int32} {x2 : Int32} {x3 : Int32} (h : w_X7_swap_b0 (jgE Γ).2.2.2 w a0 x1 x2 x3 P) : J Γ 6 w 0 0 0 [(0, .ref a0), (1, .int x1), (2, .int x2), (3, .int x3)] [] := by
  unfold w_X7_swap_b0 at h
  refine j_aload_n X dX7_swap_0 0 rfl ?_
  obtain ⟨fs1, r1, g1, i1, h⟩ := h
  refine j_get X (ci := 10) (C := RX7) (T := TX7) (N := 3) rfl jin_X7 0 (by decide) g1 i1 jw_193 rfl dX7_swap_1 ?_
  refine j_iload_n X dX7_swap_4 1 rfl ?_
  obtain ⟨⟨fs2, g2⟩, h⟩ := h
  refine j_callVi X [.int x1] [] (c_X5_slotOf h) (T := TX5) (N := 12) g2 rfl jm_X5_slotOf jw_662 rfl ⟨rfl, rfl⟩ (by rw [hR]; decide) rfl (Nat.le_of_ble_eq_true rfl) dX7_swap_5 (fun v2 w2 h => ?_)
  refine j_istore X [(4, .int v2), (0, .ref a0), (1, .int x1), (2, .int x2), (3, .int x3)] dX7_swap_8 (by decide) rfl ?_
  refine j_aload_n X dX7_swap_10 1 rfl ?_
  obtain ⟨fs3, r3, g3, i3, h⟩ := h
  refine j_get X (ci := 10) (C := RX7) (T := TX7) (N := 3) rfl jin_X7 0 (by decide) g3 i3 jw_193 rfl dX7_swap_11 ?_
  obtain ⟨fs4, r4, g4, i4, h⟩ := h
  refine j_getN X (ci := 8) (C := RX5) (T := TX5) (N := 12) rfl jin_X5 5 (by decide) g4 i4 jw_126 rfl dX7_swap_14 ?_
  refine j_iload X dX7_swap_17 0 rfl ?_
  refine j_iload_n X dX7_swap_19 3 rfl ?_
  obtain ⟨⟨fs5, g5⟩, h⟩ := h
  refine j_callVi X [.int v2, .int x2] [] (c_X0_flake h) (T := TX0) (N := 3) g5 rfl jm_X0_flake jw_690 rfl ⟨rfl, rfl⟩ (by rw [hR]; decide) rfl (Nat.le_of_ble_eq_true rfl) dX7_swap_20 (fun v5 w5 h => ?_)
  refine j_istore X [(5, .int v5), (4, .int v2), (0, .ref a0), (1, .int x1), (2, .int x2), (3, .int x3)] dX7_swap_23 (by decide) rfl ?_
  refine j_aload_n X dX7_swap_25 2 rfl ?_
  obtain ⟨fs6, r6, g6, i6, h⟩ := h
  refine j_get X (ci := 10) (C := RX7) (T := TX7) (N := 3) rfl jin_X7 0 (by decide) g6 i6 jw_193 rfl dX7_swap_26 ?_
  obtain ⟨fs7, r7, g7, i7, h⟩ := h
  refine j_getN X (ci := 8) (C := RX5) (T := TX5) (N := 12) rfl jin_X5 5 (by decide) g7 i7 jw_126 rfl dX7_swap_29 ?_
  refine j_iload X dX7_swap_32 1 rfl ?_
  refine j_iload_n X dX7_swap_34 4 rfl ?_
  refine j_iload_n X dX7_swap_35 5 rfl ?_
  obtain ⟨⟨fs8, g8⟩, h⟩ := h
  refine j_callVv X [.int v2, .int x2, .int x3] [] (c_X0_replace h) (T := TX0) (N := 3) g8 rfl jm_X0_replace jw_694 rfl ⟨rfl, rfl⟩ (by rw [hR]; decide) rfl (Nat.le_of_ble_eq_true rfl) dX7_swap_36 (fun w8 h => ?_)
  refine j_iload X dX7_swap_39 0 rfl ?_
  exact Rt.i dX7_swap_41 ⟨_, rfl, h⟩ (by first | decide | omega) (by first | decide | omega)
def w_X7_swap (κ : Nat → Nat) (w : va_W) (a0 : Nat) (x1 : Int32) (x2 : Int32) (x3 : Int32) (P : Int32 → va_W → Prop) : Prop := w_X7_swap_b0 κ w a0 x1 x2 x3 P
theorem c_X7_swap {E : jE} {w : va_W} {a0 : Nat} {x1 : Int32} {x2 : Int32} {x3 : Int32} {P : Int32 → va_W → Prop} (h : w_X7_swap E.2.2.2 w a0 x1 x2 x3 P) : jC E yX7_swap cX7_swap 6 (some .int) ({ frames := 2, cells := 0, slots := 0, locals := 45 } : Room) [.ref a0, .int x1, .int x2, .int x3] w 0 0 (jPi P) := by
  refine jC_of (by decide) (Nat.le_of_ble_eq_true rfl) ?_
  intro Γ X hE hR Rt
  subst hE
  exact k_X7_swap_b0 X hR Rt h
theorem jm_X7_mend : jMv yX7_mend cX7_mend 3 (some .int) 1 := ⟨jw_1115, jw_1116, jw_28, jw_1117, ⟨by decide +kernel, by decide +kernel⟩, by decide +kernel⟩
def w_X7_mend_b0 (κ : Nat → Nat) (w : va_W) (a0 : Nat) (x1 : Int32) (P : Int32 → va_W → Prop) : Prop :=
    jgR' w a0 10 0 (fun r1 => (jRc w r1 8 ∧ w_X5_slotOf κ w r1 x1 (fun v2 w2 => (jRc w2 a0 10 ∧ w_X7_seal κ w2 a0 v2 (fun w3 => jgR' w3 a0 10 0 (fun r4 => jgR' w3 r4 8 3 (fun r5 => (jRc w3 r5 6 ∧ w_X3_at κ w3 r5 v2 (fun v6 w6 => P v6 w6)))))))))
set_option maxRecDepth 100000 in
set_option maxHeartbeats 4000000 in
theorem k_X7_mend_b0 {Γ : jG} (X : jX Γ cX7_mend 3 RX7) (hR : jgR Γ = ({ frames := 3, cells := 0, slots := 0, locals := 73 } : Room)) {P : Int32 → va_W → Prop} (Rt : jRt Γ cX7_mend 3 0 0 (some .int) (jPi P)) {w : va_W} {a0 : Nat} {x1 : Int32} (h : w_X7_mend_b0 (jgE Γ).2.2.2 w a0 x1 P) : J Γ 3 w 0 0 0 [(0, .ref a0), (1, .int x1)] [] := by
  unfold w_X7_mend_b0 at h
  refine j_aload_n X dX7_mend_0 0 rfl ?_
  obtain ⟨fs1, r1, g1, i1, h⟩ := h
  refine j_get X (ci := 10) (C := RX7) (T := TX7) (N := 3) rfl jin_X7 0 (by decide) g1 i1 jw_193 rfl dX7_mend_1 ?_
  refine j_iload_n X dX7_mend_4 1 rfl ?_
  obtain ⟨⟨fs2, g2⟩, h⟩ := h
  refine j_callVi X [.int x1] [] (c_X5_slotOf h) (T := TX5) (N := 12) g2 rfl jm_X5_slotOf jw_662 rfl ⟨rfl, rfl⟩ (by rw [hR]; decide) rfl (Nat.le_of_ble_eq_true rfl) dX7_mend_5 (fun v2 w2 h => ?_)
  refine j_istore_n X [(2, .int v2), (0, .ref a0), (1, .int x1)] dX7_mend_8 (by decide) rfl ?_
  refine j_aload_n X dX7_mend_9 1 rfl ?_
  refine j_iload_n X dX7_mend_10 0 rfl ?_
  obtain ⟨⟨fs3, g3⟩, h⟩ := h
  refine j_callVv X [.int v2] [] (c_X7_seal h) (T := TX7) (N := 3) g3 rfl jm_X7_seal jw_640 rfl ⟨rfl, rfl⟩ (by rw [hR]; decide) rfl (Nat.le_of_ble_eq_true rfl) dX7_mend_11 (fun w3 h => ?_)
  refine j_aload_n X dX7_mend_14 1 rfl ?_
  obtain ⟨fs4, r4, g4, i4, h⟩ := h
  refine j_get X (ci := 10) (C := RX7) (T := TX7) (N := 3) rfl jin_X7 0 (by decide) g4 i4 jw_193 rfl dX7_mend_15 ?_
  obtain ⟨fs5, r5, g5, i5, h⟩ := h
  refine j_getN X (ci := 8) (C := RX5) (T := TX5) (N := 12) rfl jin_X5 3 (by decide) g5 i5 jw_118 rfl dX7_mend_18 ?_
  refine j_iload_n X dX7_mend_21 0 rfl ?_
  obtain ⟨⟨fs6, g6⟩, h⟩ := h
  refine j_callVi X [.int v2] [] (c_X3_at h) (T := TX3) (N := 1) g6 rfl jm_X3_at jw_611 rfl ⟨rfl, rfl⟩ (by rw [hR]; decide) rfl (Nat.le_of_ble_eq_true rfl) dX7_mend_22 (fun v6 w6 h => ?_)
  exact Rt.i dX7_mend_25 ⟨_, rfl, h⟩ (by first | decide | omega) (by first | decide | omega)
def w_X7_mend (κ : Nat → Nat) (w : va_W) (a0 : Nat) (x1 : Int32) (P : Int32 → va_W → Prop) : Prop := w_X7_mend_b0 κ w a0 x1 P
theorem c_X7_mend {E : jE} {w : va_W} {a0 : Nat} {x1 : Int32} {P : Int32 → va_W → Prop} (h : w_X7_mend E.2.2.2 w a0 x1 P) : jC E yX7_mend cX7_mend 3 (some .int) ({ frames := 3, cells := 0, slots := 0, locals := 73 } : Room) [.ref a0, .int x1] w 0 0 (jPi P) := by
  refine jC_of (by decide) (Nat.le_of_ble_eq_true rfl) ?_
  intro Γ X hE hR Rt
  subst hE
  exact k_X7_mend_b0 X hR Rt h
theorem jm_X7_carryOut : jMv yX7_carryOut cX7_carryOut 5 (some .int) 4 := ⟨jw_1094, jw_1095, jw_28, jw_1096, ⟨by decide +kernel, by decide +kernel⟩, by decide +kernel⟩
def w_X7_carryOut_b0 (κ : Nat → Nat) (w : va_W) (a0 : Nat) (x1 : Int32) (x2 : Int32) (x3 : Int32) (x4 : Int32) (P : Int32 → va_W → Prop) : Prop :=
    (if x1 = 0 then (jRc w a0 10 ∧ w_X7_raiseHill κ w a0 (fun v2 w2 => P v2 w2)) else (if x1 = 1 then (jRc w a0 10 ∧ w_X7_hold κ w a0 x2 x3 (fun v3 w3 => P v3 w3)) else (if x1 = 2 then (jRc w a0 10 ∧ w_X7_append κ w a0 x2 (fun v4 w4 => P v4 w4)) else (if x1 = 3 then (jRc w a0 10 ∧ w_X7_turn κ w a0 x2 x3 (fun v5 w5 => P v5 w5)) else (if x1 = 4 then (jRc w a0 10 ∧ w_X7_remove κ w a0 x2 (fun v6 w6 => P v6 w6)) else (if x1 = 5 then (jRc w a0 10 ∧ w_X7_swap κ w a0 x2 x3 x4 (fun v7 w7 => P v7 w7)) else (jRc w a0 10 ∧ w_X7_mend κ w a0 x2 (fun v8 w8 => P v8 w8))))))))
set_option maxRecDepth 100000 in
set_option maxHeartbeats 4000000 in
theorem k_X7_carryOut_b0 {Γ : jG} (X : jX Γ cX7_carryOut 5 RX7) (hR : jgR Γ = ({ frames := 4, cells := 0, slots := 0, locals := 96 } : Room)) {P : Int32 → va_W → Prop} (Rt : jRt Γ cX7_carryOut 5 0 0 (some .int) (jPi P)) {w : va_W} {a0 : Nat} {x1 : Int32} {x2 : Int32} {x3 : Int32} {x4 : Int32} (h : w_X7_carryOut_b0 (jgE Γ).2.2.2 w a0 x1 x2 x3 x4 P) : J Γ 5 w 0 0 0 [(0, .ref a0), (1, .int x1), (2, .int x2), (3, .int x3), (4, .int x4)] [] := by
  unfold w_X7_carryOut_b0 at h
  refine j_iload_n X dX7_carryOut_0 1 rfl ?_
  by_cases c1_0 : x1 = 0
  · replace h := jif_t c1_0 h
    refine j_tableIn X 40 dX7_carryOut_1 (by rw [c1_0]; decide) (by rw [c1_0]; decide) (by rw [c1_0]; rfl) (by decide) ?_
    refine j_aload_n X dX7_carryOut_40 0 rfl ?_
    obtain ⟨⟨fs2, g2⟩, h⟩ := h
    refine j_callVi X [] [] (c_X7_raiseHill h) (T := TX7) (N := 3) g2 rfl jm_X7_raiseHill jw_1097 rfl ⟨rfl, rfl⟩ (by rw [hR]; decide) rfl (Nat.le_of_ble_eq_true rfl) dX7_carryOut_41 (fun v2 w2 h => ?_)
    exact Rt.i dX7_carryOut_44 ⟨_, rfl, h⟩ (by first | decide | omega) (by first | decide | omega)
  replace h := jif_f c1_0 h
  by_cases c1_1 : x1 = 1
  · replace h := jif_t c1_1 h
    refine j_tableIn X 45 dX7_carryOut_1 (by rw [c1_1]; decide) (by rw [c1_1]; decide) (by rw [c1_1]; rfl) (by decide) ?_
    refine j_aload_n X dX7_carryOut_45 0 rfl ?_
    refine j_iload_n X dX7_carryOut_46 2 rfl ?_
    refine j_iload_n X dX7_carryOut_47 3 rfl ?_
    obtain ⟨⟨fs3, g3⟩, h⟩ := h
    refine j_callVi X [.int x2, .int x3] [] (c_X7_hold h) (T := TX7) (N := 3) g3 rfl jm_X7_hold jw_1098 rfl ⟨rfl, rfl⟩ (by rw [hR]; decide) rfl (Nat.le_of_ble_eq_true rfl) dX7_carryOut_48 (fun v3 w3 h => ?_)
    exact Rt.i dX7_carryOut_51 ⟨_, rfl, h⟩ (by first | decide | omega) (by first | decide | omega)
  replace h := jif_f c1_1 h
  by_cases c1_2 : x1 = 2
  · replace h := jif_t c1_2 h
    refine j_tableIn X 52 dX7_carryOut_1 (by rw [c1_2]; decide) (by rw [c1_2]; decide) (by rw [c1_2]; rfl) (by decide) ?_
    refine j_aload_n X dX7_carryOut_52 0 rfl ?_
    refine j_iload_n X dX7_carryOut_53 2 rfl ?_
    obtain ⟨⟨fs4, g4⟩, h⟩ := h
    refine j_callVi X [.int x2] [] (c_X7_append h) (T := TX7) (N := 3) g4 rfl jm_X7_append jw_1099 rfl ⟨rfl, rfl⟩ (by rw [hR]; decide) rfl (Nat.le_of_ble_eq_true rfl) dX7_carryOut_54 (fun v4 w4 h => ?_)
    exact Rt.i dX7_carryOut_57 ⟨_, rfl, h⟩ (by first | decide | omega) (by first | decide | omega)
  replace h := jif_f c1_2 h
  by_cases c1_3 : x1 = 3
  · replace h := jif_t c1_3 h
    refine j_tableIn X 58 dX7_carryOut_1 (by rw [c1_3]; decide) (by rw [c1_3]; decide) (by rw [c1_3]; rfl) (by decide) ?_
    refine j_aload_n X dX7_carryOut_58 0 rfl ?_
    refine j_iload_n X dX7_carryOut_59 2 rfl ?_
    refine j_iload_n X dX7_carryOut_60 3 rfl ?_
    obtain ⟨⟨fs5, g5⟩, h⟩ := h
    refine j_callVi X [.int x2, .int x3] [] (c_X7_turn h) (T := TX7) (N := 3) g5 rfl jm_X7_turn jw_1100 rfl ⟨rfl, rfl⟩ (by rw [hR]; decide) rfl (Nat.le_of_ble_eq_true rfl) dX7_carryOut_61 (fun v5 w5 h => ?_)
    exact Rt.i dX7_carryOut_64 ⟨_, rfl, h⟩ (by first | decide | omega) (by first | decide | omega)
  replace h := jif_f c1_3 h
  by_cases c1_4 : x1 = 4
  · replace h := jif_t c1_4 h
    refine j_tableIn X 65 dX7_carryOut_1 (by rw [c1_4]; decide) (by rw [c1_4]; decide) (by rw [c1_4]; rfl) (by decide) ?_
    refine j_aload_n X dX7_carryOut_65 0 rfl ?_
    refine j_iload_n X dX7_carryOut_66 2 rfl ?_
    obtain ⟨⟨fs6, g6⟩, h⟩ := h
    refine j_callVi X [.int x2] [] (c_X7_remove h) (T := TX7) (N := 3) g6 rfl jm_X7_remove jw_1101 rfl ⟨rfl, rfl⟩ (by rw [hR]; decide) rfl (Nat.le_of_ble_eq_true rfl) dX7_carryOut_67 (fun v6 w6 h => ?_)
    exact Rt.i dX7_carryOut_70 ⟨_, rfl, h⟩ (by first | decide | omega) (by first | decide | omega)
  replace h := jif_f c1_4 h
  by_cases c1_5 : x1 = 5
  · replace h := jif_t c1_5 h
    refine j_tableIn X 71 dX7_carryOut_1 (by rw [c1_5]; decide) (by rw [c1_5]; decide) (by rw [c1_5]; rfl) (by decide) ?_
    refine j_aload_n X dX7_carryOut_71 0 rfl ?_
    refine j_iload_n X dX7_carryOut_72 2 rfl ?_
    refine j_iload_n X dX7_carryOut_73 3 rfl ?_
    refine j_iload X dX7_carryOut_74 4 rfl ?_
    obtain ⟨⟨fs7, g7⟩, h⟩ := h
    refine j_callVi X [.int x2, .int x3, .int x4] [] (c_X7_swap h) (T := TX7) (N := 3) g7 rfl jm_X7_swap jw_1113 rfl ⟨rfl, rfl⟩ (by rw [hR]; decide) rfl (Nat.le_of_ble_eq_true rfl) dX7_carryOut_76 (fun v7 w7 h => ?_)
    exact Rt.i dX7_carryOut_79 ⟨_, rfl, h⟩ (by first | decide | omega) (by first | decide | omega)
  replace h := jif_f c1_5 h
  refine j_tableOut X 80 dX7_carryOut_1 (jtabOut (n := 5) (by decide) (fun k hk => by
    rcases (show k = 0 ∨ k = 1 ∨ k = 2 ∨ k = 3 ∨ k = 4 ∨ k = 5 by omega) with rfl | rfl | rfl | rfl | rfl | rfl
    · exact c1_0
    · exact c1_1
    · exact c1_2
    · exact c1_3
    · exact c1_4
    · exact c1_5)) (by decide) ?_
  refine j_aload_n X dX7_carryOut_80 0 rfl ?_
  refine j_iload_n X dX7_carryOut_81 2 rfl ?_
  obtain ⟨⟨fs8, g8⟩, h⟩ := h
  refine j_callVi X [.int x2] [] (c_X7_mend h) (T := TX7) (N := 3) g8 rfl jm_X7_mend jw_1114 rfl ⟨rfl, rfl⟩ (by rw [hR]; decide) rfl (Nat.le_of_ble_eq_true rfl) dX7_carryOut_82 (fun v8 w8 h => ?_)
  exact Rt.i dX7_carryOut_85 ⟨_, rfl, h⟩ (by first | decide | omega) (by first | decide | omega)
def w_X7_carryOut (κ : Nat → Nat) (w : va_W) (a0 : Nat) (x1 : Int32) (x2 : Int32) (x3 : Int32) (x4 : Int32) (P : Int32 → va_W → Prop) : Prop := w_X7_carryOut_b0 κ w a0 x1 x2 x3 x4 P
theorem c_X7_carryOut {E : jE} {w : va_W} {a0 : Nat} {x1 : Int32} {x2 : Int32} {x3 : Int32} {x4 : Int32} {P : Int32 → va_W → Prop} (h : w_X7_carryOut E.2.2.2 w a0 x1 x2 x3 x4 P) : jC E yX7_carryOut cX7_carryOut 5 (some .int) ({ frames := 4, cells := 0, slots := 0, locals := 96 } : Room) [.ref a0, .int x1, .int x2, .int x3, .int x4] w 0 0 (jPi P) := by
  refine jC_of (by decide) (Nat.le_of_ble_eq_true rfl) ?_
  intro Γ X hE hR Rt
  subst hE
  exact k_X7_carryOut_b0 X hR Rt h
theorem jmi_X8_init : jMi yX8_init cX8_init 1 0 := ⟨jw_57, jw_22, jw_58, ⟨by decide +kernel, by decide +kernel⟩, by decide +kernel, rfl⟩
def w_X8_init_b0 (κ : Nat → Nat) (w : va_W) (a0 : Nat) (P : va_W → Prop) : Prop :=
    (∀ q1 : Nat, jlk w q1 = none → (fun w1 => w_X5_init κ w1 q1 (fun w2 => (jpV w2 a0 11 0 (.ref q1) (fun w3 => (∀ q4 : Nat, jlk w3 q4 = none → (fun w4 => jgR' w4 a0 11 0 (fun r5 => w_X6_init κ w4 q4 r5 (fun w6 => (jpV w6 a0 11 1 (.ref q4) (fun w7 => (∀ q8 : Nat, jlk w7 q8 = none → (fun w8 => jgR' w8 a0 11 0 (fun r9 => jgR' w8 a0 11 1 (fun r10 => w_X7_init κ w8 q8 r9 r10 (fun w11 => (jpV w11 a0 11 2 (.ref q8) (fun w12 => (∀ q13 : Nat, jlk w12 q13 = none → (fun w13 => w_X1_init κ w13 q13 (fun w14 => (jpV w14 a0 11 3 (.ref q13) (fun w15 => (∀ q16 : Nat, jlk w15 q16 = none → (fun w16 => w_X5_init κ w16 q16 (fun w17 => (jpV w17 a0 11 4 (.ref q16) (fun w18 => (∀ q19 : Nat, jlk w18 q19 = none → (fun w19 => w_X5_init κ w19 q19 (fun w20 => (jpV w20 a0 11 6 (.ref q19) (fun w21 => (∀ q22 : Nat, jlk w21 q22 = none → (fun w22 => w_X4_init κ w22 q22 (fun w23 => (jpV w23 a0 11 7 (.ref q22) (fun w24 => (∀ q25 : Nat, jlk w24 q25 = none → (fun w25 => w_J4_init_da8c8 κ w25 q25 (fun w26 => (jpV w26 a0 11 8 (.ref q25) (fun w27 => (jpV w27 a0 11 9 (.int (-1)) (fun w28 => (jpV w28 a0 11 10 (.int (-1)) (fun w29 => P w29)))))))) (w24 ++ [(q25, .inr (1, [.null, .int 0, .int 0, .int 0]))])))))) (w21 ++ [(q22, .inr (7, [.null, .null, .null, .null, .null, .null, .int 0, .int 0, .int 0]))])))))) (w18 ++ [(q19, .inr (8, [.null, .null, .null, .null, .null, .null, .null, .null, .int 0, .int 0, .int 0, .int 0]))])))))) (w15 ++ [(q16, .inr (8, [.null, .null, .null, .null, .null, .null, .null, .null, .int 0, .int 0, .int 0, .int 0]))])))))) (w12 ++ [(q13, .inr (5, [.null, .int 0, .int 0]))])))))))) (w7 ++ [(q8, .inr (10, [.null, .null, .null]))]))))))) (w3 ++ [(q4, .inr (9, [.null, .null]))])))))) (w ++ [(q1, .inr (8, [.null, .null, .null, .null, .null, .null, .null, .null, .int 0, .int 0, .int 0, .int 0]))]))
set_option maxRecDepth 100000 in
set_option maxHeartbeats 4000000 in
theorem k_X8_init_b0 {Γ : jG} (hNm : (jgM Γ).name = "<init>") (X : jX Γ cX8_init 1 RX8) (hR : jgR Γ = ({ frames := 5, cells := 347, slots := 15532, locals := 107 } : Room)) {P : va_W → Prop} (Rt : jRt Γ cX8_init 1 347 15532 none (jPv P)) {w : va_W} {a0 : Nat} (h : w_X8_init_b0 (jgE Γ).2.2.2 w a0 P) : J Γ 1 w 0 0 0 [(0, .ref a0)] [] := by
  unfold w_X8_init_b0 at h
  refine j_aload_n X dX8_init_0 0 rfl ?_
  refine j_objInit X jw_59 jw_60 jw_61 (by rw [hR]; exact ⟨by decide, Nat.le_of_ble_eq_true rfl⟩) dX8_init_1 ?_
  refine j_aload_n X dX8_init_4 0 rfl ?_
  refine j_new X (C := RX5) (T := TX5) (N := 12) 8 [.null, .null, .null, .null, .null, .null, .null, .null, .int 0, .int 0, .int 0, .int 0] rfl jin_X5 tyX5 tyX5_ok jw_62 jw_63 jw_23 (fun j hj => by rcases (show j = 0 ∨ j = 1 ∨ j = 2 ∨ j = 3 ∨ j = 4 ∨ j = 5 ∨ j = 6 ∨ j = 7 ∨ j = 8 ∨ j = 9 ∨ j = 10 ∨ j = 11 by omega) with rfl | rfl | rfl | rfl | rfl | rfl | rfl | rfl | rfl | rfl | rfl | rfl <;> rfl) (by rw [hR]; exact ⟨by simp only []; omega, by simp only []; omega⟩) dX8_init_5 (fun q1 e1 => ?_)
  replace h := h q1 e1
  generalize w ++ [(q1, _)] = w1 at h ⊢
  refine j_dup X dX8_init_8 rfl ?_
  refine j_callI X [] [.ref q1, .ref a0] (c_X5_init h) jmi_X5_init jw_64 rfl ⟨rfl, rfl⟩ (by rw [hR]; decide) rfl (Nat.le_of_ble_eq_true rfl) dX8_init_9 (fun w2 h => ?_)
  obtain ⟨fs3, g3, i3, h⟩ := h
  refine j_putF X hNm (ci := 11) (C := RX8) (T := TX8) (N := 11) rfl jin_X8 tyX8 tyX8_ok nmX8 0 (by decide) g3 jw_302 rfl rfl rfl (by rfl) (by rfl) i3 dX8_init_12 ?_
  generalize jst w2 a0 _ = w3 at h ⊢
  refine j_aload_n X dX8_init_15 0 rfl ?_
  refine j_new X (C := RX6) (T := TX6) (N := 2) 9 [.null, .null] rfl jin_X6 tyX6 tyX6_ok jw_170 jw_171 jw_27 (fun j hj => by rcases (show j = 0 ∨ j = 1 by omega) with rfl | rfl <;> rfl) (by rw [hR]; exact ⟨by simp only []; omega, by simp only []; omega⟩) dX8_init_16 (fun q4 e4 => ?_)
  replace h := h q4 e4
  generalize w3 ++ [(q4, _)] = w4 at h ⊢
  refine j_dup X dX8_init_19 rfl ?_
  refine j_aload_n X dX8_init_20 0 rfl ?_
  obtain ⟨fs5, r5, g5, i5, h⟩ := h
  refine j_get X (ci := 11) (C := RX8) (T := TX8) (N := 11) rfl jin_X8 0 (by decide) g5 i5 jw_302 rfl dX8_init_21 ?_
  refine j_callI X [.ref r5] [.ref q4, .ref a0] (c_X6_init h) jmi_X6_init jw_172 rfl ⟨rfl, rfl⟩ (by rw [hR]; decide) rfl (Nat.le_of_ble_eq_true rfl) dX8_init_24 (fun w6 h => ?_)
  obtain ⟨fs7, g7, i7, h⟩ := h
  refine j_putF X hNm (ci := 11) (C := RX8) (T := TX8) (N := 11) rfl jin_X8 tyX8 tyX8_ok nmX8 1 (by decide) g7 jw_303 rfl rfl rfl (by rfl) (by rfl) i7 dX8_init_27 ?_
  generalize jst w6 a0 _ = w7 at h ⊢
  refine j_aload_n X dX8_init_30 0 rfl ?_
  refine j_new X (C := RX7) (T := TX7) (N := 3) 10 [.null, .null, .null] rfl jin_X7 tyX7 tyX7_ok jw_185 jw_186 jw_28 (fun j hj => by rcases (show j = 0 ∨ j = 1 ∨ j = 2 by omega) with rfl | rfl | rfl <;> rfl) (by rw [hR]; exact ⟨by simp only []; omega, by simp only []; omega⟩) dX8_init_31 (fun q8 e8 => ?_)
  replace h := h q8 e8
  generalize w7 ++ [(q8, _)] = w8 at h ⊢
  refine j_dup X dX8_init_34 rfl ?_
  refine j_aload_n X dX8_init_35 0 rfl ?_
  obtain ⟨fs9, r9, g9, i9, h⟩ := h
  refine j_get X (ci := 11) (C := RX8) (T := TX8) (N := 11) rfl jin_X8 0 (by decide) g9 i9 jw_302 rfl dX8_init_36 ?_
  refine j_aload_n X dX8_init_39 0 rfl ?_
  obtain ⟨fs10, r10, g10, i10, h⟩ := h
  refine j_get X (ci := 11) (C := RX8) (T := TX8) (N := 11) rfl jin_X8 1 (by decide) g10 i10 jw_303 rfl dX8_init_40 ?_
  refine j_callI X [.ref r9, .ref r10] [.ref q8, .ref a0] (c_X7_init h) jmi_X7_init jw_187 rfl ⟨rfl, rfl⟩ (by rw [hR]; decide) rfl (Nat.le_of_ble_eq_true rfl) dX8_init_43 (fun w11 h => ?_)
  obtain ⟨fs12, g12, i12, h⟩ := h
  refine j_putF X hNm (ci := 11) (C := RX8) (T := TX8) (N := 11) rfl jin_X8 tyX8 tyX8_ok nmX8 2 (by decide) g12 jw_304 rfl rfl rfl (by rfl) (by rfl) i12 dX8_init_46 ?_
  generalize jst w11 a0 _ = w12 at h ⊢
  refine j_aload_n X dX8_init_49 0 rfl ?_
  refine j_new X (C := RX1) (T := TX1) (N := 3) 5 [.null, .int 0, .int 0] rfl jin_X1 tyX1 tyX1_ok jw_203 jw_204 jw_29 (fun j hj => by rcases (show j = 0 ∨ j = 1 ∨ j = 2 by omega) with rfl | rfl | rfl <;> rfl) (by rw [hR]; exact ⟨by simp only []; omega, by simp only []; omega⟩) dX8_init_50 (fun q13 e13 => ?_)
  replace h := h q13 e13
  generalize w12 ++ [(q13, _)] = w13 at h ⊢
  refine j_dup X dX8_init_53 rfl ?_
  refine j_callI X [] [.ref q13, .ref a0] (c_X1_init h) jmi_X1_init jw_205 rfl ⟨rfl, rfl⟩ (by rw [hR]; decide) rfl (Nat.le_of_ble_eq_true rfl) dX8_init_54 (fun w14 h => ?_)
  obtain ⟨fs15, g15, i15, h⟩ := h
  refine j_putF X hNm (ci := 11) (C := RX8) (T := TX8) (N := 11) rfl jin_X8 tyX8 tyX8_ok nmX8 3 (by decide) g15 jw_305 rfl rfl rfl (by rfl) (by rfl) i15 dX8_init_57 ?_
  generalize jst w14 a0 _ = w15 at h ⊢
  refine j_aload_n X dX8_init_60 0 rfl ?_
  refine j_new X (C := RX5) (T := TX5) (N := 12) 8 [.null, .null, .null, .null, .null, .null, .null, .null, .int 0, .int 0, .int 0, .int 0] rfl jin_X5 tyX5 tyX5_ok jw_62 jw_63 jw_23 (fun j hj => by rcases (show j = 0 ∨ j = 1 ∨ j = 2 ∨ j = 3 ∨ j = 4 ∨ j = 5 ∨ j = 6 ∨ j = 7 ∨ j = 8 ∨ j = 9 ∨ j = 10 ∨ j = 11 by omega) with rfl | rfl | rfl | rfl | rfl | rfl | rfl | rfl | rfl | rfl | rfl | rfl <;> rfl) (by rw [hR]; exact ⟨by simp only []; omega, by simp only []; omega⟩) dX8_init_61 (fun q16 e16 => ?_)
  replace h := h q16 e16
  generalize w15 ++ [(q16, _)] = w16 at h ⊢
  refine j_dup X dX8_init_64 rfl ?_
  refine j_callI X [] [.ref q16, .ref a0] (c_X5_init h) jmi_X5_init jw_64 rfl ⟨rfl, rfl⟩ (by rw [hR]; decide) rfl (Nat.le_of_ble_eq_true rfl) dX8_init_65 (fun w17 h => ?_)
  obtain ⟨fs18, g18, i18, h⟩ := h
  refine j_putF X hNm (ci := 11) (C := RX8) (T := TX8) (N := 11) rfl jin_X8 tyX8 tyX8_ok nmX8 4 (by decide) g18 jw_306 rfl rfl rfl (by rfl) (by rfl) i18 dX8_init_68 ?_
  generalize jst w17 a0 _ = w18 at h ⊢
  refine j_aload_n X dX8_init_71 0 rfl ?_
  refine j_new X (C := RX5) (T := TX5) (N := 12) 8 [.null, .null, .null, .null, .null, .null, .null, .null, .int 0, .int 0, .int 0, .int 0] rfl jin_X5 tyX5 tyX5_ok jw_62 jw_63 jw_23 (fun j hj => by rcases (show j = 0 ∨ j = 1 ∨ j = 2 ∨ j = 3 ∨ j = 4 ∨ j = 5 ∨ j = 6 ∨ j = 7 ∨ j = 8 ∨ j = 9 ∨ j = 10 ∨ j = 11 by omega) with rfl | rfl | rfl | rfl | rfl | rfl | rfl | rfl | rfl | rfl | rfl | rfl <;> rfl) (by rw [hR]; exact ⟨by simp only []; omega, by simp only []; omega⟩) dX8_init_72 (fun q19 e19 => ?_)
  replace h := h q19 e19
  generalize w18 ++ [(q19, _)] = w19 at h ⊢
  refine j_dup X dX8_init_75 rfl ?_
  refine j_callI X [] [.ref q19, .ref a0] (c_X5_init h) jmi_X5_init jw_64 rfl ⟨rfl, rfl⟩ (by rw [hR]; decide) rfl (Nat.le_of_ble_eq_true rfl) dX8_init_76 (fun w20 h => ?_)
  obtain ⟨fs21, g21, i21, h⟩ := h
  refine j_putF X hNm (ci := 11) (C := RX8) (T := TX8) (N := 11) rfl jin_X8 tyX8 tyX8_ok nmX8 6 (by decide) g21 jw_308 rfl rfl rfl (by rfl) (by rfl) i21 dX8_init_79 ?_
  generalize jst w20 a0 _ = w21 at h ⊢
  refine j_aload_n X dX8_init_82 0 rfl ?_
  refine j_new X (C := RX4) (T := TX4) (N := 9) 7 [.null, .null, .null, .null, .null, .null, .int 0, .int 0, .int 0] rfl jin_X4 tyX4 tyX4_ok jw_223 jw_224 jw_30 (fun j hj => by rcases (show j = 0 ∨ j = 1 ∨ j = 2 ∨ j = 3 ∨ j = 4 ∨ j = 5 ∨ j = 6 ∨ j = 7 ∨ j = 8 by omega) with rfl | rfl | rfl | rfl | rfl | rfl | rfl | rfl | rfl <;> rfl) (by rw [hR]; exact ⟨by simp only []; omega, by simp only []; omega⟩) dX8_init_83 (fun q22 e22 => ?_)
  replace h := h q22 e22
  generalize w21 ++ [(q22, _)] = w22 at h ⊢
  refine j_dup X dX8_init_86 rfl ?_
  refine j_callI X [] [.ref q22, .ref a0] (c_X4_init h) jmi_X4_init jw_225 rfl ⟨rfl, rfl⟩ (by rw [hR]; decide) rfl (Nat.le_of_ble_eq_true rfl) dX8_init_87 (fun w23 h => ?_)
  obtain ⟨fs24, g24, i24, h⟩ := h
  refine j_putF X hNm (ci := 11) (C := RX8) (T := TX8) (N := 11) rfl jin_X8 tyX8 tyX8_ok nmX8 7 (by decide) g24 jw_309 rfl rfl rfl (by rfl) (by rfl) i24 dX8_init_90 ?_
  generalize jst w23 a0 _ = w24 at h ⊢
  refine j_aload_n X dX8_init_93 0 rfl ?_
  refine j_new X (C := RJ4) (T := TJ4) (N := 4) 1 [.null, .int 0, .int 0, .int 0] rfl jin_J4 tyJ4 tyJ4_ok jw_300 jw_230 jw_32 (fun j hj => by rcases (show j = 0 ∨ j = 1 ∨ j = 2 ∨ j = 3 by omega) with rfl | rfl | rfl | rfl <;> rfl) (by rw [hR]; exact ⟨by simp only []; omega, by simp only []; omega⟩) dX8_init_94 (fun q25 e25 => ?_)
  replace h := h q25 e25
  generalize w24 ++ [(q25, _)] = w25 at h ⊢
  refine j_dup X dX8_init_97 rfl ?_
  refine j_callI X [] [.ref q25, .ref a0] (c_J4_init_da8c8 h) jmi_J4_init_da8c8 jw_301 rfl ⟨rfl, rfl⟩ (by rw [hR]; decide) rfl (Nat.le_of_ble_eq_true rfl) dX8_init_98 (fun w26 h => ?_)
  obtain ⟨fs27, g27, i27, h⟩ := h
  refine j_putF X hNm (ci := 11) (C := RX8) (T := TX8) (N := 11) rfl jin_X8 tyX8 tyX8_ok nmX8 8 (by decide) g27 jw_310 rfl rfl rfl (by rfl) (by rfl) i27 dX8_init_101 ?_
  generalize jst w26 a0 _ = w27 at h ⊢
  refine j_aload_n X dX8_init_104 0 rfl ?_
  refine j_iconst X (-1) dX8_init_105 (by decide) ?_
  obtain ⟨fs28, g28, i28, h⟩ := h
  refine j_put X (ci := 11) (C := RX8) (T := TX8) (N := 11) rfl jin_X8 tyX8 tyX8_ok nmX8 9 (by decide) g28 jw_311 rfl rfl (by rfl) (by rfl) i28 dX8_init_106 ?_
  generalize jst w27 a0 _ = w28 at h ⊢
  refine j_aload_n X dX8_init_109 0 rfl ?_
  refine j_iconst X (-1) dX8_init_110 (by decide) ?_
  obtain ⟨fs29, g29, i29, h⟩ := h
  refine j_put X (ci := 11) (C := RX8) (T := TX8) (N := 11) rfl jin_X8 tyX8 tyX8_ok nmX8 10 (by decide) g29 jw_312 rfl rfl (by rfl) (by rfl) i29 dX8_init_111 ?_
  generalize jst w28 a0 _ = w29 at h ⊢
  exact Rt.v dX8_init_114 ⟨rfl, h⟩ (by first | decide | omega) (by first | decide | omega)
def w_X8_init (κ : Nat → Nat) (w : va_W) (a0 : Nat) (P : va_W → Prop) : Prop := w_X8_init_b0 κ w a0 P
theorem c_X8_init {E : jE} {w : va_W} {a0 : Nat} {P : va_W → Prop} (h : w_X8_init E.2.2.2 w a0 P) : jC E yX8_init cX8_init 1 none ({ frames := 5, cells := 347, slots := 15532, locals := 107 } : Room) [.ref a0] w 347 15532 (jPv P) := by
  refine jC_ofN (by decide) (Nat.le_of_ble_eq_true rfl) ?_
  intro Γ hNm X hE hR Rt
  subst hE
  exact k_X8_init_b0 hNm X hR Rt h
theorem jm_X8_throwFor : jMs yX8_throwFor cX8_throwFor 1 none 1 := ⟨jw_397, jw_22, jw_398, ⟨by decide +kernel, by decide +kernel⟩, by decide +kernel⟩
def w_X8_throwFor_b0 (κ : Nat → Nat) (w : va_W) (a0 : Nat) (P : va_W → Prop) (E : String → va_W → Prop) : Prop :=
    (if a0 = (κ 3) then E "java/lang/IndexOutOfBoundsException" w else (if a0 = (κ 4) then E "java/util/NoSuchElementException" w else (if a0 = (κ 5) then E "java/lang/IllegalArgumentException" w else (if a0 = (κ 6) then E "java/lang/IllegalStateException" w else (if a0 = (κ 7) then E "java/lang/UnsupportedOperationException" w else P w)))))
set_option maxRecDepth 100000 in
set_option maxHeartbeats 4000000 in
theorem k_X8_throwFor_b0 {Γ : jG} (X : jX Γ cX8_throwFor 1 RX8) (hR : jgR Γ = ({ frames := 6, cells := 1, slots := 6, locals := 90 } : Room)) {P : va_W → Prop} {E : String → va_W → Prop} (Rt : jRt Γ cX8_throwFor 1 1 6 none (jPv P)) (Out : jOut Γ 1 1 6 E) (Th : jTh Γ cX8_throwFor 1 RX8 1 6 E) (ThW : jThW Γ cX8_throwFor 1 RX8 1 6 E) {w : va_W} {a0 : Nat} (h : w_X8_throwFor_b0 (jgE Γ).2.2.2 w a0 P E) : J Γ 1 w 0 0 0 [(0, .ref a0)] [] := by
  unfold w_X8_throwFor_b0 at h
  refine j_aload_n X dX8_throwFor_0 0 rfl ?_
  refine j_getsE X 1 (by decide) rfl jw_399 dX8_throwFor_1 ?_
  refine j_acmp_ne X 18 dX8_throwFor_4 (by decide) (fun c => ?_) (fun c => ?_)
  · replace h := jif_f c h
    refine j_aload_n X dX8_throwFor_18 0 rfl ?_
    refine j_getsE X 2 (by decide) rfl jw_472 dX8_throwFor_19 ?_
    refine j_acmp_ne X 36 dX8_throwFor_22 (by decide) (fun c => ?_) (fun c => ?_)
    · replace h := jif_f c h
      refine j_aload_n X dX8_throwFor_36 0 rfl ?_
      refine j_getsE X 3 (by decide) rfl jw_490 dX8_throwFor_37 ?_
      refine j_acmp_ne X 54 dX8_throwFor_40 (by decide) (fun c => ?_) (fun c => ?_)
      · replace h := jif_f c h
        refine j_aload_n X dX8_throwFor_54 0 rfl ?_
        refine j_getsE X 4 (by decide) rfl jw_508 dX8_throwFor_55 ?_
        refine j_acmp_ne X 72 dX8_throwFor_58 (by decide) (fun c => ?_) (fun c => ?_)
        · replace h := jif_f c h
          refine j_aload_n X dX8_throwFor_72 0 rfl ?_
          refine j_getsE X 5 (by decide) rfl jw_525 dX8_throwFor_73 ?_
          refine j_acmp_ne X 90 dX8_throwFor_76 (by decide) (fun c => ?_) (fun c => ?_)
          · replace h := jif_f c h
            exact Rt.v dX8_throwFor_90 ⟨rfl, h⟩ (by first | decide | omega) (by first | decide | omega)
          · replace h := jif_t c h
            exact ThW _ _ _ 79 _ _ 416 418 420 31 7 jrx7 "java/lang/UnsupportedOperationException" "the followed branch is not valid" "java/lang/RuntimeException" ["java/lang/Exception"] (by decide +kernel) (by decide +kernel) (by decide +kernel) (by decide +kernel) dX8_throwFor_79 dX8_throwFor_82 dX8_throwFor_83 dX8_throwFor_86 dX8_throwFor_89 (List.mem_of_getElem? (i := 31) rfl) (by decide +kernel) (by decide +kernel) (by decide +kernel) jw_527 jw_44 jat_420 (by rw [hR]; exact ⟨by decide, Nat.le_of_ble_eq_true rfl, by decide, by decide⟩) (by decide) (by decide) h
        · replace h := jif_t c h
          exact ThW _ _ _ 61 _ _ 308 411 312 30 7 jrx7 "java/lang/IllegalStateException" "there is no room for more, or nothing to repair" "java/lang/RuntimeException" ["java/lang/Exception"] (by decide +kernel) (by decide +kernel) (by decide +kernel) (by decide +kernel) dX8_throwFor_61 dX8_throwFor_64 dX8_throwFor_65 dX8_throwFor_68 dX8_throwFor_71 (List.mem_of_getElem? (i := 30) rfl) (by decide +kernel) (by decide +kernel) (by decide +kernel) jw_509 jw_43 jat_312 (by rw [hR]; exact ⟨by decide, Nat.le_of_ble_eq_true rfl, by decide, by decide⟩) (by decide) (by decide) h
      · replace h := jif_t c h
        exact ThW _ _ _ 43 _ _ 234 406 238 29 7 jrx7 "java/lang/IllegalArgumentException" "the flake is out of range, or the block is the root" "java/lang/RuntimeException" ["java/lang/Exception"] (by decide +kernel) (by decide +kernel) (by decide +kernel) (by decide +kernel) dX8_throwFor_43 dX8_throwFor_46 dX8_throwFor_47 dX8_throwFor_50 dX8_throwFor_53 (List.mem_of_getElem? (i := 29) rfl) (by decide +kernel) (by decide +kernel) (by decide +kernel) jw_492 jw_42 jat_238 (by rw [hR]; exact ⟨by decide, Nat.le_of_ble_eq_true rfl, by decide, by decide⟩) (by decide) (by decide) h
    · replace h := jif_t c h
      exact ThW _ _ _ 25 _ _ 200 401 204 28 13 jrx13 "java/util/NoSuchElementException" "there is no such block in the tree" "java/lang/RuntimeException" ["java/lang/Exception"] (by decide +kernel) (by decide +kernel) (by decide +kernel) (by decide +kernel) dX8_throwFor_25 dX8_throwFor_28 dX8_throwFor_29 dX8_throwFor_32 dX8_throwFor_35 (List.mem_of_getElem? (i := 28) rfl) (by decide +kernel) (by decide +kernel) (by decide +kernel) jw_474 jw_41 jat_204 (by rw [hR]; exact ⟨by decide, Nat.le_of_ble_eq_true rfl, by decide, by decide⟩) (by decide) (by decide) h
  · replace h := jif_t c h
    exact ThW _ _ _ 7 _ _ 165 396 169 27 7 jrx7 "java/lang/IndexOutOfBoundsException" "there is no such hill or position" "java/lang/RuntimeException" ["java/lang/Exception"] (by decide +kernel) (by decide +kernel) (by decide +kernel) (by decide +kernel) dX8_throwFor_7 dX8_throwFor_10 dX8_throwFor_11 dX8_throwFor_14 dX8_throwFor_17 (List.mem_of_getElem? (i := 27) rfl) (by decide +kernel) (by decide +kernel) (by decide +kernel) jw_401 jw_40 jat_169 (by rw [hR]; exact ⟨by decide, Nat.le_of_ble_eq_true rfl, by decide, by decide⟩) (by decide) (by decide) h
def w_X8_throwFor (κ : Nat → Nat) (w : va_W) (a0 : Nat) (P : va_W → Prop) (E : String → va_W → Prop) : Prop := w_X8_throwFor_b0 κ w a0 P E
theorem c_X8_throwFor {E9 : jE} {w : va_W} {a0 : Nat} {P : va_W → Prop} {E : String → va_W → Prop} (h : w_X8_throwFor E9.2.2.2 w a0 P E) : jCx E9 yX8_throwFor cX8_throwFor 1 none ({ frames := 6, cells := 1, slots := 6, locals := 90 } : Room) [.ref a0] w 1 6 (jPv P) E := by
  refine jCx_of (by decide) (Nat.le_of_ble_eq_true rfl) ?_
  intro Γ X hE hR Rt Out Th ThW
  subst hE
  exact k_X8_throwFor_b0 X hR Rt Out Th ThW h
theorem jm_X8_admit : jMv yX8_admit cX8_admit 2 none 1 := ⟨jw_394, jw_0, jw_22, jw_395, ⟨by decide +kernel, by decide +kernel⟩, by decide +kernel⟩
def w_X8_admit_b0 (κ : Nat → Nat) (w : va_W) (a0 : Nat) (a1 : Nat) (P : va_W → Prop) (E : String → va_W → Prop) : Prop :=
    w_X8_throwFor κ w a1 (fun w1 => jgR' w1 a0 11 3 (fun r2 => jgR' w1 a0 11 0 (fun r3 => (jRc w1 r2 5 ∧ w_X1_keep κ w1 r2 r3 (fun w4 => P w4))))) E
set_option maxRecDepth 100000 in
set_option maxHeartbeats 4000000 in
theorem k_X8_admit_b0 {Γ : jG} (X : jX Γ cX8_admit 2 RX8) (hR : jgR Γ = ({ frames := 7, cells := 1, slots := 6, locals := 192 } : Room)) {P : va_W → Prop} {E : String → va_W → Prop} (Rt : jRt Γ cX8_admit 2 1 6 none (jPv P)) (Out : jOut Γ 2 1 6 E) (Th : jTh Γ cX8_admit 2 RX8 1 6 E) (ThW : jThW Γ cX8_admit 2 RX8 1 6 E) {w : va_W} {a0 : Nat} {a1 : Nat} (h : w_X8_admit_b0 (jgE Γ).2.2.2 w a0 a1 P E) : J Γ 2 w 0 0 0 [(0, .ref a0), (1, .ref a1)] [] := by
  unfold w_X8_admit_b0 at h
  refine j_aload_n X dX8_admit_0 1 rfl ?_
  refine j_callSxv X [.ref a1] [] (c_X8_throwFor h) jm_X8_throwFor jw_396 rfl ⟨rfl, rfl⟩ (by rw [hR]; decide) rfl (Nat.le_of_ble_eq_true rfl) dX8_admit_1 (fun w1 h => ?_) (fun Cx _ h => Out _ _ _ _ _ Cx (by decide) (by decide) h)
  refine j_aload_n X dX8_admit_4 0 rfl ?_
  obtain ⟨fs2, r2, g2, i2, h⟩ := h
  refine j_get X (ci := 11) (C := RX8) (T := TX8) (N := 11) rfl jin_X8 3 (by decide) g2 i2 jw_305 rfl dX8_admit_5 ?_
  refine j_aload_n X dX8_admit_8 0 rfl ?_
  obtain ⟨fs3, r3, g3, i3, h⟩ := h
  refine j_get X (ci := 11) (C := RX8) (T := TX8) (N := 11) rfl jin_X8 0 (by decide) g3 i3 jw_302 rfl dX8_admit_9 ?_
  obtain ⟨⟨fs4, g4⟩, h⟩ := h
  refine j_callVv X [.ref r3] [] (c_X1_keep h) (T := TX1) (N := 3) g4 rfl jm_X1_keep jw_543 rfl ⟨rfl, rfl⟩ (by rw [hR]; decide) rfl (Nat.le_of_ble_eq_true rfl) dX8_admit_12 (fun w4 h => ?_)
  exact Rt.v dX8_admit_15 ⟨rfl, h⟩ (by first | decide | omega) (by first | decide | omega)
def w_X8_admit (κ : Nat → Nat) (w : va_W) (a0 : Nat) (a1 : Nat) (P : va_W → Prop) (E : String → va_W → Prop) : Prop := w_X8_admit_b0 κ w a0 a1 P E
theorem c_X8_admit {E9 : jE} {w : va_W} {a0 : Nat} {a1 : Nat} {P : va_W → Prop} {E : String → va_W → Prop} (h : w_X8_admit E9.2.2.2 w a0 a1 P E) : jCx E9 yX8_admit cX8_admit 2 none ({ frames := 7, cells := 1, slots := 6, locals := 192 } : Room) [.ref a0, .ref a1] w 1 6 (jPv P) E := by
  refine jCx_of (by decide) (Nat.le_of_ble_eq_true rfl) ?_
  intro Γ X hE hR Rt Out Th ThW
  subst hE
  exact k_X8_admit_b0 X hR Rt Out Th ThW h
theorem jm_X8_addHill : jMv yX8_addHill cX8_addHill 1 (some .int) 0 := ⟨jw_381, jw_382, jw_22, jw_383, ⟨by decide +kernel, by decide +kernel⟩, by decide +kernel⟩
def w_X8_addHill_b0 (κ : Nat → Nat) (w : va_W) (a0 : Nat) (P : Int32 → va_W → Prop) (E : String → va_W → Prop) : Prop :=
    jgR' w a0 11 2 (fun r1 => (jRc w r1 10 ∧ w_X7_refusalToRaiseHill κ w r1 (fun r2 w2 => (jRc w2 a0 11 ∧ w_X8_admit κ w2 a0 r2 (fun w3 => jgR' w3 a0 11 2 (fun r4 => (jRc w3 r4 10 ∧ w_X7_raiseHill κ w3 r4 (fun v5 w5 => P v5 w5)))) E))))
set_option maxRecDepth 100000 in
set_option maxHeartbeats 4000000 in
theorem k_X8_addHill_b0 {Γ : jG} (X : jX Γ cX8_addHill 1 RX8) (hR : jgR Γ = ({ frames := 8, cells := 1, slots := 6, locals := 213 } : Room)) {P : Int32 → va_W → Prop} {E : String → va_W → Prop} (Rt : jRt Γ cX8_addHill 1 1 6 (some .int) (jPi P)) (Out : jOut Γ 1 1 6 E) (Th : jTh Γ cX8_addHill 1 RX8 1 6 E) (ThW : jThW Γ cX8_addHill 1 RX8 1 6 E) {w : va_W} {a0 : Nat} (h : w_X8_addHill_b0 (jgE Γ).2.2.2 w a0 P E) : J Γ 1 w 0 0 0 [(0, .ref a0)] [] := by
  unfold w_X8_addHill_b0 at h
  refine j_aload_n X dX8_addHill_0 0 rfl ?_
  refine j_aload_n X dX8_addHill_1 0 rfl ?_
  obtain ⟨fs1, r1, g1, i1, h⟩ := h
  refine j_get X (ci := 11) (C := RX8) (T := TX8) (N := 11) rfl jin_X8 2 (by decide) g1 i1 jw_304 rfl dX8_addHill_2 ?_
  obtain ⟨⟨fs2, g2⟩, h⟩ := h
  refine j_callVr X [] [.ref a0] (c_X7_refusalToRaiseHill h) (T := TX7) (N := 3) g2 rfl jm_X7_refusalToRaiseHill jw_384 rfl ⟨rfl, rfl⟩ (by rw [hR]; decide) rfl (Nat.le_of_ble_eq_true rfl) dX8_addHill_5 (fun r2 w2 h => ?_)
  obtain ⟨⟨fs3, g3⟩, h⟩ := h
  refine j_callVxv X [.ref r2] [] (c_X8_admit h) (T := TX8) (N := 11) g3 rfl jm_X8_admit jw_392 rfl ⟨rfl, rfl⟩ (by rw [hR]; decide) rfl (Nat.le_of_ble_eq_true rfl) dX8_addHill_8 (fun w3 h => ?_) (fun Cx _ h => Out _ _ _ _ _ Cx (by decide) (by decide) h)
  refine j_aload_n X dX8_addHill_11 0 rfl ?_
  obtain ⟨fs4, r4, g4, i4, h⟩ := h
  refine j_get X (ci := 11) (C := RX8) (T := TX8) (N := 11) rfl jin_X8 2 (by decide) g4 i4 jw_304 rfl dX8_addHill_12 ?_
  obtain ⟨⟨fs5, g5⟩, h⟩ := h
  refine j_callVi X [] [] (c_X7_raiseHill h) (T := TX7) (N := 3) g5 rfl jm_X7_raiseHill jw_549 rfl ⟨rfl, rfl⟩ (by rw [hR]; decide) rfl (Nat.le_of_ble_eq_true rfl) dX8_addHill_15 (fun v5 w5 h => ?_)
  exact Rt.i dX8_addHill_18 ⟨_, rfl, h⟩ (by first | decide | omega) (by first | decide | omega)
def w_X8_addHill (κ : Nat → Nat) (w : va_W) (a0 : Nat) (P : Int32 → va_W → Prop) (E : String → va_W → Prop) : Prop := w_X8_addHill_b0 κ w a0 P E
theorem c_X8_addHill {E9 : jE} {w : va_W} {a0 : Nat} {P : Int32 → va_W → Prop} {E : String → va_W → Prop} (h : w_X8_addHill E9.2.2.2 w a0 P E) : jCx E9 yX8_addHill cX8_addHill 1 (some .int) ({ frames := 8, cells := 1, slots := 6, locals := 213 } : Room) [.ref a0] w 1 6 (jPi P) E := by
  refine jCx_of (by decide) (Nat.le_of_ble_eq_true rfl) ?_
  intro Γ X hE hR Rt Out Th ThW
  subst hE
  exact k_X8_addHill_b0 X hR Rt Out Th ThW h
theorem jm_X8_collect : jMv yX8_collect cX8_collect 3 (some .int) 2 := ⟨jw_565, jw_566, jw_22, jw_567, ⟨by decide +kernel, by decide +kernel⟩, by decide +kernel⟩
def w_X8_collect_b0 (κ : Nat → Nat) (w : va_W) (a0 : Nat) (x1 : Int32) (x2 : Int32) (P : Int32 → va_W → Prop) (E : String → va_W → Prop) : Prop :=
    jgR' w a0 11 2 (fun r1 => (jRc w r1 10 ∧ w_X7_refusalToHold κ w r1 x1 x2 (fun r2 w2 => (jRc w2 a0 11 ∧ w_X8_admit κ w2 a0 r2 (fun w3 => jgR' w3 a0 11 2 (fun r4 => (jRc w3 r4 10 ∧ w_X7_hold κ w3 r4 x1 x2 (fun v5 w5 => P v5 w5)))) E))))
set_option maxRecDepth 100000 in
set_option maxHeartbeats 4000000 in
theorem k_X8_collect_b0 {Γ : jG} (X : jX Γ cX8_collect 3 RX8) (hR : jgR Γ = ({ frames := 8, cells := 1, slots := 6, locals := 213 } : Room)) {P : Int32 → va_W → Prop} {E : String → va_W → Prop} (Rt : jRt Γ cX8_collect 3 1 6 (some .int) (jPi P)) (Out : jOut Γ 3 1 6 E) (Th : jTh Γ cX8_collect 3 RX8 1 6 E) (ThW : jThW Γ cX8_collect 3 RX8 1 6 E) {w : va_W} {a0 : Nat} {x1 : Int32} {x2 : Int32} (h : w_X8_collect_b0 (jgE Γ).2.2.2 w a0 x1 x2 P E) : J Γ 3 w 0 0 0 [(0, .ref a0), (1, .int x1), (2, .int x2)] [] := by
  unfold w_X8_collect_b0 at h
  refine j_aload_n X dX8_collect_0 0 rfl ?_
  refine j_aload_n X dX8_collect_1 0 rfl ?_
  obtain ⟨fs1, r1, g1, i1, h⟩ := h
  refine j_get X (ci := 11) (C := RX8) (T := TX8) (N := 11) rfl jin_X8 2 (by decide) g1 i1 jw_304 rfl dX8_collect_2 ?_
  refine j_iload_n X dX8_collect_5 1 rfl ?_
  refine j_iload_n X dX8_collect_6 2 rfl ?_
  obtain ⟨⟨fs2, g2⟩, h⟩ := h
  refine j_callVr X [.int x1, .int x2] [.ref a0] (c_X7_refusalToHold h) (T := TX7) (N := 3) g2 rfl jm_X7_refusalToHold jw_568 rfl ⟨rfl, rfl⟩ (by rw [hR]; decide) rfl (Nat.le_of_ble_eq_true rfl) dX8_collect_7 (fun r2 w2 h => ?_)
  obtain ⟨⟨fs3, g3⟩, h⟩ := h
  refine j_callVxv X [.ref r2] [] (c_X8_admit h) (T := TX8) (N := 11) g3 rfl jm_X8_admit jw_392 rfl ⟨rfl, rfl⟩ (by rw [hR]; decide) rfl (Nat.le_of_ble_eq_true rfl) dX8_collect_10 (fun w3 h => ?_) (fun Cx _ h => Out _ _ _ _ _ Cx (by decide) (by decide) h)
  refine j_aload_n X dX8_collect_13 0 rfl ?_
  obtain ⟨fs4, r4, g4, i4, h⟩ := h
  refine j_get X (ci := 11) (C := RX8) (T := TX8) (N := 11) rfl jin_X8 2 (by decide) g4 i4 jw_304 rfl dX8_collect_14 ?_
  refine j_iload_n X dX8_collect_17 1 rfl ?_
  refine j_iload_n X dX8_collect_18 2 rfl ?_
  obtain ⟨⟨fs5, g5⟩, h⟩ := h
  refine j_callVi X [.int x1, .int x2] [] (c_X7_hold h) (T := TX7) (N := 3) g5 rfl jm_X7_hold jw_586 rfl ⟨rfl, rfl⟩ (by rw [hR]; decide) rfl (Nat.le_of_ble_eq_true rfl) dX8_collect_19 (fun v5 w5 h => ?_)
  exact Rt.i dX8_collect_22 ⟨_, rfl, h⟩ (by first | decide | omega) (by first | decide | omega)
def w_X8_collect (κ : Nat → Nat) (w : va_W) (a0 : Nat) (x1 : Int32) (x2 : Int32) (P : Int32 → va_W → Prop) (E : String → va_W → Prop) : Prop := w_X8_collect_b0 κ w a0 x1 x2 P E
theorem c_X8_collect {E9 : jE} {w : va_W} {a0 : Nat} {x1 : Int32} {x2 : Int32} {P : Int32 → va_W → Prop} {E : String → va_W → Prop} (h : w_X8_collect E9.2.2.2 w a0 x1 x2 P E) : jCx E9 yX8_collect cX8_collect 3 (some .int) ({ frames := 8, cells := 1, slots := 6, locals := 213 } : Room) [.ref a0, .int x1, .int x2] w 1 6 (jPi P) E := by
  refine jCx_of (by decide) (Nat.le_of_ble_eq_true rfl) ?_
  intro Γ X hE hR Rt Out Th ThW
  subst hE
  exact k_X8_collect_b0 X hR Rt Out Th ThW h
theorem jm_X8_write : jMv yX8_write cX8_write 2 (some .int) 1 := ⟨jw_599, jw_600, jw_22, jw_601, ⟨by decide +kernel, by decide +kernel⟩, by decide +kernel⟩
def w_X8_write_b0 (κ : Nat → Nat) (w : va_W) (a0 : Nat) (x1 : Int32) (P : Int32 → va_W → Prop) (E : String → va_W → Prop) : Prop :=
    jgR' w a0 11 2 (fun r1 => (jRc w r1 10 ∧ w_X7_refusalToAppend κ w r1 x1 (fun r2 w2 => (jRc w2 a0 11 ∧ w_X8_admit κ w2 a0 r2 (fun w3 => jgR' w3 a0 11 2 (fun r4 => (jRc w3 r4 10 ∧ w_X7_append κ w3 r4 x1 (fun v5 w5 => P v5 w5)))) E))))
set_option maxRecDepth 100000 in
set_option maxHeartbeats 4000000 in
theorem k_X8_write_b0 {Γ : jG} (X : jX Γ cX8_write 2 RX8) (hR : jgR Γ = ({ frames := 8, cells := 1, slots := 6, locals := 213 } : Room)) {P : Int32 → va_W → Prop} {E : String → va_W → Prop} (Rt : jRt Γ cX8_write 2 1 6 (some .int) (jPi P)) (Out : jOut Γ 2 1 6 E) (Th : jTh Γ cX8_write 2 RX8 1 6 E) (ThW : jThW Γ cX8_write 2 RX8 1 6 E) {w : va_W} {a0 : Nat} {x1 : Int32} (h : w_X8_write_b0 (jgE Γ).2.2.2 w a0 x1 P E) : J Γ 2 w 0 0 0 [(0, .ref a0), (1, .int x1)] [] := by
  unfold w_X8_write_b0 at h
  refine j_aload_n X dX8_write_0 0 rfl ?_
  refine j_aload_n X dX8_write_1 0 rfl ?_
  obtain ⟨fs1, r1, g1, i1, h⟩ := h
  refine j_get X (ci := 11) (C := RX8) (T := TX8) (N := 11) rfl jin_X8 2 (by decide) g1 i1 jw_304 rfl dX8_write_2 ?_
  refine j_iload_n X dX8_write_5 1 rfl ?_
  obtain ⟨⟨fs2, g2⟩, h⟩ := h
  refine j_callVr X [.int x1] [.ref a0] (c_X7_refusalToAppend h) (T := TX7) (N := 3) g2 rfl jm_X7_refusalToAppend jw_602 rfl ⟨rfl, rfl⟩ (by rw [hR]; decide) rfl (Nat.le_of_ble_eq_true rfl) dX8_write_6 (fun r2 w2 h => ?_)
  obtain ⟨⟨fs3, g3⟩, h⟩ := h
  refine j_callVxv X [.ref r2] [] (c_X8_admit h) (T := TX8) (N := 11) g3 rfl jm_X8_admit jw_392 rfl ⟨rfl, rfl⟩ (by rw [hR]; decide) rfl (Nat.le_of_ble_eq_true rfl) dX8_write_9 (fun w3 h => ?_) (fun Cx _ h => Out _ _ _ _ _ Cx (by decide) (by decide) h)
  refine j_aload_n X dX8_write_12 0 rfl ?_
  obtain ⟨fs4, r4, g4, i4, h⟩ := h
  refine j_get X (ci := 11) (C := RX8) (T := TX8) (N := 11) rfl jin_X8 2 (by decide) g4 i4 jw_304 rfl dX8_write_13 ?_
  refine j_iload_n X dX8_write_16 1 rfl ?_
  obtain ⟨⟨fs5, g5⟩, h⟩ := h
  refine j_callVi X [.int x1] [] (c_X7_append h) (T := TX7) (N := 3) g5 rfl jm_X7_append jw_632 rfl ⟨rfl, rfl⟩ (by rw [hR]; decide) rfl (Nat.le_of_ble_eq_true rfl) dX8_write_17 (fun v5 w5 h => ?_)
  exact Rt.i dX8_write_20 ⟨_, rfl, h⟩ (by first | decide | omega) (by first | decide | omega)
def w_X8_write (κ : Nat → Nat) (w : va_W) (a0 : Nat) (x1 : Int32) (P : Int32 → va_W → Prop) (E : String → va_W → Prop) : Prop := w_X8_write_b0 κ w a0 x1 P E
theorem c_X8_write {E9 : jE} {w : va_W} {a0 : Nat} {x1 : Int32} {P : Int32 → va_W → Prop} {E : String → va_W → Prop} (h : w_X8_write E9.2.2.2 w a0 x1 P E) : jCx E9 yX8_write cX8_write 2 (some .int) ({ frames := 8, cells := 1, slots := 6, locals := 213 } : Room) [.ref a0, .int x1] w 1 6 (jPi P) E := by
  refine jCx_of (by decide) (Nat.le_of_ble_eq_true rfl) ?_
  intro Γ X hE hR Rt Out Th ThW
  subst hE
  exact k_X8_write_b0 X hR Rt Out Th ThW h
theorem jm_X8_follow : jMv yX8_follow cX8_follow 3 (some .int) 2 := ⟨jw_655, jw_656, jw_22, jw_657, ⟨by decide +kernel, by decide +kernel⟩, by decide +kernel⟩
def w_X8_follow_b0 (κ : Nat → Nat) (w : va_W) (a0 : Nat) (x1 : Int32) (x2 : Int32) (P : Int32 → va_W → Prop) (E : String → va_W → Prop) : Prop :=
    jgR' w a0 11 2 (fun r1 => (jRc w r1 10 ∧ w_X7_refusalToTurn κ w r1 x1 x2 (fun r2 w2 => (jRc w2 a0 11 ∧ w_X8_admit κ w2 a0 r2 (fun w3 => jgR' w3 a0 11 2 (fun r4 => (jRc w3 r4 10 ∧ w_X7_turn κ w3 r4 x1 x2 (fun v5 w5 => P v5 w5)))) E))))
set_option maxRecDepth 100000 in
set_option maxHeartbeats 4000000 in
theorem k_X8_follow_b0 {Γ : jG} (X : jX Γ cX8_follow 3 RX8) (hR : jgR Γ = ({ frames := 8, cells := 1, slots := 6, locals := 213 } : Room)) {P : Int32 → va_W → Prop} {E : String → va_W → Prop} (Rt : jRt Γ cX8_follow 3 1 6 (some .int) (jPi P)) (Out : jOut Γ 3 1 6 E) (Th : jTh Γ cX8_follow 3 RX8 1 6 E) (ThW : jThW Γ cX8_follow 3 RX8 1 6 E) {w : va_W} {a0 : Nat} {x1 : Int32} {x2 : Int32} (h : w_X8_follow_b0 (jgE Γ).2.2.2 w a0 x1 x2 P E) : J Γ 3 w 0 0 0 [(0, .ref a0), (1, .int x1), (2, .int x2)] [] := by
  unfold w_X8_follow_b0 at h
  refine j_aload_n X dX8_follow_0 0 rfl ?_
  refine j_aload_n X dX8_follow_1 0 rfl ?_
  obtain ⟨fs1, r1, g1, i1, h⟩ := h
  refine j_get X (ci := 11) (C := RX8) (T := TX8) (N := 11) rfl jin_X8 2 (by decide) g1 i1 jw_304 rfl dX8_follow_2 ?_
  refine j_iload_n X dX8_follow_5 1 rfl ?_
  refine j_iload_n X dX8_follow_6 2 rfl ?_
  obtain ⟨⟨fs2, g2⟩, h⟩ := h
  refine j_callVr X [.int x1, .int x2] [.ref a0] (c_X7_refusalToTurn h) (T := TX7) (N := 3) g2 rfl jm_X7_refusalToTurn jw_658 rfl ⟨rfl, rfl⟩ (by rw [hR]; decide) rfl (Nat.le_of_ble_eq_true rfl) dX8_follow_7 (fun r2 w2 h => ?_)
  obtain ⟨⟨fs3, g3⟩, h⟩ := h
  refine j_callVxv X [.ref r2] [] (c_X8_admit h) (T := TX8) (N := 11) g3 rfl jm_X8_admit jw_392 rfl ⟨rfl, rfl⟩ (by rw [hR]; decide) rfl (Nat.le_of_ble_eq_true rfl) dX8_follow_10 (fun w3 h => ?_) (fun Cx _ h => Out _ _ _ _ _ Cx (by decide) (by decide) h)
  refine j_aload_n X dX8_follow_13 0 rfl ?_
  obtain ⟨fs4, r4, g4, i4, h⟩ := h
  refine j_get X (ci := 11) (C := RX8) (T := TX8) (N := 11) rfl jin_X8 2 (by decide) g4 i4 jw_304 rfl dX8_follow_14 ?_
  refine j_iload_n X dX8_follow_17 1 rfl ?_
  refine j_iload_n X dX8_follow_18 2 rfl ?_
  obtain ⟨⟨fs5, g5⟩, h⟩ := h
  refine j_callVi X [.int x1, .int x2] [] (c_X7_turn h) (T := TX7) (N := 3) g5 rfl jm_X7_turn jw_667 rfl ⟨rfl, rfl⟩ (by rw [hR]; decide) rfl (Nat.le_of_ble_eq_true rfl) dX8_follow_19 (fun v5 w5 h => ?_)
  exact Rt.i dX8_follow_22 ⟨_, rfl, h⟩ (by first | decide | omega) (by first | decide | omega)
def w_X8_follow (κ : Nat → Nat) (w : va_W) (a0 : Nat) (x1 : Int32) (x2 : Int32) (P : Int32 → va_W → Prop) (E : String → va_W → Prop) : Prop := w_X8_follow_b0 κ w a0 x1 x2 P E
theorem c_X8_follow {E9 : jE} {w : va_W} {a0 : Nat} {x1 : Int32} {x2 : Int32} {P : Int32 → va_W → Prop} {E : String → va_W → Prop} (h : w_X8_follow E9.2.2.2 w a0 x1 x2 P E) : jCx E9 yX8_follow cX8_follow 3 (some .int) ({ frames := 8, cells := 1, slots := 6, locals := 213 } : Room) [.ref a0, .int x1, .int x2] w 1 6 (jPi P) E := by
  refine jCx_of (by decide) (Nat.le_of_ble_eq_true rfl) ?_
  intro Γ X hE hR Rt Out Th ThW
  subst hE
  exact k_X8_follow_b0 X hR Rt Out Th ThW h
theorem jm_X8_melt : jMv yX8_melt cX8_melt 2 (some .int) 1 := ⟨jw_1205, jw_1206, jw_22, jw_1207, ⟨by decide +kernel, by decide +kernel⟩, by decide +kernel⟩
def w_X8_melt_b0 (κ : Nat → Nat) (w : va_W) (a0 : Nat) (x1 : Int32) (P : Int32 → va_W → Prop) (E : String → va_W → Prop) : Prop :=
    jgR' w a0 11 2 (fun r1 => (jRc w r1 10 ∧ w_X7_refusalToRemove κ w r1 x1 (fun r2 w2 => (jRc w2 a0 11 ∧ w_X8_admit κ w2 a0 r2 (fun w3 => jgR' w3 a0 11 2 (fun r4 => (jRc w3 r4 10 ∧ w_X7_remove κ w3 r4 x1 (fun v5 w5 => P v5 w5)))) E))))
set_option maxRecDepth 100000 in
set_option maxHeartbeats 4000000 in
theorem k_X8_melt_b0 {Γ : jG} (X : jX Γ cX8_melt 2 RX8) (hR : jgR Γ = ({ frames := 8, cells := 1, slots := 6, locals := 213 } : Room)) {P : Int32 → va_W → Prop} {E : String → va_W → Prop} (Rt : jRt Γ cX8_melt 2 1 6 (some .int) (jPi P)) (Out : jOut Γ 2 1 6 E) (Th : jTh Γ cX8_melt 2 RX8 1 6 E) (ThW : jThW Γ cX8_melt 2 RX8 1 6 E) {w : va_W} {a0 : Nat} {x1 : Int32} (h : w_X8_melt_b0 (jgE Γ).2.2.2 w a0 x1 P E) : J Γ 2 w 0 0 0 [(0, .ref a0), (1, .int x1)] [] := by
  unfold w_X8_melt_b0 at h
  refine j_aload_n X dX8_melt_0 0 rfl ?_
  refine j_aload_n X dX8_melt_1 0 rfl ?_
  obtain ⟨fs1, r1, g1, i1, h⟩ := h
  refine j_get X (ci := 11) (C := RX8) (T := TX8) (N := 11) rfl jin_X8 2 (by decide) g1 i1 jw_304 rfl dX8_melt_2 ?_
  refine j_iload_n X dX8_melt_5 1 rfl ?_
  obtain ⟨⟨fs2, g2⟩, h⟩ := h
  refine j_callVr X [.int x1] [.ref a0] (c_X7_refusalToRemove h) (T := TX7) (N := 3) g2 rfl jm_X7_refusalToRemove jw_1208 rfl ⟨rfl, rfl⟩ (by rw [hR]; decide) rfl (Nat.le_of_ble_eq_true rfl) dX8_melt_6 (fun r2 w2 h => ?_)
  obtain ⟨⟨fs3, g3⟩, h⟩ := h
  refine j_callVxv X [.ref r2] [] (c_X8_admit h) (T := TX8) (N := 11) g3 rfl jm_X8_admit jw_392 rfl ⟨rfl, rfl⟩ (by rw [hR]; decide) rfl (Nat.le_of_ble_eq_true rfl) dX8_melt_9 (fun w3 h => ?_) (fun Cx _ h => Out _ _ _ _ _ Cx (by decide) (by decide) h)
  refine j_aload_n X dX8_melt_12 0 rfl ?_
  obtain ⟨fs4, r4, g4, i4, h⟩ := h
  refine j_get X (ci := 11) (C := RX8) (T := TX8) (N := 11) rfl jin_X8 2 (by decide) g4 i4 jw_304 rfl dX8_melt_13 ?_
  refine j_iload_n X dX8_melt_16 1 rfl ?_
  obtain ⟨⟨fs5, g5⟩, h⟩ := h
  refine j_callVi X [.int x1] [] (c_X7_remove h) (T := TX7) (N := 3) g5 rfl jm_X7_remove jw_1209 rfl ⟨rfl, rfl⟩ (by rw [hR]; decide) rfl (Nat.le_of_ble_eq_true rfl) dX8_melt_17 (fun v5 w5 h => ?_)
  exact Rt.i dX8_melt_20 ⟨_, rfl, h⟩ (by first | decide | omega) (by first | decide | omega)
def w_X8_melt (κ : Nat → Nat) (w : va_W) (a0 : Nat) (x1 : Int32) (P : Int32 → va_W → Prop) (E : String → va_W → Prop) : Prop := w_X8_melt_b0 κ w a0 x1 P E
theorem c_X8_melt {E9 : jE} {w : va_W} {a0 : Nat} {x1 : Int32} {P : Int32 → va_W → Prop} {E : String → va_W → Prop} (h : w_X8_melt E9.2.2.2 w a0 x1 P E) : jCx E9 yX8_melt cX8_melt 2 (some .int) ({ frames := 8, cells := 1, slots := 6, locals := 213 } : Room) [.ref a0, .int x1] w 1 6 (jPi P) E := by
  refine jCx_of (by decide) (Nat.le_of_ble_eq_true rfl) ?_
  intro Γ X hE hR Rt Out Th ThW
  subst hE
  exact k_X8_melt_b0 X hR Rt Out Th ThW h
theorem jm_X8_replaceFlake : jMv yX8_replaceFlake cX8_replaceFlake 4 (some .int) 3 := ⟨jw_675, jw_676, jw_22, jw_677, ⟨by decide +kernel, by decide +kernel⟩, by decide +kernel⟩
def w_X8_replaceFlake_b0 (κ : Nat → Nat) (w : va_W) (a0 : Nat) (x1 : Int32) (x2 : Int32) (x3 : Int32) (P : Int32 → va_W → Prop) (E : String → va_W → Prop) : Prop :=
    jgR' w a0 11 2 (fun r1 => (jRc w r1 10 ∧ w_X7_refusalToSwap κ w r1 x1 x2 x3 (fun r2 w2 => (jRc w2 a0 11 ∧ w_X8_admit κ w2 a0 r2 (fun w3 => jgR' w3 a0 11 2 (fun r4 => (jRc w3 r4 10 ∧ w_X7_swap κ w3 r4 x1 x2 x3 (fun v5 w5 => P v5 w5)))) E))))
set_option maxRecDepth 100000 in
set_option maxHeartbeats 4000000 in
theorem k_X8_replaceFlake_b0 {Γ : jG} (X : jX Γ cX8_replaceFlake 4 RX8) (hR : jgR Γ = ({ frames := 8, cells := 1, slots := 6, locals := 213 } : Room)) {P : Int32 → va_W → Prop} {E : String → va_W → Prop} (Rt : jRt Γ cX8_replaceFlake 4 1 6 (some .int) (jPi P)) (Out : jOut Γ 4 1 6 E) (Th : jTh Γ cX8_replaceFlake 4 RX8 1 6 E) (ThW : jThW Γ cX8_replaceFlake 4 RX8 1 6 E) {w : va_W} {a0 : Nat} {x1 : Int32} {x2 : Int32} {x3 : Int32} (h : w_X8_replaceFlake_b0 (jgE Γ).2.2.2 w a0 x1 x2 x3 P E) : J Γ 4 w 0 0 0 [(0, .ref a0), (1, .int x1), (2, .int x2), (3, .int x3)] [] := by
  unfold w_X8_replaceFlake_b0 at h
  refine j_aload_n X dX8_replaceFlake_0 0 rfl ?_
  refine j_aload_n X dX8_replaceFlake_1 0 rfl ?_
  obtain ⟨fs1, r1, g1, i1, h⟩ := h
  refine j_get X (ci := 11) (C := RX8) (T := TX8) (N := 11) rfl jin_X8 2 (by decide) g1 i1 jw_304 rfl dX8_replaceFlake_2 ?_
  refine j_iload_n X dX8_replaceFlake_5 1 rfl ?_
  refine j_iload_n X dX8_replaceFlake_6 2 rfl ?_
  refine j_iload_n X dX8_replaceFlake_7 3 rfl ?_
  obtain ⟨⟨fs2, g2⟩, h⟩ := h
  refine j_callVr X [.int x1, .int x2, .int x3] [.ref a0] (c_X7_refusalToSwap h) (T := TX7) (N := 3) g2 rfl jm_X7_refusalToSwap jw_678 rfl ⟨rfl, rfl⟩ (by rw [hR]; decide) rfl (Nat.le_of_ble_eq_true rfl) dX8_replaceFlake_8 (fun r2 w2 h => ?_)
  obtain ⟨⟨fs3, g3⟩, h⟩ := h
  refine j_callVxv X [.ref r2] [] (c_X8_admit h) (T := TX8) (N := 11) g3 rfl jm_X8_admit jw_392 rfl ⟨rfl, rfl⟩ (by rw [hR]; decide) rfl (Nat.le_of_ble_eq_true rfl) dX8_replaceFlake_11 (fun w3 h => ?_) (fun Cx _ h => Out _ _ _ _ _ Cx (by decide) (by decide) h)
  refine j_aload_n X dX8_replaceFlake_14 0 rfl ?_
  obtain ⟨fs4, r4, g4, i4, h⟩ := h
  refine j_get X (ci := 11) (C := RX8) (T := TX8) (N := 11) rfl jin_X8 2 (by decide) g4 i4 jw_304 rfl dX8_replaceFlake_15 ?_
  refine j_iload_n X dX8_replaceFlake_18 1 rfl ?_
  refine j_iload_n X dX8_replaceFlake_19 2 rfl ?_
  refine j_iload_n X dX8_replaceFlake_20 3 rfl ?_
  obtain ⟨⟨fs5, g5⟩, h⟩ := h
  refine j_callVi X [.int x1, .int x2, .int x3] [] (c_X7_swap h) (T := TX7) (N := 3) g5 rfl jm_X7_swap jw_686 rfl ⟨rfl, rfl⟩ (by rw [hR]; decide) rfl (Nat.le_of_ble_eq_true rfl) dX8_replaceFlake_21 (fun v5 w5 h => ?_)
  exact Rt.i dX8_replaceFlake_24 ⟨_, rfl, h⟩ (by first | decide | omega) (by first | decide | omega)
def w_X8_replaceFlake (κ : Nat → Nat) (w : va_W) (a0 : Nat) (x1 : Int32) (x2 : Int32) (x3 : Int32) (P : Int32 → va_W → Prop) (E : String → va_W → Prop) : Prop := w_X8_replaceFlake_b0 κ w a0 x1 x2 x3 P E
theorem c_X8_replaceFlake {E9 : jE} {w : va_W} {a0 : Nat} {x1 : Int32} {x2 : Int32} {x3 : Int32} {P : Int32 → va_W → Prop} {E : String → va_W → Prop} (h : w_X8_replaceFlake E9.2.2.2 w a0 x1 x2 x3 P E) : jCx E9 yX8_replaceFlake cX8_replaceFlake 4 (some .int) ({ frames := 8, cells := 1, slots := 6, locals := 213 } : Room) [.ref a0, .int x1, .int x2, .int x3] w 1 6 (jPi P) E := by
  refine jCx_of (by decide) (Nat.le_of_ble_eq_true rfl) ?_
  intro Γ X hE hR Rt Out Th ThW
  subst hE
  exact k_X8_replaceFlake_b0 X hR Rt Out Th ThW h
theorem jm_X8_repair : jMv yX8_repair cX8_repair 2 (some .int) 1 := ⟨jw_1196, jw_1197, jw_22, jw_1198, ⟨by decide +kernel, by decide +kernel⟩, by decide +kernel⟩
def w_X8_repair_b0 (κ : Nat → Nat) (w : va_W) (a0 : Nat) (x1 : Int32) (P : Int32 → va_W → Prop) (E : String → va_W → Prop) : Prop :=
    jgR' w a0 11 2 (fun r1 => (jRc w r1 10 ∧ w_X7_refusalToMend κ w r1 x1 (fun r2 w2 => (jRc w2 a0 11 ∧ w_X8_admit κ w2 a0 r2 (fun w3 => jgR' w3 a0 11 2 (fun r4 => (jRc w3 r4 10 ∧ w_X7_mend κ w3 r4 x1 (fun v5 w5 => P v5 w5)))) E))))
set_option maxRecDepth 100000 in
set_option maxHeartbeats 4000000 in
theorem k_X8_repair_b0 {Γ : jG} (X : jX Γ cX8_repair 2 RX8) (hR : jgR Γ = ({ frames := 8, cells := 1, slots := 6, locals := 213 } : Room)) {P : Int32 → va_W → Prop} {E : String → va_W → Prop} (Rt : jRt Γ cX8_repair 2 1 6 (some .int) (jPi P)) (Out : jOut Γ 2 1 6 E) (Th : jTh Γ cX8_repair 2 RX8 1 6 E) (ThW : jThW Γ cX8_repair 2 RX8 1 6 E) {w : va_W} {a0 : Nat} {x1 : Int32} (h : w_X8_repair_b0 (jgE Γ).2.2.2 w a0 x1 P E) : J Γ 2 w 0 0 0 [(0, .ref a0), (1, .int x1)] [] := by
  unfold w_X8_repair_b0 at h
  refine j_aload_n X dX8_repair_0 0 rfl ?_
  refine j_aload_n X dX8_repair_1 0 rfl ?_
  obtain ⟨fs1, r1, g1, i1, h⟩ := h
  refine j_get X (ci := 11) (C := RX8) (T := TX8) (N := 11) rfl jin_X8 2 (by decide) g1 i1 jw_304 rfl dX8_repair_2 ?_
  refine j_iload_n X dX8_repair_5 1 rfl ?_
  obtain ⟨⟨fs2, g2⟩, h⟩ := h
  refine j_callVr X [.int x1] [.ref a0] (c_X7_refusalToMend h) (T := TX7) (N := 3) g2 rfl jm_X7_refusalToMend jw_1199 rfl ⟨rfl, rfl⟩ (by rw [hR]; decide) rfl (Nat.le_of_ble_eq_true rfl) dX8_repair_6 (fun r2 w2 h => ?_)
  obtain ⟨⟨fs3, g3⟩, h⟩ := h
  refine j_callVxv X [.ref r2] [] (c_X8_admit h) (T := TX8) (N := 11) g3 rfl jm_X8_admit jw_392 rfl ⟨rfl, rfl⟩ (by rw [hR]; decide) rfl (Nat.le_of_ble_eq_true rfl) dX8_repair_9 (fun w3 h => ?_) (fun Cx _ h => Out _ _ _ _ _ Cx (by decide) (by decide) h)
  refine j_aload_n X dX8_repair_12 0 rfl ?_
  obtain ⟨fs4, r4, g4, i4, h⟩ := h
  refine j_get X (ci := 11) (C := RX8) (T := TX8) (N := 11) rfl jin_X8 2 (by decide) g4 i4 jw_304 rfl dX8_repair_13 ?_
  refine j_iload_n X dX8_repair_16 1 rfl ?_
  obtain ⟨⟨fs5, g5⟩, h⟩ := h
  refine j_callVi X [.int x1] [] (c_X7_mend h) (T := TX7) (N := 3) g5 rfl jm_X7_mend jw_1200 rfl ⟨rfl, rfl⟩ (by rw [hR]; decide) rfl (Nat.le_of_ble_eq_true rfl) dX8_repair_17 (fun v5 w5 h => ?_)
  exact Rt.i dX8_repair_20 ⟨_, rfl, h⟩ (by first | decide | omega) (by first | decide | omega)
def w_X8_repair (κ : Nat → Nat) (w : va_W) (a0 : Nat) (x1 : Int32) (P : Int32 → va_W → Prop) (E : String → va_W → Prop) : Prop := w_X8_repair_b0 κ w a0 x1 P E
theorem c_X8_repair {E9 : jE} {w : va_W} {a0 : Nat} {x1 : Int32} {P : Int32 → va_W → Prop} {E : String → va_W → Prop} (h : w_X8_repair E9.2.2.2 w a0 x1 P E) : jCx E9 yX8_repair cX8_repair 2 (some .int) ({ frames := 8, cells := 1, slots := 6, locals := 213 } : Room) [.ref a0, .int x1] w 1 6 (jPi P) E := by
  refine jCx_of (by decide) (Nat.le_of_ble_eq_true rfl) ?_
  intro Γ X hE hR Rt Out Th ThW
  subst hE
  exact k_X8_repair_b0 X hR Rt Out Th ThW h
theorem jm_X8_blockCount : jMv yX8_blockCount cX8_blockCount 1 (some .int) 0 := ⟨jw_1251, jw_1252, jw_22, jw_1253, ⟨by decide +kernel, by decide +kernel⟩, by decide +kernel⟩
def w_X8_blockCount_b0 (κ : Nat → Nat) (w : va_W) (a0 : Nat) (P : Int32 → va_W → Prop) : Prop :=
    jgR' w a0 11 1 (fun r1 => (jRc w r1 9 ∧ w_X6_countBlocks κ w r1 (fun v2 w2 => P v2 w2)))
set_option maxRecDepth 100000 in
set_option maxHeartbeats 4000000 in
theorem k_X8_blockCount_b0 {Γ : jG} (X : jX Γ cX8_blockCount 1 RX8) (hR : jgR Γ = ({ frames := 3, cells := 0, slots := 0, locals := 64 } : Room)) {P : Int32 → va_W → Prop} (Rt : jRt Γ cX8_blockCount 1 0 0 (some .int) (jPi P)) {w : va_W} {a0 : Nat} (h : w_X8_blockCount_b0 (jgE Γ).2.2.2 w a0 P) : J Γ 1 w 0 0 0 [(0, .ref a0)] [] := by
  unfold w_X8_blockCount_b0 at h
  refine j_aload_n X dX8_blockCount_0 0 rfl ?_
  obtain ⟨fs1, r1, g1, i1, h⟩ := h
  refine j_get X (ci := 11) (C := RX8) (T := TX8) (N := 11) rfl jin_X8 1 (by decide) g1 i1 jw_303 rfl dX8_blockCount_1 ?_
  obtain ⟨⟨fs2, g2⟩, h⟩ := h
  refine j_callVi X [] [] (c_X6_countBlocks h) (T := TX6) (N := 2) g2 rfl jm_X6_countBlocks jw_359 rfl ⟨rfl, rfl⟩ (by rw [hR]; decide) rfl (Nat.le_of_ble_eq_true rfl) dX8_blockCount_4 (fun v2 w2 h => ?_)
  exact Rt.i dX8_blockCount_7 ⟨_, rfl, h⟩ (by first | decide | omega) (by first | decide | omega)
def w_X8_blockCount (κ : Nat → Nat) (w : va_W) (a0 : Nat) (P : Int32 → va_W → Prop) : Prop := w_X8_blockCount_b0 κ w a0 P
theorem c_X8_blockCount {E : jE} {w : va_W} {a0 : Nat} {P : Int32 → va_W → Prop} (h : w_X8_blockCount E.2.2.2 w a0 P) : jC E yX8_blockCount cX8_blockCount 1 (some .int) ({ frames := 3, cells := 0, slots := 0, locals := 64 } : Room) [.ref a0] w 0 0 (jPi P) := by
  refine jC_of (by decide) (Nat.le_of_ble_eq_true rfl) ?_
  intro Γ X hE hR Rt
  subst hE
  exact k_X8_blockCount_b0 X hR Rt h
theorem jm_X8_exists : jMv yX8_exists cX8_exists 2 (some .boolean) 1 := ⟨jw_1258, jw_1259, jw_22, jw_1260, ⟨by decide +kernel, by decide +kernel⟩, by decide +kernel⟩
def w_X8_exists_b17 (κ : Nat → Nat) (w : va_W) (s0 : Int32) (P : Int32 → va_W → Prop) : Prop :=
    (narrow .boolean (.int s0) = .int s0 ∧ P s0 w)
set_option maxRecDepth 100000 in
set_option maxHeartbeats 4000000 in
theorem k_X8_exists_b17 {Γ : jG} (X : jX Γ cX8_exists 2 RX8) (hR : jgR Γ = ({ frames := 2, cells := 0, slots := 0, locals := 43 } : Room)) {P : Int32 → va_W → Prop} (Rt : jRt Γ cX8_exists 2 0 0 (some .boolean) (jPi P)) {w : va_W} {s0 : Int32} (h : w_X8_exists_b17 (jgE Γ).2.2.2 w s0 P) : J Γ 2 w 0 0 17 [] [.int s0] := by
  unfold w_X8_exists_b17 at h
  exact Rt.z dX8_exists_17 h.1 ⟨_, rfl, h.2⟩ (by first | decide | omega) (by first | decide | omega)
def w_X8_exists_b0 (κ : Nat → Nat) (w : va_W) (a0 : Nat) (x1 : Int32) (P : Int32 → va_W → Prop) : Prop :=
    jgR' w a0 11 0 (fun r1 => (jRc w r1 8 ∧ w_X5_slotOf κ w r1 x1 (fun v2 w2 => (if v2 = (-1) then w_X8_exists_b17 κ w2 0 P else w_X8_exists_b17 κ w2 1 P))))
set_option maxRecDepth 100000 in
set_option maxHeartbeats 4000000 in
theorem k_X8_exists_b0 {Γ : jG} (X : jX Γ cX8_exists 2 RX8) (hR : jgR Γ = ({ frames := 2, cells := 0, slots := 0, locals := 43 } : Room)) {P : Int32 → va_W → Prop} (Rt : jRt Γ cX8_exists 2 0 0 (some .boolean) (jPi P)) {w : va_W} {a0 : Nat} {x1 : Int32} (h : w_X8_exists_b0 (jgE Γ).2.2.2 w a0 x1 P) : J Γ 2 w 0 0 0 [(0, .ref a0), (1, .int x1)] [] := by
  unfold w_X8_exists_b0 at h
  refine j_aload_n X dX8_exists_0 0 rfl ?_
  obtain ⟨fs1, r1, g1, i1, h⟩ := h
  refine j_get X (ci := 11) (C := RX8) (T := TX8) (N := 11) rfl jin_X8 0 (by decide) g1 i1 jw_302 rfl dX8_exists_1 ?_
  refine j_iload_n X dX8_exists_4 1 rfl ?_
  obtain ⟨⟨fs2, g2⟩, h⟩ := h
  refine j_callVi X [.int x1] [] (c_X5_slotOf h) (T := TX5) (N := 12) g2 rfl jm_X5_slotOf jw_1261 rfl ⟨rfl, rfl⟩ (by rw [hR]; decide) rfl (Nat.le_of_ble_eq_true rfl) dX8_exists_5 (fun v2 w2 h => ?_)
  refine j_iconst X (-1) dX8_exists_8 (by decide) ?_
  refine j_icmp_eq X 16 dX8_exists_9 (by decide) (fun c => ?_) (fun c => ?_)
  · replace h := jif_t c h
    refine j_iconst X 0 dX8_exists_16 (by decide) ?_
    refine j_sub [] rfl ?_
    exact k_X8_exists_b17 X hR Rt h
  · replace h := jif_f c h
    refine j_iconst X 1 dX8_exists_12 (by decide) ?_
    refine j_goto X 17 dX8_exists_13 (by decide) ?_
    refine j_sub [] rfl ?_
    exact k_X8_exists_b17 X hR Rt h
def w_X8_exists (κ : Nat → Nat) (w : va_W) (a0 : Nat) (x1 : Int32) (P : Int32 → va_W → Prop) : Prop := w_X8_exists_b0 κ w a0 x1 P
theorem c_X8_exists {E : jE} {w : va_W} {a0 : Nat} {x1 : Int32} {P : Int32 → va_W → Prop} (h : w_X8_exists E.2.2.2 w a0 x1 P) : jC E yX8_exists cX8_exists 2 (some .boolean) ({ frames := 2, cells := 0, slots := 0, locals := 43 } : Room) [.ref a0, .int x1] w 0 0 (jPi P) := by
  refine jC_of (by decide) (Nat.le_of_ble_eq_true rfl) ?_
  intro Γ X hE hR Rt
  subst hE
  exact k_X8_exists_b0 X hR Rt h
theorem jm_X8_requireWritten : jMv yX8_requireWritten cX8_requireWritten 3 (some .int) 1 := ⟨jw_1271, jw_15, jw_22, jw_1272, ⟨by decide +kernel, by decide +kernel⟩, by decide +kernel⟩
def w_X8_requireWritten_b18 (κ : Nat → Nat) (w : va_W) (P : Int32 → va_W → Prop) (E : String → va_W → Prop) : Prop :=
    E "java/util/NoSuchElementException" w
set_option maxRecDepth 100000 in
set_option maxHeartbeats 4000000 in
theorem k_X8_requireWritten_b18 {Γ : jG} (X : jX Γ cX8_requireWritten 3 RX8) (hR : jgR Γ = ({ frames := 6, cells := 1, slots := 6, locals := 90 } : Room)) {P : Int32 → va_W → Prop} {E : String → va_W → Prop} (Rt : jRt Γ cX8_requireWritten 3 1 6 (some .int) (jPi P)) (Out : jOut Γ 3 1 6 E) (Th : jTh Γ cX8_requireWritten 3 RX8 1 6 E) (ThW : jThW Γ cX8_requireWritten 3 RX8 1 6 E) {w : va_W} (h : w_X8_requireWritten_b18 (jgE Γ).2.2.2 w  P E) : J Γ 3 w 0 0 18 [] [] := by
  unfold w_X8_requireWritten_b18 at h
  exact ThW _ _ _ 18 _ _ 200 421 204 40 13 jrx13 "java/util/NoSuchElementException" "there is no such block besides the root" "java/lang/RuntimeException" ["java/lang/Exception"] (by decide +kernel) (by decide +kernel) (by decide +kernel) (by decide +kernel) dX8_requireWritten_18 dX8_requireWritten_21 dX8_requireWritten_22 dX8_requireWritten_25 dX8_requireWritten_28 (List.mem_of_getElem? (i := 40) rfl) (by decide +kernel) (by decide +kernel) (by decide +kernel) jw_474 jw_41 jat_204 (by rw [hR]; exact ⟨by decide, Nat.le_of_ble_eq_true rfl, by decide, by decide⟩) (by decide) (by decide) h
def w_X8_requireWritten_b0 (κ : Nat → Nat) (w : va_W) (a0 : Nat) (x1 : Int32) (P : Int32 → va_W → Prop) (E : String → va_W → Prop) : Prop :=
    jgR' w a0 11 0 (fun r1 => (jRc w r1 8 ∧ w_X5_slotOf κ w r1 x1 (fun v2 w2 => (if v2 = (-1) then w_X8_requireWritten_b18 κ w2  P E else (if v2 = 0 then w_X8_requireWritten_b18 κ w2  P E else P v2 w2)))))
set_option maxRecDepth 100000 in
set_option maxHeartbeats 4000000 in
theorem k_X8_requireWritten_b0 {Γ : jG} (X : jX Γ cX8_requireWritten 3 RX8) (hR : jgR Γ = ({ frames := 6, cells := 1, slots := 6, locals := 90 } : Room)) {P : Int32 → va_W → Prop} {E : String → va_W → Prop} (Rt : jRt Γ cX8_requireWritten 3 1 6 (some .int) (jPi P)) (Out : jOut Γ 3 1 6 E) (Th : jTh Γ cX8_requireWritten 3 RX8 1 6 E) (ThW : jThW Γ cX8_requireWritten 3 RX8 1 6 E) {w : va_W} {a0 : Nat} {x1 : Int32} (h : w_X8_requireWritten_b0 (jgE Γ).2.2.2 w a0 x1 P E) : J Γ 3 w 0 0 0 [(0, .ref a0), (1, .int x1)] [] := by
  unfold w_X8_requireWritten_b0 at h
  refine j_aload_n X dX8_requireWritten_0 0 rfl ?_
  obtain ⟨fs1, r1, g1, i1, h⟩ := h
  refine j_get X (ci := 11) (C := RX8) (T := TX8) (N := 11) rfl jin_X8 0 (by decide) g1 i1 jw_302 rfl dX8_requireWritten_1 ?_
  refine j_iload_n X dX8_requireWritten_4 1 rfl ?_
  obtain ⟨⟨fs2, g2⟩, h⟩ := h
  refine j_callVi X [.int x1] [] (c_X5_slotOf h) (T := TX5) (N := 12) g2 rfl jm_X5_slotOf jw_1261 rfl ⟨rfl, rfl⟩ (by rw [hR]; decide) rfl (Nat.le_of_ble_eq_true rfl) dX8_requireWritten_5 (fun v2 w2 h => ?_)
  refine j_istore_n X [(2, .int v2), (0, .ref a0), (1, .int x1)] dX8_requireWritten_8 (by decide) rfl ?_
  refine j_iload_n X dX8_requireWritten_9 0 rfl ?_
  refine j_iconst X (-1) dX8_requireWritten_10 (by decide) ?_
  refine j_icmp_eq X 18 dX8_requireWritten_11 (by decide) (fun c => ?_) (fun c => ?_)
  · replace h := jif_t c h
    refine j_sub [] rfl ?_
    refine j_widen (k := 0) (n := 0) (by decide) (by decide) ?_
    exact k_X8_requireWritten_b18 X hR Rt Out Th ThW h
  · replace h := jif_f c h
    refine j_iload_n X dX8_requireWritten_14 0 rfl ?_
    refine j_if_ne X 29 dX8_requireWritten_15 (by decide) (fun c => ?_) (fun c => ?_)
    · replace h := jif_f c h
      refine j_iload_n X dX8_requireWritten_29 0 rfl ?_
      exact Rt.i dX8_requireWritten_30 ⟨_, rfl, h⟩ (by first | decide | omega) (by first | decide | omega)
    · replace h := jif_t c h
      refine j_sub [] rfl ?_
      refine j_widen (k := 0) (n := 0) (by decide) (by decide) ?_
      exact k_X8_requireWritten_b18 X hR Rt Out Th ThW h
def w_X8_requireWritten (κ : Nat → Nat) (w : va_W) (a0 : Nat) (x1 : Int32) (P : Int32 → va_W → Prop) (E : String → va_W → Prop) : Prop := w_X8_requireWritten_b0 κ w a0 x1 P E
theorem c_X8_requireWritten {E9 : jE} {w : va_W} {a0 : Nat} {x1 : Int32} {P : Int32 → va_W → Prop} {E : String → va_W → Prop} (h : w_X8_requireWritten E9.2.2.2 w a0 x1 P E) : jCx E9 yX8_requireWritten cX8_requireWritten 3 (some .int) ({ frames := 6, cells := 1, slots := 6, locals := 90 } : Room) [.ref a0, .int x1] w 1 6 (jPi P) E := by
  refine jCx_of (by decide) (Nat.le_of_ble_eq_true rfl) ?_
  intro Γ X hE hR Rt Out Th ThW
  subst hE
  exact k_X8_requireWritten_b0 X hR Rt Out Th ThW h
theorem jm_X8_parentOf : jMv yX8_parentOf cX8_parentOf 2 (some .int) 1 := ⟨jw_1266, jw_1267, jw_22, jw_1268, ⟨by decide +kernel, by decide +kernel⟩, by decide +kernel⟩
def w_X8_parentOf_b0 (κ : Nat → Nat) (w : va_W) (a0 : Nat) (x1 : Int32) (P : Int32 → va_W → Prop) (E : String → va_W → Prop) : Prop :=
    jgR' w a0 11 0 (fun r1 => jgR' w r1 8 0 (fun r2 => jgR' w a0 11 0 (fun r3 => jgR' w r3 8 1 (fun r4 => (jRc w a0 11 ∧ w_X8_requireWritten κ w a0 x1 (fun v5 w5 => (jRc w5 r4 6 ∧ w_X3_at κ w5 r4 v5 (fun v6 w6 => (jRc w6 r2 6 ∧ w_X3_at κ w6 r2 v6 (fun v7 w7 => P v7 w7))))) E)))))
set_option maxRecDepth 100000 in
set_option maxHeartbeats 4000000 in
theorem k_X8_parentOf_b0 {Γ : jG} (X : jX Γ cX8_parentOf 2 RX8) (hR : jgR Γ = ({ frames := 7, cells := 1, slots := 6, locals := 112 } : Room)) {P : Int32 → va_W → Prop} {E : String → va_W → Prop} (Rt : jRt Γ cX8_parentOf 2 1 6 (some .int) (jPi P)) (Out : jOut Γ 2 1 6 E) (Th : jTh Γ cX8_parentOf 2 RX8 1 6 E) (ThW : jThW Γ cX8_parentOf 2 RX8 1 6 E) {w : va_W} {a0 : Nat} {x1 : Int32} (h : w_X8_parentOf_b0 (jgE Γ).2.2.2 w a0 x1 P E) : J Γ 2 w 0 0 0 [(0, .ref a0), (1, .int x1)] [] := by
  unfold w_X8_parentOf_b0 at h
  refine j_aload_n X dX8_parentOf_0 0 rfl ?_
  obtain ⟨fs1, r1, g1, i1, h⟩ := h
  refine j_get X (ci := 11) (C := RX8) (T := TX8) (N := 11) rfl jin_X8 0 (by decide) g1 i1 jw_302 rfl dX8_parentOf_1 ?_
  obtain ⟨fs2, r2, g2, i2, h⟩ := h
  refine j_getN X (ci := 8) (C := RX5) (T := TX5) (N := 12) rfl jin_X5 0 (by decide) g2 i2 jw_106 rfl dX8_parentOf_4 ?_
  refine j_aload_n X dX8_parentOf_7 0 rfl ?_
  obtain ⟨fs3, r3, g3, i3, h⟩ := h
  refine j_get X (ci := 11) (C := RX8) (T := TX8) (N := 11) rfl jin_X8 0 (by decide) g3 i3 jw_302 rfl dX8_parentOf_8 ?_
  obtain ⟨fs4, r4, g4, i4, h⟩ := h
  refine j_getN X (ci := 8) (C := RX5) (T := TX5) (N := 12) rfl jin_X5 1 (by decide) g4 i4 jw_111 rfl dX8_parentOf_11 ?_
  refine j_aload_n X dX8_parentOf_14 0 rfl ?_
  refine j_iload_n X dX8_parentOf_15 1 rfl ?_
  obtain ⟨⟨fs5, g5⟩, h⟩ := h
  refine j_callVxi X [.int x1] [.ref r4, .ref r2] (c_X8_requireWritten h) (T := TX8) (N := 11) g5 rfl jm_X8_requireWritten jw_1269 rfl ⟨rfl, rfl⟩ (by rw [hR]; decide) rfl (Nat.le_of_ble_eq_true rfl) dX8_parentOf_16 (fun v5 w5 h => ?_) (fun Cx _ h => Out _ _ _ _ _ Cx (by decide) (by decide) h)
  obtain ⟨⟨fs6, g6⟩, h⟩ := h
  refine j_callVi X [.int v5] [.ref r2] (c_X3_at h) (T := TX3) (N := 1) g6 rfl jm_X3_at jw_1072 rfl ⟨rfl, rfl⟩ (by rw [hR]; decide) rfl (Nat.le_of_ble_eq_true rfl) dX8_parentOf_19 (fun v6 w6 h => ?_)
  obtain ⟨⟨fs7, g7⟩, h⟩ := h
  refine j_callVi X [.int v6] [] (c_X3_at h) (T := TX3) (N := 1) g7 rfl jm_X3_at jw_1072 rfl ⟨rfl, rfl⟩ (by rw [hR]; decide) rfl (Nat.le_of_ble_eq_true rfl) dX8_parentOf_22 (fun v7 w7 h => ?_)
  exact Rt.i dX8_parentOf_25 ⟨_, rfl, h⟩ (by first | decide | omega) (by first | decide | omega)
def w_X8_parentOf (κ : Nat → Nat) (w : va_W) (a0 : Nat) (x1 : Int32) (P : Int32 → va_W → Prop) (E : String → va_W → Prop) : Prop := w_X8_parentOf_b0 κ w a0 x1 P E
theorem c_X8_parentOf {E9 : jE} {w : va_W} {a0 : Nat} {x1 : Int32} {P : Int32 → va_W → Prop} {E : String → va_W → Prop} (h : w_X8_parentOf E9.2.2.2 w a0 x1 P E) : jCx E9 yX8_parentOf cX8_parentOf 2 (some .int) ({ frames := 7, cells := 1, slots := 6, locals := 112 } : Room) [.ref a0, .int x1] w 1 6 (jPi P) E := by
  refine jCx_of (by decide) (Nat.le_of_ble_eq_true rfl) ?_
  intro Γ X hE hR Rt Out Th ThW
  subst hE
  exact k_X8_parentOf_b0 X hR Rt Out Th ThW h
theorem jm_X8_requireBlock : jMv yX8_requireBlock cX8_requireBlock 3 (some .int) 1 := ⟨jw_1280, jw_16, jw_22, jw_1281, ⟨by decide +kernel, by decide +kernel⟩, by decide +kernel⟩
def w_X8_requireBlock_b0 (κ : Nat → Nat) (w : va_W) (a0 : Nat) (x1 : Int32) (P : Int32 → va_W → Prop) (E : String → va_W → Prop) : Prop :=
    jgR' w a0 11 0 (fun r1 => (jRc w r1 8 ∧ w_X5_slotOf κ w r1 x1 (fun v2 w2 => (if v2 = (-1) then E "java/util/NoSuchElementException" w2 else P v2 w2))))
set_option maxRecDepth 100000 in
set_option maxHeartbeats 4000000 in
theorem k_X8_requireBlock_b0 {Γ : jG} (X : jX Γ cX8_requireBlock 3 RX8) (hR : jgR Γ = ({ frames := 6, cells := 1, slots := 6, locals := 90 } : Room)) {P : Int32 → va_W → Prop} {E : String → va_W → Prop} (Rt : jRt Γ cX8_requireBlock 3 1 6 (some .int) (jPi P)) (Out : jOut Γ 3 1 6 E) (Th : jTh Γ cX8_requireBlock 3 RX8 1 6 E) (ThW : jThW Γ cX8_requireBlock 3 RX8 1 6 E) {w : va_W} {a0 : Nat} {x1 : Int32} (h : w_X8_requireBlock_b0 (jgE Γ).2.2.2 w a0 x1 P E) : J Γ 3 w 0 0 0 [(0, .ref a0), (1, .int x1)] [] := by
  unfold w_X8_requireBlock_b0 at h
  refine j_aload_n X dX8_requireBlock_0 0 rfl ?_
  obtain ⟨fs1, r1, g1, i1, h⟩ := h
  refine j_get X (ci := 11) (C := RX8) (T := TX8) (N := 11) rfl jin_X8 0 (by decide) g1 i1 jw_302 rfl dX8_requireBlock_1 ?_
  refine j_iload_n X dX8_requireBlock_4 1 rfl ?_
  obtain ⟨⟨fs2, g2⟩, h⟩ := h
  refine j_callVi X [.int x1] [] (c_X5_slotOf h) (T := TX5) (N := 12) g2 rfl jm_X5_slotOf jw_1261 rfl ⟨rfl, rfl⟩ (by rw [hR]; decide) rfl (Nat.le_of_ble_eq_true rfl) dX8_requireBlock_5 (fun v2 w2 h => ?_)
  refine j_istore_n X [(2, .int v2), (0, .ref a0), (1, .int x1)] dX8_requireBlock_8 (by decide) rfl ?_
  refine j_iload_n X dX8_requireBlock_9 0 rfl ?_
  refine j_iconst X (-1) dX8_requireBlock_10 (by decide) ?_
  refine j_icmp_ne X 25 dX8_requireBlock_11 (by decide) (fun c => ?_) (fun c => ?_)
  · replace h := jif_f c h
    refine j_iload_n X dX8_requireBlock_25 0 rfl ?_
    exact Rt.i dX8_requireBlock_26 ⟨_, rfl, h⟩ (by first | decide | omega) (by first | decide | omega)
  · replace h := jif_t c h
    exact ThW _ _ _ 14 _ _ 200 401 204 28 13 jrx13 "java/util/NoSuchElementException" "there is no such block in the tree" "java/lang/RuntimeException" ["java/lang/Exception"] (by decide +kernel) (by decide +kernel) (by decide +kernel) (by decide +kernel) dX8_requireBlock_14 dX8_requireBlock_17 dX8_requireBlock_18 dX8_requireBlock_21 dX8_requireBlock_24 (List.mem_of_getElem? (i := 28) rfl) (by decide +kernel) (by decide +kernel) (by decide +kernel) jw_474 jw_41 jat_204 (by rw [hR]; exact ⟨by decide, Nat.le_of_ble_eq_true rfl, by decide, by decide⟩) (by decide) (by decide) h
def w_X8_requireBlock (κ : Nat → Nat) (w : va_W) (a0 : Nat) (x1 : Int32) (P : Int32 → va_W → Prop) (E : String → va_W → Prop) : Prop := w_X8_requireBlock_b0 κ w a0 x1 P E
theorem c_X8_requireBlock {E9 : jE} {w : va_W} {a0 : Nat} {x1 : Int32} {P : Int32 → va_W → Prop} {E : String → va_W → Prop} (h : w_X8_requireBlock E9.2.2.2 w a0 x1 P E) : jCx E9 yX8_requireBlock cX8_requireBlock 3 (some .int) ({ frames := 6, cells := 1, slots := 6, locals := 90 } : Room) [.ref a0, .int x1] w 1 6 (jPi P) E := by
  refine jCx_of (by decide) (Nat.le_of_ble_eq_true rfl) ?_
  intro Γ X hE hR Rt Out Th ThW
  subst hE
  exact k_X8_requireBlock_b0 X hR Rt Out Th ThW h
theorem jm_X8_childCount : jMv yX8_childCount cX8_childCount 2 (some .int) 1 := ⟨jw_1352, jw_1353, jw_22, jw_1354, ⟨by decide +kernel, by decide +kernel⟩, by decide +kernel⟩
def w_X8_childCount_b0 (κ : Nat → Nat) (w : va_W) (a0 : Nat) (x1 : Int32) (P : Int32 → va_W → Prop) (E : String → va_W → Prop) : Prop :=
    jgR' w a0 11 1 (fun r1 => (jRc w a0 11 ∧ w_X8_requireBlock κ w a0 x1 (fun v2 w2 => (jRc w2 r1 9 ∧ w_X6_countChildren κ w2 r1 v2 (fun v3 w3 => P v3 w3))) E))
set_option maxRecDepth 100000 in
set_option maxHeartbeats 4000000 in
theorem k_X8_childCount_b0 {Γ : jG} (X : jX Γ cX8_childCount 2 RX8) (hR : jgR Γ = ({ frames := 7, cells := 1, slots := 6, locals := 112 } : Room)) {P : Int32 → va_W → Prop} {E : String → va_W → Prop} (Rt : jRt Γ cX8_childCount 2 1 6 (some .int) (jPi P)) (Out : jOut Γ 2 1 6 E) (Th : jTh Γ cX8_childCount 2 RX8 1 6 E) (ThW : jThW Γ cX8_childCount 2 RX8 1 6 E) {w : va_W} {a0 : Nat} {x1 : Int32} (h : w_X8_childCount_b0 (jgE Γ).2.2.2 w a0 x1 P E) : J Γ 2 w 0 0 0 [(0, .ref a0), (1, .int x1)] [] := by
  unfold w_X8_childCount_b0 at h
  refine j_aload_n X dX8_childCount_0 0 rfl ?_
  obtain ⟨fs1, r1, g1, i1, h⟩ := h
  refine j_get X (ci := 11) (C := RX8) (T := TX8) (N := 11) rfl jin_X8 1 (by decide) g1 i1 jw_303 rfl dX8_childCount_1 ?_
  refine j_aload_n X dX8_childCount_4 0 rfl ?_
  refine j_iload_n X dX8_childCount_5 1 rfl ?_
  obtain ⟨⟨fs2, g2⟩, h⟩ := h
  refine j_callVxi X [.int x1] [.ref r1] (c_X8_requireBlock h) (T := TX8) (N := 11) g2 rfl jm_X8_requireBlock jw_1278 rfl ⟨rfl, rfl⟩ (by rw [hR]; decide) rfl (Nat.le_of_ble_eq_true rfl) dX8_childCount_6 (fun v2 w2 h => ?_) (fun Cx _ h => Out _ _ _ _ _ Cx (by decide) (by decide) h)
  obtain ⟨⟨fs3, g3⟩, h⟩ := h
  refine j_callVi X [.int v2] [] (c_X6_countChildren h) (T := TX6) (N := 2) g3 rfl jm_X6_countChildren jw_1355 rfl ⟨rfl, rfl⟩ (by rw [hR]; decide) rfl (Nat.le_of_ble_eq_true rfl) dX8_childCount_9 (fun v3 w3 h => ?_)
  exact Rt.i dX8_childCount_12 ⟨_, rfl, h⟩ (by first | decide | omega) (by first | decide | omega)
def w_X8_childCount (κ : Nat → Nat) (w : va_W) (a0 : Nat) (x1 : Int32) (P : Int32 → va_W → Prop) (E : String → va_W → Prop) : Prop := w_X8_childCount_b0 κ w a0 x1 P E
theorem c_X8_childCount {E9 : jE} {w : va_W} {a0 : Nat} {x1 : Int32} {P : Int32 → va_W → Prop} {E : String → va_W → Prop} (h : w_X8_childCount E9.2.2.2 w a0 x1 P E) : jCx E9 yX8_childCount cX8_childCount 2 (some .int) ({ frames := 7, cells := 1, slots := 6, locals := 112 } : Room) [.ref a0, .int x1] w 1 6 (jPi P) E := by
  refine jCx_of (by decide) (Nat.le_of_ble_eq_true rfl) ?_
  intro Γ X hE hR Rt Out Th ThW
  subst hE
  exact k_X8_childCount_b0 X hR Rt Out Th ThW h
theorem jm_X8_writerOf : jMv yX8_writerOf cX8_writerOf 2 (some .int) 1 := ⟨jw_1379, jw_1380, jw_22, jw_1381, ⟨by decide +kernel, by decide +kernel⟩, by decide +kernel⟩
def w_X8_writerOf_b0 (κ : Nat → Nat) (w : va_W) (a0 : Nat) (x1 : Int32) (P : Int32 → va_W → Prop) (E : String → va_W → Prop) : Prop :=
    jgR' w a0 11 0 (fun r1 => jgR' w r1 8 2 (fun r2 => (jRc w a0 11 ∧ w_X8_requireWritten κ w a0 x1 (fun v3 w3 => (jRc w3 r2 6 ∧ w_X3_at κ w3 r2 v3 (fun v4 w4 => P v4 w4))) E)))
set_option maxRecDepth 100000 in
set_option maxHeartbeats 4000000 in
theorem k_X8_writerOf_b0 {Γ : jG} (X : jX Γ cX8_writerOf 2 RX8) (hR : jgR Γ = ({ frames := 7, cells := 1, slots := 6, locals := 112 } : Room)) {P : Int32 → va_W → Prop} {E : String → va_W → Prop} (Rt : jRt Γ cX8_writerOf 2 1 6 (some .int) (jPi P)) (Out : jOut Γ 2 1 6 E) (Th : jTh Γ cX8_writerOf 2 RX8 1 6 E) (ThW : jThW Γ cX8_writerOf 2 RX8 1 6 E) {w : va_W} {a0 : Nat} {x1 : Int32} (h : w_X8_writerOf_b0 (jgE Γ).2.2.2 w a0 x1 P E) : J Γ 2 w 0 0 0 [(0, .ref a0), (1, .int x1)] [] := by
  unfold w_X8_writerOf_b0 at h
  refine j_aload_n X dX8_writerOf_0 0 rfl ?_
  obtain ⟨fs1, r1, g1, i1, h⟩ := h
  refine j_get X (ci := 11) (C := RX8) (T := TX8) (N := 11) rfl jin_X8 0 (by decide) g1 i1 jw_302 rfl dX8_writerOf_1 ?_
  obtain ⟨fs2, r2, g2, i2, h⟩ := h
  refine j_getN X (ci := 8) (C := RX5) (T := TX5) (N := 12) rfl jin_X5 2 (by decide) g2 i2 jw_115 rfl dX8_writerOf_4 ?_
  refine j_aload_n X dX8_writerOf_7 0 rfl ?_
  refine j_iload_n X dX8_writerOf_8 1 rfl ?_
  obtain ⟨⟨fs3, g3⟩, h⟩ := h
  refine j_callVxi X [.int x1] [.ref r2] (c_X8_requireWritten h) (T := TX8) (N := 11) g3 rfl jm_X8_requireWritten jw_1269 rfl ⟨rfl, rfl⟩ (by rw [hR]; decide) rfl (Nat.le_of_ble_eq_true rfl) dX8_writerOf_9 (fun v3 w3 h => ?_) (fun Cx _ h => Out _ _ _ _ _ Cx (by decide) (by decide) h)
  obtain ⟨⟨fs4, g4⟩, h⟩ := h
  refine j_callVi X [.int v3] [] (c_X3_at h) (T := TX3) (N := 1) g4 rfl jm_X3_at jw_1072 rfl ⟨rfl, rfl⟩ (by rw [hR]; decide) rfl (Nat.le_of_ble_eq_true rfl) dX8_writerOf_12 (fun v4 w4 h => ?_)
  exact Rt.i dX8_writerOf_15 ⟨_, rfl, h⟩ (by first | decide | omega) (by first | decide | omega)
def w_X8_writerOf (κ : Nat → Nat) (w : va_W) (a0 : Nat) (x1 : Int32) (P : Int32 → va_W → Prop) (E : String → va_W → Prop) : Prop := w_X8_writerOf_b0 κ w a0 x1 P E
theorem c_X8_writerOf {E9 : jE} {w : va_W} {a0 : Nat} {x1 : Int32} {P : Int32 → va_W → Prop} {E : String → va_W → Prop} (h : w_X8_writerOf E9.2.2.2 w a0 x1 P E) : jCx E9 yX8_writerOf cX8_writerOf 2 (some .int) ({ frames := 7, cells := 1, slots := 6, locals := 112 } : Room) [.ref a0, .int x1] w 1 6 (jPi P) E := by
  refine jCx_of (by decide) (Nat.le_of_ble_eq_true rfl) ?_
  intro Γ X hE hR Rt Out Th ThW
  subst hE
  exact k_X8_writerOf_b0 X hR Rt Out Th ThW h
theorem jm_X8_flakeCount : jMv yX8_flakeCount cX8_flakeCount 2 (some .int) 1 := ⟨jw_1290, jw_1291, jw_22, jw_1292, ⟨by decide +kernel, by decide +kernel⟩, by decide +kernel⟩
def w_X8_flakeCount_b0 (κ : Nat → Nat) (w : va_W) (a0 : Nat) (x1 : Int32) (P : Int32 → va_W → Prop) (E : String → va_W → Prop) : Prop :=
    jgR' w a0 11 0 (fun r1 => jgR' w r1 8 5 (fun r2 => (jRc w a0 11 ∧ w_X8_requireBlock κ w a0 x1 (fun v3 w3 => (jRc w3 r2 4 ∧ w_X0_size κ w3 r2 v3 (fun v4 w4 => P v4 w4))) E)))
set_option maxRecDepth 100000 in
set_option maxHeartbeats 4000000 in
theorem k_X8_flakeCount_b0 {Γ : jG} (X : jX Γ cX8_flakeCount 2 RX8) (hR : jgR Γ = ({ frames := 7, cells := 1, slots := 6, locals := 112 } : Room)) {P : Int32 → va_W → Prop} {E : String → va_W → Prop} (Rt : jRt Γ cX8_flakeCount 2 1 6 (some .int) (jPi P)) (Out : jOut Γ 2 1 6 E) (Th : jTh Γ cX8_flakeCount 2 RX8 1 6 E) (ThW : jThW Γ cX8_flakeCount 2 RX8 1 6 E) {w : va_W} {a0 : Nat} {x1 : Int32} (h : w_X8_flakeCount_b0 (jgE Γ).2.2.2 w a0 x1 P E) : J Γ 2 w 0 0 0 [(0, .ref a0), (1, .int x1)] [] := by
  unfold w_X8_flakeCount_b0 at h
  refine j_aload_n X dX8_flakeCount_0 0 rfl ?_
  obtain ⟨fs1, r1, g1, i1, h⟩ := h
  refine j_get X (ci := 11) (C := RX8) (T := TX8) (N := 11) rfl jin_X8 0 (by decide) g1 i1 jw_302 rfl dX8_flakeCount_1 ?_
  obtain ⟨fs2, r2, g2, i2, h⟩ := h
  refine j_getN X (ci := 8) (C := RX5) (T := TX5) (N := 12) rfl jin_X5 5 (by decide) g2 i2 jw_127 rfl dX8_flakeCount_4 ?_
  refine j_aload_n X dX8_flakeCount_7 0 rfl ?_
  refine j_iload_n X dX8_flakeCount_8 1 rfl ?_
  obtain ⟨⟨fs3, g3⟩, h⟩ := h
  refine j_callVxi X [.int x1] [.ref r2] (c_X8_requireBlock h) (T := TX8) (N := 11) g3 rfl jm_X8_requireBlock jw_1278 rfl ⟨rfl, rfl⟩ (by rw [hR]; decide) rfl (Nat.le_of_ble_eq_true rfl) dX8_flakeCount_9 (fun v3 w3 h => ?_) (fun Cx _ h => Out _ _ _ _ _ Cx (by decide) (by decide) h)
  obtain ⟨⟨fs4, g4⟩, h⟩ := h
  refine j_callVi X [.int v3] [] (c_X0_size h) (T := TX0) (N := 3) g4 rfl jm_X0_size jw_1240 rfl ⟨rfl, rfl⟩ (by rw [hR]; decide) rfl (Nat.le_of_ble_eq_true rfl) dX8_flakeCount_12 (fun v4 w4 h => ?_)
  exact Rt.i dX8_flakeCount_15 ⟨_, rfl, h⟩ (by first | decide | omega) (by first | decide | omega)
def w_X8_flakeCount (κ : Nat → Nat) (w : va_W) (a0 : Nat) (x1 : Int32) (P : Int32 → va_W → Prop) (E : String → va_W → Prop) : Prop := w_X8_flakeCount_b0 κ w a0 x1 P E
theorem c_X8_flakeCount {E9 : jE} {w : va_W} {a0 : Nat} {x1 : Int32} {P : Int32 → va_W → Prop} {E : String → va_W → Prop} (h : w_X8_flakeCount E9.2.2.2 w a0 x1 P E) : jCx E9 yX8_flakeCount cX8_flakeCount 2 (some .int) ({ frames := 7, cells := 1, slots := 6, locals := 112 } : Room) [.ref a0, .int x1] w 1 6 (jPi P) E := by
  refine jCx_of (by decide) (Nat.le_of_ble_eq_true rfl) ?_
  intro Γ X hE hR Rt Out Th ThW
  subst hE
  exact k_X8_flakeCount_b0 X hR Rt Out Th ThW h
theorem jm_X8_flakeAt : jMv yX8_flakeAt cX8_flakeAt 4 (some .int) 2 := ⟨jw_1294, jw_1295, jw_22, jw_1296, ⟨by decide +kernel, by decide +kernel⟩, by decide +kernel⟩
def w_X8_flakeAt_b0 (κ : Nat → Nat) (w : va_W) (a0 : Nat) (x1 : Int32) (x2 : Int32) (P : Int32 → va_W → Prop) (E : String → va_W → Prop) : Prop :=
    (jRc w a0 11 ∧ w_X8_requireBlock κ w a0 x1 (fun v1 w1 => jgR' w1 a0 11 0 (fun r2 => jgR' w1 r2 8 5 (fun r3 => (jRc w1 r3 4 ∧ w_X0_hasPosition κ w1 r3 v1 x2 (fun v4 w4 => (if v4 = 0 then E "java/lang/IndexOutOfBoundsException" w4 else jgR' w4 a0 11 0 (fun r5 => jgR' w4 r5 8 5 (fun r6 => (jRc w4 r6 4 ∧ w_X0_flake κ w4 r6 v1 x2 (fun v7 w7 => P v7 w7)))))))))) E)
set_option maxRecDepth 100000 in
set_option maxHeartbeats 4000000 in
theorem k_X8_flakeAt_b0 {Γ : jG} (X : jX Γ cX8_flakeAt 4 RX8) (hR : jgR Γ = ({ frames := 7, cells := 2, slots := 12, locals := 112 } : Room)) {P : Int32 → va_W → Prop} {E : String → va_W → Prop} (Rt : jRt Γ cX8_flakeAt 4 2 12 (some .int) (jPi P)) (Out : jOut Γ 4 2 12 E) (Th : jTh Γ cX8_flakeAt 4 RX8 2 12 E) (ThW : jThW Γ cX8_flakeAt 4 RX8 2 12 E) {w : va_W} {a0 : Nat} {x1 : Int32} {x2 : Int32} (h : w_X8_flakeAt_b0 (jgE Γ).2.2.2 w a0 x1 x2 P E) : J Γ 4 w 0 0 0 [(0, .ref a0), (1, .int x1), (2, .int x2)] [] := by
  unfold w_X8_flakeAt_b0 at h
  refine j_aload_n X dX8_flakeAt_0 0 rfl ?_
  refine j_iload_n X dX8_flakeAt_1 1 rfl ?_
  obtain ⟨⟨fs1, g1⟩, h⟩ := h
  refine j_callVxi X [.int x1] [] (c_X8_requireBlock h) (T := TX8) (N := 11) g1 rfl jm_X8_requireBlock jw_1278 rfl ⟨rfl, rfl⟩ (by rw [hR]; decide) rfl (Nat.le_of_ble_eq_true rfl) dX8_flakeAt_2 (fun v1 w1 h => ?_) (fun Cx _ h => Out _ _ _ _ _ Cx (by decide) (by decide) h)
  refine j_istore_n X [(3, .int v1), (0, .ref a0), (1, .int x1), (2, .int x2)] dX8_flakeAt_5 (by decide) rfl ?_
  refine j_aload_n X dX8_flakeAt_6 1 rfl ?_
  obtain ⟨fs2, r2, g2, i2, h⟩ := h
  refine j_get X (ci := 11) (C := RX8) (T := TX8) (N := 11) rfl jin_X8 0 (by decide) g2 i2 jw_302 rfl dX8_flakeAt_7 ?_
  obtain ⟨fs3, r3, g3, i3, h⟩ := h
  refine j_getN X (ci := 8) (C := RX5) (T := TX5) (N := 12) rfl jin_X5 5 (by decide) g3 i3 jw_127 rfl dX8_flakeAt_10 ?_
  refine j_iload_n X dX8_flakeAt_13 0 rfl ?_
  refine j_iload_n X dX8_flakeAt_14 3 rfl ?_
  obtain ⟨⟨fs4, g4⟩, h⟩ := h
  refine j_callVi X [.int v1, .int x2] [] (c_X0_hasPosition h) (T := TX0) (N := 3) g4 rfl jm_X0_hasPosition jw_1297 rfl ⟨rfl, rfl⟩ (by rw [hR]; decide) rfl (Nat.le_of_ble_eq_true rfl) dX8_flakeAt_15 (fun v4 w4 h => ?_)
  refine j_if_ne X 31 dX8_flakeAt_18 (by decide) (fun c => ?_) (fun c => ?_)
  · replace h := jif_f c h
    refine j_aload_n X dX8_flakeAt_31 1 rfl ?_
    obtain ⟨fs5, r5, g5, i5, h⟩ := h
    refine j_get X (ci := 11) (C := RX8) (T := TX8) (N := 11) rfl jin_X8 0 (by decide) g5 i5 jw_302 rfl dX8_flakeAt_32 ?_
    obtain ⟨fs6, r6, g6, i6, h⟩ := h
    refine j_getN X (ci := 8) (C := RX5) (T := TX5) (N := 12) rfl jin_X5 5 (by decide) g6 i6 jw_127 rfl dX8_flakeAt_35 ?_
    refine j_iload_n X dX8_flakeAt_38 0 rfl ?_
    refine j_iload_n X dX8_flakeAt_39 3 rfl ?_
    obtain ⟨⟨fs7, g7⟩, h⟩ := h
    refine j_callVi X [.int v1, .int x2] [] (c_X0_flake h) (T := TX0) (N := 3) g7 rfl jm_X0_flake jw_1299 rfl ⟨rfl, rfl⟩ (by rw [hR]; decide) rfl (Nat.le_of_ble_eq_true rfl) dX8_flakeAt_40 (fun v7 w7 h => ?_)
    exact Rt.i dX8_flakeAt_43 ⟨_, rfl, h⟩ (by first | decide | omega) (by first | decide | omega)
  · replace h := jif_t c h
    exact Th _ _ _ 21 _ _ 165 167 169 41 7 jrx7 "java/lang/IndexOutOfBoundsException" "the block has no such position" "java/lang/RuntimeException" ["java/lang/Exception"] (by decide +kernel) (by decide +kernel) (by decide +kernel) (by decide +kernel) dX8_flakeAt_21 dX8_flakeAt_24 dX8_flakeAt_25 dX8_flakeAt_27 dX8_flakeAt_30 (List.mem_of_getElem? (i := 41) rfl) (by decide +kernel) (by decide +kernel) (by decide +kernel) jw_401 jw_40 jat_169 (by rw [hR]; exact ⟨by decide, Nat.le_of_ble_eq_true rfl, by decide, by decide⟩) (by decide) (by decide) h
def w_X8_flakeAt (κ : Nat → Nat) (w : va_W) (a0 : Nat) (x1 : Int32) (x2 : Int32) (P : Int32 → va_W → Prop) (E : String → va_W → Prop) : Prop := w_X8_flakeAt_b0 κ w a0 x1 x2 P E
theorem c_X8_flakeAt {E9 : jE} {w : va_W} {a0 : Nat} {x1 : Int32} {x2 : Int32} {P : Int32 → va_W → Prop} {E : String → va_W → Prop} (h : w_X8_flakeAt E9.2.2.2 w a0 x1 x2 P E) : jCx E9 yX8_flakeAt cX8_flakeAt 4 (some .int) ({ frames := 7, cells := 2, slots := 12, locals := 112 } : Room) [.ref a0, .int x1, .int x2] w 2 12 (jPi P) E := by
  refine jCx_of (by decide) (Nat.le_of_ble_eq_true rfl) ?_
  intro Γ X hE hR Rt Out Th ThW
  subst hE
  exact k_X8_flakeAt_b0 X hR Rt Out Th ThW h
theorem jm_X8_hashOf : jMv yX8_hashOf cX8_hashOf 2 (some .int) 1 := ⟨jw_1275, jw_1276, jw_22, jw_1277, ⟨by decide +kernel, by decide +kernel⟩, by decide +kernel⟩
def w_X8_hashOf_b0 (κ : Nat → Nat) (w : va_W) (a0 : Nat) (x1 : Int32) (P : Int32 → va_W → Prop) (E : String → va_W → Prop) : Prop :=
    jgR' w a0 11 0 (fun r1 => jgR' w r1 8 3 (fun r2 => (jRc w a0 11 ∧ w_X8_requireBlock κ w a0 x1 (fun v3 w3 => (jRc w3 r2 6 ∧ w_X3_at κ w3 r2 v3 (fun v4 w4 => P v4 w4))) E)))
set_option maxRecDepth 100000 in
set_option maxHeartbeats 4000000 in
theorem k_X8_hashOf_b0 {Γ : jG} (X : jX Γ cX8_hashOf 2 RX8) (hR : jgR Γ = ({ frames := 7, cells := 1, slots := 6, locals := 112 } : Room)) {P : Int32 → va_W → Prop} {E : String → va_W → Prop} (Rt : jRt Γ cX8_hashOf 2 1 6 (some .int) (jPi P)) (Out : jOut Γ 2 1 6 E) (Th : jTh Γ cX8_hashOf 2 RX8 1 6 E) (ThW : jThW Γ cX8_hashOf 2 RX8 1 6 E) {w : va_W} {a0 : Nat} {x1 : Int32} (h : w_X8_hashOf_b0 (jgE Γ).2.2.2 w a0 x1 P E) : J Γ 2 w 0 0 0 [(0, .ref a0), (1, .int x1)] [] := by
  unfold w_X8_hashOf_b0 at h
  refine j_aload_n X dX8_hashOf_0 0 rfl ?_
  obtain ⟨fs1, r1, g1, i1, h⟩ := h
  refine j_get X (ci := 11) (C := RX8) (T := TX8) (N := 11) rfl jin_X8 0 (by decide) g1 i1 jw_302 rfl dX8_hashOf_1 ?_
  obtain ⟨fs2, r2, g2, i2, h⟩ := h
  refine j_getN X (ci := 8) (C := RX5) (T := TX5) (N := 12) rfl jin_X5 3 (by decide) g2 i2 jw_119 rfl dX8_hashOf_4 ?_
  refine j_aload_n X dX8_hashOf_7 0 rfl ?_
  refine j_iload_n X dX8_hashOf_8 1 rfl ?_
  obtain ⟨⟨fs3, g3⟩, h⟩ := h
  refine j_callVxi X [.int x1] [.ref r2] (c_X8_requireBlock h) (T := TX8) (N := 11) g3 rfl jm_X8_requireBlock jw_1278 rfl ⟨rfl, rfl⟩ (by rw [hR]; decide) rfl (Nat.le_of_ble_eq_true rfl) dX8_hashOf_9 (fun v3 w3 h => ?_) (fun Cx _ h => Out _ _ _ _ _ Cx (by decide) (by decide) h)
  obtain ⟨⟨fs4, g4⟩, h⟩ := h
  refine j_callVi X [.int v3] [] (c_X3_at h) (T := TX3) (N := 1) g4 rfl jm_X3_at jw_1072 rfl ⟨rfl, rfl⟩ (by rw [hR]; decide) rfl (Nat.le_of_ble_eq_true rfl) dX8_hashOf_12 (fun v4 w4 h => ?_)
  exact Rt.i dX8_hashOf_15 ⟨_, rfl, h⟩ (by first | decide | omega) (by first | decide | omega)
def w_X8_hashOf (κ : Nat → Nat) (w : va_W) (a0 : Nat) (x1 : Int32) (P : Int32 → va_W → Prop) (E : String → va_W → Prop) : Prop := w_X8_hashOf_b0 κ w a0 x1 P E
theorem c_X8_hashOf {E9 : jE} {w : va_W} {a0 : Nat} {x1 : Int32} {P : Int32 → va_W → Prop} {E : String → va_W → Prop} (h : w_X8_hashOf E9.2.2.2 w a0 x1 P E) : jCx E9 yX8_hashOf cX8_hashOf 2 (some .int) ({ frames := 7, cells := 1, slots := 6, locals := 112 } : Room) [.ref a0, .int x1] w 1 6 (jPi P) E := by
  refine jCx_of (by decide) (Nat.le_of_ble_eq_true rfl) ?_
  intro Γ X hE hR Rt Out Th ThW
  subst hE
  exact k_X8_hashOf_b0 X hR Rt Out Th ThW h
theorem jm_X8_nonceOf : jMv yX8_nonceOf cX8_nonceOf 2 (some .int) 1 := ⟨jw_1286, jw_1287, jw_22, jw_1288, ⟨by decide +kernel, by decide +kernel⟩, by decide +kernel⟩
def w_X8_nonceOf_b0 (κ : Nat → Nat) (w : va_W) (a0 : Nat) (x1 : Int32) (P : Int32 → va_W → Prop) (E : String → va_W → Prop) : Prop :=
    jgR' w a0 11 0 (fun r1 => jgR' w r1 8 4 (fun r2 => (jRc w a0 11 ∧ w_X8_requireWritten κ w a0 x1 (fun v3 w3 => (jRc w3 r2 6 ∧ w_X3_at κ w3 r2 v3 (fun v4 w4 => P v4 w4))) E)))
set_option maxRecDepth 100000 in
set_option maxHeartbeats 4000000 in
theorem k_X8_nonceOf_b0 {Γ : jG} (X : jX Γ cX8_nonceOf 2 RX8) (hR : jgR Γ = ({ frames := 7, cells := 1, slots := 6, locals := 112 } : Room)) {P : Int32 → va_W → Prop} {E : String → va_W → Prop} (Rt : jRt Γ cX8_nonceOf 2 1 6 (some .int) (jPi P)) (Out : jOut Γ 2 1 6 E) (Th : jTh Γ cX8_nonceOf 2 RX8 1 6 E) (ThW : jThW Γ cX8_nonceOf 2 RX8 1 6 E) {w : va_W} {a0 : Nat} {x1 : Int32} (h : w_X8_nonceOf_b0 (jgE Γ).2.2.2 w a0 x1 P E) : J Γ 2 w 0 0 0 [(0, .ref a0), (1, .int x1)] [] := by
  unfold w_X8_nonceOf_b0 at h
  refine j_aload_n X dX8_nonceOf_0 0 rfl ?_
  obtain ⟨fs1, r1, g1, i1, h⟩ := h
  refine j_get X (ci := 11) (C := RX8) (T := TX8) (N := 11) rfl jin_X8 0 (by decide) g1 i1 jw_302 rfl dX8_nonceOf_1 ?_
  obtain ⟨fs2, r2, g2, i2, h⟩ := h
  refine j_getN X (ci := 8) (C := RX5) (T := TX5) (N := 12) rfl jin_X5 4 (by decide) g2 i2 jw_123 rfl dX8_nonceOf_4 ?_
  refine j_aload_n X dX8_nonceOf_7 0 rfl ?_
  refine j_iload_n X dX8_nonceOf_8 1 rfl ?_
  obtain ⟨⟨fs3, g3⟩, h⟩ := h
  refine j_callVxi X [.int x1] [.ref r2] (c_X8_requireWritten h) (T := TX8) (N := 11) g3 rfl jm_X8_requireWritten jw_1269 rfl ⟨rfl, rfl⟩ (by rw [hR]; decide) rfl (Nat.le_of_ble_eq_true rfl) dX8_nonceOf_9 (fun v3 w3 h => ?_) (fun Cx _ h => Out _ _ _ _ _ Cx (by decide) (by decide) h)
  obtain ⟨⟨fs4, g4⟩, h⟩ := h
  refine j_callVi X [.int v3] [] (c_X3_at h) (T := TX3) (N := 1) g4 rfl jm_X3_at jw_1072 rfl ⟨rfl, rfl⟩ (by rw [hR]; decide) rfl (Nat.le_of_ble_eq_true rfl) dX8_nonceOf_12 (fun v4 w4 h => ?_)
  exact Rt.i dX8_nonceOf_15 ⟨_, rfl, h⟩ (by first | decide | omega) (by first | decide | omega)
def w_X8_nonceOf (κ : Nat → Nat) (w : va_W) (a0 : Nat) (x1 : Int32) (P : Int32 → va_W → Prop) (E : String → va_W → Prop) : Prop := w_X8_nonceOf_b0 κ w a0 x1 P E
theorem c_X8_nonceOf {E9 : jE} {w : va_W} {a0 : Nat} {x1 : Int32} {P : Int32 → va_W → Prop} {E : String → va_W → Prop} (h : w_X8_nonceOf E9.2.2.2 w a0 x1 P E) : jCx E9 yX8_nonceOf cX8_nonceOf 2 (some .int) ({ frames := 7, cells := 1, slots := 6, locals := 112 } : Room) [.ref a0, .int x1] w 1 6 (jPi P) E := by
  refine jCx_of (by decide) (Nat.le_of_ble_eq_true rfl) ?_
  intro Γ X hE hR Rt Out Th ThW
  subst hE
  exact k_X8_nonceOf_b0 X hR Rt Out Th ThW h
theorem jm_X8_rootOfFlakes : jMv yX8_rootOfFlakes cX8_rootOfFlakes 2 (some .int) 1 := ⟨jw_1396, jw_1397, jw_22, jw_1398, ⟨by decide +kernel, by decide +kernel⟩, by decide +kernel⟩
def w_X8_rootOfFlakes_b0 (κ : Nat → Nat) (w : va_W) (a0 : Nat) (x1 : Int32) (P : Int32 → va_W → Prop) (E : String → va_W → Prop) : Prop :=
    jgR' w a0 11 0 (fun r1 => jgR' w r1 8 5 (fun r2 => (jRc w a0 11 ∧ w_X8_requireBlock κ w a0 x1 (fun v3 w3 => (jRc w3 r2 4 ∧ w_X0_rootByLists κ w3 r2 v3 (fun v4 w4 => P v4 w4))) E)))
set_option maxRecDepth 100000 in
set_option maxHeartbeats 4000000 in
theorem k_X8_rootOfFlakes_b0 {Γ : jG} (X : jX Γ cX8_rootOfFlakes 2 RX8) (hR : jgR Γ = ({ frames := 7, cells := 1, slots := 6, locals := 112 } : Room)) {P : Int32 → va_W → Prop} {E : String → va_W → Prop} (Rt : jRt Γ cX8_rootOfFlakes 2 1 6 (some .int) (jPi P)) (Out : jOut Γ 2 1 6 E) (Th : jTh Γ cX8_rootOfFlakes 2 RX8 1 6 E) (ThW : jThW Γ cX8_rootOfFlakes 2 RX8 1 6 E) {w : va_W} {a0 : Nat} {x1 : Int32} (h : w_X8_rootOfFlakes_b0 (jgE Γ).2.2.2 w a0 x1 P E) : J Γ 2 w 0 0 0 [(0, .ref a0), (1, .int x1)] [] := by
  unfold w_X8_rootOfFlakes_b0 at h
  refine j_aload_n X dX8_rootOfFlakes_0 0 rfl ?_
  obtain ⟨fs1, r1, g1, i1, h⟩ := h
  refine j_get X (ci := 11) (C := RX8) (T := TX8) (N := 11) rfl jin_X8 0 (by decide) g1 i1 jw_302 rfl dX8_rootOfFlakes_1 ?_
  obtain ⟨fs2, r2, g2, i2, h⟩ := h
  refine j_getN X (ci := 8) (C := RX5) (T := TX5) (N := 12) rfl jin_X5 5 (by decide) g2 i2 jw_127 rfl dX8_rootOfFlakes_4 ?_
  refine j_aload_n X dX8_rootOfFlakes_7 0 rfl ?_
  refine j_iload_n X dX8_rootOfFlakes_8 1 rfl ?_
  obtain ⟨⟨fs3, g3⟩, h⟩ := h
  refine j_callVxi X [.int x1] [.ref r2] (c_X8_requireBlock h) (T := TX8) (N := 11) g3 rfl jm_X8_requireBlock jw_1278 rfl ⟨rfl, rfl⟩ (by rw [hR]; decide) rfl (Nat.le_of_ble_eq_true rfl) dX8_rootOfFlakes_9 (fun v3 w3 h => ?_) (fun Cx _ h => Out _ _ _ _ _ Cx (by decide) (by decide) h)
  obtain ⟨⟨fs4, g4⟩, h⟩ := h
  refine j_callVi X [.int v3] [] (c_X0_rootByLists h) (T := TX0) (N := 3) g4 rfl jm_X0_rootByLists jw_1245 rfl ⟨rfl, rfl⟩ (by rw [hR]; decide) rfl (Nat.le_of_ble_eq_true rfl) dX8_rootOfFlakes_12 (fun v4 w4 h => ?_)
  exact Rt.i dX8_rootOfFlakes_15 ⟨_, rfl, h⟩ (by first | decide | omega) (by first | decide | omega)
def w_X8_rootOfFlakes (κ : Nat → Nat) (w : va_W) (a0 : Nat) (x1 : Int32) (P : Int32 → va_W → Prop) (E : String → va_W → Prop) : Prop := w_X8_rootOfFlakes_b0 κ w a0 x1 P E
theorem c_X8_rootOfFlakes {E9 : jE} {w : va_W} {a0 : Nat} {x1 : Int32} {P : Int32 → va_W → Prop} {E : String → va_W → Prop} (h : w_X8_rootOfFlakes E9.2.2.2 w a0 x1 P E) : jCx E9 yX8_rootOfFlakes cX8_rootOfFlakes 2 (some .int) ({ frames := 7, cells := 1, slots := 6, locals := 112 } : Room) [.ref a0, .int x1] w 1 6 (jPi P) E := by
  refine jCx_of (by decide) (Nat.le_of_ble_eq_true rfl) ?_
  intro Γ X hE hR Rt Out Th ThW
  subst hE
  exact k_X8_rootOfFlakes_b0 X hR Rt Out Th ThW h
theorem jm_X8_rootOfFlakesByHalves : jMv yX8_rootOfFlakesByHalves cX8_rootOfFlakesByHalves 2 (some .int) 1 := ⟨jw_1400, jw_1401, jw_22, jw_1402, ⟨by decide +kernel, by decide +kernel⟩, by decide +kernel⟩
def w_X8_rootOfFlakesByHalves_b0 (κ : Nat → Nat) (w : va_W) (a0 : Nat) (x1 : Int32) (P : Int32 → va_W → Prop) (E : String → va_W → Prop) : Prop :=
    jgR' w a0 11 0 (fun r1 => jgR' w r1 8 5 (fun r2 => (jRc w a0 11 ∧ w_X8_requireBlock κ w a0 x1 (fun v3 w3 => (jRc w3 r2 4 ∧ w_X0_rootByHalves κ w3 r2 v3 (fun v4 w4 => P v4 w4))) E)))
set_option maxRecDepth 100000 in
set_option maxHeartbeats 4000000 in
theorem k_X8_rootOfFlakesByHalves_b0 {Γ : jG} (X : jX Γ cX8_rootOfFlakesByHalves 2 RX8) (hR : jgR Γ = ({ frames := 15, cells := 1, slots := 6, locals := 383 } : Room)) {P : Int32 → va_W → Prop} {E : String → va_W → Prop} (Rt : jRt Γ cX8_rootOfFlakesByHalves 2 1 6 (some .int) (jPi P)) (Out : jOut Γ 2 1 6 E) (Th : jTh Γ cX8_rootOfFlakesByHalves 2 RX8 1 6 E) (ThW : jThW Γ cX8_rootOfFlakesByHalves 2 RX8 1 6 E) {w : va_W} {a0 : Nat} {x1 : Int32} (h : w_X8_rootOfFlakesByHalves_b0 (jgE Γ).2.2.2 w a0 x1 P E) : J Γ 2 w 0 0 0 [(0, .ref a0), (1, .int x1)] [] := by
  unfold w_X8_rootOfFlakesByHalves_b0 at h
  refine j_aload_n X dX8_rootOfFlakesByHalves_0 0 rfl ?_
  obtain ⟨fs1, r1, g1, i1, h⟩ := h
  refine j_get X (ci := 11) (C := RX8) (T := TX8) (N := 11) rfl jin_X8 0 (by decide) g1 i1 jw_302 rfl dX8_rootOfFlakesByHalves_1 ?_
  obtain ⟨fs2, r2, g2, i2, h⟩ := h
  refine j_getN X (ci := 8) (C := RX5) (T := TX5) (N := 12) rfl jin_X5 5 (by decide) g2 i2 jw_127 rfl dX8_rootOfFlakesByHalves_4 ?_
  refine j_aload_n X dX8_rootOfFlakesByHalves_7 0 rfl ?_
  refine j_iload_n X dX8_rootOfFlakesByHalves_8 1 rfl ?_
  obtain ⟨⟨fs3, g3⟩, h⟩ := h
  refine j_callVxi X [.int x1] [.ref r2] (c_X8_requireBlock h) (T := TX8) (N := 11) g3 rfl jm_X8_requireBlock jw_1278 rfl ⟨rfl, rfl⟩ (by rw [hR]; decide) rfl (Nat.le_of_ble_eq_true rfl) dX8_rootOfFlakesByHalves_9 (fun v3 w3 h => ?_) (fun Cx _ h => Out _ _ _ _ _ Cx (by decide) (by decide) h)
  obtain ⟨⟨fs4, g4⟩, h⟩ := h
  refine j_callVi X [.int v3] [] (c_X0_rootByHalves h) (T := TX0) (N := 3) g4 rfl jm_X0_rootByHalves jw_1403 rfl ⟨rfl, rfl⟩ (by rw [hR]; decide) rfl (Nat.le_of_ble_eq_true rfl) dX8_rootOfFlakesByHalves_12 (fun v4 w4 h => ?_)
  exact Rt.i dX8_rootOfFlakesByHalves_15 ⟨_, rfl, h⟩ (by first | decide | omega) (by first | decide | omega)
def w_X8_rootOfFlakesByHalves (κ : Nat → Nat) (w : va_W) (a0 : Nat) (x1 : Int32) (P : Int32 → va_W → Prop) (E : String → va_W → Prop) : Prop := w_X8_rootOfFlakesByHalves_b0 κ w a0 x1 P E
theorem c_X8_rootOfFlakesByHalves {E9 : jE} {w : va_W} {a0 : Nat} {x1 : Int32} {P : Int32 → va_W → Prop} {E : String → va_W → Prop} (h : w_X8_rootOfFlakesByHalves E9.2.2.2 w a0 x1 P E) : jCx E9 yX8_rootOfFlakesByHalves cX8_rootOfFlakesByHalves 2 (some .int) ({ frames := 15, cells := 1, slots := 6, locals := 383 } : Room) [.ref a0, .int x1] w 1 6 (jPi P) E := by
  refine jCx_of (by decide) (Nat.le_of_ble_eq_true rfl) ?_
  intro Γ X hE hR Rt Out Th ThW
  subst hE
  exact k_X8_rootOfFlakesByHalves_b0 X hR Rt Out Th ThW h
theorem jm_X8_heightOf : jMv yX8_heightOf cX8_heightOf 2 (some .int) 1 := ⟨jw_1374, jw_1375, jw_22, jw_1376, ⟨by decide +kernel, by decide +kernel⟩, by decide +kernel⟩
def w_X8_heightOf_b0 (κ : Nat → Nat) (w : va_W) (a0 : Nat) (x1 : Int32) (P : Int32 → va_W → Prop) (E : String → va_W → Prop) : Prop :=
    jgR' w a0 11 1 (fun r1 => (jRc w a0 11 ∧ w_X8_requireBlock κ w a0 x1 (fun v2 w2 => (jRc w2 r1 9 ∧ w_X6_heightByWalk κ w2 r1 v2 (fun v3 w3 => P v3 w3))) E))
set_option maxRecDepth 100000 in
set_option maxHeartbeats 4000000 in
theorem k_X8_heightOf_b0 {Γ : jG} (X : jX Γ cX8_heightOf 2 RX8) (hR : jgR Γ = ({ frames := 7, cells := 1, slots := 6, locals := 112 } : Room)) {P : Int32 → va_W → Prop} {E : String → va_W → Prop} (Rt : jRt Γ cX8_heightOf 2 1 6 (some .int) (jPi P)) (Out : jOut Γ 2 1 6 E) (Th : jTh Γ cX8_heightOf 2 RX8 1 6 E) (ThW : jThW Γ cX8_heightOf 2 RX8 1 6 E) {w : va_W} {a0 : Nat} {x1 : Int32} (h : w_X8_heightOf_b0 (jgE Γ).2.2.2 w a0 x1 P E) : J Γ 2 w 0 0 0 [(0, .ref a0), (1, .int x1)] [] := by
  unfold w_X8_heightOf_b0 at h
  refine j_aload_n X dX8_heightOf_0 0 rfl ?_
  obtain ⟨fs1, r1, g1, i1, h⟩ := h
  refine j_get X (ci := 11) (C := RX8) (T := TX8) (N := 11) rfl jin_X8 1 (by decide) g1 i1 jw_303 rfl dX8_heightOf_1 ?_
  refine j_aload_n X dX8_heightOf_4 0 rfl ?_
  refine j_iload_n X dX8_heightOf_5 1 rfl ?_
  obtain ⟨⟨fs2, g2⟩, h⟩ := h
  refine j_callVxi X [.int x1] [.ref r1] (c_X8_requireBlock h) (T := TX8) (N := 11) g2 rfl jm_X8_requireBlock jw_1278 rfl ⟨rfl, rfl⟩ (by rw [hR]; decide) rfl (Nat.le_of_ble_eq_true rfl) dX8_heightOf_6 (fun v2 w2 h => ?_) (fun Cx _ h => Out _ _ _ _ _ Cx (by decide) (by decide) h)
  obtain ⟨⟨fs3, g3⟩, h⟩ := h
  refine j_callVi X [.int v2] [] (c_X6_heightByWalk h) (T := TX6) (N := 2) g3 rfl jm_X6_heightByWalk jw_1377 rfl ⟨rfl, rfl⟩ (by rw [hR]; decide) rfl (Nat.le_of_ble_eq_true rfl) dX8_heightOf_9 (fun v3 w3 h => ?_)
  exact Rt.i dX8_heightOf_12 ⟨_, rfl, h⟩ (by first | decide | omega) (by first | decide | omega)
def w_X8_heightOf (κ : Nat → Nat) (w : va_W) (a0 : Nat) (x1 : Int32) (P : Int32 → va_W → Prop) (E : String → va_W → Prop) : Prop := w_X8_heightOf_b0 κ w a0 x1 P E
theorem c_X8_heightOf {E9 : jE} {w : va_W} {a0 : Nat} {x1 : Int32} {P : Int32 → va_W → Prop} {E : String → va_W → Prop} (h : w_X8_heightOf E9.2.2.2 w a0 x1 P E) : jCx E9 yX8_heightOf cX8_heightOf 2 (some .int) ({ frames := 7, cells := 1, slots := 6, locals := 112 } : Room) [.ref a0, .int x1] w 1 6 (jPi P) E := by
  refine jCx_of (by decide) (Nat.le_of_ble_eq_true rfl) ?_
  intro Γ X hE hR Rt Out Th ThW
  subst hE
  exact k_X8_heightOf_b0 X hR Rt Out Th ThW h
theorem jm_X8_heightFromRoot : jMv yX8_heightFromRoot cX8_heightFromRoot 2 (some .int) 1 := ⟨jw_1405, jw_1406, jw_22, jw_1407, ⟨by decide +kernel, by decide +kernel⟩, by decide +kernel⟩
def w_X8_heightFromRoot_b0 (κ : Nat → Nat) (w : va_W) (a0 : Nat) (x1 : Int32) (P : Int32 → va_W → Prop) (E : String → va_W → Prop) : Prop :=
    jgR' w a0 11 1 (fun r1 => (jRc w a0 11 ∧ w_X8_requireBlock κ w a0 x1 (fun v2 w2 => (jRc w2 r1 9 ∧ w_X6_heightBySearch κ w2 r1 v2 (fun v3 w3 => P v3 w3))) E))
set_option maxRecDepth 100000 in
set_option maxHeartbeats 4000000 in
theorem k_X8_heightFromRoot_b0 {Γ : jG} (X : jX Γ cX8_heightFromRoot 2 RX8) (hR : jgR Γ = ({ frames := 23, cells := 1, slots := 6, locals := 567 } : Room)) {P : Int32 → va_W → Prop} {E : String → va_W → Prop} (Rt : jRt Γ cX8_heightFromRoot 2 1 6 (some .int) (jPi P)) (Out : jOut Γ 2 1 6 E) (Th : jTh Γ cX8_heightFromRoot 2 RX8 1 6 E) (ThW : jThW Γ cX8_heightFromRoot 2 RX8 1 6 E) {w : va_W} {a0 : Nat} {x1 : Int32} (h : w_X8_heightFromRoot_b0 (jgE Γ).2.2.2 w a0 x1 P E) : J Γ 2 w 0 0 0 [(0, .ref a0), (1, .int x1)] [] := by
  unfold w_X8_heightFromRoot_b0 at h
  refine j_aload_n X dX8_heightFromRoot_0 0 rfl ?_
  obtain ⟨fs1, r1, g1, i1, h⟩ := h
  refine j_get X (ci := 11) (C := RX8) (T := TX8) (N := 11) rfl jin_X8 1 (by decide) g1 i1 jw_303 rfl dX8_heightFromRoot_1 ?_
  refine j_aload_n X dX8_heightFromRoot_4 0 rfl ?_
  refine j_iload_n X dX8_heightFromRoot_5 1 rfl ?_
  obtain ⟨⟨fs2, g2⟩, h⟩ := h
  refine j_callVxi X [.int x1] [.ref r1] (c_X8_requireBlock h) (T := TX8) (N := 11) g2 rfl jm_X8_requireBlock jw_1278 rfl ⟨rfl, rfl⟩ (by rw [hR]; decide) rfl (Nat.le_of_ble_eq_true rfl) dX8_heightFromRoot_6 (fun v2 w2 h => ?_) (fun Cx _ h => Out _ _ _ _ _ Cx (by decide) (by decide) h)
  obtain ⟨⟨fs3, g3⟩, h⟩ := h
  refine j_callVi X [.int v2] [] (c_X6_heightBySearch h) (T := TX6) (N := 2) g3 rfl jm_X6_heightBySearch jw_1408 rfl ⟨rfl, rfl⟩ (by rw [hR]; decide) rfl (Nat.le_of_ble_eq_true rfl) dX8_heightFromRoot_9 (fun v3 w3 h => ?_)
  exact Rt.i dX8_heightFromRoot_12 ⟨_, rfl, h⟩ (by first | decide | omega) (by first | decide | omega)
def w_X8_heightFromRoot (κ : Nat → Nat) (w : va_W) (a0 : Nat) (x1 : Int32) (P : Int32 → va_W → Prop) (E : String → va_W → Prop) : Prop := w_X8_heightFromRoot_b0 κ w a0 x1 P E
theorem c_X8_heightFromRoot {E9 : jE} {w : va_W} {a0 : Nat} {x1 : Int32} {P : Int32 → va_W → Prop} {E : String → va_W → Prop} (h : w_X8_heightFromRoot E9.2.2.2 w a0 x1 P E) : jCx E9 yX8_heightFromRoot cX8_heightFromRoot 2 (some .int) ({ frames := 23, cells := 1, slots := 6, locals := 567 } : Room) [.ref a0, .int x1] w 1 6 (jPi P) E := by
  refine jCx_of (by decide) (Nat.le_of_ble_eq_true rfl) ?_
  intro Γ X hE hR Rt Out Th ThW
  subst hE
  exact k_X8_heightFromRoot_b0 X hR Rt Out Th ThW h
theorem jm_X8_isValid : jMv yX8_isValid cX8_isValid 2 (some .boolean) 1 := ⟨jw_1360, jw_1361, jw_22, jw_1362, ⟨by decide +kernel, by decide +kernel⟩, by decide +kernel⟩
def w_X8_isValid_b0 (κ : Nat → Nat) (w : va_W) (a0 : Nat) (x1 : Int32) (P : Int32 → va_W → Prop) (E : String → va_W → Prop) : Prop :=
    jgR' w a0 11 1 (fun r1 => (jRc w a0 11 ∧ w_X8_requireBlock κ w a0 x1 (fun v2 w2 => (jRc w2 r1 9 ∧ w_X6_holds κ w2 r1 v2 (fun v3 w3 => (narrow .boolean (.int v3) = .int v3 ∧ P v3 w3)))) E))
set_option maxRecDepth 100000 in
set_option maxHeartbeats 4000000 in
theorem k_X8_isValid_b0 {Γ : jG} (X : jX Γ cX8_isValid 2 RX8) (hR : jgR Γ = ({ frames := 7, cells := 1, slots := 6, locals := 112 } : Room)) {P : Int32 → va_W → Prop} {E : String → va_W → Prop} (Rt : jRt Γ cX8_isValid 2 1 6 (some .boolean) (jPi P)) (Out : jOut Γ 2 1 6 E) (Th : jTh Γ cX8_isValid 2 RX8 1 6 E) (ThW : jThW Γ cX8_isValid 2 RX8 1 6 E) {w : va_W} {a0 : Nat} {x1 : Int32} (h : w_X8_isValid_b0 (jgE Γ).2.2.2 w a0 x1 P E) : J Γ 2 w 0 0 0 [(0, .ref a0), (1, .int x1)] [] := by
  unfold w_X8_isValid_b0 at h
  refine j_aload_n X dX8_isValid_0 0 rfl ?_
  obtain ⟨fs1, r1, g1, i1, h⟩ := h
  refine j_get X (ci := 11) (C := RX8) (T := TX8) (N := 11) rfl jin_X8 1 (by decide) g1 i1 jw_303 rfl dX8_isValid_1 ?_
  refine j_aload_n X dX8_isValid_4 0 rfl ?_
  refine j_iload_n X dX8_isValid_5 1 rfl ?_
  obtain ⟨⟨fs2, g2⟩, h⟩ := h
  refine j_callVxi X [.int x1] [.ref r1] (c_X8_requireBlock h) (T := TX8) (N := 11) g2 rfl jm_X8_requireBlock jw_1278 rfl ⟨rfl, rfl⟩ (by rw [hR]; decide) rfl (Nat.le_of_ble_eq_true rfl) dX8_isValid_6 (fun v2 w2 h => ?_) (fun Cx _ h => Out _ _ _ _ _ Cx (by decide) (by decide) h)
  obtain ⟨⟨fs3, g3⟩, h⟩ := h
  refine j_callVi X [.int v2] [] (c_X6_holds h) (T := TX6) (N := 2) g3 rfl jm_X6_holds jw_1363 rfl ⟨rfl, rfl⟩ (by rw [hR]; decide) rfl (Nat.le_of_ble_eq_true rfl) dX8_isValid_9 (fun v3 w3 h => ?_)
  exact Rt.z dX8_isValid_12 h.1 ⟨_, rfl, h.2⟩ (by first | decide | omega) (by first | decide | omega)
def w_X8_isValid (κ : Nat → Nat) (w : va_W) (a0 : Nat) (x1 : Int32) (P : Int32 → va_W → Prop) (E : String → va_W → Prop) : Prop := w_X8_isValid_b0 κ w a0 x1 P E
theorem c_X8_isValid {E9 : jE} {w : va_W} {a0 : Nat} {x1 : Int32} {P : Int32 → va_W → Prop} {E : String → va_W → Prop} (h : w_X8_isValid E9.2.2.2 w a0 x1 P E) : jCx E9 yX8_isValid cX8_isValid 2 (some .boolean) ({ frames := 7, cells := 1, slots := 6, locals := 112 } : Room) [.ref a0, .int x1] w 1 6 (jPi P) E := by
  refine jCx_of (by decide) (Nat.le_of_ble_eq_true rfl) ?_
  intro Γ X hE hR Rt Out Th ThW
  subst hE
  exact k_X8_isValid_b0 X hR Rt Out Th ThW h
theorem jm_X8_isBranchValid : jMv yX8_isBranchValid cX8_isBranchValid 2 (some .boolean) 1 := ⟨jw_1347, jw_1348, jw_22, jw_1349, ⟨by decide +kernel, by decide +kernel⟩, by decide +kernel⟩
def w_X8_isBranchValid_b21 (κ : Nat → Nat) (w : va_W) (s0 : Int32) (P : Int32 → va_W → Prop) (E : String → va_W → Prop) : Prop :=
    (narrow .boolean (.int s0) = .int s0 ∧ P s0 w)
set_option maxRecDepth 100000 in
set_option maxHeartbeats 4000000 in
theorem k_X8_isBranchValid_b21 {Γ : jG} (X : jX Γ cX8_isBranchValid 2 RX8) (hR : jgR Γ = ({ frames := 7, cells := 1, slots := 6, locals := 112 } : Room)) {P : Int32 → va_W → Prop} {E : String → va_W → Prop} (Rt : jRt Γ cX8_isBranchValid 2 1 6 (some .boolean) (jPi P)) (Out : jOut Γ 2 1 6 E) (Th : jTh Γ cX8_isBranchValid 2 RX8 1 6 E) (ThW : jThW Γ cX8_isBranchValid 2 RX8 1 6 E) {w : va_W} {s0 : Int32} (h : w_X8_isBranchValid_b21 (jgE Γ).2.2.2 w s0 P E) : J Γ 2 w 1 6 21 [] [.int s0] := by
  unfold w_X8_isBranchValid_b21 at h
  exact Rt.z dX8_isBranchValid_21 h.1 ⟨_, rfl, h.2⟩ (by first | decide | omega) (by first | decide | omega)
def w_X8_isBranchValid_b0 (κ : Nat → Nat) (w : va_W) (a0 : Nat) (x1 : Int32) (P : Int32 → va_W → Prop) (E : String → va_W → Prop) : Prop :=
    jgR' w a0 11 1 (fun r1 => (jRc w a0 11 ∧ w_X8_requireBlock κ w a0 x1 (fun v2 w2 => (jRc w2 r1 9 ∧ w_X6_lowestBroken κ w2 r1 v2 (fun v3 w3 => (if v3 = (-1) then w_X8_isBranchValid_b21 κ w3 1 P E else w_X8_isBranchValid_b21 κ w3 0 P E)))) E))
set_option maxRecDepth 100000 in
set_option maxHeartbeats 4000000 in
theorem k_X8_isBranchValid_b0 {Γ : jG} (X : jX Γ cX8_isBranchValid 2 RX8) (hR : jgR Γ = ({ frames := 7, cells := 1, slots := 6, locals := 112 } : Room)) {P : Int32 → va_W → Prop} {E : String → va_W → Prop} (Rt : jRt Γ cX8_isBranchValid 2 1 6 (some .boolean) (jPi P)) (Out : jOut Γ 2 1 6 E) (Th : jTh Γ cX8_isBranchValid 2 RX8 1 6 E) (ThW : jThW Γ cX8_isBranchValid 2 RX8 1 6 E) {w : va_W} {a0 : Nat} {x1 : Int32} (h : w_X8_isBranchValid_b0 (jgE Γ).2.2.2 w a0 x1 P E) : J Γ 2 w 0 0 0 [(0, .ref a0), (1, .int x1)] [] := by
  unfold w_X8_isBranchValid_b0 at h
  refine j_aload_n X dX8_isBranchValid_0 0 rfl ?_
  obtain ⟨fs1, r1, g1, i1, h⟩ := h
  refine j_get X (ci := 11) (C := RX8) (T := TX8) (N := 11) rfl jin_X8 1 (by decide) g1 i1 jw_303 rfl dX8_isBranchValid_1 ?_
  refine j_aload_n X dX8_isBranchValid_4 0 rfl ?_
  refine j_iload_n X dX8_isBranchValid_5 1 rfl ?_
  obtain ⟨⟨fs2, g2⟩, h⟩ := h
  refine j_callVxi X [.int x1] [.ref r1] (c_X8_requireBlock h) (T := TX8) (N := 11) g2 rfl jm_X8_requireBlock jw_1278 rfl ⟨rfl, rfl⟩ (by rw [hR]; decide) rfl (Nat.le_of_ble_eq_true rfl) dX8_isBranchValid_6 (fun v2 w2 h => ?_) (fun Cx _ h => Out _ _ _ _ _ Cx (by decide) (by decide) h)
  obtain ⟨⟨fs3, g3⟩, h⟩ := h
  refine j_callVi X [.int v2] [] (c_X6_lowestBroken h) (T := TX6) (N := 2) g3 rfl jm_X6_lowestBroken jw_1350 rfl ⟨rfl, rfl⟩ (by rw [hR]; decide) rfl (Nat.le_of_ble_eq_true rfl) dX8_isBranchValid_9 (fun v3 w3 h => ?_)
  refine j_iconst X (-1) dX8_isBranchValid_12 (by decide) ?_
  refine j_icmp_ne X 20 dX8_isBranchValid_13 (by decide) (fun c => ?_) (fun c => ?_)
  · replace h := jif_f c h
    refine j_iconst X 0 dX8_isBranchValid_20 (by decide) ?_
    refine j_sub [] rfl ?_
    refine j_widen (k := 1) (n := 6) (by decide) (by decide) ?_
    exact k_X8_isBranchValid_b21 X hR Rt Out Th ThW h
  · replace h := jif_t c h
    refine j_iconst X 1 dX8_isBranchValid_16 (by decide) ?_
    refine j_goto X 21 dX8_isBranchValid_17 (by decide) ?_
    refine j_sub [] rfl ?_
    refine j_widen (k := 1) (n := 6) (by decide) (by decide) ?_
    exact k_X8_isBranchValid_b21 X hR Rt Out Th ThW h
def w_X8_isBranchValid (κ : Nat → Nat) (w : va_W) (a0 : Nat) (x1 : Int32) (P : Int32 → va_W → Prop) (E : String → va_W → Prop) : Prop := w_X8_isBranchValid_b0 κ w a0 x1 P E
theorem c_X8_isBranchValid {E9 : jE} {w : va_W} {a0 : Nat} {x1 : Int32} {P : Int32 → va_W → Prop} {E : String → va_W → Prop} (h : w_X8_isBranchValid E9.2.2.2 w a0 x1 P E) : jCx E9 yX8_isBranchValid cX8_isBranchValid 2 (some .boolean) ({ frames := 7, cells := 1, slots := 6, locals := 112 } : Room) [.ref a0, .int x1] w 1 6 (jPi P) E := by
  refine jCx_of (by decide) (Nat.le_of_ble_eq_true rfl) ?_
  intro Γ X hE hR Rt Out Th ThW
  subst hE
  exact k_X8_isBranchValid_b0 X hR Rt Out Th ThW h
theorem jm_X8_firstInvalid : jMv yX8_firstInvalid cX8_firstInvalid 3 (some .int) 1 := ⟨jw_1386, jw_1387, jw_22, jw_1388, ⟨by decide +kernel, by decide +kernel⟩, by decide +kernel⟩
def w_X8_firstInvalid_b0 (κ : Nat → Nat) (w : va_W) (a0 : Nat) (x1 : Int32) (P : Int32 → va_W → Prop) (E : String → va_W → Prop) : Prop :=
    jgR' w a0 11 1 (fun r1 => (jRc w a0 11 ∧ w_X8_requireBlock κ w a0 x1 (fun v2 w2 => (jRc w2 r1 9 ∧ w_X6_lowestBroken κ w2 r1 v2 (fun v3 w3 => (if v3 = (-1) then E "java/util/NoSuchElementException" w3 else jgR' w3 a0 11 0 (fun r4 => jgR' w3 r4 8 0 (fun r5 => (jRc w3 r5 6 ∧ w_X3_at κ w3 r5 v3 (fun v6 w6 => P v6 w6)))))))) E))
set_option maxRecDepth 100000 in
set_option maxHeartbeats 4000000 in
theorem k_X8_firstInvalid_b0 {Γ : jG} (X : jX Γ cX8_firstInvalid 3 RX8) (hR : jgR Γ = ({ frames := 7, cells := 2, slots := 12, locals := 112 } : Room)) {P : Int32 → va_W → Prop} {E : String → va_W → Prop} (Rt : jRt Γ cX8_firstInvalid 3 2 12 (some .int) (jPi P)) (Out : jOut Γ 3 2 12 E) (Th : jTh Γ cX8_firstInvalid 3 RX8 2 12 E) (ThW : jThW Γ cX8_firstInvalid 3 RX8 2 12 E) {w : va_W} {a0 : Nat} {x1 : Int32} (h : w_X8_firstInvalid_b0 (jgE Γ).2.2.2 w a0 x1 P E) : J Γ 3 w 0 0 0 [(0, .ref a0), (1, .int x1)] [] := by
  unfold w_X8_firstInvalid_b0 at h
  refine j_aload_n X dX8_firstInvalid_0 0 rfl ?_
  obtain ⟨fs1, r1, g1, i1, h⟩ := h
  refine j_get X (ci := 11) (C := RX8) (T := TX8) (N := 11) rfl jin_X8 1 (by decide) g1 i1 jw_303 rfl dX8_firstInvalid_1 ?_
  refine j_aload_n X dX8_firstInvalid_4 0 rfl ?_
  refine j_iload_n X dX8_firstInvalid_5 1 rfl ?_
  obtain ⟨⟨fs2, g2⟩, h⟩ := h
  refine j_callVxi X [.int x1] [.ref r1] (c_X8_requireBlock h) (T := TX8) (N := 11) g2 rfl jm_X8_requireBlock jw_1278 rfl ⟨rfl, rfl⟩ (by rw [hR]; decide) rfl (Nat.le_of_ble_eq_true rfl) dX8_firstInvalid_6 (fun v2 w2 h => ?_) (fun Cx _ h => Out _ _ _ _ _ Cx (by decide) (by decide) h)
  obtain ⟨⟨fs3, g3⟩, h⟩ := h
  refine j_callVi X [.int v2] [] (c_X6_lowestBroken h) (T := TX6) (N := 2) g3 rfl jm_X6_lowestBroken jw_1350 rfl ⟨rfl, rfl⟩ (by rw [hR]; decide) rfl (Nat.le_of_ble_eq_true rfl) dX8_firstInvalid_9 (fun v3 w3 h => ?_)
  refine j_istore_n X [(2, .int v3), (0, .ref a0), (1, .int x1)] dX8_firstInvalid_12 (by decide) rfl ?_
  refine j_iload_n X dX8_firstInvalid_13 0 rfl ?_
  refine j_iconst X (-1) dX8_firstInvalid_14 (by decide) ?_
  refine j_icmp_ne X 28 dX8_firstInvalid_15 (by decide) (fun c => ?_) (fun c => ?_)
  · replace h := jif_f c h
    refine j_aload_n X dX8_firstInvalid_28 1 rfl ?_
    obtain ⟨fs4, r4, g4, i4, h⟩ := h
    refine j_get X (ci := 11) (C := RX8) (T := TX8) (N := 11) rfl jin_X8 0 (by decide) g4 i4 jw_302 rfl dX8_firstInvalid_29 ?_
    obtain ⟨fs5, r5, g5, i5, h⟩ := h
    refine j_getN X (ci := 8) (C := RX5) (T := TX5) (N := 12) rfl jin_X5 0 (by decide) g5 i5 jw_106 rfl dX8_firstInvalid_32 ?_
    refine j_iload_n X dX8_firstInvalid_35 0 rfl ?_
    obtain ⟨⟨fs6, g6⟩, h⟩ := h
    refine j_callVi X [.int v3] [] (c_X3_at h) (T := TX3) (N := 1) g6 rfl jm_X3_at jw_1072 rfl ⟨rfl, rfl⟩ (by rw [hR]; decide) rfl (Nat.le_of_ble_eq_true rfl) dX8_firstInvalid_36 (fun v6 w6 h => ?_)
    exact Rt.i dX8_firstInvalid_39 ⟨_, rfl, h⟩ (by first | decide | omega) (by first | decide | omega)
  · replace h := jif_t c h
    exact Th _ _ _ 18 _ _ 200 202 204 42 13 jrx13 "java/util/NoSuchElementException" "the branch is valid" "java/lang/RuntimeException" ["java/lang/Exception"] (by decide +kernel) (by decide +kernel) (by decide +kernel) (by decide +kernel) dX8_firstInvalid_18 dX8_firstInvalid_21 dX8_firstInvalid_22 dX8_firstInvalid_24 dX8_firstInvalid_27 (List.mem_of_getElem? (i := 42) rfl) (by decide +kernel) (by decide +kernel) (by decide +kernel) jw_474 jw_41 jat_204 (by rw [hR]; exact ⟨by decide, Nat.le_of_ble_eq_true rfl, by decide, by decide⟩) (by decide) (by decide) h
def w_X8_firstInvalid (κ : Nat → Nat) (w : va_W) (a0 : Nat) (x1 : Int32) (P : Int32 → va_W → Prop) (E : String → va_W → Prop) : Prop := w_X8_firstInvalid_b0 κ w a0 x1 P E
theorem c_X8_firstInvalid {E9 : jE} {w : va_W} {a0 : Nat} {x1 : Int32} {P : Int32 → va_W → Prop} {E : String → va_W → Prop} (h : w_X8_firstInvalid E9.2.2.2 w a0 x1 P E) : jCx E9 yX8_firstInvalid cX8_firstInvalid 3 (some .int) ({ frames := 7, cells := 2, slots := 12, locals := 112 } : Room) [.ref a0, .int x1] w 2 12 (jPi P) E := by
  refine jCx_of (by decide) (Nat.le_of_ble_eq_true rfl) ?_
  intro Γ X hE hR Rt Out Th ThW
  subst hE
  exact k_X8_firstInvalid_b0 X hR Rt Out Th ThW h
theorem jm_X8_isInBranch : jMv yX8_isInBranch cX8_isInBranch 4 (some .boolean) 2 := ⟨jw_1391, jw_1392, jw_22, jw_1393, ⟨by decide +kernel, by decide +kernel⟩, by decide +kernel⟩
def w_X8_isInBranch_b0 (κ : Nat → Nat) (w : va_W) (a0 : Nat) (x1 : Int32) (x2 : Int32) (P : Int32 → va_W → Prop) (E : String → va_W → Prop) : Prop :=
    (jRc w a0 11 ∧ w_X8_requireBlock κ w a0 x1 (fun v1 w1 => jgR' w1 a0 11 1 (fun r2 => (jRc w1 a0 11 ∧ w_X8_requireBlock κ w1 a0 x2 (fun v3 w3 => (jRc w3 r2 9 ∧ w_X6_reaches κ w3 r2 v3 v1 (fun v4 w4 => (narrow .boolean (.int v4) = .int v4 ∧ P v4 w4)))) E))) E)
set_option maxRecDepth 100000 in
set_option maxHeartbeats 4000000 in
theorem k_X8_isInBranch_b0 {Γ : jG} (X : jX Γ cX8_isInBranch 4 RX8) (hR : jgR Γ = ({ frames := 7, cells := 2, slots := 12, locals := 112 } : Room)) {P : Int32 → va_W → Prop} {E : String → va_W → Prop} (Rt : jRt Γ cX8_isInBranch 4 2 12 (some .boolean) (jPi P)) (Out : jOut Γ 4 2 12 E) (Th : jTh Γ cX8_isInBranch 4 RX8 2 12 E) (ThW : jThW Γ cX8_isInBranch 4 RX8 2 12 E) {w : va_W} {a0 : Nat} {x1 : Int32} {x2 : Int32} (h : w_X8_isInBranch_b0 (jgE Γ).2.2.2 w a0 x1 x2 P E) : J Γ 4 w 0 0 0 [(0, .ref a0), (1, .int x1), (2, .int x2)] [] := by
  unfold w_X8_isInBranch_b0 at h
  refine j_aload_n X dX8_isInBranch_0 0 rfl ?_
  refine j_iload_n X dX8_isInBranch_1 1 rfl ?_
  obtain ⟨⟨fs1, g1⟩, h⟩ := h
  refine j_callVxi X [.int x1] [] (c_X8_requireBlock h) (T := TX8) (N := 11) g1 rfl jm_X8_requireBlock jw_1278 rfl ⟨rfl, rfl⟩ (by rw [hR]; decide) rfl (Nat.le_of_ble_eq_true rfl) dX8_isInBranch_2 (fun v1 w1 h => ?_) (fun Cx _ h => Out _ _ _ _ _ Cx (by decide) (by decide) h)
  refine j_istore_n X [(3, .int v1), (0, .ref a0), (1, .int x1), (2, .int x2)] dX8_isInBranch_5 (by decide) rfl ?_
  refine j_aload_n X dX8_isInBranch_6 1 rfl ?_
  obtain ⟨fs2, r2, g2, i2, h⟩ := h
  refine j_get X (ci := 11) (C := RX8) (T := TX8) (N := 11) rfl jin_X8 1 (by decide) g2 i2 jw_303 rfl dX8_isInBranch_7 ?_
  refine j_aload_n X dX8_isInBranch_10 1 rfl ?_
  refine j_iload_n X dX8_isInBranch_11 3 rfl ?_
  obtain ⟨⟨fs3, g3⟩, h⟩ := h
  refine j_callVxi X [.int x2] [.ref r2] (c_X8_requireBlock h) (T := TX8) (N := 11) g3 rfl jm_X8_requireBlock jw_1278 rfl ⟨rfl, rfl⟩ (by rw [hR]; decide) rfl (Nat.le_of_ble_eq_true rfl) dX8_isInBranch_12 (fun v3 w3 h => ?_) (fun Cx _ h => Out _ _ _ _ _ Cx (by decide) (by decide) h)
  refine j_iload_n X dX8_isInBranch_15 0 rfl ?_
  obtain ⟨⟨fs4, g4⟩, h⟩ := h
  refine j_callVi X [.int v3, .int v1] [] (c_X6_reaches h) (T := TX6) (N := 2) g4 rfl jm_X6_reaches jw_1394 rfl ⟨rfl, rfl⟩ (by rw [hR]; decide) rfl (Nat.le_of_ble_eq_true rfl) dX8_isInBranch_16 (fun v4 w4 h => ?_)
  exact Rt.z dX8_isInBranch_19 h.1 ⟨_, rfl, h.2⟩ (by first | decide | omega) (by first | decide | omega)
def w_X8_isInBranch (κ : Nat → Nat) (w : va_W) (a0 : Nat) (x1 : Int32) (x2 : Int32) (P : Int32 → va_W → Prop) (E : String → va_W → Prop) : Prop := w_X8_isInBranch_b0 κ w a0 x1 x2 P E
theorem c_X8_isInBranch {E9 : jE} {w : va_W} {a0 : Nat} {x1 : Int32} {x2 : Int32} {P : Int32 → va_W → Prop} {E : String → va_W → Prop} (h : w_X8_isInBranch E9.2.2.2 w a0 x1 x2 P E) : jCx E9 yX8_isInBranch cX8_isInBranch 4 (some .boolean) ({ frames := 7, cells := 2, slots := 12, locals := 112 } : Room) [.ref a0, .int x1, .int x2] w 2 12 (jPi P) E := by
  refine jCx_of (by decide) (Nat.le_of_ble_eq_true rfl) ?_
  intro Γ X hE hR Rt Out Th ThW
  subst hE
  exact k_X8_isInBranch_b0 X hR Rt Out Th ThW h
theorem jm_X8_forkOf : jMv yX8_forkOf cX8_forkOf 4 (some .int) 2 := ⟨jw_1455, jw_1456, jw_22, jw_1457, ⟨by decide +kernel, by decide +kernel⟩, by decide +kernel⟩
def w_X8_forkOf_b0 (κ : Nat → Nat) (w : va_W) (a0 : Nat) (x1 : Int32) (x2 : Int32) (P : Int32 → va_W → Prop) (E : String → va_W → Prop) : Prop :=
    (jRc w a0 11 ∧ w_X8_requireBlock κ w a0 x1 (fun v1 w1 => jgR' w1 a0 11 0 (fun r2 => jgR' w1 r2 8 0 (fun r3 => jgR' w1 a0 11 1 (fun r4 => (jRc w1 a0 11 ∧ w_X8_requireBlock κ w1 a0 x2 (fun v5 w5 => (jRc w5 r4 9 ∧ w_X6_fork κ w5 r4 v1 v5 (fun v6 w6 => (jRc w6 r3 6 ∧ w_X3_at κ w6 r3 v6 (fun v7 w7 => P v7 w7))))) E))))) E)
set_option maxRecDepth 100000 in
set_option maxHeartbeats 4000000 in
theorem k_X8_forkOf_b0 {Γ : jG} (X : jX Γ cX8_forkOf 4 RX8) (hR : jgR Γ = ({ frames := 7, cells := 2, slots := 12, locals := 112 } : Room)) {P : Int32 → va_W → Prop} {E : String → va_W → Prop} (Rt : jRt Γ cX8_forkOf 4 2 12 (some .int) (jPi P)) (Out : jOut Γ 4 2 12 E) (Th : jTh Γ cX8_forkOf 4 RX8 2 12 E) (ThW : jThW Γ cX8_forkOf 4 RX8 2 12 E) {w : va_W} {a0 : Nat} {x1 : Int32} {x2 : Int32} (h : w_X8_forkOf_b0 (jgE Γ).2.2.2 w a0 x1 x2 P E) : J Γ 4 w 0 0 0 [(0, .ref a0), (1, .int x1), (2, .int x2)] [] := by
  unfold w_X8_forkOf_b0 at h
  refine j_aload_n X dX8_forkOf_0 0 rfl ?_
  refine j_iload_n X dX8_forkOf_1 1 rfl ?_
  obtain ⟨⟨fs1, g1⟩, h⟩ := h
  refine j_callVxi X [.int x1] [] (c_X8_requireBlock h) (T := TX8) (N := 11) g1 rfl jm_X8_requireBlock jw_1278 rfl ⟨rfl, rfl⟩ (by rw [hR]; decide) rfl (Nat.le_of_ble_eq_true rfl) dX8_forkOf_2 (fun v1 w1 h => ?_) (fun Cx _ h => Out _ _ _ _ _ Cx (by decide) (by decide) h)
  refine j_istore_n X [(3, .int v1), (0, .ref a0), (1, .int x1), (2, .int x2)] dX8_forkOf_5 (by decide) rfl ?_
  refine j_aload_n X dX8_forkOf_6 1 rfl ?_
  obtain ⟨fs2, r2, g2, i2, h⟩ := h
  refine j_get X (ci := 11) (C := RX8) (T := TX8) (N := 11) rfl jin_X8 0 (by decide) g2 i2 jw_302 rfl dX8_forkOf_7 ?_
  obtain ⟨fs3, r3, g3, i3, h⟩ := h
  refine j_getN X (ci := 8) (C := RX5) (T := TX5) (N := 12) rfl jin_X5 0 (by decide) g3 i3 jw_106 rfl dX8_forkOf_10 ?_
  refine j_aload_n X dX8_forkOf_13 1 rfl ?_
  obtain ⟨fs4, r4, g4, i4, h⟩ := h
  refine j_get X (ci := 11) (C := RX8) (T := TX8) (N := 11) rfl jin_X8 1 (by decide) g4 i4 jw_303 rfl dX8_forkOf_14 ?_
  refine j_iload_n X dX8_forkOf_17 0 rfl ?_
  refine j_aload_n X dX8_forkOf_18 1 rfl ?_
  refine j_iload_n X dX8_forkOf_19 3 rfl ?_
  obtain ⟨⟨fs5, g5⟩, h⟩ := h
  refine j_callVxi X [.int x2] [.int v1, .ref r4, .ref r3] (c_X8_requireBlock h) (T := TX8) (N := 11) g5 rfl jm_X8_requireBlock jw_1278 rfl ⟨rfl, rfl⟩ (by rw [hR]; decide) rfl (Nat.le_of_ble_eq_true rfl) dX8_forkOf_20 (fun v5 w5 h => ?_) (fun Cx _ h => Out _ _ _ _ _ Cx (by decide) (by decide) h)
  obtain ⟨⟨fs6, g6⟩, h⟩ := h
  refine j_callVi X [.int v1, .int v5] [.ref r3] (c_X6_fork h) (T := TX6) (N := 2) g6 rfl jm_X6_fork jw_1458 rfl ⟨rfl, rfl⟩ (by rw [hR]; decide) rfl (Nat.le_of_ble_eq_true rfl) dX8_forkOf_23 (fun v6 w6 h => ?_)
  obtain ⟨⟨fs7, g7⟩, h⟩ := h
  refine j_callVi X [.int v6] [] (c_X3_at h) (T := TX3) (N := 1) g7 rfl jm_X3_at jw_1072 rfl ⟨rfl, rfl⟩ (by rw [hR]; decide) rfl (Nat.le_of_ble_eq_true rfl) dX8_forkOf_26 (fun v7 w7 h => ?_)
  exact Rt.i dX8_forkOf_29 ⟨_, rfl, h⟩ (by first | decide | omega) (by first | decide | omega)
def w_X8_forkOf (κ : Nat → Nat) (w : va_W) (a0 : Nat) (x1 : Int32) (x2 : Int32) (P : Int32 → va_W → Prop) (E : String → va_W → Prop) : Prop := w_X8_forkOf_b0 κ w a0 x1 x2 P E
theorem c_X8_forkOf {E9 : jE} {w : va_W} {a0 : Nat} {x1 : Int32} {x2 : Int32} {P : Int32 → va_W → Prop} {E : String → va_W → Prop} (h : w_X8_forkOf E9.2.2.2 w a0 x1 x2 P E) : jCx E9 yX8_forkOf cX8_forkOf 4 (some .int) ({ frames := 7, cells := 2, slots := 12, locals := 112 } : Room) [.ref a0, .int x1, .int x2] w 2 12 (jPi P) E := by
  refine jCx_of (by decide) (Nat.le_of_ble_eq_true rfl) ?_
  intro Γ X hE hR Rt Out Th ThW
  subst hE
  exact k_X8_forkOf_b0 X hR Rt Out Th ThW h
theorem jm_X8_meltSize : jMv yX8_meltSize cX8_meltSize 2 (some .int) 1 := ⟨jw_1410, jw_1411, jw_22, jw_1412, ⟨by decide +kernel, by decide +kernel⟩, by decide +kernel⟩
def w_X8_meltSize_b0 (κ : Nat → Nat) (w : va_W) (a0 : Nat) (x1 : Int32) (P : Int32 → va_W → Prop) (E : String → va_W → Prop) : Prop :=
    jgR' w a0 11 1 (fun r1 => (jRc w a0 11 ∧ w_X8_requireBlock κ w a0 x1 (fun v2 w2 => (jRc w2 r1 9 ∧ w_X6_countReaching κ w2 r1 v2 (fun v3 w3 => P v3 w3))) E))
set_option maxRecDepth 100000 in
set_option maxHeartbeats 4000000 in
theorem k_X8_meltSize_b0 {Γ : jG} (X : jX Γ cX8_meltSize 2 RX8) (hR : jgR Γ = ({ frames := 7, cells := 1, slots := 6, locals := 112 } : Room)) {P : Int32 → va_W → Prop} {E : String → va_W → Prop} (Rt : jRt Γ cX8_meltSize 2 1 6 (some .int) (jPi P)) (Out : jOut Γ 2 1 6 E) (Th : jTh Γ cX8_meltSize 2 RX8 1 6 E) (ThW : jThW Γ cX8_meltSize 2 RX8 1 6 E) {w : va_W} {a0 : Nat} {x1 : Int32} (h : w_X8_meltSize_b0 (jgE Γ).2.2.2 w a0 x1 P E) : J Γ 2 w 0 0 0 [(0, .ref a0), (1, .int x1)] [] := by
  unfold w_X8_meltSize_b0 at h
  refine j_aload_n X dX8_meltSize_0 0 rfl ?_
  obtain ⟨fs1, r1, g1, i1, h⟩ := h
  refine j_get X (ci := 11) (C := RX8) (T := TX8) (N := 11) rfl jin_X8 1 (by decide) g1 i1 jw_303 rfl dX8_meltSize_1 ?_
  refine j_aload_n X dX8_meltSize_4 0 rfl ?_
  refine j_iload_n X dX8_meltSize_5 1 rfl ?_
  obtain ⟨⟨fs2, g2⟩, h⟩ := h
  refine j_callVxi X [.int x1] [.ref r1] (c_X8_requireBlock h) (T := TX8) (N := 11) g2 rfl jm_X8_requireBlock jw_1278 rfl ⟨rfl, rfl⟩ (by rw [hR]; decide) rfl (Nat.le_of_ble_eq_true rfl) dX8_meltSize_6 (fun v2 w2 h => ?_) (fun Cx _ h => Out _ _ _ _ _ Cx (by decide) (by decide) h)
  obtain ⟨⟨fs3, g3⟩, h⟩ := h
  refine j_callVi X [.int v2] [] (c_X6_countReaching h) (T := TX6) (N := 2) g3 rfl jm_X6_countReaching jw_1413 rfl ⟨rfl, rfl⟩ (by rw [hR]; decide) rfl (Nat.le_of_ble_eq_true rfl) dX8_meltSize_9 (fun v3 w3 h => ?_)
  exact Rt.i dX8_meltSize_12 ⟨_, rfl, h⟩ (by first | decide | omega) (by first | decide | omega)
def w_X8_meltSize (κ : Nat → Nat) (w : va_W) (a0 : Nat) (x1 : Int32) (P : Int32 → va_W → Prop) (E : String → va_W → Prop) : Prop := w_X8_meltSize_b0 κ w a0 x1 P E
theorem c_X8_meltSize {E9 : jE} {w : va_W} {a0 : Nat} {x1 : Int32} {P : Int32 → va_W → Prop} {E : String → va_W → Prop} (h : w_X8_meltSize E9.2.2.2 w a0 x1 P E) : jCx E9 yX8_meltSize cX8_meltSize 2 (some .int) ({ frames := 7, cells := 1, slots := 6, locals := 112 } : Room) [.ref a0, .int x1] w 1 6 (jPi P) E := by
  refine jCx_of (by decide) (Nat.le_of_ble_eq_true rfl) ?_
  intro Γ X hE hR Rt Out Th ThW
  subst hE
  exact k_X8_meltSize_b0 X hR Rt Out Th ThW h
theorem jm_X8_differentFlakes : jMv yX8_differentFlakes cX8_differentFlakes 3 (some .int) 1 := ⟨jw_1432, jw_1433, jw_22, jw_1434, ⟨by decide +kernel, by decide +kernel⟩, by decide +kernel⟩
def w_X8_differentFlakes_b0 (κ : Nat → Nat) (w : va_W) (a0 : Nat) (x1 : Int32) (P : Int32 → va_W → Prop) (E : String → va_W → Prop) : Prop :=
    (jRc w a0 11 ∧ w_X8_requireBlock κ w a0 x1 (fun v1 w1 => jgR' w1 a0 11 1 (fun r2 => (jRc w1 r2 9 ∧ w_X6_countCommonFlakes κ w1 r2 v1 v1 (fun v3 w3 => P v3 w3)))) E)
set_option maxRecDepth 100000 in
set_option maxHeartbeats 4000000 in
theorem k_X8_differentFlakes_b0 {Γ : jG} (X : jX Γ cX8_differentFlakes 3 RX8) (hR : jgR Γ = ({ frames := 7, cells := 1, slots := 6, locals := 112 } : Room)) {P : Int32 → va_W → Prop} {E : String → va_W → Prop} (Rt : jRt Γ cX8_differentFlakes 3 1 6 (some .int) (jPi P)) (Out : jOut Γ 3 1 6 E) (Th : jTh Γ cX8_differentFlakes 3 RX8 1 6 E) (ThW : jThW Γ cX8_differentFlakes 3 RX8 1 6 E) {w : va_W} {a0 : Nat} {x1 : Int32} (h : w_X8_differentFlakes_b0 (jgE Γ).2.2.2 w a0 x1 P E) : J Γ 3 w 0 0 0 [(0, .ref a0), (1, .int x1)] [] := by
  unfold w_X8_differentFlakes_b0 at h
  refine j_aload_n X dX8_differentFlakes_0 0 rfl ?_
  refine j_iload_n X dX8_differentFlakes_1 1 rfl ?_
  obtain ⟨⟨fs1, g1⟩, h⟩ := h
  refine j_callVxi X [.int x1] [] (c_X8_requireBlock h) (T := TX8) (N := 11) g1 rfl jm_X8_requireBlock jw_1278 rfl ⟨rfl, rfl⟩ (by rw [hR]; decide) rfl (Nat.le_of_ble_eq_true rfl) dX8_differentFlakes_2 (fun v1 w1 h => ?_) (fun Cx _ h => Out _ _ _ _ _ Cx (by decide) (by decide) h)
  refine j_istore_n X [(2, .int v1), (0, .ref a0), (1, .int x1)] dX8_differentFlakes_5 (by decide) rfl ?_
  refine j_aload_n X dX8_differentFlakes_6 1 rfl ?_
  obtain ⟨fs2, r2, g2, i2, h⟩ := h
  refine j_get X (ci := 11) (C := RX8) (T := TX8) (N := 11) rfl jin_X8 1 (by decide) g2 i2 jw_303 rfl dX8_differentFlakes_7 ?_
  refine j_iload_n X dX8_differentFlakes_10 0 rfl ?_
  refine j_iload_n X dX8_differentFlakes_11 0 rfl ?_
  obtain ⟨⟨fs3, g3⟩, h⟩ := h
  refine j_callVi X [.int v1, .int v1] [] (c_X6_countCommonFlakes h) (T := TX6) (N := 2) g3 rfl jm_X6_countCommonFlakes jw_1435 rfl ⟨rfl, rfl⟩ (by rw [hR]; decide) rfl (Nat.le_of_ble_eq_true rfl) dX8_differentFlakes_12 (fun v3 w3 h => ?_)
  exact Rt.i dX8_differentFlakes_15 ⟨_, rfl, h⟩ (by first | decide | omega) (by first | decide | omega)
def w_X8_differentFlakes (κ : Nat → Nat) (w : va_W) (a0 : Nat) (x1 : Int32) (P : Int32 → va_W → Prop) (E : String → va_W → Prop) : Prop := w_X8_differentFlakes_b0 κ w a0 x1 P E
theorem c_X8_differentFlakes {E9 : jE} {w : va_W} {a0 : Nat} {x1 : Int32} {P : Int32 → va_W → Prop} {E : String → va_W → Prop} (h : w_X8_differentFlakes E9.2.2.2 w a0 x1 P E) : jCx E9 yX8_differentFlakes cX8_differentFlakes 3 (some .int) ({ frames := 7, cells := 1, slots := 6, locals := 112 } : Room) [.ref a0, .int x1] w 1 6 (jPi P) E := by
  refine jCx_of (by decide) (Nat.le_of_ble_eq_true rfl) ?_
  intro Γ X hE hR Rt Out Th ThW
  subst hE
  exact k_X8_differentFlakes_b0 X hR Rt Out Th ThW h
theorem jm_X8_commonFlakes : jMv yX8_commonFlakes cX8_commonFlakes 4 (some .int) 2 := ⟨jw_1451, jw_1452, jw_22, jw_1453, ⟨by decide +kernel, by decide +kernel⟩, by decide +kernel⟩
def w_X8_commonFlakes_b0 (κ : Nat → Nat) (w : va_W) (a0 : Nat) (x1 : Int32) (x2 : Int32) (P : Int32 → va_W → Prop) (E : String → va_W → Prop) : Prop :=
    (jRc w a0 11 ∧ w_X8_requireBlock κ w a0 x1 (fun v1 w1 => jgR' w1 a0 11 1 (fun r2 => (jRc w1 a0 11 ∧ w_X8_requireBlock κ w1 a0 x2 (fun v3 w3 => (jRc w3 r2 9 ∧ w_X6_countCommonFlakes κ w3 r2 v1 v3 (fun v4 w4 => P v4 w4))) E))) E)
set_option maxRecDepth 100000 in
set_option maxHeartbeats 4000000 in
theorem k_X8_commonFlakes_b0 {Γ : jG} (X : jX Γ cX8_commonFlakes 4 RX8) (hR : jgR Γ = ({ frames := 7, cells := 2, slots := 12, locals := 112 } : Room)) {P : Int32 → va_W → Prop} {E : String → va_W → Prop} (Rt : jRt Γ cX8_commonFlakes 4 2 12 (some .int) (jPi P)) (Out : jOut Γ 4 2 12 E) (Th : jTh Γ cX8_commonFlakes 4 RX8 2 12 E) (ThW : jThW Γ cX8_commonFlakes 4 RX8 2 12 E) {w : va_W} {a0 : Nat} {x1 : Int32} {x2 : Int32} (h : w_X8_commonFlakes_b0 (jgE Γ).2.2.2 w a0 x1 x2 P E) : J Γ 4 w 0 0 0 [(0, .ref a0), (1, .int x1), (2, .int x2)] [] := by
  unfold w_X8_commonFlakes_b0 at h
  refine j_aload_n X dX8_commonFlakes_0 0 rfl ?_
  refine j_iload_n X dX8_commonFlakes_1 1 rfl ?_
  obtain ⟨⟨fs1, g1⟩, h⟩ := h
  refine j_callVxi X [.int x1] [] (c_X8_requireBlock h) (T := TX8) (N := 11) g1 rfl jm_X8_requireBlock jw_1278 rfl ⟨rfl, rfl⟩ (by rw [hR]; decide) rfl (Nat.le_of_ble_eq_true rfl) dX8_commonFlakes_2 (fun v1 w1 h => ?_) (fun Cx _ h => Out _ _ _ _ _ Cx (by decide) (by decide) h)
  refine j_istore_n X [(3, .int v1), (0, .ref a0), (1, .int x1), (2, .int x2)] dX8_commonFlakes_5 (by decide) rfl ?_
  refine j_aload_n X dX8_commonFlakes_6 1 rfl ?_
  obtain ⟨fs2, r2, g2, i2, h⟩ := h
  refine j_get X (ci := 11) (C := RX8) (T := TX8) (N := 11) rfl jin_X8 1 (by decide) g2 i2 jw_303 rfl dX8_commonFlakes_7 ?_
  refine j_iload_n X dX8_commonFlakes_10 0 rfl ?_
  refine j_aload_n X dX8_commonFlakes_11 1 rfl ?_
  refine j_iload_n X dX8_commonFlakes_12 3 rfl ?_
  obtain ⟨⟨fs3, g3⟩, h⟩ := h
  refine j_callVxi X [.int x2] [.int v1, .ref r2] (c_X8_requireBlock h) (T := TX8) (N := 11) g3 rfl jm_X8_requireBlock jw_1278 rfl ⟨rfl, rfl⟩ (by rw [hR]; decide) rfl (Nat.le_of_ble_eq_true rfl) dX8_commonFlakes_13 (fun v3 w3 h => ?_) (fun Cx _ h => Out _ _ _ _ _ Cx (by decide) (by decide) h)
  obtain ⟨⟨fs4, g4⟩, h⟩ := h
  refine j_callVi X [.int v1, .int v3] [] (c_X6_countCommonFlakes h) (T := TX6) (N := 2) g4 rfl jm_X6_countCommonFlakes jw_1435 rfl ⟨rfl, rfl⟩ (by rw [hR]; decide) rfl (Nat.le_of_ble_eq_true rfl) dX8_commonFlakes_16 (fun v4 w4 h => ?_)
  exact Rt.i dX8_commonFlakes_19 ⟨_, rfl, h⟩ (by first | decide | omega) (by first | decide | omega)
def w_X8_commonFlakes (κ : Nat → Nat) (w : va_W) (a0 : Nat) (x1 : Int32) (x2 : Int32) (P : Int32 → va_W → Prop) (E : String → va_W → Prop) : Prop := w_X8_commonFlakes_b0 κ w a0 x1 x2 P E
theorem c_X8_commonFlakes {E9 : jE} {w : va_W} {a0 : Nat} {x1 : Int32} {x2 : Int32} {P : Int32 → va_W → Prop} {E : String → va_W → Prop} (h : w_X8_commonFlakes E9.2.2.2 w a0 x1 x2 P E) : jCx E9 yX8_commonFlakes cX8_commonFlakes 4 (some .int) ({ frames := 7, cells := 2, slots := 12, locals := 112 } : Room) [.ref a0, .int x1, .int x2] w 2 12 (jPi P) E := by
  refine jCx_of (by decide) (Nat.le_of_ble_eq_true rfl) ?_
  intro Γ X hE hR Rt Out Th ThW
  subst hE
  exact k_X8_commonFlakes_b0 X hR Rt Out Th ThW h
theorem jm_X8_repairsNeeded : jMv yX8_repairsNeeded cX8_repairsNeeded 2 (some .int) 1 := ⟨jw_1419, jw_1420, jw_22, jw_1421, ⟨by decide +kernel, by decide +kernel⟩, by decide +kernel⟩
def w_X8_repairsNeeded_b0 (κ : Nat → Nat) (w : va_W) (a0 : Nat) (x1 : Int32) (P : Int32 → va_W → Prop) (E : String → va_W → Prop) : Prop :=
    jgR' w a0 11 1 (fun r1 => (jRc w a0 11 ∧ w_X8_requireBlock κ w a0 x1 (fun v2 w2 => (jRc w2 r1 9 ∧ w_X6_countRepairs κ w2 r1 v2 (fun v3 w3 => P v3 w3))) E))
set_option maxRecDepth 100000 in
set_option maxHeartbeats 4000000 in
theorem k_X8_repairsNeeded_b0 {Γ : jG} (X : jX Γ cX8_repairsNeeded 2 RX8) (hR : jgR Γ = ({ frames := 7, cells := 1, slots := 6, locals := 112 } : Room)) {P : Int32 → va_W → Prop} {E : String → va_W → Prop} (Rt : jRt Γ cX8_repairsNeeded 2 1 6 (some .int) (jPi P)) (Out : jOut Γ 2 1 6 E) (Th : jTh Γ cX8_repairsNeeded 2 RX8 1 6 E) (ThW : jThW Γ cX8_repairsNeeded 2 RX8 1 6 E) {w : va_W} {a0 : Nat} {x1 : Int32} (h : w_X8_repairsNeeded_b0 (jgE Γ).2.2.2 w a0 x1 P E) : J Γ 2 w 0 0 0 [(0, .ref a0), (1, .int x1)] [] := by
  unfold w_X8_repairsNeeded_b0 at h
  refine j_aload_n X dX8_repairsNeeded_0 0 rfl ?_
  obtain ⟨fs1, r1, g1, i1, h⟩ := h
  refine j_get X (ci := 11) (C := RX8) (T := TX8) (N := 11) rfl jin_X8 1 (by decide) g1 i1 jw_303 rfl dX8_repairsNeeded_1 ?_
  refine j_aload_n X dX8_repairsNeeded_4 0 rfl ?_
  refine j_iload_n X dX8_repairsNeeded_5 1 rfl ?_
  obtain ⟨⟨fs2, g2⟩, h⟩ := h
  refine j_callVxi X [.int x1] [.ref r1] (c_X8_requireBlock h) (T := TX8) (N := 11) g2 rfl jm_X8_requireBlock jw_1278 rfl ⟨rfl, rfl⟩ (by rw [hR]; decide) rfl (Nat.le_of_ble_eq_true rfl) dX8_repairsNeeded_6 (fun v2 w2 h => ?_) (fun Cx _ h => Out _ _ _ _ _ Cx (by decide) (by decide) h)
  obtain ⟨⟨fs3, g3⟩, h⟩ := h
  refine j_callVi X [.int v2] [] (c_X6_countRepairs h) (T := TX6) (N := 2) g3 rfl jm_X6_countRepairs jw_1422 rfl ⟨rfl, rfl⟩ (by rw [hR]; decide) rfl (Nat.le_of_ble_eq_true rfl) dX8_repairsNeeded_9 (fun v3 w3 h => ?_)
  exact Rt.i dX8_repairsNeeded_12 ⟨_, rfl, h⟩ (by first | decide | omega) (by first | decide | omega)
def w_X8_repairsNeeded (κ : Nat → Nat) (w : va_W) (a0 : Nat) (x1 : Int32) (P : Int32 → va_W → Prop) (E : String → va_W → Prop) : Prop := w_X8_repairsNeeded_b0 κ w a0 x1 P E
theorem c_X8_repairsNeeded {E9 : jE} {w : va_W} {a0 : Nat} {x1 : Int32} {P : Int32 → va_W → Prop} {E : String → va_W → Prop} (h : w_X8_repairsNeeded E9.2.2.2 w a0 x1 P E) : jCx E9 yX8_repairsNeeded cX8_repairsNeeded 2 (some .int) ({ frames := 7, cells := 1, slots := 6, locals := 112 } : Room) [.ref a0, .int x1] w 1 6 (jPi P) E := by
  refine jCx_of (by decide) (Nat.le_of_ble_eq_true rfl) ?_
  intro Γ X hE hR Rt Out Th ThW
  subst hE
  exact k_X8_repairsNeeded_b0 X hR Rt Out Th ThW h
theorem jm_X8_tipCount : jMv yX8_tipCount cX8_tipCount 1 (some .int) 0 := ⟨jw_1484, jw_1485, jw_22, jw_1486, ⟨by decide +kernel, by decide +kernel⟩, by decide +kernel⟩
def w_X8_tipCount_b0 (κ : Nat → Nat) (w : va_W) (a0 : Nat) (P : Int32 → va_W → Prop) : Prop :=
    jgR' w a0 11 1 (fun r1 => (jRc w r1 9 ∧ w_X6_countTips κ w r1 (fun v2 w2 => P v2 w2)))
set_option maxRecDepth 100000 in
set_option maxHeartbeats 4000000 in
theorem k_X8_tipCount_b0 {Γ : jG} (X : jX Γ cX8_tipCount 1 RX8) (hR : jgR Γ = ({ frames := 4, cells := 0, slots := 0, locals := 87 } : Room)) {P : Int32 → va_W → Prop} (Rt : jRt Γ cX8_tipCount 1 0 0 (some .int) (jPi P)) {w : va_W} {a0 : Nat} (h : w_X8_tipCount_b0 (jgE Γ).2.2.2 w a0 P) : J Γ 1 w 0 0 0 [(0, .ref a0)] [] := by
  unfold w_X8_tipCount_b0 at h
  refine j_aload_n X dX8_tipCount_0 0 rfl ?_
  obtain ⟨fs1, r1, g1, i1, h⟩ := h
  refine j_get X (ci := 11) (C := RX8) (T := TX8) (N := 11) rfl jin_X8 1 (by decide) g1 i1 jw_303 rfl dX8_tipCount_1 ?_
  obtain ⟨⟨fs2, g2⟩, h⟩ := h
  refine j_callVi X [] [] (c_X6_countTips h) (T := TX6) (N := 2) g2 rfl jm_X6_countTips jw_1487 rfl ⟨rfl, rfl⟩ (by rw [hR]; decide) rfl (Nat.le_of_ble_eq_true rfl) dX8_tipCount_4 (fun v2 w2 h => ?_)
  exact Rt.i dX8_tipCount_7 ⟨_, rfl, h⟩ (by first | decide | omega) (by first | decide | omega)
def w_X8_tipCount (κ : Nat → Nat) (w : va_W) (a0 : Nat) (P : Int32 → va_W → Prop) : Prop := w_X8_tipCount_b0 κ w a0 P
theorem c_X8_tipCount {E : jE} {w : va_W} {a0 : Nat} {P : Int32 → va_W → Prop} (h : w_X8_tipCount E.2.2.2 w a0 P) : jC E yX8_tipCount cX8_tipCount 1 (some .int) ({ frames := 4, cells := 0, slots := 0, locals := 87 } : Room) [.ref a0] w 0 0 (jPi P) := by
  refine jC_of (by decide) (Nat.le_of_ble_eq_true rfl) ?_
  intro Γ X hE hR Rt
  subst hE
  exact k_X8_tipCount_b0 X hR Rt h
theorem jm_X8_tipAtRank : jMv yX8_tipAtRank cX8_tipAtRank 3 (some .int) 1 := ⟨jw_1500, jw_1501, jw_22, jw_1502, ⟨by decide +kernel, by decide +kernel⟩, by decide +kernel⟩
def w_X8_tipAtRank_b0 (κ : Nat → Nat) (w : va_W) (a0 : Nat) (x1 : Int32) (P : Int32 → va_W → Prop) (E : String → va_W → Prop) : Prop :=
    jgR' w a0 11 1 (fun r1 => (jRc w r1 9 ∧ w_X6_tipRanked κ w r1 x1 (fun v2 w2 => (if v2 = (-1) then E "java/util/NoSuchElementException" w2 else jgR' w2 a0 11 0 (fun r3 => jgR' w2 r3 8 0 (fun r4 => (jRc w2 r4 6 ∧ w_X3_at κ w2 r4 v2 (fun v5 w5 => P v5 w5))))))))
set_option maxRecDepth 100000 in
set_option maxHeartbeats 4000000 in
theorem k_X8_tipAtRank_b0 {Γ : jG} (X : jX Γ cX8_tipAtRank 3 RX8) (hR : jgR Γ = ({ frames := 6, cells := 1, slots := 6, locals := 113 } : Room)) {P : Int32 → va_W → Prop} {E : String → va_W → Prop} (Rt : jRt Γ cX8_tipAtRank 3 1 6 (some .int) (jPi P)) (Out : jOut Γ 3 1 6 E) (Th : jTh Γ cX8_tipAtRank 3 RX8 1 6 E) (ThW : jThW Γ cX8_tipAtRank 3 RX8 1 6 E) {w : va_W} {a0 : Nat} {x1 : Int32} (h : w_X8_tipAtRank_b0 (jgE Γ).2.2.2 w a0 x1 P E) : J Γ 3 w 0 0 0 [(0, .ref a0), (1, .int x1)] [] := by
  unfold w_X8_tipAtRank_b0 at h
  refine j_aload_n X dX8_tipAtRank_0 0 rfl ?_
  obtain ⟨fs1, r1, g1, i1, h⟩ := h
  refine j_get X (ci := 11) (C := RX8) (T := TX8) (N := 11) rfl jin_X8 1 (by decide) g1 i1 jw_303 rfl dX8_tipAtRank_1 ?_
  refine j_iload_n X dX8_tipAtRank_4 1 rfl ?_
  obtain ⟨⟨fs2, g2⟩, h⟩ := h
  refine j_callVi X [.int x1] [] (c_X6_tipRanked h) (T := TX6) (N := 2) g2 rfl jm_X6_tipRanked jw_1503 rfl ⟨rfl, rfl⟩ (by rw [hR]; decide) rfl (Nat.le_of_ble_eq_true rfl) dX8_tipAtRank_5 (fun v2 w2 h => ?_)
  refine j_istore_n X [(2, .int v2), (0, .ref a0), (1, .int x1)] dX8_tipAtRank_8 (by decide) rfl ?_
  refine j_iload_n X dX8_tipAtRank_9 0 rfl ?_
  refine j_iconst X (-1) dX8_tipAtRank_10 (by decide) ?_
  refine j_icmp_ne X 24 dX8_tipAtRank_11 (by decide) (fun c => ?_) (fun c => ?_)
  · replace h := jif_f c h
    refine j_aload_n X dX8_tipAtRank_24 1 rfl ?_
    obtain ⟨fs3, r3, g3, i3, h⟩ := h
    refine j_get X (ci := 11) (C := RX8) (T := TX8) (N := 11) rfl jin_X8 0 (by decide) g3 i3 jw_302 rfl dX8_tipAtRank_25 ?_
    obtain ⟨fs4, r4, g4, i4, h⟩ := h
    refine j_getN X (ci := 8) (C := RX5) (T := TX5) (N := 12) rfl jin_X5 0 (by decide) g4 i4 jw_106 rfl dX8_tipAtRank_28 ?_
    refine j_iload_n X dX8_tipAtRank_31 0 rfl ?_
    obtain ⟨⟨fs5, g5⟩, h⟩ := h
    refine j_callVi X [.int v2] [] (c_X3_at h) (T := TX3) (N := 1) g5 rfl jm_X3_at jw_1072 rfl ⟨rfl, rfl⟩ (by rw [hR]; decide) rfl (Nat.le_of_ble_eq_true rfl) dX8_tipAtRank_32 (fun v5 w5 h => ?_)
    exact Rt.i dX8_tipAtRank_35 ⟨_, rfl, h⟩ (by first | decide | omega) (by first | decide | omega)
  · replace h := jif_t c h
    exact Th _ _ _ 14 _ _ 200 226 204 44 13 jrx13 "java/util/NoSuchElementException" "there is no such rank" "java/lang/RuntimeException" ["java/lang/Exception"] (by decide +kernel) (by decide +kernel) (by decide +kernel) (by decide +kernel) dX8_tipAtRank_14 dX8_tipAtRank_17 dX8_tipAtRank_18 dX8_tipAtRank_20 dX8_tipAtRank_23 (List.mem_of_getElem? (i := 44) rfl) (by decide +kernel) (by decide +kernel) (by decide +kernel) jw_474 jw_41 jat_204 (by rw [hR]; exact ⟨by decide, Nat.le_of_ble_eq_true rfl, by decide, by decide⟩) (by decide) (by decide) h
def w_X8_tipAtRank (κ : Nat → Nat) (w : va_W) (a0 : Nat) (x1 : Int32) (P : Int32 → va_W → Prop) (E : String → va_W → Prop) : Prop := w_X8_tipAtRank_b0 κ w a0 x1 P E
theorem c_X8_tipAtRank {E9 : jE} {w : va_W} {a0 : Nat} {x1 : Int32} {P : Int32 → va_W → Prop} {E : String → va_W → Prop} (h : w_X8_tipAtRank E9.2.2.2 w a0 x1 P E) : jCx E9 yX8_tipAtRank cX8_tipAtRank 3 (some .int) ({ frames := 6, cells := 1, slots := 6, locals := 113 } : Room) [.ref a0, .int x1] w 1 6 (jPi P) E := by
  refine jCx_of (by decide) (Nat.le_of_ble_eq_true rfl) ?_
  intro Γ X hE hR Rt Out Th ThW
  subst hE
  exact k_X8_tipAtRank_b0 X hR Rt Out Th ThW h
theorem jm_X8_bestValidBlock : jMv yX8_bestValidBlock cX8_bestValidBlock 1 (some .int) 0 := ⟨jw_1304, jw_1305, jw_22, jw_1306, ⟨by decide +kernel, by decide +kernel⟩, by decide +kernel⟩
def w_X8_bestValidBlock_b0 (κ : Nat → Nat) (w : va_W) (a0 : Nat) (P : Int32 → va_W → Prop) : Prop :=
    jgR' w a0 11 0 (fun r1 => jgR' w r1 8 0 (fun r2 => jgR' w a0 11 1 (fun r3 => (jRc w r3 9 ∧ w_X6_best κ w r3 (fun v4 w4 => (jRc w4 r2 6 ∧ w_X3_at κ w4 r2 v4 (fun v5 w5 => P v5 w5)))))))
set_option maxRecDepth 100000 in
set_option maxHeartbeats 4000000 in
theorem k_X8_bestValidBlock_b0 {Γ : jG} (X : jX Γ cX8_bestValidBlock 1 RX8) (hR : jgR Γ = ({ frames := 5, cells := 0, slots := 0, locals := 118 } : Room)) {P : Int32 → va_W → Prop} (Rt : jRt Γ cX8_bestValidBlock 1 0 0 (some .int) (jPi P)) {w : va_W} {a0 : Nat} (h : w_X8_bestValidBlock_b0 (jgE Γ).2.2.2 w a0 P) : J Γ 1 w 0 0 0 [(0, .ref a0)] [] := by
  unfold w_X8_bestValidBlock_b0 at h
  refine j_aload_n X dX8_bestValidBlock_0 0 rfl ?_
  obtain ⟨fs1, r1, g1, i1, h⟩ := h
  refine j_get X (ci := 11) (C := RX8) (T := TX8) (N := 11) rfl jin_X8 0 (by decide) g1 i1 jw_302 rfl dX8_bestValidBlock_1 ?_
  obtain ⟨fs2, r2, g2, i2, h⟩ := h
  refine j_getN X (ci := 8) (C := RX5) (T := TX5) (N := 12) rfl jin_X5 0 (by decide) g2 i2 jw_106 rfl dX8_bestValidBlock_4 ?_
  refine j_aload_n X dX8_bestValidBlock_7 0 rfl ?_
  obtain ⟨fs3, r3, g3, i3, h⟩ := h
  refine j_get X (ci := 11) (C := RX8) (T := TX8) (N := 11) rfl jin_X8 1 (by decide) g3 i3 jw_303 rfl dX8_bestValidBlock_8 ?_
  obtain ⟨⟨fs4, g4⟩, h⟩ := h
  refine j_callVi X [] [.ref r2] (c_X6_best h) (T := TX6) (N := 2) g4 rfl jm_X6_best jw_1307 rfl ⟨rfl, rfl⟩ (by rw [hR]; decide) rfl (Nat.le_of_ble_eq_true rfl) dX8_bestValidBlock_11 (fun v4 w4 h => ?_)
  obtain ⟨⟨fs5, g5⟩, h⟩ := h
  refine j_callVi X [.int v4] [] (c_X3_at h) (T := TX3) (N := 1) g5 rfl jm_X3_at jw_1072 rfl ⟨rfl, rfl⟩ (by rw [hR]; decide) rfl (Nat.le_of_ble_eq_true rfl) dX8_bestValidBlock_14 (fun v5 w5 h => ?_)
  exact Rt.i dX8_bestValidBlock_17 ⟨_, rfl, h⟩ (by first | decide | omega) (by first | decide | omega)
def w_X8_bestValidBlock (κ : Nat → Nat) (w : va_W) (a0 : Nat) (P : Int32 → va_W → Prop) : Prop := w_X8_bestValidBlock_b0 κ w a0 P
theorem c_X8_bestValidBlock {E : jE} {w : va_W} {a0 : Nat} {P : Int32 → va_W → Prop} (h : w_X8_bestValidBlock E.2.2.2 w a0 P) : jC E yX8_bestValidBlock cX8_bestValidBlock 1 (some .int) ({ frames := 5, cells := 0, slots := 0, locals := 118 } : Room) [.ref a0] w 0 0 (jPi P) := by
  refine jC_of (by decide) (Nat.le_of_ble_eq_true rfl) ?_
  intro Γ X hE hR Rt
  subst hE
  exact k_X8_bestValidBlock_b0 X hR Rt h
theorem jm_X8_blocksAtHeight : jMv yX8_blocksAtHeight cX8_blocksAtHeight 2 (some .int) 1 := ⟨jw_1475, jw_1476, jw_22, jw_1477, ⟨by decide +kernel, by decide +kernel⟩, by decide +kernel⟩
def w_X8_blocksAtHeight_b10 (κ : Nat → Nat) (w : va_W) (P : Int32 → va_W → Prop) (E : String → va_W → Prop) : Prop :=
    E "java/lang/IllegalArgumentException" w
set_option maxRecDepth 100000 in
set_option maxHeartbeats 4000000 in
theorem k_X8_blocksAtHeight_b10 {Γ : jG} (X : jX Γ cX8_blocksAtHeight 2 RX8) (hR : jgR Γ = ({ frames := 6, cells := 1, slots := 6, locals := 90 } : Room)) {P : Int32 → va_W → Prop} {E : String → va_W → Prop} (Rt : jRt Γ cX8_blocksAtHeight 2 1 6 (some .int) (jPi P)) (Out : jOut Γ 2 1 6 E) (Th : jTh Γ cX8_blocksAtHeight 2 RX8 1 6 E) (ThW : jThW Γ cX8_blocksAtHeight 2 RX8 1 6 E) {w : va_W} (h : w_X8_blocksAtHeight_b10 (jgE Γ).2.2.2 w  P E) : J Γ 2 w 0 0 10 [] [] := by
  unfold w_X8_blocksAtHeight_b10 at h
  exact Th _ _ _ 10 _ _ 234 244 238 43 7 jrx7 "java/lang/IllegalArgumentException" "a height is between 0 and 15" "java/lang/RuntimeException" ["java/lang/Exception"] (by decide +kernel) (by decide +kernel) (by decide +kernel) (by decide +kernel) dX8_blocksAtHeight_10 dX8_blocksAtHeight_13 dX8_blocksAtHeight_14 dX8_blocksAtHeight_16 dX8_blocksAtHeight_19 (List.mem_of_getElem? (i := 43) rfl) (by decide +kernel) (by decide +kernel) (by decide +kernel) jw_492 jw_42 jat_238 (by rw [hR]; exact ⟨by decide, Nat.le_of_ble_eq_true rfl, by decide, by decide⟩) (by decide) (by decide) h
def w_X8_blocksAtHeight_b0 (κ : Nat → Nat) (w : va_W) (a0 : Nat) (x1 : Int32) (P : Int32 → va_W → Prop) (E : String → va_W → Prop) : Prop :=
    (if x1 < 0 then w_X8_blocksAtHeight_b10 κ w  P E else (if x1 < 16 then jgR' w a0 11 1 (fun r1 => (jRc w r1 9 ∧ w_X6_countAtHeight κ w r1 x1 (fun v2 w2 => P v2 w2))) else w_X8_blocksAtHeight_b10 κ w  P E))
set_option maxRecDepth 100000 in
set_option maxHeartbeats 4000000 in
theorem k_X8_blocksAtHeight_b0 {Γ : jG} (X : jX Γ cX8_blocksAtHeight 2 RX8) (hR : jgR Γ = ({ frames := 6, cells := 1, slots := 6, locals := 90 } : Room)) {P : Int32 → va_W → Prop} {E : String → va_W → Prop} (Rt : jRt Γ cX8_blocksAtHeight 2 1 6 (some .int) (jPi P)) (Out : jOut Γ 2 1 6 E) (Th : jTh Γ cX8_blocksAtHeight 2 RX8 1 6 E) (ThW : jThW Γ cX8_blocksAtHeight 2 RX8 1 6 E) {w : va_W} {a0 : Nat} {x1 : Int32} (h : w_X8_blocksAtHeight_b0 (jgE Γ).2.2.2 w a0 x1 P E) : J Γ 2 w 0 0 0 [(0, .ref a0), (1, .int x1)] [] := by
  unfold w_X8_blocksAtHeight_b0 at h
  refine j_iload_n X dX8_blocksAtHeight_0 1 rfl ?_
  refine j_if_lt X 10 dX8_blocksAtHeight_1 (by decide) (fun c => ?_) (fun c => ?_)
  · replace h := jif_t c h
    refine j_sub [] rfl ?_
    refine j_widen (k := 0) (n := 0) (by decide) (by decide) ?_
    exact k_X8_blocksAtHeight_b10 X hR Rt Out Th ThW h
  · replace h := jif_f c h
    refine j_iload_n X dX8_blocksAtHeight_4 1 rfl ?_
    refine j_bipush X 16 dX8_blocksAtHeight_5 (by decide) ?_
    refine j_icmp_lt X 20 dX8_blocksAtHeight_7 (by decide) (fun c => ?_) (fun c => ?_)
    · replace h := jif_t c h
      refine j_aload_n X dX8_blocksAtHeight_20 0 rfl ?_
      obtain ⟨fs1, r1, g1, i1, h⟩ := h
      refine j_get X (ci := 11) (C := RX8) (T := TX8) (N := 11) rfl jin_X8 1 (by decide) g1 i1 jw_303 rfl dX8_blocksAtHeight_21 ?_
      refine j_iload_n X dX8_blocksAtHeight_24 1 rfl ?_
      obtain ⟨⟨fs2, g2⟩, h⟩ := h
      refine j_callVi X [.int x1] [] (c_X6_countAtHeight h) (T := TX6) (N := 2) g2 rfl jm_X6_countAtHeight jw_1479 rfl ⟨rfl, rfl⟩ (by rw [hR]; decide) rfl (Nat.le_of_ble_eq_true rfl) dX8_blocksAtHeight_25 (fun v2 w2 h => ?_)
      exact Rt.i dX8_blocksAtHeight_28 ⟨_, rfl, h⟩ (by first | decide | omega) (by first | decide | omega)
    · replace h := jif_f c h
      refine j_sub [] rfl ?_
      refine j_widen (k := 0) (n := 0) (by decide) (by decide) ?_
      exact k_X8_blocksAtHeight_b10 X hR Rt Out Th ThW h
def w_X8_blocksAtHeight (κ : Nat → Nat) (w : va_W) (a0 : Nat) (x1 : Int32) (P : Int32 → va_W → Prop) (E : String → va_W → Prop) : Prop := w_X8_blocksAtHeight_b0 κ w a0 x1 P E
theorem c_X8_blocksAtHeight {E9 : jE} {w : va_W} {a0 : Nat} {x1 : Int32} {P : Int32 → va_W → Prop} {E : String → va_W → Prop} (h : w_X8_blocksAtHeight E9.2.2.2 w a0 x1 P E) : jCx E9 yX8_blocksAtHeight cX8_blocksAtHeight 2 (some .int) ({ frames := 6, cells := 1, slots := 6, locals := 90 } : Room) [.ref a0, .int x1] w 1 6 (jPi P) E := by
  refine jCx_of (by decide) (Nat.le_of_ble_eq_true rfl) ?_
  intro Γ X hE hR Rt Out Th ThW
  subst hE
  exact k_X8_blocksAtHeight_b0 X hR Rt Out Th ThW h
theorem jm_X8_writtenTotal : jMv yX8_writtenTotal cX8_writtenTotal 1 (some .int) 0 := ⟨jw_1189, jw_1190, jw_22, jw_1191, ⟨by decide +kernel, by decide +kernel⟩, by decide +kernel⟩
def w_X8_writtenTotal_b0 (κ : Nat → Nat) (w : va_W) (a0 : Nat) (P : Int32 → va_W → Prop) : Prop :=
    jgR' w a0 11 0 (fun r1 => jgI w r1 8 10 (fun v2 => P v2 w))
set_option maxRecDepth 100000 in
set_option maxHeartbeats 4000000 in
theorem k_X8_writtenTotal_b0 {Γ : jG} (X : jX Γ cX8_writtenTotal 1 RX8) (hR : jgR Γ = ({ frames := 0, cells := 0, slots := 0, locals := 0 } : Room)) {P : Int32 → va_W → Prop} (Rt : jRt Γ cX8_writtenTotal 1 0 0 (some .int) (jPi P)) {w : va_W} {a0 : Nat} (h : w_X8_writtenTotal_b0 (jgE Γ).2.2.2 w a0 P) : J Γ 1 w 0 0 0 [(0, .ref a0)] [] := by
  unfold w_X8_writtenTotal_b0 at h
  refine j_aload_n X dX8_writtenTotal_0 0 rfl ?_
  obtain ⟨fs1, r1, g1, i1, h⟩ := h
  refine j_get X (ci := 11) (C := RX8) (T := TX8) (N := 11) rfl jin_X8 0 (by decide) g1 i1 jw_302 rfl dX8_writtenTotal_1 ?_
  obtain ⟨fs2, v2, g2, i2, h⟩ := h
  refine j_getN X (ci := 8) (C := RX5) (T := TX5) (N := 12) rfl jin_X5 10 (by decide) g2 i2 jw_141 rfl dX8_writtenTotal_4 ?_
  exact Rt.i dX8_writtenTotal_7 ⟨_, rfl, h⟩ (by first | decide | omega) (by first | decide | omega)
def w_X8_writtenTotal (κ : Nat → Nat) (w : va_W) (a0 : Nat) (P : Int32 → va_W → Prop) : Prop := w_X8_writtenTotal_b0 κ w a0 P
theorem c_X8_writtenTotal {E : jE} {w : va_W} {a0 : Nat} {P : Int32 → va_W → Prop} (h : w_X8_writtenTotal E.2.2.2 w a0 P) : jC E yX8_writtenTotal cX8_writtenTotal 1 (some .int) ({ frames := 0, cells := 0, slots := 0, locals := 0 } : Room) [.ref a0] w 0 0 (jPi P) := by
  refine jC_of (by decide) (Nat.le_of_ble_eq_true rfl) ?_
  intro Γ X hE hR Rt
  subst hE
  exact k_X8_writtenTotal_b0 X hR Rt h
theorem jm_X8_meltedTotal : jMv yX8_meltedTotal cX8_meltedTotal 1 (some .int) 0 := ⟨jw_1218, jw_1219, jw_22, jw_1220, ⟨by decide +kernel, by decide +kernel⟩, by decide +kernel⟩
def w_X8_meltedTotal_b0 (κ : Nat → Nat) (w : va_W) (a0 : Nat) (P : Int32 → va_W → Prop) : Prop :=
    jgR' w a0 11 0 (fun r1 => jgI w r1 8 11 (fun v2 => P v2 w))
set_option maxRecDepth 100000 in
set_option maxHeartbeats 4000000 in
theorem k_X8_meltedTotal_b0 {Γ : jG} (X : jX Γ cX8_meltedTotal 1 RX8) (hR : jgR Γ = ({ frames := 0, cells := 0, slots := 0, locals := 0 } : Room)) {P : Int32 → va_W → Prop} (Rt : jRt Γ cX8_meltedTotal 1 0 0 (some .int) (jPi P)) {w : va_W} {a0 : Nat} (h : w_X8_meltedTotal_b0 (jgE Γ).2.2.2 w a0 P) : J Γ 1 w 0 0 0 [(0, .ref a0)] [] := by
  unfold w_X8_meltedTotal_b0 at h
  refine j_aload_n X dX8_meltedTotal_0 0 rfl ?_
  obtain ⟨fs1, r1, g1, i1, h⟩ := h
  refine j_get X (ci := 11) (C := RX8) (T := TX8) (N := 11) rfl jin_X8 0 (by decide) g1 i1 jw_302 rfl dX8_meltedTotal_1 ?_
  obtain ⟨fs2, v2, g2, i2, h⟩ := h
  refine j_getN X (ci := 8) (C := RX5) (T := TX5) (N := 12) rfl jin_X5 11 (by decide) g2 i2 jw_144 rfl dX8_meltedTotal_4 ?_
  exact Rt.i dX8_meltedTotal_7 ⟨_, rfl, h⟩ (by first | decide | omega) (by first | decide | omega)
def w_X8_meltedTotal (κ : Nat → Nat) (w : va_W) (a0 : Nat) (P : Int32 → va_W → Prop) : Prop := w_X8_meltedTotal_b0 κ w a0 P
theorem c_X8_meltedTotal {E : jE} {w : va_W} {a0 : Nat} {P : Int32 → va_W → Prop} (h : w_X8_meltedTotal E.2.2.2 w a0 P) : jC E yX8_meltedTotal cX8_meltedTotal 1 (some .int) ({ frames := 0, cells := 0, slots := 0, locals := 0 } : Room) [.ref a0] w 0 0 (jPi P) := by
  refine jC_of (by decide) (Nat.le_of_ble_eq_true rfl) ?_
  intro Γ X hE hR Rt
  subst hE
  exact k_X8_meltedTotal_b0 X hR Rt h
theorem jm_X8_meanTipHeight : jMv yX8_meanTipHeight cX8_meanTipHeight 2 (some .double) 0 := ⟨jw_1524, jw_1525, jw_22, jw_1526, ⟨by decide +kernel, by decide +kernel⟩, by decide +kernel⟩
def w_X8_meanTipHeight_b27 (κ : Nat → Nat) (w : va_W) (s0 : UInt64) (P : UInt64 → va_W → Prop) : Prop :=
    P s0 w
set_option maxRecDepth 100000 in
set_option maxHeartbeats 4000000 in
theorem k_X8_meanTipHeight_b27 {Γ : jG} (X : jX Γ cX8_meanTipHeight 2 RX8) (hR : jgR Γ = ({ frames := 4, cells := 0, slots := 0, locals := 87 } : Room)) {P : UInt64 → va_W → Prop} (Rt : jRt Γ cX8_meanTipHeight 2 0 0 (some .double) (jPd P)) {w : va_W} {s0 : UInt64} (h : w_X8_meanTipHeight_b27 (jgE Γ).2.2.2 w s0 P) : J Γ 2 w 0 0 27 [] [.double s0] := by
  unfold w_X8_meanTipHeight_b27 at h
  exact Rt.d dX8_meanTipHeight_27 ⟨_, rfl, h⟩ (by first | decide | omega) (by first | decide | omega)
def w_X8_meanTipHeight_b0 (κ : Nat → Nat) (w : va_W) (a0 : Nat) (P : UInt64 → va_W → Prop) : Prop :=
    jgR' w a0 11 1 (fun r1 => (jRc w r1 9 ∧ w_X6_countTips κ w r1 (fun v2 w2 => (if v2 ≤ 0 then w_X8_meanTipHeight_b27 κ w2 FP.dconst0 P else jgR' w2 a0 11 1 (fun r3 => (jRc w2 r3 9 ∧ w_X6_sumOfTipHeights κ w2 r3 (fun v4 w4 => (vf_n64 (FP.ddiv (FP.i2d v4) (FP.i2d v2)) ∧ w_X8_meanTipHeight_b27 κ w4 (FP.ddiv (FP.i2d v4) (FP.i2d v2)) P))))))))
set_option maxRecDepth 100000 in
set_option maxHeartbeats 4000000 in
theorem k_X8_meanTipHeight_b0 {Γ : jG} (X : jX Γ cX8_meanTipHeight 2 RX8) (hR : jgR Γ = ({ frames := 4, cells := 0, slots := 0, locals := 87 } : Room)) {P : UInt64 → va_W → Prop} (Rt : jRt Γ cX8_meanTipHeight 2 0 0 (some .double) (jPd P)) {w : va_W} {a0 : Nat} (h : w_X8_meanTipHeight_b0 (jgE Γ).2.2.2 w a0 P) : J Γ 2 w 0 0 0 [(0, .ref a0)] [] := by
  unfold w_X8_meanTipHeight_b0 at h
  refine j_aload_n X dX8_meanTipHeight_0 0 rfl ?_
  obtain ⟨fs1, r1, g1, i1, h⟩ := h
  refine j_get X (ci := 11) (C := RX8) (T := TX8) (N := 11) rfl jin_X8 1 (by decide) g1 i1 jw_303 rfl dX8_meanTipHeight_1 ?_
  obtain ⟨⟨fs2, g2⟩, h⟩ := h
  refine j_callVi X [] [] (c_X6_countTips h) (T := TX6) (N := 2) g2 rfl jm_X6_countTips jw_1487 rfl ⟨rfl, rfl⟩ (by rw [hR]; decide) rfl (Nat.le_of_ble_eq_true rfl) dX8_meanTipHeight_4 (fun v2 w2 h => ?_)
  refine j_istore_n X [(1, .int v2), (0, .ref a0)] dX8_meanTipHeight_7 (by decide) rfl ?_
  refine j_iload_n X dX8_meanTipHeight_8 0 rfl ?_
  refine j_if_le X 26 dX8_meanTipHeight_9 (by decide) (fun c => ?_) (fun c => ?_)
  · replace h := jif_t c h
    refine j_dconst X dX8_meanTipHeight_26 ?_
    refine j_sub [] rfl ?_
    exact k_X8_meanTipHeight_b27 X hR Rt h
  · replace h := jif_f c h
    refine j_aload_n X dX8_meanTipHeight_12 1 rfl ?_
    obtain ⟨fs3, r3, g3, i3, h⟩ := h
    refine j_get X (ci := 11) (C := RX8) (T := TX8) (N := 11) rfl jin_X8 1 (by decide) g3 i3 jw_303 rfl dX8_meanTipHeight_13 ?_
    obtain ⟨⟨fs4, g4⟩, h⟩ := h
    refine j_callVi X [] [] (c_X6_sumOfTipHeights h) (T := TX6) (N := 2) g4 rfl jm_X6_sumOfTipHeights jw_1527 rfl ⟨rfl, rfl⟩ (by rw [hR]; decide) rfl (Nat.le_of_ble_eq_true rfl) dX8_meanTipHeight_16 (fun v4 w4 h => ?_)
    refine j_i2d X dX8_meanTipHeight_19 ?_
    refine j_iload_n X dX8_meanTipHeight_20 0 rfl ?_
    refine j_i2d X dX8_meanTipHeight_21 ?_
    refine j_ddiv X dX8_meanTipHeight_22 h.1 ?_
    replace h := h.2
    refine j_goto X 27 dX8_meanTipHeight_23 (by decide) ?_
    refine j_sub [] rfl ?_
    exact k_X8_meanTipHeight_b27 X hR Rt h
def w_X8_meanTipHeight (κ : Nat → Nat) (w : va_W) (a0 : Nat) (P : UInt64 → va_W → Prop) : Prop := w_X8_meanTipHeight_b0 κ w a0 P
theorem c_X8_meanTipHeight {E : jE} {w : va_W} {a0 : Nat} {P : UInt64 → va_W → Prop} (h : w_X8_meanTipHeight E.2.2.2 w a0 P) : jC E yX8_meanTipHeight cX8_meanTipHeight 2 (some .double) ({ frames := 4, cells := 0, slots := 0, locals := 87 } : Room) [.ref a0] w 0 0 (jPd P) := by
  refine jC_of (by decide) (Nat.le_of_ble_eq_true rfl) ?_
  intro Γ X hE hR Rt
  subst hE
  exact k_X8_meanTipHeight_b0 X hR Rt h
theorem jm_X8_validShare : jMv yX8_validShare cX8_validShare 2 (some .float) 0 := ⟨jw_1513, jw_1514, jw_22, jw_1515, ⟨by decide +kernel, by decide +kernel⟩, by decide +kernel⟩
def w_X8_validShare_b27 (κ : Nat → Nat) (w : va_W) (s0 : UInt32) (P : UInt32 → va_W → Prop) : Prop :=
    P s0 w
set_option maxRecDepth 100000 in
set_option maxHeartbeats 4000000 in
theorem k_X8_validShare_b27 {Γ : jG} (X : jX Γ cX8_validShare 2 RX8) (hR : jgR Γ = ({ frames := 4, cells := 0, slots := 0, locals := 94 } : Room)) {P : UInt32 → va_W → Prop} (Rt : jRt Γ cX8_validShare 2 0 0 (some .float) (jPf P)) {w : va_W} {s0 : UInt32} (h : w_X8_validShare_b27 (jgE Γ).2.2.2 w s0 P) : J Γ 2 w 0 0 27 [] [.float s0] := by
  unfold w_X8_validShare_b27 at h
  exact Rt.f dX8_validShare_27 ⟨_, rfl, h⟩ (by first | decide | omega) (by first | decide | omega)
def w_X8_validShare_b0 (κ : Nat → Nat) (w : va_W) (a0 : Nat) (P : UInt32 → va_W → Prop) : Prop :=
    jgR' w a0 11 1 (fun r1 => (jRc w r1 9 ∧ w_X6_countBlocks κ w r1 (fun v2 w2 => (if v2 ≤ 0 then w_X8_validShare_b27 κ w2 FP.fconst0 P else jgR' w2 a0 11 1 (fun r3 => (jRc w2 r3 9 ∧ w_X6_countHolding κ w2 r3 (fun v4 w4 => (vf_n32 (FP.fdiv (FP.i2f v4) (FP.i2f v2)) ∧ w_X8_validShare_b27 κ w4 (FP.fdiv (FP.i2f v4) (FP.i2f v2)) P))))))))
set_option maxRecDepth 100000 in
set_option maxHeartbeats 4000000 in
theorem k_X8_validShare_b0 {Γ : jG} (X : jX Γ cX8_validShare 2 RX8) (hR : jgR Γ = ({ frames := 4, cells := 0, slots := 0, locals := 94 } : Room)) {P : UInt32 → va_W → Prop} (Rt : jRt Γ cX8_validShare 2 0 0 (some .float) (jPf P)) {w : va_W} {a0 : Nat} (h : w_X8_validShare_b0 (jgE Γ).2.2.2 w a0 P) : J Γ 2 w 0 0 0 [(0, .ref a0)] [] := by
  unfold w_X8_validShare_b0 at h
  refine j_aload_n X dX8_validShare_0 0 rfl ?_
  obtain ⟨fs1, r1, g1, i1, h⟩ := h
  refine j_get X (ci := 11) (C := RX8) (T := TX8) (N := 11) rfl jin_X8 1 (by decide) g1 i1 jw_303 rfl dX8_validShare_1 ?_
  obtain ⟨⟨fs2, g2⟩, h⟩ := h
  refine j_callVi X [] [] (c_X6_countBlocks h) (T := TX6) (N := 2) g2 rfl jm_X6_countBlocks jw_359 rfl ⟨rfl, rfl⟩ (by rw [hR]; decide) rfl (Nat.le_of_ble_eq_true rfl) dX8_validShare_4 (fun v2 w2 h => ?_)
  refine j_istore_n X [(1, .int v2), (0, .ref a0)] dX8_validShare_7 (by decide) rfl ?_
  refine j_iload_n X dX8_validShare_8 0 rfl ?_
  refine j_if_le X 26 dX8_validShare_9 (by decide) (fun c => ?_) (fun c => ?_)
  · replace h := jif_t c h
    refine j_fconst X dX8_validShare_26 ?_
    refine j_sub [] rfl ?_
    exact k_X8_validShare_b27 X hR Rt h
  · replace h := jif_f c h
    refine j_aload_n X dX8_validShare_12 1 rfl ?_
    obtain ⟨fs3, r3, g3, i3, h⟩ := h
    refine j_get X (ci := 11) (C := RX8) (T := TX8) (N := 11) rfl jin_X8 1 (by decide) g3 i3 jw_303 rfl dX8_validShare_13 ?_
    obtain ⟨⟨fs4, g4⟩, h⟩ := h
    refine j_callVi X [] [] (c_X6_countHolding h) (T := TX6) (N := 2) g4 rfl jm_X6_countHolding jw_1516 rfl ⟨rfl, rfl⟩ (by rw [hR]; decide) rfl (Nat.le_of_ble_eq_true rfl) dX8_validShare_16 (fun v4 w4 h => ?_)
    refine j_i2f X dX8_validShare_19 ?_
    refine j_iload_n X dX8_validShare_20 0 rfl ?_
    refine j_i2f X dX8_validShare_21 ?_
    refine j_fdiv X dX8_validShare_22 h.1 ?_
    replace h := h.2
    refine j_goto X 27 dX8_validShare_23 (by decide) ?_
    refine j_sub [] rfl ?_
    exact k_X8_validShare_b27 X hR Rt h
def w_X8_validShare (κ : Nat → Nat) (w : va_W) (a0 : Nat) (P : UInt32 → va_W → Prop) : Prop := w_X8_validShare_b0 κ w a0 P
theorem c_X8_validShare {E : jE} {w : va_W} {a0 : Nat} {P : UInt32 → va_W → Prop} (h : w_X8_validShare E.2.2.2 w a0 P) : jC E yX8_validShare cX8_validShare 2 (some .float) ({ frames := 4, cells := 0, slots := 0, locals := 94 } : Room) [.ref a0] w 0 0 (jPf P) := by
  refine jC_of (by decide) (Nat.le_of_ble_eq_true rfl) ?_
  intro Γ X hE hR Rt
  subst hE
  exact k_X8_validShare_b0 X hR Rt h
theorem jm_X8_isConsistent : jMv yX8_isConsistent cX8_isConsistent 1 (some .boolean) 0 := ⟨jw_1321, jw_1322, jw_22, jw_1323, ⟨by decide +kernel, by decide +kernel⟩, by decide +kernel⟩
def w_X8_isConsistent_b52 (κ : Nat → Nat) (w : va_W) (s0 : Int32) (P : Int32 → va_W → Prop) : Prop :=
    (narrow .boolean (.int s0) = .int s0 ∧ P s0 w)
set_option maxRecDepth 100000 in
set_option maxHeartbeats 4000000 in
theorem k_X8_isConsistent_b52 {Γ : jG} (X : jX Γ cX8_isConsistent 1 RX8) (hR : jgR Γ = ({ frames := 24, cells := 0, slots := 0, locals := 588 } : Room)) {P : Int32 → va_W → Prop} (Rt : jRt Γ cX8_isConsistent 1 0 0 (some .boolean) (jPi P)) {w : va_W} {s0 : Int32} (h : w_X8_isConsistent_b52 (jgE Γ).2.2.2 w s0 P) : J Γ 1 w 0 0 52 [] [.int s0] := by
  unfold w_X8_isConsistent_b52 at h
  exact Rt.z dX8_isConsistent_52 h.1 ⟨_, rfl, h.2⟩ (by first | decide | omega) (by first | decide | omega)
def w_X8_isConsistent_b51 (κ : Nat → Nat) (w : va_W) (P : Int32 → va_W → Prop) : Prop :=
    w_X8_isConsistent_b52 κ w 0 P
set_option maxRecDepth 100000 in
set_option maxHeartbeats 4000000 in
theorem k_X8_isConsistent_b51 {Γ : jG} (X : jX Γ cX8_isConsistent 1 RX8) (hR : jgR Γ = ({ frames := 24, cells := 0, slots := 0, locals := 588 } : Room)) {P : Int32 → va_W → Prop} (Rt : jRt Γ cX8_isConsistent 1 0 0 (some .boolean) (jPi P)) {w : va_W} (h : w_X8_isConsistent_b51 (jgE Γ).2.2.2 w  P) : J Γ 1 w 0 0 51 [] [] := by
  unfold w_X8_isConsistent_b51 at h
  refine j_iconst X 0 dX8_isConsistent_51 (by decide) ?_
  exact k_X8_isConsistent_b52 X hR Rt h
def w_X8_isConsistent_b0 (κ : Nat → Nat) (w : va_W) (a0 : Nat) (P : Int32 → va_W → Prop) : Prop :=
    jgR' w a0 11 1 (fun r1 => (jRc w r1 9 ∧ w_X6_waysAgree κ w r1 (fun v2 w2 => (if v2 = 0 then w_X8_isConsistent_b51 κ w2  P else jgR' w2 a0 11 1 (fun r3 => (jRc w2 r3 9 ∧ w_X6_hashesAreSteps κ w2 r3 (fun v4 w4 => (if v4 = 0 then w_X8_isConsistent_b51 κ w4  P else jgR' w4 a0 11 0 (fun r5 => jgI w4 r5 8 10 (fun v6 => jgR' w4 a0 11 0 (fun r7 => jgI w4 r7 8 11 (fun v8 => jgR' w4 a0 11 1 (fun r9 => (jRc w4 r9 9 ∧ w_X6_countBlocks κ w4 r9 (fun v10 w10 => (if v6 = ((v8 + v10) - 1) then w_X8_isConsistent_b52 κ w10 1 P else w_X8_isConsistent_b51 κ w10  P))))))))))))))))
set_option maxRecDepth 100000 in
set_option maxHeartbeats 4000000 in
theorem k_X8_isConsistent_b0 {Γ : jG} (X : jX Γ cX8_isConsistent 1 RX8) (hR : jgR Γ = ({ frames := 24, cells := 0, slots := 0, locals := 588 } : Room)) {P : Int32 → va_W → Prop} (Rt : jRt Γ cX8_isConsistent 1 0 0 (some .boolean) (jPi P)) {w : va_W} {a0 : Nat} (h : w_X8_isConsistent_b0 (jgE Γ).2.2.2 w a0 P) : J Γ 1 w 0 0 0 [(0, .ref a0)] [] := by
  unfold w_X8_isConsistent_b0 at h
  refine j_aload_n X dX8_isConsistent_0 0 rfl ?_
  obtain ⟨fs1, r1, g1, i1, h⟩ := h
  refine j_get X (ci := 11) (C := RX8) (T := TX8) (N := 11) rfl jin_X8 1 (by decide) g1 i1 jw_303 rfl dX8_isConsistent_1 ?_
  obtain ⟨⟨fs2, g2⟩, h⟩ := h
  refine j_callVi X [] [] (c_X6_waysAgree h) (T := TX6) (N := 2) g2 rfl jm_X6_waysAgree jw_1324 rfl ⟨rfl, rfl⟩ (by rw [hR]; decide) rfl (Nat.le_of_ble_eq_true rfl) dX8_isConsistent_4 (fun v2 w2 h => ?_)
  refine j_if_eq X 51 dX8_isConsistent_7 (by decide) (fun c => ?_) (fun c => ?_)
  · replace h := jif_t c h
    refine j_sub [] rfl ?_
    exact k_X8_isConsistent_b51 X hR Rt h
  · replace h := jif_f c h
    refine j_aload_n X dX8_isConsistent_10 0 rfl ?_
    obtain ⟨fs3, r3, g3, i3, h⟩ := h
    refine j_get X (ci := 11) (C := RX8) (T := TX8) (N := 11) rfl jin_X8 1 (by decide) g3 i3 jw_303 rfl dX8_isConsistent_11 ?_
    obtain ⟨⟨fs4, g4⟩, h⟩ := h
    refine j_callVi X [] [] (c_X6_hashesAreSteps h) (T := TX6) (N := 2) g4 rfl jm_X6_hashesAreSteps jw_1342 rfl ⟨rfl, rfl⟩ (by rw [hR]; decide) rfl (Nat.le_of_ble_eq_true rfl) dX8_isConsistent_14 (fun v4 w4 h => ?_)
    refine j_if_eq X 51 dX8_isConsistent_17 (by decide) (fun c => ?_) (fun c => ?_)
    · replace h := jif_t c h
      refine j_sub [] rfl ?_
      exact k_X8_isConsistent_b51 X hR Rt h
    · replace h := jif_f c h
      refine j_aload_n X dX8_isConsistent_20 0 rfl ?_
      obtain ⟨fs5, r5, g5, i5, h⟩ := h
      refine j_get X (ci := 11) (C := RX8) (T := TX8) (N := 11) rfl jin_X8 0 (by decide) g5 i5 jw_302 rfl dX8_isConsistent_21 ?_
      obtain ⟨fs6, v6, g6, i6, h⟩ := h
      refine j_getN X (ci := 8) (C := RX5) (T := TX5) (N := 12) rfl jin_X5 10 (by decide) g6 i6 jw_141 rfl dX8_isConsistent_24 ?_
      refine j_aload_n X dX8_isConsistent_27 0 rfl ?_
      obtain ⟨fs7, r7, g7, i7, h⟩ := h
      refine j_get X (ci := 11) (C := RX8) (T := TX8) (N := 11) rfl jin_X8 0 (by decide) g7 i7 jw_302 rfl dX8_isConsistent_28 ?_
      obtain ⟨fs8, v8, g8, i8, h⟩ := h
      refine j_getN X (ci := 8) (C := RX5) (T := TX5) (N := 12) rfl jin_X5 11 (by decide) g8 i8 jw_144 rfl dX8_isConsistent_31 ?_
      refine j_aload_n X dX8_isConsistent_34 0 rfl ?_
      obtain ⟨fs9, r9, g9, i9, h⟩ := h
      refine j_get X (ci := 11) (C := RX8) (T := TX8) (N := 11) rfl jin_X8 1 (by decide) g9 i9 jw_303 rfl dX8_isConsistent_35 ?_
      obtain ⟨⟨fs10, g10⟩, h⟩ := h
      refine j_callVi X [] [.int v8, .int v6] (c_X6_countBlocks h) (T := TX6) (N := 2) g10 rfl jm_X6_countBlocks jw_359 rfl ⟨rfl, rfl⟩ (by rw [hR]; decide) rfl (Nat.le_of_ble_eq_true rfl) dX8_isConsistent_38 (fun v10 w10 h => ?_)
      refine j_iadd X dX8_isConsistent_41 ?_
      refine j_iconst X 1 dX8_isConsistent_42 (by decide) ?_
      refine j_isub X dX8_isConsistent_43 ?_
      refine j_icmp_ne X 51 dX8_isConsistent_44 (by decide) (fun c => ?_) (fun c => ?_)
      · replace h := jif_f c h
        refine j_sub [] rfl ?_
        exact k_X8_isConsistent_b51 X hR Rt h
      · replace h := jif_t c h
        refine j_iconst X 1 dX8_isConsistent_47 (by decide) ?_
        refine j_goto X 52 dX8_isConsistent_48 (by decide) ?_
        refine j_sub [] rfl ?_
        exact k_X8_isConsistent_b52 X hR Rt h
def w_X8_isConsistent (κ : Nat → Nat) (w : va_W) (a0 : Nat) (P : Int32 → va_W → Prop) : Prop := w_X8_isConsistent_b0 κ w a0 P
theorem c_X8_isConsistent {E : jE} {w : va_W} {a0 : Nat} {P : Int32 → va_W → Prop} (h : w_X8_isConsistent E.2.2.2 w a0 P) : jC E yX8_isConsistent cX8_isConsistent 1 (some .boolean) ({ frames := 24, cells := 0, slots := 0, locals := 588 } : Room) [.ref a0] w 0 0 (jPi P) := by
  refine jC_of (by decide) (Nat.le_of_ble_eq_true rfl) ?_
  intro Γ X hE hR Rt
  subst hE
  exact k_X8_isConsistent_b0 X hR Rt h
theorem jm_X8_hillCount : jMv yX8_hillCount cX8_hillCount 1 (some .int) 0 := ⟨jw_1222, jw_1223, jw_22, jw_1224, ⟨by decide +kernel, by decide +kernel⟩, by decide +kernel⟩
def w_X8_hillCount_b0 (κ : Nat → Nat) (w : va_W) (a0 : Nat) (P : Int32 → va_W → Prop) : Prop :=
    jgR' w a0 11 0 (fun r1 => jgI w r1 8 8 (fun v2 => P v2 w))
set_option maxRecDepth 100000 in
set_option maxHeartbeats 4000000 in
theorem k_X8_hillCount_b0 {Γ : jG} (X : jX Γ cX8_hillCount 1 RX8) (hR : jgR Γ = ({ frames := 0, cells := 0, slots := 0, locals := 0 } : Room)) {P : Int32 → va_W → Prop} (Rt : jRt Γ cX8_hillCount 1 0 0 (some .int) (jPi P)) {w : va_W} {a0 : Nat} (h : w_X8_hillCount_b0 (jgE Γ).2.2.2 w a0 P) : J Γ 1 w 0 0 0 [(0, .ref a0)] [] := by
  unfold w_X8_hillCount_b0 at h
  refine j_aload_n X dX8_hillCount_0 0 rfl ?_
  obtain ⟨fs1, r1, g1, i1, h⟩ := h
  refine j_get X (ci := 11) (C := RX8) (T := TX8) (N := 11) rfl jin_X8 0 (by decide) g1 i1 jw_302 rfl dX8_hillCount_1 ?_
  obtain ⟨fs2, v2, g2, i2, h⟩ := h
  refine j_getN X (ci := 8) (C := RX5) (T := TX5) (N := 12) rfl jin_X5 8 (by decide) g2 i2 jw_136 rfl dX8_hillCount_4 ?_
  exact Rt.i dX8_hillCount_7 ⟨_, rfl, h⟩ (by first | decide | omega) (by first | decide | omega)
def w_X8_hillCount (κ : Nat → Nat) (w : va_W) (a0 : Nat) (P : Int32 → va_W → Prop) : Prop := w_X8_hillCount_b0 κ w a0 P
theorem c_X8_hillCount {E : jE} {w : va_W} {a0 : Nat} {P : Int32 → va_W → Prop} (h : w_X8_hillCount E.2.2.2 w a0 P) : jC E yX8_hillCount cX8_hillCount 1 (some .int) ({ frames := 0, cells := 0, slots := 0, locals := 0 } : Room) [.ref a0] w 0 0 (jPi P) := by
  refine jC_of (by decide) (Nat.le_of_ble_eq_true rfl) ?_
  intro Γ X hE hR Rt
  subst hE
  exact k_X8_hillCount_b0 X hR Rt h
theorem jm_X8_requireHill : jMv yX8_requireHill cX8_requireHill 2 none 1 := ⟨jw_1232, jw_14, jw_22, jw_1233, ⟨by decide +kernel, by decide +kernel⟩, by decide +kernel⟩
def w_X8_requireHill_b0 (κ : Nat → Nat) (w : va_W) (a0 : Nat) (x1 : Int32) (P : va_W → Prop) (E : String → va_W → Prop) : Prop :=
    jgR' w a0 11 0 (fun r1 => (jRc w r1 8 ∧ w_X5_hasHill κ w r1 x1 (fun v2 w2 => (if v2 = 0 then E "java/lang/IndexOutOfBoundsException" w2 else P w2))))
set_option maxRecDepth 100000 in
set_option maxHeartbeats 4000000 in
theorem k_X8_requireHill_b0 {Γ : jG} (X : jX Γ cX8_requireHill 2 RX8) (hR : jgR Γ = ({ frames := 6, cells := 1, slots := 6, locals := 90 } : Room)) {P : va_W → Prop} {E : String → va_W → Prop} (Rt : jRt Γ cX8_requireHill 2 1 6 none (jPv P)) (Out : jOut Γ 2 1 6 E) (Th : jTh Γ cX8_requireHill 2 RX8 1 6 E) (ThW : jThW Γ cX8_requireHill 2 RX8 1 6 E) {w : va_W} {a0 : Nat} {x1 : Int32} (h : w_X8_requireHill_b0 (jgE Γ).2.2.2 w a0 x1 P E) : J Γ 2 w 0 0 0 [(0, .ref a0), (1, .int x1)] [] := by
  unfold w_X8_requireHill_b0 at h
  refine j_aload_n X dX8_requireHill_0 0 rfl ?_
  obtain ⟨fs1, r1, g1, i1, h⟩ := h
  refine j_get X (ci := 11) (C := RX8) (T := TX8) (N := 11) rfl jin_X8 0 (by decide) g1 i1 jw_302 rfl dX8_requireHill_1 ?_
  refine j_iload_n X dX8_requireHill_4 1 rfl ?_
  obtain ⟨⟨fs2, g2⟩, h⟩ := h
  refine j_callVi X [.int x1] [] (c_X5_hasHill h) (T := TX5) (N := 12) g2 rfl jm_X5_hasHill jw_1234 rfl ⟨rfl, rfl⟩ (by rw [hR]; decide) rfl (Nat.le_of_ble_eq_true rfl) dX8_requireHill_5 (fun v2 w2 h => ?_)
  refine j_if_ne X 22 dX8_requireHill_8 (by decide) (fun c => ?_) (fun c => ?_)
  · replace h := jif_f c h
    exact Rt.v dX8_requireHill_22 ⟨rfl, h⟩ (by first | decide | omega) (by first | decide | omega)
  · replace h := jif_t c h
    exact ThW _ _ _ 11 _ _ 165 426 169 39 7 jrx7 "java/lang/IndexOutOfBoundsException" "there is no such hill" "java/lang/RuntimeException" ["java/lang/Exception"] (by decide +kernel) (by decide +kernel) (by decide +kernel) (by decide +kernel) dX8_requireHill_11 dX8_requireHill_14 dX8_requireHill_15 dX8_requireHill_18 dX8_requireHill_21 (List.mem_of_getElem? (i := 39) rfl) (by decide +kernel) (by decide +kernel) (by decide +kernel) jw_401 jw_40 jat_169 (by rw [hR]; exact ⟨by decide, Nat.le_of_ble_eq_true rfl, by decide, by decide⟩) (by decide) (by decide) h
def w_X8_requireHill (κ : Nat → Nat) (w : va_W) (a0 : Nat) (x1 : Int32) (P : va_W → Prop) (E : String → va_W → Prop) : Prop := w_X8_requireHill_b0 κ w a0 x1 P E
theorem c_X8_requireHill {E9 : jE} {w : va_W} {a0 : Nat} {x1 : Int32} {P : va_W → Prop} {E : String → va_W → Prop} (h : w_X8_requireHill E9.2.2.2 w a0 x1 P E) : jCx E9 yX8_requireHill cX8_requireHill 2 none ({ frames := 6, cells := 1, slots := 6, locals := 90 } : Room) [.ref a0, .int x1] w 1 6 (jPv P) E := by
  refine jCx_of (by decide) (Nat.le_of_ble_eq_true rfl) ?_
  intro Γ X hE hR Rt Out Th ThW
  subst hE
  exact k_X8_requireHill_b0 X hR Rt Out Th ThW h
theorem jm_X8_followed : jMv yX8_followed cX8_followed 2 (some .int) 1 := ⟨jw_1227, jw_1228, jw_22, jw_1229, ⟨by decide +kernel, by decide +kernel⟩, by decide +kernel⟩
def w_X8_followed_b0 (κ : Nat → Nat) (w : va_W) (a0 : Nat) (x1 : Int32) (P : Int32 → va_W → Prop) (E : String → va_W → Prop) : Prop :=
    (jRc w a0 11 ∧ w_X8_requireHill κ w a0 x1 (fun w1 => jgR' w1 a0 11 0 (fun r2 => jgR' w1 r2 8 0 (fun r3 => jgR' w1 a0 11 0 (fun r4 => jgR' w1 r4 8 6 (fun r5 => (jRc w1 r5 6 ∧ w_X3_at κ w1 r5 x1 (fun v6 w6 => (jRc w6 r3 6 ∧ w_X3_at κ w6 r3 v6 (fun v7 w7 => P v7 w7))))))))) E)
set_option maxRecDepth 100000 in
set_option maxHeartbeats 4000000 in
theorem k_X8_followed_b0 {Γ : jG} (X : jX Γ cX8_followed 2 RX8) (hR : jgR Γ = ({ frames := 7, cells := 1, slots := 6, locals := 111 } : Room)) {P : Int32 → va_W → Prop} {E : String → va_W → Prop} (Rt : jRt Γ cX8_followed 2 1 6 (some .int) (jPi P)) (Out : jOut Γ 2 1 6 E) (Th : jTh Γ cX8_followed 2 RX8 1 6 E) (ThW : jThW Γ cX8_followed 2 RX8 1 6 E) {w : va_W} {a0 : Nat} {x1 : Int32} (h : w_X8_followed_b0 (jgE Γ).2.2.2 w a0 x1 P E) : J Γ 2 w 0 0 0 [(0, .ref a0), (1, .int x1)] [] := by
  unfold w_X8_followed_b0 at h
  refine j_aload_n X dX8_followed_0 0 rfl ?_
  refine j_iload_n X dX8_followed_1 1 rfl ?_
  obtain ⟨⟨fs1, g1⟩, h⟩ := h
  refine j_callVxv X [.int x1] [] (c_X8_requireHill h) (T := TX8) (N := 11) g1 rfl jm_X8_requireHill jw_1230 rfl ⟨rfl, rfl⟩ (by rw [hR]; decide) rfl (Nat.le_of_ble_eq_true rfl) dX8_followed_2 (fun w1 h => ?_) (fun Cx _ h => Out _ _ _ _ _ Cx (by decide) (by decide) h)
  refine j_aload_n X dX8_followed_5 0 rfl ?_
  obtain ⟨fs2, r2, g2, i2, h⟩ := h
  refine j_get X (ci := 11) (C := RX8) (T := TX8) (N := 11) rfl jin_X8 0 (by decide) g2 i2 jw_302 rfl dX8_followed_6 ?_
  obtain ⟨fs3, r3, g3, i3, h⟩ := h
  refine j_getN X (ci := 8) (C := RX5) (T := TX5) (N := 12) rfl jin_X5 0 (by decide) g3 i3 jw_106 rfl dX8_followed_9 ?_
  refine j_aload_n X dX8_followed_12 0 rfl ?_
  obtain ⟨fs4, r4, g4, i4, h⟩ := h
  refine j_get X (ci := 11) (C := RX8) (T := TX8) (N := 11) rfl jin_X8 0 (by decide) g4 i4 jw_302 rfl dX8_followed_13 ?_
  obtain ⟨fs5, r5, g5, i5, h⟩ := h
  refine j_getN X (ci := 8) (C := RX5) (T := TX5) (N := 12) rfl jin_X5 6 (by decide) g5 i5 jw_130 rfl dX8_followed_16 ?_
  refine j_iload_n X dX8_followed_19 1 rfl ?_
  obtain ⟨⟨fs6, g6⟩, h⟩ := h
  refine j_callVi X [.int x1] [.ref r3] (c_X3_at h) (T := TX3) (N := 1) g6 rfl jm_X3_at jw_1072 rfl ⟨rfl, rfl⟩ (by rw [hR]; decide) rfl (Nat.le_of_ble_eq_true rfl) dX8_followed_20 (fun v6 w6 h => ?_)
  obtain ⟨⟨fs7, g7⟩, h⟩ := h
  refine j_callVi X [.int v6] [] (c_X3_at h) (T := TX3) (N := 1) g7 rfl jm_X3_at jw_1072 rfl ⟨rfl, rfl⟩ (by rw [hR]; decide) rfl (Nat.le_of_ble_eq_true rfl) dX8_followed_23 (fun v7 w7 h => ?_)
  exact Rt.i dX8_followed_26 ⟨_, rfl, h⟩ (by first | decide | omega) (by first | decide | omega)
def w_X8_followed (κ : Nat → Nat) (w : va_W) (a0 : Nat) (x1 : Int32) (P : Int32 → va_W → Prop) (E : String → va_W → Prop) : Prop := w_X8_followed_b0 κ w a0 x1 P E
theorem c_X8_followed {E9 : jE} {w : va_W} {a0 : Nat} {x1 : Int32} {P : Int32 → va_W → Prop} {E : String → va_W → Prop} (h : w_X8_followed E9.2.2.2 w a0 x1 P E) : jCx E9 yX8_followed cX8_followed 2 (some .int) ({ frames := 7, cells := 1, slots := 6, locals := 111 } : Room) [.ref a0, .int x1] w 1 6 (jPi P) E := by
  refine jCx_of (by decide) (Nat.le_of_ble_eq_true rfl) ?_
  intro Γ X hE hR Rt Out Th ThW
  subst hE
  exact k_X8_followed_b0 X hR Rt Out Th ThW h
theorem jm_X8_collected : jMv yX8_collected cX8_collected 2 (some .int) 1 := ⟨jw_1237, jw_1238, jw_22, jw_1239, ⟨by decide +kernel, by decide +kernel⟩, by decide +kernel⟩
def w_X8_collected_b0 (κ : Nat → Nat) (w : va_W) (a0 : Nat) (x1 : Int32) (P : Int32 → va_W → Prop) (E : String → va_W → Prop) : Prop :=
    (jRc w a0 11 ∧ w_X8_requireHill κ w a0 x1 (fun w1 => jgR' w1 a0 11 0 (fun r2 => jgR' w1 r2 8 7 (fun r3 => (jRc w1 r3 4 ∧ w_X0_size κ w1 r3 x1 (fun v4 w4 => P v4 w4))))) E)
set_option maxRecDepth 100000 in
set_option maxHeartbeats 4000000 in
theorem k_X8_collected_b0 {Γ : jG} (X : jX Γ cX8_collected 2 RX8) (hR : jgR Γ = ({ frames := 7, cells := 1, slots := 6, locals := 111 } : Room)) {P : Int32 → va_W → Prop} {E : String → va_W → Prop} (Rt : jRt Γ cX8_collected 2 1 6 (some .int) (jPi P)) (Out : jOut Γ 2 1 6 E) (Th : jTh Γ cX8_collected 2 RX8 1 6 E) (ThW : jThW Γ cX8_collected 2 RX8 1 6 E) {w : va_W} {a0 : Nat} {x1 : Int32} (h : w_X8_collected_b0 (jgE Γ).2.2.2 w a0 x1 P E) : J Γ 2 w 0 0 0 [(0, .ref a0), (1, .int x1)] [] := by
  unfold w_X8_collected_b0 at h
  refine j_aload_n X dX8_collected_0 0 rfl ?_
  refine j_iload_n X dX8_collected_1 1 rfl ?_
  obtain ⟨⟨fs1, g1⟩, h⟩ := h
  refine j_callVxv X [.int x1] [] (c_X8_requireHill h) (T := TX8) (N := 11) g1 rfl jm_X8_requireHill jw_1230 rfl ⟨rfl, rfl⟩ (by rw [hR]; decide) rfl (Nat.le_of_ble_eq_true rfl) dX8_collected_2 (fun w1 h => ?_) (fun Cx _ h => Out _ _ _ _ _ Cx (by decide) (by decide) h)
  refine j_aload_n X dX8_collected_5 0 rfl ?_
  obtain ⟨fs2, r2, g2, i2, h⟩ := h
  refine j_get X (ci := 11) (C := RX8) (T := TX8) (N := 11) rfl jin_X8 0 (by decide) g2 i2 jw_302 rfl dX8_collected_6 ?_
  obtain ⟨fs3, r3, g3, i3, h⟩ := h
  refine j_getN X (ci := 8) (C := RX5) (T := TX5) (N := 12) rfl jin_X5 7 (by decide) g3 i3 jw_133 rfl dX8_collected_9 ?_
  refine j_iload_n X dX8_collected_12 1 rfl ?_
  obtain ⟨⟨fs4, g4⟩, h⟩ := h
  refine j_callVi X [.int x1] [] (c_X0_size h) (T := TX0) (N := 3) g4 rfl jm_X0_size jw_1240 rfl ⟨rfl, rfl⟩ (by rw [hR]; decide) rfl (Nat.le_of_ble_eq_true rfl) dX8_collected_13 (fun v4 w4 h => ?_)
  exact Rt.i dX8_collected_16 ⟨_, rfl, h⟩ (by first | decide | omega) (by first | decide | omega)
def w_X8_collected (κ : Nat → Nat) (w : va_W) (a0 : Nat) (x1 : Int32) (P : Int32 → va_W → Prop) (E : String → va_W → Prop) : Prop := w_X8_collected_b0 κ w a0 x1 P E
theorem c_X8_collected {E9 : jE} {w : va_W} {a0 : Nat} {x1 : Int32} {P : Int32 → va_W → Prop} {E : String → va_W → Prop} (h : w_X8_collected E9.2.2.2 w a0 x1 P E) : jCx E9 yX8_collected cX8_collected 2 (some .int) ({ frames := 7, cells := 1, slots := 6, locals := 111 } : Room) [.ref a0, .int x1] w 1 6 (jPi P) E := by
  refine jCx_of (by decide) (Nat.le_of_ble_eq_true rfl) ?_
  intro Γ X hE hR Rt Out Th ThW
  subst hE
  exact k_X8_collected_b0 X hR Rt Out Th ThW h
theorem jm_X8_blocksBy : jMv yX8_blocksBy cX8_blocksBy 2 (some .int) 1 := ⟨jw_1541, jw_1542, jw_22, jw_1543, ⟨by decide +kernel, by decide +kernel⟩, by decide +kernel⟩
def w_X8_blocksBy_b0 (κ : Nat → Nat) (w : va_W) (a0 : Nat) (x1 : Int32) (P : Int32 → va_W → Prop) (E : String → va_W → Prop) : Prop :=
    (jRc w a0 11 ∧ w_X8_requireHill κ w a0 x1 (fun w1 => jgR' w1 a0 11 1 (fun r2 => (jRc w1 r2 9 ∧ w_X6_countWrittenBy κ w1 r2 x1 (fun v3 w3 => P v3 w3)))) E)
set_option maxRecDepth 100000 in
set_option maxHeartbeats 4000000 in
theorem k_X8_blocksBy_b0 {Γ : jG} (X : jX Γ cX8_blocksBy 2 RX8) (hR : jgR Γ = ({ frames := 7, cells := 1, slots := 6, locals := 111 } : Room)) {P : Int32 → va_W → Prop} {E : String → va_W → Prop} (Rt : jRt Γ cX8_blocksBy 2 1 6 (some .int) (jPi P)) (Out : jOut Γ 2 1 6 E) (Th : jTh Γ cX8_blocksBy 2 RX8 1 6 E) (ThW : jThW Γ cX8_blocksBy 2 RX8 1 6 E) {w : va_W} {a0 : Nat} {x1 : Int32} (h : w_X8_blocksBy_b0 (jgE Γ).2.2.2 w a0 x1 P E) : J Γ 2 w 0 0 0 [(0, .ref a0), (1, .int x1)] [] := by
  unfold w_X8_blocksBy_b0 at h
  refine j_aload_n X dX8_blocksBy_0 0 rfl ?_
  refine j_iload_n X dX8_blocksBy_1 1 rfl ?_
  obtain ⟨⟨fs1, g1⟩, h⟩ := h
  refine j_callVxv X [.int x1] [] (c_X8_requireHill h) (T := TX8) (N := 11) g1 rfl jm_X8_requireHill jw_1230 rfl ⟨rfl, rfl⟩ (by rw [hR]; decide) rfl (Nat.le_of_ble_eq_true rfl) dX8_blocksBy_2 (fun w1 h => ?_) (fun Cx _ h => Out _ _ _ _ _ Cx (by decide) (by decide) h)
  refine j_aload_n X dX8_blocksBy_5 0 rfl ?_
  obtain ⟨fs2, r2, g2, i2, h⟩ := h
  refine j_get X (ci := 11) (C := RX8) (T := TX8) (N := 11) rfl jin_X8 1 (by decide) g2 i2 jw_303 rfl dX8_blocksBy_6 ?_
  refine j_iload_n X dX8_blocksBy_9 1 rfl ?_
  obtain ⟨⟨fs3, g3⟩, h⟩ := h
  refine j_callVi X [.int x1] [] (c_X6_countWrittenBy h) (T := TX6) (N := 2) g3 rfl jm_X6_countWrittenBy jw_1544 rfl ⟨rfl, rfl⟩ (by rw [hR]; decide) rfl (Nat.le_of_ble_eq_true rfl) dX8_blocksBy_10 (fun v3 w3 h => ?_)
  exact Rt.i dX8_blocksBy_13 ⟨_, rfl, h⟩ (by first | decide | omega) (by first | decide | omega)
def w_X8_blocksBy (κ : Nat → Nat) (w : va_W) (a0 : Nat) (x1 : Int32) (P : Int32 → va_W → Prop) (E : String → va_W → Prop) : Prop := w_X8_blocksBy_b0 κ w a0 x1 P E
theorem c_X8_blocksBy {E9 : jE} {w : va_W} {a0 : Nat} {x1 : Int32} {P : Int32 → va_W → Prop} {E : String → va_W → Prop} (h : w_X8_blocksBy E9.2.2.2 w a0 x1 P E) : jCx E9 yX8_blocksBy cX8_blocksBy 2 (some .int) ({ frames := 7, cells := 1, slots := 6, locals := 111 } : Room) [.ref a0, .int x1] w 1 6 (jPi P) E := by
  refine jCx_of (by decide) (Nat.le_of_ble_eq_true rfl) ?_
  intro Γ X hE hR Rt Out Th ThW
  subst hE
  exact k_X8_blocksBy_b0 X hR Rt Out Th ThW h
theorem jm_X8_nextHash : jMv yX8_nextHash cX8_nextHash 3 (some .int) 1 := ⟨jw_1242, jw_1243, jw_22, jw_1244, ⟨by decide +kernel, by decide +kernel⟩, by decide +kernel⟩
def w_X8_nextHash_b0 (κ : Nat → Nat) (w : va_W) (a0 : Nat) (x1 : Int32) (P : Int32 → va_W → Prop) (E : String → va_W → Prop) : Prop :=
    (jRc w a0 11 ∧ w_X8_requireHill κ w a0 x1 (fun w1 => jgR' w1 a0 11 0 (fun r2 => jgR' w1 r2 8 3 (fun r3 => jgR' w1 a0 11 0 (fun r4 => jgR' w1 r4 8 6 (fun r5 => (jRc w1 r5 6 ∧ w_X3_at κ w1 r5 x1 (fun v6 w6 => (jRc w6 r3 6 ∧ w_X3_at κ w6 r3 v6 (fun v7 w7 => jgR' w7 a0 11 0 (fun r8 => jgR' w7 r8 8 7 (fun r9 => (jRc w7 r9 4 ∧ w_X0_rootByLists κ w7 r9 x1 (fun v10 w10 => w_X8_sealedHash κ w10 v7 v10 x1 (fun v11 w11 => P v11 w11)))))))))))))) E)
set_option maxRecDepth 100000 in
set_option maxHeartbeats 4000000 in
theorem k_X8_nextHash_b0 {Γ : jG} (X : jX Γ cX8_nextHash 3 RX8) (hR : jgR Γ = ({ frames := 7, cells := 1, slots := 6, locals := 111 } : Room)) {P : Int32 → va_W → Prop} {E : String → va_W → Prop} (Rt : jRt Γ cX8_nextHash 3 1 6 (some .int) (jPi P)) (Out : jOut Γ 3 1 6 E) (Th : jTh Γ cX8_nextHash 3 RX8 1 6 E) (ThW : jThW Γ cX8_nextHash 3 RX8 1 6 E) {w : va_W} {a0 : Nat} {x1 : Int32} (h : w_X8_nextHash_b0 (jgE Γ).2.2.2 w a0 x1 P E) : J Γ 3 w 0 0 0 [(0, .ref a0), (1, .int x1)] [] := by
  unfold w_X8_nextHash_b0 at h
  refine j_aload_n X dX8_nextHash_0 0 rfl ?_
  refine j_iload_n X dX8_nextHash_1 1 rfl ?_
  obtain ⟨⟨fs1, g1⟩, h⟩ := h
  refine j_callVxv X [.int x1] [] (c_X8_requireHill h) (T := TX8) (N := 11) g1 rfl jm_X8_requireHill jw_1230 rfl ⟨rfl, rfl⟩ (by rw [hR]; decide) rfl (Nat.le_of_ble_eq_true rfl) dX8_nextHash_2 (fun w1 h => ?_) (fun Cx _ h => Out _ _ _ _ _ Cx (by decide) (by decide) h)
  refine j_aload_n X dX8_nextHash_5 0 rfl ?_
  obtain ⟨fs2, r2, g2, i2, h⟩ := h
  refine j_get X (ci := 11) (C := RX8) (T := TX8) (N := 11) rfl jin_X8 0 (by decide) g2 i2 jw_302 rfl dX8_nextHash_6 ?_
  obtain ⟨fs3, r3, g3, i3, h⟩ := h
  refine j_getN X (ci := 8) (C := RX5) (T := TX5) (N := 12) rfl jin_X5 3 (by decide) g3 i3 jw_119 rfl dX8_nextHash_9 ?_
  refine j_aload_n X dX8_nextHash_12 0 rfl ?_
  obtain ⟨fs4, r4, g4, i4, h⟩ := h
  refine j_get X (ci := 11) (C := RX8) (T := TX8) (N := 11) rfl jin_X8 0 (by decide) g4 i4 jw_302 rfl dX8_nextHash_13 ?_
  obtain ⟨fs5, r5, g5, i5, h⟩ := h
  refine j_getN X (ci := 8) (C := RX5) (T := TX5) (N := 12) rfl jin_X5 6 (by decide) g5 i5 jw_130 rfl dX8_nextHash_16 ?_
  refine j_iload_n X dX8_nextHash_19 1 rfl ?_
  obtain ⟨⟨fs6, g6⟩, h⟩ := h
  refine j_callVi X [.int x1] [.ref r3] (c_X3_at h) (T := TX3) (N := 1) g6 rfl jm_X3_at jw_1072 rfl ⟨rfl, rfl⟩ (by rw [hR]; decide) rfl (Nat.le_of_ble_eq_true rfl) dX8_nextHash_20 (fun v6 w6 h => ?_)
  obtain ⟨⟨fs7, g7⟩, h⟩ := h
  refine j_callVi X [.int v6] [] (c_X3_at h) (T := TX3) (N := 1) g7 rfl jm_X3_at jw_1072 rfl ⟨rfl, rfl⟩ (by rw [hR]; decide) rfl (Nat.le_of_ble_eq_true rfl) dX8_nextHash_23 (fun v7 w7 h => ?_)
  refine j_istore_n X [(2, .int v7), (0, .ref a0), (1, .int x1)] dX8_nextHash_26 (by decide) rfl ?_
  refine j_iload_n X dX8_nextHash_27 0 rfl ?_
  refine j_aload_n X dX8_nextHash_28 1 rfl ?_
  obtain ⟨fs8, r8, g8, i8, h⟩ := h
  refine j_get X (ci := 11) (C := RX8) (T := TX8) (N := 11) rfl jin_X8 0 (by decide) g8 i8 jw_302 rfl dX8_nextHash_29 ?_
  obtain ⟨fs9, r9, g9, i9, h⟩ := h
  refine j_getN X (ci := 8) (C := RX5) (T := TX5) (N := 12) rfl jin_X5 7 (by decide) g9 i9 jw_133 rfl dX8_nextHash_32 ?_
  refine j_iload_n X dX8_nextHash_35 2 rfl ?_
  obtain ⟨⟨fs10, g10⟩, h⟩ := h
  refine j_callVi X [.int x1] [.int v7] (c_X0_rootByLists h) (T := TX0) (N := 3) g10 rfl jm_X0_rootByLists jw_1245 rfl ⟨rfl, rfl⟩ (by rw [hR]; decide) rfl (Nat.le_of_ble_eq_true rfl) dX8_nextHash_36 (fun v10 w10 h => ?_)
  refine j_iload_n X dX8_nextHash_39 2 rfl ?_
  refine j_callSi X [.int v7, .int v10, .int x1] [] (c_X8_sealedHash h) jm_X8_sealedHash jw_1246 rfl ⟨rfl, rfl⟩ (by rw [hR]; decide) rfl (Nat.le_of_ble_eq_true rfl) dX8_nextHash_40 (fun v11 w11 h => ?_)
  exact Rt.i dX8_nextHash_43 ⟨_, rfl, h⟩ (by first | decide | omega) (by first | decide | omega)
def w_X8_nextHash (κ : Nat → Nat) (w : va_W) (a0 : Nat) (x1 : Int32) (P : Int32 → va_W → Prop) (E : String → va_W → Prop) : Prop := w_X8_nextHash_b0 κ w a0 x1 P E
theorem c_X8_nextHash {E9 : jE} {w : va_W} {a0 : Nat} {x1 : Int32} {P : Int32 → va_W → Prop} {E : String → va_W → Prop} (h : w_X8_nextHash E9.2.2.2 w a0 x1 P E) : jCx E9 yX8_nextHash cX8_nextHash 3 (some .int) ({ frames := 7, cells := 1, slots := 6, locals := 111 } : Room) [.ref a0, .int x1] w 1 6 (jPi P) E := by
  refine jCx_of (by decide) (Nat.le_of_ble_eq_true rfl) ?_
  intro Γ X hE hR Rt Out Th ThW
  subst hE
  exact k_X8_nextHash_b0 X hR Rt Out Th ThW h
theorem jm_X8_renderBlock : jMv yX8_renderBlock cX8_renderBlock 5 (some .int) 1 := ⟨jw_1471, jw_1472, jw_22, jw_1473, ⟨by decide +kernel, by decide +kernel⟩, by decide +kernel⟩
def w_X8_renderBlock_b178 (κ : Nat → Nat) (w : va_W) (a0 : Nat) (P : Int32 → va_W → Prop) (E : String → va_W → Prop) : Prop :=
    jgR' w a0 11 8 (fun r1 => (jRc w r1 1 ∧ w_J4_length_8abf5 κ w r1 (fun v2 w2 => P v2 w2)))
set_option maxRecDepth 100000 in
set_option maxHeartbeats 4000000 in
theorem k_X8_renderBlock_b178 {Γ : jG} (X : jX Γ cX8_renderBlock 5 RX8) (hR : jgR Γ = ({ frames := 7, cells := 39, slots := 7720, locals := 196 } : Room)) {P : Int32 → va_W → Prop} {E : String → va_W → Prop} (Rt : jRt Γ cX8_renderBlock 5 39 7720 (some .int) (jPi P)) (Out : jOut Γ 5 39 7720 E) (Th : jTh Γ cX8_renderBlock 5 RX8 39 7720 E) (ThW : jThW Γ cX8_renderBlock 5 RX8 39 7720 E) {w : va_W} {a0 : Nat} (h : w_X8_renderBlock_b178 (jgE Γ).2.2.2 w a0 P E) : J Γ 5 w 39 7720 178 [(0, .ref a0)] [] := by
  unfold w_X8_renderBlock_b178 at h
  refine j_aload_n X dX8_renderBlock_178 0 rfl ?_
  obtain ⟨fs1, r1, g1, i1, h⟩ := h
  refine j_get X (ci := 11) (C := RX8) (T := TX8) (N := 11) rfl jin_X8 8 (by decide) g1 i1 jw_310 rfl dX8_renderBlock_179 ?_
  obtain ⟨⟨fs2, g2⟩, h⟩ := h
  refine j_callVi X [] [] (c_J4_length_8abf5 h) (T := TJ4) (N := 4) g2 rfl jm_J4_length_8abf5 jw_1469 rfl ⟨rfl, rfl⟩ (by rw [hR]; decide) rfl (Nat.le_of_ble_eq_true rfl) dX8_renderBlock_182 (fun v2 w2 h => ?_)
  exact Rt.i dX8_renderBlock_185 ⟨_, rfl, h⟩ (by first | decide | omega) (by first | decide | omega)
def w_X8_renderBlock_b119 : Nat → (κ : Nat → Nat) → (w : va_W) → (a0 : Nat) → (x2 : Int32) → (x3 : Int32) → (x4 : Int32) → (P : Int32 → va_W → Prop) → (E : String → va_W → Prop) → Prop
  | 0, _, _, _, _, _, _, _, _ => False
  | n + 1, κ, w, a0, x2, x3, x4, P, E =>
    (if x3 ≤ x4 then jgR' w a0 11 1 (fun r1 => (jRc w r1 9 ∧ w_X6_holds κ w r1 x2 (fun v2 w2 => (if v2 = 0 then jgR' w2 a0 11 8 (fun r3 => (jRc w2 r3 1 ∧ w_J4_append_cf468 κ w2 r3 33 (fun r4 w4 => w_X8_renderBlock_b178 κ w4 a0 P E))) else w_X8_renderBlock_b178 κ w2 a0 P E)))) else jgR' w a0 11 8 (fun r5 => (jRc w r5 1 ∧ w_J4_append_cf468 κ w r5 44 (fun r6 w6 => jgR' w6 a0 11 0 (fun r7 => jgR' w6 r7 8 5 (fun r8 => (jRc w6 r8 4 ∧ w_X0_flake κ w6 r8 x2 x4 (fun v9 w9 => (jRc w9 r6 1 ∧ w_J4_append_bf812 κ w9 r6 v9 (fun r10 w10 => w_X8_renderBlock_b119 n κ w10 a0 x2 x3 (x4 + 1) P E))))))))))
set_option maxRecDepth 100000 in
set_option maxHeartbeats 4000000 in
theorem k_X8_renderBlock_b119 {Γ : jG} (X : jX Γ cX8_renderBlock 5 RX8) (hR : jgR Γ = ({ frames := 7, cells := 39, slots := 7720, locals := 196 } : Room)) {P : Int32 → va_W → Prop} {E : String → va_W → Prop} (Rt : jRt Γ cX8_renderBlock 5 39 7720 (some .int) (jPi P)) (Out : jOut Γ 5 39 7720 E) (Th : jTh Γ cX8_renderBlock 5 RX8 39 7720 E) (ThW : jThW Γ cX8_renderBlock 5 RX8 39 7720 E) : ∀ (n : Nat) (hN : n ≤ 5) {w : va_W} {a0 : Nat} {x2 : Int32} {x3 : Int32} {x4 : Int32} (h : w_X8_renderBlock_b119 n (jgE Γ).2.2.2 w a0 x2 x3 x4 P E), J Γ 5 w (17 + (5 - n) * 4 + 0) (3254 + (5 - n) * 812 + 0) 119 [(0, .ref a0), (2, .int x2), (3, .int x3), (4, .int x4)] [] := by
  intro n
  induction n with
  | zero => intro hN w a0 x2 x3 x4 h; exact False.elim h
  | succ n ih =>
    intro hN w a0 x2 x3 x4 h
    rw [w_X8_renderBlock_b119] at h
    refine j_iload X dX8_renderBlock_119 3 rfl ?_
    refine j_iload_n X dX8_renderBlock_121 2 rfl ?_
    refine j_icmp_ge X 157 dX8_renderBlock_122 (by decide) (fun c => ?_) (fun c => ?_)
    · replace h := jif_t c h
      refine j_aload_n X dX8_renderBlock_157 0 rfl ?_
      obtain ⟨fs1, r1, g1, i1, h⟩ := h
      refine j_get X (ci := 11) (C := RX8) (T := TX8) (N := 11) rfl jin_X8 1 (by decide) g1 i1 jw_303 rfl dX8_renderBlock_158 ?_
      refine j_iload_n X dX8_renderBlock_161 1 rfl ?_
      obtain ⟨⟨fs2, g2⟩, h⟩ := h
      refine j_callVi X [.int x2] [] (c_X6_holds h) (T := TX6) (N := 2) g2 rfl jm_X6_holds jw_1363 rfl ⟨rfl, rfl⟩ (by rw [hR]; exact ⟨⟨by decide, by decide⟩, by simp only []; omega, by simp only []; omega⟩) rfl (Nat.le_of_ble_eq_true rfl) dX8_renderBlock_162 (fun v2 w2 h => ?_)
      refine j_if_ne X 178 dX8_renderBlock_165 (by decide) (fun c => ?_) (fun c => ?_)
      · replace h := jif_f c h
        refine j_sub [0] rfl ?_
        refine j_widen (k := 39) (n := 7720) (by omega) (by omega) ?_
        exact k_X8_renderBlock_b178 X hR Rt Out Th ThW h
      · replace h := jif_t c h
        refine j_aload_n X dX8_renderBlock_168 0 rfl ?_
        obtain ⟨fs3, r3, g3, i3, h⟩ := h
        refine j_get X (ci := 11) (C := RX8) (T := TX8) (N := 11) rfl jin_X8 8 (by decide) g3 i3 jw_310 rfl dX8_renderBlock_169 ?_
        refine j_bipush X 33 dX8_renderBlock_172 (by decide) ?_
        obtain ⟨⟨fs4, g4⟩, h⟩ := h
        refine j_callVr X [.int 33] [] (c_J4_append_cf468 h) (T := TJ4) (N := 4) g4 rfl jm_J4_append_cf468 jw_1467 rfl ⟨rfl, rfl⟩ (by rw [hR]; exact ⟨⟨by decide, by decide⟩, by simp only []; omega, by simp only []; omega⟩) rfl (Nat.le_of_ble_eq_true rfl) dX8_renderBlock_174 (fun r4 w4 h => ?_)
        refine j_pop X dX8_renderBlock_177 rfl ?_
        refine j_sub [0] rfl ?_
        refine j_widen (k := 39) (n := 7720) (by omega) (by omega) ?_
        exact k_X8_renderBlock_b178 X hR Rt Out Th ThW h
    · replace h := jif_f c h
      refine j_aload_n X dX8_renderBlock_125 0 rfl ?_
      obtain ⟨fs5, r5, g5, i5, h⟩ := h
      refine j_get X (ci := 11) (C := RX8) (T := TX8) (N := 11) rfl jin_X8 8 (by decide) g5 i5 jw_310 rfl dX8_renderBlock_126 ?_
      refine j_bipush X 44 dX8_renderBlock_129 (by decide) ?_
      obtain ⟨⟨fs6, g6⟩, h⟩ := h
      refine j_callVr X [.int 44] [] (c_J4_append_cf468 h) (T := TJ4) (N := 4) g6 rfl jm_J4_append_cf468 jw_1467 rfl ⟨rfl, rfl⟩ (by rw [hR]; exact ⟨⟨by decide, by decide⟩, by simp only []; omega, by simp only []; omega⟩) rfl (Nat.le_of_ble_eq_true rfl) dX8_renderBlock_131 (fun r6 w6 h => ?_)
      refine j_aload_n X dX8_renderBlock_134 0 rfl ?_
      obtain ⟨fs7, r7, g7, i7, h⟩ := h
      refine j_get X (ci := 11) (C := RX8) (T := TX8) (N := 11) rfl jin_X8 0 (by decide) g7 i7 jw_302 rfl dX8_renderBlock_135 ?_
      obtain ⟨fs8, r8, g8, i8, h⟩ := h
      refine j_getN X (ci := 8) (C := RX5) (T := TX5) (N := 12) rfl jin_X5 5 (by decide) g8 i8 jw_127 rfl dX8_renderBlock_138 ?_
      refine j_iload_n X dX8_renderBlock_141 1 rfl ?_
      refine j_iload X dX8_renderBlock_142 3 rfl ?_
      obtain ⟨⟨fs9, g9⟩, h⟩ := h
      refine j_callVi X [.int x2, .int x4] [.ref r6] (c_X0_flake h) (T := TX0) (N := 3) g9 rfl jm_X0_flake jw_1299 rfl ⟨rfl, rfl⟩ (by rw [hR]; exact ⟨⟨by decide, by decide⟩, by simp only []; omega, by simp only []; omega⟩) rfl (Nat.le_of_ble_eq_true rfl) dX8_renderBlock_144 (fun v9 w9 h => ?_)
      obtain ⟨⟨fs10, g10⟩, h⟩ := h
      refine j_callVr X [.int v9] [] (c_J4_append_bf812 h) (T := TJ4) (N := 4) g10 rfl jm_J4_append_bf812 jw_1468 rfl ⟨rfl, rfl⟩ (by rw [hR]; exact ⟨⟨by decide, by decide⟩, by simp only []; omega, by simp only []; omega⟩) rfl (Nat.le_of_ble_eq_true rfl) dX8_renderBlock_147 (fun r10 w10 h => ?_)
      refine j_pop X dX8_renderBlock_150 rfl ?_
      refine j_iinc X (x4 + 1) [(4, .int (x4 + 1)), (0, .ref a0), (2, .int x2), (3, .int x3)] dX8_renderBlock_151 3 rfl rfl (by decide) rfl ?_
      refine j_goto X 119 dX8_renderBlock_154 (by decide) ?_
      refine j_sub [1, 2, 3, 0] rfl ?_
      refine j_widen (k := (17 + (5 - n) * 4 + 0)) (n := (3254 + (5 - n) * 812 + 0)) (by omega) (by omega) ?_
      exact ih (by omega) h
def w_X8_renderBlock_b104 (κ : Nat → Nat) (w : va_W) (a0 : Nat) (x2 : Int32) (P : Int32 → va_W → Prop) (E : String → va_W → Prop) : Prop :=
    jgR' w a0 11 0 (fun r1 => jgR' w r1 8 5 (fun r2 => (jRc w r2 4 ∧ w_X0_size κ w r2 x2 (fun v3 w3 => w_X8_renderBlock_b119 5 κ w3 a0 x2 v3 0 P E))))
set_option maxRecDepth 100000 in
set_option maxHeartbeats 4000000 in
theorem k_X8_renderBlock_b104 {Γ : jG} (X : jX Γ cX8_renderBlock 5 RX8) (hR : jgR Γ = ({ frames := 7, cells := 39, slots := 7720, locals := 196 } : Room)) {P : Int32 → va_W → Prop} {E : String → va_W → Prop} (Rt : jRt Γ cX8_renderBlock 5 39 7720 (some .int) (jPi P)) (Out : jOut Γ 5 39 7720 E) (Th : jTh Γ cX8_renderBlock 5 RX8 39 7720 E) (ThW : jThW Γ cX8_renderBlock 5 RX8 39 7720 E) {w : va_W} {a0 : Nat} {x2 : Int32} (h : w_X8_renderBlock_b104 (jgE Γ).2.2.2 w a0 x2 P E) : J Γ 5 w 17 3254 104 [(0, .ref a0), (2, .int x2)] [] := by
  unfold w_X8_renderBlock_b104 at h
  refine j_aload_n X dX8_renderBlock_104 0 rfl ?_
  obtain ⟨fs1, r1, g1, i1, h⟩ := h
  refine j_get X (ci := 11) (C := RX8) (T := TX8) (N := 11) rfl jin_X8 0 (by decide) g1 i1 jw_302 rfl dX8_renderBlock_105 ?_
  obtain ⟨fs2, r2, g2, i2, h⟩ := h
  refine j_getN X (ci := 8) (C := RX5) (T := TX5) (N := 12) rfl jin_X5 5 (by decide) g2 i2 jw_127 rfl dX8_renderBlock_108 ?_
  refine j_iload_n X dX8_renderBlock_111 1 rfl ?_
  obtain ⟨⟨fs3, g3⟩, h⟩ := h
  refine j_callVi X [.int x2] [] (c_X0_size h) (T := TX0) (N := 3) g3 rfl jm_X0_size jw_1240 rfl ⟨rfl, rfl⟩ (by rw [hR]; decide) rfl (Nat.le_of_ble_eq_true rfl) dX8_renderBlock_112 (fun v3 w3 h => ?_)
  refine j_istore_n X [(3, .int v3), (0, .ref a0), (2, .int x2)] dX8_renderBlock_115 (by decide) rfl ?_
  refine j_iconst X 0 dX8_renderBlock_116 (by decide) ?_
  refine j_istore X [(4, .int 0), (3, .int v3), (0, .ref a0), (2, .int x2)] dX8_renderBlock_117 (by decide) rfl ?_
  refine j_sub [2, 3, 1, 0] rfl ?_
  refine j_widen (k := (17 + (5 - 5) * 4 + 0)) (n := (3254 + (5 - 5) * 812 + 0)) (by omega) (by omega) ?_
  exact k_X8_renderBlock_b119 X hR Rt Out Th ThW _ (Nat.le_refl _) h
def w_X8_renderBlock_b0 (κ : Nat → Nat) (w : va_W) (a0 : Nat) (x1 : Int32) (P : Int32 → va_W → Prop) (E : String → va_W → Prop) : Prop :=
    (jRc w a0 11 ∧ w_X8_requireBlock κ w a0 x1 (fun v1 w1 => jgR' w1 a0 11 8 (fun r2 => (jRc w1 r2 1 ∧ w_J4_setLength_d00df κ w1 r2 0 (fun w3 => jgR' w3 a0 11 8 (fun r4 => (jRc w3 r4 1 ∧ w_J4_append_bf812 κ w3 r4 x1 (fun r5 w5 => (jRc w5 r5 1 ∧ w_J4_append_cf468 κ w5 r5 35 (fun r6 w6 => jgR' w6 a0 11 0 (fun r7 => jgR' w6 r7 8 3 (fun r8 => (jRc w6 r8 6 ∧ w_X3_at κ w6 r8 v1 (fun v9 w9 => (jRc w9 r6 1 ∧ w_J4_append_bf812 κ w9 r6 v9 (fun r10 w10 => (if v1 = 0 then w_X8_renderBlock_b104 κ w10 a0 v1 P E else jgR' w10 a0 11 8 (fun r11 => (jRc w10 r11 1 ∧ w_J4_append_cf468 κ w10 r11 60 (fun r12 w12 => jgR' w12 a0 11 0 (fun r13 => jgR' w12 r13 8 0 (fun r14 => jgR' w12 a0 11 0 (fun r15 => jgR' w12 r15 8 1 (fun r16 => (jRc w12 r16 6 ∧ w_X3_at κ w12 r16 v1 (fun v17 w17 => (jRc w17 r14 6 ∧ w_X3_at κ w17 r14 v17 (fun v18 w18 => (jRc w18 r12 1 ∧ w_J4_append_bf812 κ w18 r12 v18 (fun r19 w19 => jgR' w19 a0 11 8 (fun r20 => (jRc w19 r20 1 ∧ w_J4_append_cf468 κ w19 r20 104 (fun r21 w21 => jgR' w21 a0 11 0 (fun r22 => jgR' w21 r22 8 2 (fun r23 => (jRc w21 r23 6 ∧ w_X3_at κ w21 r23 v1 (fun v24 w24 => (jRc w24 r21 1 ∧ w_J4_append_bf812 κ w24 r21 v24 (fun r25 w25 => w_X8_renderBlock_b104 κ w25 a0 v1 P E)))))))))))))))))))))))))))))))))))))) E)
set_option maxRecDepth 100000 in
set_option maxHeartbeats 4000000 in
theorem k_X8_renderBlock_b0 {Γ : jG} (X : jX Γ cX8_renderBlock 5 RX8) (hR : jgR Γ = ({ frames := 7, cells := 39, slots := 7720, locals := 196 } : Room)) {P : Int32 → va_W → Prop} {E : String → va_W → Prop} (Rt : jRt Γ cX8_renderBlock 5 39 7720 (some .int) (jPi P)) (Out : jOut Γ 5 39 7720 E) (Th : jTh Γ cX8_renderBlock 5 RX8 39 7720 E) (ThW : jThW Γ cX8_renderBlock 5 RX8 39 7720 E) {w : va_W} {a0 : Nat} {x1 : Int32} (h : w_X8_renderBlock_b0 (jgE Γ).2.2.2 w a0 x1 P E) : J Γ 5 w 0 0 0 [(0, .ref a0), (1, .int x1)] [] := by
  unfold w_X8_renderBlock_b0 at h
  refine j_aload_n X dX8_renderBlock_0 0 rfl ?_
  refine j_iload_n X dX8_renderBlock_1 1 rfl ?_
  obtain ⟨⟨fs1, g1⟩, h⟩ := h
  refine j_callVxi X [.int x1] [] (c_X8_requireBlock h) (T := TX8) (N := 11) g1 rfl jm_X8_requireBlock jw_1278 rfl ⟨rfl, rfl⟩ (by rw [hR]; decide) rfl (Nat.le_of_ble_eq_true rfl) dX8_renderBlock_2 (fun v1 w1 h => ?_) (fun Cx _ h => Out _ _ _ _ _ Cx (by decide) (by decide) h)
  refine j_istore_n X [(2, .int v1), (0, .ref a0), (1, .int x1)] dX8_renderBlock_5 (by decide) rfl ?_
  refine j_aload_n X dX8_renderBlock_6 1 rfl ?_
  obtain ⟨fs2, r2, g2, i2, h⟩ := h
  refine j_get X (ci := 11) (C := RX8) (T := TX8) (N := 11) rfl jin_X8 8 (by decide) g2 i2 jw_310 rfl dX8_renderBlock_7 ?_
  refine j_iconst X 0 dX8_renderBlock_10 (by decide) ?_
  obtain ⟨⟨fs3, g3⟩, h⟩ := h
  refine j_callVv X [.int 0] [] (c_J4_setLength_d00df h) (T := TJ4) (N := 4) g3 rfl jm_J4_setLength_d00df jw_1466 rfl ⟨rfl, rfl⟩ (by rw [hR]; decide) rfl (Nat.le_of_ble_eq_true rfl) dX8_renderBlock_11 (fun w3 h => ?_)
  refine j_aload_n X dX8_renderBlock_14 1 rfl ?_
  obtain ⟨fs4, r4, g4, i4, h⟩ := h
  refine j_get X (ci := 11) (C := RX8) (T := TX8) (N := 11) rfl jin_X8 8 (by decide) g4 i4 jw_310 rfl dX8_renderBlock_15 ?_
  refine j_iload_n X dX8_renderBlock_18 2 rfl ?_
  obtain ⟨⟨fs5, g5⟩, h⟩ := h
  refine j_callVr X [.int x1] [] (c_J4_append_bf812 h) (T := TJ4) (N := 4) g5 rfl jm_J4_append_bf812 jw_1468 rfl ⟨rfl, rfl⟩ (by rw [hR]; decide) rfl (Nat.le_of_ble_eq_true rfl) dX8_renderBlock_19 (fun r5 w5 h => ?_)
  refine j_bipush X 35 dX8_renderBlock_22 (by decide) ?_
  obtain ⟨⟨fs6, g6⟩, h⟩ := h
  refine j_callVr X [.int 35] [] (c_J4_append_cf468 h) (T := TJ4) (N := 4) g6 rfl jm_J4_append_cf468 jw_1467 rfl ⟨rfl, rfl⟩ (by rw [hR]; decide) rfl (Nat.le_of_ble_eq_true rfl) dX8_renderBlock_24 (fun r6 w6 h => ?_)
  refine j_aload_n X dX8_renderBlock_27 1 rfl ?_
  obtain ⟨fs7, r7, g7, i7, h⟩ := h
  refine j_get X (ci := 11) (C := RX8) (T := TX8) (N := 11) rfl jin_X8 0 (by decide) g7 i7 jw_302 rfl dX8_renderBlock_28 ?_
  obtain ⟨fs8, r8, g8, i8, h⟩ := h
  refine j_getN X (ci := 8) (C := RX5) (T := TX5) (N := 12) rfl jin_X5 3 (by decide) g8 i8 jw_119 rfl dX8_renderBlock_31 ?_
  refine j_iload_n X dX8_renderBlock_34 0 rfl ?_
  obtain ⟨⟨fs9, g9⟩, h⟩ := h
  refine j_callVi X [.int v1] [.ref r6] (c_X3_at h) (T := TX3) (N := 1) g9 rfl jm_X3_at jw_1072 rfl ⟨rfl, rfl⟩ (by rw [hR]; decide) rfl (Nat.le_of_ble_eq_true rfl) dX8_renderBlock_35 (fun v9 w9 h => ?_)
  obtain ⟨⟨fs10, g10⟩, h⟩ := h
  refine j_callVr X [.int v9] [] (c_J4_append_bf812 h) (T := TJ4) (N := 4) g10 rfl jm_J4_append_bf812 jw_1468 rfl ⟨rfl, rfl⟩ (by rw [hR]; decide) rfl (Nat.le_of_ble_eq_true rfl) dX8_renderBlock_38 (fun r10 w10 h => ?_)
  refine j_pop X dX8_renderBlock_41 rfl ?_
  refine j_iload_n X dX8_renderBlock_42 0 rfl ?_
  refine j_if_eq X 104 dX8_renderBlock_43 (by decide) (fun c => ?_) (fun c => ?_)
  · replace h := jif_t c h
    refine j_sub [1, 0] rfl ?_
    refine j_widen (k := 17) (n := 3254) (by omega) (by omega) ?_
    exact k_X8_renderBlock_b104 X hR Rt Out Th ThW h
  · replace h := jif_f c h
    refine j_aload_n X dX8_renderBlock_46 1 rfl ?_
    obtain ⟨fs11, r11, g11, i11, h⟩ := h
    refine j_get X (ci := 11) (C := RX8) (T := TX8) (N := 11) rfl jin_X8 8 (by decide) g11 i11 jw_310 rfl dX8_renderBlock_47 ?_
    refine j_bipush X 60 dX8_renderBlock_50 (by decide) ?_
    obtain ⟨⟨fs12, g12⟩, h⟩ := h
    refine j_callVr X [.int 60] [] (c_J4_append_cf468 h) (T := TJ4) (N := 4) g12 rfl jm_J4_append_cf468 jw_1467 rfl ⟨rfl, rfl⟩ (by rw [hR]; decide) rfl (Nat.le_of_ble_eq_true rfl) dX8_renderBlock_52 (fun r12 w12 h => ?_)
    refine j_aload_n X dX8_renderBlock_55 1 rfl ?_
    obtain ⟨fs13, r13, g13, i13, h⟩ := h
    refine j_get X (ci := 11) (C := RX8) (T := TX8) (N := 11) rfl jin_X8 0 (by decide) g13 i13 jw_302 rfl dX8_renderBlock_56 ?_
    obtain ⟨fs14, r14, g14, i14, h⟩ := h
    refine j_getN X (ci := 8) (C := RX5) (T := TX5) (N := 12) rfl jin_X5 0 (by decide) g14 i14 jw_106 rfl dX8_renderBlock_59 ?_
    refine j_aload_n X dX8_renderBlock_62 1 rfl ?_
    obtain ⟨fs15, r15, g15, i15, h⟩ := h
    refine j_get X (ci := 11) (C := RX8) (T := TX8) (N := 11) rfl jin_X8 0 (by decide) g15 i15 jw_302 rfl dX8_renderBlock_63 ?_
    obtain ⟨fs16, r16, g16, i16, h⟩ := h
    refine j_getN X (ci := 8) (C := RX5) (T := TX5) (N := 12) rfl jin_X5 1 (by decide) g16 i16 jw_111 rfl dX8_renderBlock_66 ?_
    refine j_iload_n X dX8_renderBlock_69 0 rfl ?_
    obtain ⟨⟨fs17, g17⟩, h⟩ := h
    refine j_callVi X [.int v1] [.ref r14, .ref r12] (c_X3_at h) (T := TX3) (N := 1) g17 rfl jm_X3_at jw_1072 rfl ⟨rfl, rfl⟩ (by rw [hR]; decide) rfl (Nat.le_of_ble_eq_true rfl) dX8_renderBlock_70 (fun v17 w17 h => ?_)
    obtain ⟨⟨fs18, g18⟩, h⟩ := h
    refine j_callVi X [.int v17] [.ref r12] (c_X3_at h) (T := TX3) (N := 1) g18 rfl jm_X3_at jw_1072 rfl ⟨rfl, rfl⟩ (by rw [hR]; decide) rfl (Nat.le_of_ble_eq_true rfl) dX8_renderBlock_73 (fun v18 w18 h => ?_)
    obtain ⟨⟨fs19, g19⟩, h⟩ := h
    refine j_callVr X [.int v18] [] (c_J4_append_bf812 h) (T := TJ4) (N := 4) g19 rfl jm_J4_append_bf812 jw_1468 rfl ⟨rfl, rfl⟩ (by rw [hR]; decide) rfl (Nat.le_of_ble_eq_true rfl) dX8_renderBlock_76 (fun r19 w19 h => ?_)
    refine j_pop X dX8_renderBlock_79 rfl ?_
    refine j_aload_n X dX8_renderBlock_80 1 rfl ?_
    obtain ⟨fs20, r20, g20, i20, h⟩ := h
    refine j_get X (ci := 11) (C := RX8) (T := TX8) (N := 11) rfl jin_X8 8 (by decide) g20 i20 jw_310 rfl dX8_renderBlock_81 ?_
    refine j_bipush X 104 dX8_renderBlock_84 (by decide) ?_
    obtain ⟨⟨fs21, g21⟩, h⟩ := h
    refine j_callVr X [.int 104] [] (c_J4_append_cf468 h) (T := TJ4) (N := 4) g21 rfl jm_J4_append_cf468 jw_1467 rfl ⟨rfl, rfl⟩ (by rw [hR]; decide) rfl (Nat.le_of_ble_eq_true rfl) dX8_renderBlock_86 (fun r21 w21 h => ?_)
    refine j_aload_n X dX8_renderBlock_89 1 rfl ?_
    obtain ⟨fs22, r22, g22, i22, h⟩ := h
    refine j_get X (ci := 11) (C := RX8) (T := TX8) (N := 11) rfl jin_X8 0 (by decide) g22 i22 jw_302 rfl dX8_renderBlock_90 ?_
    obtain ⟨fs23, r23, g23, i23, h⟩ := h
    refine j_getN X (ci := 8) (C := RX5) (T := TX5) (N := 12) rfl jin_X5 2 (by decide) g23 i23 jw_115 rfl dX8_renderBlock_93 ?_
    refine j_iload_n X dX8_renderBlock_96 0 rfl ?_
    obtain ⟨⟨fs24, g24⟩, h⟩ := h
    refine j_callVi X [.int v1] [.ref r21] (c_X3_at h) (T := TX3) (N := 1) g24 rfl jm_X3_at jw_1072 rfl ⟨rfl, rfl⟩ (by rw [hR]; decide) rfl (Nat.le_of_ble_eq_true rfl) dX8_renderBlock_97 (fun v24 w24 h => ?_)
    obtain ⟨⟨fs25, g25⟩, h⟩ := h
    refine j_callVr X [.int v24] [] (c_J4_append_bf812 h) (T := TJ4) (N := 4) g25 rfl jm_J4_append_bf812 jw_1468 rfl ⟨rfl, rfl⟩ (by rw [hR]; decide) rfl (Nat.le_of_ble_eq_true rfl) dX8_renderBlock_100 (fun r25 w25 h => ?_)
    refine j_pop X dX8_renderBlock_103 rfl ?_
    refine j_sub [1, 0] rfl ?_
    refine j_widen (k := 17) (n := 3254) (by omega) (by omega) ?_
    exact k_X8_renderBlock_b104 X hR Rt Out Th ThW h
def w_X8_renderBlock (κ : Nat → Nat) (w : va_W) (a0 : Nat) (x1 : Int32) (P : Int32 → va_W → Prop) (E : String → va_W → Prop) : Prop := w_X8_renderBlock_b0 κ w a0 x1 P E
theorem c_X8_renderBlock {E9 : jE} {w : va_W} {a0 : Nat} {x1 : Int32} {P : Int32 → va_W → Prop} {E : String → va_W → Prop} (h : w_X8_renderBlock E9.2.2.2 w a0 x1 P E) : jCx E9 yX8_renderBlock cX8_renderBlock 5 (some .int) ({ frames := 7, cells := 39, slots := 7720, locals := 196 } : Room) [.ref a0, .int x1] w 39 7720 (jPi P) E := by
  refine jCx_of (by decide) (Nat.le_of_ble_eq_true rfl) ?_
  intro Γ X hE hR Rt Out Th ThW
  subst hE
  exact k_X8_renderBlock_b0 X hR Rt Out Th ThW h
theorem jm_X8_renderBranch : jMv yX8_renderBranch cX8_renderBranch 5 (some .int) 1 := ⟨jw_1463, jw_1464, jw_22, jw_1465, ⟨by decide +kernel, by decide +kernel⟩, by decide +kernel⟩
def w_X8_renderBranch_b83 (κ : Nat → Nat) (w : va_W) (a0 : Nat) (P : Int32 → va_W → Prop) (E : String → va_W → Prop) : Prop :=
    jgR' w a0 11 8 (fun r1 => (jRc w r1 1 ∧ w_J4_length_8abf5 κ w r1 (fun v2 w2 => P v2 w2)))
set_option maxRecDepth 100000 in
set_option maxHeartbeats 4000000 in
theorem k_X8_renderBranch_b83 {Γ : jG} (X : jX Γ cX8_renderBranch 5 RX8) (hR : jgR Γ = ({ frames := 7, cells := 71, slots := 14216, locals := 196 } : Room)) {P : Int32 → va_W → Prop} {E : String → va_W → Prop} (Rt : jRt Γ cX8_renderBranch 5 71 14216 (some .int) (jPi P)) (Out : jOut Γ 5 71 14216 E) (Th : jTh Γ cX8_renderBranch 5 RX8 71 14216 E) (ThW : jThW Γ cX8_renderBranch 5 RX8 71 14216 E) {w : va_W} {a0 : Nat} (h : w_X8_renderBranch_b83 (jgE Γ).2.2.2 w a0 P E) : J Γ 5 w 71 14216 83 [(0, .ref a0)] [] := by
  unfold w_X8_renderBranch_b83 at h
  refine j_aload_n X dX8_renderBranch_83 0 rfl ?_
  obtain ⟨fs1, r1, g1, i1, h⟩ := h
  refine j_get X (ci := 11) (C := RX8) (T := TX8) (N := 11) rfl jin_X8 8 (by decide) g1 i1 jw_310 rfl dX8_renderBranch_84 ?_
  obtain ⟨⟨fs2, g2⟩, h⟩ := h
  refine j_callVi X [] [] (c_J4_length_8abf5 h) (T := TJ4) (N := 4) g2 rfl jm_J4_length_8abf5 jw_1469 rfl ⟨rfl, rfl⟩ (by rw [hR]; decide) rfl (Nat.le_of_ble_eq_true rfl) dX8_renderBranch_87 (fun v2 w2 h => ?_)
  exact Rt.i dX8_renderBranch_90 ⟨_, rfl, h⟩ (by first | decide | omega) (by first | decide | omega)
def w_X8_renderBranch_b46 (κ : Nat → Nat) (w : va_W) (a0 : Nat) (x3 : Int32) (x4 : Int32) (K19 : va_W → Nat → Int32 → Int32 → Prop) (P : Int32 → va_W → Prop) (E : String → va_W → Prop) : Prop :=
    jgR' w a0 11 8 (fun r1 => jgR' w a0 11 0 (fun r2 => jgR' w r2 8 0 (fun r3 => (jRc w r3 6 ∧ w_X3_at κ w r3 x3 (fun v4 w4 => (jRc w4 r1 1 ∧ w_J4_append_bf812 κ w4 r1 v4 (fun r5 w5 => jgR' w5 a0 11 0 (fun r6 => jgR' w5 r6 8 1 (fun r7 => (jRc w5 r7 6 ∧ w_X3_at κ w5 r7 x3 (fun v8 w8 => K19 w8 a0 v8 (x4 + 1))))))))))))
set_option maxRecDepth 100000 in
set_option maxHeartbeats 4000000 in
theorem k_X8_renderBranch_b46 {N : Nat} (hN : N + 1 ≤ 17) {Γ : jG} (X : jX Γ cX8_renderBranch 5 RX8) (hR : jgR Γ = ({ frames := 7, cells := 71, slots := 14216, locals := 196 } : Room)) {P : Int32 → va_W → Prop} {E : String → va_W → Prop} (Rt : jRt Γ cX8_renderBranch 5 71 14216 (some .int) (jPi P)) (Out : jOut Γ 5 71 14216 E) (Th : jTh Γ cX8_renderBranch 5 RX8 71 14216 E) (ThW : jThW Γ cX8_renderBranch 5 RX8 71 14216 E) {K19 : va_W → Nat → Int32 → Int32 → Prop} (hK19 : ∀ (w : va_W) (a0 : Nat) (x3 : Int32) (x4 : Int32), K19 w a0 x3 x4 → J Γ 5 w (3 + (17 - N) * 4 + 0) (412 + (17 - N) * 812 + 0) 19 [(0, .ref a0), (3, .int x3), (4, .int x4)] []) {w : va_W} {a0 : Nat} {x3 : Int32} {x4 : Int32} (h : w_X8_renderBranch_b46 (jgE Γ).2.2.2 w a0 x3 x4 K19 P E) : J Γ 5 w (3 + (17 - (N + 1)) * 4 + 2) (412 + (17 - (N + 1)) * 812 + 406) 46 [(0, .ref a0), (3, .int x3), (4, .int x4)] [] := by
  unfold w_X8_renderBranch_b46 at h
  refine j_aload_n X dX8_renderBranch_46 0 rfl ?_
  obtain ⟨fs1, r1, g1, i1, h⟩ := h
  refine j_get X (ci := 11) (C := RX8) (T := TX8) (N := 11) rfl jin_X8 8 (by decide) g1 i1 jw_310 rfl dX8_renderBranch_47 ?_
  refine j_aload_n X dX8_renderBranch_50 0 rfl ?_
  obtain ⟨fs2, r2, g2, i2, h⟩ := h
  refine j_get X (ci := 11) (C := RX8) (T := TX8) (N := 11) rfl jin_X8 0 (by decide) g2 i2 jw_302 rfl dX8_renderBranch_51 ?_
  obtain ⟨fs3, r3, g3, i3, h⟩ := h
  refine j_getN X (ci := 8) (C := RX5) (T := TX5) (N := 12) rfl jin_X5 0 (by decide) g3 i3 jw_106 rfl dX8_renderBranch_54 ?_
  refine j_iload_n X dX8_renderBranch_57 1 rfl ?_
  obtain ⟨⟨fs4, g4⟩, h⟩ := h
  refine j_callVi X [.int x3] [.ref r1] (c_X3_at h) (T := TX3) (N := 1) g4 rfl jm_X3_at jw_1072 rfl ⟨rfl, rfl⟩ (by rw [hR]; exact ⟨⟨by decide, by decide⟩, by simp only []; omega, by simp only []; omega⟩) rfl (Nat.le_of_ble_eq_true rfl) dX8_renderBranch_58 (fun v4 w4 h => ?_)
  obtain ⟨⟨fs5, g5⟩, h⟩ := h
  refine j_callVr X [.int v4] [] (c_J4_append_bf812 h) (T := TJ4) (N := 4) g5 rfl jm_J4_append_bf812 jw_1468 rfl ⟨rfl, rfl⟩ (by rw [hR]; exact ⟨⟨by decide, by decide⟩, by simp only []; omega, by simp only []; omega⟩) rfl (Nat.le_of_ble_eq_true rfl) dX8_renderBranch_61 (fun r5 w5 h => ?_)
  refine j_pop X dX8_renderBranch_64 rfl ?_
  refine j_aload_n X dX8_renderBranch_65 0 rfl ?_
  obtain ⟨fs6, r6, g6, i6, h⟩ := h
  refine j_get X (ci := 11) (C := RX8) (T := TX8) (N := 11) rfl jin_X8 0 (by decide) g6 i6 jw_302 rfl dX8_renderBranch_66 ?_
  obtain ⟨fs7, r7, g7, i7, h⟩ := h
  refine j_getN X (ci := 8) (C := RX5) (T := TX5) (N := 12) rfl jin_X5 1 (by decide) g7 i7 jw_111 rfl dX8_renderBranch_69 ?_
  refine j_iload_n X dX8_renderBranch_72 1 rfl ?_
  obtain ⟨⟨fs8, g8⟩, h⟩ := h
  refine j_callVi X [.int x3] [] (c_X3_at h) (T := TX3) (N := 1) g8 rfl jm_X3_at jw_1072 rfl ⟨rfl, rfl⟩ (by rw [hR]; exact ⟨⟨by decide, by decide⟩, by simp only []; omega, by simp only []; omega⟩) rfl (Nat.le_of_ble_eq_true rfl) dX8_renderBranch_73 (fun v8 w8 h => ?_)
  refine j_istore_n X [(3, .int v8), (0, .ref a0), (4, .int x4)] dX8_renderBranch_76 (by decide) rfl ?_
  refine j_iinc X (x4 + 1) [(4, .int (x4 + 1)), (3, .int v8), (0, .ref a0)] dX8_renderBranch_77 2 rfl rfl (by decide) rfl ?_
  refine j_goto X 19 dX8_renderBranch_80 (by decide) ?_
  refine j_sub [2, 1, 0] rfl ?_
  refine j_widen (k := (3 + (17 - N) * 4 + 0)) (n := (412 + (17 - N) * 812 + 0)) (by omega) (by omega) ?_
  exact hK19 _ _ _ _ h
def w_X8_renderBranch_b19 : Nat → (κ : Nat → Nat) → (w : va_W) → (a0 : Nat) → (x3 : Int32) → (x4 : Int32) → (P : Int32 → va_W → Prop) → (E : String → va_W → Prop) → Prop
  | 0, _, _, _, _, _, _, _ => False
  | n + 1, κ, w, a0, x3, x4, P, E =>
    (if x3 = (-1) then w_X8_renderBranch_b83 κ w a0 P E else (if 16 ≤ x4 then w_X8_renderBranch_b83 κ w a0 P E else (if x4 ≤ 0 then w_X8_renderBranch_b46 κ w a0 x3 x4 (fun w_ z_a0 z_x3 z_x4 => w_X8_renderBranch_b19 n κ w_ z_a0 z_x3 z_x4 P E) P E else jgR' w a0 11 8 (fun r1 => (jRc w r1 1 ∧ w_J4_append_cf468 κ w r1 45 (fun r2 w2 => w_X8_renderBranch_b46 κ w2 a0 x3 x4 (fun w_ z_a0 z_x3 z_x4 => w_X8_renderBranch_b19 n κ w_ z_a0 z_x3 z_x4 P E) P E))))))
set_option maxRecDepth 100000 in
set_option maxHeartbeats 4000000 in
theorem k_X8_renderBranch_b19 {Γ : jG} (X : jX Γ cX8_renderBranch 5 RX8) (hR : jgR Γ = ({ frames := 7, cells := 71, slots := 14216, locals := 196 } : Room)) {P : Int32 → va_W → Prop} {E : String → va_W → Prop} (Rt : jRt Γ cX8_renderBranch 5 71 14216 (some .int) (jPi P)) (Out : jOut Γ 5 71 14216 E) (Th : jTh Γ cX8_renderBranch 5 RX8 71 14216 E) (ThW : jThW Γ cX8_renderBranch 5 RX8 71 14216 E) : ∀ (n : Nat) (hN : n ≤ 17) {w : va_W} {a0 : Nat} {x3 : Int32} {x4 : Int32} (h : w_X8_renderBranch_b19 n (jgE Γ).2.2.2 w a0 x3 x4 P E), J Γ 5 w (3 + (17 - n) * 4 + 0) (412 + (17 - n) * 812 + 0) 19 [(0, .ref a0), (3, .int x3), (4, .int x4)] [] := by
  intro n
  induction n with
  | zero => intro hN w a0 x3 x4 h; exact False.elim h
  | succ n ih =>
    intro hN w a0 x3 x4 h
    rw [w_X8_renderBranch_b19] at h
    refine j_iload_n X dX8_renderBranch_19 1 rfl ?_
    refine j_iconst X (-1) dX8_renderBranch_20 (by decide) ?_
    refine j_icmp_eq X 83 dX8_renderBranch_21 (by decide) (fun c => ?_) (fun c => ?_)
    · replace h := jif_t c h
      refine j_sub [0] rfl ?_
      refine j_widen (k := 71) (n := 14216) (by omega) (by omega) ?_
      exact k_X8_renderBranch_b83 X hR Rt Out Th ThW h
    · replace h := jif_f c h
      refine j_iload X dX8_renderBranch_24 2 rfl ?_
      refine j_bipush X 16 dX8_renderBranch_26 (by decide) ?_
      refine j_icmp_ge X 83 dX8_renderBranch_28 (by decide) (fun c => ?_) (fun c => ?_)
      · replace h := jif_t c h
        refine j_sub [0] rfl ?_
        refine j_widen (k := 71) (n := 14216) (by omega) (by omega) ?_
        exact k_X8_renderBranch_b83 X hR Rt Out Th ThW h
      · replace h := jif_f c h
        refine j_iload X dX8_renderBranch_31 2 rfl ?_
        refine j_if_le X 46 dX8_renderBranch_33 (by decide) (fun c => ?_) (fun c => ?_)
        · replace h := jif_t c h
          refine j_widen (k := (3 + (17 - (n + 1)) * 4 + 2)) (n := (412 + (17 - (n + 1)) * 812 + 406)) (by omega) (by omega) ?_
          exact k_X8_renderBranch_b46 hN X hR Rt Out Th ThW (fun _ _ _ _ h => ih (by omega) h) h
        · replace h := jif_f c h
          refine j_aload_n X dX8_renderBranch_36 0 rfl ?_
          obtain ⟨fs1, r1, g1, i1, h⟩ := h
          refine j_get X (ci := 11) (C := RX8) (T := TX8) (N := 11) rfl jin_X8 8 (by decide) g1 i1 jw_310 rfl dX8_renderBranch_37 ?_
          refine j_bipush X 45 dX8_renderBranch_40 (by decide) ?_
          obtain ⟨⟨fs2, g2⟩, h⟩ := h
          refine j_callVr X [.int 45] [] (c_J4_append_cf468 h) (T := TJ4) (N := 4) g2 rfl jm_J4_append_cf468 jw_1467 rfl ⟨rfl, rfl⟩ (by rw [hR]; exact ⟨⟨by decide, by decide⟩, by simp only []; omega, by simp only []; omega⟩) rfl (Nat.le_of_ble_eq_true rfl) dX8_renderBranch_42 (fun r2 w2 h => ?_)
          refine j_pop X dX8_renderBranch_45 rfl ?_
          refine j_widen (k := (3 + (17 - (n + 1)) * 4 + 2)) (n := (412 + (17 - (n + 1)) * 812 + 406)) (by omega) (by omega) ?_
          exact k_X8_renderBranch_b46 hN X hR Rt Out Th ThW (fun _ _ _ _ h => ih (by omega) h) h
def w_X8_renderBranch_b0 (κ : Nat → Nat) (w : va_W) (a0 : Nat) (x1 : Int32) (P : Int32 → va_W → Prop) (E : String → va_W → Prop) : Prop :=
    (jRc w a0 11 ∧ w_X8_requireBlock κ w a0 x1 (fun v1 w1 => jgR' w1 a0 11 8 (fun r2 => (jRc w1 r2 1 ∧ w_J4_setLength_d00df κ w1 r2 0 (fun w3 => w_X8_renderBranch_b19 17 κ w3 a0 v1 0 P E)))) E)
set_option maxRecDepth 100000 in
set_option maxHeartbeats 4000000 in
theorem k_X8_renderBranch_b0 {Γ : jG} (X : jX Γ cX8_renderBranch 5 RX8) (hR : jgR Γ = ({ frames := 7, cells := 71, slots := 14216, locals := 196 } : Room)) {P : Int32 → va_W → Prop} {E : String → va_W → Prop} (Rt : jRt Γ cX8_renderBranch 5 71 14216 (some .int) (jPi P)) (Out : jOut Γ 5 71 14216 E) (Th : jTh Γ cX8_renderBranch 5 RX8 71 14216 E) (ThW : jThW Γ cX8_renderBranch 5 RX8 71 14216 E) {w : va_W} {a0 : Nat} {x1 : Int32} (h : w_X8_renderBranch_b0 (jgE Γ).2.2.2 w a0 x1 P E) : J Γ 5 w 0 0 0 [(0, .ref a0), (1, .int x1)] [] := by
  unfold w_X8_renderBranch_b0 at h
  refine j_aload_n X dX8_renderBranch_0 0 rfl ?_
  refine j_iload_n X dX8_renderBranch_1 1 rfl ?_
  obtain ⟨⟨fs1, g1⟩, h⟩ := h
  refine j_callVxi X [.int x1] [] (c_X8_requireBlock h) (T := TX8) (N := 11) g1 rfl jm_X8_requireBlock jw_1278 rfl ⟨rfl, rfl⟩ (by rw [hR]; decide) rfl (Nat.le_of_ble_eq_true rfl) dX8_renderBranch_2 (fun v1 w1 h => ?_) (fun Cx _ h => Out _ _ _ _ _ Cx (by decide) (by decide) h)
  refine j_istore_n X [(2, .int v1), (0, .ref a0), (1, .int x1)] dX8_renderBranch_5 (by decide) rfl ?_
  refine j_aload_n X dX8_renderBranch_6 1 rfl ?_
  obtain ⟨fs2, r2, g2, i2, h⟩ := h
  refine j_get X (ci := 11) (C := RX8) (T := TX8) (N := 11) rfl jin_X8 8 (by decide) g2 i2 jw_310 rfl dX8_renderBranch_7 ?_
  refine j_iconst X 0 dX8_renderBranch_10 (by decide) ?_
  obtain ⟨⟨fs3, g3⟩, h⟩ := h
  refine j_callVv X [.int 0] [] (c_J4_setLength_d00df h) (T := TJ4) (N := 4) g3 rfl jm_J4_setLength_d00df jw_1466 rfl ⟨rfl, rfl⟩ (by rw [hR]; decide) rfl (Nat.le_of_ble_eq_true rfl) dX8_renderBranch_11 (fun w3 h => ?_)
  refine j_iload_n X dX8_renderBranch_14 0 rfl ?_
  refine j_istore_n X [(3, .int v1), (2, .int v1), (0, .ref a0), (1, .int x1)] dX8_renderBranch_15 (by decide) rfl ?_
  refine j_iconst X 0 dX8_renderBranch_16 (by decide) ?_
  refine j_istore X [(4, .int 0), (3, .int v1), (2, .int v1), (0, .ref a0), (1, .int x1)] dX8_renderBranch_17 (by decide) rfl ?_
  refine j_sub [3, 1, 0] rfl ?_
  refine j_widen (k := (3 + (17 - 17) * 4 + 0)) (n := (412 + (17 - 17) * 812 + 0)) (by omega) (by omega) ?_
  exact k_X8_renderBranch_b19 X hR Rt Out Th ThW _ (Nat.le_refl _) h
def w_X8_renderBranch (κ : Nat → Nat) (w : va_W) (a0 : Nat) (x1 : Int32) (P : Int32 → va_W → Prop) (E : String → va_W → Prop) : Prop := w_X8_renderBranch_b0 κ w a0 x1 P E
theorem c_X8_renderBranch {E9 : jE} {w : va_W} {a0 : Nat} {x1 : Int32} {P : Int32 → va_W → Prop} {E : String → va_W → Prop} (h : w_X8_renderBranch E9.2.2.2 w a0 x1 P E) : jCx E9 yX8_renderBranch cX8_renderBranch 5 (some .int) ({ frames := 7, cells := 71, slots := 14216, locals := 196 } : Room) [.ref a0, .int x1] w 71 14216 (jPi P) E := by
  refine jCx_of (by decide) (Nat.le_of_ble_eq_true rfl) ?_
  intro Γ X hE hR Rt Out Th ThW
  subst hE
  exact k_X8_renderBranch_b0 X hR Rt Out Th ThW h
theorem jm_X8_type : jMv yX8_type cX8_type 2 (some .int) 1 := ⟨jw_1159, jw_1160, jw_22, jw_1161, ⟨by decide +kernel, by decide +kernel⟩, by decide +kernel⟩
def w_X8_type_b12 (κ : Nat → Nat) (w : va_W) (P : Int32 → va_W → Prop) (E : String → va_W → Prop) : Prop :=
    E "java/lang/IllegalArgumentException" w
set_option maxRecDepth 100000 in
set_option maxHeartbeats 4000000 in
theorem k_X8_type_b12 {Γ : jG} (X : jX Γ cX8_type 2 RX8) (hR : jgR Γ = ({ frames := 7, cells := 2, slots := 406, locals := 215 } : Room)) {P : Int32 → va_W → Prop} {E : String → va_W → Prop} (Rt : jRt Γ cX8_type 2 2 406 (some .int) (jPi P)) (Out : jOut Γ 2 2 406 E) (Th : jTh Γ cX8_type 2 RX8 2 406 E) (ThW : jThW Γ cX8_type 2 RX8 2 406 E) {w : va_W} (h : w_X8_type_b12 (jgE Γ).2.2.2 w  P E) : J Γ 2 w 0 0 12 [] [] := by
  unfold w_X8_type_b12 at h
  exact ThW _ _ _ 12 _ _ 234 305 238 37 7 jrx7 "java/lang/IllegalArgumentException" "a character code is between 32 and 126" "java/lang/RuntimeException" ["java/lang/Exception"] (by decide +kernel) (by decide +kernel) (by decide +kernel) (by decide +kernel) dX8_type_12 dX8_type_15 dX8_type_16 dX8_type_19 dX8_type_22 (List.mem_of_getElem? (i := 37) rfl) (by decide +kernel) (by decide +kernel) (by decide +kernel) jw_492 jw_42 jat_238 (by rw [hR]; exact ⟨by decide, Nat.le_of_ble_eq_true rfl, by decide, by decide⟩) (by decide) (by decide) h
def w_X8_type_b0 (κ : Nat → Nat) (w : va_W) (a0 : Nat) (x1 : Int32) (P : Int32 → va_W → Prop) (E : String → va_W → Prop) : Prop :=
    (if x1 < 32 then w_X8_type_b12 κ w  P E else (if x1 ≤ 126 then jgR' w a0 11 7 (fun r1 => (jRc w r1 7 ∧ w_X4_length κ w r1 (fun v2 w2 => (if v2 < 60 then jgR' w2 a0 11 7 (fun r3 => (jRc w2 r3 7 ∧ w_X4_append κ w2 r3 x1 (fun v4 w4 => P v4 w4))) else E "java/lang/IllegalStateException" w2)))) else w_X8_type_b12 κ w  P E))
set_option maxRecDepth 100000 in
set_option maxHeartbeats 4000000 in
theorem k_X8_type_b0 {Γ : jG} (X : jX Γ cX8_type 2 RX8) (hR : jgR Γ = ({ frames := 7, cells := 2, slots := 406, locals := 215 } : Room)) {P : Int32 → va_W → Prop} {E : String → va_W → Prop} (Rt : jRt Γ cX8_type 2 2 406 (some .int) (jPi P)) (Out : jOut Γ 2 2 406 E) (Th : jTh Γ cX8_type 2 RX8 2 406 E) (ThW : jThW Γ cX8_type 2 RX8 2 406 E) {w : va_W} {a0 : Nat} {x1 : Int32} (h : w_X8_type_b0 (jgE Γ).2.2.2 w a0 x1 P E) : J Γ 2 w 0 0 0 [(0, .ref a0), (1, .int x1)] [] := by
  unfold w_X8_type_b0 at h
  refine j_iload_n X dX8_type_0 1 rfl ?_
  refine j_bipush X 32 dX8_type_1 (by decide) ?_
  refine j_icmp_lt X 12 dX8_type_3 (by decide) (fun c => ?_) (fun c => ?_)
  · replace h := jif_t c h
    refine j_sub [] rfl ?_
    refine j_widen (k := 0) (n := 0) (by decide) (by decide) ?_
    exact k_X8_type_b12 X hR Rt Out Th ThW h
  · replace h := jif_f c h
    refine j_iload_n X dX8_type_6 1 rfl ?_
    refine j_bipush X 126 dX8_type_7 (by decide) ?_
    refine j_icmp_le X 23 dX8_type_9 (by decide) (fun c => ?_) (fun c => ?_)
    · replace h := jif_t c h
      refine j_aload_n X dX8_type_23 0 rfl ?_
      obtain ⟨fs1, r1, g1, i1, h⟩ := h
      refine j_get X (ci := 11) (C := RX8) (T := TX8) (N := 11) rfl jin_X8 7 (by decide) g1 i1 jw_309 rfl dX8_type_24 ?_
      obtain ⟨⟨fs2, g2⟩, h⟩ := h
      refine j_callVi X [] [] (c_X4_length h) (T := TX4) (N := 9) g2 rfl jm_X4_length jw_1163 rfl ⟨rfl, rfl⟩ (by rw [hR]; decide) rfl (Nat.le_of_ble_eq_true rfl) dX8_type_27 (fun v2 w2 h => ?_)
      refine j_bipush X 60 dX8_type_30 (by decide) ?_
      refine j_icmp_lt X 46 dX8_type_32 (by decide) (fun c => ?_) (fun c => ?_)
      · replace h := jif_t c h
        refine j_aload_n X dX8_type_46 0 rfl ?_
        obtain ⟨fs3, r3, g3, i3, h⟩ := h
        refine j_get X (ci := 11) (C := RX8) (T := TX8) (N := 11) rfl jin_X8 7 (by decide) g3 i3 jw_309 rfl dX8_type_47 ?_
        refine j_iload_n X dX8_type_50 1 rfl ?_
        obtain ⟨⟨fs4, g4⟩, h⟩ := h
        refine j_callVi X [.int x1] [] (c_X4_append h) (T := TX4) (N := 9) g4 rfl jm_X4_append jw_1168 rfl ⟨rfl, rfl⟩ (by rw [hR]; decide) rfl (Nat.le_of_ble_eq_true rfl) dX8_type_51 (fun v4 w4 h => ?_)
        exact Rt.i dX8_type_54 ⟨_, rfl, h⟩ (by first | decide | omega) (by first | decide | omega)
      · replace h := jif_f c h
        exact ThW _ _ _ 35 _ _ 308 310 312 38 7 jrx7 "java/lang/IllegalStateException" "the script buffer is full" "java/lang/RuntimeException" ["java/lang/Exception"] (by decide +kernel) (by decide +kernel) (by decide +kernel) (by decide +kernel) dX8_type_35 dX8_type_38 dX8_type_39 dX8_type_42 dX8_type_45 (List.mem_of_getElem? (i := 38) rfl) (by decide +kernel) (by decide +kernel) (by decide +kernel) jw_509 jw_43 jat_312 (by rw [hR]; exact ⟨by decide, Nat.le_of_ble_eq_true rfl, by decide, by decide⟩) (by decide) (by decide) h
    · replace h := jif_f c h
      refine j_sub [] rfl ?_
      refine j_widen (k := 0) (n := 0) (by decide) (by decide) ?_
      exact k_X8_type_b12 X hR Rt Out Th ThW h
def w_X8_type (κ : Nat → Nat) (w : va_W) (a0 : Nat) (x1 : Int32) (P : Int32 → va_W → Prop) (E : String → va_W → Prop) : Prop := w_X8_type_b0 κ w a0 x1 P E
theorem c_X8_type {E9 : jE} {w : va_W} {a0 : Nat} {x1 : Int32} {P : Int32 → va_W → Prop} {E : String → va_W → Prop} (h : w_X8_type E9.2.2.2 w a0 x1 P E) : jCx E9 yX8_type cX8_type 2 (some .int) ({ frames := 7, cells := 2, slots := 406, locals := 215 } : Room) [.ref a0, .int x1] w 2 406 (jPi P) E := by
  refine jCx_of (by decide) (Nat.le_of_ble_eq_true rfl) ?_
  intro Γ X hE hR Rt Out Th ThW
  subst hE
  exact k_X8_type_b0 X hR Rt Out Th ThW h
theorem jm_X8_runScript : jMv yX8_runScript cX8_runScript 7 (some .int) 0 := ⟨jw_702, jw_703, jw_22, jw_704, ⟨by decide +kernel, by decide +kernel⟩, by decide +kernel⟩
def w_X8_runScript_b54 : Nat → (κ : Nat → Nat) → (w : va_W) → (a0 : Nat) → (x2 : Int32) → (P : Int32 → va_W → Prop) → (E : String → va_W → Prop) → Prop
  | 0, _, _, _, _, _, _ => False
  | n + 1, κ, w, a0, x2, P, E =>
    jgR' w a0 11 7 (fun r1 => jgI w r1 7 6 (fun v2 => (if v2 ≤ x2 then jgR' w a0 11 3 (fun r3 => jgR' w a0 11 6 (fun r4 => (jRc w r3 5 ∧ w_X1_keep κ w r3 r4 (fun w5 => jgR' w5 a0 11 7 (fun r6 => jgI w5 r6 7 7 (fun v7 => P v7 w5)))))) else jgR' w a0 11 7 (fun r8 => jgR' w r8 7 1 (fun r9 => (jRc w r9 6 ∧ w_X3_at κ w r9 x2 (fun v10 w10 => jgR' w10 a0 11 7 (fun r11 => jgR' w10 r11 7 2 (fun r12 => (jRc w10 r12 6 ∧ w_X3_at κ w10 r12 x2 (fun v13 w13 => jgR' w13 a0 11 7 (fun r14 => jgR' w13 r14 7 3 (fun r15 => (jRc w13 r15 6 ∧ w_X3_at κ w13 r15 x2 (fun v16 w16 => jgR' w16 a0 11 7 (fun r17 => jgR' w16 r17 7 4 (fun r18 => (jRc w16 r18 6 ∧ w_X3_at κ w16 r18 x2 (fun v19 w19 => jgR' w19 a0 11 2 (fun r20 => (jRc w19 r20 10 ∧ w_X7_refusalOf κ w19 r20 v10 v13 v16 v19 (fun r21 w21 => (if r21 = (κ 2) then jgR' w21 a0 11 2 (fun r22 => (jRc w21 r22 10 ∧ w_X7_carryOut κ w21 r22 v10 v13 v16 v19 (fun v23 w23 => w_X8_runScript_b54 n κ w23 a0 (x2 + 1) P E))) else jgR' w21 a0 11 7 (fun r24 => jgR' w21 r24 7 5 (fun r25 => (jRc w21 r25 6 ∧ w_X3_at κ w21 r25 x2 (fun v26 w26 => (jpV w26 a0 11 10 (.int v26) (fun w27 => jgR' w27 a0 11 0 (fun r28 => jgR' w27 a0 11 6 (fun r29 => (jRc w27 r28 8 ∧ w_X5_copyFrom κ w27 r28 r29 (fun w30 => E "java/lang/IllegalStateException" w30)))))))))))))))))))))))))))))))))
set_option maxRecDepth 100000 in
set_option maxHeartbeats 4000000 in
theorem k_X8_runScript_b54 {Γ : jG} (X : jX Γ cX8_runScript 7 RX8) (hR : jgR Γ = ({ frames := 10, cells := 3, slots := 412, locals := 215 } : Room)) {P : Int32 → va_W → Prop} {E : String → va_W → Prop} (Rt : jRt Γ cX8_runScript 7 3 412 (some .int) (jPi P)) (Out : jOut Γ 7 3 412 E) (Th : jTh Γ cX8_runScript 7 RX8 3 412 E) (ThW : jThW Γ cX8_runScript 7 RX8 3 412 E) : ∀ (n : Nat) {w : va_W} {a0 : Nat} {x2 : Int32} (h : w_X8_runScript_b54 n (jgE Γ).2.2.2 w a0 x2 P E), J Γ 7 w 2 406 54 [(0, .ref a0), (2, .int x2)] [] := by
  intro n
  induction n with
  | zero => intro w a0 x2 h; exact False.elim h
  | succ n ih =>
    intro w a0 x2 h
    rw [w_X8_runScript_b54] at h
    refine j_iload_n X dX8_runScript_54 1 rfl ?_
    refine j_aload_n X dX8_runScript_55 0 rfl ?_
    obtain ⟨fs1, r1, g1, i1, h⟩ := h
    refine j_get X (ci := 11) (C := RX8) (T := TX8) (N := 11) rfl jin_X8 7 (by decide) g1 i1 jw_309 rfl dX8_runScript_56 ?_
    obtain ⟨fs2, v2, g2, i2, h⟩ := h
    refine j_getN X (ci := 7) (C := RX4) (T := TX4) (N := 9) rfl jin_X4 6 (by decide) g2 i2 jw_276 rfl dX8_runScript_59 ?_
    refine j_icmp_ge X 194 dX8_runScript_62 (by decide) (fun c => ?_) (fun c => ?_)
    · replace h := jif_t c h
      refine j_aload_n X dX8_runScript_194 0 rfl ?_
      obtain ⟨fs3, r3, g3, i3, h⟩ := h
      refine j_get X (ci := 11) (C := RX8) (T := TX8) (N := 11) rfl jin_X8 3 (by decide) g3 i3 jw_305 rfl dX8_runScript_195 ?_
      refine j_aload_n X dX8_runScript_198 0 rfl ?_
      obtain ⟨fs4, r4, g4, i4, h⟩ := h
      refine j_get X (ci := 11) (C := RX8) (T := TX8) (N := 11) rfl jin_X8 6 (by decide) g4 i4 jw_308 rfl dX8_runScript_199 ?_
      obtain ⟨⟨fs5, g5⟩, h⟩ := h
      refine j_callVv X [.ref r4] [] (c_X1_keep h) (T := TX1) (N := 3) g5 rfl jm_X1_keep jw_543 rfl ⟨rfl, rfl⟩ (by rw [hR]; decide) rfl (Nat.le_of_ble_eq_true rfl) dX8_runScript_202 (fun w5 h => ?_)
      refine j_aload_n X dX8_runScript_205 0 rfl ?_
      obtain ⟨fs6, r6, g6, i6, h⟩ := h
      refine j_get X (ci := 11) (C := RX8) (T := TX8) (N := 11) rfl jin_X8 7 (by decide) g6 i6 jw_309 rfl dX8_runScript_206 ?_
      obtain ⟨fs7, v7, g7, i7, h⟩ := h
      refine j_getN X (ci := 7) (C := RX4) (T := TX4) (N := 9) rfl jin_X4 7 (by decide) g7 i7 jw_278 rfl dX8_runScript_209 ?_
      exact Rt.i dX8_runScript_212 ⟨_, rfl, h⟩ (by first | decide | omega) (by first | decide | omega)
    · replace h := jif_f c h
      refine j_aload_n X dX8_runScript_65 0 rfl ?_
      obtain ⟨fs8, r8, g8, i8, h⟩ := h
      refine j_get X (ci := 11) (C := RX8) (T := TX8) (N := 11) rfl jin_X8 7 (by decide) g8 i8 jw_309 rfl dX8_runScript_66 ?_
      obtain ⟨fs9, r9, g9, i9, h⟩ := h
      refine j_getN X (ci := 7) (C := RX4) (T := TX4) (N := 9) rfl jin_X4 1 (by decide) g9 i9 jw_266 rfl dX8_runScript_69 ?_
      refine j_iload_n X dX8_runScript_72 1 rfl ?_
      obtain ⟨⟨fs10, g10⟩, h⟩ := h
      refine j_callVi X [.int x2] [] (c_X3_at h) (T := TX3) (N := 1) g10 rfl jm_X3_at jw_1072 rfl ⟨rfl, rfl⟩ (by rw [hR]; decide) rfl (Nat.le_of_ble_eq_true rfl) dX8_runScript_73 (fun v10 w10 h => ?_)
      refine j_istore_n X [(3, .int v10), (0, .ref a0), (2, .int x2)] dX8_runScript_76 (by decide) rfl ?_
      refine j_aload_n X dX8_runScript_77 1 rfl ?_
      obtain ⟨fs11, r11, g11, i11, h⟩ := h
      refine j_get X (ci := 11) (C := RX8) (T := TX8) (N := 11) rfl jin_X8 7 (by decide) g11 i11 jw_309 rfl dX8_runScript_78 ?_
      obtain ⟨fs12, r12, g12, i12, h⟩ := h
      refine j_getN X (ci := 7) (C := RX4) (T := TX4) (N := 9) rfl jin_X4 2 (by decide) g12 i12 jw_268 rfl dX8_runScript_81 ?_
      refine j_iload_n X dX8_runScript_84 2 rfl ?_
      obtain ⟨⟨fs13, g13⟩, h⟩ := h
      refine j_callVi X [.int x2] [] (c_X3_at h) (T := TX3) (N := 1) g13 rfl jm_X3_at jw_1072 rfl ⟨rfl, rfl⟩ (by rw [hR]; decide) rfl (Nat.le_of_ble_eq_true rfl) dX8_runScript_85 (fun v13 w13 h => ?_)
      refine j_istore X [(4, .int v13), (3, .int v10), (0, .ref a0), (2, .int x2)] dX8_runScript_88 (by decide) rfl ?_
      refine j_aload_n X dX8_runScript_90 2 rfl ?_
      obtain ⟨fs14, r14, g14, i14, h⟩ := h
      refine j_get X (ci := 11) (C := RX8) (T := TX8) (N := 11) rfl jin_X8 7 (by decide) g14 i14 jw_309 rfl dX8_runScript_91 ?_
      obtain ⟨fs15, r15, g15, i15, h⟩ := h
      refine j_getN X (ci := 7) (C := RX4) (T := TX4) (N := 9) rfl jin_X4 3 (by decide) g15 i15 jw_270 rfl dX8_runScript_94 ?_
      refine j_iload_n X dX8_runScript_97 3 rfl ?_
      obtain ⟨⟨fs16, g16⟩, h⟩ := h
      refine j_callVi X [.int x2] [] (c_X3_at h) (T := TX3) (N := 1) g16 rfl jm_X3_at jw_1072 rfl ⟨rfl, rfl⟩ (by rw [hR]; decide) rfl (Nat.le_of_ble_eq_true rfl) dX8_runScript_98 (fun v16 w16 h => ?_)
      refine j_istore X [(5, .int v16), (4, .int v13), (3, .int v10), (0, .ref a0), (2, .int x2)] dX8_runScript_101 (by decide) rfl ?_
      refine j_aload_n X dX8_runScript_103 3 rfl ?_
      obtain ⟨fs17, r17, g17, i17, h⟩ := h
      refine j_get X (ci := 11) (C := RX8) (T := TX8) (N := 11) rfl jin_X8 7 (by decide) g17 i17 jw_309 rfl dX8_runScript_104 ?_
      obtain ⟨fs18, r18, g18, i18, h⟩ := h
      refine j_getN X (ci := 7) (C := RX4) (T := TX4) (N := 9) rfl jin_X4 4 (by decide) g18 i18 jw_272 rfl dX8_runScript_107 ?_
      refine j_iload_n X dX8_runScript_110 4 rfl ?_
      obtain ⟨⟨fs19, g19⟩, h⟩ := h
      refine j_callVi X [.int x2] [] (c_X3_at h) (T := TX3) (N := 1) g19 rfl jm_X3_at jw_1072 rfl ⟨rfl, rfl⟩ (by rw [hR]; decide) rfl (Nat.le_of_ble_eq_true rfl) dX8_runScript_111 (fun v19 w19 h => ?_)
      refine j_istore X [(6, .int v19), (5, .int v16), (4, .int v13), (3, .int v10), (0, .ref a0), (2, .int x2)] dX8_runScript_114 (by decide) rfl ?_
      refine j_aload_n X dX8_runScript_116 4 rfl ?_
      obtain ⟨fs20, r20, g20, i20, h⟩ := h
      refine j_get X (ci := 11) (C := RX8) (T := TX8) (N := 11) rfl jin_X8 2 (by decide) g20 i20 jw_304 rfl dX8_runScript_117 ?_
      refine j_iload_n X dX8_runScript_120 3 rfl ?_
      refine j_iload X dX8_runScript_121 2 rfl ?_
      refine j_iload X dX8_runScript_123 1 rfl ?_
      refine j_iload X dX8_runScript_125 0 rfl ?_
      obtain ⟨⟨fs21, g21⟩, h⟩ := h
      refine j_callVr X [.int v10, .int v13, .int v16, .int v19] [] (c_X7_refusalOf h) (T := TX7) (N := 3) g21 rfl jm_X7_refusalOf jw_1073 rfl ⟨rfl, rfl⟩ (by rw [hR]; decide) rfl (Nat.le_of_ble_eq_true rfl) dX8_runScript_127 (fun r21 w21 h => ?_)
      refine j_getsE X 0 (by decide) rfl jw_1091 dX8_runScript_130 ?_
      refine j_acmp_eq X 173 dX8_runScript_133 (by decide) (fun c => ?_) (fun c => ?_)
      · replace h := jif_t c h
        refine j_aload_n X dX8_runScript_173 4 rfl ?_
        obtain ⟨fs22, r22, g22, i22, h⟩ := h
        refine j_get X (ci := 11) (C := RX8) (T := TX8) (N := 11) rfl jin_X8 2 (by decide) g22 i22 jw_304 rfl dX8_runScript_174 ?_
        refine j_iload_n X dX8_runScript_177 3 rfl ?_
        refine j_iload X dX8_runScript_178 2 rfl ?_
        refine j_iload X dX8_runScript_180 1 rfl ?_
        refine j_iload X dX8_runScript_182 0 rfl ?_
        obtain ⟨⟨fs23, g23⟩, h⟩ := h
        refine j_callVi X [.int v10, .int v13, .int v16, .int v19] [] (c_X7_carryOut h) (T := TX7) (N := 3) g23 rfl jm_X7_carryOut jw_1093 rfl ⟨rfl, rfl⟩ (by rw [hR]; decide) rfl (Nat.le_of_ble_eq_true rfl) dX8_runScript_184 (fun v23 w23 h => ?_)
        refine j_pop X dX8_runScript_187 rfl ?_
        refine j_iinc X (x2 + 1) [(2, .int (x2 + 1)), (6, .int v19), (5, .int v16), (4, .int v13), (3, .int v10), (0, .ref a0)] dX8_runScript_188 5 rfl rfl (by decide) rfl ?_
        refine j_goto X 54 dX8_runScript_191 (by decide) ?_
        refine j_sub [5, 0] rfl ?_
        refine j_widen (k := 2) (n := 406) (by decide) (by decide) ?_
        exact ih h
      · replace h := jif_f c h
        refine j_aload_n X dX8_runScript_136 4 rfl ?_
        refine j_aload_n X dX8_runScript_137 4 rfl ?_
        obtain ⟨fs24, r24, g24, i24, h⟩ := h
        refine j_get X (ci := 11) (C := RX8) (T := TX8) (N := 11) rfl jin_X8 7 (by decide) g24 i24 jw_309 rfl dX8_runScript_138 ?_
        obtain ⟨fs25, r25, g25, i25, h⟩ := h
        refine j_getN X (ci := 7) (C := RX4) (T := TX4) (N := 9) rfl jin_X4 5 (by decide) g25 i25 jw_274 rfl dX8_runScript_141 ?_
        refine j_iload_n X dX8_runScript_144 5 rfl ?_
        obtain ⟨⟨fs26, g26⟩, h⟩ := h
        refine j_callVi X [.int x2] [.ref a0] (c_X3_at h) (T := TX3) (N := 1) g26 rfl jm_X3_at jw_1072 rfl ⟨rfl, rfl⟩ (by rw [hR]; decide) rfl (Nat.le_of_ble_eq_true rfl) dX8_runScript_145 (fun v26 w26 h => ?_)
        obtain ⟨fs27, g27, i27, h⟩ := h
        refine j_put X (ci := 11) (C := RX8) (T := TX8) (N := 11) rfl jin_X8 tyX8 tyX8_ok nmX8 10 (by decide) g27 jw_312 rfl rfl (by rfl) (by rfl) i27 dX8_runScript_148 ?_
        generalize jst w26 a0 _ = w27 at h ⊢
        refine j_aload_n X dX8_runScript_151 4 rfl ?_
        obtain ⟨fs28, r28, g28, i28, h⟩ := h
        refine j_get X (ci := 11) (C := RX8) (T := TX8) (N := 11) rfl jin_X8 0 (by decide) g28 i28 jw_302 rfl dX8_runScript_152 ?_
        refine j_aload_n X dX8_runScript_155 4 rfl ?_
        obtain ⟨fs29, r29, g29, i29, h⟩ := h
        refine j_get X (ci := 11) (C := RX8) (T := TX8) (N := 11) rfl jin_X8 6 (by decide) g29 i29 jw_308 rfl dX8_runScript_156 ?_
        obtain ⟨⟨fs30, g30⟩, h⟩ := h
        refine j_callVv X [.ref r29] [] (c_X5_copyFrom h) (T := TX5) (N := 12) g30 rfl jm_X5_copyFrom jw_340 rfl ⟨rfl, rfl⟩ (by rw [hR]; decide) rfl (Nat.le_of_ble_eq_true rfl) dX8_runScript_159 (fun w30 h => ?_)
        exact ThW _ _ _ 162 _ _ 308 358 312 33 7 jrx7 "java/lang/IllegalStateException" "a command of the script failed" "java/lang/RuntimeException" ["java/lang/Exception"] (by decide +kernel) (by decide +kernel) (by decide +kernel) (by decide +kernel) dX8_runScript_162 dX8_runScript_165 dX8_runScript_166 dX8_runScript_169 dX8_runScript_172 (List.mem_of_getElem? (i := 33) rfl) (by decide +kernel) (by decide +kernel) (by decide +kernel) jw_509 jw_43 jat_312 (by rw [hR]; exact ⟨by decide, Nat.le_of_ble_eq_true rfl, by decide, by decide⟩) (by decide) (by decide) h
def w_X8_runScript_b0 (κ : Nat → Nat) (w : va_W) (a0 : Nat) (P : Int32 → va_W → Prop) (E : String → va_W → Prop) : Prop :=
    jgR' w a0 11 7 (fun r1 => (jRc w r1 7 ∧ w_X4_parse κ w r1 (fun v2 w2 => jgR' w2 a0 11 7 (fun r3 => (jRc w2 r3 7 ∧ w_X4_empty κ w2 r3 (fun w4 => (if v2 = 0 then jgR' w4 a0 11 7 (fun r8 => jgI w4 r8 7 8 (fun v9 => (jpV w4 a0 11 9 (.int v9) (fun w10 => E "java/lang/IllegalArgumentException" w10)))) else jgR' w4 a0 11 6 (fun r5 => jgR' w4 a0 11 0 (fun r6 => (jRc w4 r5 8 ∧ w_X5_copyFrom κ w4 r5 r6 (fun w7 => w_X8_runScript_b54 jFu κ w7 a0 0 P E)))))))))))
set_option maxRecDepth 100000 in
set_option maxHeartbeats 4000000 in
theorem k_X8_runScript_b0 {Γ : jG} (X : jX Γ cX8_runScript 7 RX8) (hR : jgR Γ = ({ frames := 10, cells := 3, slots := 412, locals := 215 } : Room)) {P : Int32 → va_W → Prop} {E : String → va_W → Prop} (Rt : jRt Γ cX8_runScript 7 3 412 (some .int) (jPi P)) (Out : jOut Γ 7 3 412 E) (Th : jTh Γ cX8_runScript 7 RX8 3 412 E) (ThW : jThW Γ cX8_runScript 7 RX8 3 412 E) {w : va_W} {a0 : Nat} (h : w_X8_runScript_b0 (jgE Γ).2.2.2 w a0 P E) : J Γ 7 w 0 0 0 [(0, .ref a0)] [] := by
  unfold w_X8_runScript_b0 at h
  refine j_aload_n X dX8_runScript_0 0 rfl ?_
  obtain ⟨fs1, r1, g1, i1, h⟩ := h
  refine j_get X (ci := 11) (C := RX8) (T := TX8) (N := 11) rfl jin_X8 7 (by decide) g1 i1 jw_309 rfl dX8_runScript_1 ?_
  obtain ⟨⟨fs2, g2⟩, h⟩ := h
  refine j_callVi X [] [] (c_X4_parse h) (T := TX4) (N := 9) g2 rfl jm_X4_parse jw_705 rfl ⟨rfl, rfl⟩ (by rw [hR]; decide) rfl (Nat.le_of_ble_eq_true rfl) dX8_runScript_4 (fun v2 w2 h => ?_)
  refine j_istore_n X [(1, .int v2), (0, .ref a0)] dX8_runScript_7 (by decide) rfl ?_
  refine j_aload_n X dX8_runScript_8 1 rfl ?_
  obtain ⟨fs3, r3, g3, i3, h⟩ := h
  refine j_get X (ci := 11) (C := RX8) (T := TX8) (N := 11) rfl jin_X8 7 (by decide) g3 i3 jw_309 rfl dX8_runScript_9 ?_
  obtain ⟨⟨fs4, g4⟩, h⟩ := h
  refine j_callVv X [] [] (c_X4_empty h) (T := TX4) (N := 9) g4 rfl jm_X4_empty jw_825 rfl ⟨rfl, rfl⟩ (by rw [hR]; decide) rfl (Nat.le_of_ble_eq_true rfl) dX8_runScript_12 (fun w4 h => ?_)
  refine j_iload_n X dX8_runScript_15 0 rfl ?_
  refine j_if_ne X 41 dX8_runScript_16 (by decide) (fun c => ?_) (fun c => ?_)
  · replace h := jif_f c h
    refine j_aload_n X dX8_runScript_41 1 rfl ?_
    obtain ⟨fs5, r5, g5, i5, h⟩ := h
    refine j_get X (ci := 11) (C := RX8) (T := TX8) (N := 11) rfl jin_X8 6 (by decide) g5 i5 jw_308 rfl dX8_runScript_42 ?_
    refine j_aload_n X dX8_runScript_45 1 rfl ?_
    obtain ⟨fs6, r6, g6, i6, h⟩ := h
    refine j_get X (ci := 11) (C := RX8) (T := TX8) (N := 11) rfl jin_X8 0 (by decide) g6 i6 jw_302 rfl dX8_runScript_46 ?_
    obtain ⟨⟨fs7, g7⟩, h⟩ := h
    refine j_callVv X [.ref r6] [] (c_X5_copyFrom h) (T := TX5) (N := 12) g7 rfl jm_X5_copyFrom jw_340 rfl ⟨rfl, rfl⟩ (by rw [hR]; decide) rfl (Nat.le_of_ble_eq_true rfl) dX8_runScript_49 (fun w7 h => ?_)
    refine j_iconst X 0 dX8_runScript_52 (by decide) ?_
    refine j_istore_n X [(2, .int 0), (1, .int v2), (0, .ref a0)] dX8_runScript_53 (by decide) rfl ?_
    refine j_sub [2, 0] rfl ?_
    refine j_widen (k := 2) (n := 406) (by decide) (by decide) ?_
    exact k_X8_runScript_b54 X hR Rt Out Th ThW _ h
  · replace h := jif_t c h
    refine j_aload_n X dX8_runScript_19 1 rfl ?_
    refine j_aload_n X dX8_runScript_20 1 rfl ?_
    obtain ⟨fs8, r8, g8, i8, h⟩ := h
    refine j_get X (ci := 11) (C := RX8) (T := TX8) (N := 11) rfl jin_X8 7 (by decide) g8 i8 jw_309 rfl dX8_runScript_21 ?_
    obtain ⟨fs9, v9, g9, i9, h⟩ := h
    refine j_getN X (ci := 7) (C := RX4) (T := TX4) (N := 9) rfl jin_X4 8 (by decide) g9 i9 jw_280 rfl dX8_runScript_24 ?_
    obtain ⟨fs10, g10, i10, h⟩ := h
    refine j_put X (ci := 11) (C := RX8) (T := TX8) (N := 11) rfl jin_X8 tyX8 tyX8_ok nmX8 9 (by decide) g10 jw_311 rfl rfl (by rfl) (by rfl) i10 dX8_runScript_27 ?_
    generalize jst w4 a0 _ = w10 at h ⊢
    exact ThW _ _ _ 30 _ _ 234 325 238 32 7 jrx7 "java/lang/IllegalArgumentException" "the script does not have the required form" "java/lang/RuntimeException" ["java/lang/Exception"] (by decide +kernel) (by decide +kernel) (by decide +kernel) (by decide +kernel) dX8_runScript_30 dX8_runScript_33 dX8_runScript_34 dX8_runScript_37 dX8_runScript_40 (List.mem_of_getElem? (i := 32) rfl) (by decide +kernel) (by decide +kernel) (by decide +kernel) jw_492 jw_42 jat_238 (by rw [hR]; exact ⟨by decide, Nat.le_of_ble_eq_true rfl, by decide, by decide⟩) (by decide) (by decide) h
def w_X8_runScript (κ : Nat → Nat) (w : va_W) (a0 : Nat) (P : Int32 → va_W → Prop) (E : String → va_W → Prop) : Prop := w_X8_runScript_b0 κ w a0 P E
theorem c_X8_runScript {E9 : jE} {w : va_W} {a0 : Nat} {P : Int32 → va_W → Prop} {E : String → va_W → Prop} (h : w_X8_runScript E9.2.2.2 w a0 P E) : jCx E9 yX8_runScript cX8_runScript 7 (some .int) ({ frames := 10, cells := 3, slots := 412, locals := 215 } : Room) [.ref a0] w 3 412 (jPi P) E := by
  refine jCx_of (by decide) (Nat.le_of_ble_eq_true rfl) ?_
  intro Γ X hE hR Rt Out Th ThW
  subst hE
  exact k_X8_runScript_b0 X hR Rt Out Th ThW h
theorem jm_X8_failedCommand : jMv yX8_failedCommand cX8_failedCommand 1 (some .int) 0 := ⟨jw_1122, jw_1123, jw_22, jw_1124, ⟨by decide +kernel, by decide +kernel⟩, by decide +kernel⟩
def w_X8_failedCommand_b0 (κ : Nat → Nat) (w : va_W) (a0 : Nat) (P : Int32 → va_W → Prop) (E : String → va_W → Prop) : Prop :=
    jgI w a0 11 10 (fun v1 => (if v1 = (-1) then E "java/util/NoSuchElementException" w else jgI w a0 11 10 (fun v2 => P v2 w)))
set_option maxRecDepth 100000 in
set_option maxHeartbeats 4000000 in
theorem k_X8_failedCommand_b0 {Γ : jG} (X : jX Γ cX8_failedCommand 1 RX8) (hR : jgR Γ = ({ frames := 6, cells := 1, slots := 6, locals := 90 } : Room)) {P : Int32 → va_W → Prop} {E : String → va_W → Prop} (Rt : jRt Γ cX8_failedCommand 1 1 6 (some .int) (jPi P)) (Out : jOut Γ 1 1 6 E) (Th : jTh Γ cX8_failedCommand 1 RX8 1 6 E) (ThW : jThW Γ cX8_failedCommand 1 RX8 1 6 E) {w : va_W} {a0 : Nat} (h : w_X8_failedCommand_b0 (jgE Γ).2.2.2 w a0 P E) : J Γ 1 w 0 0 0 [(0, .ref a0)] [] := by
  unfold w_X8_failedCommand_b0 at h
  refine j_aload_n X dX8_failedCommand_0 0 rfl ?_
  obtain ⟨fs1, v1, g1, i1, h⟩ := h
  refine j_get X (ci := 11) (C := RX8) (T := TX8) (N := 11) rfl jin_X8 10 (by decide) g1 i1 jw_312 rfl dX8_failedCommand_1 ?_
  refine j_iconst X (-1) dX8_failedCommand_4 (by decide) ?_
  refine j_icmp_ne X 19 dX8_failedCommand_5 (by decide) (fun c => ?_) (fun c => ?_)
  · replace h := jif_f c h
    refine j_aload_n X dX8_failedCommand_19 0 rfl ?_
    obtain ⟨fs2, v2, g2, i2, h⟩ := h
    refine j_get X (ci := 11) (C := RX8) (T := TX8) (N := 11) rfl jin_X8 10 (by decide) g2 i2 jw_312 rfl dX8_failedCommand_20 ?_
    exact Rt.i dX8_failedCommand_23 ⟨_, rfl, h⟩ (by first | decide | omega) (by first | decide | omega)
  · replace h := jif_t c h
    exact ThW _ _ _ 8 _ _ 200 372 204 34 13 jrx13 "java/util/NoSuchElementException" "no script had a failed command" "java/lang/RuntimeException" ["java/lang/Exception"] (by decide +kernel) (by decide +kernel) (by decide +kernel) (by decide +kernel) dX8_failedCommand_8 dX8_failedCommand_11 dX8_failedCommand_12 dX8_failedCommand_15 dX8_failedCommand_18 (List.mem_of_getElem? (i := 34) rfl) (by decide +kernel) (by decide +kernel) (by decide +kernel) jw_474 jw_41 jat_204 (by rw [hR]; exact ⟨by decide, Nat.le_of_ble_eq_true rfl, by decide, by decide⟩) (by decide) (by decide) h
def w_X8_failedCommand (κ : Nat → Nat) (w : va_W) (a0 : Nat) (P : Int32 → va_W → Prop) (E : String → va_W → Prop) : Prop := w_X8_failedCommand_b0 κ w a0 P E
theorem c_X8_failedCommand {E9 : jE} {w : va_W} {a0 : Nat} {P : Int32 → va_W → Prop} {E : String → va_W → Prop} (h : w_X8_failedCommand E9.2.2.2 w a0 P E) : jCx E9 yX8_failedCommand cX8_failedCommand 1 (some .int) ({ frames := 6, cells := 1, slots := 6, locals := 90 } : Room) [.ref a0] w 1 6 (jPi P) E := by
  refine jCx_of (by decide) (Nat.le_of_ble_eq_true rfl) ?_
  intro Γ X hE hR Rt Out Th ThW
  subst hE
  exact k_X8_failedCommand_b0 X hR Rt Out Th ThW h
theorem jm_X8_undo : jMv yX8_undo cX8_undo 1 (some .int) 0 := ⟨jw_1130, jw_1131, jw_22, jw_1132, ⟨by decide +kernel, by decide +kernel⟩, by decide +kernel⟩
def w_X8_undo_b0 (κ : Nat → Nat) (w : va_W) (a0 : Nat) (P : Int32 → va_W → Prop) (E : String → va_W → Prop) : Prop :=
    jgR' w a0 11 3 (fun r1 => jgI w r1 5 2 (fun v2 => (if v2 = 0 then E "java/lang/IllegalStateException" w else jgR' w a0 11 3 (fun r3 => jgR' w a0 11 0 (fun r4 => (jRc w r3 5 ∧ w_X1_takeBack κ w r3 r4 (fun w5 => jgR' w5 a0 11 3 (fun r6 => jgI w5 r6 5 2 (fun v7 => P v7 w5)))))))))
set_option maxRecDepth 100000 in
set_option maxHeartbeats 4000000 in
theorem k_X8_undo_b0 {Γ : jG} (X : jX Γ cX8_undo 1 RX8) (hR : jgR Γ = ({ frames := 6, cells := 1, slots := 6, locals := 192 } : Room)) {P : Int32 → va_W → Prop} {E : String → va_W → Prop} (Rt : jRt Γ cX8_undo 1 1 6 (some .int) (jPi P)) (Out : jOut Γ 1 1 6 E) (Th : jTh Γ cX8_undo 1 RX8 1 6 E) (ThW : jThW Γ cX8_undo 1 RX8 1 6 E) {w : va_W} {a0 : Nat} (h : w_X8_undo_b0 (jgE Γ).2.2.2 w a0 P E) : J Γ 1 w 0 0 0 [(0, .ref a0)] [] := by
  unfold w_X8_undo_b0 at h
  refine j_aload_n X dX8_undo_0 0 rfl ?_
  obtain ⟨fs1, r1, g1, i1, h⟩ := h
  refine j_get X (ci := 11) (C := RX8) (T := TX8) (N := 11) rfl jin_X8 3 (by decide) g1 i1 jw_305 rfl dX8_undo_1 ?_
  obtain ⟨fs2, v2, g2, i2, h⟩ := h
  refine j_getN X (ci := 5) (C := RX1) (T := TX1) (N := 3) rfl jin_X1 2 (by decide) g2 i2 jw_215 rfl dX8_undo_4 ?_
  refine j_if_ne X 21 dX8_undo_7 (by decide) (fun c => ?_) (fun c => ?_)
  · replace h := jif_f c h
    refine j_aload_n X dX8_undo_21 0 rfl ?_
    obtain ⟨fs3, r3, g3, i3, h⟩ := h
    refine j_get X (ci := 11) (C := RX8) (T := TX8) (N := 11) rfl jin_X8 3 (by decide) g3 i3 jw_305 rfl dX8_undo_22 ?_
    refine j_aload_n X dX8_undo_25 0 rfl ?_
    obtain ⟨fs4, r4, g4, i4, h⟩ := h
    refine j_get X (ci := 11) (C := RX8) (T := TX8) (N := 11) rfl jin_X8 0 (by decide) g4 i4 jw_302 rfl dX8_undo_26 ?_
    obtain ⟨⟨fs5, g5⟩, h⟩ := h
    refine j_callVv X [.ref r4] [] (c_X1_takeBack h) (T := TX1) (N := 3) g5 rfl jm_X1_takeBack jw_1134 rfl ⟨rfl, rfl⟩ (by rw [hR]; decide) rfl (Nat.le_of_ble_eq_true rfl) dX8_undo_29 (fun w5 h => ?_)
    refine j_aload_n X dX8_undo_32 0 rfl ?_
    obtain ⟨fs6, r6, g6, i6, h⟩ := h
    refine j_get X (ci := 11) (C := RX8) (T := TX8) (N := 11) rfl jin_X8 3 (by decide) g6 i6 jw_305 rfl dX8_undo_33 ?_
    obtain ⟨fs7, v7, g7, i7, h⟩ := h
    refine j_getN X (ci := 5) (C := RX1) (T := TX1) (N := 3) rfl jin_X1 2 (by decide) g7 i7 jw_215 rfl dX8_undo_36 ?_
    exact Rt.i dX8_undo_39 ⟨_, rfl, h⟩ (by first | decide | omega) (by first | decide | omega)
  · replace h := jif_t c h
    exact ThW _ _ _ 10 _ _ 308 376 312 35 7 jrx7 "java/lang/IllegalStateException" "there is nothing to undo" "java/lang/RuntimeException" ["java/lang/Exception"] (by decide +kernel) (by decide +kernel) (by decide +kernel) (by decide +kernel) dX8_undo_10 dX8_undo_13 dX8_undo_14 dX8_undo_17 dX8_undo_20 (List.mem_of_getElem? (i := 35) rfl) (by decide +kernel) (by decide +kernel) (by decide +kernel) jw_509 jw_43 jat_312 (by rw [hR]; exact ⟨by decide, Nat.le_of_ble_eq_true rfl, by decide, by decide⟩) (by decide) (by decide) h
def w_X8_undo (κ : Nat → Nat) (w : va_W) (a0 : Nat) (P : Int32 → va_W → Prop) (E : String → va_W → Prop) : Prop := w_X8_undo_b0 κ w a0 P E
theorem c_X8_undo {E9 : jE} {w : va_W} {a0 : Nat} {P : Int32 → va_W → Prop} {E : String → va_W → Prop} (h : w_X8_undo E9.2.2.2 w a0 P E) : jCx E9 yX8_undo cX8_undo 1 (some .int) ({ frames := 6, cells := 1, slots := 6, locals := 192 } : Room) [.ref a0] w 1 6 (jPi P) E := by
  refine jCx_of (by decide) (Nat.le_of_ble_eq_true rfl) ?_
  intro Γ X hE hR Rt Out Th ThW
  subst hE
  exact k_X8_undo_b0 X hR Rt Out Th ThW h
theorem jm_X8_save : jMv yX8_save cX8_save 1 (some .int) 0 := ⟨jw_337, jw_338, jw_22, jw_339, ⟨by decide +kernel, by decide +kernel⟩, by decide +kernel⟩
def w_X8_save_b0 (κ : Nat → Nat) (w : va_W) (a0 : Nat) (P : Int32 → va_W → Prop) : Prop :=
    jgR' w a0 11 4 (fun r1 => jgR' w a0 11 0 (fun r2 => (jRc w r1 8 ∧ w_X5_copyFrom κ w r1 r2 (fun w3 => (jpV w3 a0 11 5 (.int 1) (fun w4 => jgR' w4 a0 11 1 (fun r5 => (jRc w4 r5 9 ∧ w_X6_countBlocks κ w4 r5 (fun v6 w6 => P v6 w6)))))))))
set_option maxRecDepth 100000 in
set_option maxHeartbeats 4000000 in
theorem k_X8_save_b0 {Γ : jG} (X : jX Γ cX8_save 1 RX8) (hR : jgR Γ = ({ frames := 4, cells := 0, slots := 0, locals := 171 } : Room)) {P : Int32 → va_W → Prop} (Rt : jRt Γ cX8_save 1 0 0 (some .int) (jPi P)) {w : va_W} {a0 : Nat} (h : w_X8_save_b0 (jgE Γ).2.2.2 w a0 P) : J Γ 1 w 0 0 0 [(0, .ref a0)] [] := by
  unfold w_X8_save_b0 at h
  refine j_aload_n X dX8_save_0 0 rfl ?_
  obtain ⟨fs1, r1, g1, i1, h⟩ := h
  refine j_get X (ci := 11) (C := RX8) (T := TX8) (N := 11) rfl jin_X8 4 (by decide) g1 i1 jw_306 rfl dX8_save_1 ?_
  refine j_aload_n X dX8_save_4 0 rfl ?_
  obtain ⟨fs2, r2, g2, i2, h⟩ := h
  refine j_get X (ci := 11) (C := RX8) (T := TX8) (N := 11) rfl jin_X8 0 (by decide) g2 i2 jw_302 rfl dX8_save_5 ?_
  obtain ⟨⟨fs3, g3⟩, h⟩ := h
  refine j_callVv X [.ref r2] [] (c_X5_copyFrom h) (T := TX5) (N := 12) g3 rfl jm_X5_copyFrom jw_340 rfl ⟨rfl, rfl⟩ (by rw [hR]; decide) rfl (Nat.le_of_ble_eq_true rfl) dX8_save_8 (fun w3 h => ?_)
  refine j_aload_n X dX8_save_11 0 rfl ?_
  refine j_iconst X 1 dX8_save_12 (by decide) ?_
  obtain ⟨fs4, g4, i4, h⟩ := h
  refine j_put X (ci := 11) (C := RX8) (T := TX8) (N := 11) rfl jin_X8 tyX8 tyX8_ok nmX8 5 (by decide) g4 jw_307 rfl rfl (by decide) (by decide) i4 dX8_save_13 ?_
  generalize jst w3 a0 _ = w4 at h ⊢
  refine j_aload_n X dX8_save_16 0 rfl ?_
  obtain ⟨fs5, r5, g5, i5, h⟩ := h
  refine j_get X (ci := 11) (C := RX8) (T := TX8) (N := 11) rfl jin_X8 1 (by decide) g5 i5 jw_303 rfl dX8_save_17 ?_
  obtain ⟨⟨fs6, g6⟩, h⟩ := h
  refine j_callVi X [] [] (c_X6_countBlocks h) (T := TX6) (N := 2) g6 rfl jm_X6_countBlocks jw_359 rfl ⟨rfl, rfl⟩ (by rw [hR]; decide) rfl (Nat.le_of_ble_eq_true rfl) dX8_save_20 (fun v6 w6 h => ?_)
  exact Rt.i dX8_save_23 ⟨_, rfl, h⟩ (by first | decide | omega) (by first | decide | omega)
def w_X8_save (κ : Nat → Nat) (w : va_W) (a0 : Nat) (P : Int32 → va_W → Prop) : Prop := w_X8_save_b0 κ w a0 P
theorem c_X8_save {E : jE} {w : va_W} {a0 : Nat} {P : Int32 → va_W → Prop} (h : w_X8_save E.2.2.2 w a0 P) : jC E yX8_save cX8_save 1 (some .int) ({ frames := 4, cells := 0, slots := 0, locals := 171 } : Room) [.ref a0] w 0 0 (jPi P) := by
  refine jC_of (by decide) (Nat.le_of_ble_eq_true rfl) ?_
  intro Γ X hE hR Rt
  subst hE
  exact k_X8_save_b0 X hR Rt h
theorem jm_X8_restore : jMv yX8_restore cX8_restore 1 (some .int) 0 := ⟨jw_1142, jw_1143, jw_22, jw_1144, ⟨by decide +kernel, by decide +kernel⟩, by decide +kernel⟩
def w_X8_restore_b0 (κ : Nat → Nat) (w : va_W) (a0 : Nat) (P : Int32 → va_W → Prop) (E : String → va_W → Prop) : Prop :=
    jgI w a0 11 5 (fun v1 => (if v1 = 0 then E "java/lang/IllegalStateException" w else jgR' w a0 11 0 (fun r2 => jgR' w a0 11 4 (fun r3 => (jRc w r2 8 ∧ w_X5_copyFrom κ w r2 r3 (fun w4 => jgR' w4 a0 11 3 (fun r5 => (jRc w4 r5 5 ∧ w_X1_forget κ w4 r5 (fun w6 => jgR' w6 a0 11 1 (fun r7 => (jRc w6 r7 9 ∧ w_X6_countBlocks κ w6 r7 (fun v8 w8 => P v8 w8))))))))))))
set_option maxRecDepth 100000 in
set_option maxHeartbeats 4000000 in
theorem k_X8_restore_b0 {Γ : jG} (X : jX Γ cX8_restore 1 RX8) (hR : jgR Γ = ({ frames := 6, cells := 1, slots := 6, locals := 171 } : Room)) {P : Int32 → va_W → Prop} {E : String → va_W → Prop} (Rt : jRt Γ cX8_restore 1 1 6 (some .int) (jPi P)) (Out : jOut Γ 1 1 6 E) (Th : jTh Γ cX8_restore 1 RX8 1 6 E) (ThW : jThW Γ cX8_restore 1 RX8 1 6 E) {w : va_W} {a0 : Nat} (h : w_X8_restore_b0 (jgE Γ).2.2.2 w a0 P E) : J Γ 1 w 0 0 0 [(0, .ref a0)] [] := by
  unfold w_X8_restore_b0 at h
  refine j_aload_n X dX8_restore_0 0 rfl ?_
  obtain ⟨fs1, v1, g1, i1, h⟩ := h
  refine j_get X (ci := 11) (C := RX8) (T := TX8) (N := 11) rfl jin_X8 5 (by decide) g1 i1 jw_307 rfl dX8_restore_1 ?_
  refine j_if_ne X 18 dX8_restore_4 (by decide) (fun c => ?_) (fun c => ?_)
  · replace h := jif_f c h
    refine j_aload_n X dX8_restore_18 0 rfl ?_
    obtain ⟨fs2, r2, g2, i2, h⟩ := h
    refine j_get X (ci := 11) (C := RX8) (T := TX8) (N := 11) rfl jin_X8 0 (by decide) g2 i2 jw_302 rfl dX8_restore_19 ?_
    refine j_aload_n X dX8_restore_22 0 rfl ?_
    obtain ⟨fs3, r3, g3, i3, h⟩ := h
    refine j_get X (ci := 11) (C := RX8) (T := TX8) (N := 11) rfl jin_X8 4 (by decide) g3 i3 jw_306 rfl dX8_restore_23 ?_
    obtain ⟨⟨fs4, g4⟩, h⟩ := h
    refine j_callVv X [.ref r3] [] (c_X5_copyFrom h) (T := TX5) (N := 12) g4 rfl jm_X5_copyFrom jw_340 rfl ⟨rfl, rfl⟩ (by rw [hR]; decide) rfl (Nat.le_of_ble_eq_true rfl) dX8_restore_26 (fun w4 h => ?_)
    refine j_aload_n X dX8_restore_29 0 rfl ?_
    obtain ⟨fs5, r5, g5, i5, h⟩ := h
    refine j_get X (ci := 11) (C := RX8) (T := TX8) (N := 11) rfl jin_X8 3 (by decide) g5 i5 jw_305 rfl dX8_restore_30 ?_
    obtain ⟨⟨fs6, g6⟩, h⟩ := h
    refine j_callVv X [] [] (c_X1_forget h) (T := TX1) (N := 3) g6 rfl jm_X1_forget jw_1146 rfl ⟨rfl, rfl⟩ (by rw [hR]; decide) rfl (Nat.le_of_ble_eq_true rfl) dX8_restore_33 (fun w6 h => ?_)
    refine j_aload_n X dX8_restore_36 0 rfl ?_
    obtain ⟨fs7, r7, g7, i7, h⟩ := h
    refine j_get X (ci := 11) (C := RX8) (T := TX8) (N := 11) rfl jin_X8 1 (by decide) g7 i7 jw_303 rfl dX8_restore_37 ?_
    obtain ⟨⟨fs8, g8⟩, h⟩ := h
    refine j_callVi X [] [] (c_X6_countBlocks h) (T := TX6) (N := 2) g8 rfl jm_X6_countBlocks jw_359 rfl ⟨rfl, rfl⟩ (by rw [hR]; decide) rfl (Nat.le_of_ble_eq_true rfl) dX8_restore_40 (fun v8 w8 h => ?_)
    exact Rt.i dX8_restore_43 ⟨_, rfl, h⟩ (by first | decide | omega) (by first | decide | omega)
  · replace h := jif_t c h
    exact ThW _ _ _ 7 _ _ 308 385 312 36 7 jrx7 "java/lang/IllegalStateException" "there is no snapshot" "java/lang/RuntimeException" ["java/lang/Exception"] (by decide +kernel) (by decide +kernel) (by decide +kernel) (by decide +kernel) dX8_restore_7 dX8_restore_10 dX8_restore_11 dX8_restore_14 dX8_restore_17 (List.mem_of_getElem? (i := 36) rfl) (by decide +kernel) (by decide +kernel) (by decide +kernel) jw_509 jw_43 jat_312 (by rw [hR]; exact ⟨by decide, Nat.le_of_ble_eq_true rfl, by decide, by decide⟩) (by decide) (by decide) h
def w_X8_restore (κ : Nat → Nat) (w : va_W) (a0 : Nat) (P : Int32 → va_W → Prop) (E : String → va_W → Prop) : Prop := w_X8_restore_b0 κ w a0 P E
theorem c_X8_restore {E9 : jE} {w : va_W} {a0 : Nat} {P : Int32 → va_W → Prop} {E : String → va_W → Prop} (h : w_X8_restore E9.2.2.2 w a0 P E) : jCx E9 yX8_restore cX8_restore 1 (some .int) ({ frames := 6, cells := 1, slots := 6, locals := 171 } : Room) [.ref a0] w 1 6 (jPi P) E := by
  refine jCx_of (by decide) (Nat.le_of_ble_eq_true rfl) ?_
  intro Γ X hE hR Rt Out Th ThW
  subst hE
  exact k_X8_restore_b0 X hR Rt Out Th ThW h
