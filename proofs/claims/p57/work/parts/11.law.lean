theorem jm_L_cell : jMs yL_cell cL_cell 2 (some .int) 2 := ⟨jw_372, jw_21, jw_373, ⟨by decide +kernel, by decide +kernel⟩, by decide +kernel⟩
def w_L_cell_b22 (κ : Nat → Nat) (w : va_W) (s0 : Int32) (P : Int32 → va_W → Prop) : Prop :=
    P s0 w
set_option maxRecDepth 100000 in
set_option maxHeartbeats 4000000 in
theorem k_L_cell_b22 {Γ : jG} (X : jX Γ cL_cell 2 RL) (hR : jgR Γ = ({ frames := 0, cells := 0, slots := 0, locals := 0 } : Room)) {P : Int32 → va_W → Prop} (Rt : jRt Γ cL_cell 2 0 0 (some .int) (jPi P)) {w : va_W} {s0 : Int32} (h : w_L_cell_b22 (jgE Γ).2.2.2 w s0 P) : J Γ 2 w 0 0 22 [] [.int s0] := by
  unfold w_L_cell_b22 at h
  exact Rt.i dL_cell_22 ⟨_, rfl, h⟩ (by first | decide | omega) (by first | decide | omega)
def w_L_cell_b0 (κ : Nat → Nat) (w : va_W) (c0 : Nat) (x1 : Int32) (P : Int32 → va_W → Prop) : Prop :=
    (c0 = 9 ∧ (if (Int32.ofNat (κ 200)) = 0 then w_L_cell_b22 κ w (577 * x1) P else (c0 = 9 ∧ (¬ (Int32.ofNat (κ 200)) = 0 ∧ (c0 = 9 ∧ vp_in (jrem (x1 &&& 65535) (Int32.ofNat (κ 200))) (κ 200) ∧ w_L_cell_b22 κ w (jXs κ (Int32.toNatClampNeg (jrem (x1 &&& 65535) (Int32.ofNat (κ 200))))) P)))))
set_option maxRecDepth 100000 in
set_option maxHeartbeats 4000000 in
theorem k_L_cell_b0 {Γ : jG} (X : jX Γ cL_cell 2 RL) (hR : jgR Γ = ({ frames := 0, cells := 0, slots := 0, locals := 0 } : Room)) {P : Int32 → va_W → Prop} (Rt : jRt Γ cL_cell 2 0 0 (some .int) (jPi P)) {w : va_W} {c0 : Nat} {x1 : Int32} (h : w_L_cell_b0 (jgE Γ).2.2.2 w c0 x1 P) : J Γ 2 w 0 0 0 [(0, .ref ((jgE Γ).2.2.2 c0)), (1, .int x1)] [] := by
  unfold w_L_cell_b0 at h
  refine j_aload_n X dL_cell_0 0 rfl ?_
  refine j_xlen X h.1 dL_cell_1 ?_
  replace h := h.2
  refine j_if_ne X 13 dL_cell_2 (by decide) (fun c => ?_) (fun c => ?_)
  · replace h := jif_f c h
    refine j_aload_n X dL_cell_13 0 rfl ?_
    refine j_iload_n X dL_cell_14 1 rfl ?_
    refine j_ldc X dL_cell_15 jw_374 ?_
    refine j_iand X dL_cell_17 ?_
    refine j_aload_n X dL_cell_18 0 rfl ?_
    refine j_xlen X h.1 dL_cell_19 ?_
    replace h := h.2
    refine j_irem X dL_cell_20 h.1 ?_
    replace h := h.2
    refine j_xld X h.1 h.2.1 dL_cell_21 ?_
    replace h := h.2.2
    refine j_sub [] rfl ?_
    exact k_L_cell_b22 X hR Rt h
  · replace h := jif_t c h
    refine j_sipush X 577 dL_cell_5 (by decide) ?_
    refine j_iload_n X dL_cell_8 1 rfl ?_
    refine j_imul X dL_cell_9 ?_
    refine j_goto X 22 dL_cell_10 (by decide) ?_
    refine j_sub [] rfl ?_
    exact k_L_cell_b22 X hR Rt h
def w_L_cell (κ : Nat → Nat) (w : va_W) (c0 : Nat) (x1 : Int32) (P : Int32 → va_W → Prop) : Prop := w_L_cell_b0 κ w c0 x1 P
theorem c_L_cell {E : jE} {w : va_W} {c0 : Nat} {x1 : Int32} {P : Int32 → va_W → Prop} (h : w_L_cell E.2.2.2 w c0 x1 P) : jC E yL_cell cL_cell 2 (some .int) ({ frames := 0, cells := 0, slots := 0, locals := 0 } : Room) [.ref (E.2.2.2 c0), .int x1] w 0 0 (jPi P) := by
  refine jC_of (by decide) (Nat.le_of_ble_eq_true rfl) ?_
  intro Γ X hE hR Rt
  subst hE
  exact k_L_cell_b0 X hR Rt h
theorem jmw_L_addHill : jMw yL_addHill cL_addHill 3 (some .int) [(3, 8, 11, 17)] 1 := ⟨jw_376, jw_21, jw_377, ⟨by decide +kernel, by decide +kernel⟩, by decide +kernel⟩
def w_L_addHill_b0 (κ : Nat → Nat) (w : va_W) (a0 : Nat) (P : Int32 → va_W → Prop) : Prop :=
    (jRc w a0 11 ∧ w_X8_addHill κ w a0 (fun v1 w1 => P v1 w1) (fun x1 w1 => (if x1 = "java/lang/IllegalStateException" then P (-100000000) w1 else False)))
set_option maxRecDepth 100000 in
set_option maxHeartbeats 4000000 in
theorem k_L_addHill_b0 {Γ : jG} (hT : (jgC Γ).exceptionTable.toList = tableOf [(3, 8, 11, 17)]) (X : jX Γ cL_addHill 3 RL) (hR : jgR Γ = ({ frames := 9, cells := 1, slots := 6, locals := 233 } : Room)) {P : Int32 → va_W → Prop} (Rt : jRt Γ cL_addHill 3 1 6 (some .int) (jPi P)) {w : va_W} {a0 : Nat} (h : w_L_addHill_b0 (jgE Γ).2.2.2 w a0 P) : J Γ 3 w 0 0 0 [(0, .ref a0)] [] := by
  unfold w_L_addHill_b0 at h
  refine j_ldc X dL_addHill_0 jw_379 ?_
  refine j_istore_n X [(1, .int (-100000000)), (0, .ref a0)] dL_addHill_2 (by decide) rfl ?_
  refine j_aload_n X dL_addHill_3 1 rfl ?_
  obtain ⟨⟨fs1, g1⟩, h⟩ := h
  refine j_callVxi X [] [] (c_X8_addHill h) (T := TX8) (N := 11) g1 rfl jm_X8_addHill jw_380 rfl ⟨rfl, rfl⟩ (by rw [hR]; decide) rfl (Nat.le_of_ble_eq_true rfl) dL_addHill_4 (fun v1 w1 h => ?_) (fun x1 w1 h => ?_)
  · skip
    refine j_istore_n X [(1, .int v1), (0, .ref a0)] dL_addHill_7 (by decide) rfl ?_
    refine j_goto X 15 dL_addHill_8 (by decide) ?_
    refine j_iload_n X dL_addHill_15 0 rfl ?_
    exact Rt.i dL_addHill_16 ⟨_, rfl, h⟩ (by first | decide | omega) (by first | decide | omega)
  · skip
    by_cases c1_0 : x1 = "java/lang/IllegalStateException"
    · replace h := jif_t c1_0 h
      subst c1_0
      refine j_catch X hT [] [] 3 8 11 17 [] rfl (trivial) (by decide) (by decide) jw_378 jw_511 (fun q1 => ?_)
      refine j_astore_n X [(2, .ref q1), (1, .int (-100000000)), (0, .ref a0)] dL_addHill_11 (by decide) rfl ?_
      refine j_ldc X dL_addHill_12 jw_379 ?_
      exact Rt.i dL_addHill_14 ⟨_, rfl, h⟩ (by first | decide | omega) (by first | decide | omega)
    replace h := jif_f c1_0 h
    exact h.elim
def w_L_addHill (κ : Nat → Nat) (w : va_W) (a0 : Nat) (P : Int32 → va_W → Prop) : Prop := w_L_addHill_b0 κ w a0 P
theorem c_L_addHill {E : jE} {w : va_W} {a0 : Nat} {P : Int32 → va_W → Prop} (h : w_L_addHill E.2.2.2 w a0 P) : jCw E yL_addHill cL_addHill 3 (some .int) [(3, 8, 11, 17)] ({ frames := 9, cells := 1, slots := 6, locals := 233 } : Room) [.ref a0] w 1 6 (jPi P) := by
  refine jCw_of (by decide) (Nat.le_of_ble_eq_true rfl) ?_
  intro Γ hT X hE hR Rt
  subst hE
  exact k_L_addHill_b0 hT X hR Rt h
theorem jmw_L_collect : jMw yL_collect cL_collect 5 (some .int) [(3, 10, 13, 23), (3, 10, 18, 25), (3, 10, 23, 17)] 3 := ⟨jw_560, jw_21, jw_561, ⟨by decide +kernel, by decide +kernel⟩, by decide +kernel⟩
def w_L_collect_b0 (κ : Nat → Nat) (w : va_W) (a0 : Nat) (x1 : Int32) (x2 : Int32) (P : Int32 → va_W → Prop) : Prop :=
    (jRc w a0 11 ∧ w_X8_collect κ w a0 x1 x2 (fun v1 w1 => P v1 w1) (fun x1 w1 => (if x1 = "java/lang/IndexOutOfBoundsException" then P (-100000000) w1 else (if x1 = "java/lang/IllegalArgumentException" then P (-100000000) w1 else (if x1 = "java/lang/IllegalStateException" then P (-100000000) w1 else False)))))
set_option maxRecDepth 100000 in
set_option maxHeartbeats 4000000 in
theorem k_L_collect_b0 {Γ : jG} (hT : (jgC Γ).exceptionTable.toList = tableOf [(3, 10, 13, 23), (3, 10, 18, 25), (3, 10, 23, 17)]) (X : jX Γ cL_collect 5 RL) (hR : jgR Γ = ({ frames := 9, cells := 1, slots := 6, locals := 235 } : Room)) {P : Int32 → va_W → Prop} (Rt : jRt Γ cL_collect 5 1 6 (some .int) (jPi P)) {w : va_W} {a0 : Nat} {x1 : Int32} {x2 : Int32} (h : w_L_collect_b0 (jgE Γ).2.2.2 w a0 x1 x2 P) : J Γ 5 w 0 0 0 [(0, .ref a0), (1, .int x1), (2, .int x2)] [] := by
  unfold w_L_collect_b0 at h
  refine j_ldc X dL_collect_0 jw_379 ?_
  refine j_istore_n X [(3, .int (-100000000)), (0, .ref a0), (1, .int x1), (2, .int x2)] dL_collect_2 (by decide) rfl ?_
  refine j_aload_n X dL_collect_3 1 rfl ?_
  refine j_iload_n X dL_collect_4 2 rfl ?_
  refine j_iload_n X dL_collect_5 3 rfl ?_
  obtain ⟨⟨fs1, g1⟩, h⟩ := h
  refine j_callVxi X [.int x1, .int x2] [] (c_X8_collect h) (T := TX8) (N := 11) g1 rfl jm_X8_collect jw_564 rfl ⟨rfl, rfl⟩ (by rw [hR]; decide) rfl (Nat.le_of_ble_eq_true rfl) dL_collect_6 (fun v1 w1 h => ?_) (fun x1 w1 h => ?_)
  · skip
    refine j_istore_n X [(3, .int v1), (0, .ref a0), (1, .int x1), (2, .int x2)] dL_collect_9 (by decide) rfl ?_
    refine j_goto X 28 dL_collect_10 (by decide) ?_
    refine j_iload_n X dL_collect_28 0 rfl ?_
    exact Rt.i dL_collect_29 ⟨_, rfl, h⟩ (by first | decide | omega) (by first | decide | omega)
  · skip
    by_cases c1_0 : x1 = "java/lang/IndexOutOfBoundsException"
    · replace h := jif_t c1_0 h
      subst c1_0
      refine j_catch X hT [] [(3, 10, 18, 25), (3, 10, 23, 17)] 3 10 13 23 [] rfl (trivial) (by decide) (by decide) jw_562 jw_403 (fun q1 => ?_)
      refine j_astore X [(4, .ref q1), (3, .int (-100000000)), (0, .ref a0), (1, .int x1), (2, .int x2)] dL_collect_13 (by decide) rfl ?_
      refine j_ldc X dL_collect_15 jw_379 ?_
      exact Rt.i dL_collect_17 ⟨_, rfl, h⟩ (by first | decide | omega) (by first | decide | omega)
    replace h := jif_f c1_0 h
    by_cases c1_1 : x1 = "java/lang/IllegalArgumentException"
    · replace h := jif_t c1_1 h
      subst c1_1
      refine j_catch X hT [(3, 10, 13, 23)] [(3, 10, 23, 17)] 3 10 18 25 ["java/lang/IndexOutOfBoundsException"] rfl (⟨⟨jw_562, by decide, by decide⟩, trivial⟩) (by decide) (by decide) jw_563 jw_494 (fun q1 => ?_)
      refine j_astore X [(4, .ref q1), (3, .int (-100000000)), (0, .ref a0), (1, .int x1), (2, .int x2)] dL_collect_18 (by decide) rfl ?_
      refine j_ldc X dL_collect_20 jw_379 ?_
      exact Rt.i dL_collect_22 ⟨_, rfl, h⟩ (by first | decide | omega) (by first | decide | omega)
    replace h := jif_f c1_1 h
    by_cases c1_2 : x1 = "java/lang/IllegalStateException"
    · replace h := jif_t c1_2 h
      subst c1_2
      refine j_catch X hT [(3, 10, 13, 23), (3, 10, 18, 25)] [] 3 10 23 17 ["java/lang/IndexOutOfBoundsException", "java/lang/IllegalArgumentException"] rfl (⟨⟨jw_562, by decide, by decide⟩, ⟨⟨jw_563, by decide, by decide⟩, trivial⟩⟩) (by decide) (by decide) jw_378 jw_511 (fun q1 => ?_)
      refine j_astore X [(4, .ref q1), (3, .int (-100000000)), (0, .ref a0), (1, .int x1), (2, .int x2)] dL_collect_23 (by decide) rfl ?_
      refine j_ldc X dL_collect_25 jw_379 ?_
      exact Rt.i dL_collect_27 ⟨_, rfl, h⟩ (by first | decide | omega) (by first | decide | omega)
    replace h := jif_f c1_2 h
    exact h.elim
def w_L_collect (κ : Nat → Nat) (w : va_W) (a0 : Nat) (x1 : Int32) (x2 : Int32) (P : Int32 → va_W → Prop) : Prop := w_L_collect_b0 κ w a0 x1 x2 P
theorem c_L_collect {E : jE} {w : va_W} {a0 : Nat} {x1 : Int32} {x2 : Int32} {P : Int32 → va_W → Prop} (h : w_L_collect E.2.2.2 w a0 x1 x2 P) : jCw E yL_collect cL_collect 5 (some .int) [(3, 10, 13, 23), (3, 10, 18, 25), (3, 10, 23, 17)] ({ frames := 9, cells := 1, slots := 6, locals := 235 } : Room) [.ref a0, .int x1, .int x2] w 1 6 (jPi P) := by
  refine jCw_of (by decide) (Nat.le_of_ble_eq_true rfl) ?_
  intro Γ hT X hE hR Rt
  subst hE
  exact k_L_collect_b0 hT X hR Rt h
theorem jmw_L_writeBlock : jMw yL_writeBlock cL_writeBlock 4 (some .int) [(3, 9, 12, 23), (3, 9, 16, 17), (3, 9, 20, 31)] 2 := ⟨jw_595, jw_21, jw_596, ⟨by decide +kernel, by decide +kernel⟩, by decide +kernel⟩
def w_L_writeBlock_b0 (κ : Nat → Nat) (w : va_W) (a0 : Nat) (x1 : Int32) (P : Int32 → va_W → Prop) : Prop :=
    (jRc w a0 11 ∧ w_X8_write κ w a0 x1 (fun v1 w1 => P v1 w1) (fun x1 w1 => (if x1 = "java/lang/IndexOutOfBoundsException" then P (-100000000) w1 else (if x1 = "java/lang/IllegalStateException" then P (-100000000) w1 else (if x1 = "java/lang/UnsupportedOperationException" then P (-100000000) w1 else False)))))
set_option maxRecDepth 100000 in
set_option maxHeartbeats 4000000 in
theorem k_L_writeBlock_b0 {Γ : jG} (hT : (jgC Γ).exceptionTable.toList = tableOf [(3, 9, 12, 23), (3, 9, 16, 17), (3, 9, 20, 31)]) (X : jX Γ cL_writeBlock 4 RL) (hR : jgR Γ = ({ frames := 9, cells := 1, slots := 6, locals := 234 } : Room)) {P : Int32 → va_W → Prop} (Rt : jRt Γ cL_writeBlock 4 1 6 (some .int) (jPi P)) {w : va_W} {a0 : Nat} {x1 : Int32} (h : w_L_writeBlock_b0 (jgE Γ).2.2.2 w a0 x1 P) : J Γ 4 w 0 0 0 [(0, .ref a0), (1, .int x1)] [] := by
  unfold w_L_writeBlock_b0 at h
  refine j_ldc X dL_writeBlock_0 jw_379 ?_
  refine j_istore_n X [(2, .int (-100000000)), (0, .ref a0), (1, .int x1)] dL_writeBlock_2 (by decide) rfl ?_
  refine j_aload_n X dL_writeBlock_3 1 rfl ?_
  refine j_iload_n X dL_writeBlock_4 2 rfl ?_
  obtain ⟨⟨fs1, g1⟩, h⟩ := h
  refine j_callVxi X [.int x1] [] (c_X8_write h) (T := TX8) (N := 11) g1 rfl jm_X8_write jw_598 rfl ⟨rfl, rfl⟩ (by rw [hR]; decide) rfl (Nat.le_of_ble_eq_true rfl) dL_writeBlock_5 (fun v1 w1 h => ?_) (fun x1 w1 h => ?_)
  · skip
    refine j_istore_n X [(2, .int v1), (0, .ref a0), (1, .int x1)] dL_writeBlock_8 (by decide) rfl ?_
    refine j_goto X 24 dL_writeBlock_9 (by decide) ?_
    refine j_iload_n X dL_writeBlock_24 0 rfl ?_
    exact Rt.i dL_writeBlock_25 ⟨_, rfl, h⟩ (by first | decide | omega) (by first | decide | omega)
  · skip
    by_cases c1_0 : x1 = "java/lang/IndexOutOfBoundsException"
    · replace h := jif_t c1_0 h
      subst c1_0
      refine j_catch X hT [] [(3, 9, 16, 17), (3, 9, 20, 31)] 3 9 12 23 [] rfl (trivial) (by decide) (by decide) jw_562 jw_403 (fun q1 => ?_)
      refine j_astore_n X [(3, .ref q1), (2, .int (-100000000)), (0, .ref a0), (1, .int x1)] dL_writeBlock_12 (by decide) rfl ?_
      refine j_ldc X dL_writeBlock_13 jw_379 ?_
      exact Rt.i dL_writeBlock_15 ⟨_, rfl, h⟩ (by first | decide | omega) (by first | decide | omega)
    replace h := jif_f c1_0 h
    by_cases c1_1 : x1 = "java/lang/IllegalStateException"
    · replace h := jif_t c1_1 h
      subst c1_1
      refine j_catch X hT [(3, 9, 12, 23)] [(3, 9, 20, 31)] 3 9 16 17 ["java/lang/IndexOutOfBoundsException"] rfl (⟨⟨jw_562, by decide, by decide⟩, trivial⟩) (by decide) (by decide) jw_378 jw_511 (fun q1 => ?_)
      refine j_astore_n X [(3, .ref q1), (2, .int (-100000000)), (0, .ref a0), (1, .int x1)] dL_writeBlock_16 (by decide) rfl ?_
      refine j_ldc X dL_writeBlock_17 jw_379 ?_
      exact Rt.i dL_writeBlock_19 ⟨_, rfl, h⟩ (by first | decide | omega) (by first | decide | omega)
    replace h := jif_f c1_1 h
    by_cases c1_2 : x1 = "java/lang/UnsupportedOperationException"
    · replace h := jif_t c1_2 h
      subst c1_2
      refine j_catch X hT [(3, 9, 12, 23), (3, 9, 16, 17)] [] 3 9 20 31 ["java/lang/IndexOutOfBoundsException", "java/lang/IllegalStateException"] rfl (⟨⟨jw_562, by decide, by decide⟩, ⟨⟨jw_378, by decide, by decide⟩, trivial⟩⟩) (by decide) (by decide) jw_597 jw_529 (fun q1 => ?_)
      refine j_astore_n X [(3, .ref q1), (2, .int (-100000000)), (0, .ref a0), (1, .int x1)] dL_writeBlock_20 (by decide) rfl ?_
      refine j_ldc X dL_writeBlock_21 jw_379 ?_
      exact Rt.i dL_writeBlock_23 ⟨_, rfl, h⟩ (by first | decide | omega) (by first | decide | omega)
    replace h := jif_f c1_2 h
    exact h.elim
def w_L_writeBlock (κ : Nat → Nat) (w : va_W) (a0 : Nat) (x1 : Int32) (P : Int32 → va_W → Prop) : Prop := w_L_writeBlock_b0 κ w a0 x1 P
theorem c_L_writeBlock {E : jE} {w : va_W} {a0 : Nat} {x1 : Int32} {P : Int32 → va_W → Prop} (h : w_L_writeBlock E.2.2.2 w a0 x1 P) : jCw E yL_writeBlock cL_writeBlock 4 (some .int) [(3, 9, 12, 23), (3, 9, 16, 17), (3, 9, 20, 31)] ({ frames := 9, cells := 1, slots := 6, locals := 234 } : Room) [.ref a0, .int x1] w 1 6 (jPi P) := by
  refine jCw_of (by decide) (Nat.le_of_ble_eq_true rfl) ?_
  intro Γ hT X hE hR Rt
  subst hE
  exact k_L_writeBlock_b0 hT X hR Rt h
theorem jmw_L_follow : jMw yL_follow cL_follow 5 (some .int) [(3, 10, 13, 23), (3, 10, 18, 36)] 3 := ⟨jw_651, jw_21, jw_652, ⟨by decide +kernel, by decide +kernel⟩, by decide +kernel⟩
def w_L_follow_b0 (κ : Nat → Nat) (w : va_W) (a0 : Nat) (x1 : Int32) (x2 : Int32) (P : Int32 → va_W → Prop) : Prop :=
    (jRc w a0 11 ∧ w_X8_follow κ w a0 x1 x2 (fun v1 w1 => P v1 w1) (fun x1 w1 => (if x1 = "java/lang/IndexOutOfBoundsException" then P (-100000000) w1 else (if x1 = "java/util/NoSuchElementException" then P (-100000000) w1 else False))))
set_option maxRecDepth 100000 in
set_option maxHeartbeats 4000000 in
theorem k_L_follow_b0 {Γ : jG} (hT : (jgC Γ).exceptionTable.toList = tableOf [(3, 10, 13, 23), (3, 10, 18, 36)]) (X : jX Γ cL_follow 5 RL) (hR : jgR Γ = ({ frames := 9, cells := 1, slots := 6, locals := 235 } : Room)) {P : Int32 → va_W → Prop} (Rt : jRt Γ cL_follow 5 1 6 (some .int) (jPi P)) {w : va_W} {a0 : Nat} {x1 : Int32} {x2 : Int32} (h : w_L_follow_b0 (jgE Γ).2.2.2 w a0 x1 x2 P) : J Γ 5 w 0 0 0 [(0, .ref a0), (1, .int x1), (2, .int x2)] [] := by
  unfold w_L_follow_b0 at h
  refine j_ldc X dL_follow_0 jw_379 ?_
  refine j_istore_n X [(3, .int (-100000000)), (0, .ref a0), (1, .int x1), (2, .int x2)] dL_follow_2 (by decide) rfl ?_
  refine j_aload_n X dL_follow_3 1 rfl ?_
  refine j_iload_n X dL_follow_4 2 rfl ?_
  refine j_iload_n X dL_follow_5 3 rfl ?_
  obtain ⟨⟨fs1, g1⟩, h⟩ := h
  refine j_callVxi X [.int x1, .int x2] [] (c_X8_follow h) (T := TX8) (N := 11) g1 rfl jm_X8_follow jw_654 rfl ⟨rfl, rfl⟩ (by rw [hR]; decide) rfl (Nat.le_of_ble_eq_true rfl) dL_follow_6 (fun v1 w1 h => ?_) (fun x1 w1 h => ?_)
  · skip
    refine j_istore_n X [(3, .int v1), (0, .ref a0), (1, .int x1), (2, .int x2)] dL_follow_9 (by decide) rfl ?_
    refine j_goto X 23 dL_follow_10 (by decide) ?_
    refine j_iload_n X dL_follow_23 0 rfl ?_
    exact Rt.i dL_follow_24 ⟨_, rfl, h⟩ (by first | decide | omega) (by first | decide | omega)
  · skip
    by_cases c1_0 : x1 = "java/lang/IndexOutOfBoundsException"
    · replace h := jif_t c1_0 h
      subst c1_0
      refine j_catch X hT [] [(3, 10, 18, 36)] 3 10 13 23 [] rfl (trivial) (by decide) (by decide) jw_562 jw_403 (fun q1 => ?_)
      refine j_astore X [(4, .ref q1), (3, .int (-100000000)), (0, .ref a0), (1, .int x1), (2, .int x2)] dL_follow_13 (by decide) rfl ?_
      refine j_ldc X dL_follow_15 jw_379 ?_
      exact Rt.i dL_follow_17 ⟨_, rfl, h⟩ (by first | decide | omega) (by first | decide | omega)
    replace h := jif_f c1_0 h
    by_cases c1_1 : x1 = "java/util/NoSuchElementException"
    · replace h := jif_t c1_1 h
      subst c1_1
      refine j_catch X hT [(3, 10, 13, 23)] [] 3 10 18 36 ["java/lang/IndexOutOfBoundsException"] rfl (⟨⟨jw_562, by decide, by decide⟩, trivial⟩) (by decide) (by decide) jw_653 jw_476 (fun q1 => ?_)
      refine j_astore X [(4, .ref q1), (3, .int (-100000000)), (0, .ref a0), (1, .int x1), (2, .int x2)] dL_follow_18 (by decide) rfl ?_
      refine j_ldc X dL_follow_20 jw_379 ?_
      exact Rt.i dL_follow_22 ⟨_, rfl, h⟩ (by first | decide | omega) (by first | decide | omega)
    replace h := jif_f c1_1 h
    exact h.elim
def w_L_follow (κ : Nat → Nat) (w : va_W) (a0 : Nat) (x1 : Int32) (x2 : Int32) (P : Int32 → va_W → Prop) : Prop := w_L_follow_b0 κ w a0 x1 x2 P
theorem c_L_follow {E : jE} {w : va_W} {a0 : Nat} {x1 : Int32} {x2 : Int32} {P : Int32 → va_W → Prop} (h : w_L_follow E.2.2.2 w a0 x1 x2 P) : jCw E yL_follow cL_follow 5 (some .int) [(3, 10, 13, 23), (3, 10, 18, 36)] ({ frames := 9, cells := 1, slots := 6, locals := 235 } : Room) [.ref a0, .int x1, .int x2] w 1 6 (jPi P) := by
  refine jCw_of (by decide) (Nat.le_of_ble_eq_true rfl) ?_
  intro Γ hT X hE hR Rt
  subst hE
  exact k_L_follow_b0 hT X hR Rt h
theorem jmw_L_melt : jMw yL_melt cL_melt 4 (some .int) [(3, 9, 12, 36), (3, 9, 16, 25)] 2 := ⟨jw_1202, jw_21, jw_1203, ⟨by decide +kernel, by decide +kernel⟩, by decide +kernel⟩
def w_L_melt_b0 (κ : Nat → Nat) (w : va_W) (a0 : Nat) (x1 : Int32) (P : Int32 → va_W → Prop) : Prop :=
    (jRc w a0 11 ∧ w_X8_melt κ w a0 x1 (fun v1 w1 => P v1 w1) (fun x1 w1 => (if x1 = "java/util/NoSuchElementException" then P (-100000000) w1 else (if x1 = "java/lang/IllegalArgumentException" then P (-100000000) w1 else False))))
set_option maxRecDepth 100000 in
set_option maxHeartbeats 4000000 in
theorem k_L_melt_b0 {Γ : jG} (hT : (jgC Γ).exceptionTable.toList = tableOf [(3, 9, 12, 36), (3, 9, 16, 25)]) (X : jX Γ cL_melt 4 RL) (hR : jgR Γ = ({ frames := 9, cells := 1, slots := 6, locals := 234 } : Room)) {P : Int32 → va_W → Prop} (Rt : jRt Γ cL_melt 4 1 6 (some .int) (jPi P)) {w : va_W} {a0 : Nat} {x1 : Int32} (h : w_L_melt_b0 (jgE Γ).2.2.2 w a0 x1 P) : J Γ 4 w 0 0 0 [(0, .ref a0), (1, .int x1)] [] := by
  unfold w_L_melt_b0 at h
  refine j_ldc X dL_melt_0 jw_379 ?_
  refine j_istore_n X [(2, .int (-100000000)), (0, .ref a0), (1, .int x1)] dL_melt_2 (by decide) rfl ?_
  refine j_aload_n X dL_melt_3 1 rfl ?_
  refine j_iload_n X dL_melt_4 2 rfl ?_
  obtain ⟨⟨fs1, g1⟩, h⟩ := h
  refine j_callVxi X [.int x1] [] (c_X8_melt h) (T := TX8) (N := 11) g1 rfl jm_X8_melt jw_1204 rfl ⟨rfl, rfl⟩ (by rw [hR]; decide) rfl (Nat.le_of_ble_eq_true rfl) dL_melt_5 (fun v1 w1 h => ?_) (fun x1 w1 h => ?_)
  · skip
    refine j_istore_n X [(2, .int v1), (0, .ref a0), (1, .int x1)] dL_melt_8 (by decide) rfl ?_
    refine j_goto X 20 dL_melt_9 (by decide) ?_
    refine j_iload_n X dL_melt_20 0 rfl ?_
    exact Rt.i dL_melt_21 ⟨_, rfl, h⟩ (by first | decide | omega) (by first | decide | omega)
  · skip
    by_cases c1_0 : x1 = "java/util/NoSuchElementException"
    · replace h := jif_t c1_0 h
      subst c1_0
      refine j_catch X hT [] [(3, 9, 16, 25)] 3 9 12 36 [] rfl (trivial) (by decide) (by decide) jw_653 jw_476 (fun q1 => ?_)
      refine j_astore_n X [(3, .ref q1), (2, .int (-100000000)), (0, .ref a0), (1, .int x1)] dL_melt_12 (by decide) rfl ?_
      refine j_ldc X dL_melt_13 jw_379 ?_
      exact Rt.i dL_melt_15 ⟨_, rfl, h⟩ (by first | decide | omega) (by first | decide | omega)
    replace h := jif_f c1_0 h
    by_cases c1_1 : x1 = "java/lang/IllegalArgumentException"
    · replace h := jif_t c1_1 h
      subst c1_1
      refine j_catch X hT [(3, 9, 12, 36)] [] 3 9 16 25 ["java/util/NoSuchElementException"] rfl (⟨⟨jw_653, by decide, by decide⟩, trivial⟩) (by decide) (by decide) jw_563 jw_494 (fun q1 => ?_)
      refine j_astore_n X [(3, .ref q1), (2, .int (-100000000)), (0, .ref a0), (1, .int x1)] dL_melt_16 (by decide) rfl ?_
      refine j_ldc X dL_melt_17 jw_379 ?_
      exact Rt.i dL_melt_19 ⟨_, rfl, h⟩ (by first | decide | omega) (by first | decide | omega)
    replace h := jif_f c1_1 h
    exact h.elim
def w_L_melt (κ : Nat → Nat) (w : va_W) (a0 : Nat) (x1 : Int32) (P : Int32 → va_W → Prop) : Prop := w_L_melt_b0 κ w a0 x1 P
theorem c_L_melt {E : jE} {w : va_W} {a0 : Nat} {x1 : Int32} {P : Int32 → va_W → Prop} (h : w_L_melt E.2.2.2 w a0 x1 P) : jCw E yL_melt cL_melt 4 (some .int) [(3, 9, 12, 36), (3, 9, 16, 25)] ({ frames := 9, cells := 1, slots := 6, locals := 234 } : Room) [.ref a0, .int x1] w 1 6 (jPi P) := by
  refine jCw_of (by decide) (Nat.le_of_ble_eq_true rfl) ?_
  intro Γ hT X hE hR Rt
  subst hE
  exact k_L_melt_b0 hT X hR Rt h
theorem jmw_L_replaceFlake : jMw yL_replaceFlake cL_replaceFlake 6 (some .int) [(4, 13, 16, 36), (4, 13, 21, 23), (4, 13, 26, 25)] 4 := ⟨jw_672, jw_21, jw_673, ⟨by decide +kernel, by decide +kernel⟩, by decide +kernel⟩
def w_L_replaceFlake_b0 (κ : Nat → Nat) (w : va_W) (a0 : Nat) (x1 : Int32) (x2 : Int32) (x3 : Int32) (P : Int32 → va_W → Prop) : Prop :=
    (jRc w a0 11 ∧ w_X8_replaceFlake κ w a0 x1 x2 x3 (fun v1 w1 => P v1 w1) (fun x1 w1 => (if x1 = "java/util/NoSuchElementException" then P (-100000000) w1 else (if x1 = "java/lang/IndexOutOfBoundsException" then P (-100000000) w1 else (if x1 = "java/lang/IllegalArgumentException" then P (-100000000) w1 else False)))))
set_option maxRecDepth 100000 in
set_option maxHeartbeats 4000000 in
theorem k_L_replaceFlake_b0 {Γ : jG} (hT : (jgC Γ).exceptionTable.toList = tableOf [(4, 13, 16, 36), (4, 13, 21, 23), (4, 13, 26, 25)]) (X : jX Γ cL_replaceFlake 6 RL) (hR : jgR Γ = ({ frames := 9, cells := 1, slots := 6, locals := 236 } : Room)) {P : Int32 → va_W → Prop} (Rt : jRt Γ cL_replaceFlake 6 1 6 (some .int) (jPi P)) {w : va_W} {a0 : Nat} {x1 : Int32} {x2 : Int32} {x3 : Int32} (h : w_L_replaceFlake_b0 (jgE Γ).2.2.2 w a0 x1 x2 x3 P) : J Γ 6 w 0 0 0 [(0, .ref a0), (1, .int x1), (2, .int x2), (3, .int x3)] [] := by
  unfold w_L_replaceFlake_b0 at h
  refine j_ldc X dL_replaceFlake_0 jw_379 ?_
  refine j_istore X [(4, .int (-100000000)), (0, .ref a0), (1, .int x1), (2, .int x2), (3, .int x3)] dL_replaceFlake_2 (by decide) rfl ?_
  refine j_aload_n X dL_replaceFlake_4 1 rfl ?_
  refine j_iload_n X dL_replaceFlake_5 2 rfl ?_
  refine j_iload_n X dL_replaceFlake_6 3 rfl ?_
  refine j_iload_n X dL_replaceFlake_7 4 rfl ?_
  obtain ⟨⟨fs1, g1⟩, h⟩ := h
  refine j_callVxi X [.int x1, .int x2, .int x3] [] (c_X8_replaceFlake h) (T := TX8) (N := 11) g1 rfl jm_X8_replaceFlake jw_674 rfl ⟨rfl, rfl⟩ (by rw [hR]; decide) rfl (Nat.le_of_ble_eq_true rfl) dL_replaceFlake_8 (fun v1 w1 h => ?_) (fun x1 w1 h => ?_)
  · skip
    refine j_istore X [(4, .int v1), (0, .ref a0), (1, .int x1), (2, .int x2), (3, .int x3)] dL_replaceFlake_11 (by decide) rfl ?_
    refine j_goto X 31 dL_replaceFlake_13 (by decide) ?_
    refine j_iload X dL_replaceFlake_31 0 rfl ?_
    exact Rt.i dL_replaceFlake_33 ⟨_, rfl, h⟩ (by first | decide | omega) (by first | decide | omega)
  · skip
    by_cases c1_0 : x1 = "java/util/NoSuchElementException"
    · replace h := jif_t c1_0 h
      subst c1_0
      refine j_catch X hT [] [(4, 13, 21, 23), (4, 13, 26, 25)] 4 13 16 36 [] rfl (trivial) (by decide) (by decide) jw_653 jw_476 (fun q1 => ?_)
      refine j_astore X [(5, .ref q1), (4, .int (-100000000)), (0, .ref a0), (1, .int x1), (2, .int x2), (3, .int x3)] dL_replaceFlake_16 (by decide) rfl ?_
      refine j_ldc X dL_replaceFlake_18 jw_379 ?_
      exact Rt.i dL_replaceFlake_20 ⟨_, rfl, h⟩ (by first | decide | omega) (by first | decide | omega)
    replace h := jif_f c1_0 h
    by_cases c1_1 : x1 = "java/lang/IndexOutOfBoundsException"
    · replace h := jif_t c1_1 h
      subst c1_1
      refine j_catch X hT [(4, 13, 16, 36)] [(4, 13, 26, 25)] 4 13 21 23 ["java/util/NoSuchElementException"] rfl (⟨⟨jw_653, by decide, by decide⟩, trivial⟩) (by decide) (by decide) jw_562 jw_403 (fun q1 => ?_)
      refine j_astore X [(5, .ref q1), (4, .int (-100000000)), (0, .ref a0), (1, .int x1), (2, .int x2), (3, .int x3)] dL_replaceFlake_21 (by decide) rfl ?_
      refine j_ldc X dL_replaceFlake_23 jw_379 ?_
      exact Rt.i dL_replaceFlake_25 ⟨_, rfl, h⟩ (by first | decide | omega) (by first | decide | omega)
    replace h := jif_f c1_1 h
    by_cases c1_2 : x1 = "java/lang/IllegalArgumentException"
    · replace h := jif_t c1_2 h
      subst c1_2
      refine j_catch X hT [(4, 13, 16, 36), (4, 13, 21, 23)] [] 4 13 26 25 ["java/util/NoSuchElementException", "java/lang/IndexOutOfBoundsException"] rfl (⟨⟨jw_653, by decide, by decide⟩, ⟨⟨jw_562, by decide, by decide⟩, trivial⟩⟩) (by decide) (by decide) jw_563 jw_494 (fun q1 => ?_)
      refine j_astore X [(5, .ref q1), (4, .int (-100000000)), (0, .ref a0), (1, .int x1), (2, .int x2), (3, .int x3)] dL_replaceFlake_26 (by decide) rfl ?_
      refine j_ldc X dL_replaceFlake_28 jw_379 ?_
      exact Rt.i dL_replaceFlake_30 ⟨_, rfl, h⟩ (by first | decide | omega) (by first | decide | omega)
    replace h := jif_f c1_2 h
    exact h.elim
def w_L_replaceFlake (κ : Nat → Nat) (w : va_W) (a0 : Nat) (x1 : Int32) (x2 : Int32) (x3 : Int32) (P : Int32 → va_W → Prop) : Prop := w_L_replaceFlake_b0 κ w a0 x1 x2 x3 P
theorem c_L_replaceFlake {E : jE} {w : va_W} {a0 : Nat} {x1 : Int32} {x2 : Int32} {x3 : Int32} {P : Int32 → va_W → Prop} (h : w_L_replaceFlake E.2.2.2 w a0 x1 x2 x3 P) : jCw E yL_replaceFlake cL_replaceFlake 6 (some .int) [(4, 13, 16, 36), (4, 13, 21, 23), (4, 13, 26, 25)] ({ frames := 9, cells := 1, slots := 6, locals := 236 } : Room) [.ref a0, .int x1, .int x2, .int x3] w 1 6 (jPi P) := by
  refine jCw_of (by decide) (Nat.le_of_ble_eq_true rfl) ?_
  intro Γ hT X hE hR Rt
  subst hE
  exact k_L_replaceFlake_b0 hT X hR Rt h
theorem jmw_L_repair : jMw yL_repair cL_repair 4 (some .int) [(3, 9, 12, 36), (3, 9, 16, 25), (3, 9, 20, 17)] 2 := ⟨jw_1193, jw_21, jw_1194, ⟨by decide +kernel, by decide +kernel⟩, by decide +kernel⟩
def w_L_repair_b0 (κ : Nat → Nat) (w : va_W) (a0 : Nat) (x1 : Int32) (P : Int32 → va_W → Prop) : Prop :=
    (jRc w a0 11 ∧ w_X8_repair κ w a0 x1 (fun v1 w1 => P v1 w1) (fun x1 w1 => (if x1 = "java/util/NoSuchElementException" then P (-100000000) w1 else (if x1 = "java/lang/IllegalArgumentException" then P (-100000000) w1 else (if x1 = "java/lang/IllegalStateException" then P (-100000000) w1 else False)))))
set_option maxRecDepth 100000 in
set_option maxHeartbeats 4000000 in
theorem k_L_repair_b0 {Γ : jG} (hT : (jgC Γ).exceptionTable.toList = tableOf [(3, 9, 12, 36), (3, 9, 16, 25), (3, 9, 20, 17)]) (X : jX Γ cL_repair 4 RL) (hR : jgR Γ = ({ frames := 9, cells := 1, slots := 6, locals := 234 } : Room)) {P : Int32 → va_W → Prop} (Rt : jRt Γ cL_repair 4 1 6 (some .int) (jPi P)) {w : va_W} {a0 : Nat} {x1 : Int32} (h : w_L_repair_b0 (jgE Γ).2.2.2 w a0 x1 P) : J Γ 4 w 0 0 0 [(0, .ref a0), (1, .int x1)] [] := by
  unfold w_L_repair_b0 at h
  refine j_ldc X dL_repair_0 jw_379 ?_
  refine j_istore_n X [(2, .int (-100000000)), (0, .ref a0), (1, .int x1)] dL_repair_2 (by decide) rfl ?_
  refine j_aload_n X dL_repair_3 1 rfl ?_
  refine j_iload_n X dL_repair_4 2 rfl ?_
  obtain ⟨⟨fs1, g1⟩, h⟩ := h
  refine j_callVxi X [.int x1] [] (c_X8_repair h) (T := TX8) (N := 11) g1 rfl jm_X8_repair jw_1195 rfl ⟨rfl, rfl⟩ (by rw [hR]; decide) rfl (Nat.le_of_ble_eq_true rfl) dL_repair_5 (fun v1 w1 h => ?_) (fun x1 w1 h => ?_)
  · skip
    refine j_istore_n X [(2, .int v1), (0, .ref a0), (1, .int x1)] dL_repair_8 (by decide) rfl ?_
    refine j_goto X 24 dL_repair_9 (by decide) ?_
    refine j_iload_n X dL_repair_24 0 rfl ?_
    exact Rt.i dL_repair_25 ⟨_, rfl, h⟩ (by first | decide | omega) (by first | decide | omega)
  · skip
    by_cases c1_0 : x1 = "java/util/NoSuchElementException"
    · replace h := jif_t c1_0 h
      subst c1_0
      refine j_catch X hT [] [(3, 9, 16, 25), (3, 9, 20, 17)] 3 9 12 36 [] rfl (trivial) (by decide) (by decide) jw_653 jw_476 (fun q1 => ?_)
      refine j_astore_n X [(3, .ref q1), (2, .int (-100000000)), (0, .ref a0), (1, .int x1)] dL_repair_12 (by decide) rfl ?_
      refine j_ldc X dL_repair_13 jw_379 ?_
      exact Rt.i dL_repair_15 ⟨_, rfl, h⟩ (by first | decide | omega) (by first | decide | omega)
    replace h := jif_f c1_0 h
    by_cases c1_1 : x1 = "java/lang/IllegalArgumentException"
    · replace h := jif_t c1_1 h
      subst c1_1
      refine j_catch X hT [(3, 9, 12, 36)] [(3, 9, 20, 17)] 3 9 16 25 ["java/util/NoSuchElementException"] rfl (⟨⟨jw_653, by decide, by decide⟩, trivial⟩) (by decide) (by decide) jw_563 jw_494 (fun q1 => ?_)
      refine j_astore_n X [(3, .ref q1), (2, .int (-100000000)), (0, .ref a0), (1, .int x1)] dL_repair_16 (by decide) rfl ?_
      refine j_ldc X dL_repair_17 jw_379 ?_
      exact Rt.i dL_repair_19 ⟨_, rfl, h⟩ (by first | decide | omega) (by first | decide | omega)
    replace h := jif_f c1_1 h
    by_cases c1_2 : x1 = "java/lang/IllegalStateException"
    · replace h := jif_t c1_2 h
      subst c1_2
      refine j_catch X hT [(3, 9, 12, 36), (3, 9, 16, 25)] [] 3 9 20 17 ["java/util/NoSuchElementException", "java/lang/IllegalArgumentException"] rfl (⟨⟨jw_653, by decide, by decide⟩, ⟨⟨jw_563, by decide, by decide⟩, trivial⟩⟩) (by decide) (by decide) jw_378 jw_511 (fun q1 => ?_)
      refine j_astore_n X [(3, .ref q1), (2, .int (-100000000)), (0, .ref a0), (1, .int x1)] dL_repair_20 (by decide) rfl ?_
      refine j_ldc X dL_repair_21 jw_379 ?_
      exact Rt.i dL_repair_23 ⟨_, rfl, h⟩ (by first | decide | omega) (by first | decide | omega)
    replace h := jif_f c1_2 h
    exact h.elim
def w_L_repair (κ : Nat → Nat) (w : va_W) (a0 : Nat) (x1 : Int32) (P : Int32 → va_W → Prop) : Prop := w_L_repair_b0 κ w a0 x1 P
theorem c_L_repair {E : jE} {w : va_W} {a0 : Nat} {x1 : Int32} {P : Int32 → va_W → Prop} (h : w_L_repair E.2.2.2 w a0 x1 P) : jCw E yL_repair cL_repair 4 (some .int) [(3, 9, 12, 36), (3, 9, 16, 25), (3, 9, 20, 17)] ({ frames := 9, cells := 1, slots := 6, locals := 234 } : Room) [.ref a0, .int x1] w 1 6 (jPi P) := by
  refine jCw_of (by decide) (Nat.le_of_ble_eq_true rfl) ?_
  intro Γ hT X hE hR Rt
  subst hE
  exact k_L_repair_b0 hT X hR Rt h
theorem jmw_L_parentOf : jMw yL_parentOf cL_parentOf 4 (some .int) [(4, 10, 13, 36)] 2 := ⟨jw_1263, jw_21, jw_1264, ⟨by decide +kernel, by decide +kernel⟩, by decide +kernel⟩
def w_L_parentOf_b0 (κ : Nat → Nat) (w : va_W) (a0 : Nat) (x1 : Int32) (P : Int32 → va_W → Prop) : Prop :=
    (jRc w a0 11 ∧ w_X8_parentOf κ w a0 x1 (fun v1 w1 => P v1 w1) (fun x1 w1 => (if x1 = "java/util/NoSuchElementException" then P (-1000) w1 else False)))
set_option maxRecDepth 100000 in
set_option maxHeartbeats 4000000 in
theorem k_L_parentOf_b0 {Γ : jG} (hT : (jgC Γ).exceptionTable.toList = tableOf [(4, 10, 13, 36)]) (X : jX Γ cL_parentOf 4 RL) (hR : jgR Γ = ({ frames := 8, cells := 1, slots := 6, locals := 133 } : Room)) {P : Int32 → va_W → Prop} (Rt : jRt Γ cL_parentOf 4 1 6 (some .int) (jPi P)) {w : va_W} {a0 : Nat} {x1 : Int32} (h : w_L_parentOf_b0 (jgE Γ).2.2.2 w a0 x1 P) : J Γ 4 w 0 0 0 [(0, .ref a0), (1, .int x1)] [] := by
  unfold w_L_parentOf_b0 at h
  refine j_sipush X (-1000) dL_parentOf_0 (by decide) ?_
  refine j_istore_n X [(2, .int (-1000)), (0, .ref a0), (1, .int x1)] dL_parentOf_3 (by decide) rfl ?_
  refine j_aload_n X dL_parentOf_4 1 rfl ?_
  refine j_iload_n X dL_parentOf_5 2 rfl ?_
  obtain ⟨⟨fs1, g1⟩, h⟩ := h
  refine j_callVxi X [.int x1] [] (c_X8_parentOf h) (T := TX8) (N := 11) g1 rfl jm_X8_parentOf jw_1265 rfl ⟨rfl, rfl⟩ (by rw [hR]; decide) rfl (Nat.le_of_ble_eq_true rfl) dL_parentOf_6 (fun v1 w1 h => ?_) (fun x1 w1 h => ?_)
  · skip
    refine j_istore_n X [(2, .int v1), (0, .ref a0), (1, .int x1)] dL_parentOf_9 (by decide) rfl ?_
    refine j_goto X 18 dL_parentOf_10 (by decide) ?_
    refine j_iload_n X dL_parentOf_18 0 rfl ?_
    exact Rt.i dL_parentOf_19 ⟨_, rfl, h⟩ (by first | decide | omega) (by first | decide | omega)
  · skip
    by_cases c1_0 : x1 = "java/util/NoSuchElementException"
    · replace h := jif_t c1_0 h
      subst c1_0
      refine j_catch X hT [] [] 4 10 13 36 [] rfl (trivial) (by decide) (by decide) jw_653 jw_476 (fun q1 => ?_)
      refine j_astore_n X [(3, .ref q1), (2, .int (-1000)), (0, .ref a0), (1, .int x1)] dL_parentOf_13 (by decide) rfl ?_
      refine j_sipush X (-1000) dL_parentOf_14 (by decide) ?_
      exact Rt.i dL_parentOf_17 ⟨_, rfl, h⟩ (by first | decide | omega) (by first | decide | omega)
    replace h := jif_f c1_0 h
    exact h.elim
def w_L_parentOf (κ : Nat → Nat) (w : va_W) (a0 : Nat) (x1 : Int32) (P : Int32 → va_W → Prop) : Prop := w_L_parentOf_b0 κ w a0 x1 P
theorem c_L_parentOf {E : jE} {w : va_W} {a0 : Nat} {x1 : Int32} {P : Int32 → va_W → Prop} (h : w_L_parentOf E.2.2.2 w a0 x1 P) : jCw E yL_parentOf cL_parentOf 4 (some .int) [(4, 10, 13, 36)] ({ frames := 8, cells := 1, slots := 6, locals := 133 } : Room) [.ref a0, .int x1] w 1 6 (jPi P) := by
  refine jCw_of (by decide) (Nat.le_of_ble_eq_true rfl) ?_
  intro Γ hT X hE hR Rt
  subst hE
  exact k_L_parentOf_b0 hT X hR Rt h
theorem jmw_L_nonceOf : jMw yL_nonceOf cL_nonceOf 4 (some .int) [(4, 10, 13, 36)] 2 := ⟨jw_1283, jw_21, jw_1284, ⟨by decide +kernel, by decide +kernel⟩, by decide +kernel⟩
def w_L_nonceOf_b0 (κ : Nat → Nat) (w : va_W) (a0 : Nat) (x1 : Int32) (P : Int32 → va_W → Prop) : Prop :=
    (jRc w a0 11 ∧ w_X8_nonceOf κ w a0 x1 (fun v1 w1 => P v1 w1) (fun x1 w1 => (if x1 = "java/util/NoSuchElementException" then P (-1000) w1 else False)))
set_option maxRecDepth 100000 in
set_option maxHeartbeats 4000000 in
theorem k_L_nonceOf_b0 {Γ : jG} (hT : (jgC Γ).exceptionTable.toList = tableOf [(4, 10, 13, 36)]) (X : jX Γ cL_nonceOf 4 RL) (hR : jgR Γ = ({ frames := 8, cells := 1, slots := 6, locals := 133 } : Room)) {P : Int32 → va_W → Prop} (Rt : jRt Γ cL_nonceOf 4 1 6 (some .int) (jPi P)) {w : va_W} {a0 : Nat} {x1 : Int32} (h : w_L_nonceOf_b0 (jgE Γ).2.2.2 w a0 x1 P) : J Γ 4 w 0 0 0 [(0, .ref a0), (1, .int x1)] [] := by
  unfold w_L_nonceOf_b0 at h
  refine j_sipush X (-1000) dL_nonceOf_0 (by decide) ?_
  refine j_istore_n X [(2, .int (-1000)), (0, .ref a0), (1, .int x1)] dL_nonceOf_3 (by decide) rfl ?_
  refine j_aload_n X dL_nonceOf_4 1 rfl ?_
  refine j_iload_n X dL_nonceOf_5 2 rfl ?_
  obtain ⟨⟨fs1, g1⟩, h⟩ := h
  refine j_callVxi X [.int x1] [] (c_X8_nonceOf h) (T := TX8) (N := 11) g1 rfl jm_X8_nonceOf jw_1285 rfl ⟨rfl, rfl⟩ (by rw [hR]; decide) rfl (Nat.le_of_ble_eq_true rfl) dL_nonceOf_6 (fun v1 w1 h => ?_) (fun x1 w1 h => ?_)
  · skip
    refine j_istore_n X [(2, .int v1), (0, .ref a0), (1, .int x1)] dL_nonceOf_9 (by decide) rfl ?_
    refine j_goto X 18 dL_nonceOf_10 (by decide) ?_
    refine j_iload_n X dL_nonceOf_18 0 rfl ?_
    exact Rt.i dL_nonceOf_19 ⟨_, rfl, h⟩ (by first | decide | omega) (by first | decide | omega)
  · skip
    by_cases c1_0 : x1 = "java/util/NoSuchElementException"
    · replace h := jif_t c1_0 h
      subst c1_0
      refine j_catch X hT [] [] 4 10 13 36 [] rfl (trivial) (by decide) (by decide) jw_653 jw_476 (fun q1 => ?_)
      refine j_astore_n X [(3, .ref q1), (2, .int (-1000)), (0, .ref a0), (1, .int x1)] dL_nonceOf_13 (by decide) rfl ?_
      refine j_sipush X (-1000) dL_nonceOf_14 (by decide) ?_
      exact Rt.i dL_nonceOf_17 ⟨_, rfl, h⟩ (by first | decide | omega) (by first | decide | omega)
    replace h := jif_f c1_0 h
    exact h.elim
def w_L_nonceOf (κ : Nat → Nat) (w : va_W) (a0 : Nat) (x1 : Int32) (P : Int32 → va_W → Prop) : Prop := w_L_nonceOf_b0 κ w a0 x1 P
theorem c_L_nonceOf {E : jE} {w : va_W} {a0 : Nat} {x1 : Int32} {P : Int32 → va_W → Prop} (h : w_L_nonceOf E.2.2.2 w a0 x1 P) : jCw E yL_nonceOf cL_nonceOf 4 (some .int) [(4, 10, 13, 36)] ({ frames := 8, cells := 1, slots := 6, locals := 133 } : Room) [.ref a0, .int x1] w 1 6 (jPi P) := by
  refine jCw_of (by decide) (Nat.le_of_ble_eq_true rfl) ?_
  intro Γ hT X hE hR Rt
  subst hE
  exact k_L_nonceOf_b0 hT X hR Rt h
theorem jmw_L_firstInvalid : jMw yL_firstInvalid cL_firstInvalid 4 (some .int) [(4, 10, 13, 36)] 2 := ⟨jw_1383, jw_21, jw_1384, ⟨by decide +kernel, by decide +kernel⟩, by decide +kernel⟩
def w_L_firstInvalid_b0 (κ : Nat → Nat) (w : va_W) (a0 : Nat) (x1 : Int32) (P : Int32 → va_W → Prop) : Prop :=
    (jRc w a0 11 ∧ w_X8_firstInvalid κ w a0 x1 (fun v1 w1 => P v1 w1) (fun x1 w1 => (if x1 = "java/util/NoSuchElementException" then P (-1000) w1 else False)))
set_option maxRecDepth 100000 in
set_option maxHeartbeats 4000000 in
theorem k_L_firstInvalid_b0 {Γ : jG} (hT : (jgC Γ).exceptionTable.toList = tableOf [(4, 10, 13, 36)]) (X : jX Γ cL_firstInvalid 4 RL) (hR : jgR Γ = ({ frames := 8, cells := 2, slots := 12, locals := 134 } : Room)) {P : Int32 → va_W → Prop} (Rt : jRt Γ cL_firstInvalid 4 2 12 (some .int) (jPi P)) {w : va_W} {a0 : Nat} {x1 : Int32} (h : w_L_firstInvalid_b0 (jgE Γ).2.2.2 w a0 x1 P) : J Γ 4 w 0 0 0 [(0, .ref a0), (1, .int x1)] [] := by
  unfold w_L_firstInvalid_b0 at h
  refine j_sipush X (-1000) dL_firstInvalid_0 (by decide) ?_
  refine j_istore_n X [(2, .int (-1000)), (0, .ref a0), (1, .int x1)] dL_firstInvalid_3 (by decide) rfl ?_
  refine j_aload_n X dL_firstInvalid_4 1 rfl ?_
  refine j_iload_n X dL_firstInvalid_5 2 rfl ?_
  obtain ⟨⟨fs1, g1⟩, h⟩ := h
  refine j_callVxi X [.int x1] [] (c_X8_firstInvalid h) (T := TX8) (N := 11) g1 rfl jm_X8_firstInvalid jw_1385 rfl ⟨rfl, rfl⟩ (by rw [hR]; decide) rfl (Nat.le_of_ble_eq_true rfl) dL_firstInvalid_6 (fun v1 w1 h => ?_) (fun x1 w1 h => ?_)
  · skip
    refine j_istore_n X [(2, .int v1), (0, .ref a0), (1, .int x1)] dL_firstInvalid_9 (by decide) rfl ?_
    refine j_goto X 18 dL_firstInvalid_10 (by decide) ?_
    refine j_iload_n X dL_firstInvalid_18 0 rfl ?_
    exact Rt.i dL_firstInvalid_19 ⟨_, rfl, h⟩ (by first | decide | omega) (by first | decide | omega)
  · skip
    by_cases c1_0 : x1 = "java/util/NoSuchElementException"
    · replace h := jif_t c1_0 h
      subst c1_0
      refine j_catch X hT [] [] 4 10 13 36 [] rfl (trivial) (by decide) (by decide) jw_653 jw_476 (fun q1 => ?_)
      refine j_astore_n X [(3, .ref q1), (2, .int (-1000)), (0, .ref a0), (1, .int x1)] dL_firstInvalid_13 (by decide) rfl ?_
      refine j_sipush X (-1000) dL_firstInvalid_14 (by decide) ?_
      exact Rt.i dL_firstInvalid_17 ⟨_, rfl, h⟩ (by first | decide | omega) (by first | decide | omega)
    replace h := jif_f c1_0 h
    exact h.elim
def w_L_firstInvalid (κ : Nat → Nat) (w : va_W) (a0 : Nat) (x1 : Int32) (P : Int32 → va_W → Prop) : Prop := w_L_firstInvalid_b0 κ w a0 x1 P
theorem c_L_firstInvalid {E : jE} {w : va_W} {a0 : Nat} {x1 : Int32} {P : Int32 → va_W → Prop} (h : w_L_firstInvalid E.2.2.2 w a0 x1 P) : jCw E yL_firstInvalid cL_firstInvalid 4 (some .int) [(4, 10, 13, 36)] ({ frames := 8, cells := 2, slots := 12, locals := 134 } : Room) [.ref a0, .int x1] w 2 12 (jPi P) := by
  refine jCw_of (by decide) (Nat.le_of_ble_eq_true rfl) ?_
  intro Γ hT X hE hR Rt
  subst hE
  exact k_L_firstInvalid_b0 hT X hR Rt h
theorem jmw_L_tipAtRank : jMw yL_tipAtRank cL_tipAtRank 4 (some .int) [(4, 10, 13, 36)] 2 := ⟨jw_1497, jw_21, jw_1498, ⟨by decide +kernel, by decide +kernel⟩, by decide +kernel⟩
def w_L_tipAtRank_b0 (κ : Nat → Nat) (w : va_W) (a0 : Nat) (x1 : Int32) (P : Int32 → va_W → Prop) : Prop :=
    (jRc w a0 11 ∧ w_X8_tipAtRank κ w a0 x1 (fun v1 w1 => P v1 w1) (fun x1 w1 => (if x1 = "java/util/NoSuchElementException" then P (-1000) w1 else False)))
set_option maxRecDepth 100000 in
set_option maxHeartbeats 4000000 in
theorem k_L_tipAtRank_b0 {Γ : jG} (hT : (jgC Γ).exceptionTable.toList = tableOf [(4, 10, 13, 36)]) (X : jX Γ cL_tipAtRank 4 RL) (hR : jgR Γ = ({ frames := 7, cells := 1, slots := 6, locals := 135 } : Room)) {P : Int32 → va_W → Prop} (Rt : jRt Γ cL_tipAtRank 4 1 6 (some .int) (jPi P)) {w : va_W} {a0 : Nat} {x1 : Int32} (h : w_L_tipAtRank_b0 (jgE Γ).2.2.2 w a0 x1 P) : J Γ 4 w 0 0 0 [(0, .ref a0), (1, .int x1)] [] := by
  unfold w_L_tipAtRank_b0 at h
  refine j_sipush X (-1000) dL_tipAtRank_0 (by decide) ?_
  refine j_istore_n X [(2, .int (-1000)), (0, .ref a0), (1, .int x1)] dL_tipAtRank_3 (by decide) rfl ?_
  refine j_aload_n X dL_tipAtRank_4 1 rfl ?_
  refine j_iload_n X dL_tipAtRank_5 2 rfl ?_
  obtain ⟨⟨fs1, g1⟩, h⟩ := h
  refine j_callVxi X [.int x1] [] (c_X8_tipAtRank h) (T := TX8) (N := 11) g1 rfl jm_X8_tipAtRank jw_1499 rfl ⟨rfl, rfl⟩ (by rw [hR]; decide) rfl (Nat.le_of_ble_eq_true rfl) dL_tipAtRank_6 (fun v1 w1 h => ?_) (fun x1 w1 h => ?_)
  · skip
    refine j_istore_n X [(2, .int v1), (0, .ref a0), (1, .int x1)] dL_tipAtRank_9 (by decide) rfl ?_
    refine j_goto X 18 dL_tipAtRank_10 (by decide) ?_
    refine j_iload_n X dL_tipAtRank_18 0 rfl ?_
    exact Rt.i dL_tipAtRank_19 ⟨_, rfl, h⟩ (by first | decide | omega) (by first | decide | omega)
  · skip
    by_cases c1_0 : x1 = "java/util/NoSuchElementException"
    · replace h := jif_t c1_0 h
      subst c1_0
      refine j_catch X hT [] [] 4 10 13 36 [] rfl (trivial) (by decide) (by decide) jw_653 jw_476 (fun q1 => ?_)
      refine j_astore_n X [(3, .ref q1), (2, .int (-1000)), (0, .ref a0), (1, .int x1)] dL_tipAtRank_13 (by decide) rfl ?_
      refine j_sipush X (-1000) dL_tipAtRank_14 (by decide) ?_
      exact Rt.i dL_tipAtRank_17 ⟨_, rfl, h⟩ (by first | decide | omega) (by first | decide | omega)
    replace h := jif_f c1_0 h
    exact h.elim
def w_L_tipAtRank (κ : Nat → Nat) (w : va_W) (a0 : Nat) (x1 : Int32) (P : Int32 → va_W → Prop) : Prop := w_L_tipAtRank_b0 κ w a0 x1 P
theorem c_L_tipAtRank {E : jE} {w : va_W} {a0 : Nat} {x1 : Int32} {P : Int32 → va_W → Prop} (h : w_L_tipAtRank E.2.2.2 w a0 x1 P) : jCw E yL_tipAtRank cL_tipAtRank 4 (some .int) [(4, 10, 13, 36)] ({ frames := 7, cells := 1, slots := 6, locals := 135 } : Room) [.ref a0, .int x1] w 1 6 (jPi P) := by
  refine jCw_of (by decide) (Nat.le_of_ble_eq_true rfl) ?_
  intro Γ hT X hE hR Rt
  subst hE
  exact k_L_tipAtRank_b0 hT X hR Rt h
theorem jmw_L_runScript : jMw yL_runScript cL_runScript 3 (some .int) [(3, 8, 11, 25), (3, 8, 15, 17)] 1 := ⟨jw_699, jw_21, jw_700, ⟨by decide +kernel, by decide +kernel⟩, by decide +kernel⟩
def w_L_runScript_b0 (κ : Nat → Nat) (w : va_W) (a0 : Nat) (P : Int32 → va_W → Prop) : Prop :=
    (jRc w a0 11 ∧ w_X8_runScript κ w a0 (fun v1 w1 => P v1 w1) (fun x1 w1 => (if x1 = "java/lang/IllegalArgumentException" then P (-100000000) w1 else (if x1 = "java/lang/IllegalStateException" then P (-100000000) w1 else False))))
set_option maxRecDepth 100000 in
set_option maxHeartbeats 4000000 in
theorem k_L_runScript_b0 {Γ : jG} (hT : (jgC Γ).exceptionTable.toList = tableOf [(3, 8, 11, 25), (3, 8, 15, 17)]) (X : jX Γ cL_runScript 3 RL) (hR : jgR Γ = ({ frames := 11, cells := 3, slots := 412, locals := 241 } : Room)) {P : Int32 → va_W → Prop} (Rt : jRt Γ cL_runScript 3 3 412 (some .int) (jPi P)) {w : va_W} {a0 : Nat} (h : w_L_runScript_b0 (jgE Γ).2.2.2 w a0 P) : J Γ 3 w 0 0 0 [(0, .ref a0)] [] := by
  unfold w_L_runScript_b0 at h
  refine j_ldc X dL_runScript_0 jw_379 ?_
  refine j_istore_n X [(1, .int (-100000000)), (0, .ref a0)] dL_runScript_2 (by decide) rfl ?_
  refine j_aload_n X dL_runScript_3 1 rfl ?_
  obtain ⟨⟨fs1, g1⟩, h⟩ := h
  refine j_callVxi X [] [] (c_X8_runScript h) (T := TX8) (N := 11) g1 rfl jm_X8_runScript jw_701 rfl ⟨rfl, rfl⟩ (by rw [hR]; decide) rfl (Nat.le_of_ble_eq_true rfl) dL_runScript_4 (fun v1 w1 h => ?_) (fun x1 w1 h => ?_)
  · skip
    refine j_istore_n X [(1, .int v1), (0, .ref a0)] dL_runScript_7 (by decide) rfl ?_
    refine j_goto X 19 dL_runScript_8 (by decide) ?_
    refine j_iload_n X dL_runScript_19 0 rfl ?_
    exact Rt.i dL_runScript_20 ⟨_, rfl, h⟩ (by first | decide | omega) (by first | decide | omega)
  · skip
    by_cases c1_0 : x1 = "java/lang/IllegalArgumentException"
    · replace h := jif_t c1_0 h
      subst c1_0
      refine j_catch X hT [] [(3, 8, 15, 17)] 3 8 11 25 [] rfl (trivial) (by decide) (by decide) jw_563 jw_494 (fun q1 => ?_)
      refine j_astore_n X [(2, .ref q1), (1, .int (-100000000)), (0, .ref a0)] dL_runScript_11 (by decide) rfl ?_
      refine j_ldc X dL_runScript_12 jw_379 ?_
      exact Rt.i dL_runScript_14 ⟨_, rfl, h⟩ (by first | decide | omega) (by first | decide | omega)
    replace h := jif_f c1_0 h
    by_cases c1_1 : x1 = "java/lang/IllegalStateException"
    · replace h := jif_t c1_1 h
      subst c1_1
      refine j_catch X hT [(3, 8, 11, 25)] [] 3 8 15 17 ["java/lang/IllegalArgumentException"] rfl (⟨⟨jw_563, by decide, by decide⟩, trivial⟩) (by decide) (by decide) jw_378 jw_511 (fun q1 => ?_)
      refine j_astore_n X [(2, .ref q1), (1, .int (-100000000)), (0, .ref a0)] dL_runScript_15 (by decide) rfl ?_
      refine j_ldc X dL_runScript_16 jw_379 ?_
      exact Rt.i dL_runScript_18 ⟨_, rfl, h⟩ (by first | decide | omega) (by first | decide | omega)
    replace h := jif_f c1_1 h
    exact h.elim
def w_L_runScript (κ : Nat → Nat) (w : va_W) (a0 : Nat) (P : Int32 → va_W → Prop) : Prop := w_L_runScript_b0 κ w a0 P
theorem c_L_runScript {E : jE} {w : va_W} {a0 : Nat} {P : Int32 → va_W → Prop} (h : w_L_runScript E.2.2.2 w a0 P) : jCw E yL_runScript cL_runScript 3 (some .int) [(3, 8, 11, 25), (3, 8, 15, 17)] ({ frames := 11, cells := 3, slots := 412, locals := 241 } : Room) [.ref a0] w 3 412 (jPi P) := by
  refine jCw_of (by decide) (Nat.le_of_ble_eq_true rfl) ?_
  intro Γ hT X hE hR Rt
  subst hE
  exact k_L_runScript_b0 hT X hR Rt h
theorem jmw_L_failedCommand : jMw yL_failedCommand cL_failedCommand 3 (some .int) [(4, 9, 12, 36)] 1 := ⟨jw_1119, jw_21, jw_1120, ⟨by decide +kernel, by decide +kernel⟩, by decide +kernel⟩
def w_L_failedCommand_b0 (κ : Nat → Nat) (w : va_W) (a0 : Nat) (P : Int32 → va_W → Prop) : Prop :=
    (jRc w a0 11 ∧ w_X8_failedCommand κ w a0 (fun v1 w1 => P v1 w1) (fun x1 w1 => (if x1 = "java/util/NoSuchElementException" then P (-1000) w1 else False)))
set_option maxRecDepth 100000 in
set_option maxHeartbeats 4000000 in
theorem k_L_failedCommand_b0 {Γ : jG} (hT : (jgC Γ).exceptionTable.toList = tableOf [(4, 9, 12, 36)]) (X : jX Γ cL_failedCommand 3 RL) (hR : jgR Γ = ({ frames := 7, cells := 1, slots := 6, locals := 110 } : Room)) {P : Int32 → va_W → Prop} (Rt : jRt Γ cL_failedCommand 3 1 6 (some .int) (jPi P)) {w : va_W} {a0 : Nat} (h : w_L_failedCommand_b0 (jgE Γ).2.2.2 w a0 P) : J Γ 3 w 0 0 0 [(0, .ref a0)] [] := by
  unfold w_L_failedCommand_b0 at h
  refine j_sipush X (-1000) dL_failedCommand_0 (by decide) ?_
  refine j_istore_n X [(1, .int (-1000)), (0, .ref a0)] dL_failedCommand_3 (by decide) rfl ?_
  refine j_aload_n X dL_failedCommand_4 1 rfl ?_
  obtain ⟨⟨fs1, g1⟩, h⟩ := h
  refine j_callVxi X [] [] (c_X8_failedCommand h) (T := TX8) (N := 11) g1 rfl jm_X8_failedCommand jw_1121 rfl ⟨rfl, rfl⟩ (by rw [hR]; decide) rfl (Nat.le_of_ble_eq_true rfl) dL_failedCommand_5 (fun v1 w1 h => ?_) (fun x1 w1 h => ?_)
  · skip
    refine j_istore_n X [(1, .int v1), (0, .ref a0)] dL_failedCommand_8 (by decide) rfl ?_
    refine j_goto X 17 dL_failedCommand_9 (by decide) ?_
    refine j_iload_n X dL_failedCommand_17 0 rfl ?_
    exact Rt.i dL_failedCommand_18 ⟨_, rfl, h⟩ (by first | decide | omega) (by first | decide | omega)
  · skip
    by_cases c1_0 : x1 = "java/util/NoSuchElementException"
    · replace h := jif_t c1_0 h
      subst c1_0
      refine j_catch X hT [] [] 4 9 12 36 [] rfl (trivial) (by decide) (by decide) jw_653 jw_476 (fun q1 => ?_)
      refine j_astore_n X [(2, .ref q1), (1, .int (-1000)), (0, .ref a0)] dL_failedCommand_12 (by decide) rfl ?_
      refine j_sipush X (-1000) dL_failedCommand_13 (by decide) ?_
      exact Rt.i dL_failedCommand_16 ⟨_, rfl, h⟩ (by first | decide | omega) (by first | decide | omega)
    replace h := jif_f c1_0 h
    exact h.elim
def w_L_failedCommand (κ : Nat → Nat) (w : va_W) (a0 : Nat) (P : Int32 → va_W → Prop) : Prop := w_L_failedCommand_b0 κ w a0 P
theorem c_L_failedCommand {E : jE} {w : va_W} {a0 : Nat} {P : Int32 → va_W → Prop} (h : w_L_failedCommand E.2.2.2 w a0 P) : jCw E yL_failedCommand cL_failedCommand 3 (some .int) [(4, 9, 12, 36)] ({ frames := 7, cells := 1, slots := 6, locals := 110 } : Room) [.ref a0] w 1 6 (jPi P) := by
  refine jCw_of (by decide) (Nat.le_of_ble_eq_true rfl) ?_
  intro Γ hT X hE hR Rt
  subst hE
  exact k_L_failedCommand_b0 hT X hR Rt h
theorem jmw_L_undo : jMw yL_undo cL_undo 3 (some .int) [(3, 8, 11, 17)] 1 := ⟨jw_1127, jw_21, jw_1128, ⟨by decide +kernel, by decide +kernel⟩, by decide +kernel⟩
def w_L_undo_b0 (κ : Nat → Nat) (w : va_W) (a0 : Nat) (P : Int32 → va_W → Prop) : Prop :=
    (jRc w a0 11 ∧ w_X8_undo κ w a0 (fun v1 w1 => P v1 w1) (fun x1 w1 => (if x1 = "java/lang/IllegalStateException" then P (-100000000) w1 else False)))
set_option maxRecDepth 100000 in
set_option maxHeartbeats 4000000 in
theorem k_L_undo_b0 {Γ : jG} (hT : (jgC Γ).exceptionTable.toList = tableOf [(3, 8, 11, 17)]) (X : jX Γ cL_undo 3 RL) (hR : jgR Γ = ({ frames := 7, cells := 1, slots := 6, locals := 212 } : Room)) {P : Int32 → va_W → Prop} (Rt : jRt Γ cL_undo 3 1 6 (some .int) (jPi P)) {w : va_W} {a0 : Nat} (h : w_L_undo_b0 (jgE Γ).2.2.2 w a0 P) : J Γ 3 w 0 0 0 [(0, .ref a0)] [] := by
  unfold w_L_undo_b0 at h
  refine j_ldc X dL_undo_0 jw_379 ?_
  refine j_istore_n X [(1, .int (-100000000)), (0, .ref a0)] dL_undo_2 (by decide) rfl ?_
  refine j_aload_n X dL_undo_3 1 rfl ?_
  obtain ⟨⟨fs1, g1⟩, h⟩ := h
  refine j_callVxi X [] [] (c_X8_undo h) (T := TX8) (N := 11) g1 rfl jm_X8_undo jw_1129 rfl ⟨rfl, rfl⟩ (by rw [hR]; decide) rfl (Nat.le_of_ble_eq_true rfl) dL_undo_4 (fun v1 w1 h => ?_) (fun x1 w1 h => ?_)
  · skip
    refine j_istore_n X [(1, .int v1), (0, .ref a0)] dL_undo_7 (by decide) rfl ?_
    refine j_goto X 15 dL_undo_8 (by decide) ?_
    refine j_iload_n X dL_undo_15 0 rfl ?_
    exact Rt.i dL_undo_16 ⟨_, rfl, h⟩ (by first | decide | omega) (by first | decide | omega)
  · skip
    by_cases c1_0 : x1 = "java/lang/IllegalStateException"
    · replace h := jif_t c1_0 h
      subst c1_0
      refine j_catch X hT [] [] 3 8 11 17 [] rfl (trivial) (by decide) (by decide) jw_378 jw_511 (fun q1 => ?_)
      refine j_astore_n X [(2, .ref q1), (1, .int (-100000000)), (0, .ref a0)] dL_undo_11 (by decide) rfl ?_
      refine j_ldc X dL_undo_12 jw_379 ?_
      exact Rt.i dL_undo_14 ⟨_, rfl, h⟩ (by first | decide | omega) (by first | decide | omega)
    replace h := jif_f c1_0 h
    exact h.elim
def w_L_undo (κ : Nat → Nat) (w : va_W) (a0 : Nat) (P : Int32 → va_W → Prop) : Prop := w_L_undo_b0 κ w a0 P
theorem c_L_undo {E : jE} {w : va_W} {a0 : Nat} {P : Int32 → va_W → Prop} (h : w_L_undo E.2.2.2 w a0 P) : jCw E yL_undo cL_undo 3 (some .int) [(3, 8, 11, 17)] ({ frames := 7, cells := 1, slots := 6, locals := 212 } : Room) [.ref a0] w 1 6 (jPi P) := by
  refine jCw_of (by decide) (Nat.le_of_ble_eq_true rfl) ?_
  intro Γ hT X hE hR Rt
  subst hE
  exact k_L_undo_b0 hT X hR Rt h
theorem jmw_L_restore : jMw yL_restore cL_restore 3 (some .int) [(3, 8, 11, 17)] 1 := ⟨jw_1139, jw_21, jw_1140, ⟨by decide +kernel, by decide +kernel⟩, by decide +kernel⟩
def w_L_restore_b0 (κ : Nat → Nat) (w : va_W) (a0 : Nat) (P : Int32 → va_W → Prop) : Prop :=
    (jRc w a0 11 ∧ w_X8_restore κ w a0 (fun v1 w1 => P v1 w1) (fun x1 w1 => (if x1 = "java/lang/IllegalStateException" then P (-100000000) w1 else False)))
set_option maxRecDepth 100000 in
set_option maxHeartbeats 4000000 in
theorem k_L_restore_b0 {Γ : jG} (hT : (jgC Γ).exceptionTable.toList = tableOf [(3, 8, 11, 17)]) (X : jX Γ cL_restore 3 RL) (hR : jgR Γ = ({ frames := 7, cells := 1, slots := 6, locals := 191 } : Room)) {P : Int32 → va_W → Prop} (Rt : jRt Γ cL_restore 3 1 6 (some .int) (jPi P)) {w : va_W} {a0 : Nat} (h : w_L_restore_b0 (jgE Γ).2.2.2 w a0 P) : J Γ 3 w 0 0 0 [(0, .ref a0)] [] := by
  unfold w_L_restore_b0 at h
  refine j_ldc X dL_restore_0 jw_379 ?_
  refine j_istore_n X [(1, .int (-100000000)), (0, .ref a0)] dL_restore_2 (by decide) rfl ?_
  refine j_aload_n X dL_restore_3 1 rfl ?_
  obtain ⟨⟨fs1, g1⟩, h⟩ := h
  refine j_callVxi X [] [] (c_X8_restore h) (T := TX8) (N := 11) g1 rfl jm_X8_restore jw_1141 rfl ⟨rfl, rfl⟩ (by rw [hR]; decide) rfl (Nat.le_of_ble_eq_true rfl) dL_restore_4 (fun v1 w1 h => ?_) (fun x1 w1 h => ?_)
  · skip
    refine j_istore_n X [(1, .int v1), (0, .ref a0)] dL_restore_7 (by decide) rfl ?_
    refine j_goto X 15 dL_restore_8 (by decide) ?_
    refine j_iload_n X dL_restore_15 0 rfl ?_
    exact Rt.i dL_restore_16 ⟨_, rfl, h⟩ (by first | decide | omega) (by first | decide | omega)
  · skip
    by_cases c1_0 : x1 = "java/lang/IllegalStateException"
    · replace h := jif_t c1_0 h
      subst c1_0
      refine j_catch X hT [] [] 3 8 11 17 [] rfl (trivial) (by decide) (by decide) jw_378 jw_511 (fun q1 => ?_)
      refine j_astore_n X [(2, .ref q1), (1, .int (-100000000)), (0, .ref a0)] dL_restore_11 (by decide) rfl ?_
      refine j_ldc X dL_restore_12 jw_379 ?_
      exact Rt.i dL_restore_14 ⟨_, rfl, h⟩ (by first | decide | omega) (by first | decide | omega)
    replace h := jif_f c1_0 h
    exact h.elim
def w_L_restore (κ : Nat → Nat) (w : va_W) (a0 : Nat) (P : Int32 → va_W → Prop) : Prop := w_L_restore_b0 κ w a0 P
theorem c_L_restore {E : jE} {w : va_W} {a0 : Nat} {P : Int32 → va_W → Prop} (h : w_L_restore E.2.2.2 w a0 P) : jCw E yL_restore cL_restore 3 (some .int) [(3, 8, 11, 17)] ({ frames := 7, cells := 1, slots := 6, locals := 191 } : Room) [.ref a0] w 1 6 (jPi P) := by
  refine jCw_of (by decide) (Nat.le_of_ble_eq_true rfl) ?_
  intro Γ hT X hE hR Rt
  subst hE
  exact k_L_restore_b0 hT X hR Rt h
theorem jmw_L_put : jMw yL_put cL_put 3 (some .boolean) [(0, 6, 9, 17)] 2 := ⟨jw_1156, jw_21, jw_1157, ⟨by decide +kernel, by decide +kernel⟩, by decide +kernel⟩
def w_L_put_b0 (κ : Nat → Nat) (w : va_W) (a0 : Nat) (x1 : Int32) (P : Int32 → va_W → Prop) : Prop :=
    (jRc w a0 11 ∧ w_X8_type κ w a0 x1 (fun v1 w1 => P 1 w1) (fun x1 w1 => (if x1 = "java/lang/IllegalStateException" then P 0 w1 else False)))
set_option maxRecDepth 100000 in
set_option maxHeartbeats 4000000 in
theorem k_L_put_b0 {Γ : jG} (hT : (jgC Γ).exceptionTable.toList = tableOf [(0, 6, 9, 17)]) (X : jX Γ cL_put 3 RL) (hR : jgR Γ = ({ frames := 8, cells := 2, slots := 406, locals := 236 } : Room)) {P : Int32 → va_W → Prop} (Rt : jRt Γ cL_put 3 2 406 (some .boolean) (jPi P)) {w : va_W} {a0 : Nat} {x1 : Int32} (h : w_L_put_b0 (jgE Γ).2.2.2 w a0 x1 P) : J Γ 3 w 0 0 0 [(0, .ref a0), (1, .int x1)] [] := by
  unfold w_L_put_b0 at h
  refine j_aload_n X dL_put_0 0 rfl ?_
  refine j_iload_n X dL_put_1 1 rfl ?_
  obtain ⟨⟨fs1, g1⟩, h⟩ := h
  refine j_callVxi X [.int x1] [] (c_X8_type h) (T := TX8) (N := 11) g1 rfl jm_X8_type jw_1158 rfl ⟨rfl, rfl⟩ (by rw [hR]; decide) rfl (Nat.le_of_ble_eq_true rfl) dL_put_2 (fun v1 w1 h => ?_) (fun x1 w1 h => ?_)
  · skip
    refine j_pop X dL_put_5 rfl ?_
    refine j_goto X 12 dL_put_6 (by decide) ?_
    refine j_iconst X 1 dL_put_12 (by decide) ?_
    exact Rt.z dL_put_13 (by decide) ⟨_, rfl, h⟩ (by first | decide | omega) (by first | decide | omega)
  · skip
    by_cases c1_0 : x1 = "java/lang/IllegalStateException"
    · replace h := jif_t c1_0 h
      subst c1_0
      refine j_catch X hT [] [] 0 6 9 17 [] rfl (trivial) (by decide) (by decide) jw_378 jw_511 (fun q1 => ?_)
      refine j_astore_n X [(2, .ref q1), (0, .ref a0), (1, .int x1)] dL_put_9 (by decide) rfl ?_
      refine j_iconst X 0 dL_put_10 (by decide) ?_
      exact Rt.z dL_put_11 (by decide) ⟨_, rfl, h⟩ (by first | decide | omega) (by first | decide | omega)
    replace h := jif_f c1_0 h
    exact h.elim
def w_L_put (κ : Nat → Nat) (w : va_W) (a0 : Nat) (x1 : Int32) (P : Int32 → va_W → Prop) : Prop := w_L_put_b0 κ w a0 x1 P
theorem c_L_put {E : jE} {w : va_W} {a0 : Nat} {x1 : Int32} {P : Int32 → va_W → Prop} (h : w_L_put E.2.2.2 w a0 x1 P) : jCw E yL_put cL_put 3 (some .boolean) [(0, 6, 9, 17)] ({ frames := 8, cells := 2, slots := 406, locals := 236 } : Room) [.ref a0, .int x1] w 2 406 (jPi P) := by
  refine jCw_of (by decide) (Nat.le_of_ble_eq_true rfl) ?_
  intro Γ hT X hE hR Rt
  subst hE
  exact k_L_put_b0 hT X hR Rt h
theorem jm_L_typed : jMs yL_typed cL_typed 3 (some (.object "SnowLedger")) 2 := ⟨jw_1151, jw_21, jw_1152, ⟨by decide +kernel, by decide +kernel⟩, by decide +kernel⟩
def w_L_typed_b2 : Nat → (κ : Nat → Nat) → (w : va_W) → (a0 : Nat) → (u1 : Nat) → (x2 : Int32) → (P : Nat → va_W → Prop) → Prop
  | 0, _, _, _, _, _, _ => False
  | n + 1, κ, w, a0, u1, x2, P =>
    (u1 < 27 ∧ w_J0_length_8abf5 κ w u1 (fun v1 w1 => (if v1 ≤ x2 then P a0 w1 else (u1 < 27 ∧ w_J0_charAt_5068e κ w1 u1 x2 (fun v2 w2 => w_L_put κ w2 a0 v2 (fun v3 w3 => w_L_typed_b2 n κ w3 a0 u1 (x2 + 1) P))))))
set_option maxRecDepth 100000 in
set_option maxHeartbeats 4000000 in
theorem k_L_typed_b2 {Γ : jG} (X : jX Γ cL_typed 3 RL) (hR : jgR Γ = ({ frames := 9, cells := 56, slots := 11368, locals := 258 } : Room)) {P : Nat → va_W → Prop} (Rt : jRt Γ cL_typed 3 56 11368 (some (.object "SnowLedger")) (jPr P)) : ∀ (n : Nat) (hN : n ≤ 28) {w : va_W} {a0 : Nat} {u1 : Nat} {x2 : Int32} (h : w_L_typed_b2 n (jgE Γ).2.2.2 w a0 u1 x2 P), J Γ 3 w (0 + (28 - n) * 2 + 0) (0 + (28 - n) * 406 + 0) 2 [(0, .ref a0), (1, .ref ((jgE Γ).2.2.2 (10 + u1))), (2, .int x2)] [] := by
  intro n
  induction n with
  | zero => intro hN w a0 u1 x2 h; exact False.elim h
  | succ n ih =>
    intro hN w a0 u1 x2 h
    rw [w_L_typed_b2] at h
    refine j_iload_n X dL_typed_2 2 rfl ?_
    refine j_aload_n X dL_typed_3 1 rfl ?_
    obtain ⟨g1, h⟩ := h
    refine j_callCi X [] [.int x2] (c_J0_length_8abf5 h) g1 rfl jm_J0_length_8abf5 jw_1153 rfl ⟨rfl, rfl⟩ (by rw [hR]; exact ⟨⟨by decide, by decide⟩, by simp only []; omega, by simp only []; omega⟩) rfl (Nat.le_of_ble_eq_true rfl) dL_typed_4 (fun v1 w1 h => ?_)
    refine j_icmp_ge X 26 dL_typed_7 (by decide) (fun c => ?_) (fun c => ?_)
    · replace h := jif_t c h
      refine j_aload_n X dL_typed_26 0 rfl ?_
      exact Rt.a (Or.inl ⟨_, rfl⟩) dL_typed_27 ⟨_, rfl, h⟩ (by first | decide | omega) (by first | decide | omega)
    · replace h := jif_f c h
      refine j_aload_n X dL_typed_10 0 rfl ?_
      refine j_aload_n X dL_typed_11 1 rfl ?_
      refine j_iload_n X dL_typed_12 2 rfl ?_
      obtain ⟨g2, h⟩ := h
      refine j_callCi X [.int x2] [.ref a0] (c_J0_charAt_5068e h) g2 rfl jm_J0_charAt_5068e jw_1154 rfl ⟨rfl, rfl⟩ (by rw [hR]; exact ⟨⟨by decide, by decide⟩, by simp only []; omega, by simp only []; omega⟩) rfl (Nat.le_of_ble_eq_true rfl) dL_typed_13 (fun v2 w2 h => ?_)
      refine j_callWi X [.ref a0, .int v2] [] (c_L_put h) jmw_L_put jw_1155 rfl ⟨rfl, rfl⟩ (by rw [hR]; exact ⟨⟨by decide, by decide⟩, by simp only []; omega, by simp only []; omega⟩) rfl (Nat.le_of_ble_eq_true rfl) dL_typed_16 (fun v3 w3 h => ?_)
      refine j_pop X dL_typed_19 rfl ?_
      refine j_iinc X (x2 + 1) [(2, .int (x2 + 1)), (0, .ref a0), (1, .ref ((jgE Γ).2.2.2 (10 + u1)))] dL_typed_20 2 rfl rfl (by decide) rfl ?_
      refine j_goto X 2 dL_typed_23 (by decide) ?_
      refine j_sub [1, 2, 0] rfl ?_
      refine j_widen (k := (0 + (28 - n) * 2 + 0)) (n := (0 + (28 - n) * 406 + 0)) (by omega) (by omega) ?_
      exact ih (by omega) h
def w_L_typed_b0 (κ : Nat → Nat) (w : va_W) (a0 : Nat) (u1 : Nat) (P : Nat → va_W → Prop) : Prop :=
    w_L_typed_b2 28 κ w a0 u1 0 P
set_option maxRecDepth 100000 in
set_option maxHeartbeats 4000000 in
theorem k_L_typed_b0 {Γ : jG} (X : jX Γ cL_typed 3 RL) (hR : jgR Γ = ({ frames := 9, cells := 56, slots := 11368, locals := 258 } : Room)) {P : Nat → va_W → Prop} (Rt : jRt Γ cL_typed 3 56 11368 (some (.object "SnowLedger")) (jPr P)) {w : va_W} {a0 : Nat} {u1 : Nat} (h : w_L_typed_b0 (jgE Γ).2.2.2 w a0 u1 P) : J Γ 3 w 0 0 0 [(0, .ref a0), (1, .ref ((jgE Γ).2.2.2 (10 + u1)))] [] := by
  unfold w_L_typed_b0 at h
  refine j_iconst X 0 dL_typed_0 (by decide) ?_
  refine j_istore_n X [(2, .int 0), (0, .ref a0), (1, .ref ((jgE Γ).2.2.2 (10 + u1)))] dL_typed_1 (by decide) rfl ?_
  refine j_sub [1, 2, 0] rfl ?_
  refine j_widen (k := (0 + (28 - 28) * 2 + 0)) (n := (0 + (28 - 28) * 406 + 0)) (by omega) (by omega) ?_
  exact k_L_typed_b2 X hR Rt _ (Nat.le_refl _) h
def w_L_typed (κ : Nat → Nat) (w : va_W) (a0 : Nat) (u1 : Nat) (P : Nat → va_W → Prop) : Prop := w_L_typed_b0 κ w a0 u1 P
theorem c_L_typed {E : jE} {w : va_W} {a0 : Nat} {u1 : Nat} {P : Nat → va_W → Prop} (h : w_L_typed E.2.2.2 w a0 u1 P) : jC E yL_typed cL_typed 3 (some (.object "SnowLedger")) ({ frames := 9, cells := 56, slots := 11368, locals := 258 } : Room) [.ref a0, .ref (E.2.2.2 (10 + u1))] w 56 11368 (jPr P) := by
  refine jC_of (by decide) (Nat.le_of_ble_eq_true rfl) ?_
  intro Γ X hE hR Rt
  subst hE
  exact k_L_typed_b0 X hR Rt h
theorem jm_L_act : jMs yL_act cL_act 5 (some .int) 2 := ⟨jw_1186, jw_21, jw_1187, ⟨by decide +kernel, by decide +kernel⟩, by decide +kernel⟩
def w_L_act_b120 (κ : Nat → Nat) (w : va_W) (s0 : Int32) (P : Int32 → va_W → Prop) : Prop :=
    P s0 w
set_option maxRecDepth 100000 in
set_option maxHeartbeats 4000000 in
theorem k_L_act_b120 {Γ : jG} (X : jX Γ cL_act 5 RL) (hR : jgR Γ = ({ frames := 12, cells := 59, slots := 11780, locals := 280 } : Room)) {P : Int32 → va_W → Prop} (Rt : jRt Γ cL_act 5 59 11780 (some .int) (jPi P)) {w : va_W} {s0 : Int32} (h : w_L_act_b120 (jgE Γ).2.2.2 w s0 P) : J Γ 5 w 1 6 120 [] [.int s0] := by
  unfold w_L_act_b120 at h
  exact Rt.i dL_act_120 ⟨_, rfl, h⟩ (by first | decide | omega) (by first | decide | omega)
def w_L_act_b180 (κ : Nat → Nat) (w : va_W) (s0 : Int32) (P : Int32 → va_W → Prop) : Prop :=
    P s0 w
set_option maxRecDepth 100000 in
set_option maxHeartbeats 4000000 in
theorem k_L_act_b180 {Γ : jG} (X : jX Γ cL_act 5 RL) (hR : jgR Γ = ({ frames := 12, cells := 59, slots := 11780, locals := 280 } : Room)) {P : Int32 → va_W → Prop} (Rt : jRt Γ cL_act 5 59 11780 (some .int) (jPi P)) {w : va_W} {s0 : Int32} (h : w_L_act_b180 (jgE Γ).2.2.2 w s0 P) : J Γ 5 w 1 6 180 [] [.int s0] := by
  unfold w_L_act_b180 at h
  exact Rt.i dL_act_180 ⟨_, rfl, h⟩ (by first | decide | omega) (by first | decide | omega)
def w_L_act_b237 (κ : Nat → Nat) (w : va_W) (s0 : Int32) (P : Int32 → va_W → Prop) : Prop :=
    P s0 w
set_option maxRecDepth 100000 in
set_option maxHeartbeats 4000000 in
theorem k_L_act_b237 {Γ : jG} (X : jX Γ cL_act 5 RL) (hR : jgR Γ = ({ frames := 12, cells := 59, slots := 11780, locals := 280 } : Room)) {P : Int32 → va_W → Prop} (Rt : jRt Γ cL_act 5 59 11780 (some .int) (jPi P)) {w : va_W} {s0 : Int32} (h : w_L_act_b237 (jgE Γ).2.2.2 w s0 P) : J Γ 5 w 1 6 237 [] [.int s0] := by
  unfold w_L_act_b237 at h
  exact Rt.i dL_act_237 ⟨_, rfl, h⟩ (by first | decide | omega) (by first | decide | omega)
def w_L_act_b0 (κ : Nat → Nat) (w : va_W) (a0 : Nat) (x1 : Int32) (P : Int32 → va_W → Prop) : Prop :=
    (jRc w a0 11 ∧ w_X8_writtenTotal κ w a0 (fun v1 w1 => (¬ (v1 + 2) = 0 ∧ (if (x1 &&& 15) = 0 then (if (((jshr x1 4) &&& 65535) &&& 64) = 0 then w_L_addHill κ w1 a0 (fun v4 w4 => w_L_act_b120 κ w4 v4 P) else w_L_repair κ w1 a0 (jrem (jshr ((jshr x1 4) &&& 65535) 2) (v1 + 2)) (fun v3 w3 => w_L_act_b120 κ w3 v3 P)) else (if (x1 &&& 15) = 1 then w_L_collect κ w1 a0 (jrem ((jshr x1 4) &&& 65535) 3) (jrem (jshr ((jshr x1 4) &&& 65535) 3) 101) (fun v5 w5 => P v5 w5) else (if (x1 &&& 15) = 2 then w_L_collect κ w1 a0 (jrem ((jshr x1 4) &&& 65535) 3) (jrem (jshr ((jshr x1 4) &&& 65535) 3) 101) (fun v6 w6 => P v6 w6) else (if (x1 &&& 15) = 3 then w_L_collect κ w1 a0 (jrem ((jshr x1 4) &&& 65535) 3) (jrem (jshr ((jshr x1 4) &&& 65535) 3) 101) (fun v7 w7 => P v7 w7) else (if (x1 &&& 15) = 4 then w_L_writeBlock κ w1 a0 (jrem ((jshr x1 4) &&& 65535) 3) (fun v8 w8 => P v8 w8) else (if (x1 &&& 15) = 5 then w_L_writeBlock κ w1 a0 (jrem ((jshr x1 4) &&& 65535) 3) (fun v9 w9 => P v9 w9) else (if (x1 &&& 15) = 6 then w_L_writeBlock κ w1 a0 (jrem ((jshr x1 4) &&& 65535) 3) (fun v10 w10 => P v10 w10) else (if (x1 &&& 15) = 7 then w_L_writeBlock κ w1 a0 (jrem ((jshr x1 4) &&& 65535) 3) (fun v11 w11 => P v11 w11) else (if (x1 &&& 15) = 8 then w_L_follow κ w1 a0 (jrem ((jshr x1 4) &&& 65535) 3) (jrem (jshr ((jshr x1 4) &&& 65535) 2) (v1 + 2)) (fun v12 w12 => P v12 w12) else (if (x1 &&& 15) = 9 then w_L_follow κ w1 a0 (jrem ((jshr x1 4) &&& 65535) 3) (jrem (jshr ((jshr x1 4) &&& 65535) 2) (v1 + 2)) (fun v13 w13 => P v13 w13) else (if (x1 &&& 15) = 10 then (if (((jshr x1 4) &&& 65535) &&& 96) = 0 then w_L_melt κ w1 a0 (jrem (jshr ((jshr x1 4) &&& 65535) 2) (v1 + 2)) (fun v15 w15 => w_L_act_b180 κ w15 v15 P) else w_L_replaceFlake κ w1 a0 (jrem (jshr ((jshr x1 4) &&& 65535) 2) (v1 + 2)) (jrem (jshr ((jshr x1 4) &&& 65535) 5) 3) (jrem (jshr ((jshr x1 4) &&& 65535) 4) 100) (fun v14 w14 => w_L_act_b180 κ w14 v14 P)) else (if (x1 &&& 15) = 11 then w_L_repair κ w1 a0 (jrem (jshr ((jshr x1 4) &&& 65535) 2) (v1 + 2)) (fun v16 w16 => P v16 w16) else (if (x1 &&& 15) = 12 then (vp_in (jrem ((jshr x1 4) &&& 65535) 20) 20 ∧ w_L_typed κ w1 a0 (7 + Int32.toNatClampNeg (jrem ((jshr x1 4) &&& 65535) 20)) (fun r17 w17 => w_L_runScript κ w17 r17 (fun v18 w18 => P v18 w18))) else (if (x1 &&& 15) = 13 then (vp_in (jrem ((jshr x1 4) &&& 65535) 20) 20 ∧ w_L_typed κ w1 a0 (7 + Int32.toNatClampNeg (jrem ((jshr x1 4) &&& 65535) 20)) (fun r19 w19 => w_L_runScript κ w19 r19 (fun v20 w20 => P v20 w20))) else (if (x1 &&& 15) = 14 then (vp_in (jrem ((jshr x1 4) &&& 65535) 20) 20 ∧ w_L_typed κ w1 a0 (7 + Int32.toNatClampNeg (jrem ((jshr x1 4) &&& 65535) 20)) (fun r21 w21 => w_L_runScript κ w21 r21 (fun v22 w22 => P v22 w22))) else (if (((jshr x1 4) &&& 65535) &&& 3) = 0 then (jRc w1 a0 11 ∧ w_X8_save κ w1 a0 (fun v25 w25 => w_L_act_b237 κ w25 v25 P)) else (if (((jshr x1 4) &&& 65535) &&& 3) = 1 then w_L_restore κ w1 a0 (fun v24 w24 => w_L_act_b237 κ w24 v24 P) else w_L_undo κ w1 a0 (fun v23 w23 => w_L_act_b237 κ w23 v23 P)))))))))))))))))))))
set_option maxRecDepth 100000 in
set_option maxHeartbeats 4000000 in
theorem k_L_act_b0 {Γ : jG} (X : jX Γ cL_act 5 RL) (hR : jgR Γ = ({ frames := 12, cells := 59, slots := 11780, locals := 280 } : Room)) {P : Int32 → va_W → Prop} (Rt : jRt Γ cL_act 5 59 11780 (some .int) (jPi P)) {w : va_W} {a0 : Nat} {x1 : Int32} (h : w_L_act_b0 (jgE Γ).2.2.2 w a0 x1 P) : J Γ 5 w 0 0 0 [(0, .ref a0), (1, .int x1)] [] := by
  unfold w_L_act_b0 at h
  refine j_iload_n X dL_act_0 1 rfl ?_
  refine j_iconst X 4 dL_act_1 (by decide) ?_
  refine j_ishr X dL_act_2 ?_
  refine j_ldc X dL_act_3 jw_374 ?_
  refine j_iand X dL_act_5 ?_
  refine j_istore_n X [(2, .int ((jshr x1 4) &&& 65535)), (0, .ref a0), (1, .int x1)] dL_act_6 (by decide) rfl ?_
  refine j_iload_n X dL_act_7 0 rfl ?_
  refine j_iconst X 3 dL_act_8 (by decide) ?_
  refine j_irem X dL_act_9 (by decide) ?_
  refine j_istore_n X [(3, .int (jrem ((jshr x1 4) &&& 65535) 3)), (2, .int ((jshr x1 4) &&& 65535)), (0, .ref a0), (1, .int x1)] dL_act_10 (by decide) rfl ?_
  refine j_iload_n X dL_act_11 1 rfl ?_
  refine j_iconst X 2 dL_act_12 (by decide) ?_
  refine j_ishr X dL_act_13 ?_
  refine j_aload_n X dL_act_14 2 rfl ?_
  obtain ⟨⟨fs1, g1⟩, h⟩ := h
  refine j_callVi X [] [.int (jshr ((jshr x1 4) &&& 65535) 2)] (c_X8_writtenTotal h) (T := TX8) (N := 11) g1 rfl jm_X8_writtenTotal jw_1188 rfl ⟨rfl, rfl⟩ (by rw [hR]; decide) rfl (Nat.le_of_ble_eq_true rfl) dL_act_15 (fun v1 w1 h => ?_)
  refine j_iconst X 2 dL_act_18 (by decide) ?_
  refine j_iadd X dL_act_19 ?_
  refine j_irem X dL_act_20 h.1 ?_
  replace h := h.2
  refine j_istore X [(4, .int (jrem (jshr ((jshr x1 4) &&& 65535) 2) (v1 + 2))), (3, .int (jrem ((jshr x1 4) &&& 65535) 3)), (2, .int ((jshr x1 4) &&& 65535)), (0, .ref a0), (1, .int x1)] dL_act_21 (by decide) rfl ?_
  refine j_iload_n X dL_act_23 4 rfl ?_
  refine j_bipush X 15 dL_act_24 (by decide) ?_
  refine j_iand X dL_act_26 ?_
  by_cases c2_0 : (x1 &&& 15) = 0
  · replace h := jif_t c2_0 h
    refine j_tableIn X 100 dL_act_27 (by rw [c2_0]; decide) (by rw [c2_0]; decide) (by rw [c2_0]; rfl) (by decide) ?_
    refine j_iload_n X dL_act_100 2 rfl ?_
    refine j_bipush X 64 dL_act_101 (by decide) ?_
    refine j_iand X dL_act_103 ?_
    refine j_if_ne X 114 dL_act_104 (by decide) (fun c => ?_) (fun c => ?_)
    · replace h := jif_f c h
      refine j_aload_n X dL_act_114 3 rfl ?_
      refine j_iload X dL_act_115 0 rfl ?_
      refine j_callWi X [.ref a0, .int (jrem (jshr ((jshr x1 4) &&& 65535) 2) (v1 + 2))] [] (c_L_repair h) jmw_L_repair jw_1192 rfl ⟨rfl, rfl⟩ (by rw [hR]; decide) rfl (Nat.le_of_ble_eq_true rfl) dL_act_117 (fun v3 w3 h => ?_)
      refine j_sub [] rfl ?_
      refine j_widen (k := 1) (n := 6) (by decide) (by decide) ?_
      exact k_L_act_b120 X hR Rt h
    · replace h := jif_t c h
      refine j_aload_n X dL_act_107 3 rfl ?_
      refine j_callWi X [.ref a0] [] (c_L_addHill h) jmw_L_addHill jw_375 rfl ⟨rfl, rfl⟩ (by rw [hR]; decide) rfl (Nat.le_of_ble_eq_true rfl) dL_act_108 (fun v4 w4 h => ?_)
      refine j_goto X 120 dL_act_111 (by decide) ?_
      refine j_sub [] rfl ?_
      refine j_widen (k := 1) (n := 6) (by decide) (by decide) ?_
      exact k_L_act_b120 X hR Rt h
  replace h := jif_f c2_0 h
  by_cases c2_1 : (x1 &&& 15) = 1
  · replace h := jif_t c2_1 h
    refine j_tableIn X 121 dL_act_27 (by rw [c2_1]; decide) (by rw [c2_1]; decide) (by rw [c2_1]; rfl) (by decide) ?_
    refine j_aload_n X dL_act_121 3 rfl ?_
    refine j_iload_n X dL_act_122 1 rfl ?_
    refine j_iload_n X dL_act_123 2 rfl ?_
    refine j_iconst X 3 dL_act_124 (by decide) ?_
    refine j_ishr X dL_act_125 ?_
    refine j_bipush X 101 dL_act_126 (by decide) ?_
    refine j_irem X dL_act_128 (by decide) ?_
    refine j_callWi X [.ref a0, .int (jrem ((jshr x1 4) &&& 65535) 3), .int (jrem (jshr ((jshr x1 4) &&& 65535) 3) 101)] [] (c_L_collect h) jmw_L_collect jw_559 rfl ⟨rfl, rfl⟩ (by rw [hR]; decide) rfl (Nat.le_of_ble_eq_true rfl) dL_act_129 (fun v5 w5 h => ?_)
    exact Rt.i dL_act_132 ⟨_, rfl, h⟩ (by first | decide | omega) (by first | decide | omega)
  replace h := jif_f c2_1 h
  by_cases c2_2 : (x1 &&& 15) = 2
  · replace h := jif_t c2_2 h
    refine j_tableIn X 121 dL_act_27 (by rw [c2_2]; decide) (by rw [c2_2]; decide) (by rw [c2_2]; rfl) (by decide) ?_
    refine j_aload_n X dL_act_121 3 rfl ?_
    refine j_iload_n X dL_act_122 1 rfl ?_
    refine j_iload_n X dL_act_123 2 rfl ?_
    refine j_iconst X 3 dL_act_124 (by decide) ?_
    refine j_ishr X dL_act_125 ?_
    refine j_bipush X 101 dL_act_126 (by decide) ?_
    refine j_irem X dL_act_128 (by decide) ?_
    refine j_callWi X [.ref a0, .int (jrem ((jshr x1 4) &&& 65535) 3), .int (jrem (jshr ((jshr x1 4) &&& 65535) 3) 101)] [] (c_L_collect h) jmw_L_collect jw_559 rfl ⟨rfl, rfl⟩ (by rw [hR]; decide) rfl (Nat.le_of_ble_eq_true rfl) dL_act_129 (fun v6 w6 h => ?_)
    exact Rt.i dL_act_132 ⟨_, rfl, h⟩ (by first | decide | omega) (by first | decide | omega)
  replace h := jif_f c2_2 h
  by_cases c2_3 : (x1 &&& 15) = 3
  · replace h := jif_t c2_3 h
    refine j_tableIn X 121 dL_act_27 (by rw [c2_3]; decide) (by rw [c2_3]; decide) (by rw [c2_3]; rfl) (by decide) ?_
    refine j_aload_n X dL_act_121 3 rfl ?_
    refine j_iload_n X dL_act_122 1 rfl ?_
    refine j_iload_n X dL_act_123 2 rfl ?_
    refine j_iconst X 3 dL_act_124 (by decide) ?_
    refine j_ishr X dL_act_125 ?_
    refine j_bipush X 101 dL_act_126 (by decide) ?_
    refine j_irem X dL_act_128 (by decide) ?_
    refine j_callWi X [.ref a0, .int (jrem ((jshr x1 4) &&& 65535) 3), .int (jrem (jshr ((jshr x1 4) &&& 65535) 3) 101)] [] (c_L_collect h) jmw_L_collect jw_559 rfl ⟨rfl, rfl⟩ (by rw [hR]; decide) rfl (Nat.le_of_ble_eq_true rfl) dL_act_129 (fun v7 w7 h => ?_)
    exact Rt.i dL_act_132 ⟨_, rfl, h⟩ (by first | decide | omega) (by first | decide | omega)
  replace h := jif_f c2_3 h
  by_cases c2_4 : (x1 &&& 15) = 4
  · replace h := jif_t c2_4 h
    refine j_tableIn X 133 dL_act_27 (by rw [c2_4]; decide) (by rw [c2_4]; decide) (by rw [c2_4]; rfl) (by decide) ?_
    refine j_aload_n X dL_act_133 3 rfl ?_
    refine j_iload_n X dL_act_134 1 rfl ?_
    refine j_callWi X [.ref a0, .int (jrem ((jshr x1 4) &&& 65535) 3)] [] (c_L_writeBlock h) jmw_L_writeBlock jw_594 rfl ⟨rfl, rfl⟩ (by rw [hR]; decide) rfl (Nat.le_of_ble_eq_true rfl) dL_act_135 (fun v8 w8 h => ?_)
    exact Rt.i dL_act_138 ⟨_, rfl, h⟩ (by first | decide | omega) (by first | decide | omega)
  replace h := jif_f c2_4 h
  by_cases c2_5 : (x1 &&& 15) = 5
  · replace h := jif_t c2_5 h
    refine j_tableIn X 133 dL_act_27 (by rw [c2_5]; decide) (by rw [c2_5]; decide) (by rw [c2_5]; rfl) (by decide) ?_
    refine j_aload_n X dL_act_133 3 rfl ?_
    refine j_iload_n X dL_act_134 1 rfl ?_
    refine j_callWi X [.ref a0, .int (jrem ((jshr x1 4) &&& 65535) 3)] [] (c_L_writeBlock h) jmw_L_writeBlock jw_594 rfl ⟨rfl, rfl⟩ (by rw [hR]; decide) rfl (Nat.le_of_ble_eq_true rfl) dL_act_135 (fun v9 w9 h => ?_)
    exact Rt.i dL_act_138 ⟨_, rfl, h⟩ (by first | decide | omega) (by first | decide | omega)
  replace h := jif_f c2_5 h
  by_cases c2_6 : (x1 &&& 15) = 6
  · replace h := jif_t c2_6 h
    refine j_tableIn X 133 dL_act_27 (by rw [c2_6]; decide) (by rw [c2_6]; decide) (by rw [c2_6]; rfl) (by decide) ?_
    refine j_aload_n X dL_act_133 3 rfl ?_
    refine j_iload_n X dL_act_134 1 rfl ?_
    refine j_callWi X [.ref a0, .int (jrem ((jshr x1 4) &&& 65535) 3)] [] (c_L_writeBlock h) jmw_L_writeBlock jw_594 rfl ⟨rfl, rfl⟩ (by rw [hR]; decide) rfl (Nat.le_of_ble_eq_true rfl) dL_act_135 (fun v10 w10 h => ?_)
    exact Rt.i dL_act_138 ⟨_, rfl, h⟩ (by first | decide | omega) (by first | decide | omega)
  replace h := jif_f c2_6 h
  by_cases c2_7 : (x1 &&& 15) = 7
  · replace h := jif_t c2_7 h
    refine j_tableIn X 133 dL_act_27 (by rw [c2_7]; decide) (by rw [c2_7]; decide) (by rw [c2_7]; rfl) (by decide) ?_
    refine j_aload_n X dL_act_133 3 rfl ?_
    refine j_iload_n X dL_act_134 1 rfl ?_
    refine j_callWi X [.ref a0, .int (jrem ((jshr x1 4) &&& 65535) 3)] [] (c_L_writeBlock h) jmw_L_writeBlock jw_594 rfl ⟨rfl, rfl⟩ (by rw [hR]; decide) rfl (Nat.le_of_ble_eq_true rfl) dL_act_135 (fun v11 w11 h => ?_)
    exact Rt.i dL_act_138 ⟨_, rfl, h⟩ (by first | decide | omega) (by first | decide | omega)
  replace h := jif_f c2_7 h
  by_cases c2_8 : (x1 &&& 15) = 8
  · replace h := jif_t c2_8 h
    refine j_tableIn X 139 dL_act_27 (by rw [c2_8]; decide) (by rw [c2_8]; decide) (by rw [c2_8]; rfl) (by decide) ?_
    refine j_aload_n X dL_act_139 3 rfl ?_
    refine j_iload_n X dL_act_140 1 rfl ?_
    refine j_iload X dL_act_141 0 rfl ?_
    refine j_callWi X [.ref a0, .int (jrem ((jshr x1 4) &&& 65535) 3), .int (jrem (jshr ((jshr x1 4) &&& 65535) 2) (v1 + 2))] [] (c_L_follow h) jmw_L_follow jw_650 rfl ⟨rfl, rfl⟩ (by rw [hR]; decide) rfl (Nat.le_of_ble_eq_true rfl) dL_act_143 (fun v12 w12 h => ?_)
    exact Rt.i dL_act_146 ⟨_, rfl, h⟩ (by first | decide | omega) (by first | decide | omega)
  replace h := jif_f c2_8 h
  by_cases c2_9 : (x1 &&& 15) = 9
  · replace h := jif_t c2_9 h
    refine j_tableIn X 139 dL_act_27 (by rw [c2_9]; decide) (by rw [c2_9]; decide) (by rw [c2_9]; rfl) (by decide) ?_
    refine j_aload_n X dL_act_139 3 rfl ?_
    refine j_iload_n X dL_act_140 1 rfl ?_
    refine j_iload X dL_act_141 0 rfl ?_
    refine j_callWi X [.ref a0, .int (jrem ((jshr x1 4) &&& 65535) 3), .int (jrem (jshr ((jshr x1 4) &&& 65535) 2) (v1 + 2))] [] (c_L_follow h) jmw_L_follow jw_650 rfl ⟨rfl, rfl⟩ (by rw [hR]; decide) rfl (Nat.le_of_ble_eq_true rfl) dL_act_143 (fun v13 w13 h => ?_)
    exact Rt.i dL_act_146 ⟨_, rfl, h⟩ (by first | decide | omega) (by first | decide | omega)
  replace h := jif_f c2_9 h
  by_cases c2_10 : (x1 &&& 15) = 10
  · replace h := jif_t c2_10 h
    refine j_tableIn X 147 dL_act_27 (by rw [c2_10]; decide) (by rw [c2_10]; decide) (by rw [c2_10]; rfl) (by decide) ?_
    refine j_iload_n X dL_act_147 2 rfl ?_
    refine j_bipush X 96 dL_act_148 (by decide) ?_
    refine j_iand X dL_act_150 ?_
    refine j_if_ne X 163 dL_act_151 (by decide) (fun c => ?_) (fun c => ?_)
    · replace h := jif_f c h
      refine j_aload_n X dL_act_163 3 rfl ?_
      refine j_iload X dL_act_164 0 rfl ?_
      refine j_iload_n X dL_act_166 2 rfl ?_
      refine j_iconst X 5 dL_act_167 (by decide) ?_
      refine j_ishr X dL_act_168 ?_
      refine j_iconst X 3 dL_act_169 (by decide) ?_
      refine j_irem X dL_act_170 (by decide) ?_
      refine j_iload_n X dL_act_171 2 rfl ?_
      refine j_iconst X 4 dL_act_172 (by decide) ?_
      refine j_ishr X dL_act_173 ?_
      refine j_bipush X 100 dL_act_174 (by decide) ?_
      refine j_irem X dL_act_176 (by decide) ?_
      refine j_callWi X [.ref a0, .int (jrem (jshr ((jshr x1 4) &&& 65535) 2) (v1 + 2)), .int (jrem (jshr ((jshr x1 4) &&& 65535) 5) 3), .int (jrem (jshr ((jshr x1 4) &&& 65535) 4) 100)] [] (c_L_replaceFlake h) jmw_L_replaceFlake jw_671 rfl ⟨rfl, rfl⟩ (by rw [hR]; decide) rfl (Nat.le_of_ble_eq_true rfl) dL_act_177 (fun v14 w14 h => ?_)
      refine j_sub [] rfl ?_
      refine j_widen (k := 1) (n := 6) (by decide) (by decide) ?_
      exact k_L_act_b180 X hR Rt h
    · replace h := jif_t c h
      refine j_aload_n X dL_act_154 3 rfl ?_
      refine j_iload X dL_act_155 0 rfl ?_
      refine j_callWi X [.ref a0, .int (jrem (jshr ((jshr x1 4) &&& 65535) 2) (v1 + 2))] [] (c_L_melt h) jmw_L_melt jw_1201 rfl ⟨rfl, rfl⟩ (by rw [hR]; decide) rfl (Nat.le_of_ble_eq_true rfl) dL_act_157 (fun v15 w15 h => ?_)
      refine j_goto X 180 dL_act_160 (by decide) ?_
      refine j_sub [] rfl ?_
      refine j_widen (k := 1) (n := 6) (by decide) (by decide) ?_
      exact k_L_act_b180 X hR Rt h
  replace h := jif_f c2_10 h
  by_cases c2_11 : (x1 &&& 15) = 11
  · replace h := jif_t c2_11 h
    refine j_tableIn X 181 dL_act_27 (by rw [c2_11]; decide) (by rw [c2_11]; decide) (by rw [c2_11]; rfl) (by decide) ?_
    refine j_aload_n X dL_act_181 3 rfl ?_
    refine j_iload X dL_act_182 0 rfl ?_
    refine j_callWi X [.ref a0, .int (jrem (jshr ((jshr x1 4) &&& 65535) 2) (v1 + 2))] [] (c_L_repair h) jmw_L_repair jw_1192 rfl ⟨rfl, rfl⟩ (by rw [hR]; decide) rfl (Nat.le_of_ble_eq_true rfl) dL_act_184 (fun v16 w16 h => ?_)
    exact Rt.i dL_act_187 ⟨_, rfl, h⟩ (by first | decide | omega) (by first | decide | omega)
  replace h := jif_f c2_11 h
  by_cases c2_12 : (x1 &&& 15) = 12
  · replace h := jif_t c2_12 h
    refine j_tableIn X 188 dL_act_27 (by rw [c2_12]; decide) (by rw [c2_12]; decide) (by rw [c2_12]; rfl) (by decide) ?_
    refine j_aload_n X dL_act_188 3 rfl ?_
    refine j_getsR X jw_1210 dL_act_189 ?_
    refine j_iload_n X dL_act_192 2 rfl ?_
    refine j_getsR X jw_1210 dL_act_193 ?_
    refine j_rlen X dL_act_196 ?_
    refine j_irem X dL_act_197 (by decide) ?_
    refine j_rald X h.1 dL_act_198 ?_
    replace h := h.2
    refine j_callSr X [.ref a0, .ref ((jgE Γ).2.2.2 (10 + (7 + Int32.toNatClampNeg (jrem ((jshr x1 4) &&& 65535) 20))))] [] (c_L_typed h) jm_L_typed jw_1150 rfl ⟨rfl, rfl⟩ (by rw [hR]; decide) rfl (Nat.le_of_ble_eq_true rfl) dL_act_199 (fun r17 w17 h => ?_)
    refine j_callWi X [.ref r17] [] (c_L_runScript h) jmw_L_runScript jw_698 rfl ⟨rfl, rfl⟩ (by rw [hR]; decide) rfl (Nat.le_of_ble_eq_true rfl) dL_act_202 (fun v18 w18 h => ?_)
    exact Rt.i dL_act_205 ⟨_, rfl, h⟩ (by first | decide | omega) (by first | decide | omega)
  replace h := jif_f c2_12 h
  by_cases c2_13 : (x1 &&& 15) = 13
  · replace h := jif_t c2_13 h
    refine j_tableIn X 188 dL_act_27 (by rw [c2_13]; decide) (by rw [c2_13]; decide) (by rw [c2_13]; rfl) (by decide) ?_
    refine j_aload_n X dL_act_188 3 rfl ?_
    refine j_getsR X jw_1210 dL_act_189 ?_
    refine j_iload_n X dL_act_192 2 rfl ?_
    refine j_getsR X jw_1210 dL_act_193 ?_
    refine j_rlen X dL_act_196 ?_
    refine j_irem X dL_act_197 (by decide) ?_
    refine j_rald X h.1 dL_act_198 ?_
    replace h := h.2
    refine j_callSr X [.ref a0, .ref ((jgE Γ).2.2.2 (10 + (7 + Int32.toNatClampNeg (jrem ((jshr x1 4) &&& 65535) 20))))] [] (c_L_typed h) jm_L_typed jw_1150 rfl ⟨rfl, rfl⟩ (by rw [hR]; decide) rfl (Nat.le_of_ble_eq_true rfl) dL_act_199 (fun r19 w19 h => ?_)
    refine j_callWi X [.ref r19] [] (c_L_runScript h) jmw_L_runScript jw_698 rfl ⟨rfl, rfl⟩ (by rw [hR]; decide) rfl (Nat.le_of_ble_eq_true rfl) dL_act_202 (fun v20 w20 h => ?_)
    exact Rt.i dL_act_205 ⟨_, rfl, h⟩ (by first | decide | omega) (by first | decide | omega)
  replace h := jif_f c2_13 h
  by_cases c2_14 : (x1 &&& 15) = 14
  · replace h := jif_t c2_14 h
    refine j_tableIn X 188 dL_act_27 (by rw [c2_14]; decide) (by rw [c2_14]; decide) (by rw [c2_14]; rfl) (by decide) ?_
    refine j_aload_n X dL_act_188 3 rfl ?_
    refine j_getsR X jw_1210 dL_act_189 ?_
    refine j_iload_n X dL_act_192 2 rfl ?_
    refine j_getsR X jw_1210 dL_act_193 ?_
    refine j_rlen X dL_act_196 ?_
    refine j_irem X dL_act_197 (by decide) ?_
    refine j_rald X h.1 dL_act_198 ?_
    replace h := h.2
    refine j_callSr X [.ref a0, .ref ((jgE Γ).2.2.2 (10 + (7 + Int32.toNatClampNeg (jrem ((jshr x1 4) &&& 65535) 20))))] [] (c_L_typed h) jm_L_typed jw_1150 rfl ⟨rfl, rfl⟩ (by rw [hR]; decide) rfl (Nat.le_of_ble_eq_true rfl) dL_act_199 (fun r21 w21 h => ?_)
    refine j_callWi X [.ref r21] [] (c_L_runScript h) jmw_L_runScript jw_698 rfl ⟨rfl, rfl⟩ (by rw [hR]; decide) rfl (Nat.le_of_ble_eq_true rfl) dL_act_202 (fun v22 w22 h => ?_)
    exact Rt.i dL_act_205 ⟨_, rfl, h⟩ (by first | decide | omega) (by first | decide | omega)
  replace h := jif_f c2_14 h
  refine j_tableOut X 206 dL_act_27 (jtabOut (n := 14) (by decide) (fun k hk => by
    rcases (show k = 0 ∨ k = 1 ∨ k = 2 ∨ k = 3 ∨ k = 4 ∨ k = 5 ∨ k = 6 ∨ k = 7 ∨ k = 8 ∨ k = 9 ∨ k = 10 ∨ k = 11 ∨ k = 12 ∨ k = 13 ∨ k = 14 by omega) with rfl | rfl | rfl | rfl | rfl | rfl | rfl | rfl | rfl | rfl | rfl | rfl | rfl | rfl | rfl
    · exact c2_0
    · exact c2_1
    · exact c2_2
    · exact c2_3
    · exact c2_4
    · exact c2_5
    · exact c2_6
    · exact c2_7
    · exact c2_8
    · exact c2_9
    · exact c2_10
    · exact c2_11
    · exact c2_12
    · exact c2_13
    · exact c2_14)) (by decide) ?_
  refine j_iload_n X dL_act_206 2 rfl ?_
  refine j_iconst X 3 dL_act_207 (by decide) ?_
  refine j_iand X dL_act_208 ?_
  refine j_if_ne X 219 dL_act_209 (by decide) (fun c => ?_) (fun c => ?_)
  · replace h := jif_f c h
    refine j_iload_n X dL_act_219 2 rfl ?_
    refine j_iconst X 3 dL_act_220 (by decide) ?_
    refine j_iand X dL_act_221 ?_
    refine j_iconst X 1 dL_act_222 (by decide) ?_
    refine j_icmp_ne X 233 dL_act_223 (by decide) (fun c => ?_) (fun c => ?_)
    · replace h := jif_f c h
      refine j_aload_n X dL_act_233 3 rfl ?_
      refine j_callWi X [.ref a0] [] (c_L_undo h) jmw_L_undo jw_1126 rfl ⟨rfl, rfl⟩ (by rw [hR]; decide) rfl (Nat.le_of_ble_eq_true rfl) dL_act_234 (fun v23 w23 h => ?_)
      refine j_sub [] rfl ?_
      refine j_widen (k := 1) (n := 6) (by decide) (by decide) ?_
      exact k_L_act_b237 X hR Rt h
    · replace h := jif_t c h
      refine j_aload_n X dL_act_226 3 rfl ?_
      refine j_callWi X [.ref a0] [] (c_L_restore h) jmw_L_restore jw_1138 rfl ⟨rfl, rfl⟩ (by rw [hR]; decide) rfl (Nat.le_of_ble_eq_true rfl) dL_act_227 (fun v24 w24 h => ?_)
      refine j_goto X 237 dL_act_230 (by decide) ?_
      refine j_sub [] rfl ?_
      refine j_widen (k := 1) (n := 6) (by decide) (by decide) ?_
      exact k_L_act_b237 X hR Rt h
  · replace h := jif_t c h
    refine j_aload_n X dL_act_212 3 rfl ?_
    obtain ⟨⟨fs25, g25⟩, h⟩ := h
    refine j_callVi X [] [] (c_X8_save h) (T := TX8) (N := 11) g25 rfl jm_X8_save jw_336 rfl ⟨rfl, rfl⟩ (by rw [hR]; decide) rfl (Nat.le_of_ble_eq_true rfl) dL_act_213 (fun v25 w25 h => ?_)
    refine j_goto X 237 dL_act_216 (by decide) ?_
    refine j_sub [] rfl ?_
    refine j_widen (k := 1) (n := 6) (by decide) (by decide) ?_
    exact k_L_act_b237 X hR Rt h
def w_L_act (κ : Nat → Nat) (w : va_W) (a0 : Nat) (x1 : Int32) (P : Int32 → va_W → Prop) : Prop := w_L_act_b0 κ w a0 x1 P
theorem c_L_act {E : jE} {w : va_W} {a0 : Nat} {x1 : Int32} {P : Int32 → va_W → Prop} (h : w_L_act E.2.2.2 w a0 x1 P) : jC E yL_act cL_act 5 (some .int) ({ frames := 12, cells := 59, slots := 11780, locals := 280 } : Room) [.ref a0, .int x1] w 59 11780 (jPi P) := by
  refine jC_of (by decide) (Nat.le_of_ble_eq_true rfl) ?_
  intro Γ X hE hR Rt
  subst hE
  exact k_L_act_b0 X hR Rt h
theorem jm_L_blockAt : jMs yL_blockAt cL_blockAt 4 (some .int) 2 := ⟨jw_1255, jw_21, jw_1256, ⟨by decide +kernel, by decide +kernel⟩, by decide +kernel⟩
def w_L_blockAt_b30 (κ : Nat → Nat) (w : va_W) (a0 : Nat) (x3 : Int32) (s0 : Int32) (s1 : Int32) (K4 : va_W → Nat → Int32 → Int32 → Prop) (P : Int32 → va_W → Prop) : Prop :=
    K4 w a0 (s1 - s0) (x3 + 1)
set_option maxRecDepth 100000 in
set_option maxHeartbeats 4000000 in
theorem k_L_blockAt_b30 {Γ : jG} (X : jX Γ cL_blockAt 4 RL) (hR : jgR Γ = ({ frames := 3, cells := 0, slots := 0, locals := 64 } : Room)) {P : Int32 → va_W → Prop} (Rt : jRt Γ cL_blockAt 4 0 0 (some .int) (jPi P)) {K4 : va_W → Nat → Int32 → Int32 → Prop} (hK4 : ∀ (w : va_W) (a0 : Nat) (x2 : Int32) (x3 : Int32), K4 w a0 x2 x3 → J Γ 4 w 0 0 4 [(0, .ref a0), (2, .int x2), (3, .int x3)] []) {w : va_W} {a0 : Nat} {x3 : Int32} {s0 : Int32} {s1 : Int32} (h : w_L_blockAt_b30 (jgE Γ).2.2.2 w a0 x3 s0 s1 K4 P) : J Γ 4 w 0 0 30 [(0, .ref a0), (3, .int x3)] [.int s0, .int s1] := by
  unfold w_L_blockAt_b30 at h
  refine j_isub X dL_blockAt_30 ?_
  refine j_istore_n X [(2, .int (s1 - s0)), (0, .ref a0), (3, .int x3)] dL_blockAt_31 (by decide) rfl ?_
  refine j_iinc X (x3 + 1) [(3, .int (x3 + 1)), (2, .int (s1 - s0)), (0, .ref a0)] dL_blockAt_32 2 rfl rfl (by decide) rfl ?_
  refine j_goto X 4 dL_blockAt_35 (by decide) ?_
  refine j_sub [2, 1, 0] rfl ?_
  exact hK4 _ _ _ _ h
def w_L_blockAt_b16 (κ : Nat → Nat) (w : va_W) (a0 : Nat) (x2 : Int32) (x3 : Int32) (K4 : va_W → Nat → Int32 → Int32 → Prop) (P : Int32 → va_W → Prop) : Prop :=
    (jRc w a0 11 ∧ w_X8_exists κ w a0 x3 (fun v1 w1 => (if v1 = 0 then w_L_blockAt_b30 κ w1 a0 x3 0 x2 K4 P else w_L_blockAt_b30 κ w1 a0 x3 1 x2 K4 P)))
set_option maxRecDepth 100000 in
set_option maxHeartbeats 4000000 in
theorem k_L_blockAt_b16 {Γ : jG} (X : jX Γ cL_blockAt 4 RL) (hR : jgR Γ = ({ frames := 3, cells := 0, slots := 0, locals := 64 } : Room)) {P : Int32 → va_W → Prop} (Rt : jRt Γ cL_blockAt 4 0 0 (some .int) (jPi P)) {K4 : va_W → Nat → Int32 → Int32 → Prop} (hK4 : ∀ (w : va_W) (a0 : Nat) (x2 : Int32) (x3 : Int32), K4 w a0 x2 x3 → J Γ 4 w 0 0 4 [(0, .ref a0), (2, .int x2), (3, .int x3)] []) {w : va_W} {a0 : Nat} {x2 : Int32} {x3 : Int32} (h : w_L_blockAt_b16 (jgE Γ).2.2.2 w a0 x2 x3 K4 P) : J Γ 4 w 0 0 16 [(0, .ref a0), (2, .int x2), (3, .int x3)] [] := by
  unfold w_L_blockAt_b16 at h
  refine j_iload_n X dL_blockAt_16 1 rfl ?_
  refine j_aload_n X dL_blockAt_17 0 rfl ?_
  refine j_iload_n X dL_blockAt_18 2 rfl ?_
  obtain ⟨⟨fs1, g1⟩, h⟩ := h
  refine j_callVi X [.int x3] [.int x2] (c_X8_exists h) (T := TX8) (N := 11) g1 rfl jm_X8_exists jw_1257 rfl ⟨rfl, rfl⟩ (by rw [hR]; decide) rfl (Nat.le_of_ble_eq_true rfl) dL_blockAt_19 (fun v1 w1 h => ?_)
  refine j_if_eq X 29 dL_blockAt_22 (by decide) (fun c => ?_) (fun c => ?_)
  · replace h := jif_t c h
    refine j_iconst X 0 dL_blockAt_29 (by decide) ?_
    refine j_sub [0, 2] rfl ?_
    exact k_L_blockAt_b30 X hR Rt hK4 h
  · replace h := jif_f c h
    refine j_iconst X 1 dL_blockAt_25 (by decide) ?_
    refine j_goto X 30 dL_blockAt_26 (by decide) ?_
    refine j_sub [0, 2] rfl ?_
    exact k_L_blockAt_b30 X hR Rt hK4 h
def w_L_blockAt_b4 : Nat → (κ : Nat → Nat) → (w : va_W) → (a0 : Nat) → (x2 : Int32) → (x3 : Int32) → (P : Int32 → va_W → Prop) → Prop
  | 0, _, _, _, _, _, _ => False
  | n + 1, κ, w, a0, x2, x3, P =>
    (if 0 < x2 then w_L_blockAt_b16 κ w a0 x2 x3 (fun w_ z_a0 z_x2 z_x3 => w_L_blockAt_b4 n κ w_ z_a0 z_x2 z_x3 P) P else (jRc w a0 11 ∧ w_X8_exists κ w a0 x3 (fun v1 w1 => (if v1 = 0 then w_L_blockAt_b16 κ w1 a0 x2 x3 (fun w_ z_a0 z_x2 z_x3 => w_L_blockAt_b4 n κ w_ z_a0 z_x2 z_x3 P) P else P x3 w1))))
set_option maxRecDepth 100000 in
set_option maxHeartbeats 4000000 in
theorem k_L_blockAt_b4 {Γ : jG} (X : jX Γ cL_blockAt 4 RL) (hR : jgR Γ = ({ frames := 3, cells := 0, slots := 0, locals := 64 } : Room)) {P : Int32 → va_W → Prop} (Rt : jRt Γ cL_blockAt 4 0 0 (some .int) (jPi P)) : ∀ (n : Nat) {w : va_W} {a0 : Nat} {x2 : Int32} {x3 : Int32} (h : w_L_blockAt_b4 n (jgE Γ).2.2.2 w a0 x2 x3 P), J Γ 4 w 0 0 4 [(0, .ref a0), (2, .int x2), (3, .int x3)] [] := by
  intro n
  induction n with
  | zero => intro w a0 x2 x3 h; exact False.elim h
  | succ n ih =>
    intro w a0 x2 x3 h
    rw [w_L_blockAt_b4] at h
    refine j_iload_n X dL_blockAt_4 1 rfl ?_
    refine j_if_gt X 16 dL_blockAt_5 (by decide) (fun c => ?_) (fun c => ?_)
    · replace h := jif_t c h
      exact k_L_blockAt_b16 X hR Rt (fun _ _ _ _ h => ih h) h
    · replace h := jif_f c h
      refine j_aload_n X dL_blockAt_8 0 rfl ?_
      refine j_iload_n X dL_blockAt_9 2 rfl ?_
      obtain ⟨⟨fs1, g1⟩, h⟩ := h
      refine j_callVi X [.int x3] [] (c_X8_exists h) (T := TX8) (N := 11) g1 rfl jm_X8_exists jw_1257 rfl ⟨rfl, rfl⟩ (by rw [hR]; decide) rfl (Nat.le_of_ble_eq_true rfl) dL_blockAt_10 (fun v1 w1 h => ?_)
      refine j_if_ne X 38 dL_blockAt_13 (by decide) (fun c => ?_) (fun c => ?_)
      · replace h := jif_f c h
        refine j_iload_n X dL_blockAt_38 2 rfl ?_
        exact Rt.i dL_blockAt_39 ⟨_, rfl, h⟩ (by first | decide | omega) (by first | decide | omega)
      · replace h := jif_t c h
        exact k_L_blockAt_b16 X hR Rt (fun _ _ _ _ h => ih h) h
def w_L_blockAt_b0 (κ : Nat → Nat) (w : va_W) (a0 : Nat) (x1 : Int32) (P : Int32 → va_W → Prop) : Prop :=
    w_L_blockAt_b4 jFu κ w a0 x1 0 P
set_option maxRecDepth 100000 in
set_option maxHeartbeats 4000000 in
theorem k_L_blockAt_b0 {Γ : jG} (X : jX Γ cL_blockAt 4 RL) (hR : jgR Γ = ({ frames := 3, cells := 0, slots := 0, locals := 64 } : Room)) {P : Int32 → va_W → Prop} (Rt : jRt Γ cL_blockAt 4 0 0 (some .int) (jPi P)) {w : va_W} {a0 : Nat} {x1 : Int32} (h : w_L_blockAt_b0 (jgE Γ).2.2.2 w a0 x1 P) : J Γ 4 w 0 0 0 [(0, .ref a0), (1, .int x1)] [] := by
  unfold w_L_blockAt_b0 at h
  refine j_iload_n X dL_blockAt_0 1 rfl ?_
  refine j_istore_n X [(2, .int x1), (0, .ref a0), (1, .int x1)] dL_blockAt_1 (by decide) rfl ?_
  refine j_iconst X 0 dL_blockAt_2 (by decide) ?_
  refine j_istore_n X [(3, .int 0), (2, .int x1), (0, .ref a0), (1, .int x1)] dL_blockAt_3 (by decide) rfl ?_
  refine j_sub [2, 1, 0] rfl ?_
  exact k_L_blockAt_b4 X hR Rt _ h
def w_L_blockAt (κ : Nat → Nat) (w : va_W) (a0 : Nat) (x1 : Int32) (P : Int32 → va_W → Prop) : Prop := w_L_blockAt_b0 κ w a0 x1 P
theorem c_L_blockAt {E : jE} {w : va_W} {a0 : Nat} {x1 : Int32} {P : Int32 → va_W → Prop} (h : w_L_blockAt E.2.2.2 w a0 x1 P) : jC E yL_blockAt cL_blockAt 4 (some .int) ({ frames := 3, cells := 0, slots := 0, locals := 64 } : Room) [.ref a0, .int x1] w 0 0 (jPi P) := by
  refine jC_of (by decide) (Nat.le_of_ble_eq_true rfl) ?_
  intro Γ X hE hR Rt
  subst hE
  exact k_L_blockAt_b0 X hR Rt h
theorem jm_L_digest : jMs yL_digest cL_digest 6 (some .long) 1 := ⟨jw_1213, jw_21, jw_1214, ⟨by decide +kernel, by decide +kernel⟩, by decide +kernel⟩
def w_L_digest_b143 : Nat → (κ : Nat → Nat) → (w : va_W) → (a0 : Nat) → (l1 : Int64) → (x3 : Int32) → (x4 : Int32) → (x5 : Int32) → (K79 : va_W → Nat → Int64 → Int32 → Prop) → (P : Int64 → va_W → Prop) → Prop
  | 0, _, _, _, _, _, _, _, _, _ => False
  | n + 1, κ, w, a0, l1, x3, x4, x5, K79, P =>
    (jRc w a0 11 ∧ w_X8_flakeCountZ κ w a0 x4 (fun v1 w1 => (if v1 ≤ x5 then K79 w1 a0 l1 (x3 + 1) else (jRc w1 a0 11 ∧ w_X8_flakeAtZ κ w1 a0 x4 x5 (fun v2 w2 => w_L_digest_b143 n κ w2 a0 ((31 * l1) + (Int32.toInt64 v2)) x3 x4 (x5 + 1) K79 P)))))
set_option maxRecDepth 100000 in
set_option maxHeartbeats 4000000 in
theorem k_L_digest_b143 {N : Nat} (hN : N + 1 ≤ 17) {Γ : jG} (X : jX Γ cL_digest 6 RL) (hR : jgR Γ = ({ frames := 9, cells := 34, slots := 204, locals := 156 } : Room)) {P : Int64 → va_W → Prop} (Rt : jRt Γ cL_digest 6 34 204 (some .long) (jPl P)) {K79 : va_W → Nat → Int64 → Int32 → Prop} (hK79 : ∀ (w : va_W) (a0 : Nat) (l1 : Int64) (x3 : Int32), K79 w a0 l1 x3 → J Γ 6 w (0 + (17 - N) * 2 + 0) (0 + (17 - N) * 12 + 0) 79 [(0, .ref a0), (1, .long l1), (3, .int x3)] []) : ∀ (n : Nat) {w : va_W} {a0 : Nat} {l1 : Int64} {x3 : Int32} {x4 : Int32} {x5 : Int32} (h : w_L_digest_b143 n (jgE Γ).2.2.2 w a0 l1 x3 x4 x5 K79 P), J Γ 6 w (0 + (17 - (N + 1)) * 2 + 2) (0 + (17 - (N + 1)) * 12 + 12) 143 [(0, .ref a0), (1, .long l1), (3, .int x3), (4, .int x4), (5, .int x5)] [] := by
  intro n
  induction n with
  | zero => intro w a0 l1 x3 x4 x5 h; exact False.elim h
  | succ n ih =>
    intro w a0 l1 x3 x4 x5 h
    rw [w_L_digest_b143] at h
    refine j_iload X dL_digest_143 4 rfl ?_
    refine j_aload_n X dL_digest_145 0 rfl ?_
    refine j_iload X dL_digest_146 3 rfl ?_
    obtain ⟨⟨fs1, g1⟩, h⟩ := h
    refine j_callVi X [.int x4] [.int x5] (c_X8_flakeCountZ h) (T := TX8) (N := 11) g1 rfl jm_X8_flakeCount jw_1289 rfl ⟨rfl, rfl⟩ (by rw [hR]; exact ⟨⟨by decide, by decide⟩, by simp only []; omega, by simp only []; omega⟩) rfl (Nat.le_of_ble_eq_true rfl) dL_digest_148 (fun v1 w1 h => ?_)
    refine j_icmp_ge X 176 dL_digest_151 (by decide) (fun c => ?_) (fun c => ?_)
    · replace h := jif_t c h
      refine j_iinc X (x3 + 1) [(3, .int (x3 + 1)), (0, .ref a0), (1, .long l1), (4, .int x4), (5, .int x5)] dL_digest_176 2 rfl rfl (by decide) rfl ?_
      refine j_goto X 79 dL_digest_179 (by decide) ?_
      refine j_sub [1, 2, 0] rfl ?_
      refine j_widen (k := (0 + (17 - N) * 2 + 0)) (n := (0 + (17 - N) * 12 + 0)) (by omega) (by omega) ?_
      exact hK79 _ _ _ _ h
    · replace h := jif_f c h
      refine j_ldc2 X dL_digest_154 jw_1225 ?_
      refine j_lload_n X dL_digest_157 1 rfl ?_
      refine j_lmul X dL_digest_158 ?_
      refine j_aload_n X dL_digest_159 0 rfl ?_
      refine j_iload X dL_digest_160 3 rfl ?_
      refine j_iload X dL_digest_162 4 rfl ?_
      obtain ⟨⟨fs2, g2⟩, h⟩ := h
      refine j_callVi X [.int x4, .int x5] [.long (31 * l1)] (c_X8_flakeAtZ h) (T := TX8) (N := 11) g2 rfl jm_X8_flakeAt jw_1293 rfl ⟨rfl, rfl⟩ (by rw [hR]; exact ⟨⟨by decide, by decide⟩, by simp only []; omega, by simp only []; omega⟩) rfl (Nat.le_of_ble_eq_true rfl) dL_digest_164 (fun v2 w2 h => ?_)
      refine j_i2l X dL_digest_167 ?_
      refine j_ladd X dL_digest_168 ?_
      refine j_lstore_n X [(1, .long ((31 * l1) + (Int32.toInt64 v2))), (0, .ref a0), (3, .int x3), (4, .int x4), (5, .int x5)] dL_digest_169 (by decide) rfl ?_
      refine j_iinc X (x5 + 1) [(5, .int (x5 + 1)), (1, .long ((31 * l1) + (Int32.toInt64 v2))), (0, .ref a0), (3, .int x3), (4, .int x4)] dL_digest_170 4 rfl rfl (by decide) rfl ?_
      refine j_goto X 143 dL_digest_173 (by decide) ?_
      refine j_sub [2, 1, 3, 4, 0] rfl ?_
      refine j_widen (k := (0 + (17 - (N + 1)) * 2 + 2)) (n := (0 + (17 - (N + 1)) * 12 + 12)) (by omega) (by omega) ?_
      exact ih h
def w_L_digest_b79 : Nat → (κ : Nat → Nat) → (w : va_W) → (a0 : Nat) → (l1 : Int64) → (x3 : Int32) → (P : Int64 → va_W → Prop) → Prop
  | 0, _, _, _, _, _, _ => False
  | n + 1, κ, w, a0, l1, x3, P =>
    (jRc w a0 11 ∧ w_X8_blockCount κ w a0 (fun v1 w1 => (if v1 ≤ x3 then P l1 w1 else w_L_blockAt κ w1 a0 x3 (fun v2 w2 => w_L_parentOf κ w2 a0 v2 (fun v3 w3 => (jRc w3 a0 11 ∧ w_X8_hashOfZ κ w3 a0 v2 (fun v4 w4 => w_L_nonceOf κ w4 a0 v2 (fun v5 w5 => w_L_digest_b143 jFu κ w5 a0 ((31 * ((31 * ((31 * ((31 * l1) + (Int32.toInt64 v2))) + (Int32.toInt64 v3))) + (Int32.toInt64 v4))) + (Int32.toInt64 v5)) x3 v2 0 (fun w_ z_a0 z_l1 z_x3 => w_L_digest_b79 n κ w_ z_a0 z_l1 z_x3 P) P))))))))
set_option maxRecDepth 100000 in
set_option maxHeartbeats 4000000 in
theorem k_L_digest_b79 {Γ : jG} (X : jX Γ cL_digest 6 RL) (hR : jgR Γ = ({ frames := 9, cells := 34, slots := 204, locals := 156 } : Room)) {P : Int64 → va_W → Prop} (Rt : jRt Γ cL_digest 6 34 204 (some .long) (jPl P)) : ∀ (n : Nat) (hN : n ≤ 17) {w : va_W} {a0 : Nat} {l1 : Int64} {x3 : Int32} (h : w_L_digest_b79 n (jgE Γ).2.2.2 w a0 l1 x3 P), J Γ 6 w (0 + (17 - n) * 2 + 0) (0 + (17 - n) * 12 + 0) 79 [(0, .ref a0), (1, .long l1), (3, .int x3)] [] := by
  intro n
  induction n with
  | zero => intro hN w a0 l1 x3 h; exact False.elim h
  | succ n ih =>
    intro hN w a0 l1 x3 h
    rw [w_L_digest_b79] at h
    refine j_iload_n X dL_digest_79 2 rfl ?_
    refine j_aload_n X dL_digest_80 0 rfl ?_
    obtain ⟨⟨fs1, g1⟩, h⟩ := h
    refine j_callVi X [] [.int x3] (c_X8_blockCount h) (T := TX8) (N := 11) g1 rfl jm_X8_blockCount jw_1250 rfl ⟨rfl, rfl⟩ (by rw [hR]; exact ⟨⟨by decide, by decide⟩, by simp only []; omega, by simp only []; omega⟩) rfl (Nat.le_of_ble_eq_true rfl) dL_digest_81 (fun v1 w1 h => ?_)
    refine j_icmp_ge X 182 dL_digest_84 (by decide) (fun c => ?_) (fun c => ?_)
    · replace h := jif_t c h
      refine j_lload_n X dL_digest_182 1 rfl ?_
      exact Rt.l dL_digest_183 ⟨_, rfl, h⟩ (by first | decide | omega) (by first | decide | omega)
    · replace h := jif_f c h
      refine j_aload_n X dL_digest_87 0 rfl ?_
      refine j_iload_n X dL_digest_88 2 rfl ?_
      refine j_callSi X [.ref a0, .int x3] [] (c_L_blockAt h) jm_L_blockAt jw_1254 rfl ⟨rfl, rfl⟩ (by rw [hR]; exact ⟨⟨by decide, by decide⟩, by simp only []; omega, by simp only []; omega⟩) rfl (Nat.le_of_ble_eq_true rfl) dL_digest_89 (fun v2 w2 h => ?_)
      refine j_istore X [(4, .int v2), (0, .ref a0), (1, .long l1), (3, .int x3)] dL_digest_92 (by decide) rfl ?_
      refine j_ldc2 X dL_digest_94 jw_1225 ?_
      refine j_ldc2 X dL_digest_97 jw_1225 ?_
      refine j_ldc2 X dL_digest_100 jw_1225 ?_
      refine j_ldc2 X dL_digest_103 jw_1225 ?_
      refine j_lload_n X dL_digest_106 2 rfl ?_
      refine j_lmul X dL_digest_107 ?_
      refine j_iload X dL_digest_108 0 rfl ?_
      refine j_i2l X dL_digest_110 ?_
      refine j_ladd X dL_digest_111 ?_
      refine j_lmul X dL_digest_112 ?_
      refine j_aload_n X dL_digest_113 1 rfl ?_
      refine j_iload X dL_digest_114 0 rfl ?_
      refine j_callWi X [.ref a0, .int v2] [.long (31 * ((31 * l1) + (Int32.toInt64 v2))), .long 31, .long 31] (c_L_parentOf h) jmw_L_parentOf jw_1262 rfl ⟨rfl, rfl⟩ (by rw [hR]; exact ⟨⟨by decide, by decide⟩, by simp only []; omega, by simp only []; omega⟩) rfl (Nat.le_of_ble_eq_true rfl) dL_digest_116 (fun v3 w3 h => ?_)
      refine j_i2l X dL_digest_119 ?_
      refine j_ladd X dL_digest_120 ?_
      refine j_lmul X dL_digest_121 ?_
      refine j_aload_n X dL_digest_122 1 rfl ?_
      refine j_iload X dL_digest_123 0 rfl ?_
      obtain ⟨⟨fs4, g4⟩, h⟩ := h
      refine j_callVi X [.int v2] [.long (31 * ((31 * ((31 * l1) + (Int32.toInt64 v2))) + (Int32.toInt64 v3))), .long 31] (c_X8_hashOfZ h) (T := TX8) (N := 11) g4 rfl jm_X8_hashOf jw_1274 rfl ⟨rfl, rfl⟩ (by rw [hR]; exact ⟨⟨by decide, by decide⟩, by simp only []; omega, by simp only []; omega⟩) rfl (Nat.le_of_ble_eq_true rfl) dL_digest_125 (fun v4 w4 h => ?_)
      refine j_i2l X dL_digest_128 ?_
      refine j_ladd X dL_digest_129 ?_
      refine j_lmul X dL_digest_130 ?_
      refine j_aload_n X dL_digest_131 1 rfl ?_
      refine j_iload X dL_digest_132 0 rfl ?_
      refine j_callWi X [.ref a0, .int v2] [.long (31 * ((31 * ((31 * ((31 * l1) + (Int32.toInt64 v2))) + (Int32.toInt64 v3))) + (Int32.toInt64 v4)))] (c_L_nonceOf h) jmw_L_nonceOf jw_1282 rfl ⟨rfl, rfl⟩ (by rw [hR]; exact ⟨⟨by decide, by decide⟩, by simp only []; omega, by simp only []; omega⟩) rfl (Nat.le_of_ble_eq_true rfl) dL_digest_134 (fun v5 w5 h => ?_)
      refine j_i2l X dL_digest_137 ?_
      refine j_ladd X dL_digest_138 ?_
      refine j_lstore_n X [(1, .long ((31 * ((31 * ((31 * ((31 * l1) + (Int32.toInt64 v2))) + (Int32.toInt64 v3))) + (Int32.toInt64 v4))) + (Int32.toInt64 v5))), (4, .int v2), (0, .ref a0), (3, .int x3)] dL_digest_139 (by decide) rfl ?_
      refine j_iconst X 0 dL_digest_140 (by decide) ?_
      refine j_istore X [(5, .int 0), (1, .long ((31 * ((31 * ((31 * ((31 * l1) + (Int32.toInt64 v2))) + (Int32.toInt64 v3))) + (Int32.toInt64 v4))) + (Int32.toInt64 v5))), (4, .int v2), (0, .ref a0), (3, .int x3)] dL_digest_141 (by decide) rfl ?_
      refine j_sub [3, 1, 4, 2, 0] rfl ?_
      refine j_widen (k := (0 + (17 - (n + 1)) * 2 + 2)) (n := (0 + (17 - (n + 1)) * 12 + 12)) (by omega) (by omega) ?_
      exact k_L_digest_b143 hN X hR Rt (fun _ _ _ _ h => ih (by omega) h) _ h
def w_L_digest_b28 : Nat → (κ : Nat → Nat) → (w : va_W) → (a0 : Nat) → (l1 : Int64) → (x3 : Int32) → (P : Int64 → va_W → Prop) → Prop
  | 0, _, _, _, _, _, _ => False
  | n + 1, κ, w, a0, l1, x3, P =>
    (jRc w a0 11 ∧ w_X8_hillCount κ w a0 (fun v1 w1 => (if v1 ≤ x3 then w_L_digest_b79 17 κ w1 a0 l1 0 P else (jRc w1 a0 11 ∧ w_X8_followedZ κ w1 a0 x3 (fun v2 w2 => (jRc w2 a0 11 ∧ w_X8_collectedZ κ w2 a0 x3 (fun v3 w3 => (jRc w3 a0 11 ∧ w_X8_nextHashZ κ w3 a0 x3 (fun v4 w4 => w_L_digest_b28 n κ w4 a0 ((31 * ((31 * ((31 * l1) + (Int32.toInt64 v2))) + (Int32.toInt64 v3))) + (Int32.toInt64 v4)) (x3 + 1) P)))))))))
set_option maxRecDepth 100000 in
set_option maxHeartbeats 4000000 in
theorem k_L_digest_b28 {Γ : jG} (X : jX Γ cL_digest 6 RL) (hR : jgR Γ = ({ frames := 9, cells := 34, slots := 204, locals := 156 } : Room)) {P : Int64 → va_W → Prop} (Rt : jRt Γ cL_digest 6 34 204 (some .long) (jPl P)) : ∀ (n : Nat) {w : va_W} {a0 : Nat} {l1 : Int64} {x3 : Int32} (h : w_L_digest_b28 n (jgE Γ).2.2.2 w a0 l1 x3 P), J Γ 6 w 0 0 28 [(0, .ref a0), (1, .long l1), (3, .int x3)] [] := by
  intro n
  induction n with
  | zero => intro w a0 l1 x3 h; exact False.elim h
  | succ n ih =>
    intro w a0 l1 x3 h
    rw [w_L_digest_b28] at h
    refine j_iload_n X dL_digest_28 2 rfl ?_
    refine j_aload_n X dL_digest_29 0 rfl ?_
    obtain ⟨⟨fs1, g1⟩, h⟩ := h
    refine j_callVi X [] [.int x3] (c_X8_hillCount h) (T := TX8) (N := 11) g1 rfl jm_X8_hillCount jw_1221 rfl ⟨rfl, rfl⟩ (by rw [hR]; decide) rfl (Nat.le_of_ble_eq_true rfl) dL_digest_30 (fun v1 w1 h => ?_)
    refine j_icmp_ge X 77 dL_digest_33 (by decide) (fun c => ?_) (fun c => ?_)
    · replace h := jif_t c h
      refine j_iconst X 0 dL_digest_77 (by decide) ?_
      refine j_istore_n X [(3, .int 0), (0, .ref a0), (1, .long l1)] dL_digest_78 (by decide) rfl ?_
      refine j_sub [1, 2, 0] rfl ?_
      refine j_widen (k := (0 + (17 - 17) * 2 + 0)) (n := (0 + (17 - 17) * 12 + 0)) (by omega) (by omega) ?_
      exact k_L_digest_b79 X hR Rt _ (Nat.le_refl _) h
    · replace h := jif_f c h
      refine j_ldc2 X dL_digest_36 jw_1225 ?_
      refine j_ldc2 X dL_digest_39 jw_1225 ?_
      refine j_ldc2 X dL_digest_42 jw_1225 ?_
      refine j_lload_n X dL_digest_45 1 rfl ?_
      refine j_lmul X dL_digest_46 ?_
      refine j_aload_n X dL_digest_47 0 rfl ?_
      refine j_iload_n X dL_digest_48 2 rfl ?_
      obtain ⟨⟨fs2, g2⟩, h⟩ := h
      refine j_callVi X [.int x3] [.long (31 * l1), .long 31, .long 31] (c_X8_followedZ h) (T := TX8) (N := 11) g2 rfl jm_X8_followed jw_1226 rfl ⟨rfl, rfl⟩ (by rw [hR]; decide) rfl (Nat.le_of_ble_eq_true rfl) dL_digest_49 (fun v2 w2 h => ?_)
      refine j_i2l X dL_digest_52 ?_
      refine j_ladd X dL_digest_53 ?_
      refine j_lmul X dL_digest_54 ?_
      refine j_aload_n X dL_digest_55 0 rfl ?_
      refine j_iload_n X dL_digest_56 2 rfl ?_
      obtain ⟨⟨fs3, g3⟩, h⟩ := h
      refine j_callVi X [.int x3] [.long (31 * ((31 * l1) + (Int32.toInt64 v2))), .long 31] (c_X8_collectedZ h) (T := TX8) (N := 11) g3 rfl jm_X8_collected jw_1236 rfl ⟨rfl, rfl⟩ (by rw [hR]; decide) rfl (Nat.le_of_ble_eq_true rfl) dL_digest_57 (fun v3 w3 h => ?_)
      refine j_i2l X dL_digest_60 ?_
      refine j_ladd X dL_digest_61 ?_
      refine j_lmul X dL_digest_62 ?_
      refine j_aload_n X dL_digest_63 0 rfl ?_
      refine j_iload_n X dL_digest_64 2 rfl ?_
      obtain ⟨⟨fs4, g4⟩, h⟩ := h
      refine j_callVi X [.int x3] [.long (31 * ((31 * ((31 * l1) + (Int32.toInt64 v2))) + (Int32.toInt64 v3)))] (c_X8_nextHashZ h) (T := TX8) (N := 11) g4 rfl jm_X8_nextHash jw_1241 rfl ⟨rfl, rfl⟩ (by rw [hR]; decide) rfl (Nat.le_of_ble_eq_true rfl) dL_digest_65 (fun v4 w4 h => ?_)
      refine j_i2l X dL_digest_68 ?_
      refine j_ladd X dL_digest_69 ?_
      refine j_lstore_n X [(1, .long ((31 * ((31 * ((31 * l1) + (Int32.toInt64 v2))) + (Int32.toInt64 v3))) + (Int32.toInt64 v4))), (0, .ref a0), (3, .int x3)] dL_digest_70 (by decide) rfl ?_
      refine j_iinc X (x3 + 1) [(3, .int (x3 + 1)), (1, .long ((31 * ((31 * ((31 * l1) + (Int32.toInt64 v2))) + (Int32.toInt64 v3))) + (Int32.toInt64 v4))), (0, .ref a0)] dL_digest_71 2 rfl rfl (by decide) rfl ?_
      refine j_goto X 28 dL_digest_74 (by decide) ?_
      refine j_sub [2, 1, 0] rfl ?_
      refine j_widen (k := 0) (n := 0) (by omega) (by omega) ?_
      exact ih h
def w_L_digest_b0 (κ : Nat → Nat) (w : va_W) (a0 : Nat) (P : Int64 → va_W → Prop) : Prop :=
    (jRc w a0 11 ∧ w_X8_writtenTotal κ w a0 (fun v1 w1 => (jRc w1 a0 11 ∧ w_X8_meltedTotal κ w1 a0 (fun v2 w2 => (jRc w2 a0 11 ∧ w_X8_hillCount κ w2 a0 (fun v3 w3 => w_L_digest_b28 jFu κ w3 a0 (((7 * (Int32.toInt64 v1)) + (11 * (Int32.toInt64 v2))) + (Int32.toInt64 v3)) 0 P))))))
set_option maxRecDepth 100000 in
set_option maxHeartbeats 4000000 in
theorem k_L_digest_b0 {Γ : jG} (X : jX Γ cL_digest 6 RL) (hR : jgR Γ = ({ frames := 9, cells := 34, slots := 204, locals := 156 } : Room)) {P : Int64 → va_W → Prop} (Rt : jRt Γ cL_digest 6 34 204 (some .long) (jPl P)) {w : va_W} {a0 : Nat} (h : w_L_digest_b0 (jgE Γ).2.2.2 w a0 P) : J Γ 6 w 0 0 0 [(0, .ref a0)] [] := by
  unfold w_L_digest_b0 at h
  refine j_ldc2 X dL_digest_0 jw_1215 ?_
  refine j_aload_n X dL_digest_3 0 rfl ?_
  obtain ⟨⟨fs1, g1⟩, h⟩ := h
  refine j_callVi X [] [.long 7] (c_X8_writtenTotal h) (T := TX8) (N := 11) g1 rfl jm_X8_writtenTotal jw_1188 rfl ⟨rfl, rfl⟩ (by rw [hR]; decide) rfl (Nat.le_of_ble_eq_true rfl) dL_digest_4 (fun v1 w1 h => ?_)
  refine j_i2l X dL_digest_7 ?_
  refine j_lmul X dL_digest_8 ?_
  refine j_ldc2 X dL_digest_9 jw_1216 ?_
  refine j_aload_n X dL_digest_12 0 rfl ?_
  obtain ⟨⟨fs2, g2⟩, h⟩ := h
  refine j_callVi X [] [.long 11, .long (7 * (Int32.toInt64 v1))] (c_X8_meltedTotal h) (T := TX8) (N := 11) g2 rfl jm_X8_meltedTotal jw_1217 rfl ⟨rfl, rfl⟩ (by rw [hR]; decide) rfl (Nat.le_of_ble_eq_true rfl) dL_digest_13 (fun v2 w2 h => ?_)
  refine j_i2l X dL_digest_16 ?_
  refine j_lmul X dL_digest_17 ?_
  refine j_ladd X dL_digest_18 ?_
  refine j_aload_n X dL_digest_19 0 rfl ?_
  obtain ⟨⟨fs3, g3⟩, h⟩ := h
  refine j_callVi X [] [.long ((7 * (Int32.toInt64 v1)) + (11 * (Int32.toInt64 v2)))] (c_X8_hillCount h) (T := TX8) (N := 11) g3 rfl jm_X8_hillCount jw_1221 rfl ⟨rfl, rfl⟩ (by rw [hR]; decide) rfl (Nat.le_of_ble_eq_true rfl) dL_digest_20 (fun v3 w3 h => ?_)
  refine j_i2l X dL_digest_23 ?_
  refine j_ladd X dL_digest_24 ?_
  refine j_lstore_n X [(1, .long (((7 * (Int32.toInt64 v1)) + (11 * (Int32.toInt64 v2))) + (Int32.toInt64 v3))), (0, .ref a0)] dL_digest_25 (by decide) rfl ?_
  refine j_iconst X 0 dL_digest_26 (by decide) ?_
  refine j_istore_n X [(3, .int 0), (1, .long (((7 * (Int32.toInt64 v1)) + (11 * (Int32.toInt64 v2))) + (Int32.toInt64 v3))), (0, .ref a0)] dL_digest_27 (by decide) rfl ?_
  refine j_sub [2, 1, 0] rfl ?_
  refine j_widen (k := 0) (n := 0) (by omega) (by omega) ?_
  exact k_L_digest_b28 X hR Rt _ h
def w_L_digest (κ : Nat → Nat) (w : va_W) (a0 : Nat) (P : Int64 → va_W → Prop) : Prop := w_L_digest_b0 κ w a0 P
theorem c_L_digest {E : jE} {w : va_W} {a0 : Nat} {P : Int64 → va_W → Prop} (h : w_L_digest E.2.2.2 w a0 P) : jC E yL_digest cL_digest 6 (some .long) ({ frames := 9, cells := 34, slots := 204, locals := 156 } : Room) [.ref a0] w 34 204 (jPl P) := by
  refine jC_of (by decide) (Nat.le_of_ble_eq_true rfl) ?_
  intro Γ X hE hR Rt
  subst hE
  exact k_L_digest_b0 X hR Rt h
theorem jm_L_combine : jMs yL_combine cL_combine 2 (some .int) 2 := ⟨jw_1371, jw_21, jw_1372, ⟨by decide +kernel, by decide +kernel⟩, by decide +kernel⟩
def w_L_combine_b0 (κ : Nat → Nat) (w : va_W) (x0 : Int32) (x1 : Int32) (P : Int32 → va_W → Prop) : Prop :=
    P (jrem (((31 * x0) + (17 * x1)) + 7) 997) w
set_option maxRecDepth 100000 in
set_option maxHeartbeats 4000000 in
theorem k_L_combine_b0 {Γ : jG} (X : jX Γ cL_combine 2 RL) (hR : jgR Γ = ({ frames := 0, cells := 0, slots := 0, locals := 0 } : Room)) {P : Int32 → va_W → Prop} (Rt : jRt Γ cL_combine 2 0 0 (some .int) (jPi P)) {w : va_W} {x0 : Int32} {x1 : Int32} (h : w_L_combine_b0 (jgE Γ).2.2.2 w x0 x1 P) : J Γ 2 w 0 0 0 [(0, .int x0), (1, .int x1)] [] := by
  unfold w_L_combine_b0 at h
  refine j_bipush X 31 dL_combine_0 (by decide) ?_
  refine j_iload_n X dL_combine_2 0 rfl ?_
  refine j_imul X dL_combine_3 ?_
  refine j_bipush X 17 dL_combine_4 (by decide) ?_
  refine j_iload_n X dL_combine_6 1 rfl ?_
  refine j_imul X dL_combine_7 ?_
  refine j_iadd X dL_combine_8 ?_
  refine j_bipush X 7 dL_combine_9 (by decide) ?_
  refine j_iadd X dL_combine_11 ?_
  refine j_sipush X 997 dL_combine_12 (by decide) ?_
  refine j_irem X dL_combine_15 (by decide) ?_
  exact Rt.i dL_combine_16 ⟨_, rfl, h⟩ (by first | decide | omega) (by first | decide | omega)
def w_L_combine (κ : Nat → Nat) (w : va_W) (x0 : Int32) (x1 : Int32) (P : Int32 → va_W → Prop) : Prop := w_L_combine_b0 κ w x0 x1 P
theorem c_L_combine {E : jE} {w : va_W} {x0 : Int32} {x1 : Int32} {P : Int32 → va_W → Prop} (h : w_L_combine E.2.2.2 w x0 x1 P) : jC E yL_combine cL_combine 2 (some .int) ({ frames := 0, cells := 0, slots := 0, locals := 0 } : Room) [.int x0, .int x1] w 0 0 (jPi P) := by
  refine jC_of (by decide) (Nat.le_of_ble_eq_true rfl) ?_
  intro Γ X hE hR Rt
  subst hE
  exact k_L_combine_b0 X hR Rt h
theorem jm_L_root : jMs yL_root cL_root 5 (some .int) 2 := ⟨jw_1368, jw_21, jw_1369, ⟨by decide +kernel, by decide +kernel⟩, by decide +kernel⟩
def w_L_root_b13 : Nat → (κ : Nat → Nat) → (w : va_W) → (a0 : Nat) → (x1 : Int32) → (x2 : Int32) → (a3 : Nat) → (x4 : Int32) → (P : Int32 → va_W → Prop) → Prop
  | 0, _, _, _, _, _, _, _, _ => False
  | n + 1, κ, w, a0, x1, x2, a3, x4, P =>
    (if x2 ≤ x4 then (if x2 = 0 then P 0 w else (if x2 = 1 then jLd w a3 0 0 (fun v2 => P v2 w) else (if x2 = 2 then jLd w a3 0 0 (fun v3 => jLd w a3 0 1 (fun v4 => w_L_combine κ w v3 v4 (fun v5 w5 => P v5 w5))) else (if x2 = 3 then jLd w a3 0 0 (fun v6 => jLd w a3 0 1 (fun v7 => w_L_combine κ w v6 v7 (fun v8 w8 => jLd w8 a3 0 2 (fun v9 => jLd w8 a3 0 2 (fun v10 => w_L_combine κ w8 v9 v10 (fun v11 w11 => w_L_combine κ w11 v8 v11 (fun v12 w12 => P v12 w12))))))) else jLd w a3 0 0 (fun v13 => jLd w a3 0 1 (fun v14 => w_L_combine κ w v13 v14 (fun v15 w15 => jLd w15 a3 0 2 (fun v16 => jLd w15 a3 0 3 (fun v17 => w_L_combine κ w15 v16 v17 (fun v18 w18 => w_L_combine κ w18 v15 v18 (fun v19 w19 => P v19 w19))))))))))) else (jRc w a0 11 ∧ w_X8_flakeAtZ κ w a0 x1 x4 (fun v20 w20 => jSi w20 a3 x4 v20 (fun w21 => w_L_root_b13 n κ w21 a0 x1 x2 a3 (x4 + 1) P))))
set_option maxRecDepth 100000 in
set_option maxHeartbeats 4000000 in
theorem k_L_root_b13 {Γ : jG} (X : jX Γ cL_root 5 RL) (hR : jgR Γ = ({ frames := 4, cells := 1, slots := 4, locals := 88 } : Room)) {P : Int32 → va_W → Prop} (Rt : jRt Γ cL_root 5 1 4 (some .int) (jPi P)) : ∀ (n : Nat) {w : va_W} {a0 : Nat} {x1 : Int32} {x2 : Int32} {a3 : Nat} {x4 : Int32} (h : w_L_root_b13 n (jgE Γ).2.2.2 w a0 x1 x2 a3 x4 P), J Γ 5 w 1 4 13 [(0, .ref a0), (1, .int x1), (2, .int x2), (3, .ref a3), (4, .int x4)] [] := by
  intro n
  induction n with
  | zero => intro w a0 x1 x2 a3 x4 h; exact False.elim h
  | succ n ih =>
    intro w a0 x1 x2 a3 x4 h
    rw [w_L_root_b13] at h
    refine j_iload X dL_root_13 4 rfl ?_
    refine j_iload_n X dL_root_15 2 rfl ?_
    refine j_icmp_ge X 36 dL_root_16 (by decide) (fun c => ?_) (fun c => ?_)
    · replace h := jif_t c h
      refine j_iload_n X dL_root_36 2 rfl ?_
      by_cases c1_0 : x2 = 0
      · replace h := jif_t c1_0 h
        refine j_tableIn X 68 dL_root_37 (by rw [c1_0]; decide) (by rw [c1_0]; decide) (by rw [c1_0]; rfl) (by decide) ?_
        refine j_iconst X 0 dL_root_68 (by decide) ?_
        exact Rt.i dL_root_69 ⟨_, rfl, h⟩ (by first | decide | omega) (by first | decide | omega)
      replace h := jif_f c1_0 h
      by_cases c1_1 : x2 = 1
      · replace h := jif_t c1_1 h
        refine j_tableIn X 70 dL_root_37 (by rw [c1_1]; decide) (by rw [c1_1]; decide) (by rw [c1_1]; rfl) (by decide) ?_
        refine j_aload_n X dL_root_70 3 rfl ?_
        refine j_iconst X 0 dL_root_71 (by decide) ?_
        obtain ⟨n2, f2, g2, i2, h⟩ := h
        refine j_iald X g2 i2 dL_root_72 ?_
        generalize f2 _ = v2 at h ⊢
        exact Rt.i dL_root_73 ⟨_, rfl, h⟩ (by first | decide | omega) (by first | decide | omega)
      replace h := jif_f c1_1 h
      by_cases c1_2 : x2 = 2
      · replace h := jif_t c1_2 h
        refine j_tableIn X 74 dL_root_37 (by rw [c1_2]; decide) (by rw [c1_2]; decide) (by rw [c1_2]; rfl) (by decide) ?_
        refine j_aload_n X dL_root_74 3 rfl ?_
        refine j_iconst X 0 dL_root_75 (by decide) ?_
        obtain ⟨n3, f3, g3, i3, h⟩ := h
        refine j_iald X g3 i3 dL_root_76 ?_
        generalize f3 _ = v3 at h ⊢
        refine j_aload_n X dL_root_77 3 rfl ?_
        refine j_iconst X 1 dL_root_78 (by decide) ?_
        obtain ⟨n4, f4, g4, i4, h⟩ := h
        refine j_iald X g4 i4 dL_root_79 ?_
        generalize f4 _ = v4 at h ⊢
        refine j_callSi X [.int v3, .int v4] [] (c_L_combine h) jm_L_combine jw_1370 rfl ⟨rfl, rfl⟩ (by rw [hR]; decide) rfl (Nat.le_of_ble_eq_true rfl) dL_root_80 (fun v5 w5 h => ?_)
        exact Rt.i dL_root_83 ⟨_, rfl, h⟩ (by first | decide | omega) (by first | decide | omega)
      replace h := jif_f c1_2 h
      by_cases c1_3 : x2 = 3
      · replace h := jif_t c1_3 h
        refine j_tableIn X 84 dL_root_37 (by rw [c1_3]; decide) (by rw [c1_3]; decide) (by rw [c1_3]; rfl) (by decide) ?_
        refine j_aload_n X dL_root_84 3 rfl ?_
        refine j_iconst X 0 dL_root_85 (by decide) ?_
        obtain ⟨n6, f6, g6, i6, h⟩ := h
        refine j_iald X g6 i6 dL_root_86 ?_
        generalize f6 _ = v6 at h ⊢
        refine j_aload_n X dL_root_87 3 rfl ?_
        refine j_iconst X 1 dL_root_88 (by decide) ?_
        obtain ⟨n7, f7, g7, i7, h⟩ := h
        refine j_iald X g7 i7 dL_root_89 ?_
        generalize f7 _ = v7 at h ⊢
        refine j_callSi X [.int v6, .int v7] [] (c_L_combine h) jm_L_combine jw_1370 rfl ⟨rfl, rfl⟩ (by rw [hR]; decide) rfl (Nat.le_of_ble_eq_true rfl) dL_root_90 (fun v8 w8 h => ?_)
        refine j_aload_n X dL_root_93 3 rfl ?_
        refine j_iconst X 2 dL_root_94 (by decide) ?_
        obtain ⟨n9, f9, g9, i9, h⟩ := h
        refine j_iald X g9 i9 dL_root_95 ?_
        generalize f9 _ = v9 at h ⊢
        refine j_aload_n X dL_root_96 3 rfl ?_
        refine j_iconst X 2 dL_root_97 (by decide) ?_
        obtain ⟨n10, f10, g10, i10, h⟩ := h
        refine j_iald X g10 i10 dL_root_98 ?_
        generalize f10 _ = v10 at h ⊢
        refine j_callSi X [.int v9, .int v10] [.int v8] (c_L_combine h) jm_L_combine jw_1370 rfl ⟨rfl, rfl⟩ (by rw [hR]; decide) rfl (Nat.le_of_ble_eq_true rfl) dL_root_99 (fun v11 w11 h => ?_)
        refine j_callSi X [.int v8, .int v11] [] (c_L_combine h) jm_L_combine jw_1370 rfl ⟨rfl, rfl⟩ (by rw [hR]; decide) rfl (Nat.le_of_ble_eq_true rfl) dL_root_102 (fun v12 w12 h => ?_)
        exact Rt.i dL_root_105 ⟨_, rfl, h⟩ (by first | decide | omega) (by first | decide | omega)
      replace h := jif_f c1_3 h
      refine j_tableOut X 106 dL_root_37 (jtabOut (n := 3) (by decide) (fun k hk => by
        rcases (show k = 0 ∨ k = 1 ∨ k = 2 ∨ k = 3 by omega) with rfl | rfl | rfl | rfl
        · exact c1_0
        · exact c1_1
        · exact c1_2
        · exact c1_3)) (by decide) ?_
      refine j_aload_n X dL_root_106 3 rfl ?_
      refine j_iconst X 0 dL_root_107 (by decide) ?_
      obtain ⟨n13, f13, g13, i13, h⟩ := h
      refine j_iald X g13 i13 dL_root_108 ?_
      generalize f13 _ = v13 at h ⊢
      refine j_aload_n X dL_root_109 3 rfl ?_
      refine j_iconst X 1 dL_root_110 (by decide) ?_
      obtain ⟨n14, f14, g14, i14, h⟩ := h
      refine j_iald X g14 i14 dL_root_111 ?_
      generalize f14 _ = v14 at h ⊢
      refine j_callSi X [.int v13, .int v14] [] (c_L_combine h) jm_L_combine jw_1370 rfl ⟨rfl, rfl⟩ (by rw [hR]; decide) rfl (Nat.le_of_ble_eq_true rfl) dL_root_112 (fun v15 w15 h => ?_)
      refine j_aload_n X dL_root_115 3 rfl ?_
      refine j_iconst X 2 dL_root_116 (by decide) ?_
      obtain ⟨n16, f16, g16, i16, h⟩ := h
      refine j_iald X g16 i16 dL_root_117 ?_
      generalize f16 _ = v16 at h ⊢
      refine j_aload_n X dL_root_118 3 rfl ?_
      refine j_iconst X 3 dL_root_119 (by decide) ?_
      obtain ⟨n17, f17, g17, i17, h⟩ := h
      refine j_iald X g17 i17 dL_root_120 ?_
      generalize f17 _ = v17 at h ⊢
      refine j_callSi X [.int v16, .int v17] [.int v15] (c_L_combine h) jm_L_combine jw_1370 rfl ⟨rfl, rfl⟩ (by rw [hR]; decide) rfl (Nat.le_of_ble_eq_true rfl) dL_root_121 (fun v18 w18 h => ?_)
      refine j_callSi X [.int v15, .int v18] [] (c_L_combine h) jm_L_combine jw_1370 rfl ⟨rfl, rfl⟩ (by rw [hR]; decide) rfl (Nat.le_of_ble_eq_true rfl) dL_root_124 (fun v19 w19 h => ?_)
      exact Rt.i dL_root_127 ⟨_, rfl, h⟩ (by first | decide | omega) (by first | decide | omega)
    · replace h := jif_f c h
      refine j_aload_n X dL_root_19 3 rfl ?_
      refine j_iload X dL_root_20 4 rfl ?_
      refine j_aload_n X dL_root_22 0 rfl ?_
      refine j_iload_n X dL_root_23 1 rfl ?_
      refine j_iload X dL_root_24 4 rfl ?_
      obtain ⟨⟨fs20, g20⟩, h⟩ := h
      refine j_callVi X [.int x1, .int x4] [.int x4, .ref a3] (c_X8_flakeAtZ h) (T := TX8) (N := 11) g20 rfl jm_X8_flakeAt jw_1293 rfl ⟨rfl, rfl⟩ (by rw [hR]; decide) rfl (Nat.le_of_ble_eq_true rfl) dL_root_26 (fun v20 w20 h => ?_)
      obtain ⟨n21, f21, g21, i21, h⟩ := h
      refine j_iast X g21 i21 dL_root_29 ?_
      generalize jst w20 a3 _ = w21 at h ⊢
      refine j_iinc X (x4 + 1) [(4, .int (x4 + 1)), (0, .ref a0), (1, .int x1), (2, .int x2), (3, .ref a3)] dL_root_30 4 rfl rfl (by decide) rfl ?_
      refine j_goto X 13 dL_root_33 (by decide) ?_
      refine j_sub [1, 2, 3, 4, 0] rfl ?_
      refine j_widen (k := 1) (n := 4) (by decide) (by decide) ?_
      exact ih h
def w_L_root_b0 (κ : Nat → Nat) (w : va_W) (a0 : Nat) (x1 : Int32) (P : Int32 → va_W → Prop) : Prop :=
    (jRc w a0 11 ∧ w_X8_flakeCountZ κ w a0 x1 (fun v1 w1 => (¬ (4 : Int32) < 0 ∧ Int32.toNatClampNeg 4 ≤ 4 ∧ ∀ q2 : Nat, jlk w1 q2 = none → (fun w2 => w_L_root_b13 jFu κ w2 a0 x1 v1 q2 0 P) (w1 ++ [(q2, .inl (0, Int32.toNatClampNeg 4, .inl (fun _ => 0)))]))))
set_option maxRecDepth 100000 in
set_option maxHeartbeats 4000000 in
theorem k_L_root_b0 {Γ : jG} (X : jX Γ cL_root 5 RL) (hR : jgR Γ = ({ frames := 4, cells := 1, slots := 4, locals := 88 } : Room)) {P : Int32 → va_W → Prop} (Rt : jRt Γ cL_root 5 1 4 (some .int) (jPi P)) {w : va_W} {a0 : Nat} {x1 : Int32} (h : w_L_root_b0 (jgE Γ).2.2.2 w a0 x1 P) : J Γ 5 w 0 0 0 [(0, .ref a0), (1, .int x1)] [] := by
  unfold w_L_root_b0 at h
  refine j_aload_n X dL_root_0 0 rfl ?_
  refine j_iload_n X dL_root_1 1 rfl ?_
  obtain ⟨⟨fs1, g1⟩, h⟩ := h
  refine j_callVi X [.int x1] [] (c_X8_flakeCountZ h) (T := TX8) (N := 11) g1 rfl jm_X8_flakeCount jw_1289 rfl ⟨rfl, rfl⟩ (by rw [hR]; decide) rfl (Nat.le_of_ble_eq_true rfl) dL_root_2 (fun v1 w1 h => ?_)
  refine j_istore_n X [(2, .int v1), (0, .ref a0), (1, .int x1)] dL_root_5 (by decide) rfl ?_
  refine j_iconst X 4 dL_root_6 (by decide) ?_
  refine j_newa X (N := Int32.toNatClampNeg 4) 0 (by decide) rfl jw_81 h.1 rfl (Nat.le_trans h.2.1 (by decide)) (by rw [hR]; exact ⟨by simp only []; omega, by have := h.2.1; simp only []; omega⟩) dL_root_7 (fun q2 e2 => ?_)
  refine j_widen (n := 0 + 4) (Nat.le_refl _) (Nat.add_le_add_left h.2.1 _) ?_
  replace h := h.2.2 q2 e2
  generalize w1 ++ [(q2, _)] = w2 at h ⊢
  refine j_astore_n X [(3, .ref q2), (2, .int v1), (0, .ref a0), (1, .int x1)] dL_root_9 (by decide) rfl ?_
  refine j_iconst X 0 dL_root_10 (by decide) ?_
  refine j_istore X [(4, .int 0), (3, .ref q2), (2, .int v1), (0, .ref a0), (1, .int x1)] dL_root_11 (by decide) rfl ?_
  refine j_sub [3, 4, 2, 1, 0] rfl ?_
  refine j_widen (k := 1) (n := 4) (by decide) (by decide) ?_
  exact k_L_root_b13 X hR Rt _ h
def w_L_root (κ : Nat → Nat) (w : va_W) (a0 : Nat) (x1 : Int32) (P : Int32 → va_W → Prop) : Prop := w_L_root_b0 κ w a0 x1 P
theorem c_L_root {E : jE} {w : va_W} {a0 : Nat} {x1 : Int32} {P : Int32 → va_W → Prop} (h : w_L_root E.2.2.2 w a0 x1 P) : jC E yL_root cL_root 5 (some .int) ({ frames := 4, cells := 1, slots := 4, locals := 88 } : Room) [.ref a0, .int x1] w 1 4 (jPi P) := by
  refine jC_of (by decide) (Nat.le_of_ble_eq_true rfl) ?_
  intro Γ X hE hR Rt
  subst hE
  exact k_L_root_b0 X hR Rt h
theorem jm_L_isBlock : jMs yL_isBlock cL_isBlock 12 (some .boolean) 2 := ⟨jw_1365, jw_21, jw_1366, ⟨by decide +kernel, by decide +kernel⟩, by decide +kernel⟩
def w_L_isBlock_b481 (κ : Nat → Nat) (w : va_W) (s0 : Int32) (P : Int32 → va_W → Prop) : Prop :=
    (narrow .boolean (.int s0) = .int s0 ∧ P s0 w)
set_option maxRecDepth 100000 in
set_option maxHeartbeats 4000000 in
theorem k_L_isBlock_b481 {Γ : jG} (X : jX Γ cL_isBlock 12 RL) (hR : jgR Γ = ({ frames := 24, cells := 133, slots := 22072, locals := 588 } : Room)) {P : Int32 → va_W → Prop} (Rt : jRt Γ cL_isBlock 12 133 22072 (some .boolean) (jPi P)) {w : va_W} {s0 : Int32} (h : w_L_isBlock_b481 (jgE Γ).2.2.2 w s0 P) : J Γ 12 w 133 22072 481 [] [.int s0] := by
  unfold w_L_isBlock_b481 at h
  exact Rt.z dL_isBlock_481 h.1 ⟨_, rfl, h.2⟩ (by first | decide | omega) (by first | decide | omega)
def w_L_isBlock_b480 (κ : Nat → Nat) (w : va_W) (P : Int32 → va_W → Prop) : Prop :=
    w_L_isBlock_b481 κ w 0 P
set_option maxRecDepth 100000 in
set_option maxHeartbeats 4000000 in
theorem k_L_isBlock_b480 {Γ : jG} (X : jX Γ cL_isBlock 12 RL) (hR : jgR Γ = ({ frames := 24, cells := 133, slots := 22072, locals := 588 } : Room)) {P : Int32 → va_W → Prop} (Rt : jRt Γ cL_isBlock 12 133 22072 (some .boolean) (jPi P)) {w : va_W} (h : w_L_isBlock_b480 (jgE Γ).2.2.2 w  P) : J Γ 12 w 133 22072 480 [] [] := by
  unfold w_L_isBlock_b480 at h
  refine j_iconst X 0 dL_isBlock_480 (by decide) ?_
  refine j_widen (k := 133) (n := 22072) (by omega) (by omega) ?_
  exact k_L_isBlock_b481 X hR Rt h
def w_L_isBlock_b401 (κ : Nat → Nat) (w : va_W) (a0 : Nat) (x1 : Int32) (x5 : Int32) (s0 : Int32) (P : Int32 → va_W → Prop) : Prop :=
    (if s0 = 0 then w_L_isBlock_b480 κ w  P else (jRc w a0 11 ∧ w_X8_differentFlakesZ κ w a0 x1 (fun v1 w1 => (jRc w1 a0 11 ∧ w_X8_commonFlakesZ κ w1 a0 x1 x1 (fun v2 w2 => (if v1 = v2 then (jRc w2 a0 11 ∧ w_X8_differentFlakesZ κ w2 a0 x1 (fun v3 w3 => (if (4 * x5) < v3 then w_L_isBlock_b480 κ w3  P else (jRc w3 a0 11 ∧ w_X8_forkOfZ κ w3 a0 x1 x1 (fun v4 w4 => (if v4 = x1 then (jRc w4 a0 11 ∧ w_X8_forkOfZ κ w4 a0 0 x1 (fun v5 w5 => (if v5 = 0 then (jRc w5 a0 11 ∧ w_X8_renderBranchZ κ w5 a0 x1 (fun v6 w6 => (if v6 < ((2 * x5) + 1) then w_L_isBlock_b480 κ w6  P else (jRc w6 a0 11 ∧ w_X8_renderBlockZ κ w6 a0 x1 (fun v7 w7 => (if v7 < 3 then w_L_isBlock_b480 κ w7  P else w_L_isBlock_b481 κ w7 1 P)))))) else w_L_isBlock_b480 κ w5  P))) else w_L_isBlock_b480 κ w4  P)))))) else w_L_isBlock_b480 κ w2  P))))))
set_option maxRecDepth 100000 in
set_option maxHeartbeats 4000000 in
theorem k_L_isBlock_b401 {Γ : jG} (X : jX Γ cL_isBlock 12 RL) (hR : jgR Γ = ({ frames := 24, cells := 133, slots := 22072, locals := 588 } : Room)) {P : Int32 → va_W → Prop} (Rt : jRt Γ cL_isBlock 12 133 22072 (some .boolean) (jPi P)) {w : va_W} {a0 : Nat} {x1 : Int32} {x5 : Int32} {s0 : Int32} (h : w_L_isBlock_b401 (jgE Γ).2.2.2 w a0 x1 x5 s0 P) : J Γ 12 w 25 148 401 [(0, .ref a0), (1, .int x1), (5, .int x5)] [.int s0] := by
  unfold w_L_isBlock_b401 at h
  refine j_istore X [(10, .int s0), (0, .ref a0), (1, .int x1), (5, .int x5)] dL_isBlock_401 (by decide) rfl ?_
  refine j_iload X dL_isBlock_403 0 rfl ?_
  refine j_if_eq X 480 dL_isBlock_405 (by decide) (fun c => ?_) (fun c => ?_)
  · replace h := jif_t c h
    refine j_sub [] rfl ?_
    refine j_widen (k := 133) (n := 22072) (by omega) (by omega) ?_
    exact k_L_isBlock_b480 X hR Rt h
  · replace h := jif_f c h
    refine j_aload_n X dL_isBlock_408 1 rfl ?_
    refine j_iload_n X dL_isBlock_409 2 rfl ?_
    obtain ⟨⟨fs1, g1⟩, h⟩ := h
    refine j_callVi X [.int x1] [] (c_X8_differentFlakesZ h) (T := TX8) (N := 11) g1 rfl jm_X8_differentFlakes jw_1431 rfl ⟨rfl, rfl⟩ (by rw [hR]; decide) rfl (Nat.le_of_ble_eq_true rfl) dL_isBlock_410 (fun v1 w1 h => ?_)
    refine j_aload_n X dL_isBlock_413 1 rfl ?_
    refine j_iload_n X dL_isBlock_414 2 rfl ?_
    refine j_iload_n X dL_isBlock_415 2 rfl ?_
    obtain ⟨⟨fs2, g2⟩, h⟩ := h
    refine j_callVi X [.int x1, .int x1] [.int v1] (c_X8_commonFlakesZ h) (T := TX8) (N := 11) g2 rfl jm_X8_commonFlakes jw_1450 rfl ⟨rfl, rfl⟩ (by rw [hR]; decide) rfl (Nat.le_of_ble_eq_true rfl) dL_isBlock_416 (fun v2 w2 h => ?_)
    refine j_icmp_ne X 480 dL_isBlock_419 (by decide) (fun c => ?_) (fun c => ?_)
    · replace h := jif_f c h
      refine j_sub [] rfl ?_
      refine j_widen (k := 133) (n := 22072) (by omega) (by omega) ?_
      exact k_L_isBlock_b480 X hR Rt h
    · replace h := jif_t c h
      refine j_aload_n X dL_isBlock_422 1 rfl ?_
      refine j_iload_n X dL_isBlock_423 2 rfl ?_
      obtain ⟨⟨fs3, g3⟩, h⟩ := h
      refine j_callVi X [.int x1] [] (c_X8_differentFlakesZ h) (T := TX8) (N := 11) g3 rfl jm_X8_differentFlakes jw_1431 rfl ⟨rfl, rfl⟩ (by rw [hR]; decide) rfl (Nat.le_of_ble_eq_true rfl) dL_isBlock_424 (fun v3 w3 h => ?_)
      refine j_iconst X 4 dL_isBlock_427 (by decide) ?_
      refine j_iload X dL_isBlock_428 3 rfl ?_
      refine j_imul X dL_isBlock_430 ?_
      refine j_icmp_gt X 480 dL_isBlock_431 (by decide) (fun c => ?_) (fun c => ?_)
      · replace h := jif_t c h
        refine j_sub [] rfl ?_
        refine j_widen (k := 133) (n := 22072) (by omega) (by omega) ?_
        exact k_L_isBlock_b480 X hR Rt h
      · replace h := jif_f c h
        refine j_aload_n X dL_isBlock_434 1 rfl ?_
        refine j_iload_n X dL_isBlock_435 2 rfl ?_
        refine j_iload_n X dL_isBlock_436 2 rfl ?_
        obtain ⟨⟨fs4, g4⟩, h⟩ := h
        refine j_callVi X [.int x1, .int x1] [] (c_X8_forkOfZ h) (T := TX8) (N := 11) g4 rfl jm_X8_forkOf jw_1454 rfl ⟨rfl, rfl⟩ (by rw [hR]; decide) rfl (Nat.le_of_ble_eq_true rfl) dL_isBlock_437 (fun v4 w4 h => ?_)
        refine j_iload_n X dL_isBlock_440 2 rfl ?_
        refine j_icmp_ne X 480 dL_isBlock_441 (by decide) (fun c => ?_) (fun c => ?_)
        · replace h := jif_f c h
          refine j_sub [] rfl ?_
          refine j_widen (k := 133) (n := 22072) (by omega) (by omega) ?_
          exact k_L_isBlock_b480 X hR Rt h
        · replace h := jif_t c h
          refine j_aload_n X dL_isBlock_444 1 rfl ?_
          refine j_iconst X 0 dL_isBlock_445 (by decide) ?_
          refine j_iload_n X dL_isBlock_446 2 rfl ?_
          obtain ⟨⟨fs5, g5⟩, h⟩ := h
          refine j_callVi X [.int 0, .int x1] [] (c_X8_forkOfZ h) (T := TX8) (N := 11) g5 rfl jm_X8_forkOf jw_1454 rfl ⟨rfl, rfl⟩ (by rw [hR]; decide) rfl (Nat.le_of_ble_eq_true rfl) dL_isBlock_447 (fun v5 w5 h => ?_)
          refine j_if_ne X 480 dL_isBlock_450 (by decide) (fun c => ?_) (fun c => ?_)
          · replace h := jif_f c h
            refine j_sub [] rfl ?_
            refine j_widen (k := 133) (n := 22072) (by omega) (by omega) ?_
            exact k_L_isBlock_b480 X hR Rt h
          · replace h := jif_t c h
            refine j_aload_n X dL_isBlock_453 1 rfl ?_
            refine j_iload_n X dL_isBlock_454 2 rfl ?_
            obtain ⟨⟨fs6, g6⟩, h⟩ := h
            refine j_callVi X [.int x1] [] (c_X8_renderBranchZ h) (T := TX8) (N := 11) g6 rfl jm_X8_renderBranch jw_1462 rfl ⟨rfl, rfl⟩ (by rw [hR]; decide) rfl (Nat.le_of_ble_eq_true rfl) dL_isBlock_455 (fun v6 w6 h => ?_)
            refine j_iconst X 2 dL_isBlock_458 (by decide) ?_
            refine j_iload X dL_isBlock_459 3 rfl ?_
            refine j_imul X dL_isBlock_461 ?_
            refine j_iconst X 1 dL_isBlock_462 (by decide) ?_
            refine j_iadd X dL_isBlock_463 ?_
            refine j_icmp_lt X 480 dL_isBlock_464 (by decide) (fun c => ?_) (fun c => ?_)
            · replace h := jif_t c h
              refine j_sub [] rfl ?_
              refine j_widen (k := 133) (n := 22072) (by omega) (by omega) ?_
              exact k_L_isBlock_b480 X hR Rt h
            · replace h := jif_f c h
              refine j_aload_n X dL_isBlock_467 1 rfl ?_
              refine j_iload_n X dL_isBlock_468 2 rfl ?_
              obtain ⟨⟨fs7, g7⟩, h⟩ := h
              refine j_callVi X [.int x1] [] (c_X8_renderBlockZ h) (T := TX8) (N := 11) g7 rfl jm_X8_renderBlock jw_1470 rfl ⟨rfl, rfl⟩ (by rw [hR]; decide) rfl (Nat.le_of_ble_eq_true rfl) dL_isBlock_469 (fun v7 w7 h => ?_)
              refine j_iconst X 3 dL_isBlock_472 (by decide) ?_
              refine j_icmp_lt X 480 dL_isBlock_473 (by decide) (fun c => ?_) (fun c => ?_)
              · replace h := jif_t c h
                refine j_sub [] rfl ?_
                refine j_widen (k := 133) (n := 22072) (by omega) (by omega) ?_
                exact k_L_isBlock_b480 X hR Rt h
              · replace h := jif_f c h
                refine j_iconst X 1 dL_isBlock_476 (by decide) ?_
                refine j_goto X 481 dL_isBlock_477 (by decide) ?_
                refine j_sub [] rfl ?_
                refine j_widen (k := 133) (n := 22072) (by omega) (by omega) ?_
                exact k_L_isBlock_b481 X hR Rt h
def w_L_isBlock_b400 (κ : Nat → Nat) (w : va_W) (a0 : Nat) (x1 : Int32) (x5 : Int32) (P : Int32 → va_W → Prop) : Prop :=
    w_L_isBlock_b401 κ w a0 x1 x5 0 P
set_option maxRecDepth 100000 in
set_option maxHeartbeats 4000000 in
theorem k_L_isBlock_b400 {Γ : jG} (X : jX Γ cL_isBlock 12 RL) (hR : jgR Γ = ({ frames := 24, cells := 133, slots := 22072, locals := 588 } : Room)) {P : Int32 → va_W → Prop} (Rt : jRt Γ cL_isBlock 12 133 22072 (some .boolean) (jPi P)) {w : va_W} {a0 : Nat} {x1 : Int32} {x5 : Int32} (h : w_L_isBlock_b400 (jgE Γ).2.2.2 w a0 x1 x5 P) : J Γ 12 w 25 148 400 [(0, .ref a0), (1, .int x1), (5, .int x5)] [] := by
  unfold w_L_isBlock_b400 at h
  refine j_iconst X 0 dL_isBlock_400 (by decide) ?_
  refine j_widen (k := 25) (n := 148) (by omega) (by omega) ?_
  exact k_L_isBlock_b401 X hR Rt h
def w_L_isBlock_b383 (κ : Nat → Nat) (w : va_W) (a0 : Nat) (x1 : Int32) (x5 : Int32) (s0 : Int32) (s1 : Int32) (P : Int32 → va_W → Prop) : Prop :=
    (if s1 = s0 then (jRc w a0 11 ∧ w_X8_repairsNeededZ κ w a0 x1 (fun v1 w1 => (if x5 < v1 then w_L_isBlock_b400 κ w1 a0 x1 x5 P else w_L_isBlock_b401 κ w1 a0 x1 x5 1 P))) else w_L_isBlock_b400 κ w a0 x1 x5 P)
set_option maxRecDepth 100000 in
set_option maxHeartbeats 4000000 in
theorem k_L_isBlock_b383 {Γ : jG} (X : jX Γ cL_isBlock 12 RL) (hR : jgR Γ = ({ frames := 24, cells := 133, slots := 22072, locals := 588 } : Room)) {P : Int32 → va_W → Prop} (Rt : jRt Γ cL_isBlock 12 133 22072 (some .boolean) (jPi P)) {w : va_W} {a0 : Nat} {x1 : Int32} {x5 : Int32} {s0 : Int32} {s1 : Int32} (h : w_L_isBlock_b383 (jgE Γ).2.2.2 w a0 x1 x5 s0 s1 P) : J Γ 12 w 25 148 383 [(0, .ref a0), (1, .int x1), (5, .int x5)] [.int s0, .int s1] := by
  unfold w_L_isBlock_b383 at h
  refine j_icmp_ne X 400 dL_isBlock_383 (by decide) (fun c => ?_) (fun c => ?_)
  · replace h := jif_f c h
    refine j_widen (k := 25) (n := 148) (by omega) (by omega) ?_
    exact k_L_isBlock_b400 X hR Rt h
  · replace h := jif_t c h
    refine j_aload_n X dL_isBlock_386 0 rfl ?_
    refine j_iload_n X dL_isBlock_387 1 rfl ?_
    obtain ⟨⟨fs1, g1⟩, h⟩ := h
    refine j_callVi X [.int x1] [] (c_X8_repairsNeededZ h) (T := TX8) (N := 11) g1 rfl jm_X8_repairsNeeded jw_1418 rfl ⟨rfl, rfl⟩ (by rw [hR]; decide) rfl (Nat.le_of_ble_eq_true rfl) dL_isBlock_388 (fun v1 w1 h => ?_)
    refine j_iload X dL_isBlock_391 2 rfl ?_
    refine j_icmp_gt X 400 dL_isBlock_393 (by decide) (fun c => ?_) (fun c => ?_)
    · replace h := jif_t c h
      refine j_widen (k := 25) (n := 148) (by omega) (by omega) ?_
      exact k_L_isBlock_b400 X hR Rt h
    · replace h := jif_f c h
      refine j_iconst X 1 dL_isBlock_396 (by decide) ?_
      refine j_goto X 401 dL_isBlock_397 (by decide) ?_
      refine j_widen (k := 25) (n := 148) (by omega) (by omega) ?_
      exact k_L_isBlock_b401 X hR Rt h
def w_L_isBlock_b370 (κ : Nat → Nat) (w : va_W) (a0 : Nat) (x1 : Int32) (x5 : Int32) (x7 : Int32) (s0 : Int32) (P : Int32 → va_W → Prop) : Prop :=
    (if x7 = (-1000) then w_L_isBlock_b383 κ w a0 x1 x5 0 s0 P else w_L_isBlock_b383 κ w a0 x1 x5 1 s0 P)
set_option maxRecDepth 100000 in
set_option maxHeartbeats 4000000 in
theorem k_L_isBlock_b370 {Γ : jG} (X : jX Γ cL_isBlock 12 RL) (hR : jgR Γ = ({ frames := 24, cells := 133, slots := 22072, locals := 588 } : Room)) {P : Int32 → va_W → Prop} (Rt : jRt Γ cL_isBlock 12 133 22072 (some .boolean) (jPi P)) {w : va_W} {a0 : Nat} {x1 : Int32} {x5 : Int32} {x7 : Int32} {s0 : Int32} (h : w_L_isBlock_b370 (jgE Γ).2.2.2 w a0 x1 x5 x7 s0 P) : J Γ 12 w 25 148 370 [(0, .ref a0), (1, .int x1), (5, .int x5), (7, .int x7)] [.int s0] := by
  unfold w_L_isBlock_b370 at h
  refine j_iload X dL_isBlock_370 3 rfl ?_
  refine j_sipush X (-1000) dL_isBlock_372 (by decide) ?_
  refine j_icmp_eq X 382 dL_isBlock_375 (by decide) (fun c => ?_) (fun c => ?_)
  · replace h := jif_t c h
    refine j_iconst X 0 dL_isBlock_382 (by decide) ?_
    refine j_sub [0, 1, 2] rfl ?_
    refine j_widen (k := 25) (n := 148) (by omega) (by omega) ?_
    exact k_L_isBlock_b383 X hR Rt h
  · replace h := jif_f c h
    refine j_iconst X 1 dL_isBlock_378 (by decide) ?_
    refine j_goto X 383 dL_isBlock_379 (by decide) ?_
    refine j_sub [0, 1, 2] rfl ?_
    refine j_widen (k := 25) (n := 148) (by omega) (by omega) ?_
    exact k_L_isBlock_b383 X hR Rt h
def w_L_isBlock_b357 (κ : Nat → Nat) (w : va_W) (a0 : Nat) (x1 : Int32) (x5 : Int32) (x7 : Int32) (P : Int32 → va_W → Prop) : Prop :=
    (jRc w a0 11 ∧ w_X8_repairsNeededZ κ w a0 x1 (fun v1 w1 => (if v1 ≤ 0 then w_L_isBlock_b370 κ w1 a0 x1 x5 x7 0 P else w_L_isBlock_b370 κ w1 a0 x1 x5 x7 1 P)))
set_option maxRecDepth 100000 in
set_option maxHeartbeats 4000000 in
theorem k_L_isBlock_b357 {Γ : jG} (X : jX Γ cL_isBlock 12 RL) (hR : jgR Γ = ({ frames := 24, cells := 133, slots := 22072, locals := 588 } : Room)) {P : Int32 → va_W → Prop} (Rt : jRt Γ cL_isBlock 12 133 22072 (some .boolean) (jPi P)) {w : va_W} {a0 : Nat} {x1 : Int32} {x5 : Int32} {x7 : Int32} (h : w_L_isBlock_b357 (jgE Γ).2.2.2 w a0 x1 x5 x7 P) : J Γ 12 w 25 148 357 [(0, .ref a0), (1, .int x1), (5, .int x5), (7, .int x7)] [] := by
  unfold w_L_isBlock_b357 at h
  refine j_aload_n X dL_isBlock_357 0 rfl ?_
  refine j_iload_n X dL_isBlock_358 1 rfl ?_
  obtain ⟨⟨fs1, g1⟩, h⟩ := h
  refine j_callVi X [.int x1] [] (c_X8_repairsNeededZ h) (T := TX8) (N := 11) g1 rfl jm_X8_repairsNeeded jw_1418 rfl ⟨rfl, rfl⟩ (by rw [hR]; decide) rfl (Nat.le_of_ble_eq_true rfl) dL_isBlock_359 (fun v1 w1 h => ?_)
  refine j_if_le X 369 dL_isBlock_362 (by decide) (fun c => ?_) (fun c => ?_)
  · replace h := jif_t c h
    refine j_iconst X 0 dL_isBlock_369 (by decide) ?_
    refine j_widen (k := 25) (n := 148) (by omega) (by omega) ?_
    exact k_L_isBlock_b370 X hR Rt h
  · replace h := jif_f c h
    refine j_iconst X 1 dL_isBlock_365 (by decide) ?_
    refine j_goto X 370 dL_isBlock_366 (by decide) ?_
    refine j_widen (k := 25) (n := 148) (by omega) (by omega) ?_
    exact k_L_isBlock_b370 X hR Rt h
def w_L_isBlock_b310 (κ : Nat → Nat) (w : va_W) (a0 : Nat) (x1 : Int32) (x2 : Int32) (x4 : Int32) (x5 : Int32) (x7 : Int32) (x8 : Int32) (x9 : Int32) (s0 : Int32) (P : Int32 → va_W → Prop) : Prop :=
    (if s0 = 0 then w_L_isBlock_b400 κ w a0 x1 x5 P else (jRc w a0 11 ∧ w_X8_childCountZ κ w a0 x1 (fun v1 w1 => (if v1 = x8 then (jRc w1 a0 11 ∧ w_X8_meltSizeZ κ w1 a0 x1 (fun v2 w2 => (if v2 = x9 then (if x4 = 0 then (jRc w2 a0 11 ∧ w_X8_hashOfZ κ w2 a0 x1 (fun v3 w3 => (if (jrem v3 4) = 0 then (if x1 ≤ x2 then w_L_isBlock_b400 κ w3 a0 x1 x5 P else w_L_isBlock_b357 κ w3 a0 x1 x5 x7 P) else w_L_isBlock_b400 κ w3 a0 x1 x5 P))) else w_L_isBlock_b357 κ w2 a0 x1 x5 x7 P) else w_L_isBlock_b400 κ w2 a0 x1 x5 P))) else w_L_isBlock_b400 κ w1 a0 x1 x5 P))))
set_option maxRecDepth 100000 in
set_option maxHeartbeats 4000000 in
theorem k_L_isBlock_b310 {Γ : jG} (X : jX Γ cL_isBlock 12 RL) (hR : jgR Γ = ({ frames := 24, cells := 133, slots := 22072, locals := 588 } : Room)) {P : Int32 → va_W → Prop} (Rt : jRt Γ cL_isBlock 12 133 22072 (some .boolean) (jPi P)) {w : va_W} {a0 : Nat} {x1 : Int32} {x2 : Int32} {x4 : Int32} {x5 : Int32} {x7 : Int32} {x8 : Int32} {x9 : Int32} {s0 : Int32} (h : w_L_isBlock_b310 (jgE Γ).2.2.2 w a0 x1 x2 x4 x5 x7 x8 x9 s0 P) : J Γ 12 w 25 148 310 [(0, .ref a0), (1, .int x1), (2, .int x2), (4, .int x4), (5, .int x5), (7, .int x7), (8, .int x8), (9, .int x9)] [.int s0] := by
  unfold w_L_isBlock_b310 at h
  refine j_istore X [(10, .int s0), (0, .ref a0), (1, .int x1), (2, .int x2), (4, .int x4), (5, .int x5), (7, .int x7), (8, .int x8), (9, .int x9)] dL_isBlock_310 (by decide) rfl ?_
  refine j_iload X dL_isBlock_312 0 rfl ?_
  refine j_if_eq X 400 dL_isBlock_314 (by decide) (fun c => ?_) (fun c => ?_)
  · replace h := jif_t c h
    refine j_sub [1, 2, 5] rfl ?_
    refine j_widen (k := 25) (n := 148) (by omega) (by omega) ?_
    exact k_L_isBlock_b400 X hR Rt h
  · replace h := jif_f c h
    refine j_aload_n X dL_isBlock_317 1 rfl ?_
    refine j_iload_n X dL_isBlock_318 2 rfl ?_
    obtain ⟨⟨fs1, g1⟩, h⟩ := h
    refine j_callVi X [.int x1] [] (c_X8_childCountZ h) (T := TX8) (N := 11) g1 rfl jm_X8_childCount jw_1351 rfl ⟨rfl, rfl⟩ (by rw [hR]; decide) rfl (Nat.le_of_ble_eq_true rfl) dL_isBlock_319 (fun v1 w1 h => ?_)
    refine j_iload X dL_isBlock_322 7 rfl ?_
    refine j_icmp_ne X 400 dL_isBlock_324 (by decide) (fun c => ?_) (fun c => ?_)
    · replace h := jif_f c h
      refine j_sub [1, 2, 5] rfl ?_
      refine j_widen (k := 25) (n := 148) (by omega) (by omega) ?_
      exact k_L_isBlock_b400 X hR Rt h
    · replace h := jif_t c h
      refine j_aload_n X dL_isBlock_327 1 rfl ?_
      refine j_iload_n X dL_isBlock_328 2 rfl ?_
      obtain ⟨⟨fs2, g2⟩, h⟩ := h
      refine j_callVi X [.int x1] [] (c_X8_meltSizeZ h) (T := TX8) (N := 11) g2 rfl jm_X8_meltSize jw_1409 rfl ⟨rfl, rfl⟩ (by rw [hR]; decide) rfl (Nat.le_of_ble_eq_true rfl) dL_isBlock_329 (fun v2 w2 h => ?_)
      refine j_iload X dL_isBlock_332 8 rfl ?_
      refine j_icmp_ne X 400 dL_isBlock_334 (by decide) (fun c => ?_) (fun c => ?_)
      · replace h := jif_f c h
        refine j_sub [1, 2, 5] rfl ?_
        refine j_widen (k := 25) (n := 148) (by omega) (by omega) ?_
        exact k_L_isBlock_b400 X hR Rt h
      · replace h := jif_t c h
        refine j_iload X dL_isBlock_337 4 rfl ?_
        refine j_if_ne X 357 dL_isBlock_339 (by decide) (fun c => ?_) (fun c => ?_)
        · replace h := jif_f c h
          refine j_sub [1, 2, 5, 6] rfl ?_
          refine j_widen (k := 25) (n := 148) (by omega) (by omega) ?_
          exact k_L_isBlock_b357 X hR Rt h
        · replace h := jif_t c h
          refine j_aload_n X dL_isBlock_342 1 rfl ?_
          refine j_iload_n X dL_isBlock_343 2 rfl ?_
          obtain ⟨⟨fs3, g3⟩, h⟩ := h
          refine j_callVi X [.int x1] [] (c_X8_hashOfZ h) (T := TX8) (N := 11) g3 rfl jm_X8_hashOf jw_1274 rfl ⟨rfl, rfl⟩ (by rw [hR]; decide) rfl (Nat.le_of_ble_eq_true rfl) dL_isBlock_344 (fun v3 w3 h => ?_)
          refine j_iconst X 4 dL_isBlock_347 (by decide) ?_
          refine j_irem X dL_isBlock_348 (by decide) ?_
          refine j_if_ne X 400 dL_isBlock_349 (by decide) (fun c => ?_) (fun c => ?_)
          · replace h := jif_f c h
            refine j_sub [1, 2, 5] rfl ?_
            refine j_widen (k := 25) (n := 148) (by omega) (by omega) ?_
            exact k_L_isBlock_b400 X hR Rt h
          · replace h := jif_t c h
            refine j_iload_n X dL_isBlock_352 3 rfl ?_
            refine j_iload_n X dL_isBlock_353 2 rfl ?_
            refine j_icmp_ge X 400 dL_isBlock_354 (by decide) (fun c => ?_) (fun c => ?_)
            · replace h := jif_t c h
              refine j_sub [1, 2, 5] rfl ?_
              refine j_widen (k := 25) (n := 148) (by omega) (by omega) ?_
              exact k_L_isBlock_b400 X hR Rt h
            · replace h := jif_f c h
              refine j_sub [1, 2, 5, 6] rfl ?_
              refine j_widen (k := 25) (n := 148) (by omega) (by omega) ?_
              exact k_L_isBlock_b357 X hR Rt h
def w_L_isBlock_b309 (κ : Nat → Nat) (w : va_W) (a0 : Nat) (x1 : Int32) (x2 : Int32) (x4 : Int32) (x5 : Int32) (x7 : Int32) (x8 : Int32) (x9 : Int32) (P : Int32 → va_W → Prop) : Prop :=
    w_L_isBlock_b310 κ w a0 x1 x2 x4 x5 x7 x8 x9 0 P
set_option maxRecDepth 100000 in
set_option maxHeartbeats 4000000 in
theorem k_L_isBlock_b309 {Γ : jG} (X : jX Γ cL_isBlock 12 RL) (hR : jgR Γ = ({ frames := 24, cells := 133, slots := 22072, locals := 588 } : Room)) {P : Int32 → va_W → Prop} (Rt : jRt Γ cL_isBlock 12 133 22072 (some .boolean) (jPi P)) {w : va_W} {a0 : Nat} {x1 : Int32} {x2 : Int32} {x4 : Int32} {x5 : Int32} {x7 : Int32} {x8 : Int32} {x9 : Int32} (h : w_L_isBlock_b309 (jgE Γ).2.2.2 w a0 x1 x2 x4 x5 x7 x8 x9 P) : J Γ 12 w 25 148 309 [(0, .ref a0), (1, .int x1), (2, .int x2), (4, .int x4), (5, .int x5), (7, .int x7), (8, .int x8), (9, .int x9)] [] := by
  unfold w_L_isBlock_b309 at h
  refine j_iconst X 0 dL_isBlock_309 (by decide) ?_
  refine j_widen (k := 25) (n := 148) (by omega) (by omega) ?_
  exact k_L_isBlock_b310 X hR Rt h
def w_L_isBlock_b302 (κ : Nat → Nat) (w : va_W) (a0 : Nat) (x1 : Int32) (x2 : Int32) (x4 : Int32) (x5 : Int32) (x7 : Int32) (x8 : Int32) (x9 : Int32) (s0 : Int32) (s1 : Int32) (P : Int32 → va_W → Prop) : Prop :=
    (if s1 = s0 then w_L_isBlock_b310 κ w a0 x1 x2 x4 x5 x7 x8 x9 1 P else w_L_isBlock_b309 κ w a0 x1 x2 x4 x5 x7 x8 x9 P)
set_option maxRecDepth 100000 in
set_option maxHeartbeats 4000000 in
theorem k_L_isBlock_b302 {Γ : jG} (X : jX Γ cL_isBlock 12 RL) (hR : jgR Γ = ({ frames := 24, cells := 133, slots := 22072, locals := 588 } : Room)) {P : Int32 → va_W → Prop} (Rt : jRt Γ cL_isBlock 12 133 22072 (some .boolean) (jPi P)) {w : va_W} {a0 : Nat} {x1 : Int32} {x2 : Int32} {x4 : Int32} {x5 : Int32} {x7 : Int32} {x8 : Int32} {x9 : Int32} {s0 : Int32} {s1 : Int32} (h : w_L_isBlock_b302 (jgE Γ).2.2.2 w a0 x1 x2 x4 x5 x7 x8 x9 s0 s1 P) : J Γ 12 w 25 148 302 [(0, .ref a0), (1, .int x1), (2, .int x2), (4, .int x4), (5, .int x5), (7, .int x7), (8, .int x8), (9, .int x9)] [.int s0, .int s1] := by
  unfold w_L_isBlock_b302 at h
  refine j_icmp_ne X 309 dL_isBlock_302 (by decide) (fun c => ?_) (fun c => ?_)
  · replace h := jif_f c h
    refine j_widen (k := 25) (n := 148) (by omega) (by omega) ?_
    exact k_L_isBlock_b309 X hR Rt h
  · replace h := jif_t c h
    refine j_iconst X 1 dL_isBlock_305 (by decide) ?_
    refine j_goto X 310 dL_isBlock_306 (by decide) ?_
    refine j_widen (k := 25) (n := 148) (by omega) (by omega) ?_
    exact k_L_isBlock_b310 X hR Rt h
def w_L_isBlock_b221 (κ : Nat → Nat) (w : va_W) (a0 : Nat) (x1 : Int32) (x2 : Int32) (x3 : Int32) (x4 : Int32) (x5 : Int32) (x6 : Int32) (x7 : Int32) (x8 : Int32) (x9 : Int32) (s0 : Int32) (P : Int32 → va_W → Prop) : Prop :=
    (if s0 = x4 then (jRc w a0 11 ∧ w_X8_rootOfFlakesZ κ w a0 x1 (fun v1 w1 => (if v1 = x3 then (jRc w1 a0 11 ∧ w_X8_rootOfFlakesByHalvesZ κ w1 a0 x1 (fun v2 w2 => (if v2 = x3 then (jRc w2 a0 11 ∧ w_X8_heightOfZ κ w2 a0 x1 (fun v3 w3 => (if v3 = x5 then (jRc w3 a0 11 ∧ w_X8_heightFromRootZ κ w3 a0 x1 (fun v4 w4 => (if v4 = x5 then (jRc w4 a0 11 ∧ w_X8_isValidZ κ w4 a0 x1 (fun v5 w5 => (if v5 = x6 then w_L_firstInvalid κ w5 a0 x1 (fun v6 w6 => (if v6 = x7 then (jRc w6 a0 11 ∧ w_X8_isBranchValidZ κ w6 a0 x1 (fun v7 w7 => (if x7 = (-1000) then w_L_isBlock_b302 κ w7 a0 x1 x2 x4 x5 x7 x8 x9 1 v7 P else w_L_isBlock_b302 κ w7 a0 x1 x2 x4 x5 x7 x8 x9 0 v7 P))) else w_L_isBlock_b309 κ w6 a0 x1 x2 x4 x5 x7 x8 x9 P)) else w_L_isBlock_b309 κ w5 a0 x1 x2 x4 x5 x7 x8 x9 P))) else w_L_isBlock_b309 κ w4 a0 x1 x2 x4 x5 x7 x8 x9 P))) else w_L_isBlock_b309 κ w3 a0 x1 x2 x4 x5 x7 x8 x9 P))) else w_L_isBlock_b309 κ w2 a0 x1 x2 x4 x5 x7 x8 x9 P))) else w_L_isBlock_b309 κ w1 a0 x1 x2 x4 x5 x7 x8 x9 P))) else w_L_isBlock_b309 κ w a0 x1 x2 x4 x5 x7 x8 x9 P)
set_option maxRecDepth 100000 in
set_option maxHeartbeats 4000000 in
theorem k_L_isBlock_b221 {Γ : jG} (X : jX Γ cL_isBlock 12 RL) (hR : jgR Γ = ({ frames := 24, cells := 133, slots := 22072, locals := 588 } : Room)) {P : Int32 → va_W → Prop} (Rt : jRt Γ cL_isBlock 12 133 22072 (some .boolean) (jPi P)) {w : va_W} {a0 : Nat} {x1 : Int32} {x2 : Int32} {x3 : Int32} {x4 : Int32} {x5 : Int32} {x6 : Int32} {x7 : Int32} {x8 : Int32} {x9 : Int32} {s0 : Int32} (h : w_L_isBlock_b221 (jgE Γ).2.2.2 w a0 x1 x2 x3 x4 x5 x6 x7 x8 x9 s0 P) : J Γ 12 w 23 136 221 [(0, .ref a0), (1, .int x1), (2, .int x2), (3, .int x3), (4, .int x4), (5, .int x5), (6, .int x6), (7, .int x7), (8, .int x8), (9, .int x9)] [.int s0] := by
  unfold w_L_isBlock_b221 at h
  refine j_iload X dL_isBlock_221 4 rfl ?_
  refine j_icmp_ne X 309 dL_isBlock_223 (by decide) (fun c => ?_) (fun c => ?_)
  · replace h := jif_f c h
    refine j_sub [0, 1, 2, 4, 5, 7, 8, 9] rfl ?_
    refine j_widen (k := 25) (n := 148) (by omega) (by omega) ?_
    exact k_L_isBlock_b309 X hR Rt h
  · replace h := jif_t c h
    refine j_aload_n X dL_isBlock_226 0 rfl ?_
    refine j_iload_n X dL_isBlock_227 1 rfl ?_
    obtain ⟨⟨fs1, g1⟩, h⟩ := h
    refine j_callVi X [.int x1] [] (c_X8_rootOfFlakesZ h) (T := TX8) (N := 11) g1 rfl jm_X8_rootOfFlakes jw_1395 rfl ⟨rfl, rfl⟩ (by rw [hR]; decide) rfl (Nat.le_of_ble_eq_true rfl) dL_isBlock_228 (fun v1 w1 h => ?_)
    refine j_iload_n X dL_isBlock_231 3 rfl ?_
    refine j_icmp_ne X 309 dL_isBlock_232 (by decide) (fun c => ?_) (fun c => ?_)
    · replace h := jif_f c h
      refine j_sub [0, 1, 2, 4, 5, 7, 8, 9] rfl ?_
      refine j_widen (k := 25) (n := 148) (by omega) (by omega) ?_
      exact k_L_isBlock_b309 X hR Rt h
    · replace h := jif_t c h
      refine j_aload_n X dL_isBlock_235 0 rfl ?_
      refine j_iload_n X dL_isBlock_236 1 rfl ?_
      obtain ⟨⟨fs2, g2⟩, h⟩ := h
      refine j_callVi X [.int x1] [] (c_X8_rootOfFlakesByHalvesZ h) (T := TX8) (N := 11) g2 rfl jm_X8_rootOfFlakesByHalves jw_1399 rfl ⟨rfl, rfl⟩ (by rw [hR]; decide) rfl (Nat.le_of_ble_eq_true rfl) dL_isBlock_237 (fun v2 w2 h => ?_)
      refine j_iload_n X dL_isBlock_240 3 rfl ?_
      refine j_icmp_ne X 309 dL_isBlock_241 (by decide) (fun c => ?_) (fun c => ?_)
      · replace h := jif_f c h
        refine j_sub [0, 1, 2, 4, 5, 7, 8, 9] rfl ?_
        refine j_widen (k := 25) (n := 148) (by omega) (by omega) ?_
        exact k_L_isBlock_b309 X hR Rt h
      · replace h := jif_t c h
        refine j_aload_n X dL_isBlock_244 0 rfl ?_
        refine j_iload_n X dL_isBlock_245 1 rfl ?_
        obtain ⟨⟨fs3, g3⟩, h⟩ := h
        refine j_callVi X [.int x1] [] (c_X8_heightOfZ h) (T := TX8) (N := 11) g3 rfl jm_X8_heightOf jw_1373 rfl ⟨rfl, rfl⟩ (by rw [hR]; decide) rfl (Nat.le_of_ble_eq_true rfl) dL_isBlock_246 (fun v3 w3 h => ?_)
        refine j_iload X dL_isBlock_249 5 rfl ?_
        refine j_icmp_ne X 309 dL_isBlock_251 (by decide) (fun c => ?_) (fun c => ?_)
        · replace h := jif_f c h
          refine j_sub [0, 1, 2, 4, 5, 7, 8, 9] rfl ?_
          refine j_widen (k := 25) (n := 148) (by omega) (by omega) ?_
          exact k_L_isBlock_b309 X hR Rt h
        · replace h := jif_t c h
          refine j_aload_n X dL_isBlock_254 0 rfl ?_
          refine j_iload_n X dL_isBlock_255 1 rfl ?_
          obtain ⟨⟨fs4, g4⟩, h⟩ := h
          refine j_callVi X [.int x1] [] (c_X8_heightFromRootZ h) (T := TX8) (N := 11) g4 rfl jm_X8_heightFromRoot jw_1404 rfl ⟨rfl, rfl⟩ (by rw [hR]; decide) rfl (Nat.le_of_ble_eq_true rfl) dL_isBlock_256 (fun v4 w4 h => ?_)
          refine j_iload X dL_isBlock_259 5 rfl ?_
          refine j_icmp_ne X 309 dL_isBlock_261 (by decide) (fun c => ?_) (fun c => ?_)
          · replace h := jif_f c h
            refine j_sub [0, 1, 2, 4, 5, 7, 8, 9] rfl ?_
            refine j_widen (k := 25) (n := 148) (by omega) (by omega) ?_
            exact k_L_isBlock_b309 X hR Rt h
          · replace h := jif_t c h
            refine j_aload_n X dL_isBlock_264 0 rfl ?_
            refine j_iload_n X dL_isBlock_265 1 rfl ?_
            obtain ⟨⟨fs5, g5⟩, h⟩ := h
            refine j_callVi X [.int x1] [] (c_X8_isValidZ h) (T := TX8) (N := 11) g5 rfl jm_X8_isValid jw_1359 rfl ⟨rfl, rfl⟩ (by rw [hR]; decide) rfl (Nat.le_of_ble_eq_true rfl) dL_isBlock_266 (fun v5 w5 h => ?_)
            refine j_iload X dL_isBlock_269 6 rfl ?_
            refine j_icmp_ne X 309 dL_isBlock_271 (by decide) (fun c => ?_) (fun c => ?_)
            · replace h := jif_f c h
              refine j_sub [0, 1, 2, 4, 5, 7, 8, 9] rfl ?_
              refine j_widen (k := 25) (n := 148) (by omega) (by omega) ?_
              exact k_L_isBlock_b309 X hR Rt h
            · replace h := jif_t c h
              refine j_aload_n X dL_isBlock_274 0 rfl ?_
              refine j_iload_n X dL_isBlock_275 1 rfl ?_
              refine j_callWi X [.ref a0, .int x1] [] (c_L_firstInvalid h) jmw_L_firstInvalid jw_1382 rfl ⟨rfl, rfl⟩ (by rw [hR]; decide) rfl (Nat.le_of_ble_eq_true rfl) dL_isBlock_276 (fun v6 w6 h => ?_)
              refine j_iload X dL_isBlock_279 7 rfl ?_
              refine j_icmp_ne X 309 dL_isBlock_281 (by decide) (fun c => ?_) (fun c => ?_)
              · replace h := jif_f c h
                refine j_sub [0, 1, 2, 4, 5, 7, 8, 9] rfl ?_
                refine j_widen (k := 25) (n := 148) (by omega) (by omega) ?_
                exact k_L_isBlock_b309 X hR Rt h
              · replace h := jif_t c h
                refine j_aload_n X dL_isBlock_284 0 rfl ?_
                refine j_iload_n X dL_isBlock_285 1 rfl ?_
                obtain ⟨⟨fs7, g7⟩, h⟩ := h
                refine j_callVi X [.int x1] [] (c_X8_isBranchValidZ h) (T := TX8) (N := 11) g7 rfl jm_X8_isBranchValid jw_1346 rfl ⟨rfl, rfl⟩ (by rw [hR]; decide) rfl (Nat.le_of_ble_eq_true rfl) dL_isBlock_286 (fun v7 w7 h => ?_)
                refine j_iload X dL_isBlock_289 7 rfl ?_
                refine j_sipush X (-1000) dL_isBlock_291 (by decide) ?_
                refine j_icmp_ne X 301 dL_isBlock_294 (by decide) (fun c => ?_) (fun c => ?_)
                · replace h := jif_f c h
                  refine j_iconst X 0 dL_isBlock_301 (by decide) ?_
                  refine j_sub [0, 1, 2, 4, 5, 7, 8, 9] rfl ?_
                  refine j_widen (k := 25) (n := 148) (by omega) (by omega) ?_
                  exact k_L_isBlock_b302 X hR Rt h
                · replace h := jif_t c h
                  refine j_iconst X 1 dL_isBlock_297 (by decide) ?_
                  refine j_goto X 302 dL_isBlock_298 (by decide) ?_
                  refine j_sub [0, 1, 2, 4, 5, 7, 8, 9] rfl ?_
                  refine j_widen (k := 25) (n := 148) (by omega) (by omega) ?_
                  exact k_L_isBlock_b302 X hR Rt h
def w_L_isBlock_b200 (κ : Nat → Nat) (w : va_W) (a0 : Nat) (x1 : Int32) (x2 : Int32) (x3 : Int32) (x4 : Int32) (x5 : Int32) (x6 : Int32) (x7 : Int32) (x8 : Int32) (x10 : Int32) (s0 : Int32) (s1 : Int32) (K146 : va_W → Nat → Int32 → Int32 → Int32 → Int32 → Int32 → Int32 → Int32 → Int32 → Int32 → Int32 → Prop) (P : Int32 → va_W → Prop) : Prop :=
    K146 w a0 x1 x2 x3 x4 x5 x6 x7 x8 (s1 + s0) (x10 + 1)
set_option maxRecDepth 100000 in
set_option maxHeartbeats 4000000 in
theorem k_L_isBlock_b200 {N : Nat} (hN : N + 1 ≤ 17) {Γ : jG} (X : jX Γ cL_isBlock 12 RL) (hR : jgR Γ = ({ frames := 24, cells := 133, slots := 22072, locals := 588 } : Room)) {P : Int32 → va_W → Prop} (Rt : jRt Γ cL_isBlock 12 133 22072 (some .boolean) (jPi P)) {K146 : va_W → Nat → Int32 → Int32 → Int32 → Int32 → Int32 → Int32 → Int32 → Int32 → Int32 → Int32 → Prop} (hK146 : ∀ (w : va_W) (a0 : Nat) (x1 : Int32) (x2 : Int32) (x3 : Int32) (x4 : Int32) (x5 : Int32) (x6 : Int32) (x7 : Int32) (x8 : Int32) (x9 : Int32) (x10 : Int32), K146 w a0 x1 x2 x3 x4 x5 x6 x7 x8 x9 x10 → J Γ 12 w (6 + (17 - N) * 1 + 0) (34 + (17 - N) * 6 + 0) 146 [(0, .ref a0), (1, .int x1), (2, .int x2), (3, .int x3), (4, .int x4), (5, .int x5), (6, .int x6), (7, .int x7), (8, .int x8), (9, .int x9), (10, .int x10)] []) {w : va_W} {a0 : Nat} {x1 : Int32} {x2 : Int32} {x3 : Int32} {x4 : Int32} {x5 : Int32} {x6 : Int32} {x7 : Int32} {x8 : Int32} {x10 : Int32} {s0 : Int32} {s1 : Int32} (h : w_L_isBlock_b200 (jgE Γ).2.2.2 w a0 x1 x2 x3 x4 x5 x6 x7 x8 x10 s0 s1 K146 P) : J Γ 12 w (6 + (17 - (N + 1)) * 1 + 1) (34 + (17 - (N + 1)) * 6 + 6) 200 [(0, .ref a0), (1, .int x1), (2, .int x2), (3, .int x3), (4, .int x4), (5, .int x5), (6, .int x6), (7, .int x7), (8, .int x8), (10, .int x10)] [.int s0, .int s1] := by
  unfold w_L_isBlock_b200 at h
  refine j_iadd X dL_isBlock_200 ?_
  refine j_istore X [(9, .int (s1 + s0)), (0, .ref a0), (1, .int x1), (2, .int x2), (3, .int x3), (4, .int x4), (5, .int x5), (6, .int x6), (7, .int x7), (8, .int x8), (10, .int x10)] dL_isBlock_201 (by decide) rfl ?_
  refine j_iinc X (x10 + 1) [(10, .int (x10 + 1)), (9, .int (s1 + s0)), (0, .ref a0), (1, .int x1), (2, .int x2), (3, .int x3), (4, .int x4), (5, .int x5), (6, .int x6), (7, .int x7), (8, .int x8)] dL_isBlock_203 10 rfl rfl (by decide) rfl ?_
  refine j_goto X 146 dL_isBlock_206 (by decide) ?_
  refine j_sub [2, 3, 4, 5, 6, 7, 8, 9, 10, 1, 0] rfl ?_
  refine j_widen (k := (6 + (17 - N) * 1 + 0)) (n := (34 + (17 - N) * 6 + 0)) (by omega) (by omega) ?_
  exact hK146 _ _ _ _ _ _ _ _ _ _ _ _ h
def w_L_isBlock_b180 (κ : Nat → Nat) (w : va_W) (a0 : Nat) (x1 : Int32) (x2 : Int32) (x3 : Int32) (x4 : Int32) (x5 : Int32) (x6 : Int32) (x7 : Int32) (x9 : Int32) (x10 : Int32) (x11 : Int32) (s0 : Int32) (s1 : Int32) (K146 : va_W → Nat → Int32 → Int32 → Int32 → Int32 → Int32 → Int32 → Int32 → Int32 → Int32 → Int32 → Prop) (P : Int32 → va_W → Prop) : Prop :=
    (jRc w a0 11 ∧ w_X8_isInBranchZ κ w a0 x1 x11 (fun v1 w1 => (if v1 = 0 then w_L_isBlock_b200 κ w1 a0 x1 x2 x3 x4 x5 x6 x7 (s1 + s0) x10 0 x9 K146 P else w_L_isBlock_b200 κ w1 a0 x1 x2 x3 x4 x5 x6 x7 (s1 + s0) x10 1 x9 K146 P)))
set_option maxRecDepth 100000 in
set_option maxHeartbeats 4000000 in
theorem k_L_isBlock_b180 {N : Nat} (hN : N + 1 ≤ 17) {Γ : jG} (X : jX Γ cL_isBlock 12 RL) (hR : jgR Γ = ({ frames := 24, cells := 133, slots := 22072, locals := 588 } : Room)) {P : Int32 → va_W → Prop} (Rt : jRt Γ cL_isBlock 12 133 22072 (some .boolean) (jPi P)) {K146 : va_W → Nat → Int32 → Int32 → Int32 → Int32 → Int32 → Int32 → Int32 → Int32 → Int32 → Int32 → Prop} (hK146 : ∀ (w : va_W) (a0 : Nat) (x1 : Int32) (x2 : Int32) (x3 : Int32) (x4 : Int32) (x5 : Int32) (x6 : Int32) (x7 : Int32) (x8 : Int32) (x9 : Int32) (x10 : Int32), K146 w a0 x1 x2 x3 x4 x5 x6 x7 x8 x9 x10 → J Γ 12 w (6 + (17 - N) * 1 + 0) (34 + (17 - N) * 6 + 0) 146 [(0, .ref a0), (1, .int x1), (2, .int x2), (3, .int x3), (4, .int x4), (5, .int x5), (6, .int x6), (7, .int x7), (8, .int x8), (9, .int x9), (10, .int x10)] []) {w : va_W} {a0 : Nat} {x1 : Int32} {x2 : Int32} {x3 : Int32} {x4 : Int32} {x5 : Int32} {x6 : Int32} {x7 : Int32} {x9 : Int32} {x10 : Int32} {x11 : Int32} {s0 : Int32} {s1 : Int32} (h : w_L_isBlock_b180 (jgE Γ).2.2.2 w a0 x1 x2 x3 x4 x5 x6 x7 x9 x10 x11 s0 s1 K146 P) : J Γ 12 w (6 + (17 - (N + 1)) * 1 + 1) (34 + (17 - (N + 1)) * 6 + 6) 180 [(0, .ref a0), (1, .int x1), (2, .int x2), (3, .int x3), (4, .int x4), (5, .int x5), (6, .int x6), (7, .int x7), (9, .int x9), (10, .int x10), (11, .int x11)] [.int s0, .int s1] := by
  unfold w_L_isBlock_b180 at h
  refine j_iadd X dL_isBlock_180 ?_
  refine j_istore X [(8, .int (s1 + s0)), (0, .ref a0), (1, .int x1), (2, .int x2), (3, .int x3), (4, .int x4), (5, .int x5), (6, .int x6), (7, .int x7), (9, .int x9), (10, .int x10), (11, .int x11)] dL_isBlock_181 (by decide) rfl ?_
  refine j_iload X dL_isBlock_183 9 rfl ?_
  refine j_aload_n X dL_isBlock_185 1 rfl ?_
  refine j_iload_n X dL_isBlock_186 2 rfl ?_
  refine j_iload X dL_isBlock_187 11 rfl ?_
  obtain ⟨⟨fs1, g1⟩, h⟩ := h
  refine j_callVi X [.int x1, .int x11] [.int x9] (c_X8_isInBranchZ h) (T := TX8) (N := 11) g1 rfl jm_X8_isInBranch jw_1390 rfl ⟨rfl, rfl⟩ (by rw [hR]; exact ⟨⟨by decide, by decide⟩, by simp only []; omega, by simp only []; omega⟩) rfl (Nat.le_of_ble_eq_true rfl) dL_isBlock_189 (fun v1 w1 h => ?_)
  refine j_if_eq X 199 dL_isBlock_192 (by decide) (fun c => ?_) (fun c => ?_)
  · replace h := jif_t c h
    refine j_iconst X 0 dL_isBlock_199 (by decide) ?_
    refine j_sub [1, 2, 3, 4, 5, 6, 7, 8, 0, 10] rfl ?_
    refine j_widen (k := (6 + (17 - (N + 1)) * 1 + 1)) (n := (34 + (17 - (N + 1)) * 6 + 6)) (by omega) (by omega) ?_
    exact k_L_isBlock_b200 hN X hR Rt hK146 h
  · replace h := jif_f c h
    refine j_iconst X 1 dL_isBlock_195 (by decide) ?_
    refine j_goto X 200 dL_isBlock_196 (by decide) ?_
    refine j_sub [1, 2, 3, 4, 5, 6, 7, 8, 0, 10] rfl ?_
    refine j_widen (k := (6 + (17 - (N + 1)) * 1 + 1)) (n := (34 + (17 - (N + 1)) * 6 + 6)) (by omega) (by omega) ?_
    exact k_L_isBlock_b200 hN X hR Rt hK146 h
def w_L_isBlock_b146 : Nat → (κ : Nat → Nat) → (w : va_W) → (a0 : Nat) → (x1 : Int32) → (x2 : Int32) → (x3 : Int32) → (x4 : Int32) → (x5 : Int32) → (x6 : Int32) → (x7 : Int32) → (x8 : Int32) → (x9 : Int32) → (x10 : Int32) → (P : Int32 → va_W → Prop) → Prop
  | 0, _, _, _, _, _, _, _, _, _, _, _, _, _, _ => False
  | n + 1, κ, w, a0, x1, x2, x3, x4, x5, x6, x7, x8, x9, x10, P =>
    (jRc w a0 11 ∧ w_X8_blockCount κ w a0 (fun v1 w1 => (if v1 ≤ x10 then (if x2 = (-1000) then w_L_isBlock_b221 κ w1 a0 x1 x2 x3 x4 x5 x6 x7 x8 x9 1 P else w_L_isBlock_b221 κ w1 a0 x1 x2 x3 x4 x5 x6 x7 x8 x9 0 P) else w_L_blockAt κ w1 a0 x10 (fun v2 w2 => w_L_parentOf κ w2 a0 v2 (fun v3 w3 => (if v3 = x1 then w_L_isBlock_b180 κ w3 a0 x1 x2 x3 x4 x5 x6 x7 x9 x10 v2 1 x8 (fun w_ z_a0 z_x1 z_x2 z_x3 z_x4 z_x5 z_x6 z_x7 z_x8 z_x9 z_x10 => w_L_isBlock_b146 n κ w_ z_a0 z_x1 z_x2 z_x3 z_x4 z_x5 z_x6 z_x7 z_x8 z_x9 z_x10 P) P else w_L_isBlock_b180 κ w3 a0 x1 x2 x3 x4 x5 x6 x7 x9 x10 v2 0 x8 (fun w_ z_a0 z_x1 z_x2 z_x3 z_x4 z_x5 z_x6 z_x7 z_x8 z_x9 z_x10 => w_L_isBlock_b146 n κ w_ z_a0 z_x1 z_x2 z_x3 z_x4 z_x5 z_x6 z_x7 z_x8 z_x9 z_x10 P) P))))))
set_option maxRecDepth 100000 in
set_option maxHeartbeats 4000000 in
theorem k_L_isBlock_b146 {Γ : jG} (X : jX Γ cL_isBlock 12 RL) (hR : jgR Γ = ({ frames := 24, cells := 133, slots := 22072, locals := 588 } : Room)) {P : Int32 → va_W → Prop} (Rt : jRt Γ cL_isBlock 12 133 22072 (some .boolean) (jPi P)) : ∀ (n : Nat) (hN : n ≤ 17) {w : va_W} {a0 : Nat} {x1 : Int32} {x2 : Int32} {x3 : Int32} {x4 : Int32} {x5 : Int32} {x6 : Int32} {x7 : Int32} {x8 : Int32} {x9 : Int32} {x10 : Int32} (h : w_L_isBlock_b146 n (jgE Γ).2.2.2 w a0 x1 x2 x3 x4 x5 x6 x7 x8 x9 x10 P), J Γ 12 w (6 + (17 - n) * 1 + 0) (34 + (17 - n) * 6 + 0) 146 [(0, .ref a0), (1, .int x1), (2, .int x2), (3, .int x3), (4, .int x4), (5, .int x5), (6, .int x6), (7, .int x7), (8, .int x8), (9, .int x9), (10, .int x10)] [] := by
  intro n
  induction n with
  | zero => intro hN w a0 x1 x2 x3 x4 x5 x6 x7 x8 x9 x10 h; exact False.elim h
  | succ n ih =>
    intro hN w a0 x1 x2 x3 x4 x5 x6 x7 x8 x9 x10 h
    rw [w_L_isBlock_b146] at h
    refine j_iload X dL_isBlock_146 10 rfl ?_
    refine j_aload_n X dL_isBlock_148 0 rfl ?_
    obtain ⟨⟨fs1, g1⟩, h⟩ := h
    refine j_callVi X [] [.int x10] (c_X8_blockCount h) (T := TX8) (N := 11) g1 rfl jm_X8_blockCount jw_1250 rfl ⟨rfl, rfl⟩ (by rw [hR]; exact ⟨⟨by decide, by decide⟩, by simp only []; omega, by simp only []; omega⟩) rfl (Nat.le_of_ble_eq_true rfl) dL_isBlock_149 (fun v1 w1 h => ?_)
    refine j_icmp_ge X 209 dL_isBlock_152 (by decide) (fun c => ?_) (fun c => ?_)
    · replace h := jif_t c h
      refine j_iload_n X dL_isBlock_209 2 rfl ?_
      refine j_sipush X (-1000) dL_isBlock_210 (by decide) ?_
      refine j_icmp_ne X 220 dL_isBlock_213 (by decide) (fun c => ?_) (fun c => ?_)
      · replace h := jif_f c h
        refine j_iconst X 0 dL_isBlock_220 (by decide) ?_
        refine j_sub [0, 1, 2, 3, 4, 5, 6, 7, 8, 9] rfl ?_
        refine j_widen (k := 23) (n := 136) (by omega) (by omega) ?_
        exact k_L_isBlock_b221 X hR Rt h
      · replace h := jif_t c h
        refine j_iconst X 1 dL_isBlock_216 (by decide) ?_
        refine j_goto X 221 dL_isBlock_217 (by decide) ?_
        refine j_sub [0, 1, 2, 3, 4, 5, 6, 7, 8, 9] rfl ?_
        refine j_widen (k := 23) (n := 136) (by omega) (by omega) ?_
        exact k_L_isBlock_b221 X hR Rt h
    · replace h := jif_f c h
      refine j_aload_n X dL_isBlock_155 0 rfl ?_
      refine j_iload X dL_isBlock_156 10 rfl ?_
      refine j_callSi X [.ref a0, .int x10] [] (c_L_blockAt h) jm_L_blockAt jw_1254 rfl ⟨rfl, rfl⟩ (by rw [hR]; exact ⟨⟨by decide, by decide⟩, by simp only []; omega, by simp only []; omega⟩) rfl (Nat.le_of_ble_eq_true rfl) dL_isBlock_158 (fun v2 w2 h => ?_)
      refine j_istore X [(11, .int v2), (0, .ref a0), (1, .int x1), (2, .int x2), (3, .int x3), (4, .int x4), (5, .int x5), (6, .int x6), (7, .int x7), (8, .int x8), (9, .int x9), (10, .int x10)] dL_isBlock_161 (by decide) rfl ?_
      refine j_iload X dL_isBlock_163 9 rfl ?_
      refine j_aload_n X dL_isBlock_165 1 rfl ?_
      refine j_iload X dL_isBlock_166 0 rfl ?_
      refine j_callWi X [.ref a0, .int v2] [.int x8] (c_L_parentOf h) jmw_L_parentOf jw_1262 rfl ⟨rfl, rfl⟩ (by rw [hR]; exact ⟨⟨by decide, by decide⟩, by simp only []; omega, by simp only []; omega⟩) rfl (Nat.le_of_ble_eq_true rfl) dL_isBlock_168 (fun v3 w3 h => ?_)
      refine j_iload_n X dL_isBlock_171 2 rfl ?_
      refine j_icmp_ne X 179 dL_isBlock_172 (by decide) (fun c => ?_) (fun c => ?_)
      · replace h := jif_f c h
        refine j_iconst X 0 dL_isBlock_179 (by decide) ?_
        refine j_sub [1, 2, 3, 4, 5, 6, 7, 8, 10, 11, 0] rfl ?_
        refine j_widen (k := (6 + (17 - (n + 1)) * 1 + 1)) (n := (34 + (17 - (n + 1)) * 6 + 6)) (by omega) (by omega) ?_
        exact k_L_isBlock_b180 hN X hR Rt (fun _ _ _ _ _ _ _ _ _ _ _ _ h => ih (by omega) h) h
      · replace h := jif_t c h
        refine j_iconst X 1 dL_isBlock_175 (by decide) ?_
        refine j_goto X 180 dL_isBlock_176 (by decide) ?_
        refine j_sub [1, 2, 3, 4, 5, 6, 7, 8, 10, 11, 0] rfl ?_
        refine j_widen (k := (6 + (17 - (n + 1)) * 1 + 1)) (n := (34 + (17 - (n + 1)) * 6 + 6)) (by omega) (by omega) ?_
        exact k_L_isBlock_b180 hN X hR Rt (fun _ _ _ _ _ _ _ _ _ _ _ _ h => ih (by omega) h) h
def w_L_isBlock_b135 (κ : Nat → Nat) (w : va_W) (a0 : Nat) (x1 : Int32) (x2 : Int32) (x3 : Int32) (x4 : Int32) (x5 : Int32) (x6 : Int32) (s0 : Int32) (P : Int32 → va_W → Prop) : Prop :=
    w_L_isBlock_b146 17 κ w a0 x1 x2 x3 x4 x5 x6 s0 0 0 0 P
set_option maxRecDepth 100000 in
set_option maxHeartbeats 4000000 in
theorem k_L_isBlock_b135 {Γ : jG} (X : jX Γ cL_isBlock 12 RL) (hR : jgR Γ = ({ frames := 24, cells := 133, slots := 22072, locals := 588 } : Room)) {P : Int32 → va_W → Prop} (Rt : jRt Γ cL_isBlock 12 133 22072 (some .boolean) (jPi P)) {w : va_W} {a0 : Nat} {x1 : Int32} {x2 : Int32} {x3 : Int32} {x4 : Int32} {x5 : Int32} {x6 : Int32} {s0 : Int32} (h : w_L_isBlock_b135 (jgE Γ).2.2.2 w a0 x1 x2 x3 x4 x5 x6 s0 P) : J Γ 12 w 6 34 135 [(0, .ref a0), (1, .int x1), (2, .int x2), (3, .int x3), (4, .int x4), (5, .int x5), (6, .int x6)] [.int s0] := by
  unfold w_L_isBlock_b135 at h
  refine j_istore X [(7, .int s0), (0, .ref a0), (1, .int x1), (2, .int x2), (3, .int x3), (4, .int x4), (5, .int x5), (6, .int x6)] dL_isBlock_135 (by decide) rfl ?_
  refine j_iconst X 0 dL_isBlock_137 (by decide) ?_
  refine j_istore X [(8, .int 0), (7, .int s0), (0, .ref a0), (1, .int x1), (2, .int x2), (3, .int x3), (4, .int x4), (5, .int x5), (6, .int x6)] dL_isBlock_138 (by decide) rfl ?_
  refine j_iconst X 0 dL_isBlock_140 (by decide) ?_
  refine j_istore X [(9, .int 0), (8, .int 0), (7, .int s0), (0, .ref a0), (1, .int x1), (2, .int x2), (3, .int x3), (4, .int x4), (5, .int x5), (6, .int x6)] dL_isBlock_141 (by decide) rfl ?_
  refine j_iconst X 0 dL_isBlock_143 (by decide) ?_
  refine j_istore X [(10, .int 0), (9, .int 0), (8, .int 0), (7, .int s0), (0, .ref a0), (1, .int x1), (2, .int x2), (3, .int x3), (4, .int x4), (5, .int x5), (6, .int x6)] dL_isBlock_144 (by decide) rfl ?_
  refine j_sub [4, 5, 6, 7, 8, 9, 10, 3, 2, 1, 0] rfl ?_
  refine j_widen (k := (6 + (17 - 17) * 1 + 0)) (n := (34 + (17 - 17) * 6 + 0)) (by omega) (by omega) ?_
  exact k_L_isBlock_b146 X hR Rt _ (Nat.le_refl _) h
def w_L_isBlock_b91 (κ : Nat → Nat) (w : va_W) (a0 : Nat) (x1 : Int32) (x2 : Int32) (x3 : Int32) (x4 : Int32) (x5 : Int32) (s0 : Int32) (P : Int32 → va_W → Prop) : Prop :=
    (if x4 = 0 then w_L_firstInvalid κ w a0 x2 (fun v1 w1 => (if v1 = (-1000) then (if s0 = 0 then w_L_isBlock_b135 κ w1 a0 x1 x2 x3 x4 x5 s0 x1 P else w_L_isBlock_b135 κ w1 a0 x1 x2 x3 x4 x5 s0 (-1000) P) else w_L_firstInvalid κ w1 a0 x2 (fun v2 w2 => w_L_isBlock_b135 κ w2 a0 x1 x2 x3 x4 x5 s0 v2 P))) else w_L_isBlock_b135 κ w a0 x1 x2 x3 x4 x5 s0 (-1000) P)
set_option maxRecDepth 100000 in
set_option maxHeartbeats 4000000 in
theorem k_L_isBlock_b91 {Γ : jG} (X : jX Γ cL_isBlock 12 RL) (hR : jgR Γ = ({ frames := 24, cells := 133, slots := 22072, locals := 588 } : Room)) {P : Int32 → va_W → Prop} (Rt : jRt Γ cL_isBlock 12 133 22072 (some .boolean) (jPi P)) {w : va_W} {a0 : Nat} {x1 : Int32} {x2 : Int32} {x3 : Int32} {x4 : Int32} {x5 : Int32} {s0 : Int32} (h : w_L_isBlock_b91 (jgE Γ).2.2.2 w a0 x1 x2 x3 x4 x5 s0 P) : J Γ 12 w 2 10 91 [(0, .ref a0), (1, .int x1), (2, .int x2), (3, .int x3), (4, .int x4), (5, .int x5)] [.int s0] := by
  unfold w_L_isBlock_b91 at h
  refine j_istore X [(6, .int s0), (0, .ref a0), (1, .int x1), (2, .int x2), (3, .int x3), (4, .int x4), (5, .int x5)] dL_isBlock_91 (by decide) rfl ?_
  refine j_iload X dL_isBlock_93 5 rfl ?_
  refine j_if_eq X 104 dL_isBlock_95 (by decide) (fun c => ?_) (fun c => ?_)
  · replace h := jif_t c h
    refine j_aload_n X dL_isBlock_104 1 rfl ?_
    refine j_iload_n X dL_isBlock_105 3 rfl ?_
    refine j_callWi X [.ref a0, .int x2] [] (c_L_firstInvalid h) jmw_L_firstInvalid jw_1382 rfl ⟨rfl, rfl⟩ (by rw [hR]; decide) rfl (Nat.le_of_ble_eq_true rfl) dL_isBlock_106 (fun v1 w1 h => ?_)
    refine j_sipush X (-1000) dL_isBlock_109 (by decide) ?_
    refine j_icmp_ne X 130 dL_isBlock_112 (by decide) (fun c => ?_) (fun c => ?_)
    · replace h := jif_f c h
      refine j_aload_n X dL_isBlock_130 1 rfl ?_
      refine j_iload_n X dL_isBlock_131 3 rfl ?_
      refine j_callWi X [.ref a0, .int x2] [] (c_L_firstInvalid h) jmw_L_firstInvalid jw_1382 rfl ⟨rfl, rfl⟩ (by rw [hR]; decide) rfl (Nat.le_of_ble_eq_true rfl) dL_isBlock_132 (fun v2 w2 h => ?_)
      refine j_sub [1, 2, 3, 4, 5, 6, 0] rfl ?_
      refine j_widen (k := 6) (n := 34) (by omega) (by omega) ?_
      exact k_L_isBlock_b135 X hR Rt h
    · replace h := jif_t c h
      refine j_iload X dL_isBlock_115 0 rfl ?_
      refine j_if_eq X 126 dL_isBlock_117 (by decide) (fun c => ?_) (fun c => ?_)
      · replace h := jif_t c h
        refine j_iload_n X dL_isBlock_126 2 rfl ?_
        refine j_goto X 135 dL_isBlock_127 (by decide) ?_
        refine j_sub [1, 2, 3, 4, 5, 6, 0] rfl ?_
        refine j_widen (k := 6) (n := 34) (by omega) (by omega) ?_
        exact k_L_isBlock_b135 X hR Rt h
      · replace h := jif_f c h
        refine j_sipush X (-1000) dL_isBlock_120 (by decide) ?_
        refine j_goto X 135 dL_isBlock_123 (by decide) ?_
        refine j_sub [1, 2, 3, 4, 5, 6, 0] rfl ?_
        refine j_widen (k := 6) (n := 34) (by omega) (by omega) ?_
        exact k_L_isBlock_b135 X hR Rt h
  · replace h := jif_f c h
    refine j_sipush X (-1000) dL_isBlock_98 (by decide) ?_
    refine j_goto X 135 dL_isBlock_101 (by decide) ?_
    refine j_sub [1, 2, 3, 4, 5, 6, 0] rfl ?_
    refine j_widen (k := 6) (n := 34) (by omega) (by omega) ?_
    exact k_L_isBlock_b135 X hR Rt h
def w_L_isBlock_b86 (κ : Nat → Nat) (w : va_W) (a0 : Nat) (x1 : Int32) (x2 : Int32) (x3 : Int32) (x4 : Int32) (x5 : Int32) (P : Int32 → va_W → Prop) : Prop :=
    w_L_isBlock_b91 κ w a0 x1 x2 x3 x4 x5 1 P
set_option maxRecDepth 100000 in
set_option maxHeartbeats 4000000 in
theorem k_L_isBlock_b86 {Γ : jG} (X : jX Γ cL_isBlock 12 RL) (hR : jgR Γ = ({ frames := 24, cells := 133, slots := 22072, locals := 588 } : Room)) {P : Int32 → va_W → Prop} (Rt : jRt Γ cL_isBlock 12 133 22072 (some .boolean) (jPi P)) {w : va_W} {a0 : Nat} {x1 : Int32} {x2 : Int32} {x3 : Int32} {x4 : Int32} {x5 : Int32} (h : w_L_isBlock_b86 (jgE Γ).2.2.2 w a0 x1 x2 x3 x4 x5 P) : J Γ 12 w 2 10 86 [(0, .ref a0), (1, .int x1), (2, .int x2), (3, .int x3), (4, .int x4), (5, .int x5)] [] := by
  unfold w_L_isBlock_b86 at h
  refine j_iconst X 1 dL_isBlock_86 (by decide) ?_
  refine j_goto X 91 dL_isBlock_87 (by decide) ?_
  refine j_widen (k := 2) (n := 10) (by omega) (by omega) ?_
  exact k_L_isBlock_b91 X hR Rt h
def w_L_isBlock_b39 (κ : Nat → Nat) (w : va_W) (a0 : Nat) (x1 : Int32) (x2 : Int32) (x3 : Int32) (x4 : Int32) (s0 : Int32) (P : Int32 → va_W → Prop) : Prop :=
    (if x4 = 0 then (jRc w a0 11 ∧ w_X8_hashOfZ κ w a0 x1 (fun v1 w1 => (jRc w1 a0 11 ∧ w_X8_hashOfZ κ w1 a0 x2 (fun v2 w2 => (jRc w2 a0 11 ∧ w_X8_writerOfZ κ w2 a0 x1 (fun v3 w3 => (jRc w3 a0 11 ∧ w_X8_nonceOfZ κ w3 a0 x1 (fun v4 w4 => (if v1 = (jrem ((((61 * v2) + (29 * x3)) + (13 * v3)) + v4) 9973) then w_L_isBlock_b86 κ w4 a0 x1 x2 x3 x4 s0 P else w_L_isBlock_b91 κ w4 a0 x1 x2 x3 x4 s0 0 P))))))))) else w_L_isBlock_b86 κ w a0 x1 x2 x3 x4 s0 P)
set_option maxRecDepth 100000 in
set_option maxHeartbeats 4000000 in
theorem k_L_isBlock_b39 {Γ : jG} (X : jX Γ cL_isBlock 12 RL) (hR : jgR Γ = ({ frames := 24, cells := 133, slots := 22072, locals := 588 } : Room)) {P : Int32 → va_W → Prop} (Rt : jRt Γ cL_isBlock 12 133 22072 (some .boolean) (jPi P)) {w : va_W} {a0 : Nat} {x1 : Int32} {x2 : Int32} {x3 : Int32} {x4 : Int32} {s0 : Int32} (h : w_L_isBlock_b39 (jgE Γ).2.2.2 w a0 x1 x2 x3 x4 s0 P) : J Γ 12 w 2 10 39 [(0, .ref a0), (1, .int x1), (2, .int x2), (3, .int x3), (4, .int x4)] [.int s0] := by
  unfold w_L_isBlock_b39 at h
  refine j_istore X [(5, .int s0), (0, .ref a0), (1, .int x1), (2, .int x2), (3, .int x3), (4, .int x4)] dL_isBlock_39 (by decide) rfl ?_
  refine j_iload X dL_isBlock_41 5 rfl ?_
  refine j_if_ne X 86 dL_isBlock_43 (by decide) (fun c => ?_) (fun c => ?_)
  · replace h := jif_f c h
    refine j_sub [1, 2, 3, 4, 5, 0] rfl ?_
    refine j_widen (k := 2) (n := 10) (by omega) (by omega) ?_
    exact k_L_isBlock_b86 X hR Rt h
  · replace h := jif_t c h
    refine j_aload_n X dL_isBlock_46 1 rfl ?_
    refine j_iload_n X dL_isBlock_47 2 rfl ?_
    obtain ⟨⟨fs1, g1⟩, h⟩ := h
    refine j_callVi X [.int x1] [] (c_X8_hashOfZ h) (T := TX8) (N := 11) g1 rfl jm_X8_hashOf jw_1274 rfl ⟨rfl, rfl⟩ (by rw [hR]; decide) rfl (Nat.le_of_ble_eq_true rfl) dL_isBlock_48 (fun v1 w1 h => ?_)
    refine j_bipush X 61 dL_isBlock_51 (by decide) ?_
    refine j_aload_n X dL_isBlock_53 1 rfl ?_
    refine j_iload_n X dL_isBlock_54 3 rfl ?_
    obtain ⟨⟨fs2, g2⟩, h⟩ := h
    refine j_callVi X [.int x2] [.int 61, .int v1] (c_X8_hashOfZ h) (T := TX8) (N := 11) g2 rfl jm_X8_hashOf jw_1274 rfl ⟨rfl, rfl⟩ (by rw [hR]; decide) rfl (Nat.le_of_ble_eq_true rfl) dL_isBlock_55 (fun v2 w2 h => ?_)
    refine j_imul X dL_isBlock_58 ?_
    refine j_bipush X 29 dL_isBlock_59 (by decide) ?_
    refine j_iload_n X dL_isBlock_61 4 rfl ?_
    refine j_imul X dL_isBlock_62 ?_
    refine j_iadd X dL_isBlock_63 ?_
    refine j_bipush X 13 dL_isBlock_64 (by decide) ?_
    refine j_aload_n X dL_isBlock_66 1 rfl ?_
    refine j_iload_n X dL_isBlock_67 2 rfl ?_
    obtain ⟨⟨fs3, g3⟩, h⟩ := h
    refine j_callVi X [.int x1] [.int 13, .int ((61 * v2) + (29 * x3)), .int v1] (c_X8_writerOfZ h) (T := TX8) (N := 11) g3 rfl jm_X8_writerOf jw_1378 rfl ⟨rfl, rfl⟩ (by rw [hR]; decide) rfl (Nat.le_of_ble_eq_true rfl) dL_isBlock_68 (fun v3 w3 h => ?_)
    refine j_imul X dL_isBlock_71 ?_
    refine j_iadd X dL_isBlock_72 ?_
    refine j_aload_n X dL_isBlock_73 1 rfl ?_
    refine j_iload_n X dL_isBlock_74 2 rfl ?_
    obtain ⟨⟨fs4, g4⟩, h⟩ := h
    refine j_callVi X [.int x1] [.int (((61 * v2) + (29 * x3)) + (13 * v3)), .int v1] (c_X8_nonceOfZ h) (T := TX8) (N := 11) g4 rfl jm_X8_nonceOf jw_1285 rfl ⟨rfl, rfl⟩ (by rw [hR]; decide) rfl (Nat.le_of_ble_eq_true rfl) dL_isBlock_75 (fun v4 w4 h => ?_)
    refine j_iadd X dL_isBlock_78 ?_
    refine j_sipush X 9973 dL_isBlock_79 (by decide) ?_
    refine j_irem X dL_isBlock_82 (by decide) ?_
    refine j_icmp_ne X 90 dL_isBlock_83 (by decide) (fun c => ?_) (fun c => ?_)
    · replace h := jif_f c h
      refine j_iconst X 0 dL_isBlock_90 (by decide) ?_
      refine j_sub [1, 2, 3, 4, 5, 0] rfl ?_
      refine j_widen (k := 2) (n := 10) (by omega) (by omega) ?_
      exact k_L_isBlock_b91 X hR Rt h
    · replace h := jif_t c h
      refine j_sub [1, 2, 3, 4, 5, 0] rfl ?_
      refine j_widen (k := 2) (n := 10) (by omega) (by omega) ?_
      exact k_L_isBlock_b86 X hR Rt h
def w_L_isBlock_b21 (κ : Nat → Nat) (w : va_W) (a0 : Nat) (x1 : Int32) (x2 : Int32) (x3 : Int32) (s0 : Int32) (P : Int32 → va_W → Prop) : Prop :=
    (if s0 = 0 then (jRc w a0 11 ∧ w_X8_heightOfZ κ w a0 x2 (fun v1 w1 => w_L_isBlock_b39 κ w1 a0 x1 x2 x3 s0 (v1 + 1) P)) else w_L_isBlock_b39 κ w a0 x1 x2 x3 s0 0 P)
set_option maxRecDepth 100000 in
set_option maxHeartbeats 4000000 in
theorem k_L_isBlock_b21 {Γ : jG} (X : jX Γ cL_isBlock 12 RL) (hR : jgR Γ = ({ frames := 24, cells := 133, slots := 22072, locals := 588 } : Room)) {P : Int32 → va_W → Prop} (Rt : jRt Γ cL_isBlock 12 133 22072 (some .boolean) (jPi P)) {w : va_W} {a0 : Nat} {x1 : Int32} {x2 : Int32} {x3 : Int32} {s0 : Int32} (h : w_L_isBlock_b21 (jgE Γ).2.2.2 w a0 x1 x2 x3 s0 P) : J Γ 12 w 2 10 21 [(0, .ref a0), (1, .int x1), (2, .int x2), (3, .int x3)] [.int s0] := by
  unfold w_L_isBlock_b21 at h
  refine j_istore X [(4, .int s0), (0, .ref a0), (1, .int x1), (2, .int x2), (3, .int x3)] dL_isBlock_21 (by decide) rfl ?_
  refine j_iload X dL_isBlock_23 0 rfl ?_
  refine j_if_eq X 32 dL_isBlock_25 (by decide) (fun c => ?_) (fun c => ?_)
  · replace h := jif_t c h
    refine j_aload_n X dL_isBlock_32 1 rfl ?_
    refine j_iload_n X dL_isBlock_33 3 rfl ?_
    obtain ⟨⟨fs1, g1⟩, h⟩ := h
    refine j_callVi X [.int x2] [] (c_X8_heightOfZ h) (T := TX8) (N := 11) g1 rfl jm_X8_heightOf jw_1373 rfl ⟨rfl, rfl⟩ (by rw [hR]; decide) rfl (Nat.le_of_ble_eq_true rfl) dL_isBlock_34 (fun v1 w1 h => ?_)
    refine j_iconst X 1 dL_isBlock_37 (by decide) ?_
    refine j_iadd X dL_isBlock_38 ?_
    refine j_sub [1, 2, 3, 4, 0] rfl ?_
    refine j_widen (k := 2) (n := 10) (by omega) (by omega) ?_
    exact k_L_isBlock_b39 X hR Rt h
  · replace h := jif_f c h
    refine j_iconst X 0 dL_isBlock_28 (by decide) ?_
    refine j_goto X 39 dL_isBlock_29 (by decide) ?_
    refine j_sub [1, 2, 3, 4, 0] rfl ?_
    refine j_widen (k := 2) (n := 10) (by omega) (by omega) ?_
    exact k_L_isBlock_b39 X hR Rt h
def w_L_isBlock_b0 (κ : Nat → Nat) (w : va_W) (a0 : Nat) (x1 : Int32) (P : Int32 → va_W → Prop) : Prop :=
    w_L_parentOf κ w a0 x1 (fun v1 w1 => w_L_root κ w1 a0 x1 (fun v2 w2 => (if x1 = 0 then w_L_isBlock_b21 κ w2 a0 x1 v1 v2 1 P else w_L_isBlock_b21 κ w2 a0 x1 v1 v2 0 P)))
set_option maxRecDepth 100000 in
set_option maxHeartbeats 4000000 in
theorem k_L_isBlock_b0 {Γ : jG} (X : jX Γ cL_isBlock 12 RL) (hR : jgR Γ = ({ frames := 24, cells := 133, slots := 22072, locals := 588 } : Room)) {P : Int32 → va_W → Prop} (Rt : jRt Γ cL_isBlock 12 133 22072 (some .boolean) (jPi P)) {w : va_W} {a0 : Nat} {x1 : Int32} (h : w_L_isBlock_b0 (jgE Γ).2.2.2 w a0 x1 P) : J Γ 12 w 0 0 0 [(0, .ref a0), (1, .int x1)] [] := by
  unfold w_L_isBlock_b0 at h
  refine j_aload_n X dL_isBlock_0 0 rfl ?_
  refine j_iload_n X dL_isBlock_1 1 rfl ?_
  refine j_callWi X [.ref a0, .int x1] [] (c_L_parentOf h) jmw_L_parentOf jw_1262 rfl ⟨rfl, rfl⟩ (by rw [hR]; decide) rfl (Nat.le_of_ble_eq_true rfl) dL_isBlock_2 (fun v1 w1 h => ?_)
  refine j_istore_n X [(2, .int v1), (0, .ref a0), (1, .int x1)] dL_isBlock_5 (by decide) rfl ?_
  refine j_aload_n X dL_isBlock_6 1 rfl ?_
  refine j_iload_n X dL_isBlock_7 2 rfl ?_
  refine j_callSi X [.ref a0, .int x1] [] (c_L_root h) jm_L_root jw_1367 rfl ⟨rfl, rfl⟩ (by rw [hR]; decide) rfl (Nat.le_of_ble_eq_true rfl) dL_isBlock_8 (fun v2 w2 h => ?_)
  refine j_istore_n X [(3, .int v2), (2, .int v1), (0, .ref a0), (1, .int x1)] dL_isBlock_11 (by decide) rfl ?_
  refine j_iload_n X dL_isBlock_12 3 rfl ?_
  refine j_if_ne X 20 dL_isBlock_13 (by decide) (fun c => ?_) (fun c => ?_)
  · replace h := jif_f c h
    refine j_iconst X 0 dL_isBlock_20 (by decide) ?_
    refine j_sub [2, 3, 1, 0] rfl ?_
    refine j_widen (k := 2) (n := 10) (by omega) (by omega) ?_
    exact k_L_isBlock_b21 X hR Rt h
  · replace h := jif_t c h
    refine j_iconst X 1 dL_isBlock_16 (by decide) ?_
    refine j_goto X 21 dL_isBlock_17 (by decide) ?_
    refine j_sub [2, 3, 1, 0] rfl ?_
    refine j_widen (k := 2) (n := 10) (by omega) (by omega) ?_
    exact k_L_isBlock_b21 X hR Rt h
def w_L_isBlock (κ : Nat → Nat) (w : va_W) (a0 : Nat) (x1 : Int32) (P : Int32 → va_W → Prop) : Prop := w_L_isBlock_b0 κ w a0 x1 P
theorem c_L_isBlock {E : jE} {w : va_W} {a0 : Nat} {x1 : Int32} {P : Int32 → va_W → Prop} (h : w_L_isBlock E.2.2.2 w a0 x1 P) : jC E yL_isBlock cL_isBlock 12 (some .boolean) ({ frames := 24, cells := 133, slots := 22072, locals := 588 } : Room) [.ref a0, .int x1] w 133 22072 (jPi P) := by
  refine jC_of (by decide) (Nat.le_of_ble_eq_true rfl) ?_
  intro Γ X hE hR Rt
  subst hE
  exact k_L_isBlock_b0 X hR Rt h
theorem jm_L_areTips : jMs yL_areTips cL_areTips 9 (some .boolean) 2 := ⟨jw_1521, jw_21, jw_1522, ⟨by decide +kernel, by decide +kernel⟩, by decide +kernel⟩
def w_L_areTips_b168 (κ : Nat → Nat) (w : va_W) (s0 : Int32) (P : Int32 → va_W → Prop) : Prop :=
    (narrow .boolean (.int s0) = .int s0 ∧ P s0 w)
set_option maxRecDepth 100000 in
set_option maxHeartbeats 4000000 in
theorem k_L_areTips_b168 {Γ : jG} (X : jX Γ cL_areTips 9 RL) (hR : jgR Γ = ({ frames := 8, cells := 36, slots := 216, locals := 158 } : Room)) {P : Int32 → va_W → Prop} (Rt : jRt Γ cL_areTips 9 36 216 (some .boolean) (jPi P)) {w : va_W} {s0 : Int32} (h : w_L_areTips_b168 (jgE Γ).2.2.2 w s0 P) : J Γ 9 w 36 216 168 [] [.int s0] := by
  unfold w_L_areTips_b168 at h
  exact Rt.z dL_areTips_168 h.1 ⟨_, rfl, h.2⟩ (by first | decide | omega) (by first | decide | omega)
def w_L_areTips_b167 (κ : Nat → Nat) (w : va_W) (P : Int32 → va_W → Prop) : Prop :=
    w_L_areTips_b168 κ w 0 P
set_option maxRecDepth 100000 in
set_option maxHeartbeats 4000000 in
theorem k_L_areTips_b167 {Γ : jG} (X : jX Γ cL_areTips 9 RL) (hR : jgR Γ = ({ frames := 8, cells := 36, slots := 216, locals := 158 } : Room)) {P : Int32 → va_W → Prop} (Rt : jRt Γ cL_areTips 9 36 216 (some .boolean) (jPi P)) {w : va_W} (h : w_L_areTips_b167 (jgE Γ).2.2.2 w  P) : J Γ 9 w 36 216 167 [] [] := by
  unfold w_L_areTips_b167 at h
  refine j_iconst X 0 dL_areTips_167 (by decide) ?_
  refine j_widen (k := 36) (n := 216) (by omega) (by omega) ?_
  exact k_L_areTips_b168 X hR Rt h
def w_L_areTips_b146 (κ : Nat → Nat) (w : va_W) (a0 : Nat) (x1 : Int32) (x2 : Int32) (x3 : Int32) (P : Int32 → va_W → Prop) : Prop :=
    (if x3 = 0 then w_L_areTips_b167 κ w  P else (jRc w a0 11 ∧ w_X8_meanTipHeight κ w a0 (fun v1 w1 => (vf_n64 (FP.ddiv (FP.i2d x2) (FP.i2d x1)) ∧ (if (Op.cmpValue (FP.dcmp v1 (FP.ddiv (FP.i2d x2) (FP.i2d x1))) .l) = 0 then w_L_areTips_b168 κ w1 1 P else w_L_areTips_b167 κ w1  P)))))
set_option maxRecDepth 100000 in
set_option maxHeartbeats 4000000 in
theorem k_L_areTips_b146 {Γ : jG} (X : jX Γ cL_areTips 9 RL) (hR : jgR Γ = ({ frames := 8, cells := 36, slots := 216, locals := 158 } : Room)) {P : Int32 → va_W → Prop} (Rt : jRt Γ cL_areTips 9 36 216 (some .boolean) (jPi P)) {w : va_W} {a0 : Nat} {x1 : Int32} {x2 : Int32} {x3 : Int32} (h : w_L_areTips_b146 (jgE Γ).2.2.2 w a0 x1 x2 x3 P) : J Γ 9 w 36 216 146 [(0, .ref a0), (1, .int x1), (2, .int x2), (3, .int x3)] [] := by
  unfold w_L_areTips_b146 at h
  refine j_iload_n X dL_areTips_146 3 rfl ?_
  refine j_if_eq X 167 dL_areTips_147 (by decide) (fun c => ?_) (fun c => ?_)
  · replace h := jif_t c h
    refine j_sub [] rfl ?_
    refine j_widen (k := 36) (n := 216) (by omega) (by omega) ?_
    exact k_L_areTips_b167 X hR Rt h
  · replace h := jif_f c h
    refine j_aload_n X dL_areTips_150 0 rfl ?_
    obtain ⟨⟨fs1, g1⟩, h⟩ := h
    refine j_callVd X [] [] (c_X8_meanTipHeight h) (T := TX8) (N := 11) g1 rfl jm_X8_meanTipHeight jw_1523 rfl ⟨rfl, rfl⟩ (by rw [hR]; decide) rfl (Nat.le_of_ble_eq_true rfl) dL_areTips_151 (fun v1 w1 h => ?_)
    refine j_iload_n X dL_areTips_154 2 rfl ?_
    refine j_i2d X dL_areTips_155 ?_
    refine j_iload_n X dL_areTips_156 1 rfl ?_
    refine j_i2d X dL_areTips_157 ?_
    refine j_ddiv X dL_areTips_158 h.1 ?_
    replace h := h.2
    refine j_dcmp X dL_areTips_159 ?_
    refine j_if_ne X 167 dL_areTips_160 (by decide) (fun c => ?_) (fun c => ?_)
    · replace h := jif_f c h
      refine j_sub [] rfl ?_
      refine j_widen (k := 36) (n := 216) (by omega) (by omega) ?_
      exact k_L_areTips_b167 X hR Rt h
    · replace h := jif_t c h
      refine j_iconst X 1 dL_areTips_163 (by decide) ?_
      refine j_goto X 168 dL_areTips_164 (by decide) ?_
      refine j_sub [] rfl ?_
      refine j_widen (k := 36) (n := 216) (by omega) (by omega) ?_
      exact k_L_areTips_b168 X hR Rt h
def w_L_areTips_b139 (κ : Nat → Nat) (w : va_W) (a0 : Nat) (x1 : Int32) (x2 : Int32) (x4 : Int32) (s0 : Int32) (K31 : va_W → Nat → Int32 → Int32 → Int32 → Int32 → Prop) (P : Int32 → va_W → Prop) : Prop :=
    K31 w a0 x1 x2 s0 (x4 + 1)
set_option maxRecDepth 100000 in
set_option maxHeartbeats 4000000 in
theorem k_L_areTips_b139 {N : Nat} (hN : N + 1 ≤ 17) {Γ : jG} (X : jX Γ cL_areTips 9 RL) (hR : jgR Γ = ({ frames := 8, cells := 36, slots := 216, locals := 158 } : Room)) {P : Int32 → va_W → Prop} (Rt : jRt Γ cL_areTips 9 36 216 (some .boolean) (jPi P)) {K31 : va_W → Nat → Int32 → Int32 → Int32 → Int32 → Prop} (hK31 : ∀ (w : va_W) (a0 : Nat) (x1 : Int32) (x2 : Int32) (x3 : Int32) (x4 : Int32), K31 w a0 x1 x2 x3 x4 → J Γ 9 w (2 + (17 - N) * 2 + 0) (12 + (17 - N) * 12 + 0) 31 [(0, .ref a0), (1, .int x1), (2, .int x2), (3, .int x3), (4, .int x4)] []) {w : va_W} {a0 : Nat} {x1 : Int32} {x2 : Int32} {x4 : Int32} {s0 : Int32} (h : w_L_areTips_b139 (jgE Γ).2.2.2 w a0 x1 x2 x4 s0 K31 P) : J Γ 9 w (2 + (17 - (N + 1)) * 2 + 2) (12 + (17 - (N + 1)) * 12 + 12) 139 [(0, .ref a0), (1, .int x1), (2, .int x2), (4, .int x4)] [.int s0] := by
  unfold w_L_areTips_b139 at h
  refine j_istore_n X [(3, .int s0), (0, .ref a0), (1, .int x1), (2, .int x2), (4, .int x4)] dL_areTips_139 (by decide) rfl ?_
  refine j_iinc X (x4 + 1) [(4, .int (x4 + 1)), (3, .int s0), (0, .ref a0), (1, .int x1), (2, .int x2)] dL_areTips_140 4 rfl rfl (by decide) rfl ?_
  refine j_goto X 31 dL_areTips_143 (by decide) ?_
  refine j_sub [2, 3, 4, 1, 0] rfl ?_
  refine j_widen (k := (2 + (17 - N) * 2 + 0)) (n := (12 + (17 - N) * 12 + 0)) (by omega) (by omega) ?_
  exact hK31 _ _ _ _ _ _ h
def w_L_areTips_b138 (κ : Nat → Nat) (w : va_W) (a0 : Nat) (x1 : Int32) (x2 : Int32) (x4 : Int32) (K31 : va_W → Nat → Int32 → Int32 → Int32 → Int32 → Prop) (P : Int32 → va_W → Prop) : Prop :=
    w_L_areTips_b139 κ w a0 x1 x2 x4 0 K31 P
set_option maxRecDepth 100000 in
set_option maxHeartbeats 4000000 in
theorem k_L_areTips_b138 {N : Nat} (hN : N + 1 ≤ 17) {Γ : jG} (X : jX Γ cL_areTips 9 RL) (hR : jgR Γ = ({ frames := 8, cells := 36, slots := 216, locals := 158 } : Room)) {P : Int32 → va_W → Prop} (Rt : jRt Γ cL_areTips 9 36 216 (some .boolean) (jPi P)) {K31 : va_W → Nat → Int32 → Int32 → Int32 → Int32 → Prop} (hK31 : ∀ (w : va_W) (a0 : Nat) (x1 : Int32) (x2 : Int32) (x3 : Int32) (x4 : Int32), K31 w a0 x1 x2 x3 x4 → J Γ 9 w (2 + (17 - N) * 2 + 0) (12 + (17 - N) * 12 + 0) 31 [(0, .ref a0), (1, .int x1), (2, .int x2), (3, .int x3), (4, .int x4)] []) {w : va_W} {a0 : Nat} {x1 : Int32} {x2 : Int32} {x4 : Int32} (h : w_L_areTips_b138 (jgE Γ).2.2.2 w a0 x1 x2 x4 K31 P) : J Γ 9 w (2 + (17 - (N + 1)) * 2 + 2) (12 + (17 - (N + 1)) * 12 + 12) 138 [(0, .ref a0), (1, .int x1), (2, .int x2), (4, .int x4)] [] := by
  unfold w_L_areTips_b138 at h
  refine j_iconst X 0 dL_areTips_138 (by decide) ?_
  refine j_widen (k := (2 + (17 - (N + 1)) * 2 + 2)) (n := (12 + (17 - (N + 1)) * 12 + 12)) (by omega) (by omega) ?_
  exact k_L_areTips_b139 hN X hR Rt hK31 h
def w_L_areTips_b134 (κ : Nat → Nat) (w : va_W) (a0 : Nat) (x1 : Int32) (x2 : Int32) (x4 : Int32) (K31 : va_W → Nat → Int32 → Int32 → Int32 → Int32 → Prop) (P : Int32 → va_W → Prop) : Prop :=
    w_L_areTips_b139 κ w a0 x1 x2 x4 1 K31 P
set_option maxRecDepth 100000 in
set_option maxHeartbeats 4000000 in
theorem k_L_areTips_b134 {N : Nat} (hN : N + 1 ≤ 17) {Γ : jG} (X : jX Γ cL_areTips 9 RL) (hR : jgR Γ = ({ frames := 8, cells := 36, slots := 216, locals := 158 } : Room)) {P : Int32 → va_W → Prop} (Rt : jRt Γ cL_areTips 9 36 216 (some .boolean) (jPi P)) {K31 : va_W → Nat → Int32 → Int32 → Int32 → Int32 → Prop} (hK31 : ∀ (w : va_W) (a0 : Nat) (x1 : Int32) (x2 : Int32) (x3 : Int32) (x4 : Int32), K31 w a0 x1 x2 x3 x4 → J Γ 9 w (2 + (17 - N) * 2 + 0) (12 + (17 - N) * 12 + 0) 31 [(0, .ref a0), (1, .int x1), (2, .int x2), (3, .int x3), (4, .int x4)] []) {w : va_W} {a0 : Nat} {x1 : Int32} {x2 : Int32} {x4 : Int32} (h : w_L_areTips_b134 (jgE Γ).2.2.2 w a0 x1 x2 x4 K31 P) : J Γ 9 w (2 + (17 - (N + 1)) * 2 + 2) (12 + (17 - (N + 1)) * 12 + 12) 134 [(0, .ref a0), (1, .int x1), (2, .int x2), (4, .int x4)] [] := by
  unfold w_L_areTips_b134 at h
  refine j_iconst X 1 dL_areTips_134 (by decide) ?_
  refine j_goto X 139 dL_areTips_135 (by decide) ?_
  refine j_widen (k := (2 + (17 - (N + 1)) * 2 + 2)) (n := (12 + (17 - (N + 1)) * 12 + 12)) (by omega) (by omega) ?_
  exact k_L_areTips_b139 hN X hR Rt hK31 h
def w_L_areTips_b31 : Nat → (κ : Nat → Nat) → (w : va_W) → (a0 : Nat) → (x1 : Int32) → (x2 : Int32) → (x3 : Int32) → (x4 : Int32) → (P : Int32 → va_W → Prop) → Prop
  | 0, _, _, _, _, _, _, _, _ => False
  | n + 1, κ, w, a0, x1, x2, x3, x4, P =>
    (if x3 = 0 then w_L_areTips_b146 κ w a0 x1 x2 x3 P else (if x1 ≤ x4 then w_L_areTips_b146 κ w a0 x1 x2 x3 P else w_L_tipAtRank κ w a0 (x4 - 1) (fun v1 w1 => w_L_tipAtRank κ w1 a0 x4 (fun v2 w2 => (jRc w2 a0 11 ∧ w_X8_heightOfZ κ w2 a0 v1 (fun v3 w3 => (jRc w3 a0 11 ∧ w_X8_heightOfZ κ w3 a0 v2 (fun v4 w4 => (jRc w4 a0 11 ∧ w_X8_hashOfZ κ w4 a0 v2 (fun v5 w5 => (jRc w5 a0 11 ∧ w_X8_hashOfZ κ w5 a0 v1 (fun v6 w6 => (jRc w6 a0 11 ∧ w_X8_heightOfZ κ w6 a0 v2 (fun v7 w7 => (jRc w7 a0 11 ∧ w_X8_childCountZ κ w7 a0 v2 (fun v8 w8 => (if v8 = 0 then (if 0 < (v3 - v4) then w_L_areTips_b134 κ w8 a0 x1 (x2 + v7) x4 (fun w_ z_a0 z_x1 z_x2 z_x3 z_x4 => w_L_areTips_b31 n κ w_ z_a0 z_x1 z_x2 z_x3 z_x4 P) P else (if (v3 - v4) = 0 then (if 0 < (v5 - v6) then w_L_areTips_b134 κ w8 a0 x1 (x2 + v7) x4 (fun w_ z_a0 z_x1 z_x2 z_x3 z_x4 => w_L_areTips_b31 n κ w_ z_a0 z_x1 z_x2 z_x3 z_x4 P) P else (if (v5 - v6) = 0 then (if v2 ≤ v1 then w_L_areTips_b138 κ w8 a0 x1 (x2 + v7) x4 (fun w_ z_a0 z_x1 z_x2 z_x3 z_x4 => w_L_areTips_b31 n κ w_ z_a0 z_x1 z_x2 z_x3 z_x4 P) P else w_L_areTips_b134 κ w8 a0 x1 (x2 + v7) x4 (fun w_ z_a0 z_x1 z_x2 z_x3 z_x4 => w_L_areTips_b31 n κ w_ z_a0 z_x1 z_x2 z_x3 z_x4 P) P) else w_L_areTips_b138 κ w8 a0 x1 (x2 + v7) x4 (fun w_ z_a0 z_x1 z_x2 z_x3 z_x4 => w_L_areTips_b31 n κ w_ z_a0 z_x1 z_x2 z_x3 z_x4 P) P)) else w_L_areTips_b138 κ w8 a0 x1 (x2 + v7) x4 (fun w_ z_a0 z_x1 z_x2 z_x3 z_x4 => w_L_areTips_b31 n κ w_ z_a0 z_x1 z_x2 z_x3 z_x4 P) P)) else w_L_areTips_b138 κ w8 a0 x1 (x2 + v7) x4 (fun w_ z_a0 z_x1 z_x2 z_x3 z_x4 => w_L_areTips_b31 n κ w_ z_a0 z_x1 z_x2 z_x3 z_x4 P) P)))))))))))))))))
set_option maxRecDepth 100000 in
set_option maxHeartbeats 4000000 in
theorem k_L_areTips_b31 {Γ : jG} (X : jX Γ cL_areTips 9 RL) (hR : jgR Γ = ({ frames := 8, cells := 36, slots := 216, locals := 158 } : Room)) {P : Int32 → va_W → Prop} (Rt : jRt Γ cL_areTips 9 36 216 (some .boolean) (jPi P)) : ∀ (n : Nat) (hN : n ≤ 17) {w : va_W} {a0 : Nat} {x1 : Int32} {x2 : Int32} {x3 : Int32} {x4 : Int32} (h : w_L_areTips_b31 n (jgE Γ).2.2.2 w a0 x1 x2 x3 x4 P), J Γ 9 w (2 + (17 - n) * 2 + 0) (12 + (17 - n) * 12 + 0) 31 [(0, .ref a0), (1, .int x1), (2, .int x2), (3, .int x3), (4, .int x4)] [] := by
  intro n
  induction n with
  | zero => intro hN w a0 x1 x2 x3 x4 h; exact False.elim h
  | succ n ih =>
    intro hN w a0 x1 x2 x3 x4 h
    rw [w_L_areTips_b31] at h
    refine j_iload_n X dL_areTips_31 3 rfl ?_
    refine j_if_eq X 146 dL_areTips_32 (by decide) (fun c => ?_) (fun c => ?_)
    · replace h := jif_t c h
      refine j_sub [0, 1, 2, 3] rfl ?_
      refine j_widen (k := 36) (n := 216) (by omega) (by omega) ?_
      exact k_L_areTips_b146 X hR Rt h
    · replace h := jif_f c h
      refine j_iload X dL_areTips_35 4 rfl ?_
      refine j_iload_n X dL_areTips_37 1 rfl ?_
      refine j_icmp_ge X 146 dL_areTips_38 (by decide) (fun c => ?_) (fun c => ?_)
      · replace h := jif_t c h
        refine j_sub [0, 1, 2, 3] rfl ?_
        refine j_widen (k := 36) (n := 216) (by omega) (by omega) ?_
        exact k_L_areTips_b146 X hR Rt h
      · replace h := jif_f c h
        refine j_aload_n X dL_areTips_41 0 rfl ?_
        refine j_iload X dL_areTips_42 4 rfl ?_
        refine j_iconst X 1 dL_areTips_44 (by decide) ?_
        refine j_isub X dL_areTips_45 ?_
        refine j_callWi X [.ref a0, .int (x4 - 1)] [] (c_L_tipAtRank h) jmw_L_tipAtRank jw_1496 rfl ⟨rfl, rfl⟩ (by rw [hR]; exact ⟨⟨by decide, by decide⟩, by simp only []; omega, by simp only []; omega⟩) rfl (Nat.le_of_ble_eq_true rfl) dL_areTips_46 (fun v1 w1 h => ?_)
        refine j_istore X [(5, .int v1), (0, .ref a0), (1, .int x1), (2, .int x2), (3, .int x3), (4, .int x4)] dL_areTips_49 (by decide) rfl ?_
        refine j_aload_n X dL_areTips_51 1 rfl ?_
        refine j_iload X dL_areTips_52 5 rfl ?_
        refine j_callWi X [.ref a0, .int x4] [] (c_L_tipAtRank h) jmw_L_tipAtRank jw_1496 rfl ⟨rfl, rfl⟩ (by rw [hR]; exact ⟨⟨by decide, by decide⟩, by simp only []; omega, by simp only []; omega⟩) rfl (Nat.le_of_ble_eq_true rfl) dL_areTips_54 (fun v2 w2 h => ?_)
        refine j_istore X [(6, .int v2), (5, .int v1), (0, .ref a0), (1, .int x1), (2, .int x2), (3, .int x3), (4, .int x4)] dL_areTips_57 (by decide) rfl ?_
        refine j_aload_n X dL_areTips_59 2 rfl ?_
        refine j_iload X dL_areTips_60 1 rfl ?_
        obtain ⟨⟨fs3, g3⟩, h⟩ := h
        refine j_callVi X [.int v1] [] (c_X8_heightOfZ h) (T := TX8) (N := 11) g3 rfl jm_X8_heightOf jw_1373 rfl ⟨rfl, rfl⟩ (by rw [hR]; exact ⟨⟨by decide, by decide⟩, by simp only []; omega, by simp only []; omega⟩) rfl (Nat.le_of_ble_eq_true rfl) dL_areTips_62 (fun v3 w3 h => ?_)
        refine j_aload_n X dL_areTips_65 2 rfl ?_
        refine j_iload X dL_areTips_66 0 rfl ?_
        obtain ⟨⟨fs4, g4⟩, h⟩ := h
        refine j_callVi X [.int v2] [.int v3] (c_X8_heightOfZ h) (T := TX8) (N := 11) g4 rfl jm_X8_heightOf jw_1373 rfl ⟨rfl, rfl⟩ (by rw [hR]; exact ⟨⟨by decide, by decide⟩, by simp only []; omega, by simp only []; omega⟩) rfl (Nat.le_of_ble_eq_true rfl) dL_areTips_68 (fun v4 w4 h => ?_)
        refine j_isub X dL_areTips_71 ?_
        refine j_istore X [(7, .int (v3 - v4)), (6, .int v2), (5, .int v1), (0, .ref a0), (1, .int x1), (2, .int x2), (3, .int x3), (4, .int x4)] dL_areTips_72 (by decide) rfl ?_
        refine j_aload_n X dL_areTips_74 3 rfl ?_
        refine j_iload X dL_areTips_75 1 rfl ?_
        obtain ⟨⟨fs5, g5⟩, h⟩ := h
        refine j_callVi X [.int v2] [] (c_X8_hashOfZ h) (T := TX8) (N := 11) g5 rfl jm_X8_hashOf jw_1274 rfl ⟨rfl, rfl⟩ (by rw [hR]; exact ⟨⟨by decide, by decide⟩, by simp only []; omega, by simp only []; omega⟩) rfl (Nat.le_of_ble_eq_true rfl) dL_areTips_77 (fun v5 w5 h => ?_)
        refine j_aload_n X dL_areTips_80 3 rfl ?_
        refine j_iload X dL_areTips_81 2 rfl ?_
        obtain ⟨⟨fs6, g6⟩, h⟩ := h
        refine j_callVi X [.int v1] [.int v5] (c_X8_hashOfZ h) (T := TX8) (N := 11) g6 rfl jm_X8_hashOf jw_1274 rfl ⟨rfl, rfl⟩ (by rw [hR]; exact ⟨⟨by decide, by decide⟩, by simp only []; omega, by simp only []; omega⟩) rfl (Nat.le_of_ble_eq_true rfl) dL_areTips_83 (fun v6 w6 h => ?_)
        refine j_isub X dL_areTips_86 ?_
        refine j_istore X [(8, .int (v5 - v6)), (7, .int (v3 - v4)), (6, .int v2), (5, .int v1), (0, .ref a0), (1, .int x1), (2, .int x2), (3, .int x3), (4, .int x4)] dL_areTips_87 (by decide) rfl ?_
        refine j_iload_n X dL_areTips_89 6 rfl ?_
        refine j_aload_n X dL_areTips_90 4 rfl ?_
        refine j_iload X dL_areTips_91 2 rfl ?_
        obtain ⟨⟨fs7, g7⟩, h⟩ := h
        refine j_callVi X [.int v2] [.int x2] (c_X8_heightOfZ h) (T := TX8) (N := 11) g7 rfl jm_X8_heightOf jw_1373 rfl ⟨rfl, rfl⟩ (by rw [hR]; exact ⟨⟨by decide, by decide⟩, by simp only []; omega, by simp only []; omega⟩) rfl (Nat.le_of_ble_eq_true rfl) dL_areTips_93 (fun v7 w7 h => ?_)
        refine j_iadd X dL_areTips_96 ?_
        refine j_istore_n X [(2, .int (x2 + v7)), (8, .int (v5 - v6)), (7, .int (v3 - v4)), (6, .int v2), (5, .int v1), (0, .ref a0), (1, .int x1), (3, .int x3), (4, .int x4)] dL_areTips_97 (by decide) rfl ?_
        refine j_aload_n X dL_areTips_98 5 rfl ?_
        refine j_iload X dL_areTips_99 3 rfl ?_
        obtain ⟨⟨fs8, g8⟩, h⟩ := h
        refine j_callVi X [.int v2] [] (c_X8_childCountZ h) (T := TX8) (N := 11) g8 rfl jm_X8_childCount jw_1351 rfl ⟨rfl, rfl⟩ (by rw [hR]; exact ⟨⟨by decide, by decide⟩, by simp only []; omega, by simp only []; omega⟩) rfl (Nat.le_of_ble_eq_true rfl) dL_areTips_101 (fun v8 w8 h => ?_)
        refine j_if_ne X 138 dL_areTips_104 (by decide) (fun c => ?_) (fun c => ?_)
        · replace h := jif_f c h
          refine j_sub [5, 6, 0, 8] rfl ?_
          refine j_widen (k := (2 + (17 - (n + 1)) * 2 + 2)) (n := (12 + (17 - (n + 1)) * 12 + 12)) (by omega) (by omega) ?_
          exact k_L_areTips_b138 hN X hR Rt (fun _ _ _ _ _ _ h => ih (by omega) h) h
        · replace h := jif_t c h
          refine j_iload X dL_areTips_107 2 rfl ?_
          refine j_if_gt X 134 dL_areTips_109 (by decide) (fun c => ?_) (fun c => ?_)
          · replace h := jif_t c h
            refine j_sub [5, 6, 0, 8] rfl ?_
            refine j_widen (k := (2 + (17 - (n + 1)) * 2 + 2)) (n := (12 + (17 - (n + 1)) * 12 + 12)) (by omega) (by omega) ?_
            exact k_L_areTips_b134 hN X hR Rt (fun _ _ _ _ _ _ h => ih (by omega) h) h
          · replace h := jif_f c h
            refine j_iload X dL_areTips_112 2 rfl ?_
            refine j_if_ne X 138 dL_areTips_114 (by decide) (fun c => ?_) (fun c => ?_)
            · replace h := jif_f c h
              refine j_sub [5, 6, 0, 8] rfl ?_
              refine j_widen (k := (2 + (17 - (n + 1)) * 2 + 2)) (n := (12 + (17 - (n + 1)) * 12 + 12)) (by omega) (by omega) ?_
              exact k_L_areTips_b138 hN X hR Rt (fun _ _ _ _ _ _ h => ih (by omega) h) h
            · replace h := jif_t c h
              refine j_iload X dL_areTips_117 1 rfl ?_
              refine j_if_gt X 134 dL_areTips_119 (by decide) (fun c => ?_) (fun c => ?_)
              · replace h := jif_t c h
                refine j_sub [5, 6, 0, 8] rfl ?_
                refine j_widen (k := (2 + (17 - (n + 1)) * 2 + 2)) (n := (12 + (17 - (n + 1)) * 12 + 12)) (by omega) (by omega) ?_
                exact k_L_areTips_b134 hN X hR Rt (fun _ _ _ _ _ _ h => ih (by omega) h) h
              · replace h := jif_f c h
                refine j_iload X dL_areTips_122 1 rfl ?_
                refine j_if_ne X 138 dL_areTips_124 (by decide) (fun c => ?_) (fun c => ?_)
                · replace h := jif_f c h
                  refine j_sub [5, 6, 0, 8] rfl ?_
                  refine j_widen (k := (2 + (17 - (n + 1)) * 2 + 2)) (n := (12 + (17 - (n + 1)) * 12 + 12)) (by omega) (by omega) ?_
                  exact k_L_areTips_b138 hN X hR Rt (fun _ _ _ _ _ _ h => ih (by omega) h) h
                · replace h := jif_t c h
                  refine j_iload X dL_areTips_127 4 rfl ?_
                  refine j_iload X dL_areTips_129 3 rfl ?_
                  refine j_icmp_ge X 138 dL_areTips_131 (by decide) (fun c => ?_) (fun c => ?_)
                  · replace h := jif_t c h
                    refine j_sub [5, 6, 0, 8] rfl ?_
                    refine j_widen (k := (2 + (17 - (n + 1)) * 2 + 2)) (n := (12 + (17 - (n + 1)) * 12 + 12)) (by omega) (by omega) ?_
                    exact k_L_areTips_b138 hN X hR Rt (fun _ _ _ _ _ _ h => ih (by omega) h) h
                  · replace h := jif_f c h
                    refine j_sub [5, 6, 0, 8] rfl ?_
                    refine j_widen (k := (2 + (17 - (n + 1)) * 2 + 2)) (n := (12 + (17 - (n + 1)) * 12 + 12)) (by omega) (by omega) ?_
                    exact k_L_areTips_b134 hN X hR Rt (fun _ _ _ _ _ _ h => ih (by omega) h) h
def w_L_areTips_b27 (κ : Nat → Nat) (w : va_W) (a0 : Nat) (x1 : Int32) (x2 : Int32) (s0 : Int32) (P : Int32 → va_W → Prop) : Prop :=
    w_L_areTips_b31 17 κ w a0 x1 x2 s0 1 P
set_option maxRecDepth 100000 in
set_option maxHeartbeats 4000000 in
theorem k_L_areTips_b27 {Γ : jG} (X : jX Γ cL_areTips 9 RL) (hR : jgR Γ = ({ frames := 8, cells := 36, slots := 216, locals := 158 } : Room)) {P : Int32 → va_W → Prop} (Rt : jRt Γ cL_areTips 9 36 216 (some .boolean) (jPi P)) {w : va_W} {a0 : Nat} {x1 : Int32} {x2 : Int32} {s0 : Int32} (h : w_L_areTips_b27 (jgE Γ).2.2.2 w a0 x1 x2 s0 P) : J Γ 9 w 2 12 27 [(0, .ref a0), (1, .int x1), (2, .int x2)] [.int s0] := by
  unfold w_L_areTips_b27 at h
  refine j_istore_n X [(3, .int s0), (0, .ref a0), (1, .int x1), (2, .int x2)] dL_areTips_27 (by decide) rfl ?_
  refine j_iconst X 1 dL_areTips_28 (by decide) ?_
  refine j_istore X [(4, .int 1), (3, .int s0), (0, .ref a0), (1, .int x1), (2, .int x2)] dL_areTips_29 (by decide) rfl ?_
  refine j_sub [2, 3, 4, 1, 0] rfl ?_
  refine j_widen (k := (2 + (17 - 17) * 2 + 0)) (n := (12 + (17 - 17) * 12 + 0)) (by omega) (by omega) ?_
  exact k_L_areTips_b31 X hR Rt _ (Nat.le_refl _) h
def w_L_areTips_b0 (κ : Nat → Nat) (w : va_W) (a0 : Nat) (x1 : Int32) (P : Int32 → va_W → Prop) : Prop :=
    w_L_tipAtRank κ w a0 0 (fun v1 w1 => (jRc w1 a0 11 ∧ w_X8_heightOfZ κ w1 a0 v1 (fun v2 w2 => w_L_tipAtRank κ w2 a0 0 (fun v3 w3 => (jRc w3 a0 11 ∧ w_X8_childCountZ κ w3 a0 v3 (fun v4 w4 => (if v4 = 0 then w_L_areTips_b27 κ w4 a0 x1 v2 1 P else w_L_areTips_b27 κ w4 a0 x1 v2 0 P)))))))
set_option maxRecDepth 100000 in
set_option maxHeartbeats 4000000 in
theorem k_L_areTips_b0 {Γ : jG} (X : jX Γ cL_areTips 9 RL) (hR : jgR Γ = ({ frames := 8, cells := 36, slots := 216, locals := 158 } : Room)) {P : Int32 → va_W → Prop} (Rt : jRt Γ cL_areTips 9 36 216 (some .boolean) (jPi P)) {w : va_W} {a0 : Nat} {x1 : Int32} (h : w_L_areTips_b0 (jgE Γ).2.2.2 w a0 x1 P) : J Γ 9 w 0 0 0 [(0, .ref a0), (1, .int x1)] [] := by
  unfold w_L_areTips_b0 at h
  refine j_aload_n X dL_areTips_0 0 rfl ?_
  refine j_aload_n X dL_areTips_1 0 rfl ?_
  refine j_iconst X 0 dL_areTips_2 (by decide) ?_
  refine j_callWi X [.ref a0, .int 0] [.ref a0] (c_L_tipAtRank h) jmw_L_tipAtRank jw_1496 rfl ⟨rfl, rfl⟩ (by rw [hR]; decide) rfl (Nat.le_of_ble_eq_true rfl) dL_areTips_3 (fun v1 w1 h => ?_)
  obtain ⟨⟨fs2, g2⟩, h⟩ := h
  refine j_callVi X [.int v1] [] (c_X8_heightOfZ h) (T := TX8) (N := 11) g2 rfl jm_X8_heightOf jw_1373 rfl ⟨rfl, rfl⟩ (by rw [hR]; decide) rfl (Nat.le_of_ble_eq_true rfl) dL_areTips_6 (fun v2 w2 h => ?_)
  refine j_istore_n X [(2, .int v2), (0, .ref a0), (1, .int x1)] dL_areTips_9 (by decide) rfl ?_
  refine j_aload_n X dL_areTips_10 1 rfl ?_
  refine j_aload_n X dL_areTips_11 1 rfl ?_
  refine j_iconst X 0 dL_areTips_12 (by decide) ?_
  refine j_callWi X [.ref a0, .int 0] [.ref a0] (c_L_tipAtRank h) jmw_L_tipAtRank jw_1496 rfl ⟨rfl, rfl⟩ (by rw [hR]; decide) rfl (Nat.le_of_ble_eq_true rfl) dL_areTips_13 (fun v3 w3 h => ?_)
  obtain ⟨⟨fs4, g4⟩, h⟩ := h
  refine j_callVi X [.int v3] [] (c_X8_childCountZ h) (T := TX8) (N := 11) g4 rfl jm_X8_childCount jw_1351 rfl ⟨rfl, rfl⟩ (by rw [hR]; decide) rfl (Nat.le_of_ble_eq_true rfl) dL_areTips_16 (fun v4 w4 h => ?_)
  refine j_if_ne X 26 dL_areTips_19 (by decide) (fun c => ?_) (fun c => ?_)
  · replace h := jif_f c h
    refine j_iconst X 0 dL_areTips_26 (by decide) ?_
    refine j_sub [1, 2, 0] rfl ?_
    refine j_widen (k := 2) (n := 12) (by omega) (by omega) ?_
    exact k_L_areTips_b27 X hR Rt h
  · replace h := jif_t c h
    refine j_iconst X 1 dL_areTips_22 (by decide) ?_
    refine j_goto X 27 dL_areTips_23 (by decide) ?_
    refine j_sub [1, 2, 0] rfl ?_
    refine j_widen (k := 2) (n := 12) (by omega) (by omega) ?_
    exact k_L_areTips_b27 X hR Rt h
def w_L_areTips (κ : Nat → Nat) (w : va_W) (a0 : Nat) (x1 : Int32) (P : Int32 → va_W → Prop) : Prop := w_L_areTips_b0 κ w a0 x1 P
theorem c_L_areTips {E : jE} {w : va_W} {a0 : Nat} {x1 : Int32} {P : Int32 → va_W → Prop} (h : w_L_areTips E.2.2.2 w a0 x1 P) : jC E yL_areTips cL_areTips 9 (some .boolean) ({ frames := 8, cells := 36, slots := 216, locals := 158 } : Room) [.ref a0, .int x1] w 36 216 (jPi P) := by
  refine jC_of (by decide) (Nat.le_of_ble_eq_true rfl) ?_
  intro Γ X hE hR Rt
  subst hE
  exact k_L_areTips_b0 X hR Rt h
theorem jm_L_areBlocks : jMs yL_areBlocks cL_areBlocks 8 (some .boolean) 1 := ⟨jw_1301, jw_21, jw_1302, ⟨by decide +kernel, by decide +kernel⟩, by decide +kernel⟩
def w_L_areBlocks_b241 (κ : Nat → Nat) (w : va_W) (s0 : Int32) (P : Int32 → va_W → Prop) : Prop :=
    (narrow .boolean (.int s0) = .int s0 ∧ P s0 w)
set_option maxRecDepth 100000 in
set_option maxHeartbeats 4000000 in
theorem k_L_areBlocks_b241 {Γ : jG} (X : jX Γ cL_areBlocks 8 RL) (hR : jgR Γ = ({ frames := 25, cells := 2298, slots := 375446, locals := 619 } : Room)) {P : Int32 → va_W → Prop} (Rt : jRt Γ cL_areBlocks 8 2298 375446 (some .boolean) (jPi P)) {w : va_W} {s0 : Int32} (h : w_L_areBlocks_b241 (jgE Γ).2.2.2 w s0 P) : J Γ 8 w 2298 375446 241 [] [.int s0] := by
  unfold w_L_areBlocks_b241 at h
  exact Rt.z dL_areBlocks_241 h.1 ⟨_, rfl, h.2⟩ (by first | decide | omega) (by first | decide | omega)
def w_L_areBlocks_b240 (κ : Nat → Nat) (w : va_W) (P : Int32 → va_W → Prop) : Prop :=
    w_L_areBlocks_b241 κ w 0 P
set_option maxRecDepth 100000 in
set_option maxHeartbeats 4000000 in
theorem k_L_areBlocks_b240 {Γ : jG} (X : jX Γ cL_areBlocks 8 RL) (hR : jgR Γ = ({ frames := 25, cells := 2298, slots := 375446, locals := 619 } : Room)) {P : Int32 → va_W → Prop} (Rt : jRt Γ cL_areBlocks 8 2298 375446 (some .boolean) (jPi P)) {w : va_W} (h : w_L_areBlocks_b240 (jgE Γ).2.2.2 w  P) : J Γ 8 w 2298 375446 240 [] [] := by
  unfold w_L_areBlocks_b240 at h
  refine j_iconst X 0 dL_areBlocks_240 (by decide) ?_
  refine j_widen (k := 2298) (n := 375446) (by omega) (by omega) ?_
  exact k_L_areBlocks_b241 X hR Rt h
def w_L_areBlocks_b161 : Nat → (κ : Nat → Nat) → (w : va_W) → (a0 : Nat) → (x1 : Int32) → (x2 : Int32) → (x3 : Int32) → (x5 : Int32) → (x6 : Int32) → (x7 : Int32) → (P : Int32 → va_W → Prop) → Prop
  | 0, _, _, _, _, _, _, _, _, _, _ => False
  | n + 1, κ, w, a0, x1, x2, x3, x5, x6, x7, P =>
    (if 16 ≤ x7 then (if x5 = 0 then w_L_areBlocks_b240 κ w  P else (if x6 = x3 then (jRc w a0 11 ∧ w_X8_tipCount κ w a0 (fun v1 w1 => (if v1 = x1 then w_L_tipAtRank κ w1 a0 x1 (fun v2 w2 => (if v2 = (-1000) then (jRc w2 a0 11 ∧ w_X8_validShare κ w2 a0 (fun v3 w3 => (vf_n32 (FP.fdiv (FP.i2f x2) (FP.i2f x3)) ∧ (if (Op.cmpValue (FP.fcmp v3 (FP.fdiv (FP.i2f x2) (FP.i2f x3))) .l) = 0 then w_L_areTips κ w3 a0 x1 (fun v4 w4 => (if v4 = 0 then w_L_areBlocks_b240 κ w4  P else w_L_areBlocks_b241 κ w4 1 P)) else w_L_areBlocks_b240 κ w3  P)))) else w_L_areBlocks_b240 κ w2  P)) else w_L_areBlocks_b240 κ w1  P))) else w_L_areBlocks_b240 κ w  P)) else (jRc w a0 11 ∧ w_X8_blocksAtHeightZ κ w a0 x7 (fun v5 w5 => w_L_areBlocks_b161 n κ w5 a0 x1 x2 x3 x5 (x6 + v5) (x7 + 1) P)))
set_option maxRecDepth 100000 in
set_option maxHeartbeats 4000000 in
theorem k_L_areBlocks_b161 {Γ : jG} (X : jX Γ cL_areBlocks 8 RL) (hR : jgR Γ = ({ frames := 25, cells := 2298, slots := 375446, locals := 619 } : Room)) {P : Int32 → va_W → Prop} (Rt : jRt Γ cL_areBlocks 8 2298 375446 (some .boolean) (jPi P)) : ∀ (n : Nat) {w : va_W} {a0 : Nat} {x1 : Int32} {x2 : Int32} {x3 : Int32} {x5 : Int32} {x6 : Int32} {x7 : Int32} (h : w_L_areBlocks_b161 n (jgE Γ).2.2.2 w a0 x1 x2 x3 x5 x6 x7 P), J Γ 8 w 2261 375224 161 [(0, .ref a0), (1, .int x1), (2, .int x2), (3, .int x3), (5, .int x5), (6, .int x6), (7, .int x7)] [] := by
  intro n
  induction n with
  | zero => intro w a0 x1 x2 x3 x5 x6 x7 h; exact False.elim h
  | succ n ih =>
    intro w a0 x1 x2 x3 x5 x6 x7 h
    rw [w_L_areBlocks_b161] at h
    refine j_iload X dL_areBlocks_161 6 rfl ?_
    refine j_bipush X 16 dL_areBlocks_163 (by decide) ?_
    refine j_icmp_ge X 185 dL_areBlocks_165 (by decide) (fun c => ?_) (fun c => ?_)
    · replace h := jif_t c h
      refine j_iload X dL_areBlocks_185 4 rfl ?_
      refine j_if_eq X 240 dL_areBlocks_187 (by decide) (fun c => ?_) (fun c => ?_)
      · replace h := jif_t c h
        refine j_sub [] rfl ?_
        refine j_widen (k := 2298) (n := 375446) (by omega) (by omega) ?_
        exact k_L_areBlocks_b240 X hR Rt h
      · replace h := jif_f c h
        refine j_iload X dL_areBlocks_190 5 rfl ?_
        refine j_iload_n X dL_areBlocks_192 3 rfl ?_
        refine j_icmp_ne X 240 dL_areBlocks_193 (by decide) (fun c => ?_) (fun c => ?_)
        · replace h := jif_f c h
          refine j_sub [] rfl ?_
          refine j_widen (k := 2298) (n := 375446) (by omega) (by omega) ?_
          exact k_L_areBlocks_b240 X hR Rt h
        · replace h := jif_t c h
          refine j_aload_n X dL_areBlocks_196 0 rfl ?_
          obtain ⟨⟨fs1, g1⟩, h⟩ := h
          refine j_callVi X [] [] (c_X8_tipCount h) (T := TX8) (N := 11) g1 rfl jm_X8_tipCount jw_1483 rfl ⟨rfl, rfl⟩ (by rw [hR]; decide) rfl (Nat.le_of_ble_eq_true rfl) dL_areBlocks_197 (fun v1 w1 h => ?_)
          refine j_iload_n X dL_areBlocks_200 1 rfl ?_
          refine j_icmp_ne X 240 dL_areBlocks_201 (by decide) (fun c => ?_) (fun c => ?_)
          · replace h := jif_f c h
            refine j_sub [] rfl ?_
            refine j_widen (k := 2298) (n := 375446) (by omega) (by omega) ?_
            exact k_L_areBlocks_b240 X hR Rt h
          · replace h := jif_t c h
            refine j_aload_n X dL_areBlocks_204 0 rfl ?_
            refine j_iload_n X dL_areBlocks_205 1 rfl ?_
            refine j_callWi X [.ref a0, .int x1] [] (c_L_tipAtRank h) jmw_L_tipAtRank jw_1496 rfl ⟨rfl, rfl⟩ (by rw [hR]; decide) rfl (Nat.le_of_ble_eq_true rfl) dL_areBlocks_206 (fun v2 w2 h => ?_)
            refine j_sipush X (-1000) dL_areBlocks_209 (by decide) ?_
            refine j_icmp_ne X 240 dL_areBlocks_212 (by decide) (fun c => ?_) (fun c => ?_)
            · replace h := jif_f c h
              refine j_sub [] rfl ?_
              refine j_widen (k := 2298) (n := 375446) (by omega) (by omega) ?_
              exact k_L_areBlocks_b240 X hR Rt h
            · replace h := jif_t c h
              refine j_aload_n X dL_areBlocks_215 0 rfl ?_
              obtain ⟨⟨fs3, g3⟩, h⟩ := h
              refine j_callVf X [] [] (c_X8_validShare h) (T := TX8) (N := 11) g3 rfl jm_X8_validShare jw_1512 rfl ⟨rfl, rfl⟩ (by rw [hR]; decide) rfl (Nat.le_of_ble_eq_true rfl) dL_areBlocks_216 (fun v3 w3 h => ?_)
              refine j_iload_n X dL_areBlocks_219 2 rfl ?_
              refine j_i2f X dL_areBlocks_220 ?_
              refine j_iload_n X dL_areBlocks_221 3 rfl ?_
              refine j_i2f X dL_areBlocks_222 ?_
              refine j_fdiv X dL_areBlocks_223 h.1 ?_
              replace h := h.2
              refine j_fcmp X dL_areBlocks_224 ?_
              refine j_if_ne X 240 dL_areBlocks_225 (by decide) (fun c => ?_) (fun c => ?_)
              · replace h := jif_f c h
                refine j_sub [] rfl ?_
                refine j_widen (k := 2298) (n := 375446) (by omega) (by omega) ?_
                exact k_L_areBlocks_b240 X hR Rt h
              · replace h := jif_t c h
                refine j_aload_n X dL_areBlocks_228 0 rfl ?_
                refine j_iload_n X dL_areBlocks_229 1 rfl ?_
                refine j_callSi X [.ref a0, .int x1] [] (c_L_areTips h) jm_L_areTips jw_1520 rfl ⟨rfl, rfl⟩ (by rw [hR]; decide) rfl (Nat.le_of_ble_eq_true rfl) dL_areBlocks_230 (fun v4 w4 h => ?_)
                refine j_if_eq X 240 dL_areBlocks_233 (by decide) (fun c => ?_) (fun c => ?_)
                · replace h := jif_t c h
                  refine j_sub [] rfl ?_
                  refine j_widen (k := 2298) (n := 375446) (by omega) (by omega) ?_
                  exact k_L_areBlocks_b240 X hR Rt h
                · replace h := jif_f c h
                  refine j_iconst X 1 dL_areBlocks_236 (by decide) ?_
                  refine j_goto X 241 dL_areBlocks_237 (by decide) ?_
                  refine j_sub [] rfl ?_
                  refine j_widen (k := 2298) (n := 375446) (by omega) (by omega) ?_
                  exact k_L_areBlocks_b241 X hR Rt h
    · replace h := jif_f c h
      refine j_iload X dL_areBlocks_168 5 rfl ?_
      refine j_aload_n X dL_areBlocks_170 0 rfl ?_
      refine j_iload X dL_areBlocks_171 6 rfl ?_
      obtain ⟨⟨fs5, g5⟩, h⟩ := h
      refine j_callVi X [.int x7] [.int x6] (c_X8_blocksAtHeightZ h) (T := TX8) (N := 11) g5 rfl jm_X8_blocksAtHeight jw_1474 rfl ⟨rfl, rfl⟩ (by rw [hR]; decide) rfl (Nat.le_of_ble_eq_true rfl) dL_areBlocks_173 (fun v5 w5 h => ?_)
      refine j_iadd X dL_areBlocks_176 ?_
      refine j_istore X [(6, .int (x6 + v5)), (0, .ref a0), (1, .int x1), (2, .int x2), (3, .int x3), (5, .int x5), (7, .int x7)] dL_areBlocks_177 (by decide) rfl ?_
      refine j_iinc X (x7 + 1) [(7, .int (x7 + 1)), (6, .int (x6 + v5)), (0, .ref a0), (1, .int x1), (2, .int x2), (3, .int x3), (5, .int x5)] dL_areBlocks_179 6 rfl rfl (by decide) rfl ?_
      refine j_goto X 161 dL_areBlocks_182 (by decide) ?_
      refine j_sub [2, 3, 4, 5, 6, 1, 0] rfl ?_
      refine j_widen (k := 2261) (n := 375224) (by omega) (by omega) ?_
      exact ih h
def w_L_areBlocks_b155 (κ : Nat → Nat) (w : va_W) (a0 : Nat) (x1 : Int32) (x2 : Int32) (x3 : Int32) (x5 : Int32) (P : Int32 → va_W → Prop) : Prop :=
    w_L_areBlocks_b161 jFu κ w a0 x1 x2 x3 x5 0 0 P
set_option maxRecDepth 100000 in
set_option maxHeartbeats 4000000 in
theorem k_L_areBlocks_b155 {Γ : jG} (X : jX Γ cL_areBlocks 8 RL) (hR : jgR Γ = ({ frames := 25, cells := 2298, slots := 375446, locals := 619 } : Room)) {P : Int32 → va_W → Prop} (Rt : jRt Γ cL_areBlocks 8 2298 375446 (some .boolean) (jPi P)) {w : va_W} {a0 : Nat} {x1 : Int32} {x2 : Int32} {x3 : Int32} {x5 : Int32} (h : w_L_areBlocks_b155 (jgE Γ).2.2.2 w a0 x1 x2 x3 x5 P) : J Γ 8 w 2261 375224 155 [(0, .ref a0), (1, .int x1), (2, .int x2), (3, .int x3), (5, .int x5)] [] := by
  unfold w_L_areBlocks_b155 at h
  refine j_iconst X 0 dL_areBlocks_155 (by decide) ?_
  refine j_istore X [(6, .int 0), (0, .ref a0), (1, .int x1), (2, .int x2), (3, .int x3), (5, .int x5)] dL_areBlocks_156 (by decide) rfl ?_
  refine j_iconst X 0 dL_areBlocks_158 (by decide) ?_
  refine j_istore X [(7, .int 0), (6, .int 0), (0, .ref a0), (1, .int x1), (2, .int x2), (3, .int x3), (5, .int x5)] dL_areBlocks_159 (by decide) rfl ?_
  refine j_sub [2, 3, 4, 5, 6, 1, 0] rfl ?_
  refine j_widen (k := 2261) (n := 375224) (by omega) (by omega) ?_
  exact k_L_areBlocks_b161 X hR Rt _ h
def w_L_areBlocks_b147 (κ : Nat → Nat) (w : va_W) (a0 : Nat) (x1 : Int32) (x2 : Int32) (x3 : Int32) (x4 : Int32) (x6 : Int32) (s0 : Int32) (K56 : va_W → Nat → Int32 → Int32 → Int32 → Int32 → Int32 → Int32 → Prop) (P : Int32 → va_W → Prop) : Prop :=
    K56 w a0 x1 x2 x3 x4 s0 (x6 + 1)
set_option maxRecDepth 100000 in
set_option maxHeartbeats 4000000 in
theorem k_L_areBlocks_b147 {N : Nat} (hN : N + 1 ≤ 17) {Γ : jG} (X : jX Γ cL_areBlocks 8 RL) (hR : jgR Γ = ({ frames := 25, cells := 2298, slots := 375446, locals := 619 } : Room)) {P : Int32 → va_W → Prop} (Rt : jRt Γ cL_areBlocks 8 2298 375446 (some .boolean) (jPi P)) {K56 : va_W → Nat → Int32 → Int32 → Int32 → Int32 → Int32 → Int32 → Prop} (hK56 : ∀ (w : va_W) (a0 : Nat) (x1 : Int32) (x2 : Int32) (x3 : Int32) (x4 : Int32) (x5 : Int32) (x6 : Int32), K56 w a0 x1 x2 x3 x4 x5 x6 → J Γ 8 w (0 + (17 - N) * 133 + 0) (0 + (17 - N) * 22072 + 0) 56 [(0, .ref a0), (1, .int x1), (2, .int x2), (3, .int x3), (4, .int x4), (5, .int x5), (6, .int x6)] []) {w : va_W} {a0 : Nat} {x1 : Int32} {x2 : Int32} {x3 : Int32} {x4 : Int32} {x6 : Int32} {s0 : Int32} (h : w_L_areBlocks_b147 (jgE Γ).2.2.2 w a0 x1 x2 x3 x4 x6 s0 K56 P) : J Γ 8 w (0 + (17 - (N + 1)) * 133 + 133) (0 + (17 - (N + 1)) * 22072 + 22072) 147 [(0, .ref a0), (1, .int x1), (2, .int x2), (3, .int x3), (4, .int x4), (6, .int x6)] [.int s0] := by
  unfold w_L_areBlocks_b147 at h
  refine j_istore X [(5, .int s0), (0, .ref a0), (1, .int x1), (2, .int x2), (3, .int x3), (4, .int x4), (6, .int x6)] dL_areBlocks_147 (by decide) rfl ?_
  refine j_iinc X (x6 + 1) [(6, .int (x6 + 1)), (5, .int s0), (0, .ref a0), (1, .int x1), (2, .int x2), (3, .int x3), (4, .int x4)] dL_areBlocks_149 6 rfl rfl (by decide) rfl ?_
  refine j_goto X 56 dL_areBlocks_152 (by decide) ?_
  refine j_sub [2, 3, 4, 5, 6, 1, 0] rfl ?_
  refine j_widen (k := (0 + (17 - N) * 133 + 0)) (n := (0 + (17 - N) * 22072 + 0)) (by omega) (by omega) ?_
  exact hK56 _ _ _ _ _ _ _ _ h
def w_L_areBlocks_b146 (κ : Nat → Nat) (w : va_W) (a0 : Nat) (x1 : Int32) (x2 : Int32) (x3 : Int32) (x4 : Int32) (x6 : Int32) (K56 : va_W → Nat → Int32 → Int32 → Int32 → Int32 → Int32 → Int32 → Prop) (P : Int32 → va_W → Prop) : Prop :=
    w_L_areBlocks_b147 κ w a0 x1 x2 x3 x4 x6 0 K56 P
set_option maxRecDepth 100000 in
set_option maxHeartbeats 4000000 in
theorem k_L_areBlocks_b146 {N : Nat} (hN : N + 1 ≤ 17) {Γ : jG} (X : jX Γ cL_areBlocks 8 RL) (hR : jgR Γ = ({ frames := 25, cells := 2298, slots := 375446, locals := 619 } : Room)) {P : Int32 → va_W → Prop} (Rt : jRt Γ cL_areBlocks 8 2298 375446 (some .boolean) (jPi P)) {K56 : va_W → Nat → Int32 → Int32 → Int32 → Int32 → Int32 → Int32 → Prop} (hK56 : ∀ (w : va_W) (a0 : Nat) (x1 : Int32) (x2 : Int32) (x3 : Int32) (x4 : Int32) (x5 : Int32) (x6 : Int32), K56 w a0 x1 x2 x3 x4 x5 x6 → J Γ 8 w (0 + (17 - N) * 133 + 0) (0 + (17 - N) * 22072 + 0) 56 [(0, .ref a0), (1, .int x1), (2, .int x2), (3, .int x3), (4, .int x4), (5, .int x5), (6, .int x6)] []) {w : va_W} {a0 : Nat} {x1 : Int32} {x2 : Int32} {x3 : Int32} {x4 : Int32} {x6 : Int32} (h : w_L_areBlocks_b146 (jgE Γ).2.2.2 w a0 x1 x2 x3 x4 x6 K56 P) : J Γ 8 w (0 + (17 - (N + 1)) * 133 + 133) (0 + (17 - (N + 1)) * 22072 + 22072) 146 [(0, .ref a0), (1, .int x1), (2, .int x2), (3, .int x3), (4, .int x4), (6, .int x6)] [] := by
  unfold w_L_areBlocks_b146 at h
  refine j_iconst X 0 dL_areBlocks_146 (by decide) ?_
  refine j_widen (k := (0 + (17 - (N + 1)) * 133 + 133)) (n := (0 + (17 - (N + 1)) * 22072 + 22072)) (by omega) (by omega) ?_
  exact k_L_areBlocks_b147 hN X hR Rt hK56 h
def w_L_areBlocks_b142 (κ : Nat → Nat) (w : va_W) (a0 : Nat) (x1 : Int32) (x2 : Int32) (x3 : Int32) (x4 : Int32) (x6 : Int32) (K56 : va_W → Nat → Int32 → Int32 → Int32 → Int32 → Int32 → Int32 → Prop) (P : Int32 → va_W → Prop) : Prop :=
    w_L_areBlocks_b147 κ w a0 x1 x2 x3 x4 x6 1 K56 P
set_option maxRecDepth 100000 in
set_option maxHeartbeats 4000000 in
theorem k_L_areBlocks_b142 {N : Nat} (hN : N + 1 ≤ 17) {Γ : jG} (X : jX Γ cL_areBlocks 8 RL) (hR : jgR Γ = ({ frames := 25, cells := 2298, slots := 375446, locals := 619 } : Room)) {P : Int32 → va_W → Prop} (Rt : jRt Γ cL_areBlocks 8 2298 375446 (some .boolean) (jPi P)) {K56 : va_W → Nat → Int32 → Int32 → Int32 → Int32 → Int32 → Int32 → Prop} (hK56 : ∀ (w : va_W) (a0 : Nat) (x1 : Int32) (x2 : Int32) (x3 : Int32) (x4 : Int32) (x5 : Int32) (x6 : Int32), K56 w a0 x1 x2 x3 x4 x5 x6 → J Γ 8 w (0 + (17 - N) * 133 + 0) (0 + (17 - N) * 22072 + 0) 56 [(0, .ref a0), (1, .int x1), (2, .int x2), (3, .int x3), (4, .int x4), (5, .int x5), (6, .int x6)] []) {w : va_W} {a0 : Nat} {x1 : Int32} {x2 : Int32} {x3 : Int32} {x4 : Int32} {x6 : Int32} (h : w_L_areBlocks_b142 (jgE Γ).2.2.2 w a0 x1 x2 x3 x4 x6 K56 P) : J Γ 8 w (0 + (17 - (N + 1)) * 133 + 133) (0 + (17 - (N + 1)) * 22072 + 22072) 142 [(0, .ref a0), (1, .int x1), (2, .int x2), (3, .int x3), (4, .int x4), (6, .int x6)] [] := by
  unfold w_L_areBlocks_b142 at h
  refine j_iconst X 1 dL_areBlocks_142 (by decide) ?_
  refine j_goto X 147 dL_areBlocks_143 (by decide) ?_
  refine j_widen (k := (0 + (17 - (N + 1)) * 133 + 133)) (n := (0 + (17 - (N + 1)) * 22072 + 22072)) (by omega) (by omega) ?_
  exact k_L_areBlocks_b147 hN X hR Rt hK56 h
def w_L_areBlocks_b107 (κ : Nat → Nat) (w : va_W) (a0 : Nat) (x1 : Int32) (x3 : Int32) (x4 : Int32) (x6 : Int32) (x7 : Int32) (s0 : Int32) (s1 : Int32) (K56 : va_W → Nat → Int32 → Int32 → Int32 → Int32 → Int32 → Int32 → Prop) (P : Int32 → va_W → Prop) : Prop :=
    w_L_isBlock κ w a0 x7 (fun v1 w1 => (if v1 = 0 then w_L_areBlocks_b146 κ w1 a0 x1 (s1 + s0) x3 x4 x6 K56 P else (jRc w1 a0 11 ∧ w_X8_isBranchValidZ κ w1 a0 x7 (fun v2 w2 => (if v2 = 0 then w_L_areBlocks_b142 κ w2 a0 x1 (s1 + s0) x3 x4 x6 K56 P else (jRc w2 a0 11 ∧ w_X8_heightOfZ κ w2 a0 x7 (fun v3 w3 => (jRc w3 a0 11 ∧ w_X8_heightOfZ κ w3 a0 x4 (fun v4 w4 => (if v4 < v3 then w_L_areBlocks_b146 κ w4 a0 x1 (s1 + s0) x3 x4 x6 K56 P else w_L_areBlocks_b142 κ w4 a0 x1 (s1 + s0) x3 x4 x6 K56 P))))))))))
set_option maxRecDepth 100000 in
set_option maxHeartbeats 4000000 in
theorem k_L_areBlocks_b107 {N : Nat} (hN : N + 1 ≤ 17) {Γ : jG} (X : jX Γ cL_areBlocks 8 RL) (hR : jgR Γ = ({ frames := 25, cells := 2298, slots := 375446, locals := 619 } : Room)) {P : Int32 → va_W → Prop} (Rt : jRt Γ cL_areBlocks 8 2298 375446 (some .boolean) (jPi P)) {K56 : va_W → Nat → Int32 → Int32 → Int32 → Int32 → Int32 → Int32 → Prop} (hK56 : ∀ (w : va_W) (a0 : Nat) (x1 : Int32) (x2 : Int32) (x3 : Int32) (x4 : Int32) (x5 : Int32) (x6 : Int32), K56 w a0 x1 x2 x3 x4 x5 x6 → J Γ 8 w (0 + (17 - N) * 133 + 0) (0 + (17 - N) * 22072 + 0) 56 [(0, .ref a0), (1, .int x1), (2, .int x2), (3, .int x3), (4, .int x4), (5, .int x5), (6, .int x6)] []) {w : va_W} {a0 : Nat} {x1 : Int32} {x3 : Int32} {x4 : Int32} {x6 : Int32} {x7 : Int32} {s0 : Int32} {s1 : Int32} (h : w_L_areBlocks_b107 (jgE Γ).2.2.2 w a0 x1 x3 x4 x6 x7 s0 s1 K56 P) : J Γ 8 w (0 + (17 - (N + 1)) * 133 + 0) (0 + (17 - (N + 1)) * 22072 + 0) 107 [(0, .ref a0), (1, .int x1), (3, .int x3), (4, .int x4), (6, .int x6), (7, .int x7)] [.int s0, .int s1] := by
  unfold w_L_areBlocks_b107 at h
  refine j_iadd X dL_areBlocks_107 ?_
  refine j_istore_n X [(2, .int (s1 + s0)), (0, .ref a0), (1, .int x1), (3, .int x3), (4, .int x4), (6, .int x6), (7, .int x7)] dL_areBlocks_108 (by decide) rfl ?_
  refine j_aload_n X dL_areBlocks_109 1 rfl ?_
  refine j_iload X dL_areBlocks_110 6 rfl ?_
  refine j_callSi X [.ref a0, .int x7] [] (c_L_isBlock h) jm_L_isBlock jw_1364 rfl ⟨rfl, rfl⟩ (by rw [hR]; exact ⟨⟨by decide, by decide⟩, by simp only []; omega, by simp only []; omega⟩) rfl (Nat.le_of_ble_eq_true rfl) dL_areBlocks_112 (fun v1 w1 h => ?_)
  refine j_if_eq X 146 dL_areBlocks_115 (by decide) (fun c => ?_) (fun c => ?_)
  · replace h := jif_t c h
    refine j_sub [1, 2, 0, 3, 4, 5] rfl ?_
    refine j_widen (k := (0 + (17 - (N + 1)) * 133 + 133)) (n := (0 + (17 - (N + 1)) * 22072 + 22072)) (by omega) (by omega) ?_
    exact k_L_areBlocks_b146 hN X hR Rt hK56 h
  · replace h := jif_f c h
    refine j_aload_n X dL_areBlocks_118 1 rfl ?_
    refine j_iload X dL_areBlocks_119 6 rfl ?_
    obtain ⟨⟨fs2, g2⟩, h⟩ := h
    refine j_callVi X [.int x7] [] (c_X8_isBranchValidZ h) (T := TX8) (N := 11) g2 rfl jm_X8_isBranchValid jw_1346 rfl ⟨rfl, rfl⟩ (by rw [hR]; exact ⟨⟨by decide, by decide⟩, by simp only []; omega, by simp only []; omega⟩) rfl (Nat.le_of_ble_eq_true rfl) dL_areBlocks_121 (fun v2 w2 h => ?_)
    refine j_if_eq X 142 dL_areBlocks_124 (by decide) (fun c => ?_) (fun c => ?_)
    · replace h := jif_t c h
      refine j_sub [1, 2, 0, 3, 4, 5] rfl ?_
      refine j_widen (k := (0 + (17 - (N + 1)) * 133 + 133)) (n := (0 + (17 - (N + 1)) * 22072 + 22072)) (by omega) (by omega) ?_
      exact k_L_areBlocks_b142 hN X hR Rt hK56 h
    · replace h := jif_f c h
      refine j_aload_n X dL_areBlocks_127 1 rfl ?_
      refine j_iload X dL_areBlocks_128 6 rfl ?_
      obtain ⟨⟨fs3, g3⟩, h⟩ := h
      refine j_callVi X [.int x7] [] (c_X8_heightOfZ h) (T := TX8) (N := 11) g3 rfl jm_X8_heightOf jw_1373 rfl ⟨rfl, rfl⟩ (by rw [hR]; exact ⟨⟨by decide, by decide⟩, by simp only []; omega, by simp only []; omega⟩) rfl (Nat.le_of_ble_eq_true rfl) dL_areBlocks_130 (fun v3 w3 h => ?_)
      refine j_aload_n X dL_areBlocks_133 1 rfl ?_
      refine j_iload X dL_areBlocks_134 4 rfl ?_
      obtain ⟨⟨fs4, g4⟩, h⟩ := h
      refine j_callVi X [.int x4] [.int v3] (c_X8_heightOfZ h) (T := TX8) (N := 11) g4 rfl jm_X8_heightOf jw_1373 rfl ⟨rfl, rfl⟩ (by rw [hR]; exact ⟨⟨by decide, by decide⟩, by simp only []; omega, by simp only []; omega⟩) rfl (Nat.le_of_ble_eq_true rfl) dL_areBlocks_136 (fun v4 w4 h => ?_)
      refine j_icmp_gt X 146 dL_areBlocks_139 (by decide) (fun c => ?_) (fun c => ?_)
      · replace h := jif_t c h
        refine j_sub [1, 2, 0, 3, 4, 5] rfl ?_
        refine j_widen (k := (0 + (17 - (N + 1)) * 133 + 133)) (n := (0 + (17 - (N + 1)) * 22072 + 22072)) (by omega) (by omega) ?_
        exact k_L_areBlocks_b146 hN X hR Rt hK56 h
      · replace h := jif_f c h
        refine j_sub [1, 2, 0, 3, 4, 5] rfl ?_
        refine j_widen (k := (0 + (17 - (N + 1)) * 133 + 133)) (n := (0 + (17 - (N + 1)) * 22072 + 22072)) (by omega) (by omega) ?_
        exact k_L_areBlocks_b142 hN X hR Rt hK56 h
def w_L_areBlocks_b90 (κ : Nat → Nat) (w : va_W) (a0 : Nat) (x2 : Int32) (x3 : Int32) (x4 : Int32) (x6 : Int32) (x7 : Int32) (s0 : Int32) (s1 : Int32) (K56 : va_W → Nat → Int32 → Int32 → Int32 → Int32 → Int32 → Int32 → Prop) (P : Int32 → va_W → Prop) : Prop :=
    (jRc w a0 11 ∧ w_X8_isValidZ κ w a0 x7 (fun v1 w1 => (if v1 = 0 then w_L_areBlocks_b107 κ w1 a0 (s1 + s0) x3 x4 x6 x7 0 x2 K56 P else w_L_areBlocks_b107 κ w1 a0 (s1 + s0) x3 x4 x6 x7 1 x2 K56 P)))
set_option maxRecDepth 100000 in
set_option maxHeartbeats 4000000 in
theorem k_L_areBlocks_b90 {N : Nat} (hN : N + 1 ≤ 17) {Γ : jG} (X : jX Γ cL_areBlocks 8 RL) (hR : jgR Γ = ({ frames := 25, cells := 2298, slots := 375446, locals := 619 } : Room)) {P : Int32 → va_W → Prop} (Rt : jRt Γ cL_areBlocks 8 2298 375446 (some .boolean) (jPi P)) {K56 : va_W → Nat → Int32 → Int32 → Int32 → Int32 → Int32 → Int32 → Prop} (hK56 : ∀ (w : va_W) (a0 : Nat) (x1 : Int32) (x2 : Int32) (x3 : Int32) (x4 : Int32) (x5 : Int32) (x6 : Int32), K56 w a0 x1 x2 x3 x4 x5 x6 → J Γ 8 w (0 + (17 - N) * 133 + 0) (0 + (17 - N) * 22072 + 0) 56 [(0, .ref a0), (1, .int x1), (2, .int x2), (3, .int x3), (4, .int x4), (5, .int x5), (6, .int x6)] []) {w : va_W} {a0 : Nat} {x2 : Int32} {x3 : Int32} {x4 : Int32} {x6 : Int32} {x7 : Int32} {s0 : Int32} {s1 : Int32} (h : w_L_areBlocks_b90 (jgE Γ).2.2.2 w a0 x2 x3 x4 x6 x7 s0 s1 K56 P) : J Γ 8 w (0 + (17 - (N + 1)) * 133 + 0) (0 + (17 - (N + 1)) * 22072 + 0) 90 [(0, .ref a0), (2, .int x2), (3, .int x3), (4, .int x4), (6, .int x6), (7, .int x7)] [.int s0, .int s1] := by
  unfold w_L_areBlocks_b90 at h
  refine j_iadd X dL_areBlocks_90 ?_
  refine j_istore_n X [(1, .int (s1 + s0)), (0, .ref a0), (2, .int x2), (3, .int x3), (4, .int x4), (6, .int x6), (7, .int x7)] dL_areBlocks_91 (by decide) rfl ?_
  refine j_iload_n X dL_areBlocks_92 2 rfl ?_
  refine j_aload_n X dL_areBlocks_93 1 rfl ?_
  refine j_iload X dL_areBlocks_94 6 rfl ?_
  obtain ⟨⟨fs1, g1⟩, h⟩ := h
  refine j_callVi X [.int x7] [.int x2] (c_X8_isValidZ h) (T := TX8) (N := 11) g1 rfl jm_X8_isValid jw_1359 rfl ⟨rfl, rfl⟩ (by rw [hR]; exact ⟨⟨by decide, by decide⟩, by simp only []; omega, by simp only []; omega⟩) rfl (Nat.le_of_ble_eq_true rfl) dL_areBlocks_96 (fun v1 w1 h => ?_)
  refine j_if_eq X 106 dL_areBlocks_99 (by decide) (fun c => ?_) (fun c => ?_)
  · replace h := jif_t c h
    refine j_iconst X 0 dL_areBlocks_106 (by decide) ?_
    refine j_sub [1, 0, 3, 4, 5, 6] rfl ?_
    refine j_widen (k := (0 + (17 - (N + 1)) * 133 + 0)) (n := (0 + (17 - (N + 1)) * 22072 + 0)) (by omega) (by omega) ?_
    exact k_L_areBlocks_b107 hN X hR Rt hK56 h
  · replace h := jif_f c h
    refine j_iconst X 1 dL_areBlocks_102 (by decide) ?_
    refine j_goto X 107 dL_areBlocks_103 (by decide) ?_
    refine j_sub [1, 0, 3, 4, 5, 6] rfl ?_
    refine j_widen (k := (0 + (17 - (N + 1)) * 133 + 0)) (n := (0 + (17 - (N + 1)) * 22072 + 0)) (by omega) (by omega) ?_
    exact k_L_areBlocks_b107 hN X hR Rt hK56 h
def w_L_areBlocks_b56 : Nat → (κ : Nat → Nat) → (w : va_W) → (a0 : Nat) → (x1 : Int32) → (x2 : Int32) → (x3 : Int32) → (x4 : Int32) → (x5 : Int32) → (x6 : Int32) → (P : Int32 → va_W → Prop) → Prop
  | 0, _, _, _, _, _, _, _, _, _, _ => False
  | n + 1, κ, w, a0, x1, x2, x3, x4, x5, x6, P =>
    (if x5 = 0 then w_L_areBlocks_b155 κ w a0 x1 x2 x3 x5 P else (if x3 ≤ x6 then w_L_areBlocks_b155 κ w a0 x1 x2 x3 x5 P else w_L_blockAt κ w a0 x6 (fun v1 w1 => (jRc w1 a0 11 ∧ w_X8_childCountZ κ w1 a0 v1 (fun v2 w2 => (if v2 = 0 then w_L_areBlocks_b90 κ w2 a0 x2 x3 x4 x6 v1 1 x1 (fun w_ z_a0 z_x1 z_x2 z_x3 z_x4 z_x5 z_x6 => w_L_areBlocks_b56 n κ w_ z_a0 z_x1 z_x2 z_x3 z_x4 z_x5 z_x6 P) P else w_L_areBlocks_b90 κ w2 a0 x2 x3 x4 x6 v1 0 x1 (fun w_ z_a0 z_x1 z_x2 z_x3 z_x4 z_x5 z_x6 => w_L_areBlocks_b56 n κ w_ z_a0 z_x1 z_x2 z_x3 z_x4 z_x5 z_x6 P) P))))))
set_option maxRecDepth 100000 in
set_option maxHeartbeats 4000000 in
theorem k_L_areBlocks_b56 {Γ : jG} (X : jX Γ cL_areBlocks 8 RL) (hR : jgR Γ = ({ frames := 25, cells := 2298, slots := 375446, locals := 619 } : Room)) {P : Int32 → va_W → Prop} (Rt : jRt Γ cL_areBlocks 8 2298 375446 (some .boolean) (jPi P)) : ∀ (n : Nat) (hN : n ≤ 17) {w : va_W} {a0 : Nat} {x1 : Int32} {x2 : Int32} {x3 : Int32} {x4 : Int32} {x5 : Int32} {x6 : Int32} (h : w_L_areBlocks_b56 n (jgE Γ).2.2.2 w a0 x1 x2 x3 x4 x5 x6 P), J Γ 8 w (0 + (17 - n) * 133 + 0) (0 + (17 - n) * 22072 + 0) 56 [(0, .ref a0), (1, .int x1), (2, .int x2), (3, .int x3), (4, .int x4), (5, .int x5), (6, .int x6)] [] := by
  intro n
  induction n with
  | zero => intro hN w a0 x1 x2 x3 x4 x5 x6 h; exact False.elim h
  | succ n ih =>
    intro hN w a0 x1 x2 x3 x4 x5 x6 h
    rw [w_L_areBlocks_b56] at h
    refine j_iload X dL_areBlocks_56 5 rfl ?_
    refine j_if_eq X 155 dL_areBlocks_58 (by decide) (fun c => ?_) (fun c => ?_)
    · replace h := jif_t c h
      refine j_sub [0, 1, 2, 3, 5] rfl ?_
      refine j_widen (k := 2261) (n := 375224) (by omega) (by omega) ?_
      exact k_L_areBlocks_b155 X hR Rt h
    · replace h := jif_f c h
      refine j_iload X dL_areBlocks_61 6 rfl ?_
      refine j_iload_n X dL_areBlocks_63 3 rfl ?_
      refine j_icmp_ge X 155 dL_areBlocks_64 (by decide) (fun c => ?_) (fun c => ?_)
      · replace h := jif_t c h
        refine j_sub [0, 1, 2, 3, 5] rfl ?_
        refine j_widen (k := 2261) (n := 375224) (by omega) (by omega) ?_
        exact k_L_areBlocks_b155 X hR Rt h
      · replace h := jif_f c h
        refine j_aload_n X dL_areBlocks_67 0 rfl ?_
        refine j_iload X dL_areBlocks_68 6 rfl ?_
        refine j_callSi X [.ref a0, .int x6] [] (c_L_blockAt h) jm_L_blockAt jw_1254 rfl ⟨rfl, rfl⟩ (by rw [hR]; exact ⟨⟨by decide, by decide⟩, by simp only []; omega, by simp only []; omega⟩) rfl (Nat.le_of_ble_eq_true rfl) dL_areBlocks_70 (fun v1 w1 h => ?_)
        refine j_istore X [(7, .int v1), (0, .ref a0), (1, .int x1), (2, .int x2), (3, .int x3), (4, .int x4), (5, .int x5), (6, .int x6)] dL_areBlocks_73 (by decide) rfl ?_
        refine j_iload_n X dL_areBlocks_75 2 rfl ?_
        refine j_aload_n X dL_areBlocks_76 1 rfl ?_
        refine j_iload X dL_areBlocks_77 0 rfl ?_
        obtain ⟨⟨fs2, g2⟩, h⟩ := h
        refine j_callVi X [.int v1] [.int x1] (c_X8_childCountZ h) (T := TX8) (N := 11) g2 rfl jm_X8_childCount jw_1351 rfl ⟨rfl, rfl⟩ (by rw [hR]; exact ⟨⟨by decide, by decide⟩, by simp only []; omega, by simp only []; omega⟩) rfl (Nat.le_of_ble_eq_true rfl) dL_areBlocks_79 (fun v2 w2 h => ?_)
        refine j_if_ne X 89 dL_areBlocks_82 (by decide) (fun c => ?_) (fun c => ?_)
        · replace h := jif_f c h
          refine j_iconst X 0 dL_areBlocks_89 (by decide) ?_
          refine j_sub [1, 3, 4, 5, 7, 0] rfl ?_
          refine j_widen (k := (0 + (17 - (n + 1)) * 133 + 0)) (n := (0 + (17 - (n + 1)) * 22072 + 0)) (by omega) (by omega) ?_
          exact k_L_areBlocks_b90 hN X hR Rt (fun _ _ _ _ _ _ _ _ h => ih (by omega) h) h
        · replace h := jif_t c h
          refine j_iconst X 1 dL_areBlocks_85 (by decide) ?_
          refine j_goto X 90 dL_areBlocks_86 (by decide) ?_
          refine j_sub [1, 3, 4, 5, 7, 0] rfl ?_
          refine j_widen (k := (0 + (17 - (n + 1)) * 133 + 0)) (n := (0 + (17 - (n + 1)) * 22072 + 0)) (by omega) (by omega) ?_
          exact k_L_areBlocks_b90 hN X hR Rt (fun _ _ _ _ _ _ _ _ h => ih (by omega) h) h
def w_L_areBlocks_b51 (κ : Nat → Nat) (w : va_W) (a0 : Nat) (x1 : Int32) (x2 : Int32) (x3 : Int32) (x4 : Int32) (s0 : Int32) (P : Int32 → va_W → Prop) : Prop :=
    w_L_areBlocks_b56 17 κ w a0 x1 x2 x3 x4 s0 0 P
set_option maxRecDepth 100000 in
set_option maxHeartbeats 4000000 in
theorem k_L_areBlocks_b51 {Γ : jG} (X : jX Γ cL_areBlocks 8 RL) (hR : jgR Γ = ({ frames := 25, cells := 2298, slots := 375446, locals := 619 } : Room)) {P : Int32 → va_W → Prop} (Rt : jRt Γ cL_areBlocks 8 2298 375446 (some .boolean) (jPi P)) {w : va_W} {a0 : Nat} {x1 : Int32} {x2 : Int32} {x3 : Int32} {x4 : Int32} {s0 : Int32} (h : w_L_areBlocks_b51 (jgE Γ).2.2.2 w a0 x1 x2 x3 x4 s0 P) : J Γ 8 w 0 0 51 [(0, .ref a0), (1, .int x1), (2, .int x2), (3, .int x3), (4, .int x4)] [.int s0] := by
  unfold w_L_areBlocks_b51 at h
  refine j_istore X [(5, .int s0), (0, .ref a0), (1, .int x1), (2, .int x2), (3, .int x3), (4, .int x4)] dL_areBlocks_51 (by decide) rfl ?_
  refine j_iconst X 0 dL_areBlocks_53 (by decide) ?_
  refine j_istore X [(6, .int 0), (5, .int s0), (0, .ref a0), (1, .int x1), (2, .int x2), (3, .int x3), (4, .int x4)] dL_areBlocks_54 (by decide) rfl ?_
  refine j_sub [2, 3, 4, 5, 6, 1, 0] rfl ?_
  refine j_widen (k := (0 + (17 - 17) * 133 + 0)) (n := (0 + (17 - 17) * 22072 + 0)) (by omega) (by omega) ?_
  exact k_L_areBlocks_b56 X hR Rt _ (Nat.le_refl _) h
def w_L_areBlocks_b50 (κ : Nat → Nat) (w : va_W) (a0 : Nat) (x1 : Int32) (x2 : Int32) (x3 : Int32) (x4 : Int32) (P : Int32 → va_W → Prop) : Prop :=
    w_L_areBlocks_b51 κ w a0 x1 x2 x3 x4 0 P
set_option maxRecDepth 100000 in
set_option maxHeartbeats 4000000 in
theorem k_L_areBlocks_b50 {Γ : jG} (X : jX Γ cL_areBlocks 8 RL) (hR : jgR Γ = ({ frames := 25, cells := 2298, slots := 375446, locals := 619 } : Room)) {P : Int32 → va_W → Prop} (Rt : jRt Γ cL_areBlocks 8 2298 375446 (some .boolean) (jPi P)) {w : va_W} {a0 : Nat} {x1 : Int32} {x2 : Int32} {x3 : Int32} {x4 : Int32} (h : w_L_areBlocks_b50 (jgE Γ).2.2.2 w a0 x1 x2 x3 x4 P) : J Γ 8 w 0 0 50 [(0, .ref a0), (1, .int x1), (2, .int x2), (3, .int x3), (4, .int x4)] [] := by
  unfold w_L_areBlocks_b50 at h
  refine j_iconst X 0 dL_areBlocks_50 (by decide) ?_
  refine j_widen (k := 0) (n := 0) (by omega) (by omega) ?_
  exact k_L_areBlocks_b51 X hR Rt h
def w_L_areBlocks_b0 (κ : Nat → Nat) (w : va_W) (a0 : Nat) (P : Int32 → va_W → Prop) : Prop :=
    (jRc w a0 11 ∧ w_X8_blockCount κ w a0 (fun v1 w1 => (jRc w1 a0 11 ∧ w_X8_bestValidBlock κ w1 a0 (fun v2 w2 => (jRc w2 a0 11 ∧ w_X8_isConsistent κ w2 a0 (fun v3 w3 => (if v3 = 0 then w_L_areBlocks_b50 κ w3 a0 0 0 v1 v2 P else (jRc w3 a0 11 ∧ w_X8_isBranchValidZ κ w3 a0 v2 (fun v4 w4 => (if v4 = 0 then w_L_areBlocks_b50 κ w4 a0 0 0 v1 v2 P else (jRc w4 a0 11 ∧ w_X8_writtenTotal κ w4 a0 (fun v5 w5 => (jRc w5 a0 11 ∧ w_X8_meltedTotal κ w5 a0 (fun v6 w6 => (if v5 = ((v6 + v1) - 1) then w_L_areBlocks_b51 κ w6 a0 0 0 v1 v2 1 P else w_L_areBlocks_b50 κ w6 a0 0 0 v1 v2 P)))))))))))))))
set_option maxRecDepth 100000 in
set_option maxHeartbeats 4000000 in
theorem k_L_areBlocks_b0 {Γ : jG} (X : jX Γ cL_areBlocks 8 RL) (hR : jgR Γ = ({ frames := 25, cells := 2298, slots := 375446, locals := 619 } : Room)) {P : Int32 → va_W → Prop} (Rt : jRt Γ cL_areBlocks 8 2298 375446 (some .boolean) (jPi P)) {w : va_W} {a0 : Nat} (h : w_L_areBlocks_b0 (jgE Γ).2.2.2 w a0 P) : J Γ 8 w 0 0 0 [(0, .ref a0)] [] := by
  unfold w_L_areBlocks_b0 at h
  refine j_iconst X 0 dL_areBlocks_0 (by decide) ?_
  refine j_istore_n X [(1, .int 0), (0, .ref a0)] dL_areBlocks_1 (by decide) rfl ?_
  refine j_iconst X 0 dL_areBlocks_2 (by decide) ?_
  refine j_istore_n X [(2, .int 0), (1, .int 0), (0, .ref a0)] dL_areBlocks_3 (by decide) rfl ?_
  refine j_aload_n X dL_areBlocks_4 2 rfl ?_
  obtain ⟨⟨fs1, g1⟩, h⟩ := h
  refine j_callVi X [] [] (c_X8_blockCount h) (T := TX8) (N := 11) g1 rfl jm_X8_blockCount jw_1250 rfl ⟨rfl, rfl⟩ (by rw [hR]; decide) rfl (Nat.le_of_ble_eq_true rfl) dL_areBlocks_5 (fun v1 w1 h => ?_)
  refine j_istore_n X [(3, .int v1), (2, .int 0), (1, .int 0), (0, .ref a0)] dL_areBlocks_8 (by decide) rfl ?_
  refine j_aload_n X dL_areBlocks_9 3 rfl ?_
  obtain ⟨⟨fs2, g2⟩, h⟩ := h
  refine j_callVi X [] [] (c_X8_bestValidBlock h) (T := TX8) (N := 11) g2 rfl jm_X8_bestValidBlock jw_1303 rfl ⟨rfl, rfl⟩ (by rw [hR]; decide) rfl (Nat.le_of_ble_eq_true rfl) dL_areBlocks_10 (fun v2 w2 h => ?_)
  refine j_istore X [(4, .int v2), (3, .int v1), (2, .int 0), (1, .int 0), (0, .ref a0)] dL_areBlocks_13 (by decide) rfl ?_
  refine j_aload_n X dL_areBlocks_15 4 rfl ?_
  obtain ⟨⟨fs3, g3⟩, h⟩ := h
  refine j_callVi X [] [] (c_X8_isConsistent h) (T := TX8) (N := 11) g3 rfl jm_X8_isConsistent jw_1320 rfl ⟨rfl, rfl⟩ (by rw [hR]; decide) rfl (Nat.le_of_ble_eq_true rfl) dL_areBlocks_16 (fun v3 w3 h => ?_)
  refine j_if_eq X 50 dL_areBlocks_19 (by decide) (fun c => ?_) (fun c => ?_)
  · replace h := jif_t c h
    refine j_sub [4, 3, 2, 1, 0] rfl ?_
    refine j_widen (k := 0) (n := 0) (by omega) (by omega) ?_
    exact k_L_areBlocks_b50 X hR Rt h
  · replace h := jif_f c h
    refine j_aload_n X dL_areBlocks_22 4 rfl ?_
    refine j_iload X dL_areBlocks_23 0 rfl ?_
    obtain ⟨⟨fs4, g4⟩, h⟩ := h
    refine j_callVi X [.int v2] [] (c_X8_isBranchValidZ h) (T := TX8) (N := 11) g4 rfl jm_X8_isBranchValid jw_1346 rfl ⟨rfl, rfl⟩ (by rw [hR]; decide) rfl (Nat.le_of_ble_eq_true rfl) dL_areBlocks_25 (fun v4 w4 h => ?_)
    refine j_if_eq X 50 dL_areBlocks_28 (by decide) (fun c => ?_) (fun c => ?_)
    · replace h := jif_t c h
      refine j_sub [4, 3, 2, 1, 0] rfl ?_
      refine j_widen (k := 0) (n := 0) (by omega) (by omega) ?_
      exact k_L_areBlocks_b50 X hR Rt h
    · replace h := jif_f c h
      refine j_aload_n X dL_areBlocks_31 4 rfl ?_
      obtain ⟨⟨fs5, g5⟩, h⟩ := h
      refine j_callVi X [] [] (c_X8_writtenTotal h) (T := TX8) (N := 11) g5 rfl jm_X8_writtenTotal jw_1188 rfl ⟨rfl, rfl⟩ (by rw [hR]; decide) rfl (Nat.le_of_ble_eq_true rfl) dL_areBlocks_32 (fun v5 w5 h => ?_)
      refine j_aload_n X dL_areBlocks_35 4 rfl ?_
      obtain ⟨⟨fs6, g6⟩, h⟩ := h
      refine j_callVi X [] [.int v5] (c_X8_meltedTotal h) (T := TX8) (N := 11) g6 rfl jm_X8_meltedTotal jw_1217 rfl ⟨rfl, rfl⟩ (by rw [hR]; decide) rfl (Nat.le_of_ble_eq_true rfl) dL_areBlocks_36 (fun v6 w6 h => ?_)
      refine j_iload_n X dL_areBlocks_39 1 rfl ?_
      refine j_iadd X dL_areBlocks_40 ?_
      refine j_iconst X 1 dL_areBlocks_41 (by decide) ?_
      refine j_isub X dL_areBlocks_42 ?_
      refine j_icmp_ne X 50 dL_areBlocks_43 (by decide) (fun c => ?_) (fun c => ?_)
      · replace h := jif_f c h
        refine j_sub [4, 3, 2, 1, 0] rfl ?_
        refine j_widen (k := 0) (n := 0) (by omega) (by omega) ?_
        exact k_L_areBlocks_b50 X hR Rt h
      · replace h := jif_t c h
        refine j_iconst X 1 dL_areBlocks_46 (by decide) ?_
        refine j_goto X 51 dL_areBlocks_47 (by decide) ?_
        refine j_sub [4, 3, 2, 1, 0] rfl ?_
        refine j_widen (k := 0) (n := 0) (by omega) (by omega) ?_
        exact k_L_areBlocks_b51 X hR Rt h
def w_L_areBlocks (κ : Nat → Nat) (w : va_W) (a0 : Nat) (P : Int32 → va_W → Prop) : Prop := w_L_areBlocks_b0 κ w a0 P
theorem c_L_areBlocks {E : jE} {w : va_W} {a0 : Nat} {P : Int32 → va_W → Prop} (h : w_L_areBlocks E.2.2.2 w a0 P) : jC E yL_areBlocks cL_areBlocks 8 (some .boolean) ({ frames := 25, cells := 2298, slots := 375446, locals := 619 } : Room) [.ref a0] w 2298 375446 (jPi P) := by
  refine jC_of (by decide) (Nat.le_of_ble_eq_true rfl) ?_
  intro Γ X hE hR Rt
  subst hE
  exact k_L_areBlocks_b0 X hR Rt h
theorem jm_L_isWritten : jMs yL_isWritten cL_isWritten 11 (some .boolean) 2 := ⟨jw_1538, jw_21, jw_1539, ⟨by decide +kernel, by decide +kernel⟩, by decide +kernel⟩
def w_L_isWritten_b221 (κ : Nat → Nat) (w : va_W) (s0 : Int32) (P : Int32 → va_W → Prop) : Prop :=
    (narrow .boolean (.int s0) = .int s0 ∧ P s0 w)
set_option maxRecDepth 100000 in
set_option maxHeartbeats 4000000 in
theorem k_L_isWritten_b221 {Γ : jG} (X : jX Γ cL_isWritten 11 RL) (hR : jgR Γ = ({ frames := 25, cells := 203, slots := 22492, locals := 619 } : Room)) {P : Int32 → va_W → Prop} (Rt : jRt Γ cL_isWritten 11 203 22492 (some .boolean) (jPi P)) {w : va_W} {s0 : Int32} (h : w_L_isWritten_b221 (jgE Γ).2.2.2 w s0 P) : J Γ 11 w 203 22492 221 [] [.int s0] := by
  unfold w_L_isWritten_b221 at h
  exact Rt.z dL_isWritten_221 h.1 ⟨_, rfl, h.2⟩ (by first | decide | omega) (by first | decide | omega)
def w_L_isWritten_b220 (κ : Nat → Nat) (w : va_W) (P : Int32 → va_W → Prop) : Prop :=
    w_L_isWritten_b221 κ w 0 P
set_option maxRecDepth 100000 in
set_option maxHeartbeats 4000000 in
theorem k_L_isWritten_b220 {Γ : jG} (X : jX Γ cL_isWritten 11 RL) (hR : jgR Γ = ({ frames := 25, cells := 203, slots := 22492, locals := 619 } : Room)) {P : Int32 → va_W → Prop} (Rt : jRt Γ cL_isWritten 11 203 22492 (some .boolean) (jPi P)) {w : va_W} (h : w_L_isWritten_b220 (jgE Γ).2.2.2 w  P) : J Γ 11 w 203 22492 220 [] [] := by
  unfold w_L_isWritten_b220 at h
  refine j_iconst X 0 dL_isWritten_220 (by decide) ?_
  refine j_widen (k := 203) (n := 22492) (by decide) (by decide) ?_
  exact k_L_isWritten_b221 X hR Rt h
def w_L_isWritten_b193 (κ : Nat → Nat) (w : va_W) (a0 : Nat) (l2 : Int64) (s0 : Int32) (P : Int32 → va_W → Prop) : Prop :=
    (if s0 = 0 then w_L_isWritten_b220 κ w  P else w_L_undo κ w a0 (fun v1 w1 => (if v1 < 0 then w_L_isWritten_b220 κ w1  P else w_L_digest κ w1 a0 (fun v2 w2 => (if (lg_cmp v2 l2) = 0 then w_L_isWritten_b221 κ w2 1 P else w_L_isWritten_b220 κ w2  P)))))
set_option maxRecDepth 100000 in
set_option maxHeartbeats 4000000 in
theorem k_L_isWritten_b193 {Γ : jG} (X : jX Γ cL_isWritten 11 RL) (hR : jgR Γ = ({ frames := 25, cells := 203, slots := 22492, locals := 619 } : Room)) {P : Int32 → va_W → Prop} (Rt : jRt Γ cL_isWritten 11 203 22492 (some .boolean) (jPi P)) {w : va_W} {a0 : Nat} {l2 : Int64} {s0 : Int32} (h : w_L_isWritten_b193 (jgE Γ).2.2.2 w a0 l2 s0 P) : J Γ 11 w 168 22282 193 [(0, .ref a0), (2, .long l2)] [.int s0] := by
  unfold w_L_isWritten_b193 at h
  refine j_istore X [(10, .int s0), (0, .ref a0), (2, .long l2)] dL_isWritten_193 (by decide) rfl ?_
  refine j_iload X dL_isWritten_195 0 rfl ?_
  refine j_if_eq X 220 dL_isWritten_197 (by decide) (fun c => ?_) (fun c => ?_)
  · replace h := jif_t c h
    refine j_sub [] rfl ?_
    refine j_widen (k := 203) (n := 22492) (by decide) (by decide) ?_
    exact k_L_isWritten_b220 X hR Rt h
  · replace h := jif_f c h
    refine j_aload_n X dL_isWritten_200 1 rfl ?_
    refine j_callWi X [.ref a0] [] (c_L_undo h) jmw_L_undo jw_1126 rfl ⟨rfl, rfl⟩ (by rw [hR]; decide) rfl (Nat.le_of_ble_eq_true rfl) dL_isWritten_201 (fun v1 w1 h => ?_)
    refine j_if_lt X 220 dL_isWritten_204 (by decide) (fun c => ?_) (fun c => ?_)
    · replace h := jif_t c h
      refine j_sub [] rfl ?_
      refine j_widen (k := 203) (n := 22492) (by decide) (by decide) ?_
      exact k_L_isWritten_b220 X hR Rt h
    · replace h := jif_f c h
      refine j_aload_n X dL_isWritten_207 1 rfl ?_
      refine j_callSl X [.ref a0] [] (c_L_digest h) jm_L_digest jw_1212 rfl ⟨rfl, rfl⟩ (by rw [hR]; decide) rfl (Nat.le_of_ble_eq_true rfl) dL_isWritten_208 (fun v2 w2 h => ?_)
      refine j_lload_n X dL_isWritten_211 2 rfl ?_
      refine j_lcmp X dL_isWritten_212 ?_
      refine j_if_ne X 220 dL_isWritten_213 (by decide) (fun c => ?_) (fun c => ?_)
      · replace h := jif_f c h
        refine j_sub [] rfl ?_
        refine j_widen (k := 203) (n := 22492) (by decide) (by decide) ?_
        exact k_L_isWritten_b220 X hR Rt h
      · replace h := jif_t c h
        refine j_iconst X 1 dL_isWritten_216 (by decide) ?_
        refine j_goto X 221 dL_isWritten_217 (by decide) ?_
        refine j_sub [] rfl ?_
        refine j_widen (k := 203) (n := 22492) (by decide) (by decide) ?_
        exact k_L_isWritten_b221 X hR Rt h
def w_L_isWritten_b192 (κ : Nat → Nat) (w : va_W) (a0 : Nat) (l2 : Int64) (P : Int32 → va_W → Prop) : Prop :=
    w_L_isWritten_b193 κ w a0 l2 0 P
set_option maxRecDepth 100000 in
set_option maxHeartbeats 4000000 in
theorem k_L_isWritten_b192 {Γ : jG} (X : jX Γ cL_isWritten 11 RL) (hR : jgR Γ = ({ frames := 25, cells := 203, slots := 22492, locals := 619 } : Room)) {P : Int32 → va_W → Prop} (Rt : jRt Γ cL_isWritten 11 203 22492 (some .boolean) (jPi P)) {w : va_W} {a0 : Nat} {l2 : Int64} (h : w_L_isWritten_b192 (jgE Γ).2.2.2 w a0 l2 P) : J Γ 11 w 168 22282 192 [(0, .ref a0), (2, .long l2)] [] := by
  unfold w_L_isWritten_b192 at h
  refine j_iconst X 0 dL_isWritten_192 (by decide) ?_
  refine j_widen (k := 168) (n := 22282) (by decide) (by decide) ?_
  exact k_L_isWritten_b193 X hR Rt h
def w_L_isWritten_b91 (κ : Nat → Nat) (w : va_W) (s0 : Int32) (P : Int32 → va_W → Prop) : Prop :=
    (narrow .boolean (.int s0) = .int s0 ∧ P s0 w)
set_option maxRecDepth 100000 in
set_option maxHeartbeats 4000000 in
theorem k_L_isWritten_b91 {Γ : jG} (X : jX Γ cL_isWritten 11 RL) (hR : jgR Γ = ({ frames := 25, cells := 203, slots := 22492, locals := 619 } : Room)) {P : Int32 → va_W → Prop} (Rt : jRt Γ cL_isWritten 11 203 22492 (some .boolean) (jPi P)) {w : va_W} {s0 : Int32} (h : w_L_isWritten_b91 (jgE Γ).2.2.2 w s0 P) : J Γ 11 w 69 414 91 [] [.int s0] := by
  unfold w_L_isWritten_b91 at h
  exact Rt.z dL_isWritten_91 h.1 ⟨_, rfl, h.2⟩ (by first | decide | omega) (by first | decide | omega)
def w_L_isWritten_b90 (κ : Nat → Nat) (w : va_W) (P : Int32 → va_W → Prop) : Prop :=
    w_L_isWritten_b91 κ w 0 P
set_option maxRecDepth 100000 in
set_option maxHeartbeats 4000000 in
theorem k_L_isWritten_b90 {Γ : jG} (X : jX Γ cL_isWritten 11 RL) (hR : jgR Γ = ({ frames := 25, cells := 203, slots := 22492, locals := 619 } : Room)) {P : Int32 → va_W → Prop} (Rt : jRt Γ cL_isWritten 11 203 22492 (some .boolean) (jPi P)) {w : va_W} (h : w_L_isWritten_b90 (jgE Γ).2.2.2 w  P) : J Γ 11 w 69 414 90 [] [] := by
  unfold w_L_isWritten_b90 at h
  refine j_iconst X 0 dL_isWritten_90 (by decide) ?_
  refine j_widen (k := 69) (n := 414) (by decide) (by decide) ?_
  exact k_L_isWritten_b91 X hR Rt h
def w_L_isWritten_b56 (κ : Nat → Nat) (w : va_W) (a0 : Nat) (x1 : Int32) (l2 : Int64) (x4 : Int32) (x5 : Int32) (x6 : Int32) (x7 : Int32) (s0 : Int32) (P : Int32 → va_W → Prop) : Prop :=
    w_L_writeBlock κ w a0 x1 (fun v1 w1 => (if v1 = (-100000000) then (if s0 = 0 then w_L_digest κ w1 a0 (fun v11 w11 => (if (lg_cmp v11 l2) = 0 then w_L_isWritten_b91 κ w11 1 P else w_L_isWritten_b90 κ w11  P)) else w_L_isWritten_b90 κ w1  P) else (if s0 = 0 then w_L_isWritten_b192 κ w1 a0 l2 P else (jRc w1 a0 11 ∧ w_X8_hashOfZ κ w1 a0 v1 (fun v2 w2 => (if v2 = x5 then (jRc w2 a0 11 ∧ w_X8_parentOfZ κ w2 a0 v1 (fun v3 w3 => (if v3 = x4 then (jRc w3 a0 11 ∧ w_X8_writerOfZ κ w3 a0 v1 (fun v4 w4 => (if v4 = x1 then (jRc w4 a0 11 ∧ w_X8_flakeCountZ κ w4 a0 v1 (fun v5 w5 => (if v5 = x6 then (jRc w5 a0 11 ∧ w_X8_followedZ κ w5 a0 x1 (fun v6 w6 => (if v6 = v1 then (jRc w6 a0 11 ∧ w_X8_collectedZ κ w6 a0 x1 (fun v7 w7 => (if v7 = 0 then (jRc w7 a0 11 ∧ w_X8_blocksByZ κ w7 a0 x1 (fun v8 w8 => (if v8 = (x7 + 1) then (jRc w8 a0 11 ∧ w_X8_isBranchValidZ κ w8 a0 v1 (fun v9 w9 => (if v9 = 0 then w_L_isWritten_b192 κ w9 a0 l2 P else w_L_isBlock κ w9 a0 v1 (fun v10 w10 => (if v10 = 0 then w_L_isWritten_b192 κ w10 a0 l2 P else w_L_isWritten_b193 κ w10 a0 l2 1 P))))) else w_L_isWritten_b192 κ w8 a0 l2 P))) else w_L_isWritten_b192 κ w7 a0 l2 P))) else w_L_isWritten_b192 κ w6 a0 l2 P))) else w_L_isWritten_b192 κ w5 a0 l2 P))) else w_L_isWritten_b192 κ w4 a0 l2 P))) else w_L_isWritten_b192 κ w3 a0 l2 P))) else w_L_isWritten_b192 κ w2 a0 l2 P))))))
set_option maxRecDepth 100000 in
set_option maxHeartbeats 4000000 in
theorem k_L_isWritten_b56 {Γ : jG} (X : jX Γ cL_isWritten 11 RL) (hR : jgR Γ = ({ frames := 25, cells := 203, slots := 22492, locals := 619 } : Room)) {P : Int32 → va_W → Prop} (Rt : jRt Γ cL_isWritten 11 203 22492 (some .boolean) (jPi P)) {w : va_W} {a0 : Nat} {x1 : Int32} {l2 : Int64} {x4 : Int32} {x5 : Int32} {x6 : Int32} {x7 : Int32} {s0 : Int32} (h : w_L_isWritten_b56 (jgE Γ).2.2.2 w a0 x1 l2 x4 x5 x6 x7 s0 P) : J Γ 11 w 34 204 56 [(0, .ref a0), (1, .int x1), (2, .long l2), (4, .int x4), (5, .int x5), (6, .int x6), (7, .int x7)] [.int s0] := by
  unfold w_L_isWritten_b56 at h
  refine j_istore X [(8, .int s0), (0, .ref a0), (1, .int x1), (2, .long l2), (4, .int x4), (5, .int x5), (6, .int x6), (7, .int x7)] dL_isWritten_56 (by decide) rfl ?_
  refine j_aload_n X dL_isWritten_58 1 rfl ?_
  refine j_iload_n X dL_isWritten_59 2 rfl ?_
  refine j_callWi X [.ref a0, .int x1] [] (c_L_writeBlock h) jmw_L_writeBlock jw_594 rfl ⟨rfl, rfl⟩ (by rw [hR]; decide) rfl (Nat.le_of_ble_eq_true rfl) dL_isWritten_60 (fun v1 w1 h => ?_)
  refine j_istore X [(9, .int v1), (8, .int s0), (0, .ref a0), (1, .int x1), (2, .long l2), (4, .int x4), (5, .int x5), (6, .int x6), (7, .int x7)] dL_isWritten_63 (by decide) rfl ?_
  refine j_iload X dL_isWritten_65 0 rfl ?_
  refine j_ldc X dL_isWritten_67 jw_379 ?_
  refine j_icmp_ne X 92 dL_isWritten_69 (by decide) (fun c => ?_) (fun c => ?_)
  · replace h := jif_f c h
    refine j_iload X dL_isWritten_92 1 rfl ?_
    refine j_if_eq X 192 dL_isWritten_94 (by decide) (fun c => ?_) (fun c => ?_)
    · replace h := jif_t c h
      refine j_sub [2, 4] rfl ?_
      refine j_widen (k := 168) (n := 22282) (by decide) (by decide) ?_
      exact k_L_isWritten_b192 X hR Rt h
    · replace h := jif_f c h
      refine j_aload_n X dL_isWritten_97 2 rfl ?_
      refine j_iload X dL_isWritten_98 0 rfl ?_
      obtain ⟨⟨fs2, g2⟩, h⟩ := h
      refine j_callVi X [.int v1] [] (c_X8_hashOfZ h) (T := TX8) (N := 11) g2 rfl jm_X8_hashOf jw_1274 rfl ⟨rfl, rfl⟩ (by rw [hR]; decide) rfl (Nat.le_of_ble_eq_true rfl) dL_isWritten_100 (fun v2 w2 h => ?_)
      refine j_iload X dL_isWritten_103 6 rfl ?_
      refine j_icmp_ne X 192 dL_isWritten_105 (by decide) (fun c => ?_) (fun c => ?_)
      · replace h := jif_f c h
        refine j_sub [2, 4] rfl ?_
        refine j_widen (k := 168) (n := 22282) (by decide) (by decide) ?_
        exact k_L_isWritten_b192 X hR Rt h
      · replace h := jif_t c h
        refine j_aload_n X dL_isWritten_108 2 rfl ?_
        refine j_iload X dL_isWritten_109 0 rfl ?_
        obtain ⟨⟨fs3, g3⟩, h⟩ := h
        refine j_callVi X [.int v1] [] (c_X8_parentOfZ h) (T := TX8) (N := 11) g3 rfl jm_X8_parentOf jw_1265 rfl ⟨rfl, rfl⟩ (by rw [hR]; decide) rfl (Nat.le_of_ble_eq_true rfl) dL_isWritten_111 (fun v3 w3 h => ?_)
        refine j_iload X dL_isWritten_114 5 rfl ?_
        refine j_icmp_ne X 192 dL_isWritten_116 (by decide) (fun c => ?_) (fun c => ?_)
        · replace h := jif_f c h
          refine j_sub [2, 4] rfl ?_
          refine j_widen (k := 168) (n := 22282) (by decide) (by decide) ?_
          exact k_L_isWritten_b192 X hR Rt h
        · replace h := jif_t c h
          refine j_aload_n X dL_isWritten_119 2 rfl ?_
          refine j_iload X dL_isWritten_120 0 rfl ?_
          obtain ⟨⟨fs4, g4⟩, h⟩ := h
          refine j_callVi X [.int v1] [] (c_X8_writerOfZ h) (T := TX8) (N := 11) g4 rfl jm_X8_writerOf jw_1378 rfl ⟨rfl, rfl⟩ (by rw [hR]; decide) rfl (Nat.le_of_ble_eq_true rfl) dL_isWritten_122 (fun v4 w4 h => ?_)
          refine j_iload_n X dL_isWritten_125 3 rfl ?_
          refine j_icmp_ne X 192 dL_isWritten_126 (by decide) (fun c => ?_) (fun c => ?_)
          · replace h := jif_f c h
            refine j_sub [2, 4] rfl ?_
            refine j_widen (k := 168) (n := 22282) (by decide) (by decide) ?_
            exact k_L_isWritten_b192 X hR Rt h
          · replace h := jif_t c h
            refine j_aload_n X dL_isWritten_129 2 rfl ?_
            refine j_iload X dL_isWritten_130 0 rfl ?_
            obtain ⟨⟨fs5, g5⟩, h⟩ := h
            refine j_callVi X [.int v1] [] (c_X8_flakeCountZ h) (T := TX8) (N := 11) g5 rfl jm_X8_flakeCount jw_1289 rfl ⟨rfl, rfl⟩ (by rw [hR]; decide) rfl (Nat.le_of_ble_eq_true rfl) dL_isWritten_132 (fun v5 w5 h => ?_)
            refine j_iload X dL_isWritten_135 7 rfl ?_
            refine j_icmp_ne X 192 dL_isWritten_137 (by decide) (fun c => ?_) (fun c => ?_)
            · replace h := jif_f c h
              refine j_sub [2, 4] rfl ?_
              refine j_widen (k := 168) (n := 22282) (by decide) (by decide) ?_
              exact k_L_isWritten_b192 X hR Rt h
            · replace h := jif_t c h
              refine j_aload_n X dL_isWritten_140 2 rfl ?_
              refine j_iload_n X dL_isWritten_141 3 rfl ?_
              obtain ⟨⟨fs6, g6⟩, h⟩ := h
              refine j_callVi X [.int x1] [] (c_X8_followedZ h) (T := TX8) (N := 11) g6 rfl jm_X8_followed jw_1226 rfl ⟨rfl, rfl⟩ (by rw [hR]; decide) rfl (Nat.le_of_ble_eq_true rfl) dL_isWritten_142 (fun v6 w6 h => ?_)
              refine j_iload X dL_isWritten_145 0 rfl ?_
              refine j_icmp_ne X 192 dL_isWritten_147 (by decide) (fun c => ?_) (fun c => ?_)
              · replace h := jif_f c h
                refine j_sub [2, 4] rfl ?_
                refine j_widen (k := 168) (n := 22282) (by decide) (by decide) ?_
                exact k_L_isWritten_b192 X hR Rt h
              · replace h := jif_t c h
                refine j_aload_n X dL_isWritten_150 2 rfl ?_
                refine j_iload_n X dL_isWritten_151 3 rfl ?_
                obtain ⟨⟨fs7, g7⟩, h⟩ := h
                refine j_callVi X [.int x1] [] (c_X8_collectedZ h) (T := TX8) (N := 11) g7 rfl jm_X8_collected jw_1236 rfl ⟨rfl, rfl⟩ (by rw [hR]; decide) rfl (Nat.le_of_ble_eq_true rfl) dL_isWritten_152 (fun v7 w7 h => ?_)
                refine j_if_ne X 192 dL_isWritten_155 (by decide) (fun c => ?_) (fun c => ?_)
                · replace h := jif_f c h
                  refine j_sub [2, 4] rfl ?_
                  refine j_widen (k := 168) (n := 22282) (by decide) (by decide) ?_
                  exact k_L_isWritten_b192 X hR Rt h
                · replace h := jif_t c h
                  refine j_aload_n X dL_isWritten_158 2 rfl ?_
                  refine j_iload_n X dL_isWritten_159 3 rfl ?_
                  obtain ⟨⟨fs8, g8⟩, h⟩ := h
                  refine j_callVi X [.int x1] [] (c_X8_blocksByZ h) (T := TX8) (N := 11) g8 rfl jm_X8_blocksBy jw_1540 rfl ⟨rfl, rfl⟩ (by rw [hR]; decide) rfl (Nat.le_of_ble_eq_true rfl) dL_isWritten_160 (fun v8 w8 h => ?_)
                  refine j_iload X dL_isWritten_163 8 rfl ?_
                  refine j_iconst X 1 dL_isWritten_165 (by decide) ?_
                  refine j_iadd X dL_isWritten_166 ?_
                  refine j_icmp_ne X 192 dL_isWritten_167 (by decide) (fun c => ?_) (fun c => ?_)
                  · replace h := jif_f c h
                    refine j_sub [2, 4] rfl ?_
                    refine j_widen (k := 168) (n := 22282) (by decide) (by decide) ?_
                    exact k_L_isWritten_b192 X hR Rt h
                  · replace h := jif_t c h
                    refine j_aload_n X dL_isWritten_170 2 rfl ?_
                    refine j_iload X dL_isWritten_171 0 rfl ?_
                    obtain ⟨⟨fs9, g9⟩, h⟩ := h
                    refine j_callVi X [.int v1] [] (c_X8_isBranchValidZ h) (T := TX8) (N := 11) g9 rfl jm_X8_isBranchValid jw_1346 rfl ⟨rfl, rfl⟩ (by rw [hR]; decide) rfl (Nat.le_of_ble_eq_true rfl) dL_isWritten_173 (fun v9 w9 h => ?_)
                    refine j_if_eq X 192 dL_isWritten_176 (by decide) (fun c => ?_) (fun c => ?_)
                    · replace h := jif_t c h
                      refine j_sub [2, 4] rfl ?_
                      refine j_widen (k := 168) (n := 22282) (by decide) (by decide) ?_
                      exact k_L_isWritten_b192 X hR Rt h
                    · replace h := jif_f c h
                      refine j_aload_n X dL_isWritten_179 2 rfl ?_
                      refine j_iload X dL_isWritten_180 0 rfl ?_
                      refine j_callSi X [.ref a0, .int v1] [] (c_L_isBlock h) jm_L_isBlock jw_1364 rfl ⟨rfl, rfl⟩ (by rw [hR]; decide) rfl (Nat.le_of_ble_eq_true rfl) dL_isWritten_182 (fun v10 w10 h => ?_)
                      refine j_if_eq X 192 dL_isWritten_185 (by decide) (fun c => ?_) (fun c => ?_)
                      · replace h := jif_t c h
                        refine j_sub [2, 4] rfl ?_
                        refine j_widen (k := 168) (n := 22282) (by decide) (by decide) ?_
                        exact k_L_isWritten_b192 X hR Rt h
                      · replace h := jif_f c h
                        refine j_iconst X 1 dL_isWritten_188 (by decide) ?_
                        refine j_goto X 193 dL_isWritten_189 (by decide) ?_
                        refine j_sub [2, 4] rfl ?_
                        refine j_widen (k := 168) (n := 22282) (by decide) (by decide) ?_
                        exact k_L_isWritten_b193 X hR Rt h
  · replace h := jif_t c h
    refine j_iload X dL_isWritten_72 1 rfl ?_
    refine j_if_ne X 90 dL_isWritten_74 (by decide) (fun c => ?_) (fun c => ?_)
    · replace h := jif_f c h
      refine j_sub [] rfl ?_
      refine j_widen (k := 69) (n := 414) (by decide) (by decide) ?_
      exact k_L_isWritten_b90 X hR Rt h
    · replace h := jif_t c h
      refine j_aload_n X dL_isWritten_77 2 rfl ?_
      refine j_callSl X [.ref a0] [] (c_L_digest h) jm_L_digest jw_1212 rfl ⟨rfl, rfl⟩ (by rw [hR]; decide) rfl (Nat.le_of_ble_eq_true rfl) dL_isWritten_78 (fun v11 w11 h => ?_)
      refine j_lload_n X dL_isWritten_81 4 rfl ?_
      refine j_lcmp X dL_isWritten_82 ?_
      refine j_if_ne X 90 dL_isWritten_83 (by decide) (fun c => ?_) (fun c => ?_)
      · replace h := jif_f c h
        refine j_sub [] rfl ?_
        refine j_widen (k := 69) (n := 414) (by decide) (by decide) ?_
        exact k_L_isWritten_b90 X hR Rt h
      · replace h := jif_t c h
        refine j_iconst X 1 dL_isWritten_86 (by decide) ?_
        refine j_goto X 91 dL_isWritten_87 (by decide) ?_
        refine j_sub [] rfl ?_
        refine j_widen (k := 69) (n := 414) (by decide) (by decide) ?_
        exact k_L_isWritten_b91 X hR Rt h
def w_L_isWritten_b55 (κ : Nat → Nat) (w : va_W) (a0 : Nat) (x1 : Int32) (l2 : Int64) (x4 : Int32) (x5 : Int32) (x6 : Int32) (x7 : Int32) (P : Int32 → va_W → Prop) : Prop :=
    w_L_isWritten_b56 κ w a0 x1 l2 x4 x5 x6 x7 0 P
set_option maxRecDepth 100000 in
set_option maxHeartbeats 4000000 in
theorem k_L_isWritten_b55 {Γ : jG} (X : jX Γ cL_isWritten 11 RL) (hR : jgR Γ = ({ frames := 25, cells := 203, slots := 22492, locals := 619 } : Room)) {P : Int32 → va_W → Prop} (Rt : jRt Γ cL_isWritten 11 203 22492 (some .boolean) (jPi P)) {w : va_W} {a0 : Nat} {x1 : Int32} {l2 : Int64} {x4 : Int32} {x5 : Int32} {x6 : Int32} {x7 : Int32} (h : w_L_isWritten_b55 (jgE Γ).2.2.2 w a0 x1 l2 x4 x5 x6 x7 P) : J Γ 11 w 34 204 55 [(0, .ref a0), (1, .int x1), (2, .long l2), (4, .int x4), (5, .int x5), (6, .int x6), (7, .int x7)] [] := by
  unfold w_L_isWritten_b55 at h
  refine j_iconst X 0 dL_isWritten_55 (by decide) ?_
  refine j_widen (k := 34) (n := 204) (by decide) (by decide) ?_
  exact k_L_isWritten_b56 X hR Rt h
def w_L_isWritten_b0 (κ : Nat → Nat) (w : va_W) (a0 : Nat) (x1 : Int32) (P : Int32 → va_W → Prop) : Prop :=
    w_L_digest κ w a0 (fun v1 w1 => (jRc w1 a0 11 ∧ w_X8_followedZ κ w1 a0 x1 (fun v2 w2 => (jRc w2 a0 11 ∧ w_X8_nextHashZ κ w2 a0 x1 (fun v3 w3 => (jRc w3 a0 11 ∧ w_X8_collectedZ κ w3 a0 x1 (fun v4 w4 => (jRc w4 a0 11 ∧ w_X8_blocksByZ κ w4 a0 x1 (fun v5 w5 => (jRc w5 a0 11 ∧ w_X8_blockCount κ w5 a0 (fun v6 w6 => (if 16 ≤ v6 then w_L_isWritten_b55 κ w6 a0 x1 v1 v2 v3 v4 v5 P else (jRc w6 a0 11 ∧ w_X8_isBranchValidZ κ w6 a0 v2 (fun v7 w7 => (if v7 = 0 then w_L_isWritten_b55 κ w7 a0 x1 v1 v2 v3 v4 v5 P else w_L_isWritten_b56 κ w7 a0 x1 v1 v2 v3 v4 v5 1 P)))))))))))))))
set_option maxRecDepth 100000 in
set_option maxHeartbeats 4000000 in
theorem k_L_isWritten_b0 {Γ : jG} (X : jX Γ cL_isWritten 11 RL) (hR : jgR Γ = ({ frames := 25, cells := 203, slots := 22492, locals := 619 } : Room)) {P : Int32 → va_W → Prop} (Rt : jRt Γ cL_isWritten 11 203 22492 (some .boolean) (jPi P)) {w : va_W} {a0 : Nat} {x1 : Int32} (h : w_L_isWritten_b0 (jgE Γ).2.2.2 w a0 x1 P) : J Γ 11 w 0 0 0 [(0, .ref a0), (1, .int x1)] [] := by
  unfold w_L_isWritten_b0 at h
  refine j_aload_n X dL_isWritten_0 0 rfl ?_
  refine j_callSl X [.ref a0] [] (c_L_digest h) jm_L_digest jw_1212 rfl ⟨rfl, rfl⟩ (by rw [hR]; decide) rfl (Nat.le_of_ble_eq_true rfl) dL_isWritten_1 (fun v1 w1 h => ?_)
  refine j_lstore_n X [(2, .long v1), (0, .ref a0), (1, .int x1)] dL_isWritten_4 (by decide) rfl ?_
  refine j_aload_n X dL_isWritten_5 1 rfl ?_
  refine j_iload_n X dL_isWritten_6 2 rfl ?_
  obtain ⟨⟨fs2, g2⟩, h⟩ := h
  refine j_callVi X [.int x1] [] (c_X8_followedZ h) (T := TX8) (N := 11) g2 rfl jm_X8_followed jw_1226 rfl ⟨rfl, rfl⟩ (by rw [hR]; decide) rfl (Nat.le_of_ble_eq_true rfl) dL_isWritten_7 (fun v2 w2 h => ?_)
  refine j_istore X [(4, .int v2), (2, .long v1), (0, .ref a0), (1, .int x1)] dL_isWritten_10 (by decide) rfl ?_
  refine j_aload_n X dL_isWritten_12 2 rfl ?_
  refine j_iload_n X dL_isWritten_13 3 rfl ?_
  obtain ⟨⟨fs3, g3⟩, h⟩ := h
  refine j_callVi X [.int x1] [] (c_X8_nextHashZ h) (T := TX8) (N := 11) g3 rfl jm_X8_nextHash jw_1241 rfl ⟨rfl, rfl⟩ (by rw [hR]; decide) rfl (Nat.le_of_ble_eq_true rfl) dL_isWritten_14 (fun v3 w3 h => ?_)
  refine j_istore X [(5, .int v3), (4, .int v2), (2, .long v1), (0, .ref a0), (1, .int x1)] dL_isWritten_17 (by decide) rfl ?_
  refine j_aload_n X dL_isWritten_19 3 rfl ?_
  refine j_iload_n X dL_isWritten_20 4 rfl ?_
  obtain ⟨⟨fs4, g4⟩, h⟩ := h
  refine j_callVi X [.int x1] [] (c_X8_collectedZ h) (T := TX8) (N := 11) g4 rfl jm_X8_collected jw_1236 rfl ⟨rfl, rfl⟩ (by rw [hR]; decide) rfl (Nat.le_of_ble_eq_true rfl) dL_isWritten_21 (fun v4 w4 h => ?_)
  refine j_istore X [(6, .int v4), (5, .int v3), (4, .int v2), (2, .long v1), (0, .ref a0), (1, .int x1)] dL_isWritten_24 (by decide) rfl ?_
  refine j_aload_n X dL_isWritten_26 4 rfl ?_
  refine j_iload_n X dL_isWritten_27 5 rfl ?_
  obtain ⟨⟨fs5, g5⟩, h⟩ := h
  refine j_callVi X [.int x1] [] (c_X8_blocksByZ h) (T := TX8) (N := 11) g5 rfl jm_X8_blocksBy jw_1540 rfl ⟨rfl, rfl⟩ (by rw [hR]; decide) rfl (Nat.le_of_ble_eq_true rfl) dL_isWritten_28 (fun v5 w5 h => ?_)
  refine j_istore X [(7, .int v5), (6, .int v4), (5, .int v3), (4, .int v2), (2, .long v1), (0, .ref a0), (1, .int x1)] dL_isWritten_31 (by decide) rfl ?_
  refine j_aload_n X dL_isWritten_33 5 rfl ?_
  obtain ⟨⟨fs6, g6⟩, h⟩ := h
  refine j_callVi X [] [] (c_X8_blockCount h) (T := TX8) (N := 11) g6 rfl jm_X8_blockCount jw_1250 rfl ⟨rfl, rfl⟩ (by rw [hR]; decide) rfl (Nat.le_of_ble_eq_true rfl) dL_isWritten_34 (fun v6 w6 h => ?_)
  refine j_bipush X 16 dL_isWritten_37 (by decide) ?_
  refine j_icmp_ge X 55 dL_isWritten_39 (by decide) (fun c => ?_) (fun c => ?_)
  · replace h := jif_t c h
    refine j_sub [5, 6, 4, 3, 2, 1, 0] rfl ?_
    refine j_widen (k := 34) (n := 204) (by decide) (by decide) ?_
    exact k_L_isWritten_b55 X hR Rt h
  · replace h := jif_f c h
    refine j_aload_n X dL_isWritten_42 5 rfl ?_
    refine j_iload X dL_isWritten_43 3 rfl ?_
    obtain ⟨⟨fs7, g7⟩, h⟩ := h
    refine j_callVi X [.int v2] [] (c_X8_isBranchValidZ h) (T := TX8) (N := 11) g7 rfl jm_X8_isBranchValid jw_1346 rfl ⟨rfl, rfl⟩ (by rw [hR]; decide) rfl (Nat.le_of_ble_eq_true rfl) dL_isWritten_45 (fun v7 w7 h => ?_)
    refine j_if_eq X 55 dL_isWritten_48 (by decide) (fun c => ?_) (fun c => ?_)
    · replace h := jif_t c h
      refine j_sub [5, 6, 4, 3, 2, 1, 0] rfl ?_
      refine j_widen (k := 34) (n := 204) (by decide) (by decide) ?_
      exact k_L_isWritten_b55 X hR Rt h
    · replace h := jif_f c h
      refine j_iconst X 1 dL_isWritten_51 (by decide) ?_
      refine j_goto X 56 dL_isWritten_52 (by decide) ?_
      refine j_sub [5, 6, 4, 3, 2, 1, 0] rfl ?_
      refine j_widen (k := 34) (n := 204) (by decide) (by decide) ?_
      exact k_L_isWritten_b56 X hR Rt h
def w_L_isWritten (κ : Nat → Nat) (w : va_W) (a0 : Nat) (x1 : Int32) (P : Int32 → va_W → Prop) : Prop := w_L_isWritten_b0 κ w a0 x1 P
theorem c_L_isWritten {E : jE} {w : va_W} {a0 : Nat} {x1 : Int32} {P : Int32 → va_W → Prop} (h : w_L_isWritten E.2.2.2 w a0 x1 P) : jC E yL_isWritten cL_isWritten 11 (some .boolean) ({ frames := 25, cells := 203, slots := 22492, locals := 619 } : Room) [.ref a0, .int x1] w 203 22492 (jPi P) := by
  refine jC_of (by decide) (Nat.le_of_ble_eq_true rfl) ?_
  intro Γ X hE hR Rt
  subst hE
  exact k_L_isWritten_b0 X hR Rt h
theorem jm_L_isMelted : jMs yL_isMelted cL_isMelted 12 (some .boolean) 2 := ⟨jw_1549, jw_21, jw_1550, ⟨by decide +kernel, by decide +kernel⟩, by decide +kernel⟩
def w_L_isMelted_b233 (κ : Nat → Nat) (w : va_W) (s0 : Int32) (P : Int32 → va_W → Prop) : Prop :=
    (narrow .boolean (.int s0) = .int s0 ∧ P s0 w)
set_option maxRecDepth 100000 in
set_option maxHeartbeats 4000000 in
theorem k_L_isMelted_b233 {Γ : jG} (X : jX Γ cL_isMelted 12 RL) (hR : jgR Γ = ({ frames := 10, cells := 72, slots := 430, locals := 257 } : Room)) {P : Int32 → va_W → Prop} (Rt : jRt Γ cL_isMelted 12 72 430 (some .boolean) (jPi P)) {w : va_W} {s0 : Int32} (h : w_L_isMelted_b233 (jgE Γ).2.2.2 w s0 P) : J Γ 12 w 72 430 233 [] [.int s0] := by
  unfold w_L_isMelted_b233 at h
  exact Rt.z dL_isMelted_233 h.1 ⟨_, rfl, h.2⟩ (by first | decide | omega) (by first | decide | omega)
def w_L_isMelted_b232 (κ : Nat → Nat) (w : va_W) (P : Int32 → va_W → Prop) : Prop :=
    w_L_isMelted_b233 κ w 0 P
set_option maxRecDepth 100000 in
set_option maxHeartbeats 4000000 in
theorem k_L_isMelted_b232 {Γ : jG} (X : jX Γ cL_isMelted 12 RL) (hR : jgR Γ = ({ frames := 10, cells := 72, slots := 430, locals := 257 } : Room)) {P : Int32 → va_W → Prop} (Rt : jRt Γ cL_isMelted 12 72 430 (some .boolean) (jPi P)) {w : va_W} (h : w_L_isMelted_b232 (jgE Γ).2.2.2 w  P) : J Γ 12 w 72 430 232 [] [] := by
  unfold w_L_isMelted_b232 at h
  refine j_iconst X 0 dL_isMelted_232 (by decide) ?_
  refine j_widen (k := 72) (n := 430) (by decide) (by decide) ?_
  exact k_L_isMelted_b233 X hR Rt h
def w_L_isMelted_b207 (κ : Nat → Nat) (w : va_W) (a0 : Nat) (l2 : Int64) (x10 : Int32) (P : Int32 → va_W → Prop) : Prop :=
    (if x10 = 0 then w_L_isMelted_b232 κ w  P else w_L_undo κ w a0 (fun v1 w1 => (if v1 < 0 then w_L_isMelted_b232 κ w1  P else w_L_digest κ w1 a0 (fun v2 w2 => (if (lg_cmp v2 l2) = 0 then w_L_isMelted_b233 κ w2 1 P else w_L_isMelted_b232 κ w2  P)))))
set_option maxRecDepth 100000 in
set_option maxHeartbeats 4000000 in
theorem k_L_isMelted_b207 {Γ : jG} (X : jX Γ cL_isMelted 12 RL) (hR : jgR Γ = ({ frames := 10, cells := 72, slots := 430, locals := 257 } : Room)) {P : Int32 → va_W → Prop} (Rt : jRt Γ cL_isMelted 12 72 430 (some .boolean) (jPi P)) {w : va_W} {a0 : Nat} {l2 : Int64} {x10 : Int32} (h : w_L_isMelted_b207 (jgE Γ).2.2.2 w a0 l2 x10 P) : J Γ 12 w 37 220 207 [(0, .ref a0), (2, .long l2), (10, .int x10)] [] := by
  unfold w_L_isMelted_b207 at h
  refine j_iload X dL_isMelted_207 2 rfl ?_
  refine j_if_eq X 232 dL_isMelted_209 (by decide) (fun c => ?_) (fun c => ?_)
  · replace h := jif_t c h
    refine j_sub [] rfl ?_
    refine j_widen (k := 72) (n := 430) (by decide) (by decide) ?_
    exact k_L_isMelted_b232 X hR Rt h
  · replace h := jif_f c h
    refine j_aload_n X dL_isMelted_212 0 rfl ?_
    refine j_callWi X [.ref a0] [] (c_L_undo h) jmw_L_undo jw_1126 rfl ⟨rfl, rfl⟩ (by rw [hR]; decide) rfl (Nat.le_of_ble_eq_true rfl) dL_isMelted_213 (fun v1 w1 h => ?_)
    refine j_if_lt X 232 dL_isMelted_216 (by decide) (fun c => ?_) (fun c => ?_)
    · replace h := jif_t c h
      refine j_sub [] rfl ?_
      refine j_widen (k := 72) (n := 430) (by decide) (by decide) ?_
      exact k_L_isMelted_b232 X hR Rt h
    · replace h := jif_f c h
      refine j_aload_n X dL_isMelted_219 0 rfl ?_
      refine j_callSl X [.ref a0] [] (c_L_digest h) jm_L_digest jw_1212 rfl ⟨rfl, rfl⟩ (by rw [hR]; decide) rfl (Nat.le_of_ble_eq_true rfl) dL_isMelted_220 (fun v2 w2 h => ?_)
      refine j_lload_n X dL_isMelted_223 1 rfl ?_
      refine j_lcmp X dL_isMelted_224 ?_
      refine j_if_ne X 232 dL_isMelted_225 (by decide) (fun c => ?_) (fun c => ?_)
      · replace h := jif_f c h
        refine j_sub [] rfl ?_
        refine j_widen (k := 72) (n := 430) (by decide) (by decide) ?_
        exact k_L_isMelted_b232 X hR Rt h
      · replace h := jif_t c h
        refine j_iconst X 1 dL_isMelted_228 (by decide) ?_
        refine j_goto X 233 dL_isMelted_229 (by decide) ?_
        refine j_sub [] rfl ?_
        refine j_widen (k := 72) (n := 430) (by decide) (by decide) ?_
        exact k_L_isMelted_b233 X hR Rt h
def w_L_isMelted_b199 (κ : Nat → Nat) (w : va_W) (a0 : Nat) (l2 : Int64) (a8 : Nat) (x11 : Int32) (s0 : Int32) (K166 : va_W → Nat → Int64 → Nat → Int32 → Int32 → Prop) (P : Int32 → va_W → Prop) : Prop :=
    K166 w a0 l2 a8 s0 (x11 + 1)
set_option maxRecDepth 100000 in
set_option maxHeartbeats 4000000 in
theorem k_L_isMelted_b199 {Γ : jG} (X : jX Γ cL_isMelted 12 RL) (hR : jgR Γ = ({ frames := 10, cells := 72, slots := 430, locals := 257 } : Room)) {P : Int32 → va_W → Prop} (Rt : jRt Γ cL_isMelted 12 72 430 (some .boolean) (jPi P)) {K166 : va_W → Nat → Int64 → Nat → Int32 → Int32 → Prop} (hK166 : ∀ (w : va_W) (a0 : Nat) (l2 : Int64) (a8 : Nat) (x10 : Int32) (x11 : Int32), K166 w a0 l2 a8 x10 x11 → J Γ 12 w 37 220 166 [(0, .ref a0), (2, .long l2), (8, .ref a8), (10, .int x10), (11, .int x11)] []) {w : va_W} {a0 : Nat} {l2 : Int64} {a8 : Nat} {x11 : Int32} {s0 : Int32} (h : w_L_isMelted_b199 (jgE Γ).2.2.2 w a0 l2 a8 x11 s0 K166 P) : J Γ 12 w 37 220 199 [(0, .ref a0), (2, .long l2), (8, .ref a8), (11, .int x11)] [.int s0] := by
  unfold w_L_isMelted_b199 at h
  refine j_istore X [(10, .int s0), (0, .ref a0), (2, .long l2), (8, .ref a8), (11, .int x11)] dL_isMelted_199 (by decide) rfl ?_
  refine j_iinc X (x11 + 1) [(11, .int (x11 + 1)), (10, .int s0), (0, .ref a0), (2, .long l2), (8, .ref a8)] dL_isMelted_201 4 rfl rfl (by decide) rfl ?_
  refine j_goto X 166 dL_isMelted_204 (by decide) ?_
  refine j_sub [2, 3, 4, 1, 0] rfl ?_
  refine j_widen (k := 37) (n := 220) (by decide) (by decide) ?_
  exact hK166 _ _ _ _ _ _ h
def w_L_isMelted_b166 : Nat → (κ : Nat → Nat) → (w : va_W) → (a0 : Nat) → (l2 : Int64) → (a8 : Nat) → (x10 : Int32) → (x11 : Int32) → (P : Int32 → va_W → Prop) → Prop
  | 0, _, _, _, _, _, _, _, _ => False
  | n + 1, κ, w, a0, l2, a8, x10, x11, P =>
    (if x10 = 0 then w_L_isMelted_b207 κ w a0 l2 x10 P else (jRc w a0 11 ∧ w_X8_hillCount κ w a0 (fun v1 w1 => (if v1 ≤ x11 then w_L_isMelted_b207 κ w1 a0 l2 x10 P else (jRc w1 a0 11 ∧ w_X8_followedZ κ w1 a0 x11 (fun v2 w2 => jLd w2 a8 0 x11 (fun v3 => (if v2 = v3 then w_L_isMelted_b199 κ w2 a0 l2 a8 x11 1 (fun w_ z_a0 z_l2 z_a8 z_x10 z_x11 => w_L_isMelted_b166 n κ w_ z_a0 z_l2 z_a8 z_x10 z_x11 P) P else w_L_isMelted_b199 κ w2 a0 l2 a8 x11 0 (fun w_ z_a0 z_l2 z_a8 z_x10 z_x11 => w_L_isMelted_b166 n κ w_ z_a0 z_l2 z_a8 z_x10 z_x11 P) P))))))))
set_option maxRecDepth 100000 in
set_option maxHeartbeats 4000000 in
theorem k_L_isMelted_b166 {Γ : jG} (X : jX Γ cL_isMelted 12 RL) (hR : jgR Γ = ({ frames := 10, cells := 72, slots := 430, locals := 257 } : Room)) {P : Int32 → va_W → Prop} (Rt : jRt Γ cL_isMelted 12 72 430 (some .boolean) (jPi P)) : ∀ (n : Nat) {w : va_W} {a0 : Nat} {l2 : Int64} {a8 : Nat} {x10 : Int32} {x11 : Int32} (h : w_L_isMelted_b166 n (jgE Γ).2.2.2 w a0 l2 a8 x10 x11 P), J Γ 12 w 37 220 166 [(0, .ref a0), (2, .long l2), (8, .ref a8), (10, .int x10), (11, .int x11)] [] := by
  intro n
  induction n with
  | zero => intro w a0 l2 a8 x10 x11 h; exact False.elim h
  | succ n ih =>
    intro w a0 l2 a8 x10 x11 h
    rw [w_L_isMelted_b166] at h
    refine j_iload X dL_isMelted_166 3 rfl ?_
    refine j_if_eq X 207 dL_isMelted_168 (by decide) (fun c => ?_) (fun c => ?_)
    · replace h := jif_t c h
      refine j_sub [0, 1, 3] rfl ?_
      refine j_widen (k := 37) (n := 220) (by decide) (by decide) ?_
      exact k_L_isMelted_b207 X hR Rt h
    · replace h := jif_f c h
      refine j_iload X dL_isMelted_171 4 rfl ?_
      refine j_aload_n X dL_isMelted_173 0 rfl ?_
      obtain ⟨⟨fs1, g1⟩, h⟩ := h
      refine j_callVi X [] [.int x11] (c_X8_hillCount h) (T := TX8) (N := 11) g1 rfl jm_X8_hillCount jw_1221 rfl ⟨rfl, rfl⟩ (by rw [hR]; decide) rfl (Nat.le_of_ble_eq_true rfl) dL_isMelted_174 (fun v1 w1 h => ?_)
      refine j_icmp_ge X 207 dL_isMelted_177 (by decide) (fun c => ?_) (fun c => ?_)
      · replace h := jif_t c h
        refine j_sub [0, 1, 3] rfl ?_
        refine j_widen (k := 37) (n := 220) (by decide) (by decide) ?_
        exact k_L_isMelted_b207 X hR Rt h
      · replace h := jif_f c h
        refine j_aload_n X dL_isMelted_180 0 rfl ?_
        refine j_iload X dL_isMelted_181 4 rfl ?_
        obtain ⟨⟨fs2, g2⟩, h⟩ := h
        refine j_callVi X [.int x11] [] (c_X8_followedZ h) (T := TX8) (N := 11) g2 rfl jm_X8_followed jw_1226 rfl ⟨rfl, rfl⟩ (by rw [hR]; decide) rfl (Nat.le_of_ble_eq_true rfl) dL_isMelted_183 (fun v2 w2 h => ?_)
        refine j_aload X dL_isMelted_186 2 rfl ?_
        refine j_iload X dL_isMelted_188 4 rfl ?_
        obtain ⟨n3, f3, g3, i3, h⟩ := h
        refine j_iald X g3 i3 dL_isMelted_190 ?_
        generalize f3 _ = v3 at h ⊢
        refine j_icmp_ne X 198 dL_isMelted_191 (by decide) (fun c => ?_) (fun c => ?_)
        · replace h := jif_f c h
          refine j_iconst X 0 dL_isMelted_198 (by decide) ?_
          refine j_sub [0, 1, 2, 4] rfl ?_
          refine j_widen (k := 37) (n := 220) (by decide) (by decide) ?_
          exact k_L_isMelted_b199 X hR Rt (fun _ _ _ _ _ _ h => ih h) h
        · replace h := jif_t c h
          refine j_iconst X 1 dL_isMelted_194 (by decide) ?_
          refine j_goto X 199 dL_isMelted_195 (by decide) ?_
          refine j_sub [0, 1, 2, 4] rfl ?_
          refine j_widen (k := 37) (n := 220) (by decide) (by decide) ?_
          exact k_L_isMelted_b199 X hR Rt (fun _ _ _ _ _ _ h => ih h) h
def w_L_isMelted_b161 (κ : Nat → Nat) (w : va_W) (a0 : Nat) (l2 : Int64) (a8 : Nat) (s0 : Int32) (P : Int32 → va_W → Prop) : Prop :=
    w_L_isMelted_b166 jFu κ w a0 l2 a8 s0 0 P
set_option maxRecDepth 100000 in
set_option maxHeartbeats 4000000 in
theorem k_L_isMelted_b161 {Γ : jG} (X : jX Γ cL_isMelted 12 RL) (hR : jgR Γ = ({ frames := 10, cells := 72, slots := 430, locals := 257 } : Room)) {P : Int32 → va_W → Prop} (Rt : jRt Γ cL_isMelted 12 72 430 (some .boolean) (jPi P)) {w : va_W} {a0 : Nat} {l2 : Int64} {a8 : Nat} {s0 : Int32} (h : w_L_isMelted_b161 (jgE Γ).2.2.2 w a0 l2 a8 s0 P) : J Γ 12 w 37 220 161 [(0, .ref a0), (2, .long l2), (8, .ref a8)] [.int s0] := by
  unfold w_L_isMelted_b161 at h
  refine j_istore X [(10, .int s0), (0, .ref a0), (2, .long l2), (8, .ref a8)] dL_isMelted_161 (by decide) rfl ?_
  refine j_iconst X 0 dL_isMelted_163 (by decide) ?_
  refine j_istore X [(11, .int 0), (10, .int s0), (0, .ref a0), (2, .long l2), (8, .ref a8)] dL_isMelted_164 (by decide) rfl ?_
  refine j_sub [2, 3, 4, 1, 0] rfl ?_
  refine j_widen (k := 37) (n := 220) (by decide) (by decide) ?_
  exact k_L_isMelted_b166 X hR Rt _ h
def w_L_isMelted_b160 (κ : Nat → Nat) (w : va_W) (a0 : Nat) (l2 : Int64) (a8 : Nat) (P : Int32 → va_W → Prop) : Prop :=
    w_L_isMelted_b161 κ w a0 l2 a8 0 P
set_option maxRecDepth 100000 in
set_option maxHeartbeats 4000000 in
theorem k_L_isMelted_b160 {Γ : jG} (X : jX Γ cL_isMelted 12 RL) (hR : jgR Γ = ({ frames := 10, cells := 72, slots := 430, locals := 257 } : Room)) {P : Int32 → va_W → Prop} (Rt : jRt Γ cL_isMelted 12 72 430 (some .boolean) (jPi P)) {w : va_W} {a0 : Nat} {l2 : Int64} {a8 : Nat} (h : w_L_isMelted_b160 (jgE Γ).2.2.2 w a0 l2 a8 P) : J Γ 12 w 37 220 160 [(0, .ref a0), (2, .long l2), (8, .ref a8)] [] := by
  unfold w_L_isMelted_b160 at h
  refine j_iconst X 0 dL_isMelted_160 (by decide) ?_
  refine j_widen (k := 37) (n := 220) (by decide) (by decide) ?_
  exact k_L_isMelted_b161 X hR Rt h
def w_L_isMelted_b116 (κ : Nat → Nat) (w : va_W) (s0 : Int32) (P : Int32 → va_W → Prop) : Prop :=
    (narrow .boolean (.int s0) = .int s0 ∧ P s0 w)
set_option maxRecDepth 100000 in
set_option maxHeartbeats 4000000 in
theorem k_L_isMelted_b116 {Γ : jG} (X : jX Γ cL_isMelted 12 RL) (hR : jgR Γ = ({ frames := 10, cells := 72, slots := 430, locals := 257 } : Room)) {P : Int32 → va_W → Prop} (Rt : jRt Γ cL_isMelted 12 72 430 (some .boolean) (jPi P)) {w : va_W} {s0 : Int32} (h : w_L_isMelted_b116 (jgE Γ).2.2.2 w s0 P) : J Γ 12 w 71 424 116 [] [.int s0] := by
  unfold w_L_isMelted_b116 at h
  exact Rt.z dL_isMelted_116 h.1 ⟨_, rfl, h.2⟩ (by first | decide | omega) (by first | decide | omega)
def w_L_isMelted_b115 (κ : Nat → Nat) (w : va_W) (P : Int32 → va_W → Prop) : Prop :=
    w_L_isMelted_b116 κ w 0 P
set_option maxRecDepth 100000 in
set_option maxHeartbeats 4000000 in
theorem k_L_isMelted_b115 {Γ : jG} (X : jX Γ cL_isMelted 12 RL) (hR : jgR Γ = ({ frames := 10, cells := 72, slots := 430, locals := 257 } : Room)) {P : Int32 → va_W → Prop} (Rt : jRt Γ cL_isMelted 12 72 430 (some .boolean) (jPi P)) {w : va_W} (h : w_L_isMelted_b115 (jgE Γ).2.2.2 w  P) : J Γ 12 w 71 424 115 [] [] := by
  unfold w_L_isMelted_b115 at h
  refine j_iconst X 0 dL_isMelted_115 (by decide) ?_
  refine j_widen (k := 71) (n := 424) (by decide) (by decide) ?_
  exact k_L_isMelted_b116 X hR Rt h
def w_L_isMelted_b77 (κ : Nat → Nat) (w : va_W) (a0 : Nat) (x1 : Int32) (l2 : Int64) (x4 : Int32) (x5 : Int32) (x6 : Int32) (x7 : Int32) (a8 : Nat) (x9 : Int32) (s0 : Int32) (s1 : Int32) (s2 : Nat) (K39 : va_W → Nat → Int32 → Int64 → Int32 → Int32 → Int32 → Int32 → Nat → Int32 → Prop) (P : Int32 → va_W → Prop) : Prop :=
    jSi w s2 s1 s0 (fun w1 => K39 w1 a0 x1 l2 x4 x5 x6 x7 a8 (x9 + 1))
set_option maxRecDepth 100000 in
set_option maxHeartbeats 4000000 in
theorem k_L_isMelted_b77 {Γ : jG} (X : jX Γ cL_isMelted 12 RL) (hR : jgR Γ = ({ frames := 10, cells := 72, slots := 430, locals := 257 } : Room)) {P : Int32 → va_W → Prop} (Rt : jRt Γ cL_isMelted 12 72 430 (some .boolean) (jPi P)) {K39 : va_W → Nat → Int32 → Int64 → Int32 → Int32 → Int32 → Int32 → Nat → Int32 → Prop} (hK39 : ∀ (w : va_W) (a0 : Nat) (x1 : Int32) (l2 : Int64) (x4 : Int32) (x5 : Int32) (x6 : Int32) (x7 : Int32) (a8 : Nat) (x9 : Int32), K39 w a0 x1 l2 x4 x5 x6 x7 a8 x9 → J Γ 12 w 36 214 39 [(0, .ref a0), (1, .int x1), (2, .long l2), (4, .int x4), (5, .int x5), (6, .int x6), (7, .int x7), (8, .ref a8), (9, .int x9)] []) {w : va_W} {a0 : Nat} {x1 : Int32} {l2 : Int64} {x4 : Int32} {x5 : Int32} {x6 : Int32} {x7 : Int32} {a8 : Nat} {x9 : Int32} {s0 : Int32} {s1 : Int32} {s2 : Nat} (h : w_L_isMelted_b77 (jgE Γ).2.2.2 w a0 x1 l2 x4 x5 x6 x7 a8 x9 s0 s1 s2 K39 P) : J Γ 12 w 36 214 77 [(0, .ref a0), (1, .int x1), (2, .long l2), (4, .int x4), (5, .int x5), (6, .int x6), (7, .int x7), (8, .ref a8), (9, .int x9)] [.int s0, .int s1, .ref s2] := by
  unfold w_L_isMelted_b77 at h
  obtain ⟨n1, f1, g1, i1, h⟩ := h
  refine j_iast X g1 i1 dL_isMelted_77 ?_
  generalize jst w s2 _ = w1 at h ⊢
  refine j_iinc X (x9 + 1) [(9, .int (x9 + 1)), (0, .ref a0), (1, .int x1), (2, .long l2), (4, .int x4), (5, .int x5), (6, .int x6), (7, .int x7), (8, .ref a8)] dL_isMelted_78 8 rfl rfl (by decide) rfl ?_
  refine j_goto X 39 dL_isMelted_81 (by decide) ?_
  refine j_sub [1, 2, 3, 4, 5, 6, 7, 8, 0] rfl ?_
  refine j_widen (k := 36) (n := 214) (by decide) (by decide) ?_
  exact hK39 _ _ _ _ _ _ _ _ _ _ h
def w_L_isMelted_b39 : Nat → (κ : Nat → Nat) → (w : va_W) → (a0 : Nat) → (x1 : Int32) → (l2 : Int64) → (x4 : Int32) → (x5 : Int32) → (x6 : Int32) → (x7 : Int32) → (a8 : Nat) → (x9 : Int32) → (P : Int32 → va_W → Prop) → Prop
  | 0, _, _, _, _, _, _, _, _, _, _, _, _ => False
  | n + 1, κ, w, a0, x1, l2, x4, x5, x6, x7, a8, x9, P =>
    (jRc w a0 11 ∧ w_X8_hillCount κ w a0 (fun v1 w1 => (if v1 ≤ x9 then w_L_melt κ w1 a0 x1 (fun v2 w2 => (if v2 = (-100000000) then (if x1 = 0 then w_L_digest κ w2 a0 (fun v6 w6 => (if (lg_cmp v6 l2) = 0 then w_L_isMelted_b116 κ w6 1 P else w_L_isMelted_b115 κ w6  P)) else w_L_isMelted_b115 κ w2  P) else (if v2 = x4 then (jRc w2 a0 11 ∧ w_X8_blockCount κ w2 a0 (fun v3 w3 => (if v3 = (x5 - x4) then (jRc w3 a0 11 ∧ w_X8_meltedTotal κ w3 a0 (fun v4 w4 => (if v4 = (x6 + x4) then (jRc w4 a0 11 ∧ w_X8_exists κ w4 a0 x1 (fun v5 w5 => (if v5 = 0 then w_L_isMelted_b161 κ w5 a0 l2 a8 1 P else w_L_isMelted_b160 κ w5 a0 l2 a8 P))) else w_L_isMelted_b160 κ w4 a0 l2 a8 P))) else w_L_isMelted_b160 κ w3 a0 l2 a8 P))) else w_L_isMelted_b160 κ w2 a0 l2 a8 P))) else (jRc w1 a0 11 ∧ w_X8_followedZ κ w1 a0 x9 (fun v7 w7 => (jRc w7 a0 11 ∧ w_X8_isInBranchZ κ w7 a0 x1 v7 (fun v8 w8 => (if v8 = 0 then (jRc w8 a0 11 ∧ w_X8_followedZ κ w8 a0 x9 (fun v9 w9 => w_L_isMelted_b77 κ w9 a0 x1 l2 x4 x5 x6 x7 a8 x9 v9 x9 a8 (fun w_ z_a0 z_x1 z_l2 z_x4 z_x5 z_x6 z_x7 z_a8 z_x9 => w_L_isMelted_b39 n κ w_ z_a0 z_x1 z_l2 z_x4 z_x5 z_x6 z_x7 z_a8 z_x9 P) P)) else w_L_isMelted_b77 κ w8 a0 x1 l2 x4 x5 x6 x7 a8 x9 x7 x9 a8 (fun w_ z_a0 z_x1 z_l2 z_x4 z_x5 z_x6 z_x7 z_a8 z_x9 => w_L_isMelted_b39 n κ w_ z_a0 z_x1 z_l2 z_x4 z_x5 z_x6 z_x7 z_a8 z_x9 P) P))))))))
set_option maxRecDepth 100000 in
set_option maxHeartbeats 4000000 in
theorem k_L_isMelted_b39 {Γ : jG} (X : jX Γ cL_isMelted 12 RL) (hR : jgR Γ = ({ frames := 10, cells := 72, slots := 430, locals := 257 } : Room)) {P : Int32 → va_W → Prop} (Rt : jRt Γ cL_isMelted 12 72 430 (some .boolean) (jPi P)) : ∀ (n : Nat) {w : va_W} {a0 : Nat} {x1 : Int32} {l2 : Int64} {x4 : Int32} {x5 : Int32} {x6 : Int32} {x7 : Int32} {a8 : Nat} {x9 : Int32} (h : w_L_isMelted_b39 n (jgE Γ).2.2.2 w a0 x1 l2 x4 x5 x6 x7 a8 x9 P), J Γ 12 w 36 214 39 [(0, .ref a0), (1, .int x1), (2, .long l2), (4, .int x4), (5, .int x5), (6, .int x6), (7, .int x7), (8, .ref a8), (9, .int x9)] [] := by
  intro n
  induction n with
  | zero => intro w a0 x1 l2 x4 x5 x6 x7 a8 x9 h; exact False.elim h
  | succ n ih =>
    intro w a0 x1 l2 x4 x5 x6 x7 a8 x9 h
    rw [w_L_isMelted_b39] at h
    refine j_iload X dL_isMelted_39 8 rfl ?_
    refine j_aload_n X dL_isMelted_41 0 rfl ?_
    obtain ⟨⟨fs1, g1⟩, h⟩ := h
    refine j_callVi X [] [.int x9] (c_X8_hillCount h) (T := TX8) (N := 11) g1 rfl jm_X8_hillCount jw_1221 rfl ⟨rfl, rfl⟩ (by rw [hR]; decide) rfl (Nat.le_of_ble_eq_true rfl) dL_isMelted_42 (fun v1 w1 h => ?_)
    refine j_icmp_ge X 84 dL_isMelted_45 (by decide) (fun c => ?_) (fun c => ?_)
    · replace h := jif_t c h
      refine j_aload_n X dL_isMelted_84 0 rfl ?_
      refine j_iload_n X dL_isMelted_85 1 rfl ?_
      refine j_callWi X [.ref a0, .int x1] [] (c_L_melt h) jmw_L_melt jw_1201 rfl ⟨rfl, rfl⟩ (by rw [hR]; decide) rfl (Nat.le_of_ble_eq_true rfl) dL_isMelted_86 (fun v2 w2 h => ?_)
      refine j_istore X [(9, .int v2), (0, .ref a0), (1, .int x1), (2, .long l2), (4, .int x4), (5, .int x5), (6, .int x6), (7, .int x7), (8, .ref a8)] dL_isMelted_89 (by decide) rfl ?_
      refine j_iload X dL_isMelted_91 0 rfl ?_
      refine j_ldc X dL_isMelted_93 jw_379 ?_
      refine j_icmp_ne X 117 dL_isMelted_95 (by decide) (fun c => ?_) (fun c => ?_)
      · replace h := jif_f c h
        refine j_iload X dL_isMelted_117 0 rfl ?_
        refine j_iload X dL_isMelted_119 4 rfl ?_
        refine j_icmp_ne X 160 dL_isMelted_121 (by decide) (fun c => ?_) (fun c => ?_)
        · replace h := jif_f c h
          refine j_sub [1, 3, 8] rfl ?_
          refine j_widen (k := 37) (n := 220) (by decide) (by decide) ?_
          exact k_L_isMelted_b160 X hR Rt h
        · replace h := jif_t c h
          refine j_aload_n X dL_isMelted_124 1 rfl ?_
          obtain ⟨⟨fs3, g3⟩, h⟩ := h
          refine j_callVi X [] [] (c_X8_blockCount h) (T := TX8) (N := 11) g3 rfl jm_X8_blockCount jw_1250 rfl ⟨rfl, rfl⟩ (by rw [hR]; decide) rfl (Nat.le_of_ble_eq_true rfl) dL_isMelted_125 (fun v3 w3 h => ?_)
          refine j_iload X dL_isMelted_128 5 rfl ?_
          refine j_iload X dL_isMelted_130 4 rfl ?_
          refine j_isub X dL_isMelted_132 ?_
          refine j_icmp_ne X 160 dL_isMelted_133 (by decide) (fun c => ?_) (fun c => ?_)
          · replace h := jif_f c h
            refine j_sub [1, 3, 8] rfl ?_
            refine j_widen (k := 37) (n := 220) (by decide) (by decide) ?_
            exact k_L_isMelted_b160 X hR Rt h
          · replace h := jif_t c h
            refine j_aload_n X dL_isMelted_136 1 rfl ?_
            obtain ⟨⟨fs4, g4⟩, h⟩ := h
            refine j_callVi X [] [] (c_X8_meltedTotal h) (T := TX8) (N := 11) g4 rfl jm_X8_meltedTotal jw_1217 rfl ⟨rfl, rfl⟩ (by rw [hR]; decide) rfl (Nat.le_of_ble_eq_true rfl) dL_isMelted_137 (fun v4 w4 h => ?_)
            refine j_iload X dL_isMelted_140 6 rfl ?_
            refine j_iload X dL_isMelted_142 4 rfl ?_
            refine j_iadd X dL_isMelted_144 ?_
            refine j_icmp_ne X 160 dL_isMelted_145 (by decide) (fun c => ?_) (fun c => ?_)
            · replace h := jif_f c h
              refine j_sub [1, 3, 8] rfl ?_
              refine j_widen (k := 37) (n := 220) (by decide) (by decide) ?_
              exact k_L_isMelted_b160 X hR Rt h
            · replace h := jif_t c h
              refine j_aload_n X dL_isMelted_148 1 rfl ?_
              refine j_iload_n X dL_isMelted_149 2 rfl ?_
              obtain ⟨⟨fs5, g5⟩, h⟩ := h
              refine j_callVi X [.int x1] [] (c_X8_exists h) (T := TX8) (N := 11) g5 rfl jm_X8_exists jw_1257 rfl ⟨rfl, rfl⟩ (by rw [hR]; decide) rfl (Nat.le_of_ble_eq_true rfl) dL_isMelted_150 (fun v5 w5 h => ?_)
              refine j_if_ne X 160 dL_isMelted_153 (by decide) (fun c => ?_) (fun c => ?_)
              · replace h := jif_f c h
                refine j_sub [1, 3, 8] rfl ?_
                refine j_widen (k := 37) (n := 220) (by decide) (by decide) ?_
                exact k_L_isMelted_b160 X hR Rt h
              · replace h := jif_t c h
                refine j_iconst X 1 dL_isMelted_156 (by decide) ?_
                refine j_goto X 161 dL_isMelted_157 (by decide) ?_
                refine j_sub [1, 3, 8] rfl ?_
                refine j_widen (k := 37) (n := 220) (by decide) (by decide) ?_
                exact k_L_isMelted_b161 X hR Rt h
      · replace h := jif_t c h
        refine j_iload_n X dL_isMelted_98 2 rfl ?_
        refine j_if_ne X 115 dL_isMelted_99 (by decide) (fun c => ?_) (fun c => ?_)
        · replace h := jif_f c h
          refine j_sub [] rfl ?_
          refine j_widen (k := 71) (n := 424) (by decide) (by decide) ?_
          exact k_L_isMelted_b115 X hR Rt h
        · replace h := jif_t c h
          refine j_aload_n X dL_isMelted_102 1 rfl ?_
          refine j_callSl X [.ref a0] [] (c_L_digest h) jm_L_digest jw_1212 rfl ⟨rfl, rfl⟩ (by rw [hR]; decide) rfl (Nat.le_of_ble_eq_true rfl) dL_isMelted_103 (fun v6 w6 h => ?_)
          refine j_lload_n X dL_isMelted_106 3 rfl ?_
          refine j_lcmp X dL_isMelted_107 ?_
          refine j_if_ne X 115 dL_isMelted_108 (by decide) (fun c => ?_) (fun c => ?_)
          · replace h := jif_f c h
            refine j_sub [] rfl ?_
            refine j_widen (k := 71) (n := 424) (by decide) (by decide) ?_
            exact k_L_isMelted_b115 X hR Rt h
          · replace h := jif_t c h
            refine j_iconst X 1 dL_isMelted_111 (by decide) ?_
            refine j_goto X 116 dL_isMelted_112 (by decide) ?_
            refine j_sub [] rfl ?_
            refine j_widen (k := 71) (n := 424) (by decide) (by decide) ?_
            exact k_L_isMelted_b116 X hR Rt h
    · replace h := jif_f c h
      refine j_aload X dL_isMelted_48 7 rfl ?_
      refine j_iload X dL_isMelted_50 8 rfl ?_
      refine j_aload_n X dL_isMelted_52 0 rfl ?_
      refine j_iload_n X dL_isMelted_53 1 rfl ?_
      refine j_aload_n X dL_isMelted_54 0 rfl ?_
      refine j_iload X dL_isMelted_55 8 rfl ?_
      obtain ⟨⟨fs7, g7⟩, h⟩ := h
      refine j_callVi X [.int x9] [.int x1, .ref a0, .int x9, .ref a8] (c_X8_followedZ h) (T := TX8) (N := 11) g7 rfl jm_X8_followed jw_1226 rfl ⟨rfl, rfl⟩ (by rw [hR]; decide) rfl (Nat.le_of_ble_eq_true rfl) dL_isMelted_57 (fun v7 w7 h => ?_)
      obtain ⟨⟨fs8, g8⟩, h⟩ := h
      refine j_callVi X [.int x1, .int v7] [.int x9, .ref a8] (c_X8_isInBranchZ h) (T := TX8) (N := 11) g8 rfl jm_X8_isInBranch jw_1390 rfl ⟨rfl, rfl⟩ (by rw [hR]; decide) rfl (Nat.le_of_ble_eq_true rfl) dL_isMelted_60 (fun v8 w8 h => ?_)
      refine j_if_eq X 71 dL_isMelted_63 (by decide) (fun c => ?_) (fun c => ?_)
      · replace h := jif_t c h
        refine j_aload_n X dL_isMelted_71 0 rfl ?_
        refine j_iload X dL_isMelted_72 8 rfl ?_
        obtain ⟨⟨fs9, g9⟩, h⟩ := h
        refine j_callVi X [.int x9] [.int x9, .ref a8] (c_X8_followedZ h) (T := TX8) (N := 11) g9 rfl jm_X8_followed jw_1226 rfl ⟨rfl, rfl⟩ (by rw [hR]; decide) rfl (Nat.le_of_ble_eq_true rfl) dL_isMelted_74 (fun v9 w9 h => ?_)
        refine j_widen (k := 36) (n := 214) (by decide) (by decide) ?_
        exact k_L_isMelted_b77 X hR Rt (fun _ _ _ _ _ _ _ _ _ _ h => ih h) h
      · replace h := jif_f c h
        refine j_iload X dL_isMelted_66 6 rfl ?_
        refine j_goto X 77 dL_isMelted_68 (by decide) ?_
        refine j_widen (k := 36) (n := 214) (by decide) (by decide) ?_
        exact k_L_isMelted_b77 X hR Rt (fun _ _ _ _ _ _ _ _ _ _ h => ih h) h
def w_L_isMelted_b0 (κ : Nat → Nat) (w : va_W) (a0 : Nat) (x1 : Int32) (P : Int32 → va_W → Prop) : Prop :=
    w_L_digest κ w a0 (fun v1 w1 => (jRc w1 a0 11 ∧ w_X8_meltSizeZ κ w1 a0 x1 (fun v2 w2 => (jRc w2 a0 11 ∧ w_X8_blockCount κ w2 a0 (fun v3 w3 => (jRc w3 a0 11 ∧ w_X8_meltedTotal κ w3 a0 (fun v4 w4 => w_L_parentOf κ w4 a0 x1 (fun v5 w5 => (¬ (4 : Int32) < 0 ∧ Int32.toNatClampNeg 4 ≤ 4 ∧ ∀ q6 : Nat, jlk w5 q6 = none → (fun w6 => w_L_isMelted_b39 jFu κ w6 a0 x1 v1 v2 v3 v4 v5 q6 0 P) (w5 ++ [(q6, .inl (0, Int32.toNatClampNeg 4, .inl (fun _ => 0)))]))))))))))
set_option maxRecDepth 100000 in
set_option maxHeartbeats 4000000 in
theorem k_L_isMelted_b0 {Γ : jG} (X : jX Γ cL_isMelted 12 RL) (hR : jgR Γ = ({ frames := 10, cells := 72, slots := 430, locals := 257 } : Room)) {P : Int32 → va_W → Prop} (Rt : jRt Γ cL_isMelted 12 72 430 (some .boolean) (jPi P)) {w : va_W} {a0 : Nat} {x1 : Int32} (h : w_L_isMelted_b0 (jgE Γ).2.2.2 w a0 x1 P) : J Γ 12 w 0 0 0 [(0, .ref a0), (1, .int x1)] [] := by
  unfold w_L_isMelted_b0 at h
  refine j_aload_n X dL_isMelted_0 0 rfl ?_
  refine j_callSl X [.ref a0] [] (c_L_digest h) jm_L_digest jw_1212 rfl ⟨rfl, rfl⟩ (by rw [hR]; decide) rfl (Nat.le_of_ble_eq_true rfl) dL_isMelted_1 (fun v1 w1 h => ?_)
  refine j_lstore_n X [(2, .long v1), (0, .ref a0), (1, .int x1)] dL_isMelted_4 (by decide) rfl ?_
  refine j_aload_n X dL_isMelted_5 1 rfl ?_
  refine j_iload_n X dL_isMelted_6 2 rfl ?_
  obtain ⟨⟨fs2, g2⟩, h⟩ := h
  refine j_callVi X [.int x1] [] (c_X8_meltSizeZ h) (T := TX8) (N := 11) g2 rfl jm_X8_meltSize jw_1409 rfl ⟨rfl, rfl⟩ (by rw [hR]; decide) rfl (Nat.le_of_ble_eq_true rfl) dL_isMelted_7 (fun v2 w2 h => ?_)
  refine j_istore X [(4, .int v2), (2, .long v1), (0, .ref a0), (1, .int x1)] dL_isMelted_10 (by decide) rfl ?_
  refine j_aload_n X dL_isMelted_12 2 rfl ?_
  obtain ⟨⟨fs3, g3⟩, h⟩ := h
  refine j_callVi X [] [] (c_X8_blockCount h) (T := TX8) (N := 11) g3 rfl jm_X8_blockCount jw_1250 rfl ⟨rfl, rfl⟩ (by rw [hR]; decide) rfl (Nat.le_of_ble_eq_true rfl) dL_isMelted_13 (fun v3 w3 h => ?_)
  refine j_istore X [(5, .int v3), (4, .int v2), (2, .long v1), (0, .ref a0), (1, .int x1)] dL_isMelted_16 (by decide) rfl ?_
  refine j_aload_n X dL_isMelted_18 3 rfl ?_
  obtain ⟨⟨fs4, g4⟩, h⟩ := h
  refine j_callVi X [] [] (c_X8_meltedTotal h) (T := TX8) (N := 11) g4 rfl jm_X8_meltedTotal jw_1217 rfl ⟨rfl, rfl⟩ (by rw [hR]; decide) rfl (Nat.le_of_ble_eq_true rfl) dL_isMelted_19 (fun v4 w4 h => ?_)
  refine j_istore X [(6, .int v4), (5, .int v3), (4, .int v2), (2, .long v1), (0, .ref a0), (1, .int x1)] dL_isMelted_22 (by decide) rfl ?_
  refine j_aload_n X dL_isMelted_24 4 rfl ?_
  refine j_iload_n X dL_isMelted_25 5 rfl ?_
  refine j_callWi X [.ref a0, .int x1] [] (c_L_parentOf h) jmw_L_parentOf jw_1262 rfl ⟨rfl, rfl⟩ (by rw [hR]; decide) rfl (Nat.le_of_ble_eq_true rfl) dL_isMelted_26 (fun v5 w5 h => ?_)
  refine j_istore X [(7, .int v5), (6, .int v4), (5, .int v3), (4, .int v2), (2, .long v1), (0, .ref a0), (1, .int x1)] dL_isMelted_29 (by decide) rfl ?_
  refine j_iconst X 4 dL_isMelted_31 (by decide) ?_
  refine j_newa X (N := Int32.toNatClampNeg 4) 0 (by decide) rfl jw_81 h.1 rfl (Nat.le_trans h.2.1 (by decide)) (by rw [hR]; exact ⟨by simp only []; omega, by have := h.2.1; simp only []; omega⟩) dL_isMelted_32 (fun q6 e6 => ?_)
  refine j_widen (n := 210 + 4) (Nat.le_refl _) (Nat.add_le_add_left h.2.1 _) ?_
  replace h := h.2.2 q6 e6
  generalize w5 ++ [(q6, _)] = w6 at h ⊢
  refine j_astore X [(8, .ref q6), (7, .int v5), (6, .int v4), (5, .int v3), (4, .int v2), (2, .long v1), (0, .ref a0), (1, .int x1)] dL_isMelted_34 (by decide) rfl ?_
  refine j_iconst X 0 dL_isMelted_36 (by decide) ?_
  refine j_istore X [(9, .int 0), (8, .ref q6), (7, .int v5), (6, .int v4), (5, .int v3), (4, .int v2), (2, .long v1), (0, .ref a0), (1, .int x1)] dL_isMelted_37 (by decide) rfl ?_
  refine j_sub [7, 8, 6, 5, 4, 3, 2, 1, 0] rfl ?_
  refine j_widen (k := 36) (n := 214) (by decide) (by decide) ?_
  exact k_L_isMelted_b39 X hR Rt _ h
def w_L_isMelted (κ : Nat → Nat) (w : va_W) (a0 : Nat) (x1 : Int32) (P : Int32 → va_W → Prop) : Prop := w_L_isMelted_b0 κ w a0 x1 P
theorem c_L_isMelted {E : jE} {w : va_W} {a0 : Nat} {x1 : Int32} {P : Int32 → va_W → Prop} (h : w_L_isMelted E.2.2.2 w a0 x1 P) : jC E yL_isMelted cL_isMelted 12 (some .boolean) ({ frames := 10, cells := 72, slots := 430, locals := 257 } : Room) [.ref a0, .int x1] w 72 430 (jPi P) := by
  refine jC_of (by decide) (Nat.le_of_ble_eq_true rfl) ?_
  intro Γ X hE hR Rt
  subst hE
  exact k_L_isMelted_b0 X hR Rt h
theorem jm_L_isRepaired : jMs yL_isRepaired cL_isRepaired 8 (some .boolean) 2 := ⟨jw_1532, jw_21, jw_1533, ⟨by decide +kernel, by decide +kernel⟩, by decide +kernel⟩
def w_L_isRepaired_b191 (κ : Nat → Nat) (w : va_W) (s0 : Int32) (P : Int32 → va_W → Prop) : Prop :=
    (narrow .boolean (.int s0) = .int s0 ∧ P s0 w)
set_option maxRecDepth 100000 in
set_option maxHeartbeats 4000000 in
theorem k_L_isRepaired_b191 {Γ : jG} (X : jX Γ cL_isRepaired 8 RL) (hR : jgR Γ = ({ frames := 10, cells := 131, slots := 786, locals := 257 } : Room)) {P : Int32 → va_W → Prop} (Rt : jRt Γ cL_isRepaired 8 131 786 (some .boolean) (jPi P)) {w : va_W} {s0 : Int32} (h : w_L_isRepaired_b191 (jgE Γ).2.2.2 w s0 P) : J Γ 8 w 131 786 191 [] [.int s0] := by
  unfold w_L_isRepaired_b191 at h
  exact Rt.z dL_isRepaired_191 h.1 ⟨_, rfl, h.2⟩ (by first | decide | omega) (by first | decide | omega)
def w_L_isRepaired_b190 (κ : Nat → Nat) (w : va_W) (P : Int32 → va_W → Prop) : Prop :=
    w_L_isRepaired_b191 κ w 0 P
set_option maxRecDepth 100000 in
set_option maxHeartbeats 4000000 in
theorem k_L_isRepaired_b190 {Γ : jG} (X : jX Γ cL_isRepaired 8 RL) (hR : jgR Γ = ({ frames := 10, cells := 131, slots := 786, locals := 257 } : Room)) {P : Int32 → va_W → Prop} (Rt : jRt Γ cL_isRepaired 8 131 786 (some .boolean) (jPi P)) {w : va_W} (h : w_L_isRepaired_b190 (jgE Γ).2.2.2 w  P) : J Γ 8 w 131 786 190 [] [] := by
  unfold w_L_isRepaired_b190 at h
  refine j_iconst X 0 dL_isRepaired_190 (by decide) ?_
  refine j_widen (k := 131) (n := 786) (by omega) (by omega) ?_
  exact k_L_isRepaired_b191 X hR Rt h
def w_L_isRepaired_b164 (κ : Nat → Nat) (w : va_W) (a0 : Nat) (l2 : Int64) (x5 : Int32) (x7 : Int32) (s0 : Int32) (K140 : va_W → Nat → Int64 → Int32 → Int32 → Int32 → Prop) (P : Int32 → va_W → Prop) : Prop :=
    K140 w a0 l2 x5 s0 (x7 + 1)
set_option maxRecDepth 100000 in
set_option maxHeartbeats 4000000 in
theorem k_L_isRepaired_b164 {N : Nat} (hN : N + 1 ≤ 11) {Γ : jG} (X : jX Γ cL_isRepaired 8 RL) (hR : jgR Γ = ({ frames := 10, cells := 131, slots := 786, locals := 257 } : Room)) {P : Int32 → va_W → Prop} (Rt : jRt Γ cL_isRepaired 8 131 786 (some .boolean) (jPi P)) {K140 : va_W → Nat → Int64 → Int32 → Int32 → Int32 → Prop} (hK140 : ∀ (w : va_W) (a0 : Nat) (l2 : Int64) (x5 : Int32) (x6 : Int32) (x7 : Int32), K140 w a0 l2 x5 x6 x7 → J Γ 8 w (86 + (11 - N) * 1 + 0) (516 + (11 - N) * 6 + 0) 140 [(0, .ref a0), (2, .long l2), (5, .int x5), (6, .int x6), (7, .int x7)] []) {w : va_W} {a0 : Nat} {l2 : Int64} {x5 : Int32} {x7 : Int32} {s0 : Int32} (h : w_L_isRepaired_b164 (jgE Γ).2.2.2 w a0 l2 x5 x7 s0 K140 P) : J Γ 8 w (86 + (11 - (N + 1)) * 1 + 1) (516 + (11 - (N + 1)) * 6 + 6) 164 [(0, .ref a0), (2, .long l2), (5, .int x5), (7, .int x7)] [.int s0] := by
  unfold w_L_isRepaired_b164 at h
  refine j_istore X [(6, .int s0), (0, .ref a0), (2, .long l2), (5, .int x5), (7, .int x7)] dL_isRepaired_164 (by decide) rfl ?_
  refine j_iinc X (x7 + 1) [(7, .int (x7 + 1)), (6, .int s0), (0, .ref a0), (2, .long l2), (5, .int x5)] dL_isRepaired_166 4 rfl rfl (by decide) rfl ?_
  refine j_goto X 140 dL_isRepaired_169 (by decide) ?_
  refine j_sub [2, 3, 4, 1, 0] rfl ?_
  refine j_widen (k := (86 + (11 - N) * 1 + 0)) (n := (516 + (11 - N) * 6 + 0)) (by omega) (by omega) ?_
  exact hK140 _ _ _ _ _ _ h
def w_L_isRepaired_b163 (κ : Nat → Nat) (w : va_W) (a0 : Nat) (l2 : Int64) (x5 : Int32) (x7 : Int32) (K140 : va_W → Nat → Int64 → Int32 → Int32 → Int32 → Prop) (P : Int32 → va_W → Prop) : Prop :=
    w_L_isRepaired_b164 κ w a0 l2 x5 x7 0 K140 P
set_option maxRecDepth 100000 in
set_option maxHeartbeats 4000000 in
theorem k_L_isRepaired_b163 {N : Nat} (hN : N + 1 ≤ 11) {Γ : jG} (X : jX Γ cL_isRepaired 8 RL) (hR : jgR Γ = ({ frames := 10, cells := 131, slots := 786, locals := 257 } : Room)) {P : Int32 → va_W → Prop} (Rt : jRt Γ cL_isRepaired 8 131 786 (some .boolean) (jPi P)) {K140 : va_W → Nat → Int64 → Int32 → Int32 → Int32 → Prop} (hK140 : ∀ (w : va_W) (a0 : Nat) (l2 : Int64) (x5 : Int32) (x6 : Int32) (x7 : Int32), K140 w a0 l2 x5 x6 x7 → J Γ 8 w (86 + (11 - N) * 1 + 0) (516 + (11 - N) * 6 + 0) 140 [(0, .ref a0), (2, .long l2), (5, .int x5), (6, .int x6), (7, .int x7)] []) {w : va_W} {a0 : Nat} {l2 : Int64} {x5 : Int32} {x7 : Int32} (h : w_L_isRepaired_b163 (jgE Γ).2.2.2 w a0 l2 x5 x7 K140 P) : J Γ 8 w (86 + (11 - (N + 1)) * 1 + 1) (516 + (11 - (N + 1)) * 6 + 6) 163 [(0, .ref a0), (2, .long l2), (5, .int x5), (7, .int x7)] [] := by
  unfold w_L_isRepaired_b163 at h
  refine j_iconst X 0 dL_isRepaired_163 (by decide) ?_
  refine j_widen (k := (86 + (11 - (N + 1)) * 1 + 1)) (n := (516 + (11 - (N + 1)) * 6 + 6)) (by omega) (by omega) ?_
  exact k_L_isRepaired_b164 hN X hR Rt hK140 h
def w_L_isRepaired_b140 : Nat → (κ : Nat → Nat) → (w : va_W) → (a0 : Nat) → (l2 : Int64) → (x5 : Int32) → (x6 : Int32) → (x7 : Int32) → (P : Int32 → va_W → Prop) → Prop
  | 0, _, _, _, _, _, _, _, _ => False
  | n + 1, κ, w, a0, l2, x5, x6, x7, P =>
    (if x5 ≤ x7 then (if x6 = 0 then w_L_isRepaired_b190 κ w  P else w_L_digest κ w a0 (fun v1 w1 => (if (lg_cmp v1 l2) = 0 then w_L_isRepaired_b191 κ w1 1 P else w_L_isRepaired_b190 κ w1  P))) else (if x6 = 0 then w_L_isRepaired_b163 κ w a0 l2 x5 x7 (fun w_ z_a0 z_l2 z_x5 z_x6 z_x7 => w_L_isRepaired_b140 n κ w_ z_a0 z_l2 z_x5 z_x6 z_x7 P) P else w_L_undo κ w a0 (fun v2 w2 => (if v2 < 0 then w_L_isRepaired_b163 κ w2 a0 l2 x5 x7 (fun w_ z_a0 z_l2 z_x5 z_x6 z_x7 => w_L_isRepaired_b140 n κ w_ z_a0 z_l2 z_x5 z_x6 z_x7 P) P else w_L_isRepaired_b164 κ w2 a0 l2 x5 x7 1 (fun w_ z_a0 z_l2 z_x5 z_x6 z_x7 => w_L_isRepaired_b140 n κ w_ z_a0 z_l2 z_x5 z_x6 z_x7 P) P))))
set_option maxRecDepth 100000 in
set_option maxHeartbeats 4000000 in
theorem k_L_isRepaired_b140 {Γ : jG} (X : jX Γ cL_isRepaired 8 RL) (hR : jgR Γ = ({ frames := 10, cells := 131, slots := 786, locals := 257 } : Room)) {P : Int32 → va_W → Prop} (Rt : jRt Γ cL_isRepaired 8 131 786 (some .boolean) (jPi P)) : ∀ (n : Nat) (hN : n ≤ 11) {w : va_W} {a0 : Nat} {l2 : Int64} {x5 : Int32} {x6 : Int32} {x7 : Int32} (h : w_L_isRepaired_b140 n (jgE Γ).2.2.2 w a0 l2 x5 x6 x7 P), J Γ 8 w (86 + (11 - n) * 1 + 0) (516 + (11 - n) * 6 + 0) 140 [(0, .ref a0), (2, .long l2), (5, .int x5), (6, .int x6), (7, .int x7)] [] := by
  intro n
  induction n with
  | zero => intro hN w a0 l2 x5 x6 x7 h; exact False.elim h
  | succ n ih =>
    intro hN w a0 l2 x5 x6 x7 h
    rw [w_L_isRepaired_b140] at h
    refine j_iload X dL_isRepaired_140 4 rfl ?_
    refine j_iload X dL_isRepaired_142 2 rfl ?_
    refine j_icmp_ge X 172 dL_isRepaired_144 (by decide) (fun c => ?_) (fun c => ?_)
    · replace h := jif_t c h
      refine j_iload X dL_isRepaired_172 3 rfl ?_
      refine j_if_eq X 190 dL_isRepaired_174 (by decide) (fun c => ?_) (fun c => ?_)
      · replace h := jif_t c h
        refine j_sub [] rfl ?_
        refine j_widen (k := 131) (n := 786) (by omega) (by omega) ?_
        exact k_L_isRepaired_b190 X hR Rt h
      · replace h := jif_f c h
        refine j_aload_n X dL_isRepaired_177 0 rfl ?_
        refine j_callSl X [.ref a0] [] (c_L_digest h) jm_L_digest jw_1212 rfl ⟨rfl, rfl⟩ (by rw [hR]; exact ⟨⟨by decide, by decide⟩, by simp only []; omega, by simp only []; omega⟩) rfl (Nat.le_of_ble_eq_true rfl) dL_isRepaired_178 (fun v1 w1 h => ?_)
        refine j_lload_n X dL_isRepaired_181 1 rfl ?_
        refine j_lcmp X dL_isRepaired_182 ?_
        refine j_if_ne X 190 dL_isRepaired_183 (by decide) (fun c => ?_) (fun c => ?_)
        · replace h := jif_f c h
          refine j_sub [] rfl ?_
          refine j_widen (k := 131) (n := 786) (by omega) (by omega) ?_
          exact k_L_isRepaired_b190 X hR Rt h
        · replace h := jif_t c h
          refine j_iconst X 1 dL_isRepaired_186 (by decide) ?_
          refine j_goto X 191 dL_isRepaired_187 (by decide) ?_
          refine j_sub [] rfl ?_
          refine j_widen (k := 131) (n := 786) (by omega) (by omega) ?_
          exact k_L_isRepaired_b191 X hR Rt h
    · replace h := jif_f c h
      refine j_iload X dL_isRepaired_147 3 rfl ?_
      refine j_if_eq X 163 dL_isRepaired_149 (by decide) (fun c => ?_) (fun c => ?_)
      · replace h := jif_t c h
        refine j_sub [0, 1, 2, 4] rfl ?_
        refine j_widen (k := (86 + (11 - (n + 1)) * 1 + 1)) (n := (516 + (11 - (n + 1)) * 6 + 6)) (by omega) (by omega) ?_
        exact k_L_isRepaired_b163 hN X hR Rt (fun _ _ _ _ _ _ h => ih (by omega) h) h
      · replace h := jif_f c h
        refine j_aload_n X dL_isRepaired_152 0 rfl ?_
        refine j_callWi X [.ref a0] [] (c_L_undo h) jmw_L_undo jw_1126 rfl ⟨rfl, rfl⟩ (by rw [hR]; exact ⟨⟨by decide, by decide⟩, by simp only []; omega, by simp only []; omega⟩) rfl (Nat.le_of_ble_eq_true rfl) dL_isRepaired_153 (fun v2 w2 h => ?_)
        refine j_if_lt X 163 dL_isRepaired_156 (by decide) (fun c => ?_) (fun c => ?_)
        · replace h := jif_t c h
          refine j_sub [0, 1, 2, 4] rfl ?_
          refine j_widen (k := (86 + (11 - (n + 1)) * 1 + 1)) (n := (516 + (11 - (n + 1)) * 6 + 6)) (by omega) (by omega) ?_
          exact k_L_isRepaired_b163 hN X hR Rt (fun _ _ _ _ _ _ h => ih (by omega) h) h
        · replace h := jif_f c h
          refine j_iconst X 1 dL_isRepaired_159 (by decide) ?_
          refine j_goto X 164 dL_isRepaired_160 (by decide) ?_
          refine j_sub [0, 1, 2, 4] rfl ?_
          refine j_widen (k := (86 + (11 - (n + 1)) * 1 + 1)) (n := (516 + (11 - (n + 1)) * 6 + 6)) (by omega) (by omega) ?_
          exact k_L_isRepaired_b164 hN X hR Rt (fun _ _ _ _ _ _ h => ih (by omega) h) h
def w_L_isRepaired_b135 (κ : Nat → Nat) (w : va_W) (a0 : Nat) (l2 : Int64) (x5 : Int32) (s0 : Int32) (P : Int32 → va_W → Prop) : Prop :=
    w_L_isRepaired_b140 11 κ w a0 l2 x5 s0 0 P
set_option maxRecDepth 100000 in
set_option maxHeartbeats 4000000 in
theorem k_L_isRepaired_b135 {Γ : jG} (X : jX Γ cL_isRepaired 8 RL) (hR : jgR Γ = ({ frames := 10, cells := 131, slots := 786, locals := 257 } : Room)) {P : Int32 → va_W → Prop} (Rt : jRt Γ cL_isRepaired 8 131 786 (some .boolean) (jPi P)) {w : va_W} {a0 : Nat} {l2 : Int64} {x5 : Int32} {s0 : Int32} (h : w_L_isRepaired_b135 (jgE Γ).2.2.2 w a0 l2 x5 s0 P) : J Γ 8 w 86 516 135 [(0, .ref a0), (2, .long l2), (5, .int x5)] [.int s0] := by
  unfold w_L_isRepaired_b135 at h
  refine j_istore X [(6, .int s0), (0, .ref a0), (2, .long l2), (5, .int x5)] dL_isRepaired_135 (by decide) rfl ?_
  refine j_iconst X 0 dL_isRepaired_137 (by decide) ?_
  refine j_istore X [(7, .int 0), (6, .int s0), (0, .ref a0), (2, .long l2), (5, .int x5)] dL_isRepaired_138 (by decide) rfl ?_
  refine j_sub [2, 3, 4, 1, 0] rfl ?_
  refine j_widen (k := (86 + (11 - 11) * 1 + 0)) (n := (516 + (11 - 11) * 6 + 0)) (by omega) (by omega) ?_
  exact k_L_isRepaired_b140 X hR Rt _ (Nat.le_refl _) h
def w_L_isRepaired_b130 (κ : Nat → Nat) (w : va_W) (a0 : Nat) (l2 : Int64) (x5 : Int32) (P : Int32 → va_W → Prop) : Prop :=
    w_L_isRepaired_b135 κ w a0 l2 x5 1 P
set_option maxRecDepth 100000 in
set_option maxHeartbeats 4000000 in
theorem k_L_isRepaired_b130 {Γ : jG} (X : jX Γ cL_isRepaired 8 RL) (hR : jgR Γ = ({ frames := 10, cells := 131, slots := 786, locals := 257 } : Room)) {P : Int32 → va_W → Prop} (Rt : jRt Γ cL_isRepaired 8 131 786 (some .boolean) (jPi P)) {w : va_W} {a0 : Nat} {l2 : Int64} {x5 : Int32} (h : w_L_isRepaired_b130 (jgE Γ).2.2.2 w a0 l2 x5 P) : J Γ 8 w 86 516 130 [(0, .ref a0), (2, .long l2), (5, .int x5)] [] := by
  unfold w_L_isRepaired_b130 at h
  refine j_iconst X 1 dL_isRepaired_130 (by decide) ?_
  refine j_goto X 135 dL_isRepaired_131 (by decide) ?_
  refine j_widen (k := 86) (n := 516) (by omega) (by omega) ?_
  exact k_L_isRepaired_b135 X hR Rt h
def w_L_isRepaired_b134 (κ : Nat → Nat) (w : va_W) (a0 : Nat) (l2 : Int64) (x5 : Int32) (P : Int32 → va_W → Prop) : Prop :=
    w_L_isRepaired_b135 κ w a0 l2 x5 0 P
set_option maxRecDepth 100000 in
set_option maxHeartbeats 4000000 in
theorem k_L_isRepaired_b134 {Γ : jG} (X : jX Γ cL_isRepaired 8 RL) (hR : jgR Γ = ({ frames := 10, cells := 131, slots := 786, locals := 257 } : Room)) {P : Int32 → va_W → Prop} (Rt : jRt Γ cL_isRepaired 8 131 786 (some .boolean) (jPi P)) {w : va_W} {a0 : Nat} {l2 : Int64} {x5 : Int32} (h : w_L_isRepaired_b134 (jgE Γ).2.2.2 w a0 l2 x5 P) : J Γ 8 w 86 516 134 [(0, .ref a0), (2, .long l2), (5, .int x5)] [] := by
  unfold w_L_isRepaired_b134 at h
  refine j_iconst X 0 dL_isRepaired_134 (by decide) ?_
  refine j_widen (k := 86) (n := 516) (by omega) (by omega) ?_
  exact k_L_isRepaired_b135 X hR Rt h
def w_L_isRepaired_b103 (κ : Nat → Nat) (w : va_W) (a0 : Nat) (x1 : Int32) (l2 : Int64) (x4 : Int32) (x5 : Int32) (x6 : Int32) (P : Int32 → va_W → Prop) : Prop :=
    (if 8 < x4 then w_L_isRepaired_b130 κ w a0 l2 x5 P else (if x6 = 0 then w_L_isRepaired_b134 κ w a0 l2 x5 P else (if x5 = x4 then (jRc w a0 11 ∧ w_X8_isBranchValidZ κ w a0 x1 (fun v1 w1 => (if v1 = 0 then w_L_isRepaired_b134 κ w1 a0 l2 x5 P else w_L_isRepaired_b130 κ w1 a0 l2 x5 P))) else w_L_isRepaired_b134 κ w a0 l2 x5 P)))
set_option maxRecDepth 100000 in
set_option maxHeartbeats 4000000 in
theorem k_L_isRepaired_b103 {Γ : jG} (X : jX Γ cL_isRepaired 8 RL) (hR : jgR Γ = ({ frames := 10, cells := 131, slots := 786, locals := 257 } : Room)) {P : Int32 → va_W → Prop} (Rt : jRt Γ cL_isRepaired 8 131 786 (some .boolean) (jPi P)) {w : va_W} {a0 : Nat} {x1 : Int32} {l2 : Int64} {x4 : Int32} {x5 : Int32} {x6 : Int32} (h : w_L_isRepaired_b103 (jgE Γ).2.2.2 w a0 x1 l2 x4 x5 x6 P) : J Γ 8 w 86 516 103 [(0, .ref a0), (1, .int x1), (2, .long l2), (4, .int x4), (5, .int x5), (6, .int x6)] [] := by
  unfold w_L_isRepaired_b103 at h
  refine j_iload X dL_isRepaired_103 3 rfl ?_
  refine j_bipush X 8 dL_isRepaired_105 (by decide) ?_
  refine j_icmp_gt X 130 dL_isRepaired_107 (by decide) (fun c => ?_) (fun c => ?_)
  · replace h := jif_t c h
    refine j_sub [0, 2, 4] rfl ?_
    refine j_widen (k := 86) (n := 516) (by omega) (by omega) ?_
    exact k_L_isRepaired_b130 X hR Rt h
  · replace h := jif_f c h
    refine j_iload X dL_isRepaired_110 5 rfl ?_
    refine j_if_eq X 134 dL_isRepaired_112 (by decide) (fun c => ?_) (fun c => ?_)
    · replace h := jif_t c h
      refine j_sub [0, 2, 4] rfl ?_
      refine j_widen (k := 86) (n := 516) (by omega) (by omega) ?_
      exact k_L_isRepaired_b134 X hR Rt h
    · replace h := jif_f c h
      refine j_iload X dL_isRepaired_115 4 rfl ?_
      refine j_iload X dL_isRepaired_117 3 rfl ?_
      refine j_icmp_ne X 134 dL_isRepaired_119 (by decide) (fun c => ?_) (fun c => ?_)
      · replace h := jif_f c h
        refine j_sub [0, 2, 4] rfl ?_
        refine j_widen (k := 86) (n := 516) (by omega) (by omega) ?_
        exact k_L_isRepaired_b134 X hR Rt h
      · replace h := jif_t c h
        refine j_aload_n X dL_isRepaired_122 0 rfl ?_
        refine j_iload_n X dL_isRepaired_123 1 rfl ?_
        obtain ⟨⟨fs1, g1⟩, h⟩ := h
        refine j_callVi X [.int x1] [] (c_X8_isBranchValidZ h) (T := TX8) (N := 11) g1 rfl jm_X8_isBranchValid jw_1346 rfl ⟨rfl, rfl⟩ (by rw [hR]; decide) rfl (Nat.le_of_ble_eq_true rfl) dL_isRepaired_124 (fun v1 w1 h => ?_)
        refine j_if_eq X 134 dL_isRepaired_127 (by decide) (fun c => ?_) (fun c => ?_)
        · replace h := jif_t c h
          refine j_sub [0, 2, 4] rfl ?_
          refine j_widen (k := 86) (n := 516) (by omega) (by omega) ?_
          exact k_L_isRepaired_b134 X hR Rt h
        · replace h := jif_f c h
          refine j_sub [0, 2, 4] rfl ?_
          refine j_widen (k := 86) (n := 516) (by omega) (by omega) ?_
          exact k_L_isRepaired_b130 X hR Rt h
def w_L_isRepaired_b95 (κ : Nat → Nat) (w : va_W) (a0 : Nat) (x1 : Int32) (l2 : Int64) (x4 : Int32) (x5 : Int32) (s0 : Int32) (K29 : va_W → Nat → Int32 → Int64 → Int32 → Int32 → Int32 → Prop) (P : Int32 → va_W → Prop) : Prop :=
    K29 w a0 x1 l2 x4 (x5 + 1) s0
set_option maxRecDepth 100000 in
set_option maxHeartbeats 4000000 in
theorem k_L_isRepaired_b95 {N : Nat} (hN : N + 1 ≤ 10) {Γ : jG} (X : jX Γ cL_isRepaired 8 RL) (hR : jgR Γ = ({ frames := 10, cells := 131, slots := 786, locals := 257 } : Room)) {P : Int32 → va_W → Prop} (Rt : jRt Γ cL_isRepaired 8 131 786 (some .boolean) (jPi P)) {K29 : va_W → Nat → Int32 → Int64 → Int32 → Int32 → Int32 → Prop} (hK29 : ∀ (w : va_W) (a0 : Nat) (x1 : Int32) (l2 : Int64) (x4 : Int32) (x5 : Int32) (x6 : Int32), K29 w a0 x1 l2 x4 x5 x6 → J Γ 8 w (34 + (10 - N) * 5 + 0) (204 + (10 - N) * 30 + 0) 29 [(0, .ref a0), (1, .int x1), (2, .long l2), (4, .int x4), (5, .int x5), (6, .int x6)] []) {w : va_W} {a0 : Nat} {x1 : Int32} {l2 : Int64} {x4 : Int32} {x5 : Int32} {s0 : Int32} (h : w_L_isRepaired_b95 (jgE Γ).2.2.2 w a0 x1 l2 x4 x5 s0 K29 P) : J Γ 8 w (34 + (10 - (N + 1)) * 5 + 5) (204 + (10 - (N + 1)) * 30 + 30) 95 [(0, .ref a0), (1, .int x1), (2, .long l2), (4, .int x4), (5, .int x5)] [.int s0] := by
  unfold w_L_isRepaired_b95 at h
  refine j_istore X [(6, .int s0), (0, .ref a0), (1, .int x1), (2, .long l2), (4, .int x4), (5, .int x5)] dL_isRepaired_95 (by decide) rfl ?_
  refine j_iinc X (x5 + 1) [(5, .int (x5 + 1)), (6, .int s0), (0, .ref a0), (1, .int x1), (2, .long l2), (4, .int x4)] dL_isRepaired_97 5 rfl rfl (by decide) rfl ?_
  refine j_goto X 29 dL_isRepaired_100 (by decide) ?_
  refine j_sub [2, 3, 4, 5, 0, 1] rfl ?_
  refine j_widen (k := (34 + (10 - N) * 5 + 0)) (n := (204 + (10 - N) * 30 + 0)) (by omega) (by omega) ?_
  exact hK29 _ _ _ _ _ _ _ h
def w_L_isRepaired_b94 (κ : Nat → Nat) (w : va_W) (a0 : Nat) (x1 : Int32) (l2 : Int64) (x4 : Int32) (x5 : Int32) (K29 : va_W → Nat → Int32 → Int64 → Int32 → Int32 → Int32 → Prop) (P : Int32 → va_W → Prop) : Prop :=
    w_L_isRepaired_b95 κ w a0 x1 l2 x4 x5 0 K29 P
set_option maxRecDepth 100000 in
set_option maxHeartbeats 4000000 in
theorem k_L_isRepaired_b94 {N : Nat} (hN : N + 1 ≤ 10) {Γ : jG} (X : jX Γ cL_isRepaired 8 RL) (hR : jgR Γ = ({ frames := 10, cells := 131, slots := 786, locals := 257 } : Room)) {P : Int32 → va_W → Prop} (Rt : jRt Γ cL_isRepaired 8 131 786 (some .boolean) (jPi P)) {K29 : va_W → Nat → Int32 → Int64 → Int32 → Int32 → Int32 → Prop} (hK29 : ∀ (w : va_W) (a0 : Nat) (x1 : Int32) (l2 : Int64) (x4 : Int32) (x5 : Int32) (x6 : Int32), K29 w a0 x1 l2 x4 x5 x6 → J Γ 8 w (34 + (10 - N) * 5 + 0) (204 + (10 - N) * 30 + 0) 29 [(0, .ref a0), (1, .int x1), (2, .long l2), (4, .int x4), (5, .int x5), (6, .int x6)] []) {w : va_W} {a0 : Nat} {x1 : Int32} {l2 : Int64} {x4 : Int32} {x5 : Int32} (h : w_L_isRepaired_b94 (jgE Γ).2.2.2 w a0 x1 l2 x4 x5 K29 P) : J Γ 8 w (34 + (10 - (N + 1)) * 5 + 5) (204 + (10 - (N + 1)) * 30 + 30) 94 [(0, .ref a0), (1, .int x1), (2, .long l2), (4, .int x4), (5, .int x5)] [] := by
  unfold w_L_isRepaired_b94 at h
  refine j_iconst X 0 dL_isRepaired_94 (by decide) ?_
  refine j_widen (k := (34 + (10 - (N + 1)) * 5 + 5)) (n := (204 + (10 - (N + 1)) * 30 + 30)) (by omega) (by omega) ?_
  exact k_L_isRepaired_b95 hN X hR Rt hK29 h
def w_L_isRepaired_b29 : Nat → (κ : Nat → Nat) → (w : va_W) → (a0 : Nat) → (x1 : Int32) → (l2 : Int64) → (x4 : Int32) → (x5 : Int32) → (x6 : Int32) → (P : Int32 → va_W → Prop) → Prop
  | 0, _, _, _, _, _, _, _, _, _ => False
  | n + 1, κ, w, a0, x1, l2, x4, x5, x6, P =>
    (if 8 < x4 then w_L_isRepaired_b103 κ w a0 x1 l2 x4 x5 x6 P else (if x6 = 0 then w_L_isRepaired_b103 κ w a0 x1 l2 x4 x5 x6 P else w_L_firstInvalid κ w a0 x1 (fun v1 w1 => (if v1 = (-1000) then w_L_isRepaired_b103 κ w1 a0 x1 l2 x4 x5 x6 P else w_L_firstInvalid κ w1 a0 x1 (fun v2 w2 => (if x4 ≤ x5 then w_L_isRepaired_b94 κ w2 a0 x1 l2 x4 x5 (fun w_ z_a0 z_x1 z_l2 z_x4 z_x5 z_x6 => w_L_isRepaired_b29 n κ w_ z_a0 z_x1 z_l2 z_x4 z_x5 z_x6 P) P else w_L_repair κ w2 a0 v2 (fun v3 w3 => (jRc w3 a0 11 ∧ w_X8_hashOfZ κ w3 a0 v2 (fun v4 w4 => (if v3 = v4 then (jRc w4 a0 11 ∧ w_X8_isValidZ κ w4 a0 v2 (fun v5 w5 => (if v5 = 0 then w_L_isRepaired_b94 κ w5 a0 x1 l2 x4 x5 (fun w_ z_a0 z_x1 z_l2 z_x4 z_x5 z_x6 => w_L_isRepaired_b29 n κ w_ z_a0 z_x1 z_l2 z_x4 z_x5 z_x6 P) P else w_L_isRepaired_b95 κ w5 a0 x1 l2 x4 x5 1 (fun w_ z_a0 z_x1 z_l2 z_x4 z_x5 z_x6 => w_L_isRepaired_b29 n κ w_ z_a0 z_x1 z_l2 z_x4 z_x5 z_x6 P) P))) else w_L_isRepaired_b94 κ w4 a0 x1 l2 x4 x5 (fun w_ z_a0 z_x1 z_l2 z_x4 z_x5 z_x6 => w_L_isRepaired_b29 n κ w_ z_a0 z_x1 z_l2 z_x4 z_x5 z_x6 P) P))))))))))
set_option maxRecDepth 100000 in
set_option maxHeartbeats 4000000 in
theorem k_L_isRepaired_b29 {Γ : jG} (X : jX Γ cL_isRepaired 8 RL) (hR : jgR Γ = ({ frames := 10, cells := 131, slots := 786, locals := 257 } : Room)) {P : Int32 → va_W → Prop} (Rt : jRt Γ cL_isRepaired 8 131 786 (some .boolean) (jPi P)) : ∀ (n : Nat) (hN : n ≤ 10) {w : va_W} {a0 : Nat} {x1 : Int32} {l2 : Int64} {x4 : Int32} {x5 : Int32} {x6 : Int32} (h : w_L_isRepaired_b29 n (jgE Γ).2.2.2 w a0 x1 l2 x4 x5 x6 P), J Γ 8 w (34 + (10 - n) * 5 + 0) (204 + (10 - n) * 30 + 0) 29 [(0, .ref a0), (1, .int x1), (2, .long l2), (4, .int x4), (5, .int x5), (6, .int x6)] [] := by
  intro n
  induction n with
  | zero => intro hN w a0 x1 l2 x4 x5 x6 h; exact False.elim h
  | succ n ih =>
    intro hN w a0 x1 l2 x4 x5 x6 h
    rw [w_L_isRepaired_b29] at h
    refine j_iload X dL_isRepaired_29 3 rfl ?_
    refine j_bipush X 8 dL_isRepaired_31 (by decide) ?_
    refine j_icmp_gt X 103 dL_isRepaired_33 (by decide) (fun c => ?_) (fun c => ?_)
    · replace h := jif_t c h
      refine j_widen (k := 86) (n := 516) (by omega) (by omega) ?_
      exact k_L_isRepaired_b103 X hR Rt h
    · replace h := jif_f c h
      refine j_iload X dL_isRepaired_36 5 rfl ?_
      refine j_if_eq X 103 dL_isRepaired_38 (by decide) (fun c => ?_) (fun c => ?_)
      · replace h := jif_t c h
        refine j_widen (k := 86) (n := 516) (by omega) (by omega) ?_
        exact k_L_isRepaired_b103 X hR Rt h
      · replace h := jif_f c h
        refine j_aload_n X dL_isRepaired_41 0 rfl ?_
        refine j_iload_n X dL_isRepaired_42 1 rfl ?_
        refine j_callWi X [.ref a0, .int x1] [] (c_L_firstInvalid h) jmw_L_firstInvalid jw_1382 rfl ⟨rfl, rfl⟩ (by rw [hR]; exact ⟨⟨by decide, by decide⟩, by simp only []; omega, by simp only []; omega⟩) rfl (Nat.le_of_ble_eq_true rfl) dL_isRepaired_43 (fun v1 w1 h => ?_)
        refine j_sipush X (-1000) dL_isRepaired_46 (by decide) ?_
        refine j_icmp_eq X 103 dL_isRepaired_49 (by decide) (fun c => ?_) (fun c => ?_)
        · replace h := jif_t c h
          refine j_widen (k := 86) (n := 516) (by omega) (by omega) ?_
          exact k_L_isRepaired_b103 X hR Rt h
        · replace h := jif_f c h
          refine j_aload_n X dL_isRepaired_52 0 rfl ?_
          refine j_iload_n X dL_isRepaired_53 1 rfl ?_
          refine j_callWi X [.ref a0, .int x1] [] (c_L_firstInvalid h) jmw_L_firstInvalid jw_1382 rfl ⟨rfl, rfl⟩ (by rw [hR]; exact ⟨⟨by decide, by decide⟩, by simp only []; omega, by simp only []; omega⟩) rfl (Nat.le_of_ble_eq_true rfl) dL_isRepaired_54 (fun v2 w2 h => ?_)
          refine j_istore X [(7, .int v2), (0, .ref a0), (1, .int x1), (2, .long l2), (4, .int x4), (5, .int x5), (6, .int x6)] dL_isRepaired_57 (by decide) rfl ?_
          refine j_iload X dL_isRepaired_59 5 rfl ?_
          refine j_iload X dL_isRepaired_61 4 rfl ?_
          refine j_icmp_ge X 94 dL_isRepaired_63 (by decide) (fun c => ?_) (fun c => ?_)
          · replace h := jif_t c h
            refine j_sub [1, 2, 3, 4, 5] rfl ?_
            refine j_widen (k := (34 + (10 - (n + 1)) * 5 + 5)) (n := (204 + (10 - (n + 1)) * 30 + 30)) (by omega) (by omega) ?_
            exact k_L_isRepaired_b94 hN X hR Rt (fun _ _ _ _ _ _ _ h => ih (by omega) h) h
          · replace h := jif_f c h
            refine j_aload_n X dL_isRepaired_66 1 rfl ?_
            refine j_iload X dL_isRepaired_67 0 rfl ?_
            refine j_callWi X [.ref a0, .int v2] [] (c_L_repair h) jmw_L_repair jw_1192 rfl ⟨rfl, rfl⟩ (by rw [hR]; exact ⟨⟨by decide, by decide⟩, by simp only []; omega, by simp only []; omega⟩) rfl (Nat.le_of_ble_eq_true rfl) dL_isRepaired_69 (fun v3 w3 h => ?_)
            refine j_aload_n X dL_isRepaired_72 1 rfl ?_
            refine j_iload X dL_isRepaired_73 0 rfl ?_
            obtain ⟨⟨fs4, g4⟩, h⟩ := h
            refine j_callVi X [.int v2] [.int v3] (c_X8_hashOfZ h) (T := TX8) (N := 11) g4 rfl jm_X8_hashOf jw_1274 rfl ⟨rfl, rfl⟩ (by rw [hR]; exact ⟨⟨by decide, by decide⟩, by simp only []; omega, by simp only []; omega⟩) rfl (Nat.le_of_ble_eq_true rfl) dL_isRepaired_75 (fun v4 w4 h => ?_)
            refine j_icmp_ne X 94 dL_isRepaired_78 (by decide) (fun c => ?_) (fun c => ?_)
            · replace h := jif_f c h
              refine j_sub [1, 2, 3, 4, 5] rfl ?_
              refine j_widen (k := (34 + (10 - (n + 1)) * 5 + 5)) (n := (204 + (10 - (n + 1)) * 30 + 30)) (by omega) (by omega) ?_
              exact k_L_isRepaired_b94 hN X hR Rt (fun _ _ _ _ _ _ _ h => ih (by omega) h) h
            · replace h := jif_t c h
              refine j_aload_n X dL_isRepaired_81 1 rfl ?_
              refine j_iload X dL_isRepaired_82 0 rfl ?_
              obtain ⟨⟨fs5, g5⟩, h⟩ := h
              refine j_callVi X [.int v2] [] (c_X8_isValidZ h) (T := TX8) (N := 11) g5 rfl jm_X8_isValid jw_1359 rfl ⟨rfl, rfl⟩ (by rw [hR]; exact ⟨⟨by decide, by decide⟩, by simp only []; omega, by simp only []; omega⟩) rfl (Nat.le_of_ble_eq_true rfl) dL_isRepaired_84 (fun v5 w5 h => ?_)
              refine j_if_eq X 94 dL_isRepaired_87 (by decide) (fun c => ?_) (fun c => ?_)
              · replace h := jif_t c h
                refine j_sub [1, 2, 3, 4, 5] rfl ?_
                refine j_widen (k := (34 + (10 - (n + 1)) * 5 + 5)) (n := (204 + (10 - (n + 1)) * 30 + 30)) (by omega) (by omega) ?_
                exact k_L_isRepaired_b94 hN X hR Rt (fun _ _ _ _ _ _ _ h => ih (by omega) h) h
              · replace h := jif_f c h
                refine j_iconst X 1 dL_isRepaired_90 (by decide) ?_
                refine j_goto X 95 dL_isRepaired_91 (by decide) ?_
                refine j_sub [1, 2, 3, 4, 5] rfl ?_
                refine j_widen (k := (34 + (10 - (n + 1)) * 5 + 5)) (n := (204 + (10 - (n + 1)) * 30 + 30)) (by omega) (by omega) ?_
                exact k_L_isRepaired_b95 hN X hR Rt (fun _ _ _ _ _ _ _ h => ih (by omega) h) h
def w_L_isRepaired_b27 (κ : Nat → Nat) (w : va_W) (a0 : Nat) (x1 : Int32) (l2 : Int64) (x4 : Int32) (x5 : Int32) (s0 : Int32) (P : Int32 → va_W → Prop) : Prop :=
    w_L_isRepaired_b29 10 κ w a0 x1 l2 x4 x5 s0 P
set_option maxRecDepth 100000 in
set_option maxHeartbeats 4000000 in
theorem k_L_isRepaired_b27 {Γ : jG} (X : jX Γ cL_isRepaired 8 RL) (hR : jgR Γ = ({ frames := 10, cells := 131, slots := 786, locals := 257 } : Room)) {P : Int32 → va_W → Prop} (Rt : jRt Γ cL_isRepaired 8 131 786 (some .boolean) (jPi P)) {w : va_W} {a0 : Nat} {x1 : Int32} {l2 : Int64} {x4 : Int32} {x5 : Int32} {s0 : Int32} (h : w_L_isRepaired_b27 (jgE Γ).2.2.2 w a0 x1 l2 x4 x5 s0 P) : J Γ 8 w 34 204 27 [(0, .ref a0), (1, .int x1), (2, .long l2), (4, .int x4), (5, .int x5)] [.int s0] := by
  unfold w_L_isRepaired_b27 at h
  refine j_istore X [(6, .int s0), (0, .ref a0), (1, .int x1), (2, .long l2), (4, .int x4), (5, .int x5)] dL_isRepaired_27 (by decide) rfl ?_
  refine j_sub [1, 2, 3, 4, 5, 0] rfl ?_
  refine j_widen (k := (34 + (10 - 10) * 5 + 0)) (n := (204 + (10 - 10) * 30 + 0)) (by omega) (by omega) ?_
  exact k_L_isRepaired_b29 X hR Rt _ (Nat.le_refl _) h
def w_L_isRepaired_b0 (κ : Nat → Nat) (w : va_W) (a0 : Nat) (x1 : Int32) (P : Int32 → va_W → Prop) : Prop :=
    w_L_digest κ w a0 (fun v1 w1 => (jRc w1 a0 11 ∧ w_X8_repairsNeededZ κ w1 a0 x1 (fun v2 w2 => (if 8 < v2 then w_L_isRepaired_b27 κ w2 a0 x1 v1 v2 0 0 P else w_L_isRepaired_b27 κ w2 a0 x1 v1 v2 0 1 P))))
set_option maxRecDepth 100000 in
set_option maxHeartbeats 4000000 in
theorem k_L_isRepaired_b0 {Γ : jG} (X : jX Γ cL_isRepaired 8 RL) (hR : jgR Γ = ({ frames := 10, cells := 131, slots := 786, locals := 257 } : Room)) {P : Int32 → va_W → Prop} (Rt : jRt Γ cL_isRepaired 8 131 786 (some .boolean) (jPi P)) {w : va_W} {a0 : Nat} {x1 : Int32} (h : w_L_isRepaired_b0 (jgE Γ).2.2.2 w a0 x1 P) : J Γ 8 w 0 0 0 [(0, .ref a0), (1, .int x1)] [] := by
  unfold w_L_isRepaired_b0 at h
  refine j_aload_n X dL_isRepaired_0 0 rfl ?_
  refine j_callSl X [.ref a0] [] (c_L_digest h) jm_L_digest jw_1212 rfl ⟨rfl, rfl⟩ (by rw [hR]; decide) rfl (Nat.le_of_ble_eq_true rfl) dL_isRepaired_1 (fun v1 w1 h => ?_)
  refine j_lstore_n X [(2, .long v1), (0, .ref a0), (1, .int x1)] dL_isRepaired_4 (by decide) rfl ?_
  refine j_aload_n X dL_isRepaired_5 1 rfl ?_
  refine j_iload_n X dL_isRepaired_6 2 rfl ?_
  obtain ⟨⟨fs2, g2⟩, h⟩ := h
  refine j_callVi X [.int x1] [] (c_X8_repairsNeededZ h) (T := TX8) (N := 11) g2 rfl jm_X8_repairsNeeded jw_1418 rfl ⟨rfl, rfl⟩ (by rw [hR]; decide) rfl (Nat.le_of_ble_eq_true rfl) dL_isRepaired_7 (fun v2 w2 h => ?_)
  refine j_istore X [(4, .int v2), (2, .long v1), (0, .ref a0), (1, .int x1)] dL_isRepaired_10 (by decide) rfl ?_
  refine j_iconst X 0 dL_isRepaired_12 (by decide) ?_
  refine j_istore X [(5, .int 0), (4, .int v2), (2, .long v1), (0, .ref a0), (1, .int x1)] dL_isRepaired_13 (by decide) rfl ?_
  refine j_iload X dL_isRepaired_15 1 rfl ?_
  refine j_bipush X 8 dL_isRepaired_17 (by decide) ?_
  refine j_icmp_gt X 26 dL_isRepaired_19 (by decide) (fun c => ?_) (fun c => ?_)
  · replace h := jif_t c h
    refine j_iconst X 0 dL_isRepaired_26 (by decide) ?_
    refine j_sub [3, 4, 2, 1, 0] rfl ?_
    refine j_widen (k := 34) (n := 204) (by omega) (by omega) ?_
    exact k_L_isRepaired_b27 X hR Rt h
  · replace h := jif_f c h
    refine j_iconst X 1 dL_isRepaired_22 (by decide) ?_
    refine j_goto X 27 dL_isRepaired_23 (by decide) ?_
    refine j_sub [3, 4, 2, 1, 0] rfl ?_
    refine j_widen (k := 34) (n := 204) (by omega) (by omega) ?_
    exact k_L_isRepaired_b27 X hR Rt h
def w_L_isRepaired (κ : Nat → Nat) (w : va_W) (a0 : Nat) (x1 : Int32) (P : Int32 → va_W → Prop) : Prop := w_L_isRepaired_b0 κ w a0 x1 P
theorem c_L_isRepaired {E : jE} {w : va_W} {a0 : Nat} {x1 : Int32} {P : Int32 → va_W → Prop} (h : w_L_isRepaired E.2.2.2 w a0 x1 P) : jC E yL_isRepaired cL_isRepaired 8 (some .boolean) ({ frames := 10, cells := 131, slots := 786, locals := 257 } : Room) [.ref a0, .int x1] w 131 786 (jPi P) := by
  refine jC_of (by decide) (Nat.le_of_ble_eq_true rfl) ?_
  intro Γ X hE hR Rt
  subst hE
  exact k_L_isRepaired_b0 X hR Rt h
theorem jm_L_isFit : jMs yL_isFit cL_isFit 3 (some .boolean) 1 := ⟨jw_1535, jw_21, jw_1536, ⟨by decide +kernel, by decide +kernel⟩, by decide +kernel⟩
def w_L_isFit_b81 (κ : Nat → Nat) (w : va_W) (x1 : Int32) (P : Int32 → va_W → Prop) : Prop :=
    (narrow .boolean (.int x1) = .int x1 ∧ P x1 w)
set_option maxRecDepth 100000 in
set_option maxHeartbeats 4000000 in
theorem k_L_isFit_b81 {Γ : jG} (X : jX Γ cL_isFit 3 RL) (hR : jgR Γ = ({ frames := 26, cells := 5140, slots := 498850, locals := 649 } : Room)) {P : Int32 → va_W → Prop} (Rt : jRt Γ cL_isFit 3 5140 498850 (some .boolean) (jPi P)) {w : va_W} {x1 : Int32} (h : w_L_isFit_b81 (jgE Γ).2.2.2 w x1 P) : J Γ 3 w 5140 498850 81 [(1, .int x1)] [] := by
  unfold w_L_isFit_b81 at h
  refine j_iload_n X dL_isFit_81 0 rfl ?_
  exact Rt.z dL_isFit_82 h.1 ⟨_, rfl, h.2⟩ (by first | decide | omega) (by first | decide | omega)
def w_L_isFit_b74 (κ : Nat → Nat) (w : va_W) (a0 : Nat) (x2 : Int32) (s0 : Int32) (K33 : va_W → Nat → Int32 → Int32 → Prop) (P : Int32 → va_W → Prop) : Prop :=
    K33 w a0 s0 (x2 + 2)
set_option maxRecDepth 100000 in
set_option maxHeartbeats 4000000 in
theorem k_L_isFit_b74 {N : Nat} (hN : N + 1 ≤ 9) {Γ : jG} (X : jX Γ cL_isFit 3 RL) (hR : jgR Γ = ({ frames := 26, cells := 5140, slots := 498850, locals := 649 } : Room)) {P : Int32 → va_W → Prop} (Rt : jRt Γ cL_isFit 3 5140 498850 (some .boolean) (jPi P)) {K33 : va_W → Nat → Int32 → Int32 → Prop} (hK33 : ∀ (w : va_W) (a0 : Nat) (x1 : Int32) (x2 : Int32), K33 w a0 x1 x2 → J Γ 3 w (3313 + (9 - N) * 203 + 0) (487906 + (9 - N) * 1216 + 0) 33 [(0, .ref a0), (1, .int x1), (2, .int x2)] []) {w : va_W} {a0 : Nat} {x2 : Int32} {s0 : Int32} (h : w_L_isFit_b74 (jgE Γ).2.2.2 w a0 x2 s0 K33 P) : J Γ 3 w (3313 + (9 - (N + 1)) * 203 + 203) (487906 + (9 - (N + 1)) * 1216 + 1216) 74 [(0, .ref a0), (2, .int x2)] [.int s0] := by
  unfold w_L_isFit_b74 at h
  refine j_istore_n X [(1, .int s0), (0, .ref a0), (2, .int x2)] dL_isFit_74 (by decide) rfl ?_
  refine j_iinc X (x2 + 2) [(2, .int (x2 + 2)), (1, .int s0), (0, .ref a0)] dL_isFit_75 2 rfl rfl (by decide) rfl ?_
  refine j_goto X 33 dL_isFit_78 (by decide) ?_
  refine j_sub [2, 1, 0] rfl ?_
  refine j_widen (k := (3313 + (9 - N) * 203 + 0)) (n := (487906 + (9 - N) * 1216 + 0)) (by omega) (by omega) ?_
  exact hK33 _ _ _ _ h
def w_L_isFit_b73 (κ : Nat → Nat) (w : va_W) (a0 : Nat) (x2 : Int32) (K33 : va_W → Nat → Int32 → Int32 → Prop) (P : Int32 → va_W → Prop) : Prop :=
    w_L_isFit_b74 κ w a0 x2 0 K33 P
set_option maxRecDepth 100000 in
set_option maxHeartbeats 4000000 in
theorem k_L_isFit_b73 {N : Nat} (hN : N + 1 ≤ 9) {Γ : jG} (X : jX Γ cL_isFit 3 RL) (hR : jgR Γ = ({ frames := 26, cells := 5140, slots := 498850, locals := 649 } : Room)) {P : Int32 → va_W → Prop} (Rt : jRt Γ cL_isFit 3 5140 498850 (some .boolean) (jPi P)) {K33 : va_W → Nat → Int32 → Int32 → Prop} (hK33 : ∀ (w : va_W) (a0 : Nat) (x1 : Int32) (x2 : Int32), K33 w a0 x1 x2 → J Γ 3 w (3313 + (9 - N) * 203 + 0) (487906 + (9 - N) * 1216 + 0) 33 [(0, .ref a0), (1, .int x1), (2, .int x2)] []) {w : va_W} {a0 : Nat} {x2 : Int32} (h : w_L_isFit_b73 (jgE Γ).2.2.2 w a0 x2 K33 P) : J Γ 3 w (3313 + (9 - (N + 1)) * 203 + 203) (487906 + (9 - (N + 1)) * 1216 + 1216) 73 [(0, .ref a0), (2, .int x2)] [] := by
  unfold w_L_isFit_b73 at h
  refine j_iconst X 0 dL_isFit_73 (by decide) ?_
  refine j_widen (k := (3313 + (9 - (N + 1)) * 203 + 203)) (n := (487906 + (9 - (N + 1)) * 1216 + 1216)) (by omega) (by omega) ?_
  exact k_L_isFit_b74 hN X hR Rt hK33 h
def w_L_isFit_b33 : Nat → (κ : Nat → Nat) → (w : va_W) → (a0 : Nat) → (x1 : Int32) → (x2 : Int32) → (P : Int32 → va_W → Prop) → Prop
  | 0, _, _, _, _, _, _ => False
  | n + 1, κ, w, a0, x1, x2, P =>
    (if x1 = 0 then w_L_isFit_b81 κ w x1 P else (jRc w a0 11 ∧ w_X8_blockCount κ w a0 (fun v1 w1 => (if v1 ≤ x2 then w_L_isFit_b81 κ w1 x1 P else w_L_blockAt κ w1 a0 x2 (fun v2 w2 => w_L_isMelted κ w2 a0 v2 (fun v3 w3 => (if v3 = 0 then w_L_isFit_b73 κ w3 a0 x2 (fun w_ z_a0 z_x1 z_x2 => w_L_isFit_b33 n κ w_ z_a0 z_x1 z_x2 P) P else w_L_blockAt κ w3 a0 x2 (fun v4 w4 => w_L_isRepaired κ w4 a0 v4 (fun v5 w5 => (if v5 = 0 then w_L_isFit_b73 κ w5 a0 x2 (fun w_ z_a0 z_x1 z_x2 => w_L_isFit_b33 n κ w_ z_a0 z_x1 z_x2 P) P else w_L_isFit_b74 κ w5 a0 x2 1 (fun w_ z_a0 z_x1 z_x2 => w_L_isFit_b33 n κ w_ z_a0 z_x1 z_x2 P) P))))))))))
set_option maxRecDepth 100000 in
set_option maxHeartbeats 4000000 in
theorem k_L_isFit_b33 {Γ : jG} (X : jX Γ cL_isFit 3 RL) (hR : jgR Γ = ({ frames := 26, cells := 5140, slots := 498850, locals := 649 } : Room)) {P : Int32 → va_W → Prop} (Rt : jRt Γ cL_isFit 3 5140 498850 (some .boolean) (jPi P)) : ∀ (n : Nat) (hN : n ≤ 9) {w : va_W} {a0 : Nat} {x1 : Int32} {x2 : Int32} (h : w_L_isFit_b33 n (jgE Γ).2.2.2 w a0 x1 x2 P), J Γ 3 w (3313 + (9 - n) * 203 + 0) (487906 + (9 - n) * 1216 + 0) 33 [(0, .ref a0), (1, .int x1), (2, .int x2)] [] := by
  intro n
  induction n with
  | zero => intro hN w a0 x1 x2 h; exact False.elim h
  | succ n ih =>
    intro hN w a0 x1 x2 h
    rw [w_L_isFit_b33] at h
    refine j_iload_n X dL_isFit_33 1 rfl ?_
    refine j_if_eq X 81 dL_isFit_34 (by decide) (fun c => ?_) (fun c => ?_)
    · replace h := jif_t c h
      refine j_sub [1] rfl ?_
      refine j_widen (k := 5140) (n := 498850) (by omega) (by omega) ?_
      exact k_L_isFit_b81 X hR Rt h
    · replace h := jif_f c h
      refine j_iload_n X dL_isFit_37 2 rfl ?_
      refine j_aload_n X dL_isFit_38 0 rfl ?_
      obtain ⟨⟨fs1, g1⟩, h⟩ := h
      refine j_callVi X [] [.int x2] (c_X8_blockCount h) (T := TX8) (N := 11) g1 rfl jm_X8_blockCount jw_1250 rfl ⟨rfl, rfl⟩ (by rw [hR]; exact ⟨⟨by decide, by decide⟩, by simp only []; omega, by simp only []; omega⟩) rfl (Nat.le_of_ble_eq_true rfl) dL_isFit_39 (fun v1 w1 h => ?_)
      refine j_icmp_ge X 81 dL_isFit_42 (by decide) (fun c => ?_) (fun c => ?_)
      · replace h := jif_t c h
        refine j_sub [1] rfl ?_
        refine j_widen (k := 5140) (n := 498850) (by omega) (by omega) ?_
        exact k_L_isFit_b81 X hR Rt h
      · replace h := jif_f c h
        refine j_aload_n X dL_isFit_45 0 rfl ?_
        refine j_aload_n X dL_isFit_46 0 rfl ?_
        refine j_iload_n X dL_isFit_47 2 rfl ?_
        refine j_callSi X [.ref a0, .int x2] [.ref a0] (c_L_blockAt h) jm_L_blockAt jw_1254 rfl ⟨rfl, rfl⟩ (by rw [hR]; exact ⟨⟨by decide, by decide⟩, by simp only []; omega, by simp only []; omega⟩) rfl (Nat.le_of_ble_eq_true rfl) dL_isFit_48 (fun v2 w2 h => ?_)
        refine j_callSi X [.ref a0, .int v2] [] (c_L_isMelted h) jm_L_isMelted jw_1548 rfl ⟨rfl, rfl⟩ (by rw [hR]; exact ⟨⟨by decide, by decide⟩, by simp only []; omega, by simp only []; omega⟩) rfl (Nat.le_of_ble_eq_true rfl) dL_isFit_51 (fun v3 w3 h => ?_)
        refine j_if_eq X 73 dL_isFit_54 (by decide) (fun c => ?_) (fun c => ?_)
        · replace h := jif_t c h
          refine j_sub [0, 2] rfl ?_
          refine j_widen (k := (3313 + (9 - (n + 1)) * 203 + 203)) (n := (487906 + (9 - (n + 1)) * 1216 + 1216)) (by omega) (by omega) ?_
          exact k_L_isFit_b73 hN X hR Rt (fun _ _ _ _ h => ih (by omega) h) h
        · replace h := jif_f c h
          refine j_aload_n X dL_isFit_57 0 rfl ?_
          refine j_aload_n X dL_isFit_58 0 rfl ?_
          refine j_iload_n X dL_isFit_59 2 rfl ?_
          refine j_callSi X [.ref a0, .int x2] [.ref a0] (c_L_blockAt h) jm_L_blockAt jw_1254 rfl ⟨rfl, rfl⟩ (by rw [hR]; exact ⟨⟨by decide, by decide⟩, by simp only []; omega, by simp only []; omega⟩) rfl (Nat.le_of_ble_eq_true rfl) dL_isFit_60 (fun v4 w4 h => ?_)
          refine j_callSi X [.ref a0, .int v4] [] (c_L_isRepaired h) jm_L_isRepaired jw_1531 rfl ⟨rfl, rfl⟩ (by rw [hR]; exact ⟨⟨by decide, by decide⟩, by simp only []; omega, by simp only []; omega⟩) rfl (Nat.le_of_ble_eq_true rfl) dL_isFit_63 (fun v5 w5 h => ?_)
          refine j_if_eq X 73 dL_isFit_66 (by decide) (fun c => ?_) (fun c => ?_)
          · replace h := jif_t c h
            refine j_sub [0, 2] rfl ?_
            refine j_widen (k := (3313 + (9 - (n + 1)) * 203 + 203)) (n := (487906 + (9 - (n + 1)) * 1216 + 1216)) (by omega) (by omega) ?_
            exact k_L_isFit_b73 hN X hR Rt (fun _ _ _ _ h => ih (by omega) h) h
          · replace h := jif_f c h
            refine j_iconst X 1 dL_isFit_69 (by decide) ?_
            refine j_goto X 74 dL_isFit_70 (by decide) ?_
            refine j_sub [0, 2] rfl ?_
            refine j_widen (k := (3313 + (9 - (n + 1)) * 203 + 203)) (n := (487906 + (9 - (n + 1)) * 1216 + 1216)) (by omega) (by omega) ?_
            exact k_L_isFit_b74 hN X hR Rt (fun _ _ _ _ h => ih (by omega) h) h
def w_L_isFit_b31 (κ : Nat → Nat) (w : va_W) (a0 : Nat) (x1 : Int32) (P : Int32 → va_W → Prop) : Prop :=
    w_L_isFit_b33 9 κ w a0 x1 0 P
set_option maxRecDepth 100000 in
set_option maxHeartbeats 4000000 in
theorem k_L_isFit_b31 {Γ : jG} (X : jX Γ cL_isFit 3 RL) (hR : jgR Γ = ({ frames := 26, cells := 5140, slots := 498850, locals := 649 } : Room)) {P : Int32 → va_W → Prop} (Rt : jRt Γ cL_isFit 3 5140 498850 (some .boolean) (jPi P)) {w : va_W} {a0 : Nat} {x1 : Int32} (h : w_L_isFit_b31 (jgE Γ).2.2.2 w a0 x1 P) : J Γ 3 w 3313 487906 31 [(0, .ref a0), (1, .int x1)] [] := by
  unfold w_L_isFit_b31 at h
  refine j_iconst X 0 dL_isFit_31 (by decide) ?_
  refine j_istore_n X [(2, .int 0), (0, .ref a0), (1, .int x1)] dL_isFit_32 (by decide) rfl ?_
  refine j_sub [1, 2, 0] rfl ?_
  refine j_widen (k := (3313 + (9 - 9) * 203 + 0)) (n := (487906 + (9 - 9) * 1216 + 0)) (by omega) (by omega) ?_
  exact k_L_isFit_b33 X hR Rt _ (Nat.le_refl _) h
def w_L_isFit_b7 : Nat → (κ : Nat → Nat) → (w : va_W) → (a0 : Nat) → (x1 : Int32) → (x2 : Int32) → (P : Int32 → va_W → Prop) → Prop
  | 0, _, _, _, _, _, _ => False
  | n + 1, κ, w, a0, x1, x2, P =>
    (if x1 = 0 then w_L_isFit_b31 κ w a0 x1 P else (jRc w a0 11 ∧ w_X8_hillCount κ w a0 (fun v1 w1 => (if v1 ≤ x2 then w_L_isFit_b31 κ w1 a0 x1 P else w_L_isWritten κ w1 a0 x2 (fun v2 w2 => w_L_isFit_b7 n κ w2 a0 v2 (x2 + 1) P)))))
set_option maxRecDepth 100000 in
set_option maxHeartbeats 4000000 in
theorem k_L_isFit_b7 {Γ : jG} (X : jX Γ cL_isFit 3 RL) (hR : jgR Γ = ({ frames := 26, cells := 5140, slots := 498850, locals := 649 } : Room)) {P : Int32 → va_W → Prop} (Rt : jRt Γ cL_isFit 3 5140 498850 (some .boolean) (jPi P)) : ∀ (n : Nat) (hN : n ≤ 5) {w : va_W} {a0 : Nat} {x1 : Int32} {x2 : Int32} (h : w_L_isFit_b7 n (jgE Γ).2.2.2 w a0 x1 x2 P), J Γ 3 w (2298 + (5 - n) * 203 + 0) (375446 + (5 - n) * 22492 + 0) 7 [(0, .ref a0), (1, .int x1), (2, .int x2)] [] := by
  intro n
  induction n with
  | zero => intro hN w a0 x1 x2 h; exact False.elim h
  | succ n ih =>
    intro hN w a0 x1 x2 h
    rw [w_L_isFit_b7] at h
    refine j_iload_n X dL_isFit_7 1 rfl ?_
    refine j_if_eq X 31 dL_isFit_8 (by decide) (fun c => ?_) (fun c => ?_)
    · replace h := jif_t c h
      refine j_sub [0, 1] rfl ?_
      refine j_widen (k := 3313) (n := 487906) (by omega) (by omega) ?_
      exact k_L_isFit_b31 X hR Rt h
    · replace h := jif_f c h
      refine j_iload_n X dL_isFit_11 2 rfl ?_
      refine j_aload_n X dL_isFit_12 0 rfl ?_
      obtain ⟨⟨fs1, g1⟩, h⟩ := h
      refine j_callVi X [] [.int x2] (c_X8_hillCount h) (T := TX8) (N := 11) g1 rfl jm_X8_hillCount jw_1221 rfl ⟨rfl, rfl⟩ (by rw [hR]; exact ⟨⟨by decide, by decide⟩, by simp only []; omega, by simp only []; omega⟩) rfl (Nat.le_of_ble_eq_true rfl) dL_isFit_13 (fun v1 w1 h => ?_)
      refine j_icmp_ge X 31 dL_isFit_16 (by decide) (fun c => ?_) (fun c => ?_)
      · replace h := jif_t c h
        refine j_sub [0, 1] rfl ?_
        refine j_widen (k := 3313) (n := 487906) (by omega) (by omega) ?_
        exact k_L_isFit_b31 X hR Rt h
      · replace h := jif_f c h
        refine j_aload_n X dL_isFit_19 0 rfl ?_
        refine j_iload_n X dL_isFit_20 2 rfl ?_
        refine j_callSi X [.ref a0, .int x2] [] (c_L_isWritten h) jm_L_isWritten jw_1537 rfl ⟨rfl, rfl⟩ (by rw [hR]; exact ⟨⟨by decide, by decide⟩, by simp only []; omega, by simp only []; omega⟩) rfl (Nat.le_of_ble_eq_true rfl) dL_isFit_21 (fun v2 w2 h => ?_)
        refine j_istore_n X [(1, .int v2), (0, .ref a0), (2, .int x2)] dL_isFit_24 (by decide) rfl ?_
        refine j_iinc X (x2 + 1) [(2, .int (x2 + 1)), (1, .int v2), (0, .ref a0)] dL_isFit_25 2 rfl rfl (by decide) rfl ?_
        refine j_goto X 7 dL_isFit_28 (by decide) ?_
        refine j_sub [2, 1, 0] rfl ?_
        refine j_widen (k := (2298 + (5 - n) * 203 + 0)) (n := (375446 + (5 - n) * 22492 + 0)) (by omega) (by omega) ?_
        exact ih (by omega) h
def w_L_isFit_b0 (κ : Nat → Nat) (w : va_W) (a0 : Nat) (P : Int32 → va_W → Prop) : Prop :=
    w_L_areBlocks κ w a0 (fun v1 w1 => w_L_isFit_b7 5 κ w1 a0 v1 0 P)
set_option maxRecDepth 100000 in
set_option maxHeartbeats 4000000 in
theorem k_L_isFit_b0 {Γ : jG} (X : jX Γ cL_isFit 3 RL) (hR : jgR Γ = ({ frames := 26, cells := 5140, slots := 498850, locals := 649 } : Room)) {P : Int32 → va_W → Prop} (Rt : jRt Γ cL_isFit 3 5140 498850 (some .boolean) (jPi P)) {w : va_W} {a0 : Nat} (h : w_L_isFit_b0 (jgE Γ).2.2.2 w a0 P) : J Γ 3 w 0 0 0 [(0, .ref a0)] [] := by
  unfold w_L_isFit_b0 at h
  refine j_aload_n X dL_isFit_0 0 rfl ?_
  refine j_callSi X [.ref a0] [] (c_L_areBlocks h) jm_L_areBlocks jw_1300 rfl ⟨rfl, rfl⟩ (by rw [hR]; decide) rfl (Nat.le_of_ble_eq_true rfl) dL_isFit_1 (fun v1 w1 h => ?_)
  refine j_istore_n X [(1, .int v1), (0, .ref a0)] dL_isFit_4 (by decide) rfl ?_
  refine j_iconst X 0 dL_isFit_5 (by decide) ?_
  refine j_istore_n X [(2, .int 0), (1, .int v1), (0, .ref a0)] dL_isFit_6 (by decide) rfl ?_
  refine j_sub [2, 1, 0] rfl ?_
  refine j_widen (k := (2298 + (5 - 5) * 203 + 0)) (n := (375446 + (5 - 5) * 22492 + 0)) (by omega) (by omega) ?_
  exact k_L_isFit_b7 X hR Rt _ (Nat.le_refl _) h
def w_L_isFit (κ : Nat → Nat) (w : va_W) (a0 : Nat) (P : Int32 → va_W → Prop) : Prop := w_L_isFit_b0 κ w a0 P
theorem c_L_isFit {E : jE} {w : va_W} {a0 : Nat} {P : Int32 → va_W → Prop} (h : w_L_isFit E.2.2.2 w a0 P) : jC E yL_isFit cL_isFit 3 (some .boolean) ({ frames := 26, cells := 5140, slots := 498850, locals := 649 } : Room) [.ref a0] w 5140 498850 (jPi P) := by
  refine jC_of (by decide) (Nat.le_of_ble_eq_true rfl) ?_
  intro Γ X hE hR Rt
  subst hE
  exact k_L_isFit_b0 X hR Rt h
def w_L_law_b352 (κ : Nat → Nat) (w : va_W) (s0 : Int32) (P : Int32 → va_W → Prop) : Prop :=
    (narrow .boolean (.int s0) = .int s0 ∧ P s0 w)
set_option maxRecDepth 100000 in
set_option maxHeartbeats 4000000 in
theorem k_L_law_b352 {Γ : jG} (X : jX Γ cL_law 9 RL) (hR : jgR Γ = ({ frames := 2048, cells := 663623, slots := 7110600, locals := 84000 } : Room)) {P : Int32 → va_W → Prop} (Rt : jRt Γ cL_law 9 663623 7110600 (some .boolean) (jPi P)) {w : va_W} {s0 : Int32} (h : w_L_law_b352 (jgE Γ).2.2.2 w s0 P) : J Γ 9 w 13929 1521243 352 [] [.int s0] := by
  unfold w_L_law_b352 at h
  exact Rt.z dL_law_352 h.1 ⟨_, rfl, h.2⟩ (by first | decide | omega) (by first | decide | omega)
def w_L_law_b351 (κ : Nat → Nat) (w : va_W) (P : Int32 → va_W → Prop) : Prop :=
    w_L_law_b352 κ w 0 P
set_option maxRecDepth 100000 in
set_option maxHeartbeats 4000000 in
theorem k_L_law_b351 {Γ : jG} (X : jX Γ cL_law 9 RL) (hR : jgR Γ = ({ frames := 2048, cells := 663623, slots := 7110600, locals := 84000 } : Room)) {P : Int32 → va_W → Prop} (Rt : jRt Γ cL_law 9 663623 7110600 (some .boolean) (jPi P)) {w : va_W} (h : w_L_law_b351 (jgE Γ).2.2.2 w  P) : J Γ 9 w 13929 1521243 351 [] [] := by
  unfold w_L_law_b351 at h
  refine j_iconst X 0 dL_law_351 (by decide) ?_
  refine j_widen (k := 13929) (n := 1521243) (by omega) (by omega) ?_
  exact k_L_law_b352 X hR Rt h
def w_L_law_b314 (κ : Nat → Nat) (w : va_W) (a1 : Nat) (l4 : Int64) (x6 : Int32) (s0 : Int32) (P : Int32 → va_W → Prop) : Prop :=
    (if s0 = 0 then w_L_law_b351 κ w  P else w_L_restore κ w a1 (fun v1 w1 => (if v1 = x6 then w_L_digest κ w1 a1 (fun v2 w2 => (if (lg_cmp v2 l4) = 0 then w_L_undo κ w2 a1 (fun v3 w3 => (if v3 = (-100000000) then w_L_law_b352 κ w3 1 P else w_L_law_b351 κ w3  P)) else w_L_law_b351 κ w2  P)) else w_L_law_b351 κ w1  P)))
set_option maxRecDepth 100000 in
set_option maxHeartbeats 4000000 in
theorem k_L_law_b314 {Γ : jG} (X : jX Γ cL_law 9 RL) (hR : jgR Γ = ({ frames := 2048, cells := 663623, slots := 7110600, locals := 84000 } : Room)) {P : Int32 → va_W → Prop} (Rt : jRt Γ cL_law 9 663623 7110600 (some .boolean) (jPi P)) {w : va_W} {a1 : Nat} {l4 : Int64} {x6 : Int32} {s0 : Int32} (h : w_L_law_b314 (jgE Γ).2.2.2 w a1 l4 x6 s0 P) : J Γ 9 w 13893 1521027 314 [(1, .ref a1), (4, .long l4), (6, .int x6)] [.int s0] := by
  unfold w_L_law_b314 at h
  refine j_istore_n X [(3, .int s0), (1, .ref a1), (4, .long l4), (6, .int x6)] dL_law_314 (by decide) rfl ?_
  refine j_iload_n X dL_law_315 0 rfl ?_
  refine j_if_eq X 351 dL_law_316 (by decide) (fun c => ?_) (fun c => ?_)
  · replace h := jif_t c h
    refine j_sub [] rfl ?_
    refine j_widen (k := 13929) (n := 1521243) (by omega) (by omega) ?_
    exact k_L_law_b351 X hR Rt h
  · replace h := jif_f c h
    refine j_aload_n X dL_law_319 1 rfl ?_
    refine j_callWi X [.ref a1] [] (c_L_restore h) jmw_L_restore jw_1138 rfl ⟨rfl, rfl⟩ (by rw [hR]; decide) rfl (Nat.le_of_ble_eq_true rfl) dL_law_320 (fun v1 w1 h => ?_)
    refine j_iload X dL_law_323 3 rfl ?_
    refine j_icmp_ne X 351 dL_law_325 (by decide) (fun c => ?_) (fun c => ?_)
    · replace h := jif_f c h
      refine j_sub [] rfl ?_
      refine j_widen (k := 13929) (n := 1521243) (by omega) (by omega) ?_
      exact k_L_law_b351 X hR Rt h
    · replace h := jif_t c h
      refine j_aload_n X dL_law_328 1 rfl ?_
      refine j_callSl X [.ref a1] [] (c_L_digest h) jm_L_digest jw_1212 rfl ⟨rfl, rfl⟩ (by rw [hR]; decide) rfl (Nat.le_of_ble_eq_true rfl) dL_law_329 (fun v2 w2 h => ?_)
      refine j_lload X dL_law_332 2 rfl ?_
      refine j_lcmp X dL_law_334 ?_
      refine j_if_ne X 351 dL_law_335 (by decide) (fun c => ?_) (fun c => ?_)
      · replace h := jif_f c h
        refine j_sub [] rfl ?_
        refine j_widen (k := 13929) (n := 1521243) (by omega) (by omega) ?_
        exact k_L_law_b351 X hR Rt h
      · replace h := jif_t c h
        refine j_aload_n X dL_law_338 1 rfl ?_
        refine j_callWi X [.ref a1] [] (c_L_undo h) jmw_L_undo jw_1126 rfl ⟨rfl, rfl⟩ (by rw [hR]; decide) rfl (Nat.le_of_ble_eq_true rfl) dL_law_339 (fun v3 w3 h => ?_)
        refine j_ldc X dL_law_342 jw_379 ?_
        refine j_icmp_ne X 351 dL_law_344 (by decide) (fun c => ?_) (fun c => ?_)
        · replace h := jif_f c h
          refine j_sub [] rfl ?_
          refine j_widen (k := 13929) (n := 1521243) (by omega) (by omega) ?_
          exact k_L_law_b351 X hR Rt h
        · replace h := jif_t c h
          refine j_iconst X 1 dL_law_347 (by decide) ?_
          refine j_goto X 352 dL_law_348 (by decide) ?_
          refine j_sub [] rfl ?_
          refine j_widen (k := 13929) (n := 1521243) (by omega) (by omega) ?_
          exact k_L_law_b352 X hR Rt h
def w_L_law_b313 (κ : Nat → Nat) (w : va_W) (a1 : Nat) (l4 : Int64) (x6 : Int32) (P : Int32 → va_W → Prop) : Prop :=
    w_L_law_b314 κ w a1 l4 x6 0 P
set_option maxRecDepth 100000 in
set_option maxHeartbeats 4000000 in
theorem k_L_law_b313 {Γ : jG} (X : jX Γ cL_law 9 RL) (hR : jgR Γ = ({ frames := 2048, cells := 663623, slots := 7110600, locals := 84000 } : Room)) {P : Int32 → va_W → Prop} (Rt : jRt Γ cL_law 9 663623 7110600 (some .boolean) (jPi P)) {w : va_W} {a1 : Nat} {l4 : Int64} {x6 : Int32} (h : w_L_law_b313 (jgE Γ).2.2.2 w a1 l4 x6 P) : J Γ 9 w 13893 1521027 313 [(1, .ref a1), (4, .long l4), (6, .int x6)] [] := by
  unfold w_L_law_b313 at h
  refine j_iconst X 0 dL_law_313 (by decide) ?_
  refine j_widen (k := 13893) (n := 1521027) (by omega) (by omega) ?_
  exact k_L_law_b314 X hR Rt h
def w_L_law_b309 (κ : Nat → Nat) (w : va_W) (a1 : Nat) (l4 : Int64) (x6 : Int32) (P : Int32 → va_W → Prop) : Prop :=
    w_L_law_b314 κ w a1 l4 x6 1 P
set_option maxRecDepth 100000 in
set_option maxHeartbeats 4000000 in
theorem k_L_law_b309 {Γ : jG} (X : jX Γ cL_law 9 RL) (hR : jgR Γ = ({ frames := 2048, cells := 663623, slots := 7110600, locals := 84000 } : Room)) {P : Int32 → va_W → Prop} (Rt : jRt Γ cL_law 9 663623 7110600 (some .boolean) (jPi P)) {w : va_W} {a1 : Nat} {l4 : Int64} {x6 : Int32} (h : w_L_law_b309 (jgE Γ).2.2.2 w a1 l4 x6 P) : J Γ 9 w 13893 1521027 309 [(1, .ref a1), (4, .long l4), (6, .int x6)] [] := by
  unfold w_L_law_b309 at h
  refine j_iconst X 1 dL_law_309 (by decide) ?_
  refine j_goto X 314 dL_law_310 (by decide) ?_
  refine j_widen (k := 13893) (n := 1521027) (by omega) (by omega) ?_
  exact k_L_law_b314 X hR Rt h
def w_L_law_b255 (κ : Nat → Nat) (w : va_W) (a1 : Nat) (x3 : Int32) (l4 : Int64) (x6 : Int32) (P : Int32 → va_W → Prop) : Prop :=
    w_L_collect κ w a1 0 42 (fun v1 w1 => w_L_writeBlock κ w1 a1 0 (fun v2 w2 => (if x3 = 0 then w_L_law_b313 κ w2 a1 l4 x6 P else (if v2 = (-100000000) then w_L_law_b309 κ w2 a1 l4 x6 P else w_L_replaceFlake κ w2 a1 v2 0 43 (fun v3 w3 => (if v3 < 0 then w_L_law_b313 κ w3 a1 l4 x6 P else w_L_areBlocks κ w3 a1 (fun v4 w4 => (if v4 = 0 then w_L_law_b313 κ w4 a1 l4 x6 P else w_L_isRepaired κ w4 a1 v2 (fun v5 w5 => (if v5 = 0 then w_L_law_b313 κ w5 a1 l4 x6 P else w_L_law_b309 κ w5 a1 l4 x6 P))))))))))
set_option maxRecDepth 100000 in
set_option maxHeartbeats 4000000 in
theorem k_L_law_b255 {Γ : jG} (X : jX Γ cL_law 9 RL) (hR : jgR Γ = ({ frames := 2048, cells := 663623, slots := 7110600, locals := 84000 } : Room)) {P : Int32 → va_W → Prop} (Rt : jRt Γ cL_law 9 663623 7110600 (some .boolean) (jPi P)) {w : va_W} {a1 : Nat} {x3 : Int32} {l4 : Int64} {x6 : Int32} (h : w_L_law_b255 (jgE Γ).2.2.2 w a1 x3 l4 x6 P) : J Γ 9 w 11461 1144777 255 [(1, .ref a1), (3, .int x3), (4, .long l4), (6, .int x6)] [] := by
  unfold w_L_law_b255 at h
  refine j_aload_n X dL_law_255 0 rfl ?_
  refine j_iconst X 0 dL_law_256 (by decide) ?_
  refine j_bipush X 42 dL_law_257 (by decide) ?_
  refine j_callWi X [.ref a1, .int 0, .int 42] [] (c_L_collect h) jmw_L_collect jw_559 rfl ⟨rfl, rfl⟩ (by rw [hR]; decide) rfl (Nat.le_of_ble_eq_true rfl) dL_law_259 (fun v1 w1 h => ?_)
  refine j_pop X dL_law_262 rfl ?_
  refine j_aload_n X dL_law_263 0 rfl ?_
  refine j_iconst X 0 dL_law_264 (by decide) ?_
  refine j_callWi X [.ref a1, .int 0] [] (c_L_writeBlock h) jmw_L_writeBlock jw_594 rfl ⟨rfl, rfl⟩ (by rw [hR]; decide) rfl (Nat.le_of_ble_eq_true rfl) dL_law_265 (fun v2 w2 h => ?_)
  refine j_istore X [(7, .int v2), (1, .ref a1), (3, .int x3), (4, .long l4), (6, .int x6)] dL_law_268 (by decide) rfl ?_
  refine j_iload_n X dL_law_270 2 rfl ?_
  refine j_if_eq X 313 dL_law_271 (by decide) (fun c => ?_) (fun c => ?_)
  · replace h := jif_t c h
    refine j_sub [1, 3, 4] rfl ?_
    refine j_widen (k := 13893) (n := 1521027) (by omega) (by omega) ?_
    exact k_L_law_b313 X hR Rt h
  · replace h := jif_f c h
    refine j_iload X dL_law_274 0 rfl ?_
    refine j_ldc X dL_law_276 jw_379 ?_
    refine j_icmp_eq X 309 dL_law_278 (by decide) (fun c => ?_) (fun c => ?_)
    · replace h := jif_t c h
      refine j_sub [1, 3, 4] rfl ?_
      refine j_widen (k := 13893) (n := 1521027) (by omega) (by omega) ?_
      exact k_L_law_b309 X hR Rt h
    · replace h := jif_f c h
      refine j_aload_n X dL_law_281 1 rfl ?_
      refine j_iload X dL_law_282 0 rfl ?_
      refine j_iconst X 0 dL_law_284 (by decide) ?_
      refine j_bipush X 43 dL_law_285 (by decide) ?_
      refine j_callWi X [.ref a1, .int v2, .int 0, .int 43] [] (c_L_replaceFlake h) jmw_L_replaceFlake jw_671 rfl ⟨rfl, rfl⟩ (by rw [hR]; decide) rfl (Nat.le_of_ble_eq_true rfl) dL_law_287 (fun v3 w3 h => ?_)
      refine j_if_lt X 313 dL_law_290 (by decide) (fun c => ?_) (fun c => ?_)
      · replace h := jif_t c h
        refine j_sub [1, 3, 4] rfl ?_
        refine j_widen (k := 13893) (n := 1521027) (by omega) (by omega) ?_
        exact k_L_law_b313 X hR Rt h
      · replace h := jif_f c h
        refine j_aload_n X dL_law_293 1 rfl ?_
        refine j_callSi X [.ref a1] [] (c_L_areBlocks h) jm_L_areBlocks jw_1300 rfl ⟨rfl, rfl⟩ (by rw [hR]; decide) rfl (Nat.le_of_ble_eq_true rfl) dL_law_294 (fun v4 w4 h => ?_)
        refine j_if_eq X 313 dL_law_297 (by decide) (fun c => ?_) (fun c => ?_)
        · replace h := jif_t c h
          refine j_sub [1, 3, 4] rfl ?_
          refine j_widen (k := 13893) (n := 1521027) (by omega) (by omega) ?_
          exact k_L_law_b313 X hR Rt h
        · replace h := jif_f c h
          refine j_aload_n X dL_law_300 1 rfl ?_
          refine j_iload X dL_law_301 0 rfl ?_
          refine j_callSi X [.ref a1, .int v2] [] (c_L_isRepaired h) jm_L_isRepaired jw_1531 rfl ⟨rfl, rfl⟩ (by rw [hR]; decide) rfl (Nat.le_of_ble_eq_true rfl) dL_law_303 (fun v5 w5 h => ?_)
          refine j_if_eq X 313 dL_law_306 (by decide) (fun c => ?_) (fun c => ?_)
          · replace h := jif_t c h
            refine j_sub [1, 3, 4] rfl ?_
            refine j_widen (k := 13893) (n := 1521027) (by omega) (by omega) ?_
            exact k_L_law_b313 X hR Rt h
          · replace h := jif_f c h
            refine j_sub [1, 3, 4] rfl ?_
            refine j_widen (k := 13893) (n := 1521027) (by omega) (by omega) ?_
            exact k_L_law_b309 X hR Rt h
def w_L_law_b248 (κ : Nat → Nat) (w : va_W) (a1 : Nat) (l4 : Int64) (x6 : Int32) (x7 : Int32) (s0 : Int32) (K181 : va_W → Nat → Int32 → Int64 → Int32 → Int32 → Prop) (P : Int32 → va_W → Prop) : Prop :=
    K181 w a1 s0 l4 x6 (x7 + 1)
set_option maxRecDepth 100000 in
set_option maxHeartbeats 4000000 in
theorem k_L_law_b248 {N : Nat} (hN : N + 1 ≤ 21) {Γ : jG} (X : jX Γ cL_law 9 RL) (hR : jgR Γ = ({ frames := 2048, cells := 663623, slots := 7110600, locals := 84000 } : Room)) {P : Int32 → va_W → Prop} (Rt : jRt Γ cL_law 9 663623 7110600 (some .boolean) (jPi P)) {K181 : va_W → Nat → Int32 → Int64 → Int32 → Int32 → Prop} (hK181 : ∀ (w : va_W) (a1 : Nat) (x3 : Int32) (l4 : Int64) (x6 : Int32) (x7 : Int32), K181 w a1 x3 l4 x6 x7 → J Γ 9 w (9487 + (21 - N) * 94 + 0) (892987 + (21 - N) * 11990 + 0) 181 [(1, .ref a1), (3, .int x3), (4, .long l4), (6, .int x6), (7, .int x7)] []) {w : va_W} {a1 : Nat} {l4 : Int64} {x6 : Int32} {x7 : Int32} {s0 : Int32} (h : w_L_law_b248 (jgE Γ).2.2.2 w a1 l4 x6 x7 s0 K181 P) : J Γ 9 w (9487 + (21 - (N + 1)) * 94 + 94) (892987 + (21 - (N + 1)) * 11990 + 11990) 248 [(1, .ref a1), (4, .long l4), (6, .int x6), (7, .int x7)] [.int s0] := by
  unfold w_L_law_b248 at h
  refine j_istore_n X [(3, .int s0), (1, .ref a1), (4, .long l4), (6, .int x6), (7, .int x7)] dL_law_248 (by decide) rfl ?_
  refine j_iinc X (x7 + 1) [(7, .int (x7 + 1)), (3, .int s0), (1, .ref a1), (4, .long l4), (6, .int x6)] dL_law_249 4 rfl rfl (by decide) rfl ?_
  refine j_goto X 181 dL_law_252 (by decide) ?_
  refine j_sub [2, 1, 3, 4, 0] rfl ?_
  refine j_widen (k := (9487 + (21 - N) * 94 + 0)) (n := (892987 + (21 - N) * 11990 + 0)) (by omega) (by omega) ?_
  exact hK181 _ _ _ _ _ _ h
def w_L_law_b247 (κ : Nat → Nat) (w : va_W) (a1 : Nat) (l4 : Int64) (x6 : Int32) (x7 : Int32) (K181 : va_W → Nat → Int32 → Int64 → Int32 → Int32 → Prop) (P : Int32 → va_W → Prop) : Prop :=
    w_L_law_b248 κ w a1 l4 x6 x7 0 K181 P
set_option maxRecDepth 100000 in
set_option maxHeartbeats 4000000 in
theorem k_L_law_b247 {N : Nat} (hN : N + 1 ≤ 21) {Γ : jG} (X : jX Γ cL_law 9 RL) (hR : jgR Γ = ({ frames := 2048, cells := 663623, slots := 7110600, locals := 84000 } : Room)) {P : Int32 → va_W → Prop} (Rt : jRt Γ cL_law 9 663623 7110600 (some .boolean) (jPi P)) {K181 : va_W → Nat → Int32 → Int64 → Int32 → Int32 → Prop} (hK181 : ∀ (w : va_W) (a1 : Nat) (x3 : Int32) (l4 : Int64) (x6 : Int32) (x7 : Int32), K181 w a1 x3 l4 x6 x7 → J Γ 9 w (9487 + (21 - N) * 94 + 0) (892987 + (21 - N) * 11990 + 0) 181 [(1, .ref a1), (3, .int x3), (4, .long l4), (6, .int x6), (7, .int x7)] []) {w : va_W} {a1 : Nat} {l4 : Int64} {x6 : Int32} {x7 : Int32} (h : w_L_law_b247 (jgE Γ).2.2.2 w a1 l4 x6 x7 K181 P) : J Γ 9 w (9487 + (21 - (N + 1)) * 94 + 94) (892987 + (21 - (N + 1)) * 11990 + 11990) 247 [(1, .ref a1), (4, .long l4), (6, .int x6), (7, .int x7)] [] := by
  unfold w_L_law_b247 at h
  refine j_iconst X 0 dL_law_247 (by decide) ?_
  refine j_widen (k := (9487 + (21 - (N + 1)) * 94 + 94)) (n := (892987 + (21 - (N + 1)) * 11990 + 11990)) (by omega) (by omega) ?_
  exact k_L_law_b248 hN X hR Rt hK181 h
def w_L_law_b233 (κ : Nat → Nat) (w : va_W) (a1 : Nat) (l4 : Int64) (x6 : Int32) (x7 : Int32) (K181 : va_W → Nat → Int32 → Int64 → Int32 → Int32 → Prop) (P : Int32 → va_W → Prop) : Prop :=
    w_L_digest κ w a1 (fun v1 w1 => (if (lg_cmp v1 l4) = 0 then w_L_law_b248 κ w1 a1 l4 x6 x7 1 K181 P else w_L_law_b247 κ w1 a1 l4 x6 x7 K181 P))
set_option maxRecDepth 100000 in
set_option maxHeartbeats 4000000 in
theorem k_L_law_b233 {N : Nat} (hN : N + 1 ≤ 21) {Γ : jG} (X : jX Γ cL_law 9 RL) (hR : jgR Γ = ({ frames := 2048, cells := 663623, slots := 7110600, locals := 84000 } : Room)) {P : Int32 → va_W → Prop} (Rt : jRt Γ cL_law 9 663623 7110600 (some .boolean) (jPi P)) {K181 : va_W → Nat → Int32 → Int64 → Int32 → Int32 → Prop} (hK181 : ∀ (w : va_W) (a1 : Nat) (x3 : Int32) (l4 : Int64) (x6 : Int32) (x7 : Int32), K181 w a1 x3 l4 x6 x7 → J Γ 9 w (9487 + (21 - N) * 94 + 0) (892987 + (21 - N) * 11990 + 0) 181 [(1, .ref a1), (3, .int x3), (4, .long l4), (6, .int x6), (7, .int x7)] []) {w : va_W} {a1 : Nat} {l4 : Int64} {x6 : Int32} {x7 : Int32} (h : w_L_law_b233 (jgE Γ).2.2.2 w a1 l4 x6 x7 K181 P) : J Γ 9 w (9487 + (21 - (N + 1)) * 94 + 60) (892987 + (21 - (N + 1)) * 11990 + 11786) 233 [(1, .ref a1), (4, .long l4), (6, .int x6), (7, .int x7)] [] := by
  unfold w_L_law_b233 at h
  refine j_aload_n X dL_law_233 0 rfl ?_
  refine j_callSl X [.ref a1] [] (c_L_digest h) jm_L_digest jw_1212 rfl ⟨rfl, rfl⟩ (by rw [hR]; exact ⟨⟨by decide, by decide⟩, by simp only []; omega, by simp only []; omega⟩) rfl (Nat.le_of_ble_eq_true rfl) dL_law_234 (fun v1 w1 h => ?_)
  refine j_lload X dL_law_237 1 rfl ?_
  refine j_lcmp X dL_law_239 ?_
  refine j_if_ne X 247 dL_law_240 (by decide) (fun c => ?_) (fun c => ?_)
  · replace h := jif_f c h
    refine j_widen (k := (9487 + (21 - (N + 1)) * 94 + 94)) (n := (892987 + (21 - (N + 1)) * 11990 + 11990)) (by omega) (by omega) ?_
    exact k_L_law_b247 hN X hR Rt hK181 h
  · replace h := jif_t c h
    refine j_iconst X 1 dL_law_243 (by decide) ?_
    refine j_goto X 248 dL_law_244 (by decide) ?_
    refine j_widen (k := (9487 + (21 - (N + 1)) * 94 + 94)) (n := (892987 + (21 - (N + 1)) * 11990 + 11990)) (by omega) (by omega) ?_
    exact k_L_law_b248 hN X hR Rt hK181 h
def w_L_law_b181 : Nat → (κ : Nat → Nat) → (w : va_W) → (a1 : Nat) → (x3 : Int32) → (l4 : Int64) → (x6 : Int32) → (x7 : Int32) → (P : Int32 → va_W → Prop) → Prop
  | 0, _, _, _, _, _, _, _, _ => False
  | n + 1, κ, w, a1, x3, l4, x6, x7, P =>
    (if x3 = 0 then w_L_law_b255 κ w a1 x3 l4 x6 P else (if 20 ≤ x7 then w_L_law_b255 κ w a1 x3 l4 x6 P else (vp_in x7 20 ∧ w_L_typed κ w a1 (7 + Int32.toNatClampNeg x7) (fun r1 w1 => w_L_runScript κ w1 r1 (fun v2 w2 => (if v2 = (-100000000) then w_L_failedCommand κ w2 a1 (fun v4 w4 => (if v4 < 0 then w_L_law_b247 κ w4 a1 l4 x6 x7 (fun w_ z_a1 z_x3 z_l4 z_x6 z_x7 => w_L_law_b181 n κ w_ z_a1 z_x3 z_l4 z_x6 z_x7 P) P else w_L_law_b233 κ w4 a1 l4 x6 x7 (fun w_ z_a1 z_x3 z_l4 z_x6 z_x7 => w_L_law_b181 n κ w_ z_a1 z_x3 z_l4 z_x6 z_x7 P) P)) else w_L_undo κ w2 a1 (fun v3 w3 => (if v3 < 0 then w_L_law_b247 κ w3 a1 l4 x6 x7 (fun w_ z_a1 z_x3 z_l4 z_x6 z_x7 => w_L_law_b181 n κ w_ z_a1 z_x3 z_l4 z_x6 z_x7 P) P else w_L_law_b233 κ w3 a1 l4 x6 x7 (fun w_ z_a1 z_x3 z_l4 z_x6 z_x7 => w_L_law_b181 n κ w_ z_a1 z_x3 z_l4 z_x6 z_x7 P) P))))))))
set_option maxRecDepth 100000 in
set_option maxHeartbeats 4000000 in
theorem k_L_law_b181 {Γ : jG} (X : jX Γ cL_law 9 RL) (hR : jgR Γ = ({ frames := 2048, cells := 663623, slots := 7110600, locals := 84000 } : Room)) {P : Int32 → va_W → Prop} (Rt : jRt Γ cL_law 9 663623 7110600 (some .boolean) (jPi P)) : ∀ (n : Nat) (hN : n ≤ 21) {w : va_W} {a1 : Nat} {x3 : Int32} {l4 : Int64} {x6 : Int32} {x7 : Int32} (h : w_L_law_b181 n (jgE Γ).2.2.2 w a1 x3 l4 x6 x7 P), J Γ 9 w (9487 + (21 - n) * 94 + 0) (892987 + (21 - n) * 11990 + 0) 181 [(1, .ref a1), (3, .int x3), (4, .long l4), (6, .int x6), (7, .int x7)] [] := by
  intro n
  induction n with
  | zero => intro hN w a1 x3 l4 x6 x7 h; exact False.elim h
  | succ n ih =>
    intro hN w a1 x3 l4 x6 x7 h
    rw [w_L_law_b181] at h
    refine j_iload_n X dL_law_181 1 rfl ?_
    refine j_if_eq X 255 dL_law_182 (by decide) (fun c => ?_) (fun c => ?_)
    · replace h := jif_t c h
      refine j_sub [0, 1, 2, 3] rfl ?_
      refine j_widen (k := 11461) (n := 1144777) (by omega) (by omega) ?_
      exact k_L_law_b255 X hR Rt h
    · replace h := jif_f c h
      refine j_iload X dL_law_185 4 rfl ?_
      refine j_getsR X jw_1210 dL_law_187 ?_
      refine j_rlen X dL_law_190 ?_
      refine j_icmp_ge X 255 dL_law_191 (by decide) (fun c => ?_) (fun c => ?_)
      · replace h := jif_t c h
        refine j_sub [0, 1, 2, 3] rfl ?_
        refine j_widen (k := 11461) (n := 1144777) (by omega) (by omega) ?_
        exact k_L_law_b255 X hR Rt h
      · replace h := jif_f c h
        refine j_aload_n X dL_law_194 0 rfl ?_
        refine j_getsR X jw_1210 dL_law_195 ?_
        refine j_iload X dL_law_198 4 rfl ?_
        refine j_rald X h.1 dL_law_200 ?_
        replace h := h.2
        refine j_callSr X [.ref a1, .ref ((jgE Γ).2.2.2 (10 + (7 + Int32.toNatClampNeg x7)))] [] (c_L_typed h) jm_L_typed jw_1150 rfl ⟨rfl, rfl⟩ (by rw [hR]; exact ⟨⟨by decide, by decide⟩, by simp only []; omega, by simp only []; omega⟩) rfl (Nat.le_of_ble_eq_true rfl) dL_law_201 (fun r1 w1 h => ?_)
        refine j_callWi X [.ref r1] [] (c_L_runScript h) jmw_L_runScript jw_698 rfl ⟨rfl, rfl⟩ (by rw [hR]; exact ⟨⟨by decide, by decide⟩, by simp only []; omega, by simp only []; omega⟩) rfl (Nat.le_of_ble_eq_true rfl) dL_law_204 (fun v2 w2 h => ?_)
        refine j_istore X [(8, .int v2), (1, .ref a1), (3, .int x3), (4, .long l4), (6, .int x6), (7, .int x7)] dL_law_207 (by decide) rfl ?_
        refine j_iload X dL_law_209 0 rfl ?_
        refine j_ldc X dL_law_211 jw_379 ?_
        refine j_icmp_ne X 226 dL_law_213 (by decide) (fun c => ?_) (fun c => ?_)
        · replace h := jif_f c h
          refine j_aload_n X dL_law_226 1 rfl ?_
          refine j_callWi X [.ref a1] [] (c_L_undo h) jmw_L_undo jw_1126 rfl ⟨rfl, rfl⟩ (by rw [hR]; exact ⟨⟨by decide, by decide⟩, by simp only []; omega, by simp only []; omega⟩) rfl (Nat.le_of_ble_eq_true rfl) dL_law_227 (fun v3 w3 h => ?_)
          refine j_if_lt X 247 dL_law_230 (by decide) (fun c => ?_) (fun c => ?_)
          · replace h := jif_t c h
            refine j_sub [1, 3, 4, 5] rfl ?_
            refine j_widen (k := (9487 + (21 - (n + 1)) * 94 + 94)) (n := (892987 + (21 - (n + 1)) * 11990 + 11990)) (by omega) (by omega) ?_
            exact k_L_law_b247 hN X hR Rt (fun _ _ _ _ _ _ h => ih (by omega) h) h
          · replace h := jif_f c h
            refine j_sub [1, 3, 4, 5] rfl ?_
            refine j_widen (k := (9487 + (21 - (n + 1)) * 94 + 60)) (n := (892987 + (21 - (n + 1)) * 11990 + 11786)) (by omega) (by omega) ?_
            exact k_L_law_b233 hN X hR Rt (fun _ _ _ _ _ _ h => ih (by omega) h) h
        · replace h := jif_t c h
          refine j_aload_n X dL_law_216 1 rfl ?_
          refine j_callWi X [.ref a1] [] (c_L_failedCommand h) jmw_L_failedCommand jw_1118 rfl ⟨rfl, rfl⟩ (by rw [hR]; exact ⟨⟨by decide, by decide⟩, by simp only []; omega, by simp only []; omega⟩) rfl (Nat.le_of_ble_eq_true rfl) dL_law_217 (fun v4 w4 h => ?_)
          refine j_if_lt X 247 dL_law_220 (by decide) (fun c => ?_) (fun c => ?_)
          · replace h := jif_t c h
            refine j_sub [1, 3, 4, 5] rfl ?_
            refine j_widen (k := (9487 + (21 - (n + 1)) * 94 + 94)) (n := (892987 + (21 - (n + 1)) * 11990 + 11990)) (by omega) (by omega) ?_
            exact k_L_law_b247 hN X hR Rt (fun _ _ _ _ _ _ h => ih (by omega) h) h
          · replace h := jif_f c h
            refine j_goto X 233 dL_law_223 (by decide) ?_
            refine j_sub [1, 3, 4, 5] rfl ?_
            refine j_widen (k := (9487 + (21 - (n + 1)) * 94 + 60)) (n := (892987 + (21 - (n + 1)) * 11990 + 11786)) (by omega) (by omega) ?_
            exact k_L_law_b233 hN X hR Rt (fun _ _ _ _ _ _ h => ih (by omega) h) h
def w_L_law_b150 (κ : Nat → Nat) (w : va_W) (c0 : Nat) (a1 : Nat) (x2 : Int32) (x3 : Int32) (K113 : va_W → Nat → Nat → Int32 → Int32 → Prop) (P : Int32 → va_W → Prop) : Prop :=
    K113 w c0 a1 x2 (x3 + 1)
set_option maxRecDepth 100000 in
set_option maxHeartbeats 4000000 in
theorem k_L_law_b150 {N : Nat} (hN : N + 1 ≤ 31) {Γ : jG} (X : jX Γ cL_law 9 RL) (hR : jgR Γ = ({ frames := 2048, cells := 663623, slots := 7110600, locals := 84000 } : Room)) {P : Int32 → va_W → Prop} (Rt : jRt Γ cL_law 9 663623 7110600 (some .boolean) (jPi P)) {K113 : va_W → Nat → Nat → Int32 → Int32 → Prop} (hK113 : ∀ (w : va_W) (c0 : Nat) (a1 : Nat) (x2 : Int32) (x3 : Int32), K113 w c0 a1 x2 x3 → J Γ 9 w (373 + (31 - N) * 127 + 0) (15693 + (31 - N) * 12188 + 0) 113 [(0, .ref ((jgE Γ).2.2.2 c0)), (1, .ref a1), (2, .int x2), (3, .int x3)] []) {w : va_W} {c0 : Nat} {a1 : Nat} {x2 : Int32} {x3 : Int32} (h : w_L_law_b150 (jgE Γ).2.2.2 w c0 a1 x2 x3 K113 P) : J Γ 9 w (373 + (31 - (N + 1)) * 127 + 127) (15693 + (31 - (N + 1)) * 12188 + 12188) 150 [(0, .ref ((jgE Γ).2.2.2 c0)), (1, .ref a1), (2, .int x2), (3, .int x3)] [] := by
  unfold w_L_law_b150 at h
  refine j_iinc X (x3 + 1) [(3, .int (x3 + 1)), (0, .ref ((jgE Γ).2.2.2 c0)), (1, .ref a1), (2, .int x2)] dL_law_150 3 rfl rfl (by decide) rfl ?_
  refine j_goto X 113 dL_law_153 (by decide) ?_
  refine j_sub [1, 2, 3, 0] rfl ?_
  refine j_widen (k := (373 + (31 - N) * 127 + 0)) (n := (15693 + (31 - N) * 12188 + 0)) (by omega) (by omega) ?_
  exact hK113 _ _ _ _ _ h
def w_L_law_b113 : Nat → (κ : Nat → Nat) → (w : va_W) → (c0 : Nat) → (a1 : Nat) → (x2 : Int32) → (x3 : Int32) → (P : Int32 → va_W → Prop) → Prop
  | 0, _, _, _, _, _, _, _ => False
  | n + 1, κ, w, c0, a1, x2, x3, P =>
    (if x2 ≤ x3 then w_L_isFit κ w a1 (fun v1 w1 => w_L_runScript κ w1 a1 (fun v2 w2 => w_L_digest κ w2 a1 (fun v3 w3 => (jRc w3 a1 11 ∧ w_X8_save κ w3 a1 (fun v4 w4 => w_L_law_b181 21 κ w4 a1 v1 v3 v4 0 P))))) else w_L_digest κ w a1 (fun v5 w5 => w_L_cell κ w5 c0 x3 (fun v6 w6 => w_L_act κ w6 a1 v6 (fun v7 w7 => (if v7 = (-100000000) then w_L_digest κ w7 a1 (fun v8 w8 => (if (lg_cmp v8 v5) = 0 then w_L_law_b150 κ w8 c0 a1 x2 x3 (fun w_ z_c0 z_a1 z_x2 z_x3 => w_L_law_b113 n κ w_ z_c0 z_a1 z_x2 z_x3 P) P else P 0 w8)) else w_L_law_b150 κ w7 c0 a1 x2 x3 (fun w_ z_c0 z_a1 z_x2 z_x3 => w_L_law_b113 n κ w_ z_c0 z_a1 z_x2 z_x3 P) P)))))
set_option maxRecDepth 100000 in
set_option maxHeartbeats 4000000 in
theorem k_L_law_b113 {Γ : jG} (X : jX Γ cL_law 9 RL) (hR : jgR Γ = ({ frames := 2048, cells := 663623, slots := 7110600, locals := 84000 } : Room)) {P : Int32 → va_W → Prop} (Rt : jRt Γ cL_law 9 663623 7110600 (some .boolean) (jPi P)) : ∀ (n : Nat) (hN : n ≤ 31) {w : va_W} {c0 : Nat} {a1 : Nat} {x2 : Int32} {x3 : Int32} (h : w_L_law_b113 n (jgE Γ).2.2.2 w c0 a1 x2 x3 P), J Γ 9 w (373 + (31 - n) * 127 + 0) (15693 + (31 - n) * 12188 + 0) 113 [(0, .ref ((jgE Γ).2.2.2 c0)), (1, .ref a1), (2, .int x2), (3, .int x3)] [] := by
  intro n
  induction n with
  | zero => intro hN w c0 a1 x2 x3 h; exact False.elim h
  | succ n ih =>
    intro hN w c0 a1 x2 x3 h
    rw [w_L_law_b113] at h
    refine j_iload_n X dL_law_113 3 rfl ?_
    refine j_iload_n X dL_law_114 2 rfl ?_
    refine j_icmp_ge X 156 dL_law_115 (by decide) (fun c => ?_) (fun c => ?_)
    · replace h := jif_t c h
      refine j_aload_n X dL_law_156 1 rfl ?_
      refine j_callSi X [.ref a1] [] (c_L_isFit h) jm_L_isFit jw_1534 rfl ⟨rfl, rfl⟩ (by rw [hR]; exact ⟨⟨by decide, by decide⟩, by simp only []; omega, by simp only []; omega⟩) rfl (Nat.le_of_ble_eq_true rfl) dL_law_157 (fun v1 w1 h => ?_)
      refine j_istore_n X [(3, .int v1), (0, .ref ((jgE Γ).2.2.2 c0)), (1, .ref a1), (2, .int x2)] dL_law_160 (by decide) rfl ?_
      refine j_aload_n X dL_law_161 2 rfl ?_
      refine j_callWi X [.ref a1] [] (c_L_runScript h) jmw_L_runScript jw_698 rfl ⟨rfl, rfl⟩ (by rw [hR]; exact ⟨⟨by decide, by decide⟩, by simp only []; omega, by simp only []; omega⟩) rfl (Nat.le_of_ble_eq_true rfl) dL_law_162 (fun v2 w2 h => ?_)
      refine j_pop X dL_law_165 rfl ?_
      refine j_aload_n X dL_law_166 2 rfl ?_
      refine j_callSl X [.ref a1] [] (c_L_digest h) jm_L_digest jw_1212 rfl ⟨rfl, rfl⟩ (by rw [hR]; exact ⟨⟨by decide, by decide⟩, by simp only []; omega, by simp only []; omega⟩) rfl (Nat.le_of_ble_eq_true rfl) dL_law_167 (fun v3 w3 h => ?_)
      refine j_lstore X [(4, .long v3), (3, .int v1), (0, .ref ((jgE Γ).2.2.2 c0)), (1, .ref a1), (2, .int x2)] dL_law_170 (by decide) rfl ?_
      refine j_aload_n X dL_law_172 3 rfl ?_
      obtain ⟨⟨fs4, g4⟩, h⟩ := h
      refine j_callVi X [] [] (c_X8_save h) (T := TX8) (N := 11) g4 rfl jm_X8_save jw_336 rfl ⟨rfl, rfl⟩ (by rw [hR]; exact ⟨⟨by decide, by decide⟩, by simp only []; omega, by simp only []; omega⟩) rfl (Nat.le_of_ble_eq_true rfl) dL_law_173 (fun v4 w4 h => ?_)
      refine j_istore X [(6, .int v4), (4, .long v3), (3, .int v1), (0, .ref ((jgE Γ).2.2.2 c0)), (1, .ref a1), (2, .int x2)] dL_law_176 (by decide) rfl ?_
      refine j_iconst X 0 dL_law_178 (by decide) ?_
      refine j_istore X [(7, .int 0), (6, .int v4), (4, .long v3), (3, .int v1), (0, .ref ((jgE Γ).2.2.2 c0)), (1, .ref a1), (2, .int x2)] dL_law_179 (by decide) rfl ?_
      refine j_sub [5, 3, 2, 1, 0] rfl ?_
      refine j_widen (k := (9487 + (21 - 21) * 94 + 0)) (n := (892987 + (21 - 21) * 11990 + 0)) (by omega) (by omega) ?_
      exact k_L_law_b181 X hR Rt _ (Nat.le_refl _) h
    · replace h := jif_f c h
      refine j_aload_n X dL_law_118 1 rfl ?_
      refine j_callSl X [.ref a1] [] (c_L_digest h) jm_L_digest jw_1212 rfl ⟨rfl, rfl⟩ (by rw [hR]; exact ⟨⟨by decide, by decide⟩, by simp only []; omega, by simp only []; omega⟩) rfl (Nat.le_of_ble_eq_true rfl) dL_law_119 (fun v5 w5 h => ?_)
      refine j_lstore X [(4, .long v5), (0, .ref ((jgE Γ).2.2.2 c0)), (1, .ref a1), (2, .int x2), (3, .int x3)] dL_law_122 (by decide) rfl ?_
      refine j_aload_n X dL_law_124 2 rfl ?_
      refine j_aload_n X dL_law_125 1 rfl ?_
      refine j_iload_n X dL_law_126 4 rfl ?_
      refine j_callSi X [.ref ((jgE Γ).2.2.2 c0), .int x3] [.ref a1] (c_L_cell h) jm_L_cell jw_371 rfl ⟨rfl, rfl⟩ (by rw [hR]; exact ⟨⟨by decide, by decide⟩, by simp only []; omega, by simp only []; omega⟩) rfl (Nat.le_of_ble_eq_true rfl) dL_law_127 (fun v6 w6 h => ?_)
      refine j_callSi X [.ref a1, .int v6] [] (c_L_act h) jm_L_act jw_1185 rfl ⟨rfl, rfl⟩ (by rw [hR]; exact ⟨⟨by decide, by decide⟩, by simp only []; omega, by simp only []; omega⟩) rfl (Nat.le_of_ble_eq_true rfl) dL_law_130 (fun v7 w7 h => ?_)
      refine j_ldc X dL_law_133 jw_379 ?_
      refine j_icmp_ne X 150 dL_law_135 (by decide) (fun c => ?_) (fun c => ?_)
      · replace h := jif_f c h
        refine j_sub [1, 2, 3, 4] rfl ?_
        refine j_widen (k := (373 + (31 - (n + 1)) * 127 + 127)) (n := (15693 + (31 - (n + 1)) * 12188 + 12188)) (by omega) (by omega) ?_
        exact k_L_law_b150 hN X hR Rt (fun _ _ _ _ _ h => ih (by omega) h) h
      · replace h := jif_t c h
        refine j_aload_n X dL_law_138 2 rfl ?_
        refine j_callSl X [.ref a1] [] (c_L_digest h) jm_L_digest jw_1212 rfl ⟨rfl, rfl⟩ (by rw [hR]; exact ⟨⟨by decide, by decide⟩, by simp only []; omega, by simp only []; omega⟩) rfl (Nat.le_of_ble_eq_true rfl) dL_law_139 (fun v8 w8 h => ?_)
        refine j_lload X dL_law_142 0 rfl ?_
        refine j_lcmp X dL_law_144 ?_
        refine j_if_eq X 150 dL_law_145 (by decide) (fun c => ?_) (fun c => ?_)
        · replace h := jif_t c h
          refine j_sub [1, 2, 3, 4] rfl ?_
          refine j_widen (k := (373 + (31 - (n + 1)) * 127 + 127)) (n := (15693 + (31 - (n + 1)) * 12188 + 12188)) (by omega) (by omega) ?_
          exact k_L_law_b150 hN X hR Rt (fun _ _ _ _ _ h => ih (by omega) h) h
        · replace h := jif_f c h
          refine j_iconst X 0 dL_law_148 (by decide) ?_
          exact Rt.z dL_law_149 (by decide) ⟨_, rfl, h⟩ (by first | decide | omega) (by first | decide | omega)
def w_L_law_b110 (κ : Nat → Nat) (w : va_W) (c0 : Nat) (a1 : Nat) (s0 : Int32) (P : Int32 → va_W → Prop) : Prop :=
    w_L_law_b113 31 κ w c0 a1 s0 0 P
set_option maxRecDepth 100000 in
set_option maxHeartbeats 4000000 in
theorem k_L_law_b110 {Γ : jG} (X : jX Γ cL_law 9 RL) (hR : jgR Γ = ({ frames := 2048, cells := 663623, slots := 7110600, locals := 84000 } : Room)) {P : Int32 → va_W → Prop} (Rt : jRt Γ cL_law 9 663623 7110600 (some .boolean) (jPi P)) {w : va_W} {c0 : Nat} {a1 : Nat} {s0 : Int32} (h : w_L_law_b110 (jgE Γ).2.2.2 w c0 a1 s0 P) : J Γ 9 w 373 15693 110 [(0, .ref ((jgE Γ).2.2.2 c0)), (1, .ref a1)] [.int s0] := by
  unfold w_L_law_b110 at h
  refine j_istore_n X [(2, .int s0), (0, .ref ((jgE Γ).2.2.2 c0)), (1, .ref a1)] dL_law_110 (by decide) rfl ?_
  refine j_iconst X 0 dL_law_111 (by decide) ?_
  refine j_istore_n X [(3, .int 0), (2, .int s0), (0, .ref ((jgE Γ).2.2.2 c0)), (1, .ref a1)] dL_law_112 (by decide) rfl ?_
  refine j_sub [2, 3, 1, 0] rfl ?_
  refine j_widen (k := (373 + (31 - 31) * 127 + 0)) (n := (15693 + (31 - 31) * 12188 + 0)) (by omega) (by omega) ?_
  exact k_L_law_b113 X hR Rt _ (Nat.le_refl _) h
def w_L_law_b10 : Nat → (κ : Nat → Nat) → (w : va_W) → (c0 : Nat) → (a1 : Nat) → (x2 : Int32) → (P : Int32 → va_W → Prop) → Prop
  | 0, _, _, _, _, _, _ => False
  | n + 1, κ, w, c0, a1, x2, P =>
    (if 3 ≤ x2 then w_L_follow κ w a1 1 2 (fun v1 w1 => (c0 = 9 ∧ (if 30 ≤ (Int32.ofNat (κ 200)) then w_L_law_b110 κ w1 c0 a1 30 P else (c0 = 9 ∧ w_L_law_b110 κ w1 c0 a1 (Int32.ofNat (κ 200)) P)))) else w_L_addHill κ w a1 (fun v2 w2 => w_L_cell κ w2 c0 x2 (fun v3 w3 => w_L_collect κ w3 a1 x2 ((jshr v3 4) &&& 63) (fun v4 w4 => w_L_cell κ w4 c0 x2 (fun v5 w5 => w_L_collect κ w5 a1 x2 ((jshr v5 6) &&& 63) (fun v6 w6 => w_L_writeBlock κ w6 a1 x2 (fun v7 w7 => w_L_cell κ w7 c0 (x2 + 1) (fun v8 w8 => w_L_collect κ w8 a1 x2 ((jshr v8 3) &&& 63) (fun v9 w9 => w_L_writeBlock κ w9 a1 x2 (fun v10 w10 => w_L_law_b10 n κ w10 c0 a1 (x2 + 1) P))))))))))
set_option maxRecDepth 100000 in
set_option maxHeartbeats 4000000 in
theorem k_L_law_b10 {Γ : jG} (X : jX Γ cL_law 9 RL) (hR : jgR Γ = ({ frames := 2048, cells := 663623, slots := 7110600, locals := 84000 } : Room)) {P : Int32 → va_W → Prop} (Rt : jRt Γ cL_law 9 663623 7110600 (some .boolean) (jPi P)) : ∀ (n : Nat) (hN : n ≤ 4) {w : va_W} {c0 : Nat} {a1 : Nat} {x2 : Int32} (h : w_L_law_b10 n (jgE Γ).2.2.2 w c0 a1 x2 P), J Γ 9 w (348 + (4 - n) * 6 + 0) (15543 + (4 - n) * 36 + 0) 10 [(0, .ref ((jgE Γ).2.2.2 c0)), (1, .ref a1), (2, .int x2)] [] := by
  intro n
  induction n with
  | zero => intro hN w c0 a1 x2 h; exact False.elim h
  | succ n ih =>
    intro hN w c0 a1 x2 h
    rw [w_L_law_b10] at h
    refine j_iload_n X dL_law_10 2 rfl ?_
    refine j_iconst X 3 dL_law_11 (by decide) ?_
    refine j_icmp_ge X 89 dL_law_12 (by decide) (fun c => ?_) (fun c => ?_)
    · replace h := jif_t c h
      refine j_aload_n X dL_law_89 1 rfl ?_
      refine j_iconst X 1 dL_law_90 (by decide) ?_
      refine j_iconst X 2 dL_law_91 (by decide) ?_
      refine j_callWi X [.ref a1, .int 1, .int 2] [] (c_L_follow h) jmw_L_follow jw_650 rfl ⟨rfl, rfl⟩ (by rw [hR]; exact ⟨⟨by decide, by decide⟩, by simp only []; omega, by simp only []; omega⟩) rfl (Nat.le_of_ble_eq_true rfl) dL_law_92 (fun v1 w1 h => ?_)
      refine j_pop X dL_law_95 rfl ?_
      refine j_aload_n X dL_law_96 0 rfl ?_
      refine j_xlen X h.1 dL_law_97 ?_
      replace h := h.2
      refine j_bipush X 30 dL_law_98 (by decide) ?_
      refine j_icmp_ge X 108 dL_law_100 (by decide) (fun c => ?_) (fun c => ?_)
      · replace h := jif_t c h
        refine j_bipush X 30 dL_law_108 (by decide) ?_
        refine j_sub [0, 1] rfl ?_
        refine j_widen (k := 373) (n := 15693) (by omega) (by omega) ?_
        exact k_L_law_b110 X hR Rt h
      · replace h := jif_f c h
        refine j_aload_n X dL_law_103 0 rfl ?_
        refine j_xlen X h.1 dL_law_104 ?_
        replace h := h.2
        refine j_goto X 110 dL_law_105 (by decide) ?_
        refine j_sub [0, 1] rfl ?_
        refine j_widen (k := 373) (n := 15693) (by omega) (by omega) ?_
        exact k_L_law_b110 X hR Rt h
    · replace h := jif_f c h
      refine j_aload_n X dL_law_15 1 rfl ?_
      refine j_callWi X [.ref a1] [] (c_L_addHill h) jmw_L_addHill jw_375 rfl ⟨rfl, rfl⟩ (by rw [hR]; exact ⟨⟨by decide, by decide⟩, by simp only []; omega, by simp only []; omega⟩) rfl (Nat.le_of_ble_eq_true rfl) dL_law_16 (fun v2 w2 h => ?_)
      refine j_pop X dL_law_19 rfl ?_
      refine j_aload_n X dL_law_20 1 rfl ?_
      refine j_iload_n X dL_law_21 2 rfl ?_
      refine j_aload_n X dL_law_22 0 rfl ?_
      refine j_iload_n X dL_law_23 2 rfl ?_
      refine j_callSi X [.ref ((jgE Γ).2.2.2 c0), .int x2] [.int x2, .ref a1] (c_L_cell h) jm_L_cell jw_371 rfl ⟨rfl, rfl⟩ (by rw [hR]; exact ⟨⟨by decide, by decide⟩, by simp only []; omega, by simp only []; omega⟩) rfl (Nat.le_of_ble_eq_true rfl) dL_law_24 (fun v3 w3 h => ?_)
      refine j_iconst X 4 dL_law_27 (by decide) ?_
      refine j_ishr X dL_law_28 ?_
      refine j_bipush X 63 dL_law_29 (by decide) ?_
      refine j_iand X dL_law_31 ?_
      refine j_callWi X [.ref a1, .int x2, .int ((jshr v3 4) &&& 63)] [] (c_L_collect h) jmw_L_collect jw_559 rfl ⟨rfl, rfl⟩ (by rw [hR]; exact ⟨⟨by decide, by decide⟩, by simp only []; omega, by simp only []; omega⟩) rfl (Nat.le_of_ble_eq_true rfl) dL_law_32 (fun v4 w4 h => ?_)
      refine j_pop X dL_law_35 rfl ?_
      refine j_aload_n X dL_law_36 1 rfl ?_
      refine j_iload_n X dL_law_37 2 rfl ?_
      refine j_aload_n X dL_law_38 0 rfl ?_
      refine j_iload_n X dL_law_39 2 rfl ?_
      refine j_callSi X [.ref ((jgE Γ).2.2.2 c0), .int x2] [.int x2, .ref a1] (c_L_cell h) jm_L_cell jw_371 rfl ⟨rfl, rfl⟩ (by rw [hR]; exact ⟨⟨by decide, by decide⟩, by simp only []; omega, by simp only []; omega⟩) rfl (Nat.le_of_ble_eq_true rfl) dL_law_40 (fun v5 w5 h => ?_)
      refine j_bipush X 6 dL_law_43 (by decide) ?_
      refine j_ishr X dL_law_45 ?_
      refine j_bipush X 63 dL_law_46 (by decide) ?_
      refine j_iand X dL_law_48 ?_
      refine j_callWi X [.ref a1, .int x2, .int ((jshr v5 6) &&& 63)] [] (c_L_collect h) jmw_L_collect jw_559 rfl ⟨rfl, rfl⟩ (by rw [hR]; exact ⟨⟨by decide, by decide⟩, by simp only []; omega, by simp only []; omega⟩) rfl (Nat.le_of_ble_eq_true rfl) dL_law_49 (fun v6 w6 h => ?_)
      refine j_pop X dL_law_52 rfl ?_
      refine j_aload_n X dL_law_53 1 rfl ?_
      refine j_iload_n X dL_law_54 2 rfl ?_
      refine j_callWi X [.ref a1, .int x2] [] (c_L_writeBlock h) jmw_L_writeBlock jw_594 rfl ⟨rfl, rfl⟩ (by rw [hR]; exact ⟨⟨by decide, by decide⟩, by simp only []; omega, by simp only []; omega⟩) rfl (Nat.le_of_ble_eq_true rfl) dL_law_55 (fun v7 w7 h => ?_)
      refine j_pop X dL_law_58 rfl ?_
      refine j_aload_n X dL_law_59 1 rfl ?_
      refine j_iload_n X dL_law_60 2 rfl ?_
      refine j_aload_n X dL_law_61 0 rfl ?_
      refine j_iload_n X dL_law_62 2 rfl ?_
      refine j_iconst X 1 dL_law_63 (by decide) ?_
      refine j_iadd X dL_law_64 ?_
      refine j_callSi X [.ref ((jgE Γ).2.2.2 c0), .int (x2 + 1)] [.int x2, .ref a1] (c_L_cell h) jm_L_cell jw_371 rfl ⟨rfl, rfl⟩ (by rw [hR]; exact ⟨⟨by decide, by decide⟩, by simp only []; omega, by simp only []; omega⟩) rfl (Nat.le_of_ble_eq_true rfl) dL_law_65 (fun v8 w8 h => ?_)
      refine j_iconst X 3 dL_law_68 (by decide) ?_
      refine j_ishr X dL_law_69 ?_
      refine j_bipush X 63 dL_law_70 (by decide) ?_
      refine j_iand X dL_law_72 ?_
      refine j_callWi X [.ref a1, .int x2, .int ((jshr v8 3) &&& 63)] [] (c_L_collect h) jmw_L_collect jw_559 rfl ⟨rfl, rfl⟩ (by rw [hR]; exact ⟨⟨by decide, by decide⟩, by simp only []; omega, by simp only []; omega⟩) rfl (Nat.le_of_ble_eq_true rfl) dL_law_73 (fun v9 w9 h => ?_)
      refine j_pop X dL_law_76 rfl ?_
      refine j_aload_n X dL_law_77 1 rfl ?_
      refine j_iload_n X dL_law_78 2 rfl ?_
      refine j_callWi X [.ref a1, .int x2] [] (c_L_writeBlock h) jmw_L_writeBlock jw_594 rfl ⟨rfl, rfl⟩ (by rw [hR]; exact ⟨⟨by decide, by decide⟩, by simp only []; omega, by simp only []; omega⟩) rfl (Nat.le_of_ble_eq_true rfl) dL_law_79 (fun v10 w10 h => ?_)
      refine j_pop X dL_law_82 rfl ?_
      refine j_iinc X (x2 + 1) [(2, .int (x2 + 1)), (0, .ref ((jgE Γ).2.2.2 c0)), (1, .ref a1)] dL_law_83 2 rfl rfl (by decide) rfl ?_
      refine j_goto X 10 dL_law_86 (by decide) ?_
      refine j_sub [1, 2, 0] rfl ?_
      refine j_widen (k := (348 + (4 - n) * 6 + 0)) (n := (15543 + (4 - n) * 36 + 0)) (by omega) (by omega) ?_
      exact ih (by omega) h
def w_L_law_b0 (κ : Nat → Nat) (w : va_W) (c0 : Nat) (P : Int32 → va_W → Prop) : Prop :=
    (∀ q1 : Nat, jlk w q1 = none → (fun w1 => w_X8_init κ w1 q1 (fun w2 => w_L_law_b10 4 κ w2 c0 q1 0 P)) (w ++ [(q1, .inr (11, [.null, .null, .null, .null, .null, .int 0, .null, .null, .null, .int 0, .int 0]))]))
set_option maxRecDepth 100000 in
set_option maxHeartbeats 4000000 in
theorem k_L_law_b0 {Γ : jG} (X : jX Γ cL_law 9 RL) (hR : jgR Γ = ({ frames := 2048, cells := 663623, slots := 7110600, locals := 84000 } : Room)) {P : Int32 → va_W → Prop} (Rt : jRt Γ cL_law 9 663623 7110600 (some .boolean) (jPi P)) {w : va_W} {c0 : Nat} (h : w_L_law_b0 (jgE Γ).2.2.2 w c0 P) : J Γ 9 w 0 0 0 [(0, .ref ((jgE Γ).2.2.2 c0))] [] := by
  unfold w_L_law_b0 at h
  refine j_new X (C := RX8) (T := TX8) (N := 11) 11 [.null, .null, .null, .null, .null, .int 0, .null, .null, .null, .int 0, .int 0] rfl jin_X8 tyX8 tyX8_ok jw_54 jw_55 jw_22 (fun j hj => by rcases (show j = 0 ∨ j = 1 ∨ j = 2 ∨ j = 3 ∨ j = 4 ∨ j = 5 ∨ j = 6 ∨ j = 7 ∨ j = 8 ∨ j = 9 ∨ j = 10 by omega) with rfl | rfl | rfl | rfl | rfl | rfl | rfl | rfl | rfl | rfl | rfl <;> rfl) (by rw [hR]; exact ⟨by simp only []; omega, by simp only []; omega⟩) dL_law_0 (fun q1 e1 => ?_)
  replace h := h q1 e1
  generalize w ++ [(q1, _)] = w1 at h ⊢
  refine j_dup X dL_law_3 rfl ?_
  refine j_callI X [] [.ref q1] (c_X8_init h) jmi_X8_init jw_56 rfl ⟨rfl, rfl⟩ (by rw [hR]; decide) rfl (Nat.le_of_ble_eq_true rfl) dL_law_4 (fun w2 h => ?_)
  refine j_astore_n X [(1, .ref q1), (0, .ref ((jgE Γ).2.2.2 c0))] dL_law_7 (by decide) rfl ?_
  refine j_iconst X 0 dL_law_8 (by decide) ?_
  refine j_istore_n X [(2, .int 0), (1, .ref q1), (0, .ref ((jgE Γ).2.2.2 c0))] dL_law_9 (by decide) rfl ?_
  refine j_sub [2, 1, 0] rfl ?_
  refine j_widen (k := (348 + (4 - 4) * 6 + 0)) (n := (15543 + (4 - 4) * 36 + 0)) (by omega) (by omega) ?_
  exact k_L_law_b10 X hR Rt _ (Nat.le_refl _) h
def w_L_law (κ : Nat → Nat) (w : va_W) (c0 : Nat) (P : Int32 → va_W → Prop) : Prop := w_L_law_b0 κ w c0 P
