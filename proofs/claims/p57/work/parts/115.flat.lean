/-! ===== the law's entry: laid by wip/p57/mkstart.py ===== -/
def jFlat : List Cond := flatC (Cond.and given_1 narrow_1)
def jTm (n : Nat) : Term := .string (jStr.getD n ("", 0, "", 0)).1 (jStr.getD n ("", 0, "", 0)).2.1
theorem j_eqR {args : Array Value} {s : State} {t u : Term} {b : Nat} (h : (Cond.eq t u).before args s = true) (hu : u.eval args s none [] s = some (.ref b)) : t.eval args s none [] s = some (.ref b) := by
  cases hv : t.eval args s none [] s with
  | none => simp [Cond.before, Cond.holds, Cond.value, hv] at h
  | some w =>
    simp only [Cond.before, Cond.holds, Cond.value, hv, hu] at h
    cases w <;> simp_all
def jWex (n : Nat) : Cond := Cond.exactly (jTm n) "java/lang/String"
def jWco (n : Nat) : Cond := Cond.eq (.field (jTm n) "java/lang/String" "coder" "B") (.int 0)
def jWar (n : Nat) : Cond := Cond.arrayOf (.field (jTm n) "java/lang/String" "value" "[B") .byte
def jWle (n : Nat) : Cond := Cond.eq (.length (.field (jTm n) "java/lang/String" "value" "[B")) (.int (Int32.ofNat (jLen n)))
def jWel (n j : Nat) : Cond := Cond.eq (.elem (.field (jTm n) "java/lang/String" "value" "[B") (.int (Int32.ofNat j))) (.int (nI (jByt n j)))
def jBlk (n : Nat) : List Cond := [jWex n, jWco n, jWar n, jWle n] ++ (List.range (jLen n)).map (jWel n)
theorem jmt {k m : Nat} {c : Cond} {B : List Cond} (h : (jFlat.drop k).take m = B) (hc : c ∈ B) : c ∈ jFlat := List.mem_of_mem_drop (List.mem_of_mem_take (h ▸ hc))
theorem jfb_0 : (jFlat.drop 567).take 8 = jBlk 0 := by decide +kernel
theorem jfb_1 : (jFlat.drop 575).take 10 = jBlk 1 := by decide +kernel
theorem jfb_2 : (jFlat.drop 585).take 11 = jBlk 2 := by decide +kernel
theorem jfb_3 : (jFlat.drop 596).take 9 = jBlk 3 := by decide +kernel
theorem jfb_4 : (jFlat.drop 605).take 6 = jBlk 4 := by decide +kernel
theorem jfb_5 : (jFlat.drop 611).take 7 = jBlk 5 := by decide +kernel
theorem jfb_6 : (jFlat.drop 618).take 7 = jBlk 6 := by decide +kernel
theorem jfb_7 : (jFlat.drop 1147).take 8 = jBlk 7 := by decide +kernel
theorem jfb_8 : (jFlat.drop 1156).take 13 = jBlk 8 := by decide +kernel
theorem jfb_9 : (jFlat.drop 1169).take 11 = jBlk 9 := by decide +kernel
theorem jfb_10 : (jFlat.drop 1180).take 16 = jBlk 10 := by decide +kernel
theorem jfb_11 : (jFlat.drop 1196).take 30 = jBlk 11 := by decide +kernel
theorem jfb_12 : (jFlat.drop 1226).take 21 = jBlk 12 := by decide +kernel
theorem jfb_13 : (jFlat.drop 1247).take 14 = jBlk 13 := by decide +kernel
theorem jfb_14 : (jFlat.drop 1261).take 22 = jBlk 14 := by decide +kernel
theorem jfb_15 : (jFlat.drop 1283).take 10 = jBlk 15 := by decide +kernel
theorem jfb_16 : (jFlat.drop 1293).take 17 = jBlk 16 := by decide +kernel
theorem jfb_17 : (jFlat.drop 1310).take 14 = jBlk 17 := by decide +kernel
theorem jfb_18 : (jFlat.drop 1324).take 22 = jBlk 18 := by decide +kernel
theorem jfb_19 : (jFlat.drop 1346).take 10 = jBlk 19 := by decide +kernel
theorem jfb_20 : (jFlat.drop 1356).take 17 = jBlk 20 := by decide +kernel
theorem jfb_21 : (jFlat.drop 1373).take 15 = jBlk 21 := by decide +kernel
theorem jfb_22 : (jFlat.drop 1388).take 10 = jBlk 22 := by decide +kernel
theorem jfb_23 : (jFlat.drop 1398).take 10 = jBlk 23 := by decide +kernel
theorem jfb_24 : (jFlat.drop 1408).take 14 = jBlk 24 := by decide +kernel
theorem jfb_25 : (jFlat.drop 1422).take 11 = jBlk 25 := by decide +kernel
theorem jfb_26 : (jFlat.drop 1433).take 26 = jBlk 26 := by decide +kernel
theorem jfx_27 : jWex 27 ∈ jFlat := List.mem_of_getElem? (i := 350) (by decide +kernel)
theorem jfx_28 : jWex 28 ∈ jFlat := List.mem_of_getElem? (i := 387) (by decide +kernel)
theorem jfx_29 : jWex 29 ∈ jFlat := List.mem_of_getElem? (i := 425) (by decide +kernel)
theorem jfx_30 : jWex 30 ∈ jFlat := List.mem_of_getElem? (i := 480) (by decide +kernel)
theorem jfx_31 : jWex 31 ∈ jFlat := List.mem_of_getElem? (i := 531) (by decide +kernel)
theorem jfx_32 : jWex 32 ∈ jFlat := List.mem_of_getElem? (i := 728) (by decide +kernel)
theorem jfx_33 : jWex 33 ∈ jFlat := List.mem_of_getElem? (i := 774) (by decide +kernel)
theorem jfx_34 : jWex 34 ∈ jFlat := List.mem_of_getElem? (i := 808) (by decide +kernel)
theorem jfx_35 : jWex 35 ∈ jFlat := List.mem_of_getElem? (i := 842) (by decide +kernel)
theorem jfx_36 : jWex 36 ∈ jFlat := List.mem_of_getElem? (i := 870) (by decide +kernel)
theorem jfx_37 : jWex 37 ∈ jFlat := List.mem_of_getElem? (i := 894) (by decide +kernel)
theorem jfx_38 : jWex 38 ∈ jFlat := List.mem_of_getElem? (i := 936) (by decide +kernel)
theorem jfx_39 : jWex 39 ∈ jFlat := List.mem_of_getElem? (i := 965) (by decide +kernel)
theorem jfx_40 : jWex 40 ∈ jFlat := List.mem_of_getElem? (i := 990) (by decide +kernel)
theorem jfx_41 : jWex 41 ∈ jFlat := List.mem_of_getElem? (i := 1033) (by decide +kernel)
theorem jfx_42 : jWex 42 ∈ jFlat := List.mem_of_getElem? (i := 1067) (by decide +kernel)
theorem jfx_43 : jWex 43 ∈ jFlat := List.mem_of_getElem? (i := 1090) (by decide +kernel)
theorem jfx_44 : jWex 44 ∈ jFlat := List.mem_of_getElem? (i := 1122) (by decide +kernel)
theorem jfb : ∀ n, n < 27 → ∀ c ∈ jBlk n, c ∈ jFlat := by
  intro n hn c hc
  rcases (show n = 0 ∨ n = 1 ∨ n = 2 ∨ n = 3 ∨ n = 4 ∨ n = 5 ∨ n = 6 ∨ n = 7 ∨ n = 8 ∨ n = 9 ∨ n = 10 ∨ n = 11 ∨ n = 12 ∨ n = 13 ∨ n = 14 ∨ n = 15 ∨ n = 16 ∨ n = 17 ∨ n = 18 ∨ n = 19 ∨ n = 20 ∨ n = 21 ∨ n = 22 ∨ n = 23 ∨ n = 24 ∨ n = 25 ∨ n = 26 by omega) with rfl | rfl | rfl | rfl | rfl | rfl | rfl | rfl | rfl | rfl | rfl | rfl | rfl | rfl | rfl | rfl | rfl | rfl | rfl | rfl | rfl | rfl | rfl | rfl | rfl | rfl | rfl
  · exact jmt jfb_0 hc
  · exact jmt jfb_1 hc
  · exact jmt jfb_2 hc
  · exact jmt jfb_3 hc
  · exact jmt jfb_4 hc
  · exact jmt jfb_5 hc
  · exact jmt jfb_6 hc
  · exact jmt jfb_7 hc
  · exact jmt jfb_8 hc
  · exact jmt jfb_9 hc
  · exact jmt jfb_10 hc
  · exact jmt jfb_11 hc
  · exact jmt jfb_12 hc
  · exact jmt jfb_13 hc
  · exact jmt jfb_14 hc
  · exact jmt jfb_15 hc
  · exact jmt jfb_16 hc
  · exact jmt jfb_17 hc
  · exact jmt jfb_18 hc
  · exact jmt jfb_19 hc
  · exact jmt jfb_20 hc
  · exact jmt jfb_21 hc
  · exact jmt jfb_22 hc
  · exact jmt jfb_23 hc
  · exact jmt jfb_24 hc
  · exact jmt jfb_25 hc
  · exact jmt jfb_26 hc
theorem jF_ex : ∀ n, n < 45 → Cond.exactly (jTm n) "java/lang/String" ∈ jFlat := by
  intro n hn
  by_cases h : n < 27
  · exact jfb n h (jWex n) (List.mem_append_left _ List.mem_cons_self)
  · rcases (show n = 27 ∨ n = 28 ∨ n = 29 ∨ n = 30 ∨ n = 31 ∨ n = 32 ∨ n = 33 ∨ n = 34 ∨ n = 35 ∨ n = 36 ∨ n = 37 ∨ n = 38 ∨ n = 39 ∨ n = 40 ∨ n = 41 ∨ n = 42 ∨ n = 43 ∨ n = 44 by omega) with rfl | rfl | rfl | rfl | rfl | rfl | rfl | rfl | rfl | rfl | rfl | rfl | rfl | rfl | rfl | rfl | rfl | rfl
    · exact jfx_27
    · exact jfx_28
    · exact jfx_29
    · exact jfx_30
    · exact jfx_31
    · exact jfx_32
    · exact jfx_33
    · exact jfx_34
    · exact jfx_35
    · exact jfx_36
    · exact jfx_37
    · exact jfx_38
    · exact jfx_39
    · exact jfx_40
    · exact jfx_41
    · exact jfx_42
    · exact jfx_43
    · exact jfx_44
theorem jF_co : ∀ n, n < 27 → Cond.eq (.field (jTm n) "java/lang/String" "coder" "B") (.int 0) ∈ jFlat := fun n h => jfb n h (jWco n) (by simp [jBlk])
theorem jF_ar : ∀ n, n < 27 → Cond.arrayOf (.field (jTm n) "java/lang/String" "value" "[B") .byte ∈ jFlat := fun n h => jfb n h (jWar n) (by simp [jBlk])
theorem jF_le : ∀ n, n < 27 → Cond.eq (.length (.field (jTm n) "java/lang/String" "value" "[B")) (.int (Int32.ofNat (jLen n))) ∈ jFlat := fun n h => jfb n h (jWle n) (by simp [jBlk])
theorem jF_el : ∀ n, n < 27 → ∀ j, j < jLen n → Cond.eq (.elem (.field (jTm n) "java/lang/String" "value" "[B") (.int (Int32.ofNat j))) (.int (nI (jByt n j))) ∈ jFlat := fun n h j hj => jfb n h (jWel n j) (List.mem_append_right _ (List.mem_map.mpr ⟨j, List.mem_range.mpr hj, rfl⟩))
def jWd0 (j : Nat) : Cond := Cond.eq (.elem (.static "java/lang/Integer" "DigitOnes" "[B") (.int (Int32.ofNat j))) (.int (nI (48 + j % 10)))
def jWd1 (j : Nat) : Cond := Cond.eq (.elem (.static "java/lang/Integer" "DigitTens" "[B") (.int (Int32.ofNat j))) (.int (nI (48 + j / 10)))
def jWsc (j : Nat) : Cond := Cond.eq (.elem (.static "SnowLedgerLaw" "SCRIPTS" "[Ljava/lang/String;") (.int (Int32.ofNat j))) (jTm (7 + j))
theorem jfd0 : (jFlat.drop 41).take 100 = (List.range 100).map jWd0 := by decide +kernel
theorem jfd1 : (jFlat.drop 144).take 100 = (List.range 100).map jWd1 := by decide +kernel
theorem jfsc : (jFlat.drop 247).take 20 = (List.range 20).map jWsc := by decide +kernel
theorem jF_d0 : ∀ j, j < 100 → jWd0 j ∈ jFlat := fun j hj => jmt jfd0 (List.mem_map.mpr ⟨j, List.mem_range.mpr hj, rfl⟩)
theorem jF_d1 : ∀ j, j < 100 → jWd1 j ∈ jFlat := fun j hj => jmt jfd1 (List.mem_map.mpr ⟨j, List.mem_range.mpr hj, rfl⟩)
theorem jF_sc : ∀ j, j < 20 → jWsc j ∈ jFlat := fun j hj => jmt jfsc (List.mem_map.mpr ⟨j, List.mem_range.mpr hj, rfl⟩)
theorem jF_nc : ∀ q ∈ jXcs, Cond.not (.castable q.1 q.2) ∈ jFlat := by decide +kernel
theorem jF_ex6 : ∀ i, i < 6 → Cond.exactly (.static RX2 (jEnum.getD i "") "LSnowLedger$Refusal;") RX2 ∈ jFlat := by decide +kernel
theorem jF_ne6 : ∀ i, i < 6 → ∀ j, j < 6 → i ≠ j → Cond.not (.eq (.static RX2 (jEnum.getD i "") "LSnowLedger$Refusal;") (.static RX2 (jEnum.getD j "") "LSnowLedger$Refusal;")) ∈ jFlat ∨ Cond.not (.eq (.static RX2 (jEnum.getD j "") "LSnowLedger$Refusal;") (.static RX2 (jEnum.getD i "") "LSnowLedger$Refusal;")) ∈ jFlat := by decide +kernel
theorem jT_ls : ∀ i, i < 6 → Cond.laysStatic RX2 (jEnum.getD i "") "LSnowLedger$Refusal;" ∈ lw_tbl := by decide +kernel
theorem jT_sr : ∀ q ∈ jStr, Cond.stringRef q.1 q.2.1 q.2.2.1 ∈ lw_tbl := by decide +kernel
theorem jT_cs : (Cond.laysStatic "java/lang/String" "COMPACT_STRINGS" "Z" ∈ lw_tbl ∧ Cond.initialized "java/lang/String" ∈ lw_tbl) ∧ (Cond.laysStatic "java/lang/Integer" "DigitOnes" "[B" ∈ lw_tbl ∧ Cond.laysStatic "java/lang/Integer" "DigitTens" "[B" ∈ lw_tbl ∧ Cond.initialized "java/lang/Integer" ∈ lw_tbl) ∧ (Cond.laysStatic Bundle.tN "UNASSIGNED_STACK" Bundle.steD ∈ lw_tbl ∧ Cond.laysStatic Bundle.tN "SUPPRESSED_SENTINEL" Bundle.listD ∈ lw_tbl ∧ Cond.initialized Bundle.tN ∈ lw_tbl) ∧ (Cond.laysStatic "jdk/internal/util/Preconditions" "SIOOBE_FORMATTER" "Ljava/util/function/BiFunction;" ∈ lw_tbl ∧ Cond.initialized "jdk/internal/util/Preconditions" ∈ lw_tbl) ∧ (Cond.laysStatic "SnowLedgerLaw" "SCRIPTS" "[Ljava/lang/String;" ∈ lw_tbl ∧ Cond.initialized "SnowLedgerLaw" ∈ lw_tbl) ∧ Cond.initialized RX2 ∈ lw_tbl ∧ Cond.arrayOver (.object "SnowLedger$State") ∈ lw_tbl := by decide +kernel
theorem jF_1 : Cond.eq (.static "java/lang/String" "COMPACT_STRINGS" "Z") (.int 1) ∈ jFlat ∧ (Cond.arrayOf (.static "java/lang/Integer" "DigitOnes" "[B") .byte ∈ jFlat ∧ Cond.eq (.length (.static "java/lang/Integer" "DigitOnes" "[B")) (.int 100) ∈ jFlat ∧ Cond.arrayOf (.static "java/lang/Integer" "DigitTens" "[B") .byte ∈ jFlat ∧ Cond.eq (.length (.static "java/lang/Integer" "DigitTens" "[B")) (.int 100) ∈ jFlat) ∧ (Cond.isRef (.static Bundle.tN "UNASSIGNED_STACK" Bundle.steD) ∈ jFlat ∧ Cond.isRef (.static Bundle.tN "SUPPRESSED_SENTINEL" Bundle.listD) ∈ jFlat) ∧ Cond.isRef (.static "jdk/internal/util/Preconditions" "SIOOBE_FORMATTER" "Ljava/util/function/BiFunction;") ∈ jFlat ∧ (Cond.arrayOf (.static "SnowLedgerLaw" "SCRIPTS" "[Ljava/lang/String;") (.object "java/lang/String") ∈ jFlat ∧ Cond.eq (.length (.static "SnowLedgerLaw" "SCRIPTS" "[Ljava/lang/String;")) (.int 20) ∈ jFlat) := by decide +kernel
theorem jN_on {w : Cond} (h : w ∈ jN) : w.onTables = true := jN_ot h
