theorem jStr_n : ∀ q ∈ jStr, ∃ n, n < 45 ∧ q.2.2.2 = n ∧ jTm n = .string q.1 q.2.1 := by
  intro q hq
  obtain ⟨n, hn⟩ := List.mem_iff_getElem?.mp hq
  have hlt : n < 45 := (List.getElem?_eq_some_iff.mp hn).1
  have hall : ∀ n, n < 45 → (jStr.getD n ("", 0, "", 0)).2.2.2 = n := by decide +kernel
  have hg : jStr.getD n ("", 0, "", 0) = q := by rw [List.getD_eq_getElem?_getD, hn]; rfl
  refine ⟨n, hlt, ?_, ?_⟩
  · rw [← hg]; exact hall n hlt
  · unfold jTm; rw [hg]
theorem j_i32 (x : Int32) : Int32.ofNat x.toBitVec.toNat = x := by
  cases x with | ofUInt32 u => cases u with | ofBitVec v => simp [Int32.ofNat, Int32.toBitVec, Int32.ofBitVec]
theorem jSF_start {s : State} {b L : Nat} {xs : Nat → Int32} {A : Nat → Prop} (hts : ∀ w ∈ lw_tbl, w.before #[Value.ref b] s = true) (hgv : (Cond.and given_1 narrow_1).before #[Value.ref b] s = true) (hX : va_X b L xs s s.heap) (hA : ∀ a : Nat, a < s.heap.size → ¬ A a) (hL : L ≤ 260) : ∃ κ : Nat → Nat, jSF κ A s s.heap ∧ κ 9 = b ∧ κ 200 = L ∧ ∀ j, jXs κ j = xs j := by
  have hs : ∀ c ∈ jFlat, c.before #[Value.ref b] s = true := flat_of_before _ hgv
  obtain ⟨⟨t1, t2⟩, ⟨t3, t4, t5⟩, ⟨t6, t7, t8⟩, ⟨t9, t10⟩, ⟨t11, t12⟩, t13, t14⟩ := jT_cs
  obtain ⟨f1, ⟨f2, f3, f4, f5⟩, ⟨f6, f7⟩, f8, ⟨f9, f10⟩⟩ := jF_1
  obtain ⟨d0, e0, T0⟩ := va_Tof (args := #[Value.ref b]) (s := s) (tm := .static "java/lang/Integer" "DigitOnes" "[B") (ty := .byte) (N := 100) (f := fun j => .int (nI (48 + j % 10))) (A := A) (by decide) (hs _ f2) (va_eqt (hs _ f3)) (fun j hj => va_eqt (hs _ (jF_d0 j hj))) hA
  obtain ⟨d1, e1, T1⟩ := va_Tof (args := #[Value.ref b]) (s := s) (tm := .static "java/lang/Integer" "DigitTens" "[B") (ty := .byte) (N := 100) (f := fun j => .int (nI (48 + j / 10))) (A := A) (by decide) (hs _ f4) (va_eqt (hs _ f5)) (fun j hj => va_eqt (hs _ (jF_d1 j hj))) hA
  obtain ⟨ad, hEn⟩ := va_Enof (args := #[Value.ref b]) (s := s) (E := RX2) (d := "LSnowLedger$Refusal;") (nm := jEnum) (F := []) (A := A) (fun i hi => hts _ (jT_ls i hi)) (hts _ t13) (fun i hi => hs _ (jF_ex6 i hi)) (fun q hq => (nomatch hq)) (fun i j hi hj hij => (jF_ne6 i hi j hj hij).imp (hs _) (hs _)) hA
  have hst : ∀ n : Nat, ∃ q : Nat × Nat, n < 45 → (jTm n).eval #[Value.ref b] s none [] s = some (.ref q.1) ∧ (n < 27 → va_O "java/lang/String" q.1 A s s.heap ∧ va_OF "java/lang/String" "coder" "B" (.int 0) q.1 A s s.heap ∧ va_OF "java/lang/String" "value" "[B" (.ref q.2) q.1 A s s.heap ∧ va_T .byte q.2 (jLen n) (fun j => .int (nI (jByt n j))) A s s.heap) := by
    intro n
    by_cases hi : n < 45
    · obtain ⟨a, c, cA, kA, q1, q2, q3, q4, q5, q6, -⟩ := Cond.exactly_spec (args := #[Value.ref b]) (first := s) (o := none) (s := s) (idx := []) (t := jTm n) (cls := "java/lang/String") (hs _ (jF_ex n hi))
      by_cases hi2 : n < 27
      · have hlen : jLen n < 2 ^ 31 := (show ∀ n, n < 27 → jLen n < 2 ^ 31 by decide +kernel) n hi2
        obtain ⟨t, ht, hT⟩ := va_Tof (f := fun j => .int (nI (jByt n j))) (A := A) hlen (hs _ (jF_ar n hi2)) (va_eqt (hs _ (jF_le n hi2))) (fun j hj => va_eqt (hs _ (jF_el n hi2 j hj))) hA
        exact ⟨(a, t), fun _ => ⟨q1, fun _ => ⟨⟨cA, q3, q5, by rw [q6]; exact q2, hA a (Array.getElem?_eq_some_iff.mp q3).1⟩, vk_OFof q1 (va_eqt (hs _ (jF_co n hi2))) hA, vk_OFof q1 ht hA, hT⟩⟩⟩
      · exact ⟨(a, 0), fun _ => ⟨q1, fun h => absurd h hi2⟩⟩
    · exact ⟨(0, 0), fun h => absurd h hi⟩
  obtain ⟨sd, hsd⟩ := Classical.axiomOfChoice hst
  obtain ⟨d8, e8, T8⟩ := va_Tof (args := #[Value.ref b]) (s := s) (tm := .static "SnowLedgerLaw" "SCRIPTS" "[Ljava/lang/String;") (ty := .object "java/lang/String") (N := 20) (f := fun j => if j < 20 then .ref (sd (7 + j)).1 else .null) (A := A) (by decide) (hs _ f9) (va_eqt (hs _ f10)) (fun j hj => by rw [if_pos hj]; exact j_eqR (hs _ (jF_sc j hj)) (hsd (7 + j) (by omega)).1) hA
  obtain ⟨scr, x1, x2, x3, x4, x5⟩ := hX
  have hbl : b < s.heap.size := (Array.getElem?_eq_some_iff.mp x1).1
  refine ⟨fun n => if n = 0 then d0 else if n = 1 then d1 else if n < 8 then ad (n - 2) else if n = 8 then d8 else if n = 9 then b else if n < 100 then (sd (n - 10)).1 else if n < 200 then (sd (n - 100)).2 else if n = 200 then L else (xs (n - 201)).toBitVec.toNat, ⟨?_, ⟨?_, ?_⟩, ⟨?_, ?_⟩, ⟨?_, ?_⟩, ?_, ?_, ?_, ?_, ?_, ?_, ?_, ?_, ?_, ?_⟩, rfl, rfl, ?_⟩
  · exact va_Zof (hts _ t1) (hts _ t2) (va_eqi (hs _ f1)) hA
  · exact va_Zof (hts _ t3) (hts _ t5) e0 hA
  · exact va_Zof (hts _ t4) (hts _ t5) e1 hA
  · exact T0
  · exact T1
  · exact vx_Zqof (hts _ t6) (hts _ t8) (hs _ f6) hA
  · exact vx_Zqof (hts _ t7) (hts _ t8) (hs _ f7) hA
  · refine ⟨fun i hi => ?_, fun i j hi hj e => ?_⟩
    · have hi6 : i < 6 := hi
      have h9 := hEn.1 i hi
      simp only [show ¬ (2 + i = 0) by omega, show ¬ (2 + i = 1) by omega, show 2 + i < 8 by omega, if_false, if_true, show 2 + i - 2 = i by omega]
      exact h9
    · have hi6 : i < 6 := hi
      have hj6 : j < 6 := hj
      simp only [show ¬ (2 + i = 0) by omega, show ¬ (2 + i = 1) by omega, show 2 + i < 8 by omega, if_false, if_true, show 2 + i - 2 = i by omega, show ¬ (2 + j = 0) by omega, show ¬ (2 + j = 1) by omega, show 2 + j < 8 by omega, show 2 + j - 2 = j by omega] at e
      exact hEn.2 i j hi hj e
  · exact fun w hw => va_Nw.of (jN_on hw) (hts _ (List.mem_filter.mp hw).1)
  · intro q hq
    obtain ⟨n, hn, e1, e2⟩ := jStr_n q hq
    have h9 := (hsd n hn).1
    rw [e2] at h9
    simp only [e1, show ¬ (10 + n = 0) by omega, show ¬ (10 + n = 1) by omega, show ¬ (10 + n < 8) by omega, show ¬ (10 + n = 8) by omega, show ¬ (10 + n = 9) by omega, show 10 + n < 100 by omega, if_false, if_true, show 10 + n - 10 = n by omega]
    exact vk_R.of (hts _ (jT_sr q hq)) h9
  · intro i hi
    have h9 := (hsd i (by omega)).2 hi
    simp only [show ¬ (10 + i = 0) by omega, show ¬ (10 + i = 1) by omega, show ¬ (10 + i < 8) by omega, show ¬ (10 + i = 8) by omega, show ¬ (10 + i = 9) by omega, show 10 + i < 100 by omega, if_false, if_true, show 10 + i - 10 = i by omega, show ¬ (100 + i = 0) by omega, show ¬ (100 + i = 1) by omega, show ¬ (100 + i < 8) by omega, show ¬ (100 + i = 8) by omega, show ¬ (100 + i = 9) by omega, show ¬ (100 + i < 100) by omega, show 100 + i < 200 by omega, show 100 + i - 100 = i by omega]
    exact h9
  · exact va_Zqof (hts _ t9) (hts _ t10) (hs _ f8) hA
  · exact va_Zof (hts _ t11) (hts _ t12) e8 hA
  · obtain ⟨cell, g1, g2, g3, g4, g5, g6, g7⟩ := T8
    refine ⟨cell, g1, g2, g3, g4, g5, fun j hj => ?_, g7⟩
    rw [g6 j hj]
    simp only [if_pos hj, show ¬ (17 + j = 0) by omega, show ¬ (17 + j = 1) by omega, show ¬ (17 + j < 8) by omega, show ¬ (17 + j = 8) by omega, show ¬ (17 + j = 9) by omega, show 17 + j < 100 by omega, if_false, if_true, show 17 + j - 10 = 7 + j by omega]
  · exact va_AO.of (hts _ t14)
  · refine ⟨scr, x1, x2, x3, ?_, ?_, fun j hj => ?_, hA b hbl⟩
    · show L ≤ scr.slots.size
      omega
    · show scr.slots.size.toInt32 = Int32.ofNat L
      rw [x4]
    · have hj9 : j < L := hj
      rw [x5 j hj9]
      simp only [jXs, show ¬ (201 + j = 0) by omega, show ¬ (201 + j = 1) by omega, show ¬ (201 + j < 8) by omega, show ¬ (201 + j = 8) by omega, show ¬ (201 + j = 9) by omega, show ¬ (201 + j < 100) by omega, show ¬ (201 + j < 200) by omega, show ¬ (201 + j = 200) by omega, if_false, show 201 + j - 201 = j by omega]
      rw [j_i32]
  · exact fun q hq => va_Nc.of (hs _ (jF_nc q hq))
  · intro j
    simp only [jXs, show ¬ (201 + j = 0) by omega, show ¬ (201 + j = 1) by omega, show ¬ (201 + j < 8) by omega, show ¬ (201 + j = 8) by omega, show ¬ (201 + j = 9) by omega, show ¬ (201 + j < 100) by omega, show ¬ (201 + j < 200) by omega, show ¬ (201 + j = 200) by omega, if_false, show 201 + j - 201 = j by omega]
    rw [j_i32]
