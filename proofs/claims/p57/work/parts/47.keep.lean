/-! ===== the changes keep it: hills, flakes, seals ===== -/
section GKeep
variable {R R' : Nat → Nat → Int32} {V V' : Nat → Int32} {B : Nat}
theorem gU_c (e : R' 0 = R 0) : gU R' = gU R := by funext i; unfold gU; rw [e]
theorem gN_c (e : R' 0 = R 0) : gN R' = gN R := by funext i; unfold gN; rw [e]
theorem gP_c (e : R' 1 = R 1) : gP R' = gP R := by funext i; unfold gP; rw [e]
theorem jT1.c (h : jT1 R) (e0 : R' 0 = R 0) (e1 : R' 1 = R 1) (e2 : R' 2 = R 2) : jT1 R' := by
  unfold jT1
  rw [gU_c e0, e0, e1, e2]; exact h
theorem jTS.c (h : jTS R) (e0 : R' 0 = R 0) (e2 : R' 2 = R 2) (e3 : R' 3 = R 3) : jTS R' := by
  unfold jTS
  rw [gU_c e0, e2, e3]; exact h
theorem jTF.c (h : jTF R) (e5 : R' 5 = R 5) (e6 : R' 6 = R 6) (e9 : R' 9 = R 9) (e10 : R' 10 = R 10) : jTF R' := by
  unfold jTF
  rw [e5, e6, e9, e10]; exact h
theorem jTC.c (h : jTC R V B) (e0 : R' 0 = R 0) (e1 : V' 1 = V 1) (e2 : V' 2 = V 2) (e3 : V' 3 = V 3) : jTC R' V' B := by
  unfold jTC
  rw [gU_c e0, gN_c e0, e1, e2, e3]; exact h
theorem jTH.c (h : jTH R V) (e0 : R' 0 = R 0) (e8 : R' 8 = R 8) (e : V' 0 = V 0) : jTH R' V' := by
  unfold jTH
  rw [gU_c e0, e8, e]; exact h
theorem jTree.mono (h : jTree R V B) {B' : Nat} (hB : B ≤ B') : jTree R V B' := by
  obtain ⟨h1, h2, h3, ⟨nx, me, g1, g2⟩, h5⟩ := h
  exact ⟨h1, h2, h3, ⟨nx, me, by omega, g2⟩, h5⟩
theorem k_raise (h : jTree R V B) {hc : Nat} (e : V 0 = nI hc) (hl : hc < 4) : jTree (jPut (jPut R 0 8 (V 0) 0) 0 9 (V 0) 0) (jSetV V 0 (V 0 + 1)) B := by
  obtain ⟨h1, h2, h3, h4, ⟨hc', h5, h6, h7⟩⟩ := h
  have : hc' = hc := (nI_eq (by omega) (by omega)).mp (h6.symm.trans e)
  subst this
  rw [e, jPut_g (k := 8) (by omega) (show hc' < 4 from hl), jPut_g (k := 9) (by omega) (show hc' < 4 from hl)]
  have q : ∀ r, r ≠ 8 → r ≠ 9 → gPut (gPut R 8 hc' 0) 9 hc' 0 r = R r := fun r g1 g2 => by rw [gPut_ne g2, gPut_ne g1]
  refine ⟨h1.c (q 0 (by omega) (by omega)) (q 1 (by omega) (by omega)) (q 2 (by omega) (by omega)), ?_, h3.c (q 0 (by omega) (by omega)) (q 2 (by omega) (by omega)) (q 3 (by omega) (by omega)), h4.c (q 0 (by omega) (by omega)) (jSetV_ne (by omega)) (jSetV_ne (by omega)) (jSetV_ne (by omega)), ?_⟩
  · obtain ⟨f1, f2, f3, f4, f5⟩ := h2
    unfold jTF
    rw [q 5 (by omega) (by omega), q 6 (by omega) (by omega), q 10 (by omega) (by omega)]
    refine ⟨f1, f2, f3, fun i hi => ?_, f5⟩
    rw [gPut_s, gPut_ne (by omega)]
    by_cases hi2 : i = hc'
    · rw [if_pos hi2]; exact ⟨0, by omega, rfl⟩
    · rw [if_neg hi2]; exact f4 i hi
  · refine ⟨hc' + 1, by omega, by simp [jSetV, nI_1], fun j hj => ?_⟩
    rw [gU_c (q 0 (by omega) (by omega)), gPut_ne (by omega), gPut_s]
    by_cases hj2 : j = hc'
    · rw [if_pos hj2]; exact ⟨0, h1.u0, rfl⟩
    · rw [if_neg hj2]; exact h7 j (by omega)
theorem jSz1_of (h : jTF R) {x : Nat} (hx : x < 4) : ∃ m, m ≤ 4 ∧ R 9 x = nI m ∧ jSz R 1 (nI x) = nI m := by
  obtain ⟨m, hm, e⟩ := h.2.2.2.1 x hx
  exact ⟨m, hm, e, by rw [jSz1 hx]; exact e⟩
theorem jAdd_g {x m : Nat} {v : Int32} (hx : x < 4) (hm : m < 4) (e : R 9 x = nI m) : jAdd R (nI x) v = gPut (gPut R 10 (4 * x + m) v) 9 x (nI (m + 1)) := by
  unfold jAdd
  rw [jSz1 hx, e, j4, nI_1, jPut_g (k := 10) (by omega) (show 4 * x + m < 16 by omega), jPut_g (k := 9) (by omega) (show x < 4 from hx)]
theorem k_hold (h : jTree R V B) {x m c : Nat} (hx : x < 4) (hm : m < 4) (e : R 9 x = nI m) (hc : c < 100) : jTree (jAdd R (nI x) (nI c)) V B := by
  obtain ⟨h1, h2, h3, h4, h5⟩ := h
  rw [jAdd_g hx hm e]
  have q : ∀ r, r ≠ 10 → r ≠ 9 → gPut (gPut R 10 (4 * x + m) (nI c)) 9 x (nI (m + 1)) r = R r := fun r g1 g2 => by rw [gPut_ne g2, gPut_ne g1]
  refine ⟨h1.c (q 0 (by omega) (by omega)) (q 1 (by omega) (by omega)) (q 2 (by omega) (by omega)), ?_, h3.c (q 0 (by omega) (by omega)) (q 2 (by omega) (by omega)) (q 3 (by omega) (by omega)), h4.c (q 0 (by omega) (by omega)) rfl rfl rfl, h5.c (q 0 (by omega) (by omega)) (q 8 (by omega) (by omega)) rfl⟩
  obtain ⟨f1, f2, f3, f4, f5⟩ := h2
  unfold jTF
  rw [q 5 (by omega) (by omega), q 6 (by omega) (by omega)]
  refine ⟨f1, f2, f3, fun i hi => ?_, fun i hi => ?_⟩
  · rw [gPut_s, gPut_ne (by omega)]
    by_cases hi2 : i = x
    · rw [if_pos hi2]; exact ⟨m + 1, by omega, rfl⟩
    · rw [if_neg hi2]; exact f4 i hi
  · rw [gPut_ne (by omega), gPut_s]
    by_cases hi2 : i = 4 * x + m
    · rw [if_pos hi2]; exact ⟨c, hc, rfl⟩
    · rw [if_neg hi2]; exact f5 i hi
theorem k_turn (h : jTree R V B) {x q : Nat} (hx : x < 4) (hq : gU R q = true) : jTree (jPut R 0 8 (nI x) (nI q)) V B := by
  obtain ⟨h1, h2, h3, h4, ⟨hc, h5, h6, h7⟩⟩ := h
  rw [jPut_g (k := 8) (by omega) (show x < 4 from hx)]
  have e : ∀ r, r ≠ 8 → gPut R 8 x (nI q) r = R r := fun r g => gPut_ne g
  refine ⟨h1.c (e 0 (by omega)) (e 1 (by omega)) (e 2 (by omega)), h2.c (e 5 (by omega)) (e 6 (by omega)) (e 9 (by omega)) (e 10 (by omega)), h3.c (e 0 (by omega)) (e 2 (by omega)) (e 3 (by omega)), h4.c (e 0 (by omega)) rfl rfl rfl, hc, h5, h6, fun j hj => ?_⟩
  rw [gU_c (e 0 (by omega)), gPut_s]
  by_cases hj2 : j = x
  · rw [if_pos hj2]; exact ⟨q, hq, rfl⟩
  · rw [if_neg hj2]; exact h7 j hj
theorem k_swap (h : jTree R V B) {s y c : Nat} (hs : s < 16) (hy : y < 4) (hc : c < 100) : jTree (jPut R 0 6 (nI s * 4 + nI y) (nI c)) V B := by
  obtain ⟨h1, h2, h3, h4, h5⟩ := h
  rw [j4, jPut_g (k := 6) (by omega) (show 4 * s + y < 64 by omega)]
  have e : ∀ r, r ≠ 6 → gPut R 6 (4 * s + y) (nI c) r = R r := fun r g => gPut_ne g
  refine ⟨h1.c (e 0 (by omega)) (e 1 (by omega)) (e 2 (by omega)), ?_, h3.c (e 0 (by omega)) (e 2 (by omega)) (e 3 (by omega)), h4.c (e 0 (by omega)) rfl rfl rfl, h5.c (e 0 (by omega)) (e 8 (by omega)) rfl⟩
  obtain ⟨f1, f2, f3, f4, f5⟩ := h2
  unfold jTF
  rw [e 5 (by omega), e 9 (by omega), e 10 (by omega)]
  refine ⟨f1, f2, fun i hi => ?_, f4, f5⟩
  rw [gPut_s]
  by_cases hi2 : i = 4 * s + y
  · rw [if_pos hi2]; exact ⟨c, hc, rfl⟩
  · rw [if_neg hi2]; exact f3 i hi
/-- the nonce and the hash that seal a block -/
def gSn (R : Nat → Nat → Int32) (s : Nat) : Int32 := jNon (R 3 (gP R s)) (jRoot R 0 (nI s)) (R 2 s)
def gSh (R : Nat → Nat → Int32) (s : Nat) : Int32 := jHw (R 3 (gP R s)) (jRoot R 0 (nI s)) (R 2 s) (gSn R s)
theorem jSeal_g (h : jT1 R) {s : Nat} (hs : gU R s = true) (h0 : s ≠ 0) : jSeal R (nI s) = gPut (gPut R 4 s (gSn R s)) 3 s (gSh R s) := by
  have h16 := gU_16 hs
  obtain ⟨-, hp, -, -⟩ := h.p hs h0
  unfold jSeal gSh gSn
  rw [h.g1p hs h0, jGt_5 (k := 3) (by omega) hp, jGt_5 (k := 2) (by omega) h16, jPut_g (k := 4) (by omega) (show s < 16 from h16), jPut_g (k := 3) (by omega) (show s < 16 from h16)]
theorem gSh_s (h1 : jT1 R) (h2 : jTF R) {s : Nat} (hs : gU R s = true) (h0 : s ≠ 0) (hw : ∃ a, a < 4 ∧ R 2 s = nI a) (hp : ∃ a, a < 9976 ∧ R 3 (gP R s) = nI a) : ∃ c, c < 2494 ∧ gSh R s = nI (4 * c) := by
  obtain ⟨a, ha, ea⟩ := hw
  obtain ⟨b, hb, eb⟩ := hp
  obtain ⟨c, hc, ec⟩ := h2.root (gU_16 hs)
  unfold gSh gSn
  rw [ea, eb, ec]
  exact jHw_s hb hc ha
theorem k_mend (h : jTree R V B) {s : Nat} (hs : gU R s = true) (h0 : s ≠ 0) : jTree (jSeal R (nI s)) V B := by
  obtain ⟨h1, h2, h3, h4, h5⟩ := h
  rw [jSeal_g h1 hs h0]
  have q : ∀ r, r ≠ 4 → r ≠ 3 → gPut (gPut R 4 s (gSn R s)) 3 s (gSh R s) r = R r := fun r g1 g2 => by rw [gPut_ne g2, gPut_ne g1]
  refine ⟨h1.c (q 0 (by omega) (by omega)) (q 1 (by omega) (by omega)) (q 2 (by omega) (by omega)), h2.c (q 5 (by omega) (by omega)) (q 6 (by omega) (by omega)) (q 9 (by omega) (by omega)) (q 10 (by omega) (by omega)), ?_, h4.c (q 0 (by omega) (by omega)) rfl rfl rfl, h5.c (q 0 (by omega) (by omega)) (q 8 (by omega) (by omega)) rfl⟩
  have hp := (h1.p hs h0).2.2.1
  obtain ⟨c, hc, ec⟩ := gSh_s h1 h2 hs h0 (h3.2 s hs h0).2 (h3.h hp)
  unfold jTS
  rw [gU_c (q 0 (by omega) (by omega)), q 2 (by omega) (by omega)]
  refine ⟨?_, fun i hi hi0 => ⟨?_, (h3.2 i hi hi0).2⟩⟩
  · rw [gPut_s, if_neg (fun e => h0 e.symm), gPut_ne (by omega)]; exact h3.1
  · rw [gPut_s, gPut_ne (by omega)]
    by_cases his : i = s
    · rw [if_pos his]; exact ⟨c, hc, ec⟩
    · rw [if_neg his]; exact (h3.2 i hi hi0).1
end GKeep
