/-! ===== repairs needed ===== -/
def jAnc (R : Nat → Nat → Int32) : Nat → Int32 → Int32
  | 0, x => x
  | n + 1, x => jAnc R n (jGt R 0 1 x)
def jHtN (R : Nat → Nat → Int32) : Nat → Nat → Int32 → Nat
  | 0, c, _ => c
  | n + 1, c, x => if x = -1 then c else jHtN R n (c + 1) (jGt R 0 1 x)
def jHN (R : Nat → Nat → Int32) (x : Int32) : Nat := jHtN R 16 0 (jGt R 0 1 x)
theorem jHt_N {R : Nat → Nat → Int32} : ∀ (n c : Nat) (x : Int32), jHt R n c x = nI (jHtN R n c x) := by
  intro n
  induction n with
  | zero => intro c x; rfl
  | succ n ih =>
    intro c x
    simp only [jHt, jHtN]
    by_cases h : x = -1
    · rw [if_pos h, if_pos h]
    · rw [if_neg h, if_neg h]; exact ih _ _
theorem jHtN_le {R : Nat → Nat → Int32} : ∀ (n c : Nat) (x : Int32), jHtN R n c x ≤ c + n := by
  intro n
  induction n with
  | zero => intro c x; exact Nat.le_refl _
  | succ n ih =>
    intro c x
    simp only [jHtN]
    by_cases h : x = -1
    · rw [if_pos h]; omega
    · rw [if_neg h]; have := ih (c + 1) (jGt R 0 1 x); omega
theorem jHgt_N {R : Nat → Nat → Int32} {x : Int32} : jHgt R x = nI (jHN R x) := jHt_N _ _ _
theorem jHN_le {R : Nat → Nat → Int32} {x : Int32} : jHN R x ≤ 16 := by have := jHtN_le (R := R) 16 0 (jGt R 0 1 x); unfold jHN; omega
def jRpS (R : Nat → Nat → Int32) (h : Nat) (x : Int32) (a : Int32 × Int32) (i : Nat) : Int32 × Int32 :=
  if jGt R 0 3 (jAnc R (h - i) x) = jHw a.1 (jRoot R 0 (jAnc R (h - i) x)) (jGt R 0 2 (jAnc R (h - i) x)) (jGt R 0 4 (jAnc R (h - i) x)) then (jGt R 0 3 (jAnc R (h - i) x), a.2)
  else (jHw a.1 (jRoot R 0 (jAnc R (h - i) x)) (jGt R 0 2 (jAnc R (h - i) x)) (jNon a.1 (jRoot R 0 (jAnc R (h - i) x)) (jGt R 0 2 (jAnc R (h - i) x))), a.2 + 1)
def jRp (R : Nat → Nat → Int32) (x : Int32) : Int32 := (jIter (jRpS R (jHN R x) x) (jHN R x) 1 (jGt R 0 3 0, 0)).2
section JRepairs
variable {κ : Nat → Nat} {L : Nat → Nat} {R : Nat → Nat → Int32} {V : Nat → Int32} {T : Nat → List Int32} {w : va_W}
theorem s_ancL (h : jRq L R V T w) {m : Nat} (hm : m < 2 ^ 31) {P : Int32 → va_W → Prop} : ∀ (n i : Nat) (x : Int32), i ≤ m → m < n + i → P (jAnc R (m - i) x) w → w_X6_ancestor_b5 n κ w (L 311) (nI m) x (nI i) P := by
  intro n
  induction n with
  | zero => intro i x h1 h2; omega
  | succ n ih =>
    intro i x h1 h2 k
    rw [w_X6_ancestor_b5]
    by_cases hi : i = m
    · subst hi
      rw [if_pos (Int32.le_refl _)]
      rw [Nat.sub_self] at k
      exact k
    · rw [if_neg (nI_ge (by omega) hm)]
      rw [show m - i = (m - (i + 1)) + 1 by omega, jAnc] at k
      refine s_svat h 1 (by omega) ?_
      rw [nI_1]
      exact ih (i + 1) _ (by omega) (by omega) k
theorem s_anc (h : jRq L R V T w) {m : Nat} (hm : m < 20000) {x : Int32} {P : Int32 → va_W → Prop} (k : P (jAnc R m x) w) : w_X6_ancestor κ w (L 311) x (nI m) P := by
  unfold w_X6_ancestor w_X6_ancestor_b0
  exact s_ancL h (by omega) jFu 0 x (by omega) (by rw [jFu_eq]; omega) k
theorem nI_sub {a b : Nat} (h : b ≤ a) : nI a - nI b = nI (a - b) := by
  have : nI a = nI (a - b) + nI b := by rw [nI_add]; congr 1; omega
  rw [this, Int32.add_sub_cancel]
theorem s_repairs (h : jRq L R V T w) (hs : ∀ x, jSz R 0 x ≤ 4) {x : Int32} {P : Int32 → va_W → Prop} (k : ∀ w', jRq L R V T w' → P (jRp R x) w') : w_X6_countRepairs κ w (L 311) x P := by
  unfold w_X6_countRepairs w_X6_countRepairs_b0
  refine ⟨⟨_, h.sv⟩, s_heightQ h ?_⟩
  refine s_svat h 3 (by omega) ?_
  rw [jHgt_N]
  have hl := jHN_le (R := R) (x := x)
  generalize hH : jHN R x = H at hl
  unfold jRp at k
  rw [hH] at k
  have key : ∀ (n i : Nat) (a : Int32 × Int32) (w : va_W), jRq L R V T w → i ≤ H + 1 → H + 1 < n + i → (∀ w', jRq L R V T w' → P (jIter (jRpS R H x) (H + 1 - i) i a).2 w') → w_X6_countRepairs_b24 n κ w (L 311) x (nI H) a.1 a.2 (nI i) P := by
    refine jLoop (Q := fun _ w' => jRq L R V T w') (F := fun n w a i => w_X6_countRepairs_b24 n κ w (L 311) x (nI H) a.1 a.2 i P) (P := fun a w => P a.2 w) (H + 1) (jRpS R H x) ?_ ?_
    · intro n w' a h' hp
      show w_X6_countRepairs_b24 (n + 1) κ w' (L 311) x (nI H) a.1 a.2 (nI (H + 1)) P
      rw [w_X6_countRepairs_b24, if_pos (nI_lt (by omega) (by omega))]
      exact hp
    · intro n w' a i h' hi hk
      show w_X6_countRepairs_b24 (n + 1) κ w' (L 311) x (nI H) a.1 a.2 (nI i) P
      rw [w_X6_countRepairs_b24, if_neg (nI_nlt (by omega) (by omega))]
      refine ⟨⟨_, h'.sv⟩, ?_⟩
      rw [nI_sub (show i ≤ H by omega)]
      refine s_anc h' (by omega) ?_
      refine (jgR_eq h'.sv rfl).mpr ((jgR_eq (h'.st (s := 0) (by omega)) rfl).mpr ⟨⟨_, h'.tab (t := 0) (by omega)⟩, s_rootQ h' (t := 0) (by omega) (hs _) (fun w1 h1 => ?_)⟩)
      refine s_svat h1 2 (by omega) ?_
      refine s_svat h1 3 (by omega) ?_
      refine s_svat h1 4 (by omega) ?_
      refine s_hashWith ?_
      by_cases he : jGt R 0 3 (jAnc R (H - i) x) = jHw a.1 (jRoot R 0 (jAnc R (H - i) x)) (jGt R 0 2 (jAnc R (H - i) x)) (jGt R 0 4 (jAnc R (H - i) x))
      · rw [if_pos he]
        simp only [jRpS, if_pos he] at hk
        unfold w_X6_countRepairs_b121
        rw [nI_1]
        exact hk w1 h1
      · rw [if_neg he]
        simp only [jRpS, if_neg he] at hk
        refine s_sealed ?_
        unfold w_X6_countRepairs_b121
        rw [nI_1]
        exact hk w1 h1
  refine key jFu 1 (jGt R 0 3 0, 0) w h (by omega) (by rw [jFu_eq]; omega) (fun w' hw => ?_)
  rw [Nat.add_sub_cancel]
  exact k w' hw
end JRepairs
