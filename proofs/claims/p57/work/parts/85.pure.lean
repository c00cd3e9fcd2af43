/-! ===== the law over the fresh ledger ===== -/
section JPure
theorem gR0_e {s : Nat} (hs : s < 11) : gEq (jSh gR0 s) (jSv gV0 s) gR0 gV0 := by
  refine ⟨fun k hk => ?_, fun i hi => ?_⟩
  · have h1 := gR0_st (s := s) (k := k) hs (by have := hk.1; omega)
    have h2 := gR0_st (s := 0) (k := k) (by omega) (by have := hk.1; omega)
    rw [Nat.mul_zero, Nat.zero_add] at h2
    show gR0 (12 * s + k) = gR0 k
    rw [h1, h2]
  · show gV0 (4 * s + i) = gV0 i
    unfold gV0
    rw [if_pos (show 4 * s + i < 44 by omega), if_pos (show i < 44 by omega), show (4 * s + i) % 4 = i % 4 by omega]
theorem gR0_0 (i : Nat) : gR0 0 i = if i = 0 then 0 else if i < 16 then -1 else 0 := rfl
theorem gR0_1 (i : Nat) : gR0 1 i = if i < 16 then -1 else 0 := rfl
theorem gR0_2 (i : Nat) : gR0 2 i = if i < 16 then -1 else 0 := rfl
theorem gR0_u (i : Nat) : gU gR0 i = decide (i = 0) := by
  unfold gU
  rw [gR0_0]
  by_cases h0 : i = 0
  · subst h0; decide
  · rw [if_neg h0, decide_eq_false h0]
    by_cases h1 : i < 16
    · rw [if_pos h1, decide_eq_false (fun g : ¬ (-1 : Int32) = -1 => g rfl), Bool.and_false]
    · rw [decide_eq_false h1, Bool.false_and]
theorem gR0_t : jTree gR0 gV0 0 := by
  have u : ∀ i, gU gR0 i = true → i = 0 := fun i h => by rw [gR0_u] at h; exact of_decide_eq_true h
  refine ⟨⟨rfl, fun i hi h => ?_, rfl, fun i hi h => ?_, fun i hi h0 => absurd (u i hi) h0, fun i j hi hj _ => by rw [u i hi, u j hj]⟩, ⟨fun i _ => ⟨0, by omega, rfl⟩, rfl, fun i _ => ⟨0, by omega, rfl⟩, fun i _ => ⟨0, by omega, rfl⟩, fun i _ => ⟨0, by omega, rfl⟩⟩, ⟨rfl, fun i hi h0 => absurd (u i hi) h0⟩, ⟨0, 0, Nat.le_refl _, rfl, rfl, rfl, ?_, fun i hi => ?_⟩, ⟨0, by omega, rfl, fun j hj => absurd hj (Nat.not_lt_zero _)⟩⟩
  · rw [gR0_0] at h ⊢
    by_cases h0 : i = 0
    · rw [if_pos h0]; decide
    · rw [if_neg h0, if_pos hi] at h
      exact absurd rfl h
  · rw [gR0_1, gR0_2, if_pos hi]; exact ⟨rfl, rfl⟩
  · have : gC (gU gR0) = gC (fun i => decide (i = 0)) := gC_congr (fun i _ => gR0_u i)
    rw [this]; decide
  · rw [u i hi]; exact Nat.le_of_eq rfl
theorem gR0_i : jInv gR0 gV0 0 := by
  refine ⟨fun s hs => gR0_t.eq (gR0_e hs), ⟨0, 0, by omega, by omega, rfl, rfl⟩, fun i _ => ?_, Or.inl rfl⟩
  show ¬ (0 : Int32) < 0
  decide
theorem law_pure {κ : Nat → Nat} {Ln : Nat} (hL : κ 200 = Ln) (hLn : Ln ≤ 260) (hκ : jEn κ) : w_L_law κ [] 9 (fun v _ => v = 1) := by
  unfold w_L_law w_L_law_b0
  intro q hq
  have h0 : jW 0 (fun _ => 0) (fun _ => .inr (1, [])) [] := ⟨fun i j hi => absurd hi (Nat.not_lt_zero _), fun i hi => absurd hi (Nat.not_lt_zero _)⟩
  have h1 := h0.push hq (.inr (11, [.null, .null, .null, .null, .null, .int 0, .null, .null, .null, .int 0, .int 0]))
  have eq : ext (fun _ => 0) 0 q 0 = q := ext_eq
  have t := i_all (κ := κ) (Q := fun w2 => w_L_law_b10 4 κ w2 9 q 0 (fun v _ => v = 1)) h1 ext_eq (fun A E w a b c => ?_)
  · rw [eq] at t; exact t
  · rw [eq] at a
    have hr := made_rep b c
    have := l_10 (κ := κ) (P := fun v _ => v = 1) hL (by omega) hκ (fun _ => rfl) 4 0 gR0 gV0 w (by omega) (by omega) ⟨_, rfl, rfl, hr⟩ gR0_i
    have e : A (pos 316) = q := a
    rw [e] at this
    exact this
end JPure
