/-! ===== the law over the machine: laid by wip/p57/mkwhole.py ===== -/
theorem jK_arr {s : State} {c : ClassId} {k : Class} {comp : ClassId} {ty : FieldType} (h1 : s.vm.classes[c]? = some k) (h2 : k.kind = .array comp ty) : ArrOfT s c ty := fun N z => ⟨(fun k h => by cases h), k, h1, comp, h2⟩
theorem jK_start {args : Array Value} {s : State} (hts : ∀ w ∈ lw_tbl, w.before args s = true) : ∃ (D : va_G) (cy : Nat → ClassId), va_K D vwCl (jty cy) s := by
  obtain ⟨c0, i0, k0⟩ := u_known (C := RJ0) (T := TJ0) (N := 4) (n := 4) hts inJ0 (hts (.instantiable RJ0 4) (by decide +kernel))
  obtain ⟨c1, i1, k1⟩ := u_known (C := RJ4) (T := TJ4) (N := 4) (n := 4) hts inJ4 (hts (.instantiable RJ4 4) (by decide +kernel))
  obtain ⟨c2, i2, k2⟩ := u_known (C := RJx00060) (T := TJx00060) (N := 6) (n := 6) hts inJx00060 (hts (.instantiable RJx00060 6) (by decide +kernel))
  obtain ⟨c3, i3, k3⟩ := u_known (C := RJx7c733) (T := TJx7c733) (N := 6) (n := 6) hts inJx7c733 (hts (.instantiable RJx7c733 6) (by decide +kernel))
  obtain ⟨c4, i4, k4⟩ := u_known (C := RX0) (T := TX0) (N := 3) (n := 3) hts inX0 (hts (.instantiable RX0 3) (by decide +kernel))
  obtain ⟨c5, i5, k5⟩ := u_known (C := RX1) (T := TX1) (N := 3) (n := 3) hts inX1 (hts (.instantiable RX1 3) (by decide +kernel))
  obtain ⟨c6, i6, k6⟩ := u_known (C := RX3) (T := TX3) (N := 1) (n := 1) hts inX3 (hts (.instantiable RX3 1) (by decide +kernel))
  obtain ⟨c7, i7, k7⟩ := u_known (C := RX4) (T := TX4) (N := 9) (n := 9) hts inX4 (hts (.instantiable RX4 9) (by decide +kernel))
  obtain ⟨c8, i8, k8⟩ := u_known (C := RX5) (T := TX5) (N := 12) (n := 12) hts inX5 (hts (.instantiable RX5 12) (by decide +kernel))
  obtain ⟨c9, i9, k9⟩ := u_known (C := RX6) (T := TX6) (N := 2) (n := 2) hts inX6 (hts (.instantiable RX6 2) (by decide +kernel))
  obtain ⟨c10, i10, k10⟩ := u_known (C := RX7) (T := TX7) (N := 3) (n := 3) hts inX7 (hts (.instantiable RX7 3) (by decide +kernel))
  obtain ⟨c11, i11, k11⟩ := u_known (C := RX8) (T := TX8) (N := 11) (n := 11) hts inX8 (hts (.instantiable RX8 11) (by decide +kernel))
  obtain ⟨a0, b0, d0, e0, f0, g0⟩ := Cond.arrayClass_spec (hts (.arrayClass .int) (by decide +kernel))
  obtain ⟨a1, b1, d1, e1, f1, g1⟩ := Cond.arrayClass_spec (hts (.arrayClass .byte) (by decide +kernel))
  obtain ⟨d2, a2, b2, q2, -, f2, g2, e2⟩ := Cond.arrayOver_spec (hts (.arrayOver (.object "SnowLedger$State")) (by decide +kernel))
  refine ⟨(fun k => [c0, c1, c2, c3, c4, c5, c6, c7, c8, c9, c10, c11].getD k c0, fun k => [i0, i1, i2, i3, i4, i5, i6, i7, i8, i9, i10, i11].getD k i0), fun k => [a0, a1, a2].getD k a0, ?_, ?_⟩
  · intro k q hq
    match k, hq with
    | 0, hq => cases hq; exact k0
    | 1, hq => cases hq; exact k1
    | 2, hq => cases hq; exact k2
    | 3, hq => cases hq; exact k3
    | 4, hq => cases hq; exact k4
    | 5, hq => cases hq; exact k5
    | 6, hq => cases hq; exact k6
    | 7, hq => cases hq; exact k7
    | 8, hq => cases hq; exact k8
    | 9, hq => cases hq; exact k9
    | 10, hq => cases hq; exact k10
    | 11, hq => cases hq; exact k11
    | k + 12, hq => simp [vwCl] at hq
  · intro k q hq
    match k, hq with
    | 0, hq => cases hq; exact ⟨jK_arr f0 g0, e0⟩
    | 1, hq => cases hq; exact ⟨jK_arr f1 g1, e1⟩
    | 2, hq => cases hq; exact ⟨jK_arr f2 g2, b2, d2, f2, g2, q2, e2⟩
    | k + 3, hq => simp [jty] at hq
theorem jB_start {args : Array Value} {s : State} (hts : ∀ w ∈ lw_tbl, w.before args s = true) : ∀ w ∈ jB, w.before args s = true := by
  intro w hw
  rcases List.mem_append.mp hw with h | h
  · exact hts w (List.mem_filter.mp h).1
  · simp only [jSel, List.mem_cons, List.not_mem_nil, or_false] at h
    rcases h with rfl | rfl
    · exact j_selP (z := ⟨"java/lang/AbstractStringBuilder", "isLatin1", "()Z"⟩) (n := 4) (by decide) (hts (.instantiable RJ4 4) (by decide +kernel)) (hts _ (by decide +kernel)) (hts _ (by decide +kernel)) (hts _ (by decide +kernel)) rfl
    · exact j_selP (z := ⟨"java/lang/AbstractStringBuilder", "isLatin1", "()Z"⟩) (n := 4) (by decide) (hts (.instantiable RJ4 4) (by decide +kernel)) (hts _ (by decide +kernel)) (hts _ (by decide +kernel)) (hts _ (by decide +kernel)) rfl
theorem whole_of {p : Program} {e : Env} {s : State} {m : MethodId} {below : List Frame} {meth : Method} {c : Code} (l : Launch) (hflags : l.flags = flags0) {b L : Nat} {xs : Nat → Int32} (hL : L ≤ 260) (C0 : lw_At p s m meth c b L xs)
    (pure : ∀ κ : Nat → Nat, κ 200 = L → (∀ j, jXs κ j = xs j) → (∀ i j, i < 6 → j < 6 → κ (2 + i) = κ (2 + j) → i = j) → w_L_law κ [] 9 (fun v _ => v = 1)) : W p l e room_1 s m #[Value.ref b] below meth c s.heap [] 0 0 (lw_Z below #[Value.ref b] s) (entryFrame m ([Value.ref b] : List Value).toArray 9) := by
  obtain ⟨hx, hb, hr, hml, hown, hts, hX, hbl, hlocks, hgv⟩ := C0
  have hA0 : ∀ a : Nat, a < s.heap.size → ¬ (fun q : Nat => s.heap.size ≤ q) a := fun a h => Nat.not_le.mpr h
  obtain ⟨D, cy, hK⟩ := jK_start hts
  obtain ⟨κ, hF, h9, h200, hxs⟩ := jSF_start (A := fun q : Nat => s.heap.size ≤ q) hts hgv hX hA0 hL
  have hen : ∀ i j, i < 6 → j < 6 → κ (2 + i) = κ (2 + j) → i = j := fun i j hi hj e => hF.2.2.2.2.1.2 i j hi hj e
  have hst : l.stackTraces = false := by
    unfold Launch.stackTraces
    rw [hflags]
    decide +kernel
  have hP : va_P D vwCl (jcv cy []) s.heap := fun k q h => by simp [jcv] at h
  have hD : va_D (fun q : Nat => s.heap.size ≤ q) (jcv cy []) := ⟨fun i j p q h => by simp [jcv] at h, fun k q h => by simp [jcv] at h⟩
  have hl := lv_entry ([.ref b]) (n := 9) (Nat.le_of_ble_eq_true rfl)
  rw [lg_entry_eq]
  have hd0 := Drawn.sameBut.refl s.drawn lw_cs
  have key := k_L_law_b0 (Γ := (p, (l, D, cy, κ), e, room_1, s, m, #[Value.ref b], below, meth, c, (fun q : Nat => s.heap.size ≤ q), lw_Z below #[Value.ref b] s)) ⟨hx, hb, hml, hown, jB_start hts, hK, fun q h => h, hF, hlocks, hst⟩ rfl (P := fun v _ => v = 1) ?_ (w := []) (c0 := 9) (pure κ h200 hxs hen)
  · have key2 := key s.heap [] _ hP hD va_S.rf (by
      have : lv_args 0 [Value.ref b] = [(0, Value.ref (κ 9))] := by rw [h9]; rfl
      rw [this] at hl
      exact hl)
    exact key2
  · intro u kc ks pc lo v st h1 h2 hok hpost H locs ls hP hD hS hl
    obtain ⟨r, rfl, rfl⟩ := hpost
    rcases hok with ⟨d, g1, g2, g3⟩ | ⟨d, ty, r, g1, g0, g2, g3⟩ | ⟨d, ty, r, g1, g0, g2, g3⟩ | ⟨d, r, g1, g2, g3⟩ | ⟨d, r, g1, g2, g3⟩ | ⟨d, r, g1, g2, g3⟩
    · cases g2
    · cases g2
      subst g3
      exact W.widen h1 h2 (va_forget (fun q hq => hS.2.2 q hq) (lw_ret (d0 := s.drawn) hd0 hx hb hr hlocks d))
    · cases g2
    · cases g2
    · cases g2
    · cases g2
