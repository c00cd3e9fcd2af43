/-! ===== calls upwards: an inherited method, a superclass's ===== -/
theorem j_selP {C : String} {y z : MethodName} {s : State} {args : Array Value} {n : Nat} (hy : y.cls ≠ "java/lang/invoke/MethodHandle" ∧ y.cls ≠ "java/lang/invoke/VarHandle") (hins : (Cond.instantiable C n).before args s = true) (hpriv : (Cond.privateMethod y).before args s = true) (hinst : (Cond.instanceMethod y).before args s = true) (hz : (Cond.selects C z z).before args s = true) (hzy : z.cls = y.cls) : (Cond.selects C y y).before args s = true := by
  obtain ⟨c, k, hc, hk, -, hniab, -, -⟩ := Cond.instantiable_spec hins
  have hni : k.isInterface = false := (Bool.or_eq_false_iff.mp hniab).1
  obtain ⟨mk, methM, hnamed, hmethM, -, -⟩ := Cond.instanceMethod_spec hinst
  have hfound : s.methodFound? y.cls y.name y.desc = some mk := State.methodFound?_of_named hnamed hy
  obtain ⟨c2, r2, m2, q1, q2, q3, q4, kP, hkP, hkPi⟩ := Cond.selects_spec hz
  have hm2 : m2.cls = mk.cls := Option.some.inj ((findClass_of_methodNamed q3).symm.trans ((by rw [hzy] : s.vm.findClass z.cls = s.vm.findClass y.cls).trans (findClass_of_methodNamed hnamed)))
  rw [hm2] at hkP
  have hsel : selectMethod {} s.vm c mk = .method mk := selectMethod_private hmethM (Cond.privateMethod_at hpriv mk methM hnamed hmethM)
  simp only [Cond.before, Cond.holds, Cond.value, hc, hfound, hnamed, hsel, hk]
  simp [hkP, hkPi]
section JR6
variable {Γ : jG} {cc : ByteArray} {nL : Nat} {own : String} {w : va_W} {kc ks pc : Nat} {lo : List (Nat × Value)} {st : List Value}
def jMu (y : MethodName) (cc : ByteArray) (maxL : Nat) (rt : Option FieldType) (n : Nat) (C : String) : Prop := Cond.instanceMethod y ∈ jB ∧ Cond.selects C y y ∈ jB ∧ Cond.initialized y.cls ∈ jB ∧ Cond.code y cc maxL rt ∈ jB ∧ (y.cls ≠ "java/lang/invoke/MethodHandle" ∧ y.cls ≠ "java/lang/invoke/VarHandle") ∧ (parseMethodDescriptor y.desc).map (fun d => d.parameters.length) = some n ∧ Cond.sameMethod y.cls y.cls y.name y.desc ∈ jB
def jMz (y : MethodName) (cc : ByteArray) (maxL : Nat) (rt : Option FieldType) (n : Nat) (own : String) : Prop := Cond.instanceMethod y ∈ jB ∧ Cond.superclass own y.cls ∈ jB ∧ Cond.initialized y.cls ∈ jB ∧ Cond.code y cc maxL rt ∈ jB ∧ y.name ≠ "<init>" ∧ (parseMethodDescriptor y.desc).map (fun d => d.parameters.length) = some n ∧ Cond.sameMethod y.cls y.cls y.name y.desc ∈ jB
theorem j_callU (X : jX Γ cc nL own) {y : MethodName} {cy : ByteArray} {maxL n : Nat} {rt : Option FieldType} {rm : Room} {b : Nat} (As rest : List Value) {mc ms : Nat} {Post : Option Value → va_W → Prop} (hM : jC (jgE Γ) y cy maxL rt rm (.ref b :: As) w mc ms Post) {ci index : Nat} {C : String} {T : u_T} {N : Nat} {fs : List Value} (hb : jlk w b = some (.inr (ci, fs))) (hci : vwCl[ci]? = some (C, T, N)) (hm : jMu y cy maxL rt n C) (hl : Cond.methodLink own index y ∈ jB) (hn : As.length = n) (hrm : rm.cells = mc ∧ rm.slots = ms) (hR : (rm.frames + 1 ≤ (jgR Γ).frames ∧ 8 + (maxL + 11) + rm.locals ≤ (jgR Γ).locals) ∧ kc + mc ≤ (jgR Γ).cells ∧ ks + ms ≤ (jgR Γ).slots) (hst : st = As.reverse ++ .ref b :: rest) (hcat : (rest.map fun v => v.category).sum ≤ 8) (d : decode cc pc = .ok (.invokevirtual index, 3))
    (kk : ∀ (v : Option Value) (u : va_W), Post v u → J Γ nL u (kc + mc) (ks + ms) (pc + 3) lo (v.toList ++ rest)) : J Γ nL w kc ks pc lo st := by
  obtain ⟨p, ⟨l, D, cyy, κ⟩, e, R, s, m, args, below, meth, c, A, Q⟩ := Γ
  obtain ⟨hx, hbc, hml, hown, hts, hK, hA, hF, hlk, hst9⟩ := X
  intro H locs ls hP hD hS hl9
  obtain ⟨j, h1, -⟩ := jlk_at hb
  obtain ⟨m1, m2, m3, m4, m5, m6, m7⟩ := hm
  have hsel : (Cond.selects C y y).before args s = true := by
    exact hts _ m2
  refine jW_run (va_runU (As := As) (rest := rest) (C := C) (owner := y.cls) (x := y) ⟨hx, hbc, hml, hown, hts⟩ (hM hst9 H.size) ⟨⟨hrm.1, hrm.2, hR.1.1, hR.1.2, pay_in hts (jG_c m4), List.mem_cons_self⟩, hts _ m4, hts _ m3, m5, fun sig h => by
      have h2 := m6
      rw [h] at h2
      exact (Option.some.inj h2).symm, hts _ hl, hts _ m7, va_Decl.of (hts _ m1) (hts _ m4), hsel, hts _ m1⟩ ⟨j_blind, va_recv hK hP hci (jcv_at (cy := cyy) h1), fun U hU hW => ⟨rfl, j_pre hK hF hP hD hS hA hU hW⟩⟩ rfl hn hl9.1 hst (lv_room hcat) d hR.2) hS ?_ ?_
  · intro q hq
    rcases hq with ⟨k, e9, h⟩ | h
    · exact hD.2 k (q, e9) h
    · exact hA q (Nat.le_trans hS.1 h)
  · intro v st₀ t H1 locs1 h0 ht hvm hq L hL hlocs
    obtain ⟨⟨v9, u, hv, hpost, hP1, hD1⟩, hF1⟩ := hq
    cases hv
    obtain ⟨hD2, hS2⟩ := j_back hP hD hS hA h0 ht hF1 hD1 hL
    rw [hlocs]
    exact kk _ u hpost H1 _ ls (by rw [← ht]; exact hP1) hD2 hS2 hl9
theorem j_callUi (X : jX Γ cc nL own) {y : MethodName} {cy : ByteArray} {maxL n : Nat} {rt : Option FieldType} {rm : Room} {b : Nat} (As rest : List Value) {mc ms : Nat} {P : Int32 → va_W → Prop} (hM : jC (jgE Γ) y cy maxL rt rm (.ref b :: As) w mc ms (jPi P)) {ci index : Nat} {C : String} {T : u_T} {N : Nat} {fs : List Value} (hb : jlk w b = some (.inr (ci, fs))) (hci : vwCl[ci]? = some (C, T, N)) (hm : jMu y cy maxL rt n C) (hl : Cond.methodLink own index y ∈ jB) (hn : As.length = n) (hrm : rm.cells = mc ∧ rm.slots = ms) (hR : (rm.frames + 1 ≤ (jgR Γ).frames ∧ 8 + (maxL + 11) + rm.locals ≤ (jgR Γ).locals) ∧ kc + mc ≤ (jgR Γ).cells ∧ ks + ms ≤ (jgR Γ).slots) (hst : st = As.reverse ++ .ref b :: rest) (hcat : (rest.map fun v => v.category).sum ≤ 8) (d : decode cc pc = .ok (.invokevirtual index, 3)) (kk : ∀ (r : Int32) (u : va_W), P r u → J Γ nL u (kc + mc) (ks + ms) (pc + 3) lo (.int r :: rest)) : J Γ nL w kc ks pc lo st :=
  j_callU X As rest hM hb hci hm hl hn hrm hR hst hcat d (fun v u h => by obtain ⟨r, rfl, hp⟩ := h; exact kk r u hp)
theorem j_callUr (X : jX Γ cc nL own) {y : MethodName} {cy : ByteArray} {maxL n : Nat} {rt : Option FieldType} {rm : Room} {b : Nat} (As rest : List Value) {mc ms : Nat} {P : Nat → va_W → Prop} (hM : jC (jgE Γ) y cy maxL rt rm (.ref b :: As) w mc ms (jPr P)) {ci index : Nat} {C : String} {T : u_T} {N : Nat} {fs : List Value} (hb : jlk w b = some (.inr (ci, fs))) (hci : vwCl[ci]? = some (C, T, N)) (hm : jMu y cy maxL rt n C) (hl : Cond.methodLink own index y ∈ jB) (hn : As.length = n) (hrm : rm.cells = mc ∧ rm.slots = ms) (hR : (rm.frames + 1 ≤ (jgR Γ).frames ∧ 8 + (maxL + 11) + rm.locals ≤ (jgR Γ).locals) ∧ kc + mc ≤ (jgR Γ).cells ∧ ks + ms ≤ (jgR Γ).slots) (hst : st = As.reverse ++ .ref b :: rest) (hcat : (rest.map fun v => v.category).sum ≤ 8) (d : decode cc pc = .ok (.invokevirtual index, 3)) (kk : ∀ (r : Nat) (u : va_W), P r u → J Γ nL u (kc + mc) (ks + ms) (pc + 3) lo (.ref r :: rest)) : J Γ nL w kc ks pc lo st :=
  j_callU X As rest hM hb hci hm hl hn hrm hR hst hcat d (fun v u h => by obtain ⟨r, rfl, hp⟩ := h; exact kk r u hp)
theorem j_callUv (X : jX Γ cc nL own) {y : MethodName} {cy : ByteArray} {maxL n : Nat} {rt : Option FieldType} {rm : Room} {b : Nat} (As rest : List Value) {mc ms : Nat} {P : va_W → Prop} (hM : jC (jgE Γ) y cy maxL rt rm (.ref b :: As) w mc ms (jPv P)) {ci index : Nat} {C : String} {T : u_T} {N : Nat} {fs : List Value} (hb : jlk w b = some (.inr (ci, fs))) (hci : vwCl[ci]? = some (C, T, N)) (hm : jMu y cy maxL rt n C) (hl : Cond.methodLink own index y ∈ jB) (hn : As.length = n) (hrm : rm.cells = mc ∧ rm.slots = ms) (hR : (rm.frames + 1 ≤ (jgR Γ).frames ∧ 8 + (maxL + 11) + rm.locals ≤ (jgR Γ).locals) ∧ kc + mc ≤ (jgR Γ).cells ∧ ks + ms ≤ (jgR Γ).slots) (hst : st = As.reverse ++ .ref b :: rest) (hcat : (rest.map fun v => v.category).sum ≤ 8) (d : decode cc pc = .ok (.invokevirtual index, 3)) (kk : ∀ u : va_W, P u → J Γ nL u (kc + mc) (ks + ms) (pc + 3) lo rest) : J Γ nL w kc ks pc lo st :=
  j_callU X As rest hM hb hci hm hl hn hrm hR hst hcat d (fun v u h => by obtain ⟨rfl, hp⟩ := h; exact kk u hp)
theorem j_callZ (X : jX Γ cc nL own) {y : MethodName} {cy : ByteArray} {maxL n : Nat} {rt : Option FieldType} {rm : Room} {b : Nat} (As rest : List Value) {mc ms : Nat} {Post : Option Value → va_W → Prop} (hM : jC (jgE Γ) y cy maxL rt rm (.ref b :: As) w mc ms Post) {ci index : Nat} {C : String} {T : u_T} {N : Nat} {fs : List Value} (hb : jlk w b = some (.inr (ci, fs))) (hci : vwCl[ci]? = some (C, T, N)) (hm : jMz y cy maxL rt n own) (hl : Cond.methodLink own index y ∈ jB) (hn : As.length = n) (hrm : rm.cells = mc ∧ rm.slots = ms) (hR : (rm.frames + 1 ≤ (jgR Γ).frames ∧ 8 + (maxL + 11) + rm.locals ≤ (jgR Γ).locals) ∧ kc + mc ≤ (jgR Γ).cells ∧ ks + ms ≤ (jgR Γ).slots) (hst : st = As.reverse ++ .ref b :: rest) (hcat : (rest.map fun v => v.category).sum ≤ 8) (d : decode cc pc = .ok (.invokespecial index, 3))
    (kk : ∀ (v : Option Value) (u : va_W), Post v u → J Γ nL u (kc + mc) (ks + ms) (pc + 3) lo (v.toList ++ rest)) : J Γ nL w kc ks pc lo st := by
  obtain ⟨p, ⟨l, D, cyy, κ⟩, e, R, s, m, args, below, meth, c, A, Q⟩ := Γ
  obtain ⟨hx, hbc, hml, hown, hts, hK, hA, hF, hlk, hst9⟩ := X
  intro H locs ls hP hD hS hl9
  obtain ⟨j, h1, -⟩ := jlk_at hb
  obtain ⟨m1, m2, m3, m4, m5, m6, m7⟩ := hm
  have hat := (hK.1 ci _ hci).2
  refine jW_run (va_runSU (As := As) (rest := rest) (C := C) hat ⟨hx, hbc, hml, hown, hts⟩ (hM hst9 H.size) ⟨⟨hrm.1, hrm.2, hR.1.1, hR.1.2, pay_in hts (jG_c m4), List.mem_cons_self⟩, hts _ hl, hts _ m7, hts _ m2, hts _ m1, hts _ m3, hts _ m4, m5, fun sig h => by
      have h2 := m6
      rw [h] at h2
      exact (Option.some.inj h2).symm⟩ ⟨j_blind, va_recv hK hP hci (jcv_at (cy := cyy) h1), fun U hU hW => ⟨rfl, j_pre hK hF hP hD hS hA hU hW⟩⟩ rfl hn hl9.1 hst (lv_room hcat) d hR.2) hS ?_ ?_
  · intro q hq
    rcases hq with ⟨k, e9, h⟩ | h
    · exact hD.2 k (q, e9) h
    · exact hA q (Nat.le_trans hS.1 h)
  · intro v st₀ t H1 locs1 h0 ht hvm hq L hL hlocs
    obtain ⟨⟨v9, u, hv, hpost, hP1, hD1⟩, hF1⟩ := hq
    cases hv
    obtain ⟨hD2, hS2⟩ := j_back hP hD hS hA h0 ht hF1 hD1 hL
    rw [hlocs]
    exact kk _ u hpost H1 _ ls (by rw [← ht]; exact hP1) hD2 hS2 hl9
theorem j_callZi (X : jX Γ cc nL own) {y : MethodName} {cy : ByteArray} {maxL n : Nat} {rt : Option FieldType} {rm : Room} {b : Nat} (As rest : List Value) {mc ms : Nat} {P : Int32 → va_W → Prop} (hM : jC (jgE Γ) y cy maxL rt rm (.ref b :: As) w mc ms (jPi P)) {ci index : Nat} {C : String} {T : u_T} {N : Nat} {fs : List Value} (hb : jlk w b = some (.inr (ci, fs))) (hci : vwCl[ci]? = some (C, T, N)) (hm : jMz y cy maxL rt n own) (hl : Cond.methodLink own index y ∈ jB) (hn : As.length = n) (hrm : rm.cells = mc ∧ rm.slots = ms) (hR : (rm.frames + 1 ≤ (jgR Γ).frames ∧ 8 + (maxL + 11) + rm.locals ≤ (jgR Γ).locals) ∧ kc + mc ≤ (jgR Γ).cells ∧ ks + ms ≤ (jgR Γ).slots) (hst : st = As.reverse ++ .ref b :: rest) (hcat : (rest.map fun v => v.category).sum ≤ 8) (d : decode cc pc = .ok (.invokespecial index, 3)) (kk : ∀ (r : Int32) (u : va_W), P r u → J Γ nL u (kc + mc) (ks + ms) (pc + 3) lo (.int r :: rest)) : J Γ nL w kc ks pc lo st :=
  j_callZ X As rest hM hb hci hm hl hn hrm hR hst hcat d (fun v u h => by obtain ⟨r, rfl, hp⟩ := h; exact kk r u hp)
theorem j_callZr (X : jX Γ cc nL own) {y : MethodName} {cy : ByteArray} {maxL n : Nat} {rt : Option FieldType} {rm : Room} {b : Nat} (As rest : List Value) {mc ms : Nat} {P : Nat → va_W → Prop} (hM : jC (jgE Γ) y cy maxL rt rm (.ref b :: As) w mc ms (jPr P)) {ci index : Nat} {C : String} {T : u_T} {N : Nat} {fs : List Value} (hb : jlk w b = some (.inr (ci, fs))) (hci : vwCl[ci]? = some (C, T, N)) (hm : jMz y cy maxL rt n own) (hl : Cond.methodLink own index y ∈ jB) (hn : As.length = n) (hrm : rm.cells = mc ∧ rm.slots = ms) (hR : (rm.frames + 1 ≤ (jgR Γ).frames ∧ 8 + (maxL + 11) + rm.locals ≤ (jgR Γ).locals) ∧ kc + mc ≤ (jgR Γ).cells ∧ ks + ms ≤ (jgR Γ).slots) (hst : st = As.reverse ++ .ref b :: rest) (hcat : (rest.map fun v => v.category).sum ≤ 8) (d : decode cc pc = .ok (.invokespecial index, 3)) (kk : ∀ (r : Nat) (u : va_W), P r u → J Γ nL u (kc + mc) (ks + ms) (pc + 3) lo (.ref r :: rest)) : J Γ nL w kc ks pc lo st :=
  j_callZ X As rest hM hb hci hm hl hn hrm hR hst hcat d (fun v u h => by obtain ⟨r, rfl, hp⟩ := h; exact kk r u hp)
theorem j_callZv (X : jX Γ cc nL own) {y : MethodName} {cy : ByteArray} {maxL n : Nat} {rt : Option FieldType} {rm : Room} {b : Nat} (As rest : List Value) {mc ms : Nat} {P : va_W → Prop} (hM : jC (jgE Γ) y cy maxL rt rm (.ref b :: As) w mc ms (jPv P)) {ci index : Nat} {C : String} {T : u_T} {N : Nat} {fs : List Value} (hb : jlk w b = some (.inr (ci, fs))) (hci : vwCl[ci]? = some (C, T, N)) (hm : jMz y cy maxL rt n own) (hl : Cond.methodLink own index y ∈ jB) (hn : As.length = n) (hrm : rm.cells = mc ∧ rm.slots = ms) (hR : (rm.frames + 1 ≤ (jgR Γ).frames ∧ 8 + (maxL + 11) + rm.locals ≤ (jgR Γ).locals) ∧ kc + mc ≤ (jgR Γ).cells ∧ ks + ms ≤ (jgR Γ).slots) (hst : st = As.reverse ++ .ref b :: rest) (hcat : (rest.map fun v => v.category).sum ≤ 8) (d : decode cc pc = .ok (.invokespecial index, 3)) (kk : ∀ u : va_W, P u → J Γ nL u (kc + mc) (ks + ms) (pc + 3) lo rest) : J Γ nL w kc ks pc lo st :=
  j_callZ X As rest hM hb hci hm hl hn hrm hR hst hcat d (fun v u h => by obtain ⟨rfl, hp⟩ := h; exact kk u hp)
end JR6
