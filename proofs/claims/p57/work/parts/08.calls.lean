/-! ===== calls of every kind, and the words in which a method's run is told: laid by wip/p57/mkcalls.py ===== -/
def jPi (P : Int32 → va_W → Prop) : Option Value → va_W → Prop := fun v u => ∃ r : Int32, v = some (.int r) ∧ P r u
def jPr (P : Nat → va_W → Prop) : Option Value → va_W → Prop := fun v u => ∃ r : Nat, v = some (.ref r) ∧ P r u
def jPl (P : Int64 → va_W → Prop) : Option Value → va_W → Prop := fun v u => ∃ r : Int64, v = some (.long r) ∧ P r u
def jPd (P : UInt64 → va_W → Prop) : Option Value → va_W → Prop := fun v u => ∃ r : UInt64, v = some (.double r) ∧ P r u
def jPf (P : UInt32 → va_W → Prop) : Option Value → va_W → Prop := fun v u => ∃ r : UInt32, v = some (.float r) ∧ P r u
def jPv (P : va_W → Prop) : Option Value → va_W → Prop := fun v u => v = none ∧ P u
section JR4
variable {Γ : jG} {cc : ByteArray} {nL : Nat} {own : String} {w : va_W} {kc ks pc : Nat} {lo : List (Nat × Value)} {st : List Value}
theorem j_callS (X : jX Γ cc nL own) {y : MethodName} {cy : ByteArray} {maxL n : Nat} {rt : Option FieldType} {rm : Room} (As rest : List Value) {mc ms : Nat} {Post : Option Value → va_W → Prop} (hM : jC (jgE Γ) y cy maxL rt rm As w mc ms Post) {index : Nat} (hm : jMs y cy maxL rt n) (hl : Cond.methodLink own index y ∈ jB) (hn : As.length = n) (hrm : rm.cells = mc ∧ rm.slots = ms) (hR : (rm.frames + 1 ≤ (jgR Γ).frames ∧ 8 + (maxL + 11) + rm.locals ≤ (jgR Γ).locals) ∧ kc + mc ≤ (jgR Γ).cells ∧ ks + ms ≤ (jgR Γ).slots) (hst : st = As.reverse ++ rest) (hcat : (rest.map fun v => v.category).sum ≤ 8) (d : decode cc pc = .ok (.invokestatic index, 3))
    (kk : ∀ (v : Option Value) (u : va_W), Post v u → J Γ nL u (kc + mc) (ks + ms) (pc + 3) lo (v.toList ++ rest)) : J Γ nL w kc ks pc lo st := by
  obtain ⟨p, ⟨l, D, cyy, κ⟩, e, R, s, m, args, below, meth, c, A, Q⟩ := Γ
  obtain ⟨hx, hbc, hml, hown, hts, hK, hA, hF, hlk, hst9⟩ := X
  intro H locs ls hP hD hS hl9
  obtain ⟨m1, m3, m4, m5, m6⟩ := hm
  refine jW_run (va_runS (As := As) (rest := rest) ⟨hx, hbc, hml, hown, hts⟩ (hM hst9 H.size) (va_cwS n hts ?_ rfl hrm.1 hrm.2 ⟨m5.1, m5.2, m6⟩ hR.1) ⟨j_blind, fun U hU hW => ⟨rfl, j_pre hK hF hP hD hS hA hU hW⟩⟩ rfl hn hl9.1 hst (lv_room hcat) d hR.2) hS ?_ ?_
  · intro z hz
    unfold va_wsS at hz
    rcases List.mem_append.mp hz with h | h
    · have : z ∈ jB := by
        simp only [List.mem_cons, List.not_mem_nil, or_false] at h
        rcases h with rfl | rfl | rfl
        · exact hl
        · exact m1
        · exact m3
      exact ⟨this, jB_good _ this⟩
    · exact jG_c m4 z h
  · intro q hq
    rcases hq with ⟨k, e9, h⟩ | h
    · exact hD.2 k (q, e9) h
    · exact hA q (Nat.le_trans hS.1 h)
  · intro v st₀ t H1 locs1 h0 ht hvm hq L hL hlocs
    obtain ⟨⟨v9, u, hv, hpost, hP1, hD1⟩, hF1⟩ := hq
    cases hv
    obtain ⟨hD2, hS2⟩ := j_back hP hD hS hA h0 ht hF1 hD1 hL
    rw [hlocs]
    exact kk _ u hpost H1 _ ls (by rw [← ht]; exact hP1) hD2 hS2 hl9
theorem j_callVN (X : jX Γ cc nL own) {y : MethodName} {cy : ByteArray} {maxL n : Nat} {rt : Option FieldType} {rm : Room} {b : Nat} (As rest : List Value) {mc ms : Nat} {Post : Option Value → va_W → Prop} (hM : jC (jgE Γ) y cy maxL rt rm (.ref b :: As) w mc ms Post) {ci index : Nat} {host : String} {T : u_T} {N : Nat} {fs : List Value} (hb : jlk w b = some (.inr (ci, fs))) (hci : vwCl[ci]? = some (y.cls, T, N)) (hm : jMv y cy maxL rt n) (hl : Cond.methodLinkNest own index y host ∈ jN) (hn : As.length = n) (hrm : rm.cells = mc ∧ rm.slots = ms) (hR : (rm.frames + 1 ≤ (jgR Γ).frames ∧ 8 + (maxL + 11) + rm.locals ≤ (jgR Γ).locals) ∧ kc + mc ≤ (jgR Γ).cells ∧ ks + ms ≤ (jgR Γ).slots) (hst : st = As.reverse ++ .ref b :: rest) (hcat : (rest.map fun v => v.category).sum ≤ 8) (d : decode cc pc = .ok (.invokevirtual index, 3))
    (kk : ∀ (v : Option Value) (u : va_W), Post v u → J Γ nL u (kc + mc) (ks + ms) (pc + 3) lo (v.toList ++ rest)) : J Γ nL w kc ks pc lo st := by
  obtain ⟨p, ⟨l, D, cyy, κ⟩, e, R, s, m, args, below, meth, c, A, Q⟩ := Γ
  obtain ⟨hx, hbc, hml, hown, hts, hK, hA, hF, hlk, hst9⟩ := X
  intro H locs ls hP hD hS hl9
  obtain ⟨j, h1, -⟩ := jlk_at hb
  obtain ⟨m1, m2, m3, m4, m5, m6⟩ := hm
  refine jW_run (va_runVN (As := As) (rest := rest) (C := y.cls) ⟨hx, hbc, hml, hown, hts⟩ (hM hst9 H.size) ⟨va_cnB n hts (jG_c m4) rfl hrm.1 hrm.2 (hF.2.2.2.2.2.1 _ hl) (hts _ m3) ⟨m5.1, m5.2, m6⟩ hR.1, hts _ m1, hts _ m2⟩ ⟨j_blind, va_recv hK hP hci (jcv_at (cy := cyy) h1), fun U hU hW => ⟨rfl, j_pre hK hF hP hD hS hA hU hW⟩⟩ rfl hn hl9.1 hst (lv_room hcat) d hR.2) hS ?_ ?_
  · intro q hq
    rcases hq with ⟨k, e9, h⟩ | h
    · exact hD.2 k (q, e9) h
    · exact hA q (Nat.le_trans hS.1 h)
  · intro v st₀ t H1 locs1 h0 ht hvm hq L hL hlocs
    obtain ⟨⟨v9, u, hv, hpost, hP1, hD1⟩, hF1⟩ := hq
    cases hv
    obtain ⟨hD2, hS2⟩ := j_back hP hD hS hA h0 ht hF1 hD1 hL
    rw [hlocs]
    exact kk _ u hpost H1 _ ls (by rw [← ht]; exact hP1) hD2 hS2 hl9
theorem j_callSN (X : jX Γ cc nL own) {y : MethodName} {cy : ByteArray} {maxL n : Nat} {rt : Option FieldType} {rm : Room} (As rest : List Value) {mc ms : Nat} {Post : Option Value → va_W → Prop} (hM : jC (jgE Γ) y cy maxL rt rm As w mc ms Post) {index : Nat} {host : String} (hm : jMs y cy maxL rt n) (hl : Cond.methodLinkNest own index y host ∈ jN) (hn : As.length = n) (hrm : rm.cells = mc ∧ rm.slots = ms) (hR : (rm.frames + 1 ≤ (jgR Γ).frames ∧ 8 + (maxL + 11) + rm.locals ≤ (jgR Γ).locals) ∧ kc + mc ≤ (jgR Γ).cells ∧ ks + ms ≤ (jgR Γ).slots) (hst : st = As.reverse ++ rest) (hcat : (rest.map fun v => v.category).sum ≤ 8) (d : decode cc pc = .ok (.invokestatic index, 3))
    (kk : ∀ (v : Option Value) (u : va_W), Post v u → J Γ nL u (kc + mc) (ks + ms) (pc + 3) lo (v.toList ++ rest)) : J Γ nL w kc ks pc lo st := by
  obtain ⟨p, ⟨l, D, cyy, κ⟩, e, R, s, m, args, below, meth, c, A, Q⟩ := Γ
  obtain ⟨hx, hbc, hml, hown, hts, hK, hA, hF, hlk, hst9⟩ := X
  intro H locs ls hP hD hS hl9
  obtain ⟨m1, m3, m4, m5, m6⟩ := hm
  refine jW_run (va_runSN (As := As) (rest := rest) ⟨hx, hbc, hml, hown, hts⟩ (hM hst9 H.size) ⟨va_cnB n hts (jG_c m4) rfl hrm.1 hrm.2 (hF.2.2.2.2.2.1 _ hl) (hts _ m3) ⟨m5.1, m5.2, m6⟩ hR.1, hts _ m1, trivial⟩ ⟨j_blind, fun U hU hW => ⟨rfl, j_pre hK hF hP hD hS hA hU hW⟩⟩ rfl hn hl9.1 hst (lv_room hcat) d hR.2) hS ?_ ?_
  · intro q hq
    rcases hq with ⟨k, e9, h⟩ | h
    · exact hD.2 k (q, e9) h
    · exact hA q (Nat.le_trans hS.1 h)
  · intro v st₀ t H1 locs1 h0 ht hvm hq L hL hlocs
    obtain ⟨⟨v9, u, hv, hpost, hP1, hD1⟩, hF1⟩ := hq
    cases hv
    obtain ⟨hD2, hS2⟩ := j_back hP hD hS hA h0 ht hF1 hD1 hL
    rw [hlocs]
    exact kk _ u hpost H1 _ ls (by rw [← ht]; exact hP1) hD2 hS2 hl9
theorem j_callC (X : jX Γ cc nL own) {y : MethodName} {cy : ByteArray} {maxL n : Nat} {rt : Option FieldType} {rm : Room} {i : Nat} (As rest : List Value) {mc ms : Nat} {Post : Option Value → va_W → Prop} (hM : jC (jgE Γ) y cy maxL rt rm (.ref ((jgE Γ).2.2.2 (10 + i)) :: As) w mc ms Post) {index : Nat} (hi : i < 27) (hy9 : y.cls = RJ0) (hm : jMv y cy maxL rt n) (hl : Cond.methodLink own index y ∈ jB) (hn : As.length = n) (hrm : rm.cells = mc ∧ rm.slots = ms) (hR : (rm.frames + 1 ≤ (jgR Γ).frames ∧ 8 + (maxL + 11) + rm.locals ≤ (jgR Γ).locals) ∧ kc + mc ≤ (jgR Γ).cells ∧ ks + ms ≤ (jgR Γ).slots) (hst : st = As.reverse ++ .ref ((jgE Γ).2.2.2 (10 + i)) :: rest) (hcat : (rest.map fun v => v.category).sum ≤ 8) (d : decode cc pc = .ok (.invokevirtual index, 3))
    (kk : ∀ (v : Option Value) (u : va_W), Post v u → J Γ nL u (kc + mc) (ks + ms) (pc + 3) lo (v.toList ++ rest)) : J Γ nL w kc ks pc lo st := by
  obtain ⟨p, ⟨l, D, cyy, κ⟩, e, R, s, m, args, below, meth, c, A, Q⟩ := Γ
  obtain ⟨hx, hbc, hml, hown, hts, hK, hA, hF, hlk, hst9⟩ := X
  intro H locs ls hP hD hS hl9
  obtain ⟨m1, m2, m3, m4, m5, m6⟩ := hm
  have hrecv : ∃ cellB : Cell, H[κ (10 + i)]? = some cellB ∧ cellB.vm.isStatics = false ∧ s.vm.findClass y.cls = some cellB.cls := by
    obtain ⟨cell, q1, q2, q3, q4⟩ := (hF.2.2.2.2.2.2.2.1 i hi).1
    refine ⟨cell, ?_, q2, by rw [hy9]; exact q3⟩
    rw [hS.2.1 _ (Array.getElem?_eq_some_iff.mp q1).1 q4]
    exact q1
  refine jW_run (va_runV (As := As) (rest := rest) (C := y.cls) ⟨hx, hbc, hml, hown, hts⟩ (hM hst9 H.size) (cwV n hts ?_ rfl hrm.1 hrm.2 ⟨rfl, m5.1, m5.2, m6⟩ hR.1) ⟨j_blind, hrecv, fun U hU hW => ⟨rfl, j_pre hK hF hP hD hS hA hU hW⟩⟩ rfl hn hl9.1 hst (lv_room hcat) d hR.2) hS ?_ ?_
  · intro z hz
    unfold wsV at hz
    rcases List.mem_append.mp hz with h | h
    · have : z ∈ jB := by
        simp only [List.mem_cons, List.not_mem_nil, or_false] at h
        rcases h with rfl | rfl | rfl | rfl
        · exact hl
        · exact m1
        · exact m2
        · exact m3
      exact ⟨this, jB_good _ this⟩
    · exact jG_c m4 z h
  · intro q hq
    rcases hq with ⟨k, e9, h⟩ | h
    · exact hD.2 k (q, e9) h
    · exact hA q (Nat.le_trans hS.1 h)
  · intro v st₀ t H1 locs1 h0 ht hvm hq L hL hlocs
    obtain ⟨⟨v9, u, hv, hpost, hP1, hD1⟩, hF1⟩ := hq
    cases hv
    obtain ⟨hD2, hS2⟩ := j_back hP hD hS hA h0 ht hF1 hD1 hL
    rw [hlocs]
    exact kk _ u hpost H1 _ ls (by rw [← ht]; exact hP1) hD2 hS2 hl9
theorem j_callCi (X : jX Γ cc nL own) {y : MethodName} {cy : ByteArray} {maxL n : Nat} {rt : Option FieldType} {rm : Room} {i : Nat} (As rest : List Value) {mc ms : Nat} {P : Int32 → va_W → Prop} (hM : jC (jgE Γ) y cy maxL rt rm (.ref ((jgE Γ).2.2.2 (10 + i)) :: As) w mc ms (jPi P)) {index : Nat} (hi : i < 27) (hy9 : y.cls = RJ0) (hm : jMv y cy maxL rt n) (hl : Cond.methodLink own index y ∈ jB) (hn : As.length = n) (hrm : rm.cells = mc ∧ rm.slots = ms) (hR : (rm.frames + 1 ≤ (jgR Γ).frames ∧ 8 + (maxL + 11) + rm.locals ≤ (jgR Γ).locals) ∧ kc + mc ≤ (jgR Γ).cells ∧ ks + ms ≤ (jgR Γ).slots) (hst : st = As.reverse ++ .ref ((jgE Γ).2.2.2 (10 + i)) :: rest) (hcat : (rest.map fun v => v.category).sum ≤ 8) (d : decode cc pc = .ok (.invokevirtual index, 3))
    (kk : ∀ (r : Int32) (u : va_W), P r u → J Γ nL u (kc + mc) (ks + ms) (pc + 3) lo (.int r :: rest)) : J Γ nL w kc ks pc lo st :=
  j_callC X As rest hM hi hy9 hm hl hn hrm hR hst hcat d (fun v u h => by obtain ⟨r, rfl, hp⟩ := h; exact kk r u hp)
theorem j_callVi (X : jX Γ cc nL own) {y : MethodName} {cy : ByteArray} {maxL n : Nat} {rt : Option FieldType} {rm : Room} {b : Nat} (As rest : List Value) {mc ms : Nat} {P : Int32 → va_W → Prop} (hM : jC (jgE Γ) y cy maxL rt rm (.ref b :: As) w mc ms (jPi P)) {ci index : Nat} {T : u_T} {N : Nat} {fs : List Value} (hb : jlk w b = some (.inr (ci, fs))) (hci : vwCl[ci]? = some (y.cls, T, N)) (hm : jMv y cy maxL rt n) (hl : Cond.methodLink own index y ∈ jB) (hn : As.length = n) (hrm : rm.cells = mc ∧ rm.slots = ms) (hR : (rm.frames + 1 ≤ (jgR Γ).frames ∧ 8 + (maxL + 11) + rm.locals ≤ (jgR Γ).locals) ∧ kc + mc ≤ (jgR Γ).cells ∧ ks + ms ≤ (jgR Γ).slots) (hst : st = As.reverse ++ .ref b :: rest) (hcat : (rest.map fun v => v.category).sum ≤ 8) (d : decode cc pc = .ok (.invokevirtual index, 3)) (kk : ∀ (r : Int32) (u : va_W), P r u → J Γ nL u (kc + mc) (ks + ms) (pc + 3) lo (.int r :: rest)) : J Γ nL w kc ks pc lo st :=
  j_callV X As rest hM hb hci hm hl hn hrm hR hst hcat d (fun v u h => by obtain ⟨r, rfl, hp⟩ := h; exact kk r u hp)
theorem j_callVr (X : jX Γ cc nL own) {y : MethodName} {cy : ByteArray} {maxL n : Nat} {rt : Option FieldType} {rm : Room} {b : Nat} (As rest : List Value) {mc ms : Nat} {P : Nat → va_W → Prop} (hM : jC (jgE Γ) y cy maxL rt rm (.ref b :: As) w mc ms (jPr P)) {ci index : Nat} {T : u_T} {N : Nat} {fs : List Value} (hb : jlk w b = some (.inr (ci, fs))) (hci : vwCl[ci]? = some (y.cls, T, N)) (hm : jMv y cy maxL rt n) (hl : Cond.methodLink own index y ∈ jB) (hn : As.length = n) (hrm : rm.cells = mc ∧ rm.slots = ms) (hR : (rm.frames + 1 ≤ (jgR Γ).frames ∧ 8 + (maxL + 11) + rm.locals ≤ (jgR Γ).locals) ∧ kc + mc ≤ (jgR Γ).cells ∧ ks + ms ≤ (jgR Γ).slots) (hst : st = As.reverse ++ .ref b :: rest) (hcat : (rest.map fun v => v.category).sum ≤ 8) (d : decode cc pc = .ok (.invokevirtual index, 3)) (kk : ∀ (r : Nat) (u : va_W), P r u → J Γ nL u (kc + mc) (ks + ms) (pc + 3) lo (.ref r :: rest)) : J Γ nL w kc ks pc lo st :=
  j_callV X As rest hM hb hci hm hl hn hrm hR hst hcat d (fun v u h => by obtain ⟨r, rfl, hp⟩ := h; exact kk r u hp)
theorem j_callVl (X : jX Γ cc nL own) {y : MethodName} {cy : ByteArray} {maxL n : Nat} {rt : Option FieldType} {rm : Room} {b : Nat} (As rest : List Value) {mc ms : Nat} {P : Int64 → va_W → Prop} (hM : jC (jgE Γ) y cy maxL rt rm (.ref b :: As) w mc ms (jPl P)) {ci index : Nat} {T : u_T} {N : Nat} {fs : List Value} (hb : jlk w b = some (.inr (ci, fs))) (hci : vwCl[ci]? = some (y.cls, T, N)) (hm : jMv y cy maxL rt n) (hl : Cond.methodLink own index y ∈ jB) (hn : As.length = n) (hrm : rm.cells = mc ∧ rm.slots = ms) (hR : (rm.frames + 1 ≤ (jgR Γ).frames ∧ 8 + (maxL + 11) + rm.locals ≤ (jgR Γ).locals) ∧ kc + mc ≤ (jgR Γ).cells ∧ ks + ms ≤ (jgR Γ).slots) (hst : st = As.reverse ++ .ref b :: rest) (hcat : (rest.map fun v => v.category).sum ≤ 8) (d : decode cc pc = .ok (.invokevirtual index, 3)) (kk : ∀ (r : Int64) (u : va_W), P r u → J Γ nL u (kc + mc) (ks + ms) (pc + 3) lo (.long r :: rest)) : J Γ nL w kc ks pc lo st :=
  j_callV X As rest hM hb hci hm hl hn hrm hR hst hcat d (fun v u h => by obtain ⟨r, rfl, hp⟩ := h; exact kk r u hp)
theorem j_callVd (X : jX Γ cc nL own) {y : MethodName} {cy : ByteArray} {maxL n : Nat} {rt : Option FieldType} {rm : Room} {b : Nat} (As rest : List Value) {mc ms : Nat} {P : UInt64 → va_W → Prop} (hM : jC (jgE Γ) y cy maxL rt rm (.ref b :: As) w mc ms (jPd P)) {ci index : Nat} {T : u_T} {N : Nat} {fs : List Value} (hb : jlk w b = some (.inr (ci, fs))) (hci : vwCl[ci]? = some (y.cls, T, N)) (hm : jMv y cy maxL rt n) (hl : Cond.methodLink own index y ∈ jB) (hn : As.length = n) (hrm : rm.cells = mc ∧ rm.slots = ms) (hR : (rm.frames + 1 ≤ (jgR Γ).frames ∧ 8 + (maxL + 11) + rm.locals ≤ (jgR Γ).locals) ∧ kc + mc ≤ (jgR Γ).cells ∧ ks + ms ≤ (jgR Γ).slots) (hst : st = As.reverse ++ .ref b :: rest) (hcat : (rest.map fun v => v.category).sum ≤ 8) (d : decode cc pc = .ok (.invokevirtual index, 3)) (kk : ∀ (r : UInt64) (u : va_W), P r u → J Γ nL u (kc + mc) (ks + ms) (pc + 3) lo (.double r :: rest)) : J Γ nL w kc ks pc lo st :=
  j_callV X As rest hM hb hci hm hl hn hrm hR hst hcat d (fun v u h => by obtain ⟨r, rfl, hp⟩ := h; exact kk r u hp)
theorem j_callVf (X : jX Γ cc nL own) {y : MethodName} {cy : ByteArray} {maxL n : Nat} {rt : Option FieldType} {rm : Room} {b : Nat} (As rest : List Value) {mc ms : Nat} {P : UInt32 → va_W → Prop} (hM : jC (jgE Γ) y cy maxL rt rm (.ref b :: As) w mc ms (jPf P)) {ci index : Nat} {T : u_T} {N : Nat} {fs : List Value} (hb : jlk w b = some (.inr (ci, fs))) (hci : vwCl[ci]? = some (y.cls, T, N)) (hm : jMv y cy maxL rt n) (hl : Cond.methodLink own index y ∈ jB) (hn : As.length = n) (hrm : rm.cells = mc ∧ rm.slots = ms) (hR : (rm.frames + 1 ≤ (jgR Γ).frames ∧ 8 + (maxL + 11) + rm.locals ≤ (jgR Γ).locals) ∧ kc + mc ≤ (jgR Γ).cells ∧ ks + ms ≤ (jgR Γ).slots) (hst : st = As.reverse ++ .ref b :: rest) (hcat : (rest.map fun v => v.category).sum ≤ 8) (d : decode cc pc = .ok (.invokevirtual index, 3)) (kk : ∀ (r : UInt32) (u : va_W), P r u → J Γ nL u (kc + mc) (ks + ms) (pc + 3) lo (.float r :: rest)) : J Γ nL w kc ks pc lo st :=
  j_callV X As rest hM hb hci hm hl hn hrm hR hst hcat d (fun v u h => by obtain ⟨r, rfl, hp⟩ := h; exact kk r u hp)
theorem j_callVv (X : jX Γ cc nL own) {y : MethodName} {cy : ByteArray} {maxL n : Nat} {rt : Option FieldType} {rm : Room} {b : Nat} (As rest : List Value) {mc ms : Nat} {P : va_W → Prop} (hM : jC (jgE Γ) y cy maxL rt rm (.ref b :: As) w mc ms (jPv P)) {ci index : Nat} {T : u_T} {N : Nat} {fs : List Value} (hb : jlk w b = some (.inr (ci, fs))) (hci : vwCl[ci]? = some (y.cls, T, N)) (hm : jMv y cy maxL rt n) (hl : Cond.methodLink own index y ∈ jB) (hn : As.length = n) (hrm : rm.cells = mc ∧ rm.slots = ms) (hR : (rm.frames + 1 ≤ (jgR Γ).frames ∧ 8 + (maxL + 11) + rm.locals ≤ (jgR Γ).locals) ∧ kc + mc ≤ (jgR Γ).cells ∧ ks + ms ≤ (jgR Γ).slots) (hst : st = As.reverse ++ .ref b :: rest) (hcat : (rest.map fun v => v.category).sum ≤ 8) (d : decode cc pc = .ok (.invokevirtual index, 3)) (kk : ∀ u : va_W, P u → J Γ nL u (kc + mc) (ks + ms) (pc + 3) lo rest) : J Γ nL w kc ks pc lo st :=
  j_callV X As rest hM hb hci hm hl hn hrm hR hst hcat d (fun v u h => by obtain ⟨rfl, hp⟩ := h; exact kk u hp)
theorem j_callSi (X : jX Γ cc nL own) {y : MethodName} {cy : ByteArray} {maxL n : Nat} {rt : Option FieldType} {rm : Room} (As rest : List Value) {mc ms : Nat} {P : Int32 → va_W → Prop} (hM : jC (jgE Γ) y cy maxL rt rm As w mc ms (jPi P)) {index : Nat} (hm : jMs y cy maxL rt n) (hl : Cond.methodLink own index y ∈ jB) (hn : As.length = n) (hrm : rm.cells = mc ∧ rm.slots = ms) (hR : (rm.frames + 1 ≤ (jgR Γ).frames ∧ 8 + (maxL + 11) + rm.locals ≤ (jgR Γ).locals) ∧ kc + mc ≤ (jgR Γ).cells ∧ ks + ms ≤ (jgR Γ).slots) (hst : st = As.reverse ++ rest) (hcat : (rest.map fun v => v.category).sum ≤ 8) (d : decode cc pc = .ok (.invokestatic index, 3)) (kk : ∀ (r : Int32) (u : va_W), P r u → J Γ nL u (kc + mc) (ks + ms) (pc + 3) lo (.int r :: rest)) : J Γ nL w kc ks pc lo st :=
  j_callS X As rest hM hm hl hn hrm hR hst hcat d (fun v u h => by obtain ⟨r, rfl, hp⟩ := h; exact kk r u hp)
theorem j_callSr (X : jX Γ cc nL own) {y : MethodName} {cy : ByteArray} {maxL n : Nat} {rt : Option FieldType} {rm : Room} (As rest : List Value) {mc ms : Nat} {P : Nat → va_W → Prop} (hM : jC (jgE Γ) y cy maxL rt rm As w mc ms (jPr P)) {index : Nat} (hm : jMs y cy maxL rt n) (hl : Cond.methodLink own index y ∈ jB) (hn : As.length = n) (hrm : rm.cells = mc ∧ rm.slots = ms) (hR : (rm.frames + 1 ≤ (jgR Γ).frames ∧ 8 + (maxL + 11) + rm.locals ≤ (jgR Γ).locals) ∧ kc + mc ≤ (jgR Γ).cells ∧ ks + ms ≤ (jgR Γ).slots) (hst : st = As.reverse ++ rest) (hcat : (rest.map fun v => v.category).sum ≤ 8) (d : decode cc pc = .ok (.invokestatic index, 3)) (kk : ∀ (r : Nat) (u : va_W), P r u → J Γ nL u (kc + mc) (ks + ms) (pc + 3) lo (.ref r :: rest)) : J Γ nL w kc ks pc lo st :=
  j_callS X As rest hM hm hl hn hrm hR hst hcat d (fun v u h => by obtain ⟨r, rfl, hp⟩ := h; exact kk r u hp)
theorem j_callSl (X : jX Γ cc nL own) {y : MethodName} {cy : ByteArray} {maxL n : Nat} {rt : Option FieldType} {rm : Room} (As rest : List Value) {mc ms : Nat} {P : Int64 → va_W → Prop} (hM : jC (jgE Γ) y cy maxL rt rm As w mc ms (jPl P)) {index : Nat} (hm : jMs y cy maxL rt n) (hl : Cond.methodLink own index y ∈ jB) (hn : As.length = n) (hrm : rm.cells = mc ∧ rm.slots = ms) (hR : (rm.frames + 1 ≤ (jgR Γ).frames ∧ 8 + (maxL + 11) + rm.locals ≤ (jgR Γ).locals) ∧ kc + mc ≤ (jgR Γ).cells ∧ ks + ms ≤ (jgR Γ).slots) (hst : st = As.reverse ++ rest) (hcat : (rest.map fun v => v.category).sum ≤ 8) (d : decode cc pc = .ok (.invokestatic index, 3)) (kk : ∀ (r : Int64) (u : va_W), P r u → J Γ nL u (kc + mc) (ks + ms) (pc + 3) lo (.long r :: rest)) : J Γ nL w kc ks pc lo st :=
  j_callS X As rest hM hm hl hn hrm hR hst hcat d (fun v u h => by obtain ⟨r, rfl, hp⟩ := h; exact kk r u hp)
theorem j_callSd (X : jX Γ cc nL own) {y : MethodName} {cy : ByteArray} {maxL n : Nat} {rt : Option FieldType} {rm : Room} (As rest : List Value) {mc ms : Nat} {P : UInt64 → va_W → Prop} (hM : jC (jgE Γ) y cy maxL rt rm As w mc ms (jPd P)) {index : Nat} (hm : jMs y cy maxL rt n) (hl : Cond.methodLink own index y ∈ jB) (hn : As.length = n) (hrm : rm.cells = mc ∧ rm.slots = ms) (hR : (rm.frames + 1 ≤ (jgR Γ).frames ∧ 8 + (maxL + 11) + rm.locals ≤ (jgR Γ).locals) ∧ kc + mc ≤ (jgR Γ).cells ∧ ks + ms ≤ (jgR Γ).slots) (hst : st = As.reverse ++ rest) (hcat : (rest.map fun v => v.category).sum ≤ 8) (d : decode cc pc = .ok (.invokestatic index, 3)) (kk : ∀ (r : UInt64) (u : va_W), P r u → J Γ nL u (kc + mc) (ks + ms) (pc + 3) lo (.double r :: rest)) : J Γ nL w kc ks pc lo st :=
  j_callS X As rest hM hm hl hn hrm hR hst hcat d (fun v u h => by obtain ⟨r, rfl, hp⟩ := h; exact kk r u hp)
theorem j_callSf (X : jX Γ cc nL own) {y : MethodName} {cy : ByteArray} {maxL n : Nat} {rt : Option FieldType} {rm : Room} (As rest : List Value) {mc ms : Nat} {P : UInt32 → va_W → Prop} (hM : jC (jgE Γ) y cy maxL rt rm As w mc ms (jPf P)) {index : Nat} (hm : jMs y cy maxL rt n) (hl : Cond.methodLink own index y ∈ jB) (hn : As.length = n) (hrm : rm.cells = mc ∧ rm.slots = ms) (hR : (rm.frames + 1 ≤ (jgR Γ).frames ∧ 8 + (maxL + 11) + rm.locals ≤ (jgR Γ).locals) ∧ kc + mc ≤ (jgR Γ).cells ∧ ks + ms ≤ (jgR Γ).slots) (hst : st = As.reverse ++ rest) (hcat : (rest.map fun v => v.category).sum ≤ 8) (d : decode cc pc = .ok (.invokestatic index, 3)) (kk : ∀ (r : UInt32) (u : va_W), P r u → J Γ nL u (kc + mc) (ks + ms) (pc + 3) lo (.float r :: rest)) : J Γ nL w kc ks pc lo st :=
  j_callS X As rest hM hm hl hn hrm hR hst hcat d (fun v u h => by obtain ⟨r, rfl, hp⟩ := h; exact kk r u hp)
theorem j_callSv (X : jX Γ cc nL own) {y : MethodName} {cy : ByteArray} {maxL n : Nat} {rt : Option FieldType} {rm : Room} (As rest : List Value) {mc ms : Nat} {P : va_W → Prop} (hM : jC (jgE Γ) y cy maxL rt rm As w mc ms (jPv P)) {index : Nat} (hm : jMs y cy maxL rt n) (hl : Cond.methodLink own index y ∈ jB) (hn : As.length = n) (hrm : rm.cells = mc ∧ rm.slots = ms) (hR : (rm.frames + 1 ≤ (jgR Γ).frames ∧ 8 + (maxL + 11) + rm.locals ≤ (jgR Γ).locals) ∧ kc + mc ≤ (jgR Γ).cells ∧ ks + ms ≤ (jgR Γ).slots) (hst : st = As.reverse ++ rest) (hcat : (rest.map fun v => v.category).sum ≤ 8) (d : decode cc pc = .ok (.invokestatic index, 3)) (kk : ∀ u : va_W, P u → J Γ nL u (kc + mc) (ks + ms) (pc + 3) lo rest) : J Γ nL w kc ks pc lo st :=
  j_callS X As rest hM hm hl hn hrm hR hst hcat d (fun v u h => by obtain ⟨rfl, hp⟩ := h; exact kk u hp)
theorem j_callVNi (X : jX Γ cc nL own) {y : MethodName} {cy : ByteArray} {maxL n : Nat} {rt : Option FieldType} {rm : Room} {b : Nat} (As rest : List Value) {mc ms : Nat} {P : Int32 → va_W → Prop} (hM : jC (jgE Γ) y cy maxL rt rm (.ref b :: As) w mc ms (jPi P)) {ci index : Nat} {host : String} {T : u_T} {N : Nat} {fs : List Value} (hb : jlk w b = some (.inr (ci, fs))) (hci : vwCl[ci]? = some (y.cls, T, N)) (hm : jMv y cy maxL rt n) (hl : Cond.methodLinkNest own index y host ∈ jN) (hn : As.length = n) (hrm : rm.cells = mc ∧ rm.slots = ms) (hR : (rm.frames + 1 ≤ (jgR Γ).frames ∧ 8 + (maxL + 11) + rm.locals ≤ (jgR Γ).locals) ∧ kc + mc ≤ (jgR Γ).cells ∧ ks + ms ≤ (jgR Γ).slots) (hst : st = As.reverse ++ .ref b :: rest) (hcat : (rest.map fun v => v.category).sum ≤ 8) (d : decode cc pc = .ok (.invokevirtual index, 3)) (kk : ∀ (r : Int32) (u : va_W), P r u → J Γ nL u (kc + mc) (ks + ms) (pc + 3) lo (.int r :: rest)) : J Γ nL w kc ks pc lo st :=
  j_callVN X As rest hM hb hci hm hl hn hrm hR hst hcat d (fun v u h => by obtain ⟨r, rfl, hp⟩ := h; exact kk r u hp)
theorem j_callVNr (X : jX Γ cc nL own) {y : MethodName} {cy : ByteArray} {maxL n : Nat} {rt : Option FieldType} {rm : Room} {b : Nat} (As rest : List Value) {mc ms : Nat} {P : Nat → va_W → Prop} (hM : jC (jgE Γ) y cy maxL rt rm (.ref b :: As) w mc ms (jPr P)) {ci index : Nat} {host : String} {T : u_T} {N : Nat} {fs : List Value} (hb : jlk w b = some (.inr (ci, fs))) (hci : vwCl[ci]? = some (y.cls, T, N)) (hm : jMv y cy maxL rt n) (hl : Cond.methodLinkNest own index y host ∈ jN) (hn : As.length = n) (hrm : rm.cells = mc ∧ rm.slots = ms) (hR : (rm.frames + 1 ≤ (jgR Γ).frames ∧ 8 + (maxL + 11) + rm.locals ≤ (jgR Γ).locals) ∧ kc + mc ≤ (jgR Γ).cells ∧ ks + ms ≤ (jgR Γ).slots) (hst : st = As.reverse ++ .ref b :: rest) (hcat : (rest.map fun v => v.category).sum ≤ 8) (d : decode cc pc = .ok (.invokevirtual index, 3)) (kk : ∀ (r : Nat) (u : va_W), P r u → J Γ nL u (kc + mc) (ks + ms) (pc + 3) lo (.ref r :: rest)) : J Γ nL w kc ks pc lo st :=
  j_callVN X As rest hM hb hci hm hl hn hrm hR hst hcat d (fun v u h => by obtain ⟨r, rfl, hp⟩ := h; exact kk r u hp)
theorem j_callVNl (X : jX Γ cc nL own) {y : MethodName} {cy : ByteArray} {maxL n : Nat} {rt : Option FieldType} {rm : Room} {b : Nat} (As rest : List Value) {mc ms : Nat} {P : Int64 → va_W → Prop} (hM : jC (jgE Γ) y cy maxL rt rm (.ref b :: As) w mc ms (jPl P)) {ci index : Nat} {host : String} {T : u_T} {N : Nat} {fs : List Value} (hb : jlk w b = some (.inr (ci, fs))) (hci : vwCl[ci]? = some (y.cls, T, N)) (hm : jMv y cy maxL rt n) (hl : Cond.methodLinkNest own index y host ∈ jN) (hn : As.length = n) (hrm : rm.cells = mc ∧ rm.slots = ms) (hR : (rm.frames + 1 ≤ (jgR Γ).frames ∧ 8 + (maxL + 11) + rm.locals ≤ (jgR Γ).locals) ∧ kc + mc ≤ (jgR Γ).cells ∧ ks + ms ≤ (jgR Γ).slots) (hst : st = As.reverse ++ .ref b :: rest) (hcat : (rest.map fun v => v.category).sum ≤ 8) (d : decode cc pc = .ok (.invokevirtual index, 3)) (kk : ∀ (r : Int64) (u : va_W), P r u → J Γ nL u (kc + mc) (ks + ms) (pc + 3) lo (.long r :: rest)) : J Γ nL w kc ks pc lo st :=
  j_callVN X As rest hM hb hci hm hl hn hrm hR hst hcat d (fun v u h => by obtain ⟨r, rfl, hp⟩ := h; exact kk r u hp)
theorem j_callVNd (X : jX Γ cc nL own) {y : MethodName} {cy : ByteArray} {maxL n : Nat} {rt : Option FieldType} {rm : Room} {b : Nat} (As rest : List Value) {mc ms : Nat} {P : UInt64 → va_W → Prop} (hM : jC (jgE Γ) y cy maxL rt rm (.ref b :: As) w mc ms (jPd P)) {ci index : Nat} {host : String} {T : u_T} {N : Nat} {fs : List Value} (hb : jlk w b = some (.inr (ci, fs))) (hci : vwCl[ci]? = some (y.cls, T, N)) (hm : jMv y cy maxL rt n) (hl : Cond.methodLinkNest own index y host ∈ jN) (hn : As.length = n) (hrm : rm.cells = mc ∧ rm.slots = ms) (hR : (rm.frames + 1 ≤ (jgR Γ).frames ∧ 8 + (maxL + 11) + rm.locals ≤ (jgR Γ).locals) ∧ kc + mc ≤ (jgR Γ).cells ∧ ks + ms ≤ (jgR Γ).slots) (hst : st = As.reverse ++ .ref b :: rest) (hcat : (rest.map fun v => v.category).sum ≤ 8) (d : decode cc pc = .ok (.invokevirtual index, 3)) (kk : ∀ (r : UInt64) (u : va_W), P r u → J Γ nL u (kc + mc) (ks + ms) (pc + 3) lo (.double r :: rest)) : J Γ nL w kc ks pc lo st :=
  j_callVN X As rest hM hb hci hm hl hn hrm hR hst hcat d (fun v u h => by obtain ⟨r, rfl, hp⟩ := h; exact kk r u hp)
theorem j_callVNf (X : jX Γ cc nL own) {y : MethodName} {cy : ByteArray} {maxL n : Nat} {rt : Option FieldType} {rm : Room} {b : Nat} (As rest : List Value) {mc ms : Nat} {P : UInt32 → va_W → Prop} (hM : jC (jgE Γ) y cy maxL rt rm (.ref b :: As) w mc ms (jPf P)) {ci index : Nat} {host : String} {T : u_T} {N : Nat} {fs : List Value} (hb : jlk w b = some (.inr (ci, fs))) (hci : vwCl[ci]? = some (y.cls, T, N)) (hm : jMv y cy maxL rt n) (hl : Cond.methodLinkNest own index y host ∈ jN) (hn : As.length = n) (hrm : rm.cells = mc ∧ rm.slots = ms) (hR : (rm.frames + 1 ≤ (jgR Γ).frames ∧ 8 + (maxL + 11) + rm.locals ≤ (jgR Γ).locals) ∧ kc + mc ≤ (jgR Γ).cells ∧ ks + ms ≤ (jgR Γ).slots) (hst : st = As.reverse ++ .ref b :: rest) (hcat : (rest.map fun v => v.category).sum ≤ 8) (d : decode cc pc = .ok (.invokevirtual index, 3)) (kk : ∀ (r : UInt32) (u : va_W), P r u → J Γ nL u (kc + mc) (ks + ms) (pc + 3) lo (.float r :: rest)) : J Γ nL w kc ks pc lo st :=
  j_callVN X As rest hM hb hci hm hl hn hrm hR hst hcat d (fun v u h => by obtain ⟨r, rfl, hp⟩ := h; exact kk r u hp)
theorem j_callVNv (X : jX Γ cc nL own) {y : MethodName} {cy : ByteArray} {maxL n : Nat} {rt : Option FieldType} {rm : Room} {b : Nat} (As rest : List Value) {mc ms : Nat} {P : va_W → Prop} (hM : jC (jgE Γ) y cy maxL rt rm (.ref b :: As) w mc ms (jPv P)) {ci index : Nat} {host : String} {T : u_T} {N : Nat} {fs : List Value} (hb : jlk w b = some (.inr (ci, fs))) (hci : vwCl[ci]? = some (y.cls, T, N)) (hm : jMv y cy maxL rt n) (hl : Cond.methodLinkNest own index y host ∈ jN) (hn : As.length = n) (hrm : rm.cells = mc ∧ rm.slots = ms) (hR : (rm.frames + 1 ≤ (jgR Γ).frames ∧ 8 + (maxL + 11) + rm.locals ≤ (jgR Γ).locals) ∧ kc + mc ≤ (jgR Γ).cells ∧ ks + ms ≤ (jgR Γ).slots) (hst : st = As.reverse ++ .ref b :: rest) (hcat : (rest.map fun v => v.category).sum ≤ 8) (d : decode cc pc = .ok (.invokevirtual index, 3)) (kk : ∀ u : va_W, P u → J Γ nL u (kc + mc) (ks + ms) (pc + 3) lo rest) : J Γ nL w kc ks pc lo st :=
  j_callVN X As rest hM hb hci hm hl hn hrm hR hst hcat d (fun v u h => by obtain ⟨rfl, hp⟩ := h; exact kk u hp)
theorem j_callSNi (X : jX Γ cc nL own) {y : MethodName} {cy : ByteArray} {maxL n : Nat} {rt : Option FieldType} {rm : Room} (As rest : List Value) {mc ms : Nat} {P : Int32 → va_W → Prop} (hM : jC (jgE Γ) y cy maxL rt rm As w mc ms (jPi P)) {index : Nat} {host : String} (hm : jMs y cy maxL rt n) (hl : Cond.methodLinkNest own index y host ∈ jN) (hn : As.length = n) (hrm : rm.cells = mc ∧ rm.slots = ms) (hR : (rm.frames + 1 ≤ (jgR Γ).frames ∧ 8 + (maxL + 11) + rm.locals ≤ (jgR Γ).locals) ∧ kc + mc ≤ (jgR Γ).cells ∧ ks + ms ≤ (jgR Γ).slots) (hst : st = As.reverse ++ rest) (hcat : (rest.map fun v => v.category).sum ≤ 8) (d : decode cc pc = .ok (.invokestatic index, 3)) (kk : ∀ (r : Int32) (u : va_W), P r u → J Γ nL u (kc + mc) (ks + ms) (pc + 3) lo (.int r :: rest)) : J Γ nL w kc ks pc lo st :=
  j_callSN X As rest hM hm hl hn hrm hR hst hcat d (fun v u h => by obtain ⟨r, rfl, hp⟩ := h; exact kk r u hp)
theorem j_callSNr (X : jX Γ cc nL own) {y : MethodName} {cy : ByteArray} {maxL n : Nat} {rt : Option FieldType} {rm : Room} (As rest : List Value) {mc ms : Nat} {P : Nat → va_W → Prop} (hM : jC (jgE Γ) y cy maxL rt rm As w mc ms (jPr P)) {index : Nat} {host : String} (hm : jMs y cy maxL rt n) (hl : Cond.methodLinkNest own index y host ∈ jN) (hn : As.length = n) (hrm : rm.cells = mc ∧ rm.slots = ms) (hR : (rm.frames + 1 ≤ (jgR Γ).frames ∧ 8 + (maxL + 11) + rm.locals ≤ (jgR Γ).locals) ∧ kc + mc ≤ (jgR Γ).cells ∧ ks + ms ≤ (jgR Γ).slots) (hst : st = As.reverse ++ rest) (hcat : (rest.map fun v => v.category).sum ≤ 8) (d : decode cc pc = .ok (.invokestatic index, 3)) (kk : ∀ (r : Nat) (u : va_W), P r u → J Γ nL u (kc + mc) (ks + ms) (pc + 3) lo (.ref r :: rest)) : J Γ nL w kc ks pc lo st :=
  j_callSN X As rest hM hm hl hn hrm hR hst hcat d (fun v u h => by obtain ⟨r, rfl, hp⟩ := h; exact kk r u hp)
theorem j_callSNl (X : jX Γ cc nL own) {y : MethodName} {cy : ByteArray} {maxL n : Nat} {rt : Option FieldType} {rm : Room} (As rest : List Value) {mc ms : Nat} {P : Int64 → va_W → Prop} (hM : jC (jgE Γ) y cy maxL rt rm As w mc ms (jPl P)) {index : Nat} {host : String} (hm : jMs y cy maxL rt n) (hl : Cond.methodLinkNest own index y host ∈ jN) (hn : As.length = n) (hrm : rm.cells = mc ∧ rm.slots = ms) (hR : (rm.frames + 1 ≤ (jgR Γ).frames ∧ 8 + (maxL + 11) + rm.locals ≤ (jgR Γ).locals) ∧ kc + mc ≤ (jgR Γ).cells ∧ ks + ms ≤ (jgR Γ).slots) (hst : st = As.reverse ++ rest) (hcat : (rest.map fun v => v.category).sum ≤ 8) (d : decode cc pc = .ok (.invokestatic index, 3)) (kk : ∀ (r : Int64) (u : va_W), P r u → J Γ nL u (kc + mc) (ks + ms) (pc + 3) lo (.long r :: rest)) : J Γ nL w kc ks pc lo st :=
  j_callSN X As rest hM hm hl hn hrm hR hst hcat d (fun v u h => by obtain ⟨r, rfl, hp⟩ := h; exact kk r u hp)
theorem j_callSNd (X : jX Γ cc nL own) {y : MethodName} {cy : ByteArray} {maxL n : Nat} {rt : Option FieldType} {rm : Room} (As rest : List Value) {mc ms : Nat} {P : UInt64 → va_W → Prop} (hM : jC (jgE Γ) y cy maxL rt rm As w mc ms (jPd P)) {index : Nat} {host : String} (hm : jMs y cy maxL rt n) (hl : Cond.methodLinkNest own index y host ∈ jN) (hn : As.length = n) (hrm : rm.cells = mc ∧ rm.slots = ms) (hR : (rm.frames + 1 ≤ (jgR Γ).frames ∧ 8 + (maxL + 11) + rm.locals ≤ (jgR Γ).locals) ∧ kc + mc ≤ (jgR Γ).cells ∧ ks + ms ≤ (jgR Γ).slots) (hst : st = As.reverse ++ rest) (hcat : (rest.map fun v => v.category).sum ≤ 8) (d : decode cc pc = .ok (.invokestatic index, 3)) (kk : ∀ (r : UInt64) (u : va_W), P r u → J Γ nL u (kc + mc) (ks + ms) (pc + 3) lo (.double r :: rest)) : J Γ nL w kc ks pc lo st :=
  j_callSN X As rest hM hm hl hn hrm hR hst hcat d (fun v u h => by obtain ⟨r, rfl, hp⟩ := h; exact kk r u hp)
theorem j_callSNf (X : jX Γ cc nL own) {y : MethodName} {cy : ByteArray} {maxL n : Nat} {rt : Option FieldType} {rm : Room} (As rest : List Value) {mc ms : Nat} {P : UInt32 → va_W → Prop} (hM : jC (jgE Γ) y cy maxL rt rm As w mc ms (jPf P)) {index : Nat} {host : String} (hm : jMs y cy maxL rt n) (hl : Cond.methodLinkNest own index y host ∈ jN) (hn : As.length = n) (hrm : rm.cells = mc ∧ rm.slots = ms) (hR : (rm.frames + 1 ≤ (jgR Γ).frames ∧ 8 + (maxL + 11) + rm.locals ≤ (jgR Γ).locals) ∧ kc + mc ≤ (jgR Γ).cells ∧ ks + ms ≤ (jgR Γ).slots) (hst : st = As.reverse ++ rest) (hcat : (rest.map fun v => v.category).sum ≤ 8) (d : decode cc pc = .ok (.invokestatic index, 3)) (kk : ∀ (r : UInt32) (u : va_W), P r u → J Γ nL u (kc + mc) (ks + ms) (pc + 3) lo (.float r :: rest)) : J Γ nL w kc ks pc lo st :=
  j_callSN X As rest hM hm hl hn hrm hR hst hcat d (fun v u h => by obtain ⟨r, rfl, hp⟩ := h; exact kk r u hp)
theorem j_callSNv (X : jX Γ cc nL own) {y : MethodName} {cy : ByteArray} {maxL n : Nat} {rt : Option FieldType} {rm : Room} (As rest : List Value) {mc ms : Nat} {P : va_W → Prop} (hM : jC (jgE Γ) y cy maxL rt rm As w mc ms (jPv P)) {index : Nat} {host : String} (hm : jMs y cy maxL rt n) (hl : Cond.methodLinkNest own index y host ∈ jN) (hn : As.length = n) (hrm : rm.cells = mc ∧ rm.slots = ms) (hR : (rm.frames + 1 ≤ (jgR Γ).frames ∧ 8 + (maxL + 11) + rm.locals ≤ (jgR Γ).locals) ∧ kc + mc ≤ (jgR Γ).cells ∧ ks + ms ≤ (jgR Γ).slots) (hst : st = As.reverse ++ rest) (hcat : (rest.map fun v => v.category).sum ≤ 8) (d : decode cc pc = .ok (.invokestatic index, 3)) (kk : ∀ u : va_W, P u → J Γ nL u (kc + mc) (ks + ms) (pc + 3) lo rest) : J Γ nL w kc ks pc lo st :=
  j_callSN X As rest hM hm hl hn hrm hR hst hcat d (fun v u h => by obtain ⟨rfl, hp⟩ := h; exact kk u hp)
end JR4
/-! the words in which a run is told -/
def jgI (w : va_W) (a ci k : Nat) (K : Int32 → Prop) : Prop := ∃ (fs : List Value) (v : Int32), jlk w a = some (.inr (ci, fs)) ∧ fs[k]? = some (.int v) ∧ K v
def jgR' (w : va_W) (a ci k : Nat) (K : Nat → Prop) : Prop := ∃ (fs : List Value) (v : Nat), jlk w a = some (.inr (ci, fs)) ∧ fs[k]? = some (.ref v) ∧ K v
def jpV (w : va_W) (a ci k : Nat) (x : Value) (K : va_W → Prop) : Prop := ∃ fs : List Value, jlk w a = some (.inr (ci, fs)) ∧ k < fs.length ∧ K (jst w a (.inr (ci, fs.set k x)))
def jAl (w : va_W) (a : Nat) (K : Int32 → Prop) : Prop := ∃ (t n : Nat) (r : (Nat → Int32) ⊕ (Nat → Int64) ⊕ (Nat → UInt32) ⊕ (Nat → UInt64) ⊕ (Nat → Option Nat)), t < 3 ∧ jlk w a = some (.inl (t, n, r)) ∧ K (Int32.ofNat n)
def jLd (w : va_W) (a t : Nat) (i : Int32) (K : Int32 → Prop) : Prop := ∃ (n : Nat) (f : Nat → Int32), jlk w a = some (.inl (t, n, .inl f)) ∧ vp_in i n ∧ K (f i.toNatClampNeg)
def jSi (w : va_W) (a : Nat) (i x : Int32) (K : va_W → Prop) : Prop := ∃ (n : Nat) (f : Nat → Int32), jlk w a = some (.inl (0, n, .inl f)) ∧ vp_in i n ∧ K (jst w a (.inl (0, n, .inl (upd f i.toNatClampNeg x))))
def jSb (w : va_W) (a : Nat) (i x : Int32) (K : va_W → Prop) : Prop := ∃ (n : Nat) (f : Nat → Int32), jlk w a = some (.inl (1, n, .inl f)) ∧ vp_in i n ∧ K (jst w a (.inl (1, n, .inl (upd f i.toNatClampNeg (vp_nar .byte x)))))
def jLq (w : va_W) (a : Nat) (i : Int32) (K : Nat → Prop) : Prop := ∃ (n r : Nat) (f : Nat → Option Nat), jlk w a = some (.inl (2, n, .inr (.inr (.inr (.inr f))))) ∧ vp_in i n ∧ f i.toNatClampNeg = some r ∧ K r
def jCp (w : va_W) (t a : Nat) (sp : Int32) (b : Nat) (dp n : Int32) (K : va_W → Prop) : Prop := ∃ (n0 n1 : Nat) (f g : Nat → Int32), jlk w a = some (.inl (t, n0, .inl f)) ∧ jlk w b = some (.inl (t, n1, .inl g)) ∧ (¬ sp < 0 ∧ ¬ dp < 0 ∧ ¬ n < 0 ∧ sp.toNatClampNeg + n.toNatClampNeg ≤ n0 ∧ dp.toNatClampNeg + n.toNatClampNeg ≤ n1) ∧ (∀ i, i < n.toNatClampNeg → fits (jTy t) (.int (f (sp.toNatClampNeg + i))) = true) ∧ K (jst w b (.inl (t, n1, .inl (va_cpy f g sp.toNatClampNeg dp.toNatClampNeg n.toNatClampNeg))))
def jRc (w : va_W) (a ci : Nat) : Prop := ∃ fs : List Value, jlk w a = some (.inr (ci, fs))
theorem jgI_eq {w : va_W} {a ci k : Nat} {K : Int32 → Prop} {fs : List Value} {v : Int32} (h : jlk w a = some (.inr (ci, fs))) (hk : fs[k]? = some (.int v)) : jgI w a ci k K ↔ K v := by
  constructor
  · rintro ⟨fs2, v2, h1, h2, h3⟩
    rw [h] at h1; cases h1
    rw [hk] at h2; cases h2
    exact h3
  · intro h3; exact ⟨fs, v, h, hk, h3⟩
theorem jgR_eq {w : va_W} {a ci k : Nat} {K : Nat → Prop} {fs : List Value} {v : Nat} (h : jlk w a = some (.inr (ci, fs))) (hk : fs[k]? = some (.ref v)) : jgR' w a ci k K ↔ K v := by
  constructor
  · rintro ⟨fs2, v2, h1, h2, h3⟩
    rw [h] at h1; cases h1
    rw [hk] at h2; cases h2
    exact h3
  · intro h3; exact ⟨fs, v, h, hk, h3⟩
theorem jpV_eq {w : va_W} {a ci k : Nat} {x : Value} {K : va_W → Prop} {fs : List Value} (h : jlk w a = some (.inr (ci, fs))) (hk : k < fs.length) : jpV w a ci k x K ↔ K (jst w a (.inr (ci, fs.set k x))) := by
  constructor
  · rintro ⟨fs2, h1, h2, h3⟩
    rw [h] at h1; cases h1
    exact h3
  · intro h3; exact ⟨fs, h, hk, h3⟩
theorem jAl_eq {w : va_W} {a t n : Nat} {r : (Nat → Int32) ⊕ (Nat → Int64) ⊕ (Nat → UInt32) ⊕ (Nat → UInt64) ⊕ (Nat → Option Nat)} {K : Int32 → Prop} (h : jlk w a = some (.inl (t, n, r))) (ht : t < 3) : jAl w a K ↔ K (Int32.ofNat n) := by
  constructor
  · rintro ⟨t2, n2, r2, h0, h1, h3⟩
    rw [h] at h1; cases h1
    exact h3
  · intro h3; exact ⟨t, n, r, ht, h, h3⟩
theorem jLd_eq {w : va_W} {a t n : Nat} {f : Nat → Int32} {i : Int32} {K : Int32 → Prop} (h : jlk w a = some (.inl (t, n, .inl f))) (hi : vp_in i n) : jLd w a t i K ↔ K (f i.toNatClampNeg) := by
  constructor
  · rintro ⟨n2, f2, h1, h2, h3⟩
    rw [h] at h1; cases h1
    exact h3
  · intro h3; exact ⟨n, f, h, hi, h3⟩
theorem jSi_eq {w : va_W} {a n : Nat} {f : Nat → Int32} {i x : Int32} {K : va_W → Prop} (h : jlk w a = some (.inl (0, n, .inl f))) (hi : vp_in i n) : jSi w a i x K ↔ K (jst w a (.inl (0, n, .inl (upd f i.toNatClampNeg x)))) := by
  constructor
  · rintro ⟨n2, f2, h1, h2, h3⟩
    rw [h] at h1; cases h1
    exact h3
  · intro h3; exact ⟨n, f, h, hi, h3⟩
theorem jLq_eq {w : va_W} {a n r : Nat} {f : Nat → Option Nat} {i : Int32} {K : Nat → Prop} (h : jlk w a = some (.inl (2, n, .inr (.inr (.inr (.inr f)))))) (hi : vp_in i n) (hr : f i.toNatClampNeg = some r) : jLq w a i K ↔ K r := by
  constructor
  · rintro ⟨n2, r2, f2, h1, h2, h3, h4⟩
    rw [h] at h1; cases h1
    rw [hr] at h3; cases h3
    exact h4
  · intro h3; exact ⟨n, r, f, h, hi, hr, h3⟩
/-- a loop's turns: more than any needs -/
def jFu : Nat := 20000
