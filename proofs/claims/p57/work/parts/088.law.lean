/-! ===== methods with handlers: laid by wip/p57/mklaw.py ===== -/
abbrev jgC (Γ : jG) : Code := Γ.2.2.2.2.2.2.2.2.2.1
theorem jMet_ofWH {l : Launch} {y : MethodName} {ws ws' : List Cond} {rm : Room} {Pc : Array Value → State → Prop} {Qc : Array Value → State → Outcome → State → Prop} {mc ms : Nat} {free : Addr → Prop} {cc : ByteArray} {maxL : Nat} {ret : Option FieldType} {hh : List (Nat × Nat × Nat × Nat)}
    (hy : plainName y.cls = true) (hw : ws = Cond.codeWith y cc maxL ret hh :: ws')
    (body : ∀ p e s m args below meth c s₁, BodyLoose p l y (headSpec ws rm) cc maxL ret e s m args below meth c s₁ → c.maxLocals = maxL → Pc args s →
      W p l e (headSpec ws rm).room s m args below meth c s.heap [] 0 0 (MQ below Qc args s mc ms free) (entryFrame m args maxL)) : Met l y ws rm Pc Qc mc ms free := by
  refine MetFree.of_bodyS (code := cc) (maxLocals := maxL) (ret := ret) hy ?_ ?_
  · intro args s m h hn
    obtain ⟨m9, meth, c, hn9, h1, h2, h3, h4, -, h5, h6, -⟩ := Cond.codeWith_spec (atoms_spec (ws := ws) h _ (by rw [hw]; exact List.mem_cons_self))
    cases hn.symm.trans hn9
    exact ⟨meth, c, h1, h2, h3, h4, h5, h6⟩
  · intro p e s m args below meth c s₁ B hml hP _
    have hh0 : s₁.heap = s.heap := by rw [B.state]; rfl
    obtain ⟨t, a1, o, b1, b2, b3⟩ := body p e s m args below meth c s₁ B hml hP s₁ hh0 (Stand.of_body B)
    exact ⟨t, o, a1, b1, b2, ⟨b3.1, b3.2⟩⟩
def jCw (E : jE) (y : MethodName) (cc : ByteArray) (maxL : Nat) (rt : Option FieldType) (hh : List (Nat × Nat × Nat × Nat)) (rm : Room) (As : List Value) (w : va_W) (mc ms : Nat) (Post : Option Value → va_W → Prop) : Prop := E.1.stackTraces = false → ∀ sz : Nat, Met E.1 y (Cond.codeWith y cc maxL rt hh :: jB) rm (va_Pc As (jPre E w sz)) (jQ E w sz Post) mc ms (va_A (jcv E.2.2.1 w) sz)
def jMw (y : MethodName) (cc : ByteArray) (maxL : Nat) (rt : Option FieldType) (hh : List (Nat × Nat × Nat × Nat)) (n : Nat) : Prop := Cond.static y ∈ jB ∧ Cond.initialized y.cls ∈ jB ∧ Cond.codeWith y cc maxL rt hh ∈ jB ∧ (y.cls ≠ "java/lang/invoke/MethodHandle" ∧ y.cls ≠ "java/lang/invoke/VarHandle") ∧ (parseMethodDescriptor y.desc).map (fun d => d.parameters.length) = some n
theorem jCw_of {E : jE} {y : MethodName} {cc : ByteArray} {maxL : Nat} {hh : List (Nat × Nat × Nat × Nat)} {rt : Option FieldType} {rm : Room} {As : List Value} {w : va_W} {mc ms : Nat} {Post : Option Value → va_W → Prop} (hy : plainName y.cls = true) (hsz : (lg_sl As).length ≤ maxL)
    (body : ∀ Γ : jG, (jgC Γ).exceptionTable.toList = tableOf hh → jX Γ cc maxL y.cls → jgE Γ = E → jgR Γ = rm → jRt Γ cc maxL mc ms rt Post → J Γ maxL w 0 0 0 (lv_args 0 As) []) : jCw E y cc maxL rt hh rm As w mc ms Post := by
  obtain ⟨l, D, cy, κ⟩ := E
  intro hst sz
  refine jMet_ofWH (cc := cc) (maxL := maxL) (ret := rt) (hh := hh) hy rfl ?_
  intro p e s m args below meth c s₁ B hml hv
  obtain ⟨rfl, hsz9, hP, hK, hD0, hF⟩ := hv
  have hx := B.exec
  have hb := B.bytes
  have hr := B.returns
  have hts := atoms_spec (ws := Cond.codeWith y cc maxL rt hh :: jB) B.pre
  have hown : s.vm.findClass y.cls = some m.cls := findClass_of_methodNamed B.named
  have hlocks := B.notSynchronized
  subst hsz9
  have hD := hD0.self (sz := s.heap.size)
  rw [lg_entry_eq]
  have hl := lv_entry As (n := maxL) hsz
  have hA : ∀ q : Nat, s.heap.size ≤ q → va_A (jcv cy w) s.heap.size q := fun q h => Or.inr h
  have key := body (p, (l, D, cy, κ), e, rm, s, m, As.toArray, below, meth, c, va_A (jcv cy w) s.heap.size, MQ below (jQ (l, D, cy, κ) w s.heap.size Post) As.toArray s mc ms (va_A (jcv cy w) s.heap.size))
    (vx_table (x := y) B (hts _ List.mem_cons_self))
    ⟨hx, hb, hml, hown, fun w hw => hts w (List.mem_cons_of_mem _ hw), hK, hA, hF, hlocks, hst⟩ rfl rfl ?_
  · exact key s.heap [] _ hP hD va_S.rf hl
  · intro u kc ks pc lo v st hkc hks hok hpost H locs ls hP hD hS hl
    have hq : ∀ t : State, t.heap = H → s.WarmedH t.vm → jQ (l, D, cy, κ) w s.heap.size Post As.toArray s (.returned v) t := fun t ht hW => ⟨⟨v, u, rfl, hpost, by rw [ht]; exact hP, hD⟩, hS.F ht⟩
    refine W.widen hkc hks ?_
    rcases hok with ⟨d, h1, h2, h3⟩ | ⟨d, ty, r, h1, h0, h2, h3⟩ | ⟨d, ty, r, h1, h0, h2, h3⟩ | ⟨d, r, h1, h2, h3⟩ | ⟨d, r, h1, h2, h3⟩ | ⟨d, r, h1, h2, h3⟩
    · subst h2; subst h3
      exact W.vret hx hb (by rw [hr]; exact h1) hq hS.2.2 d
    · subst h2; subst h3
      exact W.zret hx hb (by rw [hr]; exact h1) h0 hq hS.2.2 d
    · subst h2; subst h3
      exact W.aret hx hb (by rw [hr]; exact h1) h0 (Or.inr ⟨r, rfl⟩) hq hS.2.2 d
    · subst h2; subst h3
      exact W.lret hx hb (by rw [hr]; exact h1) hq hS.2.2 d
    · subst h2; subst h3
      exact W.dret hx hb (by rw [hr]; exact h1) hq hS.2.2 d
    · subst h2; subst h3
      exact W.fret hx hb (by rw [hr]; exact h1) hq hS.2.2 d
/-- the rows ahead of the one that catches name other classes -/
def jPre9 (own Cx : String) : List (Nat × Nat × Nat × Nat) → List String → Prop
  | [], _ => True
  | _ :: _, [] => False
  | z :: t, n :: u => (Cond.classLink own z.2.2.2 n ∈ jB ∧ z.2.2.2 ≠ 0 ∧ (Cx, n) ∈ jXcs) ∧ jPre9 own Cx t u
theorem jPre9_at {own Cx : String} : ∀ {L : List (Nat × Nat × Nat × Nat)} {N : List String}, jPre9 own Cx L N → ∀ z ∈ L, ∃ n : String, Cond.classLink own z.2.2.2 n ∈ jB ∧ z.2.2.2 ≠ 0 ∧ (Cx, n) ∈ jXcs := by
  intro L
  induction L with
  | nil => intro N h z hz; exact (nomatch hz)
  | cons a t ih =>
    intro N h z hz
    cases N with
    | nil => exact h.elim
    | cons n u =>
      rcases List.mem_cons.mp hz with rfl | hz
      · exact ⟨n, h.1⟩
      · exact ih h.2 z hz
section JL
variable {Γ : jG} {cc : ByteArray} {nL : Nat} {own : String} {w : va_W} {kc ks pc : Nat} {lo : List (Nat × Value)} {st : List Value}
theorem j_catch (X : jX Γ cc nL own) {hh : List (Nat × Nat × Nat × Nat)} (hT : (jgC Γ).exceptionTable.toList = tableOf hh) {Cx : String} (pre suf : List (Nat × Nat × Nat × Nat)) (a b h t : Nat) (nms : List String) (hsp : hh = pre ++ (a, b, h, t) :: suf) (hpre : jPre9 own Cx pre nms) (hx9 : covers ⟨a, b, h, t⟩ pc = true) (h0 : t ≠ 0) (hlk9 : Cond.classLink own t Cx ∈ jB) (hcs : Cond.castable Cx Cx ∈ jN) (kk : ∀ q : Nat, J Γ nL w kc ks h lo [.ref q]) : Jx Γ nL w kc ks pc lo Cx := by
  obtain ⟨p, ⟨l, D, cy, κ⟩, e, R, s, m, args, below, meth, c, A, Q⟩ := Γ
  obtain ⟨hx, hb, hml, hown, hts, hK, hA, hF, hlk, hst9⟩ := X
  intro H locs ls q ce rest hP hD hS hl hce hcv hcl
  refine vx_catch hown (tableOf pre) ⟨a, b, h, t⟩ (tableOf suf) (by rw [hT, hsp]; simp [tableOf]) ?_ hx9 h0 (hts _ hlk9) (va_Nw.use rfl (hF.2.2.2.2.2.1 _ hcs)) hce hcv hcl ?_
  · intro z hz
    obtain ⟨z9, hz9, rfl⟩ := List.mem_map.mp hz
    obtain ⟨nm, g1, g2, g3⟩ := jPre9_at hpre z9 hz9
    exact Or.inr ⟨g2, nm, hts _ g1, hF.2.2.2.2.2.2.2.2.2.2.2.2.2 _ g3⟩
  · exact kk q H locs ls hP hD hS hl
end JL
section JL2
variable {Γ : jG} {cc : ByteArray} {nL : Nat} {own : String} {w : va_W} {kc ks pc : Nat} {lo : List (Nat × Value)} {st : List Value}
theorem j_callW (X : jX Γ cc nL own) {y : MethodName} {cy : ByteArray} {maxL n : Nat} {hh : List (Nat × Nat × Nat × Nat)} {rt : Option FieldType} {rm : Room} (As rest : List Value) {mc ms : Nat} {Post : Option Value → va_W → Prop} (hM : jCw (jgE Γ) y cy maxL rt hh rm As w mc ms Post) {index : Nat} (hm : jMw y cy maxL rt hh n) (hl : Cond.methodLink own index y ∈ jB) (hn : As.length = n) (hrm : rm.cells = mc ∧ rm.slots = ms) (hR : (rm.frames + 1 ≤ (jgR Γ).frames ∧ 8 + (maxL + 11) + rm.locals ≤ (jgR Γ).locals) ∧ kc + mc ≤ (jgR Γ).cells ∧ ks + ms ≤ (jgR Γ).slots) (hst : st = As.reverse ++ rest) (hcat : (rest.map fun v => v.category).sum ≤ 8) (d : decode cc pc = .ok (.invokestatic index, 3))
    (kk : ∀ (v : Option Value) (u : va_W), Post v u → J Γ nL u (kc + mc) (ks + ms) (pc + 3) lo (v.toList ++ rest)) : J Γ nL w kc ks pc lo st := by
  obtain ⟨p, ⟨l, D, cyy, κ⟩, e, R, s, m, args, below, meth, c, A, Q⟩ := Γ
  obtain ⟨hx, hbc, hml, hown, hts, hK, hA, hF, hlk, hst9⟩ := X
  intro H locs ls hP hD hS hl9
  obtain ⟨m1, m3, m4, m5, m6⟩ := hm
  refine jW_run (vx_runSW (hh := hh) (As := As) (rest := rest) ⟨hx, hbc, hml, hown, hts⟩ (hM hst9 H.size) (vx_cwSW n hts ?_ rfl hrm.1 hrm.2 ⟨m5.1, m5.2, m6⟩ hR.1) ⟨j_blind, fun U hU hW => ⟨rfl, j_pre hK hF hP hD hS hA hU hW⟩⟩ rfl hn hl9.1 hst (lv_room hcat) d hR.2) hS ?_ ?_
  · intro z hz
    unfold va_wsS at hz
    rcases List.mem_append.mp hz with h | h
    · have : z ∈ jB := by
        simp only [List.mem_cons, List.not_mem_nil, or_false] at h
        rcases h with rfl | rfl | rfl
        · exact hl
        · exact m1
        · exact m3
      exact ⟨this, jB_good _ this⟩
    · exact jG_c m4 z h
  · intro q hq
    rcases hq with ⟨k, e9, h⟩ | h
    · exact hD.2 k (q, e9) h
    · exact hA q (Nat.le_trans hS.1 h)
  · intro v st₀ t H1 locs1 h0 ht hvm hq L hL hlocs
    obtain ⟨⟨v9, u, hv, hpost, hP1, hD1⟩, hF1⟩ := hq
    cases hv
    obtain ⟨hD2, hS2⟩ := j_back hP hD hS hA h0 ht hF1 hD1 hL
    rw [hlocs]
    exact kk _ u hpost H1 _ ls (by rw [← ht]; exact hP1) hD2 hS2 hl9
theorem j_callWi (X : jX Γ cc nL own) {y : MethodName} {cy : ByteArray} {maxL n : Nat} {hh : List (Nat × Nat × Nat × Nat)} {rt : Option FieldType} {rm : Room} (As rest : List Value) {mc ms : Nat} {P : Int32 → va_W → Prop} (hM : jCw (jgE Γ) y cy maxL rt hh rm As w mc ms (jPi P)) {index : Nat} (hm : jMw y cy maxL rt hh n) (hl : Cond.methodLink own index y ∈ jB) (hn : As.length = n) (hrm : rm.cells = mc ∧ rm.slots = ms) (hR : (rm.frames + 1 ≤ (jgR Γ).frames ∧ 8 + (maxL + 11) + rm.locals ≤ (jgR Γ).locals) ∧ kc + mc ≤ (jgR Γ).cells ∧ ks + ms ≤ (jgR Γ).slots) (hst : st = As.reverse ++ rest) (hcat : (rest.map fun v => v.category).sum ≤ 8) (d : decode cc pc = .ok (.invokestatic index, 3)) (kk : ∀ (r : Int32) (u : va_W), P r u → J Γ nL u (kc + mc) (ks + ms) (pc + 3) lo (.int r :: rest)) : J Γ nL w kc ks pc lo st :=
  j_callW X As rest hM hm hl hn hrm hR hst hcat d (fun v u h => by obtain ⟨r, rfl, hp⟩ := h; exact kk r u hp)
theorem j_callWr (X : jX Γ cc nL own) {y : MethodName} {cy : ByteArray} {maxL n : Nat} {hh : List (Nat × Nat × Nat × Nat)} {rt : Option FieldType} {rm : Room} (As rest : List Value) {mc ms : Nat} {P : Nat → va_W → Prop} (hM : jCw (jgE Γ) y cy maxL rt hh rm As w mc ms (jPr P)) {index : Nat} (hm : jMw y cy maxL rt hh n) (hl : Cond.methodLink own index y ∈ jB) (hn : As.length = n) (hrm : rm.cells = mc ∧ rm.slots = ms) (hR : (rm.frames + 1 ≤ (jgR Γ).frames ∧ 8 + (maxL + 11) + rm.locals ≤ (jgR Γ).locals) ∧ kc + mc ≤ (jgR Γ).cells ∧ ks + ms ≤ (jgR Γ).slots) (hst : st = As.reverse ++ rest) (hcat : (rest.map fun v => v.category).sum ≤ 8) (d : decode cc pc = .ok (.invokestatic index, 3)) (kk : ∀ (r : Nat) (u : va_W), P r u → J Γ nL u (kc + mc) (ks + ms) (pc + 3) lo (.ref r :: rest)) : J Γ nL w kc ks pc lo st :=
  j_callW X As rest hM hm hl hn hrm hR hst hcat d (fun v u h => by obtain ⟨r, rfl, hp⟩ := h; exact kk r u hp)
theorem j_callWl (X : jX Γ cc nL own) {y : MethodName} {cy : ByteArray} {maxL n : Nat} {hh : List (Nat × Nat × Nat × Nat)} {rt : Option FieldType} {rm : Room} (As rest : List Value) {mc ms : Nat} {P : Int64 → va_W → Prop} (hM : jCw (jgE Γ) y cy maxL rt hh rm As w mc ms (jPl P)) {index : Nat} (hm : jMw y cy maxL rt hh n) (hl : Cond.methodLink own index y ∈ jB) (hn : As.length = n) (hrm : rm.cells = mc ∧ rm.slots = ms) (hR : (rm.frames + 1 ≤ (jgR Γ).frames ∧ 8 + (maxL + 11) + rm.locals ≤ (jgR Γ).locals) ∧ kc + mc ≤ (jgR Γ).cells ∧ ks + ms ≤ (jgR Γ).slots) (hst : st = As.reverse ++ rest) (hcat : (rest.map fun v => v.category).sum ≤ 8) (d : decode cc pc = .ok (.invokestatic index, 3)) (kk : ∀ (r : Int64) (u : va_W), P r u → J Γ nL u (kc + mc) (ks + ms) (pc + 3) lo (.long r :: rest)) : J Γ nL w kc ks pc lo st :=
  j_callW X As rest hM hm hl hn hrm hR hst hcat d (fun v u h => by obtain ⟨r, rfl, hp⟩ := h; exact kk r u hp)
theorem j_callWd (X : jX Γ cc nL own) {y : MethodName} {cy : ByteArray} {maxL n : Nat} {hh : List (Nat × Nat × Nat × Nat)} {rt : Option FieldType} {rm : Room} (As rest : List Value) {mc ms : Nat} {P : UInt64 → va_W → Prop} (hM : jCw (jgE Γ) y cy maxL rt hh rm As w mc ms (jPd P)) {index : Nat} (hm : jMw y cy maxL rt hh n) (hl : Cond.methodLink own index y ∈ jB) (hn : As.length = n) (hrm : rm.cells = mc ∧ rm.slots = ms) (hR : (rm.frames + 1 ≤ (jgR Γ).frames ∧ 8 + (maxL + 11) + rm.locals ≤ (jgR Γ).locals) ∧ kc + mc ≤ (jgR Γ).cells ∧ ks + ms ≤ (jgR Γ).slots) (hst : st = As.reverse ++ rest) (hcat : (rest.map fun v => v.category).sum ≤ 8) (d : decode cc pc = .ok (.invokestatic index, 3)) (kk : ∀ (r : UInt64) (u : va_W), P r u → J Γ nL u (kc + mc) (ks + ms) (pc + 3) lo (.double r :: rest)) : J Γ nL w kc ks pc lo st :=
  j_callW X As rest hM hm hl hn hrm hR hst hcat d (fun v u h => by obtain ⟨r, rfl, hp⟩ := h; exact kk r u hp)
theorem j_callWf (X : jX Γ cc nL own) {y : MethodName} {cy : ByteArray} {maxL n : Nat} {hh : List (Nat × Nat × Nat × Nat)} {rt : Option FieldType} {rm : Room} (As rest : List Value) {mc ms : Nat} {P : UInt32 → va_W → Prop} (hM : jCw (jgE Γ) y cy maxL rt hh rm As w mc ms (jPf P)) {index : Nat} (hm : jMw y cy maxL rt hh n) (hl : Cond.methodLink own index y ∈ jB) (hn : As.length = n) (hrm : rm.cells = mc ∧ rm.slots = ms) (hR : (rm.frames + 1 ≤ (jgR Γ).frames ∧ 8 + (maxL + 11) + rm.locals ≤ (jgR Γ).locals) ∧ kc + mc ≤ (jgR Γ).cells ∧ ks + ms ≤ (jgR Γ).slots) (hst : st = As.reverse ++ rest) (hcat : (rest.map fun v => v.category).sum ≤ 8) (d : decode cc pc = .ok (.invokestatic index, 3)) (kk : ∀ (r : UInt32) (u : va_W), P r u → J Γ nL u (kc + mc) (ks + ms) (pc + 3) lo (.float r :: rest)) : J Γ nL w kc ks pc lo st :=
  j_callW X As rest hM hm hl hn hrm hR hst hcat d (fun v u h => by obtain ⟨r, rfl, hp⟩ := h; exact kk r u hp)

end JL2
