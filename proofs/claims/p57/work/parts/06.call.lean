/-! ===== contracts over a store ===== -/
abbrev jgE (Γ : jG) : jE := Γ.2.1
abbrev jgR (Γ : jG) : Room := Γ.2.2.2.1
def jPre (E : jE) (w : va_W) (sz : Nat) (U : State) : Prop := U.heap.size = sz ∧ va_P E.2.1 vwCl (jcv E.2.2.1 w) U.heap ∧ va_K E.2.1 vwCl (jty E.2.2.1) U ∧ va_D (fun _ => True) (jcv E.2.2.1 w) ∧ jSF E.2.2.2 (va_A (jcv E.2.2.1 w) sz) U U.heap
def jQ (E : jE) (w : va_W) (sz : Nat) (Post : Option Value → va_W → Prop) : Array Value → State → Outcome → State → Prop := fun _ st oc t => (∃ (v : Option Value) (u : va_W), oc = .returned v ∧ Post v u ∧ va_P E.2.1 vwCl (jcv E.2.2.1 u) t.heap ∧ va_D (va_A (jcv E.2.2.1 w) sz) (jcv E.2.2.1 u)) ∧ va_F (va_A (jcv E.2.2.1 w) sz) st t
def jC (E : jE) (y : MethodName) (cc : ByteArray) (maxL : Nat) (rt : Option FieldType) (rm : Room) (As : List Value) (w : va_W) (mc ms : Nat) (Post : Option Value → va_W → Prop) : Prop := E.1.stackTraces = false → ∀ sz : Nat, Met E.1 y (Cond.code y cc maxL rt :: jB) rm (va_Pc As (jPre E w sz)) (jQ E w sz Post) mc ms (va_A (jcv E.2.2.1 w) sz)
/-- a return at pc, with v -/
def jOk (cc : ByteArray) (pc : Nat) (rt : Option FieldType) (v : Option Value) (st : List Value) : Prop :=
  (decode cc pc = .ok (.return_, 1) ∧ rt = none ∧ v = none ∧ st = []) ∨
  (decode cc pc = .ok (.ireturn, 1) ∧ ∃ (ty : FieldType) (r : Int32), rt = some ty ∧ narrow ty (.int r) = .int r ∧ v = some (.int r) ∧ st = [.int r]) ∨
  (decode cc pc = .ok (.areturn, 1) ∧ ∃ (ty : FieldType) (r : Nat), rt = some ty ∧ ((∃ n, ty = .object n) ∨ ∃ t, ty = .array t) ∧ v = some (.ref r) ∧ st = [.ref r]) ∨
  (decode cc pc = .ok (.lreturn, 1) ∧ ∃ r : Int64, rt = some .long ∧ v = some (.long r) ∧ st = [.long r]) ∨
  (decode cc pc = .ok (.dreturn, 1) ∧ ∃ r : UInt64, rt = some .double ∧ v = some (.double r) ∧ st = [.double r]) ∨
  (decode cc pc = .ok (.freturn, 1) ∧ ∃ r : UInt32, rt = some .float ∧ v = some (.float r) ∧ st = [.float r])
def jRt (Γ : jG) (cc : ByteArray) (nL mc ms : Nat) (rt : Option FieldType) (Post : Option Value → va_W → Prop) : Prop :=
  ∀ (u : va_W) (kc ks pc : Nat) (lo : List (Nat × Value)) (v : Option Value) (st : List Value), kc ≤ mc → ks ≤ ms → jOk cc pc rt v st → Post v u → J Γ nL u kc ks pc lo st
theorem jC_of {E : jE} {y : MethodName} {cc : ByteArray} {maxL : Nat} {rt : Option FieldType} {rm : Room} {As : List Value} {w : va_W} {mc ms : Nat} {Post : Option Value → va_W → Prop} (hy : plainName y.cls = true) (hsz : (lg_sl As).length ≤ maxL)
    (body : ∀ Γ : jG, jX Γ cc maxL y.cls → jgE Γ = E → jgR Γ = rm → jRt Γ cc maxL mc ms rt Post → J Γ maxL w 0 0 0 (lv_args 0 As) []) : jC E y cc maxL rt rm As w mc ms Post := by
  obtain ⟨l, D, cy, κ⟩ := E
  intro hst sz
  refine Met.ofW (cc := cc) (maxL := maxL) (ret := rt) hy rfl ?_
  intro p e s m args below meth c s₁ B hml hv
  obtain ⟨rfl, hsz9, hP, hK, hD0, hF⟩ := hv
  have hx := B.exec
  have hb := B.bytes
  have hr := B.returns
  have hts := atoms_spec (ws := Cond.code y cc maxL rt :: jB) B.pre
  have hown : s.vm.findClass y.cls = some m.cls := findClass_of_methodNamed B.named
  have hlocks := B.notSynchronized
  subst hsz9
  have hD := hD0.self (sz := s.heap.size)
  rw [lg_entry_eq]
  have hl := lv_entry As (n := maxL) hsz
  have hA : ∀ q : Nat, s.heap.size ≤ q → va_A (jcv cy w) s.heap.size q := fun q h => Or.inr h
  have key := body (p, (l, D, cy, κ), e, rm, s, m, As.toArray, below, meth, c, va_A (jcv cy w) s.heap.size, MQ below (jQ (l, D, cy, κ) w s.heap.size Post) As.toArray s mc ms (va_A (jcv cy w) s.heap.size))
    ⟨hx, hb, hml, hown, fun w hw => hts w (List.mem_cons_of_mem _ hw), hK, hA, hF, hlocks, hst⟩ rfl rfl ?_
  · exact key s.heap [] _ hP hD va_S.rf hl
  · intro u kc ks pc lo v st hkc hks hok hpost H locs ls hP hD hS hl
    have hq : ∀ t : State, t.heap = H → s.WarmedH t.vm → jQ (l, D, cy, κ) w s.heap.size Post As.toArray s (.returned v) t := fun t ht hW => ⟨⟨v, u, rfl, hpost, by rw [ht]; exact hP, hD⟩, hS.F ht⟩
    refine W.widen hkc hks ?_
    rcases hok with ⟨d, h1, h2, h3⟩ | ⟨d, ty, r, h1, h0, h2, h3⟩ | ⟨d, ty, r, h1, h0, h2, h3⟩ | ⟨d, r, h1, h2, h3⟩ | ⟨d, r, h1, h2, h3⟩ | ⟨d, r, h1, h2, h3⟩
    · subst h2; subst h3
      exact W.vret hx hb (by rw [hr]; exact h1) hq hS.2.2 d
    · subst h2; subst h3
      exact W.zret hx hb (by rw [hr]; exact h1) h0 hq hS.2.2 d
    · subst h2; subst h3
      exact W.aret hx hb (by rw [hr]; exact h1) h0 (Or.inr ⟨r, rfl⟩) hq hS.2.2 d
    · subst h2; subst h3
      exact W.lret hx hb (by rw [hr]; exact h1) hq hS.2.2 d
    · subst h2; subst h3
      exact W.dret hx hb (by rw [hr]; exact h1) hq hS.2.2 d
    · subst h2; subst h3
      exact W.fret hx hb (by rw [hr]; exact h1) hq hS.2.2 d
theorem jRt.v {Γ : jG} {cc : ByteArray} {nL mc ms : Nat} {Post : Option Value → va_W → Prop} (h : jRt Γ cc nL mc ms none Post) {u : va_W} {kc ks pc : Nat} {lo : List (Nat × Value)} (d : decode cc pc = .ok (.return_, 1)) (hp : Post none u) (h1 : kc ≤ mc) (h2 : ks ≤ ms) : J Γ nL u kc ks pc lo [] := h u kc ks pc lo none [] h1 h2 (Or.inl ⟨d, rfl, rfl, rfl⟩) hp
theorem jRt.z {Γ : jG} {cc : ByteArray} {nL mc ms : Nat} {ty : FieldType} {Post : Option Value → va_W → Prop} (h : jRt Γ cc nL mc ms (some ty) Post) {u : va_W} {kc ks pc : Nat} {lo : List (Nat × Value)} {r : Int32} (d : decode cc pc = .ok (.ireturn, 1)) (hn : narrow ty (.int r) = .int r) (hp : Post (some (.int r)) u) (h1 : kc ≤ mc) (h2 : ks ≤ ms) : J Γ nL u kc ks pc lo [.int r] := h u kc ks pc lo (some (.int r)) [.int r] h1 h2 (Or.inr (Or.inl ⟨d, ty, r, rfl, hn, rfl, rfl⟩)) hp
theorem jRt.i {Γ : jG} {cc : ByteArray} {nL mc ms : Nat} {Post : Option Value → va_W → Prop} (h : jRt Γ cc nL mc ms (some .int) Post) {u : va_W} {kc ks pc : Nat} {lo : List (Nat × Value)} {r : Int32} (d : decode cc pc = .ok (.ireturn, 1)) (hp : Post (some (.int r)) u) (h1 : kc ≤ mc) (h2 : ks ≤ ms) : J Γ nL u kc ks pc lo [.int r] := h.z d (vp_nar_int r) hp h1 h2
theorem jRt.a {Γ : jG} {cc : ByteArray} {nL mc ms : Nat} {ty : FieldType} {Post : Option Value → va_W → Prop} (h : jRt Γ cc nL mc ms (some ty) Post) (hty : (∃ n, ty = .object n) ∨ ∃ t, ty = .array t) {u : va_W} {kc ks pc : Nat} {lo : List (Nat × Value)} {r : Nat} (d : decode cc pc = .ok (.areturn, 1)) (hp : Post (some (.ref r)) u) (h1 : kc ≤ mc) (h2 : ks ≤ ms) : J Γ nL u kc ks pc lo [.ref r] := h u kc ks pc lo (some (.ref r)) [.ref r] h1 h2 (Or.inr (Or.inr (Or.inl ⟨d, ty, r, rfl, hty, rfl, rfl⟩))) hp
theorem jRt.l {Γ : jG} {cc : ByteArray} {nL mc ms : Nat} {Post : Option Value → va_W → Prop} (h : jRt Γ cc nL mc ms (some .long) Post) {u : va_W} {kc ks pc : Nat} {lo : List (Nat × Value)} {r : Int64} (d : decode cc pc = .ok (.lreturn, 1)) (hp : Post (some (.long r)) u) (h1 : kc ≤ mc) (h2 : ks ≤ ms) : J Γ nL u kc ks pc lo [.long r] := h u kc ks pc lo (some (.long r)) [.long r] h1 h2 (Or.inr (Or.inr (Or.inr (Or.inl ⟨d, r, rfl, rfl, rfl⟩)))) hp
theorem jRt.d {Γ : jG} {cc : ByteArray} {nL mc ms : Nat} {Post : Option Value → va_W → Prop} (h : jRt Γ cc nL mc ms (some .double) Post) {u : va_W} {kc ks pc : Nat} {lo : List (Nat × Value)} {r : UInt64} (d : decode cc pc = .ok (.dreturn, 1)) (hp : Post (some (.double r)) u) (h1 : kc ≤ mc) (h2 : ks ≤ ms) : J Γ nL u kc ks pc lo [.double r] := h u kc ks pc lo (some (.double r)) [.double r] h1 h2 (Or.inr (Or.inr (Or.inr (Or.inr (Or.inl ⟨d, r, rfl, rfl, rfl⟩))))) hp
theorem jRt.f {Γ : jG} {cc : ByteArray} {nL mc ms : Nat} {Post : Option Value → va_W → Prop} (h : jRt Γ cc nL mc ms (some .float) Post) {u : va_W} {kc ks pc : Nat} {lo : List (Nat × Value)} {r : UInt32} (d : decode cc pc = .ok (.freturn, 1)) (hp : Post (some (.float r)) u) (h1 : kc ≤ mc) (h2 : ks ≤ ms) : J Γ nL u kc ks pc lo [.float r] := h u kc ks pc lo (some (.float r)) [.float r] h1 h2 (Or.inr (Or.inr (Or.inr (Or.inr (Or.inr ⟨d, r, rfl, rfl, rfl⟩))))) hp
/-! ===== calls ===== -/
def jMv (y : MethodName) (cc : ByteArray) (maxL : Nat) (rt : Option FieldType) (n : Nat) : Prop := Cond.instanceMethod y ∈ jB ∧ Cond.selects y.cls y y ∈ jB ∧ Cond.initialized y.cls ∈ jB ∧ Cond.code y cc maxL rt ∈ jB ∧ (y.cls ≠ "java/lang/invoke/MethodHandle" ∧ y.cls ≠ "java/lang/invoke/VarHandle") ∧ (parseMethodDescriptor y.desc).map (fun d => d.parameters.length) = some n
def jMs (y : MethodName) (cc : ByteArray) (maxL : Nat) (rt : Option FieldType) (n : Nat) : Prop := Cond.static y ∈ jB ∧ Cond.initialized y.cls ∈ jB ∧ Cond.code y cc maxL rt ∈ jB ∧ (y.cls ≠ "java/lang/invoke/MethodHandle" ∧ y.cls ≠ "java/lang/invoke/VarHandle") ∧ (parseMethodDescriptor y.desc).map (fun d => d.parameters.length) = some n
theorem jG_c {w : Cond} (hc : w ∈ jB) : GoodIn jB (w :: jB) := fun z hz => by
  rcases List.mem_cons.mp hz with rfl | h
  · exact ⟨hc, jB_good _ hc⟩
  · exact ⟨h, jB_good _ h⟩
section JCalls
variable {p : Program} {l : Launch} {e : Env} {R : Room} {s : State} {m : MethodId} {args : Array Value} {below : List Frame} {meth : Method} {c : Code} {H : Heap} {locs : List Loc} {cells slots : Nat} {Q : State → Prop}
theorem jW_run {Qa : State → Outcome → State → Prop} {free : Addr → Prop} {pc mc ms : Nat} {ls : Array Slot} {st0 rest : List Value} {A0 : Nat → Prop} {H0 : Heap} (hr : va_Run p l e R s m args below meth c H locs cells slots mc ms (F0 m pc ls st0) rest Qa free) (hS : va_S A0 H0 H locs) (hf : ∀ q, free q → A0 q)
    (kk : ∀ (v : Option Value) (st₀ t : State) (H1 : Heap) (locs1 : List Loc), st₀.heap = H → t.heap = H1 → s.vm.Alike t.vm → Qa st₀ (.returned v) t → (∀ L : List Loc, (∀ q ∈ L, free q.base) → locs1 = locs ++ L → W p l e R s m args below meth c H1 locs1 (cells + mc) (slots + ms) Q (F0 m (pc + 3) ls (v.toList ++ rest)))) : W p l e R s m args below meth c H locs cells slots Q (F0 m pc ls st0) := by
  intro T hT X
  obtain ⟨v, st₀, t, T', L, h0, X', hL, e1, e2, hq, st⟩ := hr T hT X
  obtain ⟨t2, a1, b1⟩ := kk v st₀ t T'.heap (locs ++ L) h0 e1.symm (by rw [← e2]; exact X'.warmed.alike) hq L hL rfl T' rfl X'
  exact ⟨t2, st t2 a1, b1⟩
end JCalls
section JR2
variable {Γ : jG} {cc : ByteArray} {nL : Nat} {own : String} {w : va_W} {kc ks pc : Nat} {lo : List (Nat × Value)} {st : List Value}
/-- the world behind a call -/
theorem j_back {D : va_G} {cy : Nat → ClassId} {A : Nat → Prop} {H0 H H1 : Heap} {locs L : List Loc} {st₀ t : State} {w u : va_W} (hP : va_P D vwCl (jcv cy w) H) (hD : va_D A (jcv cy w)) (hS : va_S A H0 H locs) (hA : ∀ q, H0.size ≤ q → A q) (h0 : st₀.heap = H) (h1 : t.heap = H1) (hF : va_F (va_A (jcv cy w) H.size) st₀ t) (hD1 : va_D (va_A (jcv cy w) H.size) (jcv cy u)) (hL : ∀ q ∈ L, va_A (jcv cy w) H.size q.base) : va_D A (jcv cy u) ∧ va_S A H0 H1 (locs ++ L) := by
  have hAA : ∀ q, va_A (jcv cy w) H.size q → A q := by
    intro q hq
    rcases hq with ⟨k, e, h⟩ | h
    · exact hD.2 k (q, e) h
    · exact hA q (Nat.le_trans hS.1 h)
  refine ⟨hD1.weaken (fun _ _ _ h => hAA _ h), ?_, ?_, ?_⟩
  · rw [← h1]; exact Nat.le_trans hS.1 (by rw [← h0]; exact hF.1)
  · intro q hq1 hq2
    have hqH : q < H.size := Nat.lt_of_lt_of_le hq1 hS.1
    rw [← h1, hF.2 q (by rw [h0]; exact hqH) (fun z => hq2 (hAA q z)), h0]
    exact hS.2.1 q hq1 hq2
  · intro q hq
    rcases List.mem_append.mp hq with h | h
    · exact hS.2.2 q h
    · exact hAA _ (hL q h)
theorem j_pre {l : Launch} {D : va_G} {cy : Nat → ClassId} {κ : Nat → Nat} {A : Nat → Prop} {s U : State} {H : Heap} {locs : List Loc} {w : va_W} (hK : va_K D vwCl (jty cy) s) (hF : jSF κ A s s.heap) (hP : va_P D vwCl (jcv cy w) H) (hD : va_D A (jcv cy w)) (hS : va_S A s.heap H locs) (hA : ∀ q, s.heap.size ≤ q → A q) (hU : U.heap = H) (hW : s.WarmedH U.vm) : jPre (l, D, cy, κ) w H.size U := by
  have hAA : ∀ q, va_A (jcv cy w) H.size q → A q := by
    intro q hq
    rcases hq with ⟨k, e, h⟩ | h
    · exact hD.2 k (q, e) h
    · exact hA q (Nat.le_trans hS.1 h)
  refine ⟨by rw [hU], by rw [hU]; exact hP, va_K.moved hW.alike hK, hD.weaken (fun _ _ _ _ => trivial), ?_⟩
  show jSF κ (va_A (jcv cy w) H.size) U U.heap
  rw [hU]
  exact hF.call hW hS hAA
theorem j_blind {E : jE} {As : List Value} {w : va_W} {sz : Nat} : FrameBlind (va_Pc As (jPre E w sz)) := by
  intro a U g mk h
  obtain ⟨h1, h2, h3, h4, h5, h6⟩ := h
  refine ⟨h1, h2, h3, va_K.moved (u := U) (U := U.calling g mk a) (Vm.Alike.refl U.vm) h4, h5, ?_⟩
  exact jSF.same (s := U) (U := U.calling g mk a) rfl h6
theorem j_callV (X : jX Γ cc nL own) {y : MethodName} {cy : ByteArray} {maxL n : Nat} {rt : Option FieldType} {rm : Room} {b : Nat} (As rest : List Value) {mc ms : Nat} {Post : Option Value → va_W → Prop} (hM : jC (jgE Γ) y cy maxL rt rm (.ref b :: As) w mc ms Post) {ci index : Nat} {T : u_T} {N : Nat} {fs : List Value} (hb : jlk w b = some (.inr (ci, fs))) (hci : vwCl[ci]? = some (y.cls, T, N)) (hm : jMv y cy maxL rt n) (hl : Cond.methodLink own index y ∈ jB) (hn : As.length = n) (hrm : rm.cells = mc ∧ rm.slots = ms) (hR : (rm.frames + 1 ≤ (jgR Γ).frames ∧ 8 + (maxL + 11) + rm.locals ≤ (jgR Γ).locals) ∧ kc + mc ≤ (jgR Γ).cells ∧ ks + ms ≤ (jgR Γ).slots) (hst : st = As.reverse ++ .ref b :: rest) (hcat : (rest.map fun v => v.category).sum ≤ 8) (d : decode cc pc = .ok (.invokevirtual index, 3))
    (kk : ∀ (v : Option Value) (u : va_W), Post v u → J Γ nL u (kc + mc) (ks + ms) (pc + 3) lo (v.toList ++ rest)) : J Γ nL w kc ks pc lo st := by
  obtain ⟨p, ⟨l, D, cyy, κ⟩, e, R, s, m, args, below, meth, c, A, Q⟩ := Γ
  obtain ⟨hx, hbc, hml, hown, hts, hK, hA, hF, hlk, hst9⟩ := X
  intro H locs ls hP hD hS hl9
  obtain ⟨j, h1, -⟩ := jlk_at hb
  obtain ⟨m1, m2, m3, m4, m5, m6⟩ := hm
  refine jW_run (va_runV (As := As) (rest := rest) (C := y.cls) ⟨hx, hbc, hml, hown, hts⟩ (hM hst9 H.size) (cwV n hts ?_ rfl hrm.1 hrm.2 ⟨rfl, m5.1, m5.2, m6⟩ hR.1) ⟨j_blind, va_recv hK hP hci (jcv_at (cy := cyy) h1), fun U hU hW => ⟨rfl, j_pre hK hF hP hD hS hA hU hW⟩⟩ rfl hn hl9.1 hst (lv_room hcat) d hR.2) hS ?_ ?_
  · intro z hz
    unfold wsV at hz
    rcases List.mem_append.mp hz with h | h
    · have : z ∈ jB := by
        simp only [List.mem_cons, List.not_mem_nil, or_false] at h
        rcases h with rfl | rfl | rfl | rfl
        · exact hl
        · exact m1
        · exact m2
        · exact m3
      exact ⟨this, jB_good _ this⟩
    · exact jG_c m4 z h
  · intro q hq
    rcases hq with ⟨k, e9, h⟩ | h
    · exact hD.2 k (q, e9) h
    · exact hA q (Nat.le_trans hS.1 h)
  · intro v st₀ t H1 locs1 h0 ht hvm hq L hL hlocs
    obtain ⟨⟨v9, u, hv, hpost, hP1, hD1⟩, hF1⟩ := hq
    cases hv
    obtain ⟨hD2, hS2⟩ := j_back hP hD hS hA h0 ht hF1 hD1 hL
    rw [hlocs]
    exact kk _ u hpost H1 _ ls (by rw [← ht]; exact hP1) hD2 hS2 hl9
end JR2
