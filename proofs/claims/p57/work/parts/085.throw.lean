/-! ===== methods that may throw ===== -/
def jXQ (E : jE) (w : va_W) (sz : Nat) (Exc : String → va_W → Prop) : String → State → State → Prop := fun C st t => (∃ u : va_W, Exc C u ∧ va_P E.2.1 vwCl (jcv E.2.2.1 u) t.heap ∧ va_D (va_A (jcv E.2.2.1 w) sz) (jcv E.2.2.1 u)) ∧ va_F (va_A (jcv E.2.2.1 w) sz) st t
def jCx (E : jE) (y : MethodName) (cc : ByteArray) (maxL : Nat) (rt : Option FieldType) (rm : Room) (As : List Value) (w : va_W) (mc ms : Nat) (Post : Option Value → va_W → Prop) (Exc : String → va_W → Prop) : Prop := E.1.stackTraces = false → ∀ sz : Nat, vx_Met E.1 y (Cond.code y cc maxL rt :: jB) rm (va_Pc As (jPre E w sz)) (jQ E w sz Post) (jXQ E w sz Exc) mc ms (va_A (jcv E.2.2.1 w) sz)
def Jx (Γ : jG) (nL : Nat) (w : va_W) (kc ks pc : Nat) (lo : List (Nat × Value)) (Cx : String) : Prop :=
  match Γ with
  | (p, (l, D, cy, κ), e, R, s, m, args, below, meth, c, A, Q) => ∀ (H : Heap) (locs : List Loc) (ls : Array Slot) (q : Addr) (ce : Cell) (rest : List Value), va_P D vwCl (jcv cy w) H → va_D A (jcv cy w) → va_S A s.heap H locs → lv_has ls nL lo → H[q]? = some ce → ce.vm = .none → s.vm.findClass Cx = some ce.cls → vx_W p l e R s m args below meth c H locs kc ks Q (F0 m pc ls rest) q
/-- what is thrown over this method's frame leaves it -/
def jOut (Γ : jG) (nL mc ms : Nat) (Exc : String → va_W → Prop) : Prop := ∀ (u : va_W) (kc ks pc : Nat) (lo : List (Nat × Value)) (Cx : String), kc ≤ mc → ks ≤ ms → Exc Cx u → Jx Γ nL u kc ks pc lo Cx
/-- 'throw new E(text)' at pc leaves this method -/
def jTh (Γ : jG) (cc : ByteArray) (nL : Nat) (own : String) (mc ms : Nat) (Exc : String → va_W → Prop) : Prop := ∀ (u : va_W) (kc ks pc : Nat) (lo : List (Nat × Value)) (st : List Value) (ik is ic n ix : Nat) (rx : ByteArray) (cls text Y9 : String) (r9 : List String), decode rx 0 = .ok (.aload_n 0, 1) → decode rx 1 = .ok (.aload_n 1, 1) → decode rx 2 = .ok (.invokespecial ix, 3) → decode rx 5 = .ok (.return_, 1) →
  decode cc pc = .ok (.new ik, 3) → decode cc (pc + 3) = .ok (.dup, 1) → decode cc (pc + 4) = .ok (.ldc is, 2) → decode cc (pc + 6) = .ok (.invokespecial ic, 3) → decode cc (pc + 9) = .ok (.athrow, 1) →
  (own, is, text, n) ∈ jStr → Bundle.fit cls = true → Bundle.fit Y9 = true → (∀ z ∈ r9, Bundle.fit z = true) → Cond.classLink own ik cls ∈ jB → Cond.initialized cls ∈ jB → (∀ z ∈ (jx_own own ic cls Y9 ix rx r9).filter vx_no, z ∈ jB ∨ z ∈ jN) →
  ((r9.length + 1) + 3 < (jgR Γ).frames ∧ (st.map fun v => v.category).sum + (13 * ((r9.length + 1) + 1) + 43) ≤ (jgR Γ).locals ∧ kc + 1 ≤ (jgR Γ).cells ∧ ks + 6 ≤ (jgR Γ).slots) → kc + 1 ≤ mc → ks + 6 ≤ ms → Exc cls u → J Γ nL u kc ks pc lo st
/-- 'throw new E(text)' at pc leaves this method -/
def jThW (Γ : jG) (cc : ByteArray) (nL : Nat) (own : String) (mc ms : Nat) (Exc : String → va_W → Prop) : Prop := ∀ (u : va_W) (kc ks pc : Nat) (lo : List (Nat × Value)) (st : List Value) (ik is ic n ix : Nat) (rx : ByteArray) (cls text Y9 : String) (r9 : List String), decode rx 0 = .ok (.aload_n 0, 1) → decode rx 1 = .ok (.aload_n 1, 1) → decode rx 2 = .ok (.invokespecial ix, 3) → decode rx 5 = .ok (.return_, 1) →
  decode cc pc = .ok (.new ik, 3) → decode cc (pc + 3) = .ok (.dup, 1) → decode cc (pc + 4) = .ok (.ldc_w is, 3) → decode cc (pc + 7) = .ok (.invokespecial ic, 3) → decode cc (pc + 10) = .ok (.athrow, 1) →
  (own, is, text, n) ∈ jStr → Bundle.fit cls = true → Bundle.fit Y9 = true → (∀ z ∈ r9, Bundle.fit z = true) → Cond.classLink own ik cls ∈ jB → Cond.initialized cls ∈ jB → (∀ z ∈ (jx_own own ic cls Y9 ix rx r9).filter vx_no, z ∈ jB ∨ z ∈ jN) →
  ((r9.length + 1) + 3 < (jgR Γ).frames ∧ (st.map fun v => v.category).sum + (13 * ((r9.length + 1) + 1) + 43) ≤ (jgR Γ).locals ∧ kc + 1 ≤ (jgR Γ).cells ∧ ks + 6 ≤ (jgR Γ).slots) → kc + 1 ≤ mc → ks + 6 ≤ ms → Exc cls u → J Γ nL u kc ks pc lo st
theorem jN_ot {w : Cond} (h : w ∈ jN) : w.onTables = true := by
  have h2 := (List.mem_filter.mp h).2
  cases w <;> first | rfl | simp [jOt] at h2
theorem jCx_of {E : jE} {y : MethodName} {cc : ByteArray} {maxL : Nat} {rt : Option FieldType} {rm : Room} {As : List Value} {w : va_W} {mc ms : Nat} {Post : Option Value → va_W → Prop} {Exc : String → va_W → Prop} (hy : plainName y.cls = true) (hsz : (lg_sl As).length ≤ maxL)
    (body : ∀ Γ : jG, jX Γ cc maxL y.cls → jgE Γ = E → jgR Γ = rm → jRt Γ cc maxL mc ms rt Post → jOut Γ maxL mc ms Exc → jTh Γ cc maxL y.cls mc ms Exc → jThW Γ cc maxL y.cls mc ms Exc → J Γ maxL w 0 0 0 (lv_args 0 As) []) : jCx E y cc maxL rt rm As w mc ms Post Exc := by
  obtain ⟨l, D, cy, κ⟩ := E
  intro hst sz
  refine vx_ofW (cc := cc) (maxL := maxL) (ret := rt) hy rfl ?_
  intro p e s m args below meth c s₁ B hml ht0 hv
  obtain ⟨rfl, hsz9, hP, hK, hD0, hF⟩ := hv
  have hx := B.exec
  have hb := B.bytes
  have hr := B.returns
  have hts := atoms_spec (ws := Cond.code y cc maxL rt :: jB) B.pre
  have hown : s.vm.findClass y.cls = some m.cls := findClass_of_methodNamed B.named
  have hlocks := B.notSynchronized
  subst hsz9
  have hD := hD0.self (sz := s.heap.size)
  rw [lg_entry_eq]
  have hl := lv_entry As (n := maxL) hsz
  have hA : ∀ q : Nat, s.heap.size ≤ q → va_A (jcv cy w) s.heap.size q := fun q h => Or.inr h
  have hout : ∀ pc : Nat, ∀ x ∈ c.exceptionTable.toList, covers x pc = false := fun pc x hx9 => (ht0 x hx9).elim
  have key := body (p, (l, D, cy, κ), e, rm, s, m, As.toArray, below, meth, c, va_A (jcv cy w) s.heap.size, vx_MQ below (jQ (l, D, cy, κ) w s.heap.size Post) (jXQ (l, D, cy, κ) w s.heap.size Exc) As.toArray s mc ms (va_A (jcv cy w) s.heap.size))
    ⟨hx, hb, hml, hown, fun w hw => hts w (List.mem_cons_of_mem _ hw), hK, hA, hF, hlocks, hst⟩ rfl rfl ?_ ?_ ?_ ?_
  · exact key s.heap [] _ hP hD va_S.rf hl
  · intro u kc ks pc lo v st hkc hks hok hpost H locs ls hP hD hS hl
    have hq : ∀ t : State, t.heap = H → s.WarmedH t.vm → jQ (l, D, cy, κ) w s.heap.size Post As.toArray s (.returned v) t := fun t ht hW => ⟨⟨v, u, rfl, hpost, by rw [ht]; exact hP, hD⟩, hS.F ht⟩
    refine W.widen hkc hks (vx_ret ?_)
    rcases hok with ⟨d, h1, h2, h3⟩ | ⟨d, ty, r, h1, h0, h2, h3⟩ | ⟨d, ty, r, h1, h0, h2, h3⟩ | ⟨d, r, h1, h2, h3⟩ | ⟨d, r, h1, h2, h3⟩ | ⟨d, r, h1, h2, h3⟩
    · subst h2; subst h3
      exact W.vret hx hb (by rw [hr]; exact h1) hq hS.2.2 d
    · subst h2; subst h3
      exact W.zret hx hb (by rw [hr]; exact h1) h0 hq hS.2.2 d
    · subst h2; subst h3
      exact W.aret hx hb (by rw [hr]; exact h1) h0 (Or.inr ⟨r, rfl⟩) hq hS.2.2 d
    · subst h2; subst h3
      exact W.lret hx hb (by rw [hr]; exact h1) hq hS.2.2 d
    · subst h2; subst h3
      exact W.dret hx hb (by rw [hr]; exact h1) hq hS.2.2 d
    · subst h2; subst h3
      exact W.fret hx hb (by rw [hr]; exact h1) hq hS.2.2 d
  · intro u kc ks pc lo Cx hkc hks hexc H locs ls q ce rest hP1 hD1 hS hl1 hce hv hcl
    exact vx_out (hout pc) hlocks hce hv hcl (fun t ht hW => ⟨⟨u, hexc, by rw [ht]; exact hP1, hD1⟩, hS.F ht⟩) hS.2.2 hkc hks
  · intro u kc ks pc lo st ik is ic n ix rx cls text Y9 r9 r0 r1 r2 r5 d0 d3 d4 d6 d9 hstr hfit hY9 hnm hlk hini hat hroom hkc hks hexc H locs ls hP1 hD1 hS hl1
    have hfit9 : ∀ z ∈ (jx_own y.cls ic cls Y9 ix rx r9).filter vx_no, z.before As.toArray s = true := by
      intro z hz
      rcases hat z hz with h | h
      · exact hts z (List.mem_cons_of_mem _ h)
      · exact va_Nw.use (jN_ot h) (hF.2.2.2.2.2.1 z h)
    have hot : ∀ z ∈ jB, vx_ot z = true := fun z hz => by
      have := jB_gw z hz
      simp [vx_ot, this]
    have hot2 : ∀ z ∈ jN, vx_ot z = true := fun z hz => by simp [vx_ot, jN_ot hz]
    refine jx_throwS hx hb hst r0 r1 r2 r5 hown hfit hY9 hnm (hts _ (List.mem_cons_of_mem _ hlk)) (hts _ (List.mem_cons_of_mem _ hini)) (hF.2.2.2.2.2.2.1 _ hstr) hfit9 ?_ hF.2.2.2.1.1 hF.2.2.2.1.2 hS (hl1.1.trans hml.symm) d0 d3 d4 d6 d9 (hout _) hroom.1 hroom.2.1 hroom.2.2.1 hroom.2.2.2 hlocks ?_ hS.2.2 hkc hks
    · intro z hz
      rcases List.mem_cons.mp hz with rfl | hz
      · exact hot _ hlk
      · rcases List.mem_cons.mp hz with rfl | hz
        · exact hot _ hini
        · rcases hat z hz with h | h
          · exact hot z h
          · exact hot2 z h
    · intro t hvm hsz1 hsame
      refine ⟨⟨u, hexc, hP1.kept (fun k q hk => hsame q.1 (hP1 k q hk).lt), hD1⟩, Nat.le_trans hS.1 hsz1, fun q h1 h2 => ?_⟩
      rw [hsame q (Nat.lt_of_lt_of_le h1 hS.1)]
      exact hS.2.1 q h1 h2
  · intro u kc ks pc lo st ik is ic n ix rx cls text Y9 r9 r0 r1 r2 r5 d0 d3 d4 d7 d10 hstr hfit hY9 hnm hlk hini hat hroom hkc hks hexc H locs ls hP1 hD1 hS hl1
    have hfit9 : ∀ z ∈ (jx_own y.cls ic cls Y9 ix rx r9).filter vx_no, z.before As.toArray s = true := by
      intro z hz
      rcases hat z hz with h | h
      · exact hts z (List.mem_cons_of_mem _ h)
      · exact va_Nw.use (jN_ot h) (hF.2.2.2.2.2.1 z h)
    have hot : ∀ z ∈ jB, vx_ot z = true := fun z hz => by
      have := jB_gw z hz
      simp [vx_ot, this]
    have hot2 : ∀ z ∈ jN, vx_ot z = true := fun z hz => by simp [vx_ot, jN_ot hz]
    refine jx_throwSW hx hb hst r0 r1 r2 r5 hown hfit hY9 hnm (hts _ (List.mem_cons_of_mem _ hlk)) (hts _ (List.mem_cons_of_mem _ hini)) (hF.2.2.2.2.2.2.1 _ hstr) hfit9 ?_ hF.2.2.2.1.1 hF.2.2.2.1.2 hS (hl1.1.trans hml.symm) d0 d3 d4 d7 d10 (hout _) hroom.1 hroom.2.1 hroom.2.2.1 hroom.2.2.2 hlocks ?_ hS.2.2 hkc hks
    · intro z hz
      rcases List.mem_cons.mp hz with rfl | hz
      · exact hot _ hlk
      · rcases List.mem_cons.mp hz with rfl | hz
        · exact hot _ hini
        · rcases hat z hz with h | h
          · exact hot z h
          · exact hot2 z h
    · intro t hvm hsz1 hsame
      refine ⟨⟨u, hexc, hP1.kept (fun k q hk => hsame q.1 (hP1 k q hk).lt), hD1⟩, Nat.le_trans hS.1 hsz1, fun q h1 h2 => ?_⟩
      rw [hsame q (Nat.lt_of_lt_of_le h1 hS.1)]
      exact hS.2.1 q h1 h2
theorem jat_of {L : List Cond} (h1 : ∀ z ∈ L, z ∈ lw_tbl) (h2 : L.all (fun z => goodWord z || jOt z) = true) : ∀ z ∈ L, z ∈ jB ∨ z ∈ jN := fun z hz => by
  have h3 := List.all_eq_true.mp h2 z hz
  rcases Bool.or_eq_true _ _ |>.mp h3 with h | h
  · exact Or.inl (jB_in (h1 z hz) h)
  · exact Or.inr (jN_in (h1 z hz) h)
section JCallsX
variable {p : Program} {l : Launch} {e : Env} {R : Room} {s : State} {m : MethodId} {args : Array Value} {below : List Frame} {meth : Method} {c : Code} {H : Heap} {locs : List Loc} {cells slots : Nat} {Q : State → Prop}
theorem jW_runx {Qa : State → Outcome → State → Prop} {XC : String → State → State → Prop} {free : Addr → Prop} {pc mc ms : Nat} {ls : Array Slot} {st0 rest : List Value} (hr : vx_Run p l e R s m args below meth c H locs cells slots mc ms (F0 m pc ls st0) rest Qa XC free)
    (kk : ∀ (v : Option Value) (st₀ t : State) (H1 : Heap) (L : List Loc), st₀.heap = H → t.heap = H1 → Qa st₀ (.returned v) t → (∀ q ∈ L, free q.base) → W p l e R s m args below meth c H1 (locs ++ L) (cells + mc) (slots + ms) Q (F0 m (pc + 3) ls (v.toList ++ rest)))
    (kx : ∀ (Cx : String) (q : Addr) (ce : Cell) (st₀ t : State) (H1 : Heap) (L : List Loc), st₀.heap = H → t.heap = H1 → XC Cx st₀ t → H1[q]? = some ce → ce.vm = .none → s.vm.findClass Cx = some ce.cls → (∀ q ∈ L, free q.base) → vx_W p l e R s m args below meth c H1 (locs ++ L) (cells + mc) (slots + ms) Q (F0 m pc ls rest) q) : W p l e R s m args below meth c H locs cells slots Q (F0 m pc ls st0) := by
  intro T hT X
  rcases hr T hT X with ⟨v, st₀, t, T', L, h0, X', hL, e1, e2, hq, st⟩ | ⟨q, st₀, t, T', L, E, ce, h0, X', hL, e1, e2, hxc, hce, hcv, hcl, st⟩
  · obtain ⟨t2, a1, b1⟩ := kk v st₀ t T'.heap L h0 e1.symm hq hL T' rfl X'
    exact ⟨t2, st t2 a1, b1⟩
  · obtain ⟨t2, a1, b1⟩ := kx E q ce st₀ t T'.heap L h0 e1.symm hxc (by rw [e1]; exact hce) hcv hcl hL T' rfl X'
    exact ⟨t2, st.trans a1, b1⟩
end JCallsX
section JR5
variable {Γ : jG} {cc : ByteArray} {nL : Nat} {own : String} {w : va_W} {kc ks pc : Nat} {lo : List (Nat × Value)} {st : List Value}
theorem j_callVx (X : jX Γ cc nL own) {y : MethodName} {cy : ByteArray} {maxL n : Nat} {rt : Option FieldType} {rm : Room} {b : Nat} (As rest : List Value) {mc ms : Nat} {Post : Option Value → va_W → Prop} {Exc : String → va_W → Prop} (hM : jCx (jgE Γ) y cy maxL rt rm (.ref b :: As) w mc ms Post Exc) {ci index : Nat} {T : u_T} {N : Nat} {fs : List Value} (hb : jlk w b = some (.inr (ci, fs))) (hci : vwCl[ci]? = some (y.cls, T, N)) (hm : jMv y cy maxL rt n) (hl : Cond.methodLink own index y ∈ jB) (hn : As.length = n) (hrm : rm.cells = mc ∧ rm.slots = ms) (hR : (rm.frames + 1 ≤ (jgR Γ).frames ∧ 8 + (maxL + 11) + rm.locals ≤ (jgR Γ).locals) ∧ kc + mc ≤ (jgR Γ).cells ∧ ks + ms ≤ (jgR Γ).slots) (hst : st = As.reverse ++ .ref b :: rest) (hcat : (rest.map fun v => v.category).sum ≤ 8) (d : decode cc pc = .ok (.invokevirtual index, 3))
    (kk : ∀ (v : Option Value) (u : va_W), Post v u → J Γ nL u (kc + mc) (ks + ms) (pc + 3) lo (v.toList ++ rest)) (kx : ∀ (Cx : String) (u : va_W), Exc Cx u → Jx Γ nL u (kc + mc) (ks + ms) pc lo Cx) : J Γ nL w kc ks pc lo st := by
  obtain ⟨p, ⟨l, D, cyy, κ⟩, e, R, s, m, args, below, meth, c, A, Q⟩ := Γ
  obtain ⟨hx, hbc, hml, hown, hts, hK, hA, hF, hlk, hst9⟩ := X
  intro H locs ls hP hD hS hl9
  obtain ⟨j, h1, -⟩ := jlk_at hb
  obtain ⟨m1, m2, m3, m4, m5, m6⟩ := hm
  refine jW_runx (vx_runV (As := As) (rest := rest) (C := y.cls) ⟨hx, hbc, hml, hown, hts⟩ (hM hst9 H.size) (cwV n hts ?_ rfl hrm.1 hrm.2 ⟨rfl, m5.1, m5.2, m6⟩ hR.1) ⟨j_blind, va_recv hK hP hci (jcv_at (cy := cyy) h1), fun U hU hW => ⟨rfl, j_pre hK hF hP hD hS hA hU hW⟩⟩ rfl hn hl9.1 hst (lv_room hcat) d hR.2) ?_ ?_
  · intro z hz
    unfold wsV at hz
    rcases List.mem_append.mp hz with h | h
    · have : z ∈ jB := by
        simp only [List.mem_cons, List.not_mem_nil, or_false] at h
        rcases h with rfl | rfl | rfl | rfl
        · exact hl
        · exact m1
        · exact m2
        · exact m3
      exact ⟨this, jB_good _ this⟩
    · exact jG_c m4 z h
  · intro v st₀ t H1 L h0 ht hq hL
    obtain ⟨⟨v9, u, hv, hpost, hP1, hD1⟩, hF1⟩ := hq
    cases hv
    obtain ⟨hD2, hS2⟩ := j_back hP hD hS hA h0 ht hF1 hD1 hL
    exact kk _ u hpost H1 _ ls (by rw [← ht]; exact hP1) hD2 hS2 hl9
  · intro Cx q ce st₀ t H1 L h0 ht hxc hce hcv hcl hL
    obtain ⟨⟨u, hexc, hP1, hD1⟩, hF1⟩ := hxc
    obtain ⟨hD2, hS2⟩ := j_back hP hD hS hA h0 ht hF1 hD1 hL
    exact kx Cx u hexc H1 _ ls q ce rest (by rw [← ht]; exact hP1) hD2 hS2 hl9 hce hcv hcl
theorem j_callSx (X : jX Γ cc nL own) {y : MethodName} {cy : ByteArray} {maxL n : Nat} {rt : Option FieldType} {rm : Room} (As rest : List Value) {mc ms : Nat} {Post : Option Value → va_W → Prop} {Exc : String → va_W → Prop} (hM : jCx (jgE Γ) y cy maxL rt rm As w mc ms Post Exc) {index : Nat} (hm : jMs y cy maxL rt n) (hl : Cond.methodLink own index y ∈ jB) (hn : As.length = n) (hrm : rm.cells = mc ∧ rm.slots = ms) (hR : (rm.frames + 1 ≤ (jgR Γ).frames ∧ 8 + (maxL + 11) + rm.locals ≤ (jgR Γ).locals) ∧ kc + mc ≤ (jgR Γ).cells ∧ ks + ms ≤ (jgR Γ).slots) (hst : st = As.reverse ++ rest) (hcat : (rest.map fun v => v.category).sum ≤ 8) (d : decode cc pc = .ok (.invokestatic index, 3))
    (kk : ∀ (v : Option Value) (u : va_W), Post v u → J Γ nL u (kc + mc) (ks + ms) (pc + 3) lo (v.toList ++ rest)) (kx : ∀ (Cx : String) (u : va_W), Exc Cx u → Jx Γ nL u (kc + mc) (ks + ms) pc lo Cx) : J Γ nL w kc ks pc lo st := by
  obtain ⟨p, ⟨l, D, cyy, κ⟩, e, R, s, m, args, below, meth, c, A, Q⟩ := Γ
  obtain ⟨hx, hbc, hml, hown, hts, hK, hA, hF, hlk, hst9⟩ := X
  intro H locs ls hP hD hS hl9
  obtain ⟨m1, m3, m4, m5, m6⟩ := hm
  refine jW_runx (vx_runS (As := As) (rest := rest) ⟨hx, hbc, hml, hown, hts⟩ (hM hst9 H.size) (va_cwS n hts ?_ rfl hrm.1 hrm.2 ⟨m5.1, m5.2, m6⟩ hR.1) ⟨j_blind, fun U hU hW => ⟨rfl, j_pre hK hF hP hD hS hA hU hW⟩⟩ rfl hn hl9.1 hst (lv_room hcat) d hR.2) ?_ ?_
  · intro z hz
    unfold va_wsS at hz
    rcases List.mem_append.mp hz with h | h
    · have : z ∈ jB := by
        simp only [List.mem_cons, List.not_mem_nil, or_false] at h
        rcases h with rfl | rfl | rfl
        · exact hl
        · exact m1
        · exact m3
      exact ⟨this, jB_good _ this⟩
    · exact jG_c m4 z h
  · intro v st₀ t H1 L h0 ht hq hL
    obtain ⟨⟨v9, u, hv, hpost, hP1, hD1⟩, hF1⟩ := hq
    cases hv
    obtain ⟨hD2, hS2⟩ := j_back hP hD hS hA h0 ht hF1 hD1 hL
    exact kk _ u hpost H1 _ ls (by rw [← ht]; exact hP1) hD2 hS2 hl9
  · intro Cx q ce st₀ t H1 L h0 ht hxc hce hcv hcl hL
    obtain ⟨⟨u, hexc, hP1, hD1⟩, hF1⟩ := hxc
    obtain ⟨hD2, hS2⟩ := j_back hP hD hS hA h0 ht hF1 hD1 hL
    exact kx Cx u hexc H1 _ ls q ce rest (by rw [← ht]; exact hP1) hD2 hS2 hl9 hce hcv hcl
theorem j_callVxi (X : jX Γ cc nL own) {y : MethodName} {cy : ByteArray} {maxL n : Nat} {rt : Option FieldType} {rm : Room} {b : Nat} (As rest : List Value) {mc ms : Nat} {P : Int32 → va_W → Prop} {Exc : String → va_W → Prop} (hM : jCx (jgE Γ) y cy maxL rt rm (.ref b :: As) w mc ms (jPi P) Exc) {ci index : Nat} {T : u_T} {N : Nat} {fs : List Value} (hb : jlk w b = some (.inr (ci, fs))) (hci : vwCl[ci]? = some (y.cls, T, N)) (hm : jMv y cy maxL rt n) (hl : Cond.methodLink own index y ∈ jB) (hn : As.length = n) (hrm : rm.cells = mc ∧ rm.slots = ms) (hR : (rm.frames + 1 ≤ (jgR Γ).frames ∧ 8 + (maxL + 11) + rm.locals ≤ (jgR Γ).locals) ∧ kc + mc ≤ (jgR Γ).cells ∧ ks + ms ≤ (jgR Γ).slots) (hst : st = As.reverse ++ .ref b :: rest) (hcat : (rest.map fun v => v.category).sum ≤ 8) (d : decode cc pc = .ok (.invokevirtual index, 3)) (kk : ∀ (r : Int32) (u : va_W), P r u → J Γ nL u (kc + mc) (ks + ms) (pc + 3) lo (.int r :: rest)) (kx : ∀ (Cx : String) (u : va_W), Exc Cx u → Jx Γ nL u (kc + mc) (ks + ms) pc lo Cx) : J Γ nL w kc ks pc lo st :=
  j_callVx X As rest hM hb hci hm hl hn hrm hR hst hcat d (fun v u h => by obtain ⟨r, rfl, hp⟩ := h; exact kk r u hp) kx
theorem j_callVxr (X : jX Γ cc nL own) {y : MethodName} {cy : ByteArray} {maxL n : Nat} {rt : Option FieldType} {rm : Room} {b : Nat} (As rest : List Value) {mc ms : Nat} {P : Nat → va_W → Prop} {Exc : String → va_W → Prop} (hM : jCx (jgE Γ) y cy maxL rt rm (.ref b :: As) w mc ms (jPr P) Exc) {ci index : Nat} {T : u_T} {N : Nat} {fs : List Value} (hb : jlk w b = some (.inr (ci, fs))) (hci : vwCl[ci]? = some (y.cls, T, N)) (hm : jMv y cy maxL rt n) (hl : Cond.methodLink own index y ∈ jB) (hn : As.length = n) (hrm : rm.cells = mc ∧ rm.slots = ms) (hR : (rm.frames + 1 ≤ (jgR Γ).frames ∧ 8 + (maxL + 11) + rm.locals ≤ (jgR Γ).locals) ∧ kc + mc ≤ (jgR Γ).cells ∧ ks + ms ≤ (jgR Γ).slots) (hst : st = As.reverse ++ .ref b :: rest) (hcat : (rest.map fun v => v.category).sum ≤ 8) (d : decode cc pc = .ok (.invokevirtual index, 3)) (kk : ∀ (r : Nat) (u : va_W), P r u → J Γ nL u (kc + mc) (ks + ms) (pc + 3) lo (.ref r :: rest)) (kx : ∀ (Cx : String) (u : va_W), Exc Cx u → Jx Γ nL u (kc + mc) (ks + ms) pc lo Cx) : J Γ nL w kc ks pc lo st :=
  j_callVx X As rest hM hb hci hm hl hn hrm hR hst hcat d (fun v u h => by obtain ⟨r, rfl, hp⟩ := h; exact kk r u hp) kx
theorem j_callVxl (X : jX Γ cc nL own) {y : MethodName} {cy : ByteArray} {maxL n : Nat} {rt : Option FieldType} {rm : Room} {b : Nat} (As rest : List Value) {mc ms : Nat} {P : Int64 → va_W → Prop} {Exc : String → va_W → Prop} (hM : jCx (jgE Γ) y cy maxL rt rm (.ref b :: As) w mc ms (jPl P) Exc) {ci index : Nat} {T : u_T} {N : Nat} {fs : List Value} (hb : jlk w b = some (.inr (ci, fs))) (hci : vwCl[ci]? = some (y.cls, T, N)) (hm : jMv y cy maxL rt n) (hl : Cond.methodLink own index y ∈ jB) (hn : As.length = n) (hrm : rm.cells = mc ∧ rm.slots = ms) (hR : (rm.frames + 1 ≤ (jgR Γ).frames ∧ 8 + (maxL + 11) + rm.locals ≤ (jgR Γ).locals) ∧ kc + mc ≤ (jgR Γ).cells ∧ ks + ms ≤ (jgR Γ).slots) (hst : st = As.reverse ++ .ref b :: rest) (hcat : (rest.map fun v => v.category).sum ≤ 8) (d : decode cc pc = .ok (.invokevirtual index, 3)) (kk : ∀ (r : Int64) (u : va_W), P r u → J Γ nL u (kc + mc) (ks + ms) (pc + 3) lo (.long r :: rest)) (kx : ∀ (Cx : String) (u : va_W), Exc Cx u → Jx Γ nL u (kc + mc) (ks + ms) pc lo Cx) : J Γ nL w kc ks pc lo st :=
  j_callVx X As rest hM hb hci hm hl hn hrm hR hst hcat d (fun v u h => by obtain ⟨r, rfl, hp⟩ := h; exact kk r u hp) kx
theorem j_callVxd (X : jX Γ cc nL own) {y : MethodName} {cy : ByteArray} {maxL n : Nat} {rt : Option FieldType} {rm : Room} {b : Nat} (As rest : List Value) {mc ms : Nat} {P : UInt64 → va_W → Prop} {Exc : String → va_W → Prop} (hM : jCx (jgE Γ) y cy maxL rt rm (.ref b :: As) w mc ms (jPd P) Exc) {ci index : Nat} {T : u_T} {N : Nat} {fs : List Value} (hb : jlk w b = some (.inr (ci, fs))) (hci : vwCl[ci]? = some (y.cls, T, N)) (hm : jMv y cy maxL rt n) (hl : Cond.methodLink own index y ∈ jB) (hn : As.length = n) (hrm : rm.cells = mc ∧ rm.slots = ms) (hR : (rm.frames + 1 ≤ (jgR Γ).frames ∧ 8 + (maxL + 11) + rm.locals ≤ (jgR Γ).locals) ∧ kc + mc ≤ (jgR Γ).cells ∧ ks + ms ≤ (jgR Γ).slots) (hst : st = As.reverse ++ .ref b :: rest) (hcat : (rest.map fun v => v.category).sum ≤ 8) (d : decode cc pc = .ok (.invokevirtual index, 3)) (kk : ∀ (r : UInt64) (u : va_W), P r u → J Γ nL u (kc + mc) (ks + ms) (pc + 3) lo (.double r :: rest)) (kx : ∀ (Cx : String) (u : va_W), Exc Cx u → Jx Γ nL u (kc + mc) (ks + ms) pc lo Cx) : J Γ nL w kc ks pc lo st :=
  j_callVx X As rest hM hb hci hm hl hn hrm hR hst hcat d (fun v u h => by obtain ⟨r, rfl, hp⟩ := h; exact kk r u hp) kx
theorem j_callVxf (X : jX Γ cc nL own) {y : MethodName} {cy : ByteArray} {maxL n : Nat} {rt : Option FieldType} {rm : Room} {b : Nat} (As rest : List Value) {mc ms : Nat} {P : UInt32 → va_W → Prop} {Exc : String → va_W → Prop} (hM : jCx (jgE Γ) y cy maxL rt rm (.ref b :: As) w mc ms (jPf P) Exc) {ci index : Nat} {T : u_T} {N : Nat} {fs : List Value} (hb : jlk w b = some (.inr (ci, fs))) (hci : vwCl[ci]? = some (y.cls, T, N)) (hm : jMv y cy maxL rt n) (hl : Cond.methodLink own index y ∈ jB) (hn : As.length = n) (hrm : rm.cells = mc ∧ rm.slots = ms) (hR : (rm.frames + 1 ≤ (jgR Γ).frames ∧ 8 + (maxL + 11) + rm.locals ≤ (jgR Γ).locals) ∧ kc + mc ≤ (jgR Γ).cells ∧ ks + ms ≤ (jgR Γ).slots) (hst : st = As.reverse ++ .ref b :: rest) (hcat : (rest.map fun v => v.category).sum ≤ 8) (d : decode cc pc = .ok (.invokevirtual index, 3)) (kk : ∀ (r : UInt32) (u : va_W), P r u → J Γ nL u (kc + mc) (ks + ms) (pc + 3) lo (.float r :: rest)) (kx : ∀ (Cx : String) (u : va_W), Exc Cx u → Jx Γ nL u (kc + mc) (ks + ms) pc lo Cx) : J Γ nL w kc ks pc lo st :=
  j_callVx X As rest hM hb hci hm hl hn hrm hR hst hcat d (fun v u h => by obtain ⟨r, rfl, hp⟩ := h; exact kk r u hp) kx
theorem j_callVxv (X : jX Γ cc nL own) {y : MethodName} {cy : ByteArray} {maxL n : Nat} {rt : Option FieldType} {rm : Room} {b : Nat} (As rest : List Value) {mc ms : Nat} {P : va_W → Prop} {Exc : String → va_W → Prop} (hM : jCx (jgE Γ) y cy maxL rt rm (.ref b :: As) w mc ms (jPv P) Exc) {ci index : Nat} {T : u_T} {N : Nat} {fs : List Value} (hb : jlk w b = some (.inr (ci, fs))) (hci : vwCl[ci]? = some (y.cls, T, N)) (hm : jMv y cy maxL rt n) (hl : Cond.methodLink own index y ∈ jB) (hn : As.length = n) (hrm : rm.cells = mc ∧ rm.slots = ms) (hR : (rm.frames + 1 ≤ (jgR Γ).frames ∧ 8 + (maxL + 11) + rm.locals ≤ (jgR Γ).locals) ∧ kc + mc ≤ (jgR Γ).cells ∧ ks + ms ≤ (jgR Γ).slots) (hst : st = As.reverse ++ .ref b :: rest) (hcat : (rest.map fun v => v.category).sum ≤ 8) (d : decode cc pc = .ok (.invokevirtual index, 3)) (kk : ∀ u : va_W, P u → J Γ nL u (kc + mc) (ks + ms) (pc + 3) lo rest) (kx : ∀ (Cx : String) (u : va_W), Exc Cx u → Jx Γ nL u (kc + mc) (ks + ms) pc lo Cx) : J Γ nL w kc ks pc lo st :=
  j_callVx X As rest hM hb hci hm hl hn hrm hR hst hcat d (fun v u h => by obtain ⟨rfl, hp⟩ := h; exact kk u hp) kx
theorem j_callSxi (X : jX Γ cc nL own) {y : MethodName} {cy : ByteArray} {maxL n : Nat} {rt : Option FieldType} {rm : Room} (As rest : List Value) {mc ms : Nat} {P : Int32 → va_W → Prop} {Exc : String → va_W → Prop} (hM : jCx (jgE Γ) y cy maxL rt rm As w mc ms (jPi P) Exc) {index : Nat} (hm : jMs y cy maxL rt n) (hl : Cond.methodLink own index y ∈ jB) (hn : As.length = n) (hrm : rm.cells = mc ∧ rm.slots = ms) (hR : (rm.frames + 1 ≤ (jgR Γ).frames ∧ 8 + (maxL + 11) + rm.locals ≤ (jgR Γ).locals) ∧ kc + mc ≤ (jgR Γ).cells ∧ ks + ms ≤ (jgR Γ).slots) (hst : st = As.reverse ++ rest) (hcat : (rest.map fun v => v.category).sum ≤ 8) (d : decode cc pc = .ok (.invokestatic index, 3)) (kk : ∀ (r : Int32) (u : va_W), P r u → J Γ nL u (kc + mc) (ks + ms) (pc + 3) lo (.int r :: rest)) (kx : ∀ (Cx : String) (u : va_W), Exc Cx u → Jx Γ nL u (kc + mc) (ks + ms) pc lo Cx) : J Γ nL w kc ks pc lo st :=
  j_callSx X As rest hM hm hl hn hrm hR hst hcat d (fun v u h => by obtain ⟨r, rfl, hp⟩ := h; exact kk r u hp) kx
theorem j_callSxr (X : jX Γ cc nL own) {y : MethodName} {cy : ByteArray} {maxL n : Nat} {rt : Option FieldType} {rm : Room} (As rest : List Value) {mc ms : Nat} {P : Nat → va_W → Prop} {Exc : String → va_W → Prop} (hM : jCx (jgE Γ) y cy maxL rt rm As w mc ms (jPr P) Exc) {index : Nat} (hm : jMs y cy maxL rt n) (hl : Cond.methodLink own index y ∈ jB) (hn : As.length = n) (hrm : rm.cells = mc ∧ rm.slots = ms) (hR : (rm.frames + 1 ≤ (jgR Γ).frames ∧ 8 + (maxL + 11) + rm.locals ≤ (jgR Γ).locals) ∧ kc + mc ≤ (jgR Γ).cells ∧ ks + ms ≤ (jgR Γ).slots) (hst : st = As.reverse ++ rest) (hcat : (rest.map fun v => v.category).sum ≤ 8) (d : decode cc pc = .ok (.invokestatic index, 3)) (kk : ∀ (r : Nat) (u : va_W), P r u → J Γ nL u (kc + mc) (ks + ms) (pc + 3) lo (.ref r :: rest)) (kx : ∀ (Cx : String) (u : va_W), Exc Cx u → Jx Γ nL u (kc + mc) (ks + ms) pc lo Cx) : J Γ nL w kc ks pc lo st :=
  j_callSx X As rest hM hm hl hn hrm hR hst hcat d (fun v u h => by obtain ⟨r, rfl, hp⟩ := h; exact kk r u hp) kx
theorem j_callSxl (X : jX Γ cc nL own) {y : MethodName} {cy : ByteArray} {maxL n : Nat} {rt : Option FieldType} {rm : Room} (As rest : List Value) {mc ms : Nat} {P : Int64 → va_W → Prop} {Exc : String → va_W → Prop} (hM : jCx (jgE Γ) y cy maxL rt rm As w mc ms (jPl P) Exc) {index : Nat} (hm : jMs y cy maxL rt n) (hl : Cond.methodLink own index y ∈ jB) (hn : As.length = n) (hrm : rm.cells = mc ∧ rm.slots = ms) (hR : (rm.frames + 1 ≤ (jgR Γ).frames ∧ 8 + (maxL + 11) + rm.locals ≤ (jgR Γ).locals) ∧ kc + mc ≤ (jgR Γ).cells ∧ ks + ms ≤ (jgR Γ).slots) (hst : st = As.reverse ++ rest) (hcat : (rest.map fun v => v.category).sum ≤ 8) (d : decode cc pc = .ok (.invokestatic index, 3)) (kk : ∀ (r : Int64) (u : va_W), P r u → J Γ nL u (kc + mc) (ks + ms) (pc + 3) lo (.long r :: rest)) (kx : ∀ (Cx : String) (u : va_W), Exc Cx u → Jx Γ nL u (kc + mc) (ks + ms) pc lo Cx) : J Γ nL w kc ks pc lo st :=
  j_callSx X As rest hM hm hl hn hrm hR hst hcat d (fun v u h => by obtain ⟨r, rfl, hp⟩ := h; exact kk r u hp) kx
theorem j_callSxd (X : jX Γ cc nL own) {y : MethodName} {cy : ByteArray} {maxL n : Nat} {rt : Option FieldType} {rm : Room} (As rest : List Value) {mc ms : Nat} {P : UInt64 → va_W → Prop} {Exc : String → va_W → Prop} (hM : jCx (jgE Γ) y cy maxL rt rm As w mc ms (jPd P) Exc) {index : Nat} (hm : jMs y cy maxL rt n) (hl : Cond.methodLink own index y ∈ jB) (hn : As.length = n) (hrm : rm.cells = mc ∧ rm.slots = ms) (hR : (rm.frames + 1 ≤ (jgR Γ).frames ∧ 8 + (maxL + 11) + rm.locals ≤ (jgR Γ).locals) ∧ kc + mc ≤ (jgR Γ).cells ∧ ks + ms ≤ (jgR Γ).slots) (hst : st = As.reverse ++ rest) (hcat : (rest.map fun v => v.category).sum ≤ 8) (d : decode cc pc = .ok (.invokestatic index, 3)) (kk : ∀ (r : UInt64) (u : va_W), P r u → J Γ nL u (kc + mc) (ks + ms) (pc + 3) lo (.double r :: rest)) (kx : ∀ (Cx : String) (u : va_W), Exc Cx u → Jx Γ nL u (kc + mc) (ks + ms) pc lo Cx) : J Γ nL w kc ks pc lo st :=
  j_callSx X As rest hM hm hl hn hrm hR hst hcat d (fun v u h => by obtain ⟨r, rfl, hp⟩ := h; exact kk r u hp) kx
theorem j_callSxf (X : jX Γ cc nL own) {y : MethodName} {cy : ByteArray} {maxL n : Nat} {rt : Option FieldType} {rm : Room} (As rest : List Value) {mc ms : Nat} {P : UInt32 → va_W → Prop} {Exc : String → va_W → Prop} (hM : jCx (jgE Γ) y cy maxL rt rm As w mc ms (jPf P) Exc) {index : Nat} (hm : jMs y cy maxL rt n) (hl : Cond.methodLink own index y ∈ jB) (hn : As.length = n) (hrm : rm.cells = mc ∧ rm.slots = ms) (hR : (rm.frames + 1 ≤ (jgR Γ).frames ∧ 8 + (maxL + 11) + rm.locals ≤ (jgR Γ).locals) ∧ kc + mc ≤ (jgR Γ).cells ∧ ks + ms ≤ (jgR Γ).slots) (hst : st = As.reverse ++ rest) (hcat : (rest.map fun v => v.category).sum ≤ 8) (d : decode cc pc = .ok (.invokestatic index, 3)) (kk : ∀ (r : UInt32) (u : va_W), P r u → J Γ nL u (kc + mc) (ks + ms) (pc + 3) lo (.float r :: rest)) (kx : ∀ (Cx : String) (u : va_W), Exc Cx u → Jx Γ nL u (kc + mc) (ks + ms) pc lo Cx) : J Γ nL w kc ks pc lo st :=
  j_callSx X As rest hM hm hl hn hrm hR hst hcat d (fun v u h => by obtain ⟨r, rfl, hp⟩ := h; exact kk r u hp) kx
theorem j_callSxv (X : jX Γ cc nL own) {y : MethodName} {cy : ByteArray} {maxL n : Nat} {rt : Option FieldType} {rm : Room} (As rest : List Value) {mc ms : Nat} {P : va_W → Prop} {Exc : String → va_W → Prop} (hM : jCx (jgE Γ) y cy maxL rt rm As w mc ms (jPv P) Exc) {index : Nat} (hm : jMs y cy maxL rt n) (hl : Cond.methodLink own index y ∈ jB) (hn : As.length = n) (hrm : rm.cells = mc ∧ rm.slots = ms) (hR : (rm.frames + 1 ≤ (jgR Γ).frames ∧ 8 + (maxL + 11) + rm.locals ≤ (jgR Γ).locals) ∧ kc + mc ≤ (jgR Γ).cells ∧ ks + ms ≤ (jgR Γ).slots) (hst : st = As.reverse ++ rest) (hcat : (rest.map fun v => v.category).sum ≤ 8) (d : decode cc pc = .ok (.invokestatic index, 3)) (kk : ∀ u : va_W, P u → J Γ nL u (kc + mc) (ks + ms) (pc + 3) lo rest) (kx : ∀ (Cx : String) (u : va_W), Exc Cx u → Jx Γ nL u (kc + mc) (ks + ms) pc lo Cx) : J Γ nL w kc ks pc lo st :=
  j_callSx X As rest hM hm hl hn hrm hR hst hcat d (fun v u h => by obtain ⟨rfl, hp⟩ := h; exact kk u hp) kx
end JR5
