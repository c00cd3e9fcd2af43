/-! ===== constructors, arrays of references: laid by wip/p57/mkinit.py ===== -/
abbrev jgM (Γ : jG) : Method := Γ.2.2.2.2.2.2.2.2.1
theorem jC_ofN {E : jE} {y : MethodName} {cc : ByteArray} {maxL : Nat} {rt : Option FieldType} {rm : Room} {As : List Value} {w : va_W} {mc ms : Nat} {Post : Option Value → va_W → Prop} (hy : plainName y.cls = true) (hsz : (lg_sl As).length ≤ maxL)
    (body : ∀ Γ : jG, (jgM Γ).name = y.name → jX Γ cc maxL y.cls → jgE Γ = E → jgR Γ = rm → jRt Γ cc maxL mc ms rt Post → J Γ maxL w 0 0 0 (lv_args 0 As) []) : jC E y cc maxL rt rm As w mc ms Post := by
  obtain ⟨l, D, cy, κ⟩ := E
  intro hst sz
  refine Met.ofW (cc := cc) (maxL := maxL) (ret := rt) hy rfl ?_
  intro p e s m args below meth c s₁ B hml hv
  obtain ⟨rfl, hsz9, hP, hK, hD0, hF⟩ := hv
  have hx := B.exec
  have hb := B.bytes
  have hr := B.returns
  have hts := atoms_spec (ws := Cond.code y cc maxL rt :: jB) B.pre
  have hown : s.vm.findClass y.cls = some m.cls := findClass_of_methodNamed B.named
  have hlocks := B.notSynchronized
  subst hsz9
  have hD := hD0.self (sz := s.heap.size)
  rw [lg_entry_eq]
  have hl := lv_entry As (n := maxL) hsz
  have hA : ∀ q : Nat, s.heap.size ≤ q → va_A (jcv cy w) s.heap.size q := fun q h => Or.inr h
  have key := body (p, (l, D, cy, κ), e, rm, s, m, As.toArray, below, meth, c, va_A (jcv cy w) s.heap.size, MQ below (jQ (l, D, cy, κ) w s.heap.size Post) As.toArray s mc ms (va_A (jcv cy w) s.heap.size))
    (name_of_methodNamed B.named B.method).1
    ⟨hx, hb, hml, hown, fun w hw => hts w (List.mem_cons_of_mem _ hw), hK, hA, hF, hlocks, hst⟩ rfl rfl ?_
  · exact key s.heap [] _ hP hD va_S.rf hl
  · intro u kc ks pc lo v st hkc hks hok hpost H locs ls hP hD hS hl
    have hq : ∀ t : State, t.heap = H → s.WarmedH t.vm → jQ (l, D, cy, κ) w s.heap.size Post As.toArray s (.returned v) t := fun t ht hW => ⟨⟨v, u, rfl, hpost, by rw [ht]; exact hP, hD⟩, hS.F ht⟩
    refine W.widen hkc hks ?_
    rcases hok with ⟨d, h1, h2, h3⟩ | ⟨d, ty, r, h1, h0, h2, h3⟩ | ⟨d, ty, r, h1, h0, h2, h3⟩ | ⟨d, r, h1, h2, h3⟩ | ⟨d, r, h1, h2, h3⟩ | ⟨d, r, h1, h2, h3⟩
    · subst h2; subst h3
      exact W.vret hx hb (by rw [hr]; exact h1) hq hS.2.2 d
    · subst h2; subst h3
      exact W.zret hx hb (by rw [hr]; exact h1) h0 hq hS.2.2 d
    · subst h2; subst h3
      exact W.aret hx hb (by rw [hr]; exact h1) h0 (Or.inr ⟨r, rfl⟩) hq hS.2.2 d
    · subst h2; subst h3
      exact W.lret hx hb (by rw [hr]; exact h1) hq hS.2.2 d
    · subst h2; subst h3
      exact W.dret hx hb (by rw [hr]; exact h1) hq hS.2.2 d
    · subst h2; subst h3
      exact W.fret hx hb (by rw [hr]; exact h1) hq hS.2.2 d
section JI
variable {Γ : jG} {cc : ByteArray} {nL : Nat} {own : String} {w : va_W} {kc ks pc : Nat} {lo : List (Nat × Value)} {st : List Value}
theorem j_fresh {D : va_G} {cy : Nat → ClassId} {A : Nat → Prop} {w : va_W} {q : Nat} {x : va_E} (hD1 : va_D A (jcv cy w ++ [(q, x)])) : jlk w q = none := by
  cases hz : jlk w q with
  | none => rfl
  | some e9 =>
    obtain ⟨k, g1, -⟩ := jlk_at hz
    have g2 := jcv_at (cy := cy) g1
    have hlt := (List.getElem?_eq_some_iff.mp g2).1
    have := hD1.1 k (jcv cy w).length (q, jce cy e9) (q, x) (by rw [List.getElem?_append_left hlt]; exact g2) (by rw [List.getElem?_append_right (Nat.le_refl _), Nat.sub_self]; rfl) rfl
    omega
theorem j_arrOne {s : State} {C : String} {a b : ClassId} (f1 : s.vm.findClass C = some a) (g1 : s.vm.findClass C = some b) : a = b := Option.some.inj (f1.symm.trans g1)
theorem j_new (X : jX Γ cc nL own) {C : String} {T : u_T} {N index : Nat} (ci : Nat) (fs : List Value) (hc : vwCl[ci]? = some (C, T, N)) (hin : ∀ w ∈ u_ws C T N, w ∈ jB) (ty : Nat → FieldType) (hty : ∀ k, k < N → parseFieldDescriptor (T k).2.2.1 = some (ty k)) (hcl : Cond.classLink own index C ∈ jB) (hi : Cond.instantiable C N ∈ jB) (hini : Cond.initialized C ∈ jB) (hfs : ∀ j, j < N → defaultValue (ty j) = vp_V fs j) (hR : kc + 1 ≤ (jgR Γ).cells ∧ ks + N ≤ (jgR Γ).slots) (d : decode cc pc = .ok (.new index, 3)) (kk : ∀ q : Nat, jlk w q = none → J Γ nL (w ++ [(q, .inr (ci, fs))]) (kc + 1) (ks + N) (pc + 3) lo (.ref q :: st)) : J Γ nL w kc ks pc lo st := by
  obtain ⟨p, ⟨l, D, cy, κ⟩, e, R, s, m, args, below, meth, c, A, Q⟩ := Γ
  obtain ⟨hx, hb, hml, hown, hts, hK, hA, hF, hlk, hst9⟩ := X
  intro H locs ls hP hD hS hl
  refine va_new hx hb hts hin ty hty hown (hts _ hcl) (hts _ hi) (hts _ hini) hK hP hD hS hA hc hfs hR.1 hR.2 d (fun q H1 hP1 hD1 hS1 => ?_)
  refine kk q (j_fresh (D := D) hD1) H1 locs ls ?_ ?_ hS1 hl
  · rw [← jcv_push]; exact hP1
  · rw [← jcv_push]; exact hD1
theorem j_objInit (X : jX Γ cc nL own) {index a : Nat} (hl9 : Cond.methodLink own index Lib.objectInit ∈ jB) (h1 : Cond.instanceMethod Lib.objectInit ∈ jB) (h2 : Cond.code Lib.objectInit ⟨#[0xb1]⟩ 1 none ∈ jB) (hR : 1 ≤ (jgR Γ).frames ∧ (st.map fun v => v.category).sum + 12 ≤ (jgR Γ).locals) (d : decode cc pc = .ok (.invokespecial index, 3)) (kk : J Γ nL w kc ks (pc + 3) lo st) : J Γ nL w kc ks pc lo (.ref a :: st) := by
  obtain ⟨p, ⟨l, D, cy, κ⟩, e, R, s, m, args, below, meth, c, A, Q⟩ := Γ
  obtain ⟨hx, hb, hml, hown, hts, hK, hA, hF, hlk, hst9⟩ := X
  intro H locs ls hP hD hS hl
  refine W.objInit hx hb hown (hts _ hl9) (hts _ h1) (hts _ h2) rfl (by rw [hml]; exact hl.1) rfl d hR.1 (by show 2 * 0 + _ + 12 ≤ _; rw [Nat.mul_zero, Nat.zero_add]; exact hR.2) ?_
  exact kk H locs ls hP hD hS hl
theorem j_putF (X : jX Γ cc nL own) (hNm : (jgM Γ).name = "<init>") {a ci index : Nat} {ref C : String} {T : u_T} {N : Nat} (hc : vwCl[ci]? = some (C, T, N)) (hin : ∀ w ∈ u_ws C T N, w ∈ jB) (tyf : Nat → FieldType) (hty : ∀ k, k < N → parseFieldDescriptor (T k).2.2.1 = some (tyf k)) (hnm : ∀ a, a < N → ∀ b, b < N → a ≠ b → (T a).2.1 ≠ (T b).2.1) {fs : List Value} {v : Value} (k : Nat) (hk : k < N) (ha : jlk w a = some (.inr (ci, fs))) (hl9 : (Cond.fieldLink own index ref (T k).2.1 (T k).2.2.1) ∈ jB) (hsame : (T k).1 = ref) (hdecl : (T k).1 = own) (hfin : (T k).2.2.2 = true) (hn : narrow (tyf k) v = v) (hfit : fits (tyf k) v = true) (hlen : k < fs.length) (d : decode cc pc = .ok (.putfield index, 3)) (kk : J Γ nL (jst w a (.inr (ci, fs.set k v))) kc ks (pc + 3) lo st) : J Γ nL w kc ks pc lo (v :: .ref a :: st) := by
  obtain ⟨p, ⟨l, D, cy, κ⟩, e, R, s, m, args, below, meth, c, A, Q⟩ := Γ
  obtain ⟨hx, hb, hml, hown, hts, hK, hA, hF, hlk, hst9⟩ := X
  intro H locs ls hP hD hS hl
  obtain ⟨j, h1, h2⟩ := jlk_at ha
  have h3 : ∀ x, jcv cy (jst w a x) = (jcv cy w).set j (a, jce cy x) := fun x => by rw [h2, jcv_set]
  exact va_putF hx hb hts hin tyf hty hnm hown hK hP hD hS j (jcv_at (cy := cy) h1) hc k hk (hts _ hl9) (fun x hx => by rw [← hsame]; exact hx) hfin hNm hdecl (hty k hk) hn hfit hlen d (fun H1 locs1 q1 q2 q3 => kk H1 locs1 ls (by rw [h3]; exact q1) (by rw [h3]; exact q2) q3 hl)
theorem j_newq (X : jX Γ cc nL own) {index : Nat} {n : Int32} {N : Nat} (hcl : Cond.classLink own index "SnowLedger$State" ∈ jB) (hn : ¬ n < 0) (hN : n.toNatClampNeg = N) (hby : N ≤ 100000) (hR : kc + 1 ≤ (jgR Γ).cells ∧ ks + N ≤ (jgR Γ).slots) (d : decode cc pc = .ok (.anewarray index, 3)) (kk : ∀ q : Nat, jlk w q = none → J Γ nL (w ++ [(q, .inl (2, N, .inr (.inr (.inr (.inr (fun _ => none))))))]) (kc + 1) (ks + N) (pc + 3) lo (.ref q :: st)) : J Γ nL w kc ks pc lo (.int n :: st) := by
  obtain ⟨p, ⟨l, D, cy, κ⟩, e, R, s, m, args, below, meth, c, A, Q⟩ := Γ
  obtain ⟨hx, hb, hml, hown, hts, hK, hA, hF, hlk, hst9⟩ := X
  intro H locs ls hP hD hS hl
  refine va_newq hx hb hown (hts _ hcl) hF.2.2.2.2.2.2.2.2.2.2.2.1 hK hP hD hS hA hn hN (by omega) hR.1 hR.2 d (fun q cA H1 hK1 hP1 hD1 hS1 => ?_)
  have hcA : cA = cy 2 := by
    obtain ⟨kA, comp, f2, f3, f4, f1⟩ := (hK1.2 3 (cA, jTy 2) rfl).2
    obtain ⟨kA', comp', g2, g3, g4, g1⟩ := (hK1.2 2 (cy 2, jTy 2) rfl).2
    exact j_arrOne f1 g1
  subst hcA
  refine kk q (j_fresh (D := D) hD1) H1 locs ls ?_ ?_ hS1 hl
  · rw [← jcv_push]; exact hP1
  · rw [← jcv_push]; exact hD1
theorem j_aast (X : jX Γ cc nL own) {a v n ci : Nat} {vs : List Value} {f : Nat → Option Nat} {i : Int32} (ha : jlk w a = some (.inl (2, n, .inr (.inr (.inr (.inr f)))))) (hv : jlk w v = some (.inr (ci, vs))) (hci : ci = 8) (hi : vp_in i n) (d : decode cc pc = .ok (.aastore, 1)) (kk : J Γ nL (jst w a (.inl (2, n, .inr (.inr (.inr (.inr (va_up f i.toNatClampNeg (some v)))))))) kc ks (pc + 1) lo st) : J Γ nL w kc ks pc lo (.ref v :: .int i :: .ref a :: st) := by
  obtain ⟨p, ⟨l, D, cy, κ⟩, e, R, s, m, args, below, meth, c, A, Q⟩ := Γ
  obtain ⟨hx, hb, hml, hown, hts, hK, hA, hF, hlk, hst9⟩ := X
  intro H locs ls hP hD hS hl
  subst hci
  obtain ⟨j, h1, h2⟩ := jlk_at ha
  obtain ⟨j9, g1, -⟩ := jlk_at hv
  have h3 : ∀ x, jcv cy (jst w a x) = (jcv cy w).set j (a, jce cy x) := fun x => by rw [h2, jcv_set]
  exact va_astq hx hb hK hP hD hS j 2 j9 8 (jcv_at (cy := cy) h1) (r := (RX5, TX5, 12)) rfl (jcv_at (cy := cy) g1) rfl hi d (fun H1 locs1 q1 q2 q3 => kk H1 locs1 ls (by rw [h3]; exact q1) (by rw [h3]; exact q2) q3 hl)
def jMi (y : MethodName) (cc : ByteArray) (maxL : Nat) (n : Nat) : Prop := Cond.instanceMethod y ∈ jB ∧ Cond.initialized y.cls ∈ jB ∧ Cond.code y cc maxL none ∈ jB ∧ (y.cls ≠ "java/lang/invoke/MethodHandle" ∧ y.cls ≠ "java/lang/invoke/VarHandle") ∧ (parseMethodDescriptor y.desc).map (fun d => d.parameters.length) = some n ∧ y.name = "<init>"
theorem j_callI (X : jX Γ cc nL own) {y : MethodName} {cy : ByteArray} {maxL n : Nat} {rm : Room} {b : Nat} (As rest : List Value) {mc ms : Nat} {P : va_W → Prop} (hM : jC (jgE Γ) y cy maxL none rm (.ref b :: As) w mc ms (jPv P)) {index : Nat} (hm : jMi y cy maxL n) (hl : Cond.methodLink own index y ∈ jB) (hn : As.length = n) (hrm : rm.cells = mc ∧ rm.slots = ms) (hR : (rm.frames + 1 ≤ (jgR Γ).frames ∧ 8 + (maxL + 11) + rm.locals ≤ (jgR Γ).locals) ∧ kc + mc ≤ (jgR Γ).cells ∧ ks + ms ≤ (jgR Γ).slots) (hst : st = As.reverse ++ .ref b :: rest) (hcat : (rest.map fun v => v.category).sum ≤ 8) (d : decode cc pc = .ok (.invokespecial index, 3))
    (kk : ∀ u : va_W, P u → J Γ nL u (kc + mc) (ks + ms) (pc + 3) lo rest) : J Γ nL w kc ks pc lo st := by
  obtain ⟨p, ⟨l, D, cyy, κ⟩, e, R, s, m, args, below, meth, c, A, Q⟩ := Γ
  obtain ⟨hx, hbc, hml, hown, hts, hK, hA, hF, hlk, hst9⟩ := X
  intro H locs ls hP hD hS hl9
  obtain ⟨m1, m3, m4, m5, m6, m7⟩ := hm
  refine jW_run (va_runI (As := As) (rest := rest) ⟨hx, hbc, hml, hown, hts⟩ (hM hst9 H.size) (cwI n hts (jG_c m4) rfl hrm.1 hrm.2 (hts _ m3) (hts _ hl) (hts _ m1) m7 ⟨m5.1, m5.2, m6⟩ hR.1) ⟨j_blind, fun U hU hW => ⟨rfl, j_pre hK hF hP hD hS hA hU hW⟩⟩ rfl hn hl9.1 hst (lv_room hcat) d hR.2) hS ?_ ?_
  · intro q hq
    rcases hq with ⟨k, e9, h⟩ | h
    · exact hD.2 k (q, e9) h
    · exact hA q (Nat.le_trans hS.1 h)
  · intro v st₀ t H1 locs1 h0 ht hvm hq L hL hlocs
    obtain ⟨⟨v9, u, hv, hpost, hP1, hD1⟩, hF1⟩ := hq
    cases hv
    obtain ⟨rfl, hp⟩ := hpost
    obtain ⟨hD2, hS2⟩ := j_back hP hD hS hA h0 ht hF1 hD1 hL
    rw [hlocs]
    exact kk u hp H1 _ ls (by rw [← ht]; exact hP1) hD2 hS2 hl9
theorem j_rald (X : jX Γ cc nL own) {x : Int32} (hin : vp_in x 20) (d : decode cc pc = .ok (.aaload, 1)) (kk : J Γ nL w kc ks (pc + 1) lo (.ref ((jgE Γ).2.2.2 (10 + (7 + x.toNatClampNeg))) :: st)) : J Γ nL w kc ks pc lo (.int x :: .ref ((jgE Γ).2.2.2 8) :: st) := by
  obtain ⟨p, ⟨l, D, cy, κ⟩, e, R, s, m, args, below, meth, c, A, Q⟩ := Γ
  obtain ⟨hx, hb, hml, hown, hts, hK, hA, hF, hlk, hst9⟩ := X
  intro H locs ls hP hD hS hl
  refine vb_tq hx hb hF.2.2.2.2.2.2.2.2.2.2.1 hS hin rfl d ?_
  rw [show 17 + x.toNatClampNeg = 10 + (7 + x.toNatClampNeg) by omega]
  exact kk H locs ls hP hD hS hl
theorem j_xlen (X : jX Γ cc nL own) {c9 : Nat} (hc9 : c9 = 9) (d : decode cc pc = .ok (.arraylength, 1)) (kk : J Γ nL w kc ks (pc + 1) lo (.int (Int32.ofNat ((jgE Γ).2.2.2 200)) :: st)) : J Γ nL w kc ks pc lo (.ref ((jgE Γ).2.2.2 c9) :: st) := by
  subst hc9
  obtain ⟨p, ⟨l, D, cy, κ⟩, e, R, s, m, args, below, meth, c, A, Q⟩ := Γ
  obtain ⟨hx, hb, hml, hown, hts, hK, hA, hF, hlk, hst9⟩ := X
  intro H locs ls hP hD hS hl
  exact va_tlen hx hb hF.2.2.2.2.2.2.2.2.2.2.2.2.1 hS rfl d (kk H locs ls hP hD hS hl)
theorem j_xld (X : jX Γ cc nL own) {c9 : Nat} (hc9 : c9 = 9) {x : Int32} (hin : vp_in x ((jgE Γ).2.2.2 200)) (d : decode cc pc = .ok (.iaload, 1)) (kk : J Γ nL w kc ks (pc + 1) lo (.int (jXs (jgE Γ).2.2.2 x.toNatClampNeg) :: st)) : J Γ nL w kc ks pc lo (.int x :: .ref ((jgE Γ).2.2.2 c9) :: st) := by
  subst hc9
  obtain ⟨p, ⟨l, D, cy, κ⟩, e, R, s, m, args, below, meth, c, A, Q⟩ := Γ
  obtain ⟨hx, hb, hml, hown, hts, hK, hA, hF, hlk, hst9⟩ := X
  intro H locs ls hP hD hS hl
  exact va_ti hx hb hF.2.2.2.2.2.2.2.2.2.2.2.2.1 hS hin rfl d (kk H locs ls hP hD hS hl)
end JI
def jSr (w : va_W) (a : Nat) (i : Int32) (v : Nat) (K : va_W → Prop) : Prop := ∃ (n : Nat) (f : Nat → Option Nat) (vs : List Value), jlk w a = some (.inl (2, n, .inr (.inr (.inr (.inr f))))) ∧ jlk w v = some (.inr (8, vs)) ∧ vp_in i n ∧ K (jst w a (.inl (2, n, .inr (.inr (.inr (.inr (va_up f i.toNatClampNeg (some v))))))))
