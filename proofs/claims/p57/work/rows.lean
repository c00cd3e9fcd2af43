section
-- ===== PART A: goes FIRST, ahead of the names: the tables' words, and 'selects' of the private methods out of them =====
/-- a private method of a class that the tables say can be made, by its rows of tables_1 -/
def lw_okq (q : MethodName × Nat) : Prop := (q.1.cls ≠ "java/lang/invoke/MethodHandle" ∧ q.1.cls ≠ "java/lang/invoke/VarHandle") ∧ Cond.instantiable q.1.cls q.2 ∈ tables_1 ∧ Cond.privateMethod q.1 ∈ tables_1 ∧ Cond.instanceMethod q.1 ∈ tables_1
theorem lw_p0 : lw_okq (⟨"SnowLedger", "admit", "(LSnowLedger$Refusal;)V"⟩, 11) := ⟨⟨by decide +kernel, by decide +kernel⟩, List.mem_of_getElem? (i := 34) (by decide +kernel), List.mem_of_getElem? (i := 372) (by decide +kernel), List.mem_of_getElem? (i := 373) (by decide +kernel)⟩
theorem lw_p1 : lw_okq (⟨"java/lang/Throwable", "fillInStackTrace", "(I)Ljava/lang/Throwable;"⟩, 6) := ⟨⟨by decide +kernel, by decide +kernel⟩, List.mem_of_getElem? (i := 423) (by decide +kernel), List.mem_of_getElem? (i := 421) (by decide +kernel), List.mem_of_getElem? (i := 422) (by decide +kernel)⟩
theorem lw_p2 : lw_okq (⟨"SnowLedger$Work", "seal", "(I)V"⟩, 3) := ⟨⟨by decide +kernel, by decide +kernel⟩, List.mem_of_getElem? (i := 165) (by decide +kernel), List.mem_of_getElem? (i := 620) (by decide +kernel), List.mem_of_getElem? (i := 621) (by decide +kernel)⟩
theorem lw_p3 : lw_okq (⟨"SnowLedger$Script", "readCommand", "()Z"⟩, 9) := ⟨⟨by decide +kernel, by decide +kernel⟩, List.mem_of_getElem? (i := 203) (by decide +kernel), List.mem_of_getElem? (i := 689) (by decide +kernel), List.mem_of_getElem? (i := 690) (by decide +kernel)⟩
theorem lw_p4 : lw_okq (⟨"SnowLedger$Script", "sign", "()I"⟩, 9) := ⟨⟨by decide +kernel, by decide +kernel⟩, List.mem_of_getElem? (i := 203) (by decide +kernel), List.mem_of_getElem? (i := 693) (by decide +kernel), List.mem_of_getElem? (i := 694) (by decide +kernel)⟩
theorem lw_p5 : lw_okq (⟨"SnowLedger$Script", "readWord", "(Ljava/lang/String;)Z"⟩, 9) := ⟨⟨by decide +kernel, by decide +kernel⟩, List.mem_of_getElem? (i := 203) (by decide +kernel), List.mem_of_getElem? (i := 733) (by decide +kernel), List.mem_of_getElem? (i := 734) (by decide +kernel)⟩
theorem lw_p6 : lw_okq (⟨"SnowLedger$Script", "readSign", "(C)Z"⟩, 9) := ⟨⟨by decide +kernel, by decide +kernel⟩, List.mem_of_getElem? (i := 203) (by decide +kernel), List.mem_of_getElem? (i := 766) (by decide +kernel), List.mem_of_getElem? (i := 767) (by decide +kernel)⟩
theorem lw_p7 : lw_okq (⟨"SnowLedger$Script", "addStep", "(IIII)Z"⟩, 9) := ⟨⟨by decide +kernel, by decide +kernel⟩, List.mem_of_getElem? (i := 203) (by decide +kernel), List.mem_of_getElem? (i := 770) (by decide +kernel), List.mem_of_getElem? (i := 771) (by decide +kernel)⟩
theorem lw_p8 : lw_okq (⟨"SnowLedger$Script", "readWriting", "()Z"⟩, 9) := ⟨⟨by decide +kernel, by decide +kernel⟩, List.mem_of_getElem? (i := 203) (by decide +kernel), List.mem_of_getElem? (i := 776) (by decide +kernel), List.mem_of_getElem? (i := 777) (by decide +kernel)⟩
theorem lw_p9 : lw_okq (⟨"SnowLedger$Script", "readDigit", "()I"⟩, 9) := ⟨⟨by decide +kernel, by decide +kernel⟩, List.mem_of_getElem? (i := 203) (by decide +kernel), List.mem_of_getElem? (i := 780) (by decide +kernel), List.mem_of_getElem? (i := 781) (by decide +kernel)⟩
theorem lw_p10 : lw_okq (⟨"SnowLedger$Script", "readNumber", "()I"⟩, 9) := ⟨⟨by decide +kernel, by decide +kernel⟩, List.mem_of_getElem? (i := 203) (by decide +kernel), List.mem_of_getElem? (i := 784) (by decide +kernel), List.mem_of_getElem? (i := 785) (by decide +kernel)⟩
theorem lw_p11 : lw_okq (⟨"SnowLedger$Script", "readFollowing", "()Z"⟩, 9) := ⟨⟨by decide +kernel, by decide +kernel⟩, List.mem_of_getElem? (i := 203) (by decide +kernel), List.mem_of_getElem? (i := 789) (by decide +kernel), List.mem_of_getElem? (i := 790) (by decide +kernel)⟩
theorem lw_p12 : lw_okq (⟨"SnowLedger$Script", "readSwapping", "()Z"⟩, 9) := ⟨⟨by decide +kernel, by decide +kernel⟩, List.mem_of_getElem? (i := 203) (by decide +kernel), List.mem_of_getElem? (i := 794) (by decide +kernel), List.mem_of_getElem? (i := 795) (by decide +kernel)⟩
theorem lw_p13 : lw_okq (⟨"SnowLedger$Script", "readMeltingOrMending", "()Z"⟩, 9) := ⟨⟨by decide +kernel, by decide +kernel⟩, List.mem_of_getElem? (i := 203) (by decide +kernel), List.mem_of_getElem? (i := 799) (by decide +kernel), List.mem_of_getElem? (i := 800) (by decide +kernel)⟩
theorem lw_p14 : lw_okq (⟨"SnowLedger", "requireHill", "(I)V"⟩, 11) := ⟨⟨by decide +kernel, by decide +kernel⟩, List.mem_of_getElem? (i := 34) (by decide +kernel), List.mem_of_getElem? (i := 1210) (by decide +kernel), List.mem_of_getElem? (i := 1211) (by decide +kernel)⟩
theorem lw_p15 : lw_okq (⟨"SnowLedger", "requireWritten", "(I)I"⟩, 11) := ⟨⟨by decide +kernel, by decide +kernel⟩, List.mem_of_getElem? (i := 34) (by decide +kernel), List.mem_of_getElem? (i := 1249) (by decide +kernel), List.mem_of_getElem? (i := 1250) (by decide +kernel)⟩
def lw_privs_1 : List (MethodName × Nat) := [(⟨"SnowLedger", "admit", "(LSnowLedger$Refusal;)V"⟩, 11), (⟨"java/lang/Throwable", "fillInStackTrace", "(I)Ljava/lang/Throwable;"⟩, 6), (⟨"SnowLedger$Work", "seal", "(I)V"⟩, 3), (⟨"SnowLedger$Script", "readCommand", "()Z"⟩, 9), (⟨"SnowLedger$Script", "sign", "()I"⟩, 9), (⟨"SnowLedger$Script", "readWord", "(Ljava/lang/String;)Z"⟩, 9), (⟨"SnowLedger$Script", "readSign", "(C)Z"⟩, 9), (⟨"SnowLedger$Script", "addStep", "(IIII)Z"⟩, 9), (⟨"SnowLedger$Script", "readWriting", "()Z"⟩, 9), (⟨"SnowLedger$Script", "readDigit", "()I"⟩, 9), (⟨"SnowLedger$Script", "readNumber", "()I"⟩, 9), (⟨"SnowLedger$Script", "readFollowing", "()Z"⟩, 9), (⟨"SnowLedger$Script", "readSwapping", "()Z"⟩, 9), (⟨"SnowLedger$Script", "readMeltingOrMending", "()Z"⟩, 9), (⟨"SnowLedger", "requireHill", "(I)V"⟩, 11), (⟨"SnowLedger", "requireWritten", "(I)I"⟩, 11)]
theorem lw_r1 : ∀ q ∈ lw_privs_1, lw_okq q := List.forall_mem_cons.mpr ⟨lw_p0, List.forall_mem_cons.mpr ⟨lw_p1, List.forall_mem_cons.mpr ⟨lw_p2, List.forall_mem_cons.mpr ⟨lw_p3, List.forall_mem_cons.mpr ⟨lw_p4, List.forall_mem_cons.mpr ⟨lw_p5, List.forall_mem_cons.mpr ⟨lw_p6, List.forall_mem_cons.mpr ⟨lw_p7, List.forall_mem_cons.mpr ⟨lw_p8, List.forall_mem_cons.mpr ⟨lw_p9, List.forall_mem_cons.mpr ⟨lw_p10, List.forall_mem_cons.mpr ⟨lw_p11, List.forall_mem_cons.mpr ⟨lw_p12, List.forall_mem_cons.mpr ⟨lw_p13, List.forall_mem_cons.mpr ⟨lw_p14, List.forall_mem_cons.mpr ⟨lw_p15, fun _ h => absurd h List.not_mem_nil⟩⟩⟩⟩⟩⟩⟩⟩⟩⟩⟩⟩⟩⟩⟩⟩
theorem lw_p16 : lw_okq (⟨"SnowLedger", "requireBlock", "(I)I"⟩, 11) := ⟨⟨by decide +kernel, by decide +kernel⟩, List.mem_of_getElem? (i := 34) (by decide +kernel), List.mem_of_getElem? (i := 1258) (by decide +kernel), List.mem_of_getElem? (i := 1259) (by decide +kernel)⟩
theorem lw_p17 : lw_okq (⟨"SnowLedger$Survey", "ranksBefore", "(II)Z"⟩, 2) := ⟨⟨by decide +kernel, by decide +kernel⟩, List.mem_of_getElem? (i := 150) (by decide +kernel), List.mem_of_getElem? (i := 1291) (by decide +kernel), List.mem_of_getElem? (i := 1292) (by decide +kernel)⟩
theorem lw_p18 : lw_okq (⟨"SnowLedger$Survey", "ancestor", "(II)I"⟩, 2) := ⟨⟨by decide +kernel, by decide +kernel⟩, List.mem_of_getElem? (i := 150) (by decide +kernel), List.mem_of_getElem? (i := 1406) (by decide +kernel), List.mem_of_getElem? (i := 1407) (by decide +kernel)⟩
theorem lw_p19 : lw_okq (⟨"SnowLedger$Survey", "markFlakes", "(II)V"⟩, 2) := ⟨⟨by decide +kernel, by decide +kernel⟩, List.mem_of_getElem? (i := 150) (by decide +kernel), List.mem_of_getElem? (i := 1423) (by decide +kernel), List.mem_of_getElem? (i := 1424) (by decide +kernel)⟩
theorem lw_p20 : lw_okq (⟨"SnowLedger$Survey", "countTipsBefore", "(I)I"⟩, 2) := ⟨⟨by decide +kernel, by decide +kernel⟩, List.mem_of_getElem? (i := 150) (by decide +kernel), List.mem_of_getElem? (i := 1487) (by decide +kernel), List.mem_of_getElem? (i := 1488) (by decide +kernel)⟩
def lw_privs_2 : List (MethodName × Nat) := [(⟨"SnowLedger", "requireBlock", "(I)I"⟩, 11), (⟨"SnowLedger$Survey", "ranksBefore", "(II)Z"⟩, 2), (⟨"SnowLedger$Survey", "ancestor", "(II)I"⟩, 2), (⟨"SnowLedger$Survey", "markFlakes", "(II)V"⟩, 2), (⟨"SnowLedger$Survey", "countTipsBefore", "(I)I"⟩, 2)]
theorem lw_r2 : ∀ q ∈ lw_privs_2, lw_okq q := List.forall_mem_cons.mpr ⟨lw_p16, List.forall_mem_cons.mpr ⟨lw_p17, List.forall_mem_cons.mpr ⟨lw_p18, List.forall_mem_cons.mpr ⟨lw_p19, List.forall_mem_cons.mpr ⟨lw_p20, fun _ h => absurd h List.not_mem_nil⟩⟩⟩⟩⟩
def lw_privs : List (MethodName × Nat) := lw_privs_1 ++ (lw_privs_2)
def lw_tbl : List Cond := k2_sels lw_privs ++ tables_1
theorem lw_privs_ok : ∀ q ∈ lw_privs, lw_okq q := by
  show ∀ q ∈ lw_privs_1 ++ (lw_privs_2), lw_okq q
  exact List.forall_mem_append.mpr ⟨lw_r1, lw_r2⟩
/-- the streams that the claim lets the run draw from -/
abbrev lw_cs : List Choice := [Jvm.Choice.named "NaN.bits"]
theorem lw_bits : nanBits ∈ lw_cs := by first | decide | exact List.mem_cons_self | simp [lw_cs, nanBits]
end
section
/-! ===== BEGIN words of one list among another's, by their places ===== -/
theorem goodIn_r {big : List Cond} (ws : List Cond) (ps : List Nat) (hp : ws = ps.filterMap (fun i => big[i]?)) (h : ws.all goodWord = true) : GoodIn big ws := by
  intro w hw
  have h1 := List.all_eq_true.mp h w hw
  rw [hp] at hw
  obtain ⟨i, -, hi⟩ := List.mem_filterMap.mp hw
  have hm : w ∈ big := by first | exact List.mem_of_getElem? hi | exact List.getElem?_mem hi
  exact ⟨hm, good_of_word h1⟩
theorem goodIn_app {big a b : List Cond} (ha : GoodIn big a) (hb : GoodIn big b) : GoodIn big (a ++ b) := fun w h => (List.mem_append.mp h).elim (ha w) (hb w)
theorem goodIn_ca {big a b : List Cond} {c : Cond} (ha : GoodIn big (c :: a)) (hb : GoodIn big b) : GoodIn big (c :: (a ++ b)) := fun w h => (List.mem_cons.mp h).elim (fun e => ha w (List.mem_cons.mpr (Or.inl e))) (fun h => (List.mem_append.mp h).elim (fun h => ha w (List.mem_cons.mpr (Or.inr h))) (hb w))
theorem goodIn_sub {big ws : List Cond} (hm : ∀ w ∈ ws, w ∈ big) (h : ws.all goodWord = true) : GoodIn big ws := fun w hw => ⟨hm w hw, good_of_word (List.all_eq_true.mp h w hw)⟩
/-! ===== END ===== -/

/-! ===== BEGIN exceptions that leave a method, and their catching by the caller (launches without stack traces) ===== -/
section VXA
/-! The laws vx_back, vx_callV, vx_callS, vx_callSW, vx_throw0, vx_throwS follow proofs of the library, with one case more: JvmDerived/Free/Laws.lean (Back.of_free), Shelf42/LK1.lean (callV, callS), Shelf/KitTraced.lean (throwNew0V, throwNewS). -/
/-- where a method has thrown q: the class by its name, the cell, what was written, the world -/
def vx_T (XC : String → State → State → Prop) (st : State) (q : Addr) (t : State) (mc ms : Nat) (free : Addr → Prop) : Prop :=
  ∃ (E : String) (ce : Cell) (L : List Loc), XC E st t ∧ t.heap[q]? = some ce ∧ ce.vm = .none ∧ st.vm.findClass E = some ce.cls ∧ st.WarmedH t.vm ∧ st.sameButNew ({ t with vm := st.vm } : State) L mc ms ∧ ∀ z ∈ L, free z.base
def vx_Q (Qc : Array Value → State → Outcome → State → Prop) (XC : String → State → State → Prop) (mc ms : Nat) (free : Addr → Prop) : Array Value → State → Outcome → State → Prop := fun a st o t =>
  (Qc a st o t ∧ ∃ L, FrameEnd st o t L mc ms ∧ ∀ q ∈ L, free q.base) ∨ ∃ q, o = .threw q ∧ vx_T XC st q t mc ms free
/-- a callee that returns or throws -/
def vx_Met (l : Launch) (y : MethodName) (ws : List Cond) (rm : Room) (Pc : Array Value → State → Prop) (Qc : Array Value → State → Outcome → State → Prop) (XC : String → State → State → Prop) (mc ms : Nat) (free : Addr → Prop) : Prop :=
  MetFree l y (headSpec ws rm) Pc (fun _ _ _ _ _ => True) (vx_Q Qc XC mc ms free)
def vx_Post (XC : String → State → State → Prop) (mc ms : Nat) (free : Addr → Prop) : Pt → Array Value → Addr → Pt → Prop := fun A a q B =>
  ∃ (g : JFrame) (mk : MethodId) (t : State) (L : List Loc) (E : String) (ce : Cell), B.U.heap = t.heap ∧ B.U.vm = t.vm ∧ XC E (A.U.calling g mk a) t ∧ t.heap[q]? = some ce ∧ ce.vm = .none ∧ A.U.vm.findClass E = some ce.cls ∧ B.locs = A.locs ++ L ∧ (∀ z ∈ L, free z.base) ∧ B.cells = A.cells + mc ∧ B.slots = A.slots + ms
def vx_Back (l : Launch) (R : Room) (p : Program) (e : Env) (below : List Frame) (s : State) (sargs : Array Value) (y : MethodName) (len W9 : Nat)
    (Pre : Pt → Array Value → Prop) (Post : Pt → Array Value → Option Value → Pt → Prop) (PostX : Pt → Array Value → Addr → Pt → Prop) : Prop :=
  ∀ (m : MethodId) (meth : Method) (c : Code) (A : Pt) (g : JFrame) (ig : Instr) (mk : MethodId) (a : Array Value),
    Stand p l e R s m sargs below meth c A.U A.locs A.cells A.slots → g.method = m → g.locals.size = c.maxLocals → decode c.code g.pc = .ok (ig, len) →
    2 * g.monitorRoom + (g.stack.map fun v => v.category).sum ≤ W9 → A.U.methodNamed? y = some mk → Pre A a →
    (∃ (v : Option Value) (B : Pt), Stand p l e R s m sargs below meth c B.U B.locs B.cells B.slots ∧ Post A a v B ∧
      Steps p.tables e below (doInvoke e (A.U.setTop g) [] mk a).1 (B.U.setTop { g with pc := g.pc + len, stack := v.toList ++ g.stack })) ∨
    (∃ (q : Addr) (B : Pt), Stand p l e R s m sargs below meth c B.U B.locs B.cells B.slots ∧ PostX A a q B ∧
      Steps p.tables e below (doInvoke e (A.U.setTop g) [] mk a).1 ((B.U.setTop g).pushFrame (.throwing q)))
section Payer
variable {l : Launch} {R : Room} {p : Program} {e : Env} {below : List Frame} {s : State} {sargs : Array Value} {y : MethodName} {len W9 : Nat}
theorem vx_back {ws : List Cond} {rm : Room} {Pc : Array Value → State → Prop} {Qc : Array Value → State → Outcome → State → Prop} {XC : String → State → State → Prop} {mc ms : Nat} {free : Addr → Prop} {bytes : ByteArray} {maxL : Nat} {ret : Option FieldType}
    (hM : vx_Met l y ws rm Pc Qc XC mc ms free) (hblind : FrameBlind Pc) (hrc : rm.cells = mc) (hrs : rm.slots = ms)
    (hframes : rm.frames + 1 ≤ R.frames) (hlocals : W9 + (maxL + 11) + rm.locals ≤ R.locals)
    (hws : ∀ w ∈ ws, ∀ a' U, s.WarmedH U.vm → w.before a' U = true) (hcode : Cond.code y bytes maxL ret ∈ ws) (hinit : ∀ a' U, s.WarmedH U.vm → (Cond.initialized y.cls).before a' U = true) :
    vx_Back l R p e below s sargs y len W9 (PreOf R mc ms Pc) (PostOf Qc mc ms free) (vx_Post XC mc ms free) := by
  intro m meth c A g ig mk a X hg hsize hdg hW hn hp
  have h1 : (headSpec ws rm).pre.before a A.U = true := atoms_intro fun w hw => hws w hw _ _ X.warmed
  have h2 : (Cond.code y bytes maxL ret).before a A.U = true := hws _ hcode _ _ X.warmed
  have h3 : (Cond.initialized y.cls).before a A.U = true := hinit _ _ X.warmed
  have h4 : A.cells + (headSpec ws rm).room.cells ≤ R.cells := by rw [show (headSpec ws rm).room.cells = mc from hrc]; exact hp.1
  have h5 : A.slots + (headSpec ws rm).room.slots ≤ R.slots := by rw [show (headSpec ws rm).room.slots = ms from hrs]; exact hp.2.1
  have hPc : Pc a (A.U.calling g mk a) := hblind _ _ _ _ hp.2.2
  obtain ⟨U, Ls, c0, s0⟩ := A
  dsimp only [Pt.U, Pt.locs, Pt.cells, Pt.slots] at h1 h2 h3 h4 h5 X hn hPc ⊢
  obtain ⟨methY, cY, hmY, hcY, -, hlY, -, -, -, -⟩ := Cond.code_spec hn h2
  obtain ⟨kY, hkY, -⟩ := className_of_methodNamed hn
  have hinitY : kY.init = .initialized := Cond.initialized_spec (findClass_of_methodNamed hn) hkY h3
  have h : At U g.method c below := by rw [hg]; exact X.here
  have hlocals9 : W9 + (maxL + 11) + (headSpec ws rm).room.locals ≤ R.locals := hlocals
  have happ : (headSpec ws rm).appliesLoose y e.platform (U.calling g mk a) = true :=
    Spec.appliesLoose_calling (g := g) h hdg hn hkY hinitY
      (X.room_calling (g := g) (R' := (headSpec ws rm).room) hsize hmY hcY hframes (by rw [hlY]; omega) h4 h5) h1
  obtain ⟨mid, hmid⟩ := h.above
  have hfr : (U.setTop g).frames = (.java g :: mid) ++ below := by rw [State.frames_setTop' g h.top, hmid]; rfl
  obtain ⟨o, s₂, hsteps, -, hend, hq⟩ := Steps.callFree hM p X.admits X.cas X.clock (acts := []) hfr happ hPc trivial
  have hq' : vx_Q Qc XC mc ms free a (U.calling g mk a) o s₂ := hq
  rw [State.frames_setTop' g h.top] at hend
  obtain ⟨g₀, hg0⟩ := Option.isSome_iff_exists.mp h.top
  obtain ⟨r, hr⟩ := State.topJava?_eq_some.mp hg0
  have hr' : (({ U with heap := s₂.heap, slotsUsed := s₂.slotsUsed } : State).setVm s₂.vm).frames = .java g₀ :: r := hr
  rcases hq' with ⟨hqc, L, hfe, hL⟩ | ⟨q, rfl, E, ce, L, hx, hce, hcv, hcl, hW₂, hsm, hL⟩
  · obtain ⟨⟨v, rfl⟩, hW₂, e2, q2, q3, q4, q5, q6⟩ := id hfe
    have e3 : s₂ = ({ (U.calling g mk a).setFrames s₂.frames with heap := s₂.heap, slotsUsed := s₂.slotsUsed } : State).setVm s₂.vm := by
      have : s₂ = ({ s₂ with vm := (U.calling g mk a).vm } : State).setVm s₂.vm := rfl
      rw [e2] at this
      exact this
    obtain ⟨c₂, i₂, len₂, hc₂, hd₂, hf₂⟩ := hend
    have hW' : U.WarmedH s₂.vm := hW₂
    have hcc : c₂ = c := by
      have h1 : s₂.code? g.method = U.code? g.method := by
        rw [State.code?_eq, State.code?_eq, hW'.alike.method?]
      exact Option.some.inj (hc₂.symm.trans (h1.trans h.code))
    subst hcc
    have hlen : len₂ = len := by rw [hdg] at hd₂; cases hd₂; rfl
    subst hlen
    have hs₂ : s₂ = (({ U with heap := s₂.heap, slotsUsed := s₂.slotsUsed } : State).setVm s₂.vm).setTop { g with pc := g.pc + len₂, stack := v.toList ++ g.stack } := by
      refine e3.trans ?_
      rw [hf₂, State.calling_eq h.top, State.setFrames_setFrames, State.setTop_of_frames _ hr', hr]
      rfl
    have hsame : U.sameButNew ({ U with heap := s₂.heap, slotsUsed := s₂.slotsUsed } : State) L mc ms := by
      refine ⟨?_, q2, q3, q4, q5, q6⟩
      obtain ⟨t, ht, -⟩ := State.frames_cons hr
      show ({ U with heap := s₂.heap, slotsUsed := s₂.slotsUsed } : State) = { U.setFrames U.frames with heap := s₂.heap, slotsUsed := s₂.slotsUsed }
      rw [State.setFrames_self ht]
    subst hg
    refine Or.inl ⟨v, ⟨(({ U with heap := s₂.heap, slotsUsed := s₂.slotsUsed } : State).setVm s₂.vm), Ls ++ L, c0 + mc, s0 + ms⟩,
      ⟨X.admits, X.cas, X.clock, X.frames, X.room, X.hears, X.method, X.code, (X.here.setHeapUsed s₂.heap s₂.slotsUsed).setVm hW'.alike, X.tail, State.WarmedH.trans X.warmed hW', X.limits, X.bytes, X.same.trans (hsame.setVm s.vm)⟩,
      ⟨g, mk, s₂, L, rfl, rfl, hqc, rfl, hL, rfl, rfl⟩, ?_⟩
    show Steps p.tables e below _ ((({ U with heap := s₂.heap, slotsUsed := s₂.slotsUsed } : State).setVm s₂.vm).setTop { g with pc := g.pc + len₂, stack := v.toList ++ g.stack })
    rw [← hs₂]
    exact hsteps
  · obtain ⟨e2, q2, q3, q4, q5, q6⟩ := id hsm
    have e3 : s₂ = ({ (U.calling g mk a).setFrames s₂.frames with heap := s₂.heap, slotsUsed := s₂.slotsUsed } : State).setVm s₂.vm := by
      have : s₂ = ({ s₂ with vm := (U.calling g mk a).vm } : State).setVm s₂.vm := rfl
      rw [e2] at this
      exact this
    have hf₂ : s₂.frames = .throwing q :: .java g :: U.frames.tail := hend
    have hW' : U.WarmedH s₂.vm := hW₂
    have hs₂ : s₂ = ((({ U with heap := s₂.heap, slotsUsed := s₂.slotsUsed } : State).setVm s₂.vm).setTop g).pushFrame (.throwing q) := by
      refine e3.trans ?_
      rw [hf₂, State.calling_eq h.top, State.setFrames_setFrames, State.pushFrame, State.frames_setTop _ hr', State.setTop_of_frames _ hr', State.setFrames_setFrames, hr]
      rfl
    have hsame : U.sameButNew ({ U with heap := s₂.heap, slotsUsed := s₂.slotsUsed } : State) L mc ms := by
      refine ⟨?_, q2, q3, q4, q5, q6⟩
      obtain ⟨t, ht, -⟩ := State.frames_cons hr
      show ({ U with heap := s₂.heap, slotsUsed := s₂.slotsUsed } : State) = { U.setFrames U.frames with heap := s₂.heap, slotsUsed := s₂.slotsUsed }
      rw [State.setFrames_self ht]
    subst hg
    refine Or.inr ⟨q, ⟨(({ U with heap := s₂.heap, slotsUsed := s₂.slotsUsed } : State).setVm s₂.vm), Ls ++ L, c0 + mc, s0 + ms⟩,
      ⟨X.admits, X.cas, X.clock, X.frames, X.room, X.hears, X.method, X.code, (X.here.setHeapUsed s₂.heap s₂.slotsUsed).setVm hW'.alike, X.tail, State.WarmedH.trans X.warmed hW', X.limits, X.bytes, X.same.trans (hsame.setVm s.vm)⟩,
      ⟨g, mk, s₂, L, E, ce, rfl, rfl, hx, hce, hcv, hcl, rfl, hL, rfl, rfl⟩, ?_⟩
    show Steps p.tables e below _ (((({ U with heap := s₂.heap, slotsUsed := s₂.slotsUsed } : State).setVm s₂.vm).setTop g).pushFrame (.throwing q))
    rw [← hs₂]
    exact hsteps
end Payer
section Calls
variable {p : Program} {l : Launch} {e : Env} {R : Room} {s : State} {m : MethodId} {args : Array Value} {below : List Frame} {meth : Method} {c : Code} {T : State} {locs : List Loc} {cells slots : Nat}
theorem vx_callV (X : Stand p l e R s m args below meth c T locs cells slots) (hexec : p.tables.exec = Jvm.exec) {own C : String} {index : Nat} {y : MethodName} {bytes : ByteArray} {maxL : Nat} {ret : Option FieldType}
    (hown : s.vm.findClass own = some m.cls) (hlink : (Cond.methodLink own index y).before args s = true) (hinst : (Cond.instanceMethod y).before args s = true) (hsel : (Cond.selects C y y).before args s = true)
    (hcode : (Cond.code y bytes maxL ret).before args s = true) (hy : y.cls ≠ "java/lang/invoke/MethodHandle" ∧ y.cls ≠ "java/lang/invoke/VarHandle")
    {W9 : Nat} {Pre : Pt → Array Value → Prop} {Post : Pt → Array Value → Option Value → Pt → Prop} {PostX : Pt → Array Value → Addr → Pt → Prop} (hK : vx_Back l R p e below s args y 3 W9 Pre Post PostX)
    {b : Addr} {cellB : Cell} (hcell : T.heap[b]? = some cellB) (hobj : cellB.vm.isStatics = false) (hcls : s.vm.findClass C = some cellB.cls)
    {g : JFrame} (hg : g.method = m) (hsize : g.locals.size = c.maxLocals) {argsL rest : List Value} (hlen : ∀ sig, parseMethodDescriptor y.desc = some sig → argsL.length = sig.parameters.length)
    (hstack : g.stack = argsL.reverse ++ .ref b :: rest) (hW : 2 * g.monitorRoom + (rest.map fun v => v.category).sum ≤ W9) (hdg : decode c.code g.pc = .ok (.invokevirtual index, 3))
    (hpre : ∀ vm₁, s.WarmedH vm₁ → Pre ⟨T.setVm vm₁, locs, cells, slots⟩ (Value.ref b :: argsL).toArray) :
    (∃ (v : Option Value) (vm₁ : Vm) (B : Pt), s.WarmedH vm₁ ∧ Stand p l e R s m args below meth c B.U B.locs B.cells B.slots ∧ Post ⟨T.setVm vm₁, locs, cells, slots⟩ (Value.ref b :: argsL).toArray v B ∧
      ∀ target, Steps p.tables e below (B.U.setTop { g with pc := g.pc + 3, stack := v.toList ++ rest }) target → Steps p.tables e below (T.setTop g) target) ∨
    (∃ (q : Addr) (vm₁ : Vm) (B : Pt), s.WarmedH vm₁ ∧ Stand p l e R s m args below meth c B.U B.locs B.cells B.slots ∧ PostX ⟨T.setVm vm₁, locs, cells, slots⟩ (Value.ref b :: argsL).toArray q B ∧
      Steps p.tables e below (T.setTop g) ((B.U.setTop { g with stack := rest }).pushFrame (.throwing q))) := by
  obtain ⟨mk, methM, hnamed, hmethM, hstM, habM⟩ := Cond.instanceMethod_spec hinst
  obtain ⟨methM', cM, hmethM', -, -, -, -, -, -, hsigM⟩ := Cond.code_spec hnamed hcode
  cases hmethM.symm.trans hmethM'
  obtain ⟨c2, r2, m2, q1, q2, q3, q4, kP, hkP, hkPi⟩ := Cond.selects_spec hsel
  cases hcls.symm.trans q1
  cases (State.methodFound?_of_named hnamed hy).symm.trans q2
  cases hnamed.symm.trans q3
  have hselP : selectMethod e.platform s.vm cellB.cls mk = .method mk := by rw [Launch.admits_selectMethod X.admits]; exact q4
  obtain ⟨vm₁, X₁, hstep₁⟩ := X.invokevirtual hexec hown hlink hnamed hmethM hstM hkP hkPi hy (a := b) (cell := cellB) hcell
    (fun z h => by rw [h] at hobj; cases hobj) hselP hmethM habM hkP hkPi (g := g) hg (argsL := argsL) (rest := rest) (hlen _ hsigM) hstack hdg
  rcases hK m meth c ⟨T.setVm vm₁, locs, cells, slots⟩ { g with stack := rest } (.invokevirtual index) mk (Value.ref b :: argsL).toArray X₁ hg hsize hdg hW (X₁.named hnamed) (hpre vm₁ X₁.warmed) with ⟨v, B, X', hpost, hsteps⟩ | ⟨q, B, X', hpost, hsteps⟩
  · exact Or.inl ⟨v, vm₁, B, X₁.warmed, X', hpost, fun target h => hstep₁ _ fun acts => by rw [doInvoke_state]; exact hsteps.trans h⟩
  · exact Or.inr ⟨q, vm₁, B, X₁.warmed, X', hpost, hstep₁ _ fun acts => by rw [doInvoke_state]; exact hsteps⟩
theorem vx_callS (X : Stand p l e R s m args below meth c T locs cells slots) (hexec : p.tables.exec = Jvm.exec) {own : String} {index : Nat} {y : MethodName} {bytes : ByteArray} {maxL : Nat} {ret : Option FieldType}
    (hown : s.vm.findClass own = some m.cls) (hlink : (Cond.methodLink own index y).before args s = true) (hstat : (Cond.static y).before args s = true) (hinit : (Cond.initialized y.cls).before args s = true)
    (hcode : (Cond.code y bytes maxL ret).before args s = true) (hy : y.cls ≠ "java/lang/invoke/MethodHandle" ∧ y.cls ≠ "java/lang/invoke/VarHandle")
    {W9 : Nat} {Pre : Pt → Array Value → Prop} {Post : Pt → Array Value → Option Value → Pt → Prop} {PostX : Pt → Array Value → Addr → Pt → Prop} (hK : vx_Back l R p e below s args y 3 W9 Pre Post PostX)
    {g : JFrame} (hg : g.method = m) (hsize : g.locals.size = c.maxLocals) {argsL rest : List Value} (hlen : ∀ sig, parseMethodDescriptor y.desc = some sig → argsL.length = sig.parameters.length)
    (hstack : g.stack = argsL.reverse ++ rest) (hW : 2 * g.monitorRoom + (rest.map fun v => v.category).sum ≤ W9) (hdg : decode c.code g.pc = .ok (.invokestatic index, 3))
    (hpre : ∀ vm₁, s.WarmedH vm₁ → Pre ⟨T.setVm vm₁, locs, cells, slots⟩ argsL.toArray) :
    (∃ (v : Option Value) (vm₁ : Vm) (B : Pt), s.WarmedH vm₁ ∧ Stand p l e R s m args below meth c B.U B.locs B.cells B.slots ∧ Post ⟨T.setVm vm₁, locs, cells, slots⟩ argsL.toArray v B ∧
      ∀ target, Steps p.tables e below (B.U.setTop { g with pc := g.pc + 3, stack := v.toList ++ rest }) target → Steps p.tables e below (T.setTop g) target) ∨
    (∃ (q : Addr) (vm₁ : Vm) (B : Pt), s.WarmedH vm₁ ∧ Stand p l e R s m args below meth c B.U B.locs B.cells B.slots ∧ PostX ⟨T.setVm vm₁, locs, cells, slots⟩ argsL.toArray q B ∧
      Steps p.tables e below (T.setTop g) ((B.U.setTop { g with stack := rest }).pushFrame (.throwing q))) := by
  obtain ⟨mk, hnamed⟩ := Cond.code_named hcode
  obtain ⟨methM, cM, hmethM, -, -, -, -, -, -, hsigM⟩ := Cond.code_spec hnamed hcode
  have hstatic : methM.isStatic = true := Cond.static_spec hnamed hmethM hstat
  obtain ⟨kP, hkP, -⟩ := className_of_methodNamed hnamed
  have hinitP : kP.init = .initialized := Cond.initialized_spec (findClass_of_methodNamed hnamed) hkP hinit
  obtain ⟨vm₁, X₁, hstep₁⟩ := X.invokestatic hexec hown hlink hnamed hmethM hstatic hkP hinitP hy (g := g) hg (argsL := argsL) (rest := rest) (hlen _ hsigM) hstack hdg
  rcases hK m meth c ⟨T.setVm vm₁, locs, cells, slots⟩ { g with stack := rest } (.invokestatic index) mk argsL.toArray X₁ hg hsize hdg hW (X₁.named hnamed) (hpre vm₁ X₁.warmed) with ⟨v, B, X', hpost, hsteps⟩ | ⟨q, B, X', hpost, hsteps⟩
  · exact Or.inl ⟨v, vm₁, B, X₁.warmed, X', hpost, fun target h => hstep₁ _ fun acts => by rw [doInvoke_state]; exact hsteps.trans h⟩
  · exact Or.inr ⟨q, vm₁, B, X₁.warmed, X', hpost, hstep₁ _ fun acts => by rw [doInvoke_state]; exact hsteps⟩
end Calls
theorem vx_cls {s : State} {T : State} {vm₁ : Vm} {E : String} {k : ClassId} (hW : s.WarmedH vm₁) (h : (T.setVm vm₁).vm.findClass E = some k) : s.vm.findClass E = some k := by
  have h1 : vm₁.findClass E = some k := h
  rw [hW.alike.findClass] at h1
  exact h1
/-- the method's frame g, with q thrown over it -/
def vx_W (p : Program) (l : Launch) (e : Env) (R : Room) (s : State) (m : MethodId) (args : Array Value) (below : List Frame) (meth : Method) (c : Code) (H : Heap) (locs : List Loc) (cells slots : Nat) (Q : State → Prop) (g : JFrame) (q : Addr) : Prop :=
  ∀ T : State, T.heap = H → Stand p l e R s m args below meth c T locs cells slots → ∃ t, Steps p.tables e below ((T.setTop g).pushFrame (.throwing q)) t ∧ Q t
def vx_Run (p : Program) (l : Launch) (e : Env) (R : Room) (s : State) (m : MethodId) (args : Array Value) (below : List Frame) (meth : Method) (c : Code) (H : Heap) (locs : List Loc) (cells slots mc ms : Nat) (g : JFrame) (rest : List Value) (Qa : State → Outcome → State → Prop) (XC : String → State → State → Prop) (free : Addr → Prop) : Prop :=
  ∀ T : State, T.heap = H → Stand p l e R s m args below meth c T locs cells slots →
    (∃ (v : Option Value) (st₀ t T' : State) (L : List Loc), st₀.heap = H ∧ Stand p l e R s m args below meth c T' (locs ++ L) (cells + mc) (slots + ms) ∧ (∀ q ∈ L, free q.base) ∧ T'.heap = t.heap ∧ T'.vm = t.vm ∧ Qa st₀ (.returned v) t ∧
      Goes p e below T g T' { g with pc := g.pc + 3, stack := v.toList ++ rest }) ∨
    (∃ (q : Addr) (st₀ t T' : State) (L : List Loc) (E : String) (ce : Cell), st₀.heap = H ∧ Stand p l e R s m args below meth c T' (locs ++ L) (cells + mc) (slots + ms) ∧ (∀ z ∈ L, free z.base) ∧ T'.heap = t.heap ∧ T'.vm = t.vm ∧ XC E st₀ t ∧ t.heap[q]? = some ce ∧ ce.vm = .none ∧ s.vm.findClass E = some ce.cls ∧
      Steps p.tables e below (T.setTop g) ((T'.setTop { g with stack := rest }).pushFrame (.throwing q)))
def vx_X {S : Type} (px : S → Prop) (B : String → S → State → Prop) (A : Nat → Prop) : String → State → State → Prop := fun E st t => ∃ u : S, px u ∧ B E u t ∧ va_F A st t
section Runs
variable {p : Program} {l : Launch} {e : Env} {R : Room} {s : State} {m : MethodId} {args : Array Value} {below : List Frame} {meth : Method} {c : Code} {H : Heap} {locs : List Loc} {cells slots : Nat}
variable {y : MethodName} {bytes cc : ByteArray} {maxL nL mc ms n index : Nat} {ret : Option FieldType} {ws : List Cond} {rm : Room} {Pc : Array Value → State → Prop} {Qc : Array Value → State → Outcome → State → Prop} {XC : String → State → State → Prop} {free : Addr → Prop} {Ts : List Cond} {own C : String} {b : Addr} {As rest : List Value} {g : JFrame}
theorem vx_callBack (cb : CallB R s args own index y bytes maxL ret ws rm mc ms n) (hM : vx_Met l y ws rm Pc Qc XC mc ms free) (hbl : FrameBlind Pc) : vx_Back l R p e below s args y 3 8 (PreOf R mc ms Pc) (PostOf Qc mc ms free) (vx_Post XC mc ms free) := by
  obtain ⟨hrc, hrs, hfr, hlo, hws, hcw, -, hini, -⟩ := cb
  exact vx_back (bytes := bytes) (maxL := maxL) (ret := ret) hM hbl hrc hrs hfr hlo hws hcw (fun a' U hW => word_at hW (Or.inl (by first | rfl | simp [Cond.onTables, Cond.keeps, Cond.steady])) hini)
theorem vx_runV (S : CallFix p m c cc nL s args Ts own) (hM : vx_Met l y ws rm Pc Qc XC mc ms free) (cw : CallW R s args own C index y bytes maxL ret ws rm mc ms n) (hp : PreV s H C b Pc As)
    (hg : g.method = m) (hn : As.length = n) (hsize : g.locals.size = nL) (hstack : g.stack = As.reverse ++ .ref b :: rest) (hW : 2 * g.monitorRoom + (rest.map fun v => v.category).sum ≤ 8) (hdg : decode cc g.pc = .ok (.invokevirtual index, 3)) (hf : cells + mc ≤ R.cells ∧ slots + ms ≤ R.slots) :
    vx_Run p l e R s m args below meth c H locs cells slots mc ms g rest (Qc (Value.ref b :: As).toArray) XC free := by
  have hK : vx_Back l R p e below s args y 3 8 (PreOf R mc ms Pc) (PostOf Qc mc ms free) (vx_Post XC mc ms free) := vx_callBack cw.1 hM hp.1
  obtain ⟨⟨-, -, -, -, -, -, hcode, -, hy, hlen, hl⟩, hin, hse⟩ := cw
  obtain ⟨hx, hb, hml, ho, -⟩ := S
  obtain ⟨-, ⟨cellB, hcB, hoB, hclB⟩, hPc⟩ := hp
  intro T hT X
  rcases vx_callV X hx (C := C) (bytes := bytes) (maxL := maxL) (ret := ret) ho hl hin hse hcode hy hK (by rw [hT]; exact hcB) hoB hclB hg (hsize.trans hml.symm) (argsL := As) (rest := rest) (fun sig h => hn.trans (hlen sig h)) hstack hW (by rw [hb]; exact hdg)
    (fun vm₁ hW₁ => ⟨hf.1, hf.2, hPc (T.setVm vm₁) hT hW₁⟩) with ⟨v, vm₁, ⟨U', l2, c2, s2⟩, hW₁, X', ⟨g', mk, t, L, e1, e2, hq, h1, hL, h2, h3⟩, st⟩ | ⟨q, vm₁, ⟨U', l2, c2, s2⟩, hW₁, X', ⟨g', mk, t, L, E, ce, e1, e2, hq, hce, hcv, hcl, h1, hL, h2, h3⟩, st⟩
  · dsimp only [Pt.U, Pt.locs, Pt.cells, Pt.slots] at X' e1 e2 h1 h2 h3 st
    subst h1; subst h2; subst h3
    exact Or.inl ⟨v, (T.setVm vm₁).calling g' mk (Value.ref b :: As).toArray, t, U', L, hT, X', hL, e1, e2, hq, st⟩
  · dsimp only [Pt.U, Pt.locs, Pt.cells, Pt.slots] at X' e1 e2 h1 h2 h3 st hcl
    subst h1; subst h2; subst h3
    exact Or.inr ⟨q, (T.setVm vm₁).calling g' mk (Value.ref b :: As).toArray, t, U', L, E, ce, hT, X', hL, e1, e2, hq, hce, hcv, vx_cls hW₁ hcl, st⟩
theorem vx_runS (S : CallFix p m c cc nL s args Ts own) (hM : vx_Met l y ws rm Pc Qc XC mc ms free) (cw : CallB R s args own index y bytes maxL ret ws rm mc ms n ∧ (Cond.static y).before args s = true) (hp : PreS s H Pc As)
    (hg : g.method = m) (hn : As.length = n) (hsize : g.locals.size = nL) (hstack : g.stack = As.reverse ++ rest) (hW : 2 * g.monitorRoom + (rest.map fun v => v.category).sum ≤ 8) (hdg : decode cc g.pc = .ok (.invokestatic index, 3)) (hf : cells + mc ≤ R.cells ∧ slots + ms ≤ R.slots) :
    vx_Run p l e R s m args below meth c H locs cells slots mc ms g rest (Qc As.toArray) XC free := by
  have hK : vx_Back l R p e below s args y 3 8 (PreOf R mc ms Pc) (PostOf Qc mc ms free) (vx_Post XC mc ms free) := vx_callBack cw.1 hM hp.1
  obtain ⟨⟨-, -, -, -, -, -, hcode, hini, hy, hlen, hl⟩, hstt⟩ := cw
  obtain ⟨hx, hb, hml, ho, -⟩ := S
  intro T hT X
  rcases vx_callS X hx (bytes := bytes) (maxL := maxL) (ret := ret) ho hl hstt hini hcode hy hK hg (hsize.trans hml.symm) (argsL := As) (rest := rest) (fun sig h => hn.trans (hlen sig h)) hstack hW (by rw [hb]; exact hdg)
    (fun vm₁ hW₁ => ⟨hf.1, hf.2, hp.2 (T.setVm vm₁) hT hW₁⟩) with ⟨v, vm₁, ⟨U', l2, c2, s2⟩, hW₁, X', ⟨g', mk, t, L, e1, e2, hq, h1, hL, h2, h3⟩, st⟩ | ⟨q, vm₁, ⟨U', l2, c2, s2⟩, hW₁, X', ⟨g', mk, t, L, E, ce, e1, e2, hq, hce, hcv, hcl, h1, hL, h2, h3⟩, st⟩
  · dsimp only [Pt.U, Pt.locs, Pt.cells, Pt.slots] at X' e1 e2 h1 h2 h3 st
    subst h1; subst h2; subst h3
    exact Or.inl ⟨v, (T.setVm vm₁).calling g' mk As.toArray, t, U', L, hT, X', hL, e1, e2, hq, st⟩
  · dsimp only [Pt.U, Pt.locs, Pt.cells, Pt.slots] at X' e1 e2 h1 h2 h3 st hcl
    subst h1; subst h2; subst h3
    exact Or.inr ⟨q, (T.setVm vm₁).calling g' mk As.toArray, t, U', L, E, ce, hT, X', hL, e1, e2, hq, hce, hcv, vx_cls hW₁ hcl, st⟩
end Runs
section Rows
variable {p : Program} {l : Launch} {e : Env} {R : Room} {s : State} {m : MethodId} {args : Array Value} {below : List Frame} {meth : Method} {c : Code} {H : Heap} {locs : List Loc} {cells slots : Nat} {Q : State → Prop}
variable {mc ms : Nat} {free : Addr → Prop} {A0 A1 : Nat → Prop} {H0 : Heap} {a : Array Value} {pc : Nat} {ls : Array Slot} {st0 rest : List Value}
theorem vx_keep {st₀ t T' : State} {L : List Loc} (h0 : st₀.heap = H) (e1 : T'.heap = t.heap) (hS : va_S A0 H0 H locs) (hA : ∀ q, q < H.size → A1 q → A0 q) (hf : ∀ q, free q → A0 q) (hL : ∀ q ∈ L, free q.base) (hF : va_F A1 st₀ t) :
    H.size ≤ T'.heap.size ∧ (∀ q : Nat, q < H.size → ¬ A1 q → T'.heap[q]? = H[q]?) ∧ va_S A0 H0 T'.heap (locs ++ L) := by
  obtain ⟨hz, hk⟩ := hF
  rw [h0] at hz hk
  exact ⟨by rw [e1]; exact hz, fun q h1 h2 => by rw [e1]; exact hk q h1 h2,
    ⟨Nat.le_trans hS.1 (by rw [e1]; exact hz), fun q h1 h2 => by rw [e1, hk q (Nat.lt_of_lt_of_le h1 hS.1) (fun z => h2 (hA q (Nat.lt_of_lt_of_le h1 hS.1) z))]; exact hS.2.1 q h1 h2, fun q hq => by
      rcases List.mem_append.mp hq with h | h
      · exact hS.2.2 q h
      · exact hf _ (hL q h)⟩⟩
theorem vx_calli {S SX : Type} {post : Int32 → S → Prop} {px : SX → Prop} {B : S → State → Prop} {BX : String → SX → State → Prop} {AX : Nat → Prop} (hr : vx_Run p l e R s m args below meth c H locs cells slots mc ms (F0 m pc ls st0) rest (va_Qi post B A1 a) (vx_X px BX AX) free) (hS : va_S A0 H0 H locs) (hA : ∀ q, q < H.size → A1 q → A0 q) (hf : ∀ q, free q → A0 q) (hAX : ∀ q, q < H.size → AX q → A0 q)
    (kx : ∀ (E : String) (ce : Cell) (q9 : Addr) (u : SX) (t : State) (H1 : Heap) (locs1 : List Loc), t.heap = H1 → s.vm.Alike t.vm → px u → BX E u t → H.size ≤ H1.size → (∀ q : Nat, q < H.size → ¬ AX q → H1[q]? = H[q]?) → va_S A0 H0 H1 locs1 → H1[q9]? = some ce → ce.vm = .none → s.vm.findClass E = some ce.cls → vx_W p l e R s m args below meth c H1 locs1 (cells + mc) (slots + ms) Q (F0 m pc ls rest) q9)
    (kk : ∀ (r : Int32) (u : S) (t : State) (H1 : Heap) (locs1 : List Loc), t.heap = H1 → s.vm.Alike t.vm → post r u → B u t → H.size ≤ H1.size → (∀ q : Nat, q < H.size → ¬ A1 q → H1[q]? = H[q]?) → va_S A0 H0 H1 locs1 → W p l e R s m args below meth c H1 locs1 (cells + mc) (slots + ms) Q (F0 m (pc + 3) ls (.int r :: rest))) : W p l e R s m args below meth c H locs cells slots Q (F0 m pc ls st0) := by
  intro T hT X
  rcases hr T hT X with ⟨v, st₀, t, T', L, h0, X', hL, e1, e2, ⟨⟨r, u, hv, hp, hb⟩, hF⟩, st⟩ | ⟨q, st₀, t, T', L, E, ce, h0, X', hL, e1, e2, ⟨u, hp, hb, hF⟩, hce, hcv, hcl, st⟩
  · cases hv
    obtain ⟨k1, k2, k3⟩ := vx_keep h0 e1 hS hA hf hL hF
    obtain ⟨t2, a1, b1⟩ := kk r u t T'.heap (locs ++ L) e1.symm (by rw [← e2]; exact X'.warmed.alike) hp hb k1 k2 k3 T' rfl X'
    exact ⟨t2, st t2 a1, b1⟩
  · obtain ⟨k1, k2, k3⟩ := vx_keep h0 e1 hS hAX hf hL hF
    obtain ⟨t2, a1, b1⟩ := kx E ce q u t T'.heap (locs ++ L) e1.symm (by rw [← e2]; exact X'.warmed.alike) hp hb k1 k2 k3 (by rw [e1]; exact hce) hcv hcl T' rfl X'
    exact ⟨t2, st.trans a1, b1⟩
theorem vx_calll {S SX : Type} {post : Int64 → S → Prop} {px : SX → Prop} {B : S → State → Prop} {BX : String → SX → State → Prop} {AX : Nat → Prop} (hr : vx_Run p l e R s m args below meth c H locs cells slots mc ms (F0 m pc ls st0) rest (va_Ql post B A1 a) (vx_X px BX AX) free) (hS : va_S A0 H0 H locs) (hA : ∀ q, q < H.size → A1 q → A0 q) (hf : ∀ q, free q → A0 q) (hAX : ∀ q, q < H.size → AX q → A0 q)
    (kx : ∀ (E : String) (ce : Cell) (q9 : Addr) (u : SX) (t : State) (H1 : Heap) (locs1 : List Loc), t.heap = H1 → s.vm.Alike t.vm → px u → BX E u t → H.size ≤ H1.size → (∀ q : Nat, q < H.size → ¬ AX q → H1[q]? = H[q]?) → va_S A0 H0 H1 locs1 → H1[q9]? = some ce → ce.vm = .none → s.vm.findClass E = some ce.cls → vx_W p l e R s m args below meth c H1 locs1 (cells + mc) (slots + ms) Q (F0 m pc ls rest) q9)
    (kk : ∀ (r : Int64) (u : S) (t : State) (H1 : Heap) (locs1 : List Loc), t.heap = H1 → s.vm.Alike t.vm → post r u → B u t → H.size ≤ H1.size → (∀ q : Nat, q < H.size → ¬ A1 q → H1[q]? = H[q]?) → va_S A0 H0 H1 locs1 → W p l e R s m args below meth c H1 locs1 (cells + mc) (slots + ms) Q (F0 m (pc + 3) ls (.long r :: rest))) : W p l e R s m args below meth c H locs cells slots Q (F0 m pc ls st0) := by
  intro T hT X
  rcases hr T hT X with ⟨v, st₀, t, T', L, h0, X', hL, e1, e2, ⟨⟨r, u, hv, hp, hb⟩, hF⟩, st⟩ | ⟨q, st₀, t, T', L, E, ce, h0, X', hL, e1, e2, ⟨u, hp, hb, hF⟩, hce, hcv, hcl, st⟩
  · cases hv
    obtain ⟨k1, k2, k3⟩ := vx_keep h0 e1 hS hA hf hL hF
    obtain ⟨t2, a1, b1⟩ := kk r u t T'.heap (locs ++ L) e1.symm (by rw [← e2]; exact X'.warmed.alike) hp hb k1 k2 k3 T' rfl X'
    exact ⟨t2, st t2 a1, b1⟩
  · obtain ⟨k1, k2, k3⟩ := vx_keep h0 e1 hS hAX hf hL hF
    obtain ⟨t2, a1, b1⟩ := kx E ce q u t T'.heap (locs ++ L) e1.symm (by rw [← e2]; exact X'.warmed.alike) hp hb k1 k2 k3 (by rw [e1]; exact hce) hcv hcl T' rfl X'
    exact ⟨t2, st.trans a1, b1⟩
theorem vx_callf {S SX : Type} {post : UInt32 → S → Prop} {px : SX → Prop} {B : S → State → Prop} {BX : String → SX → State → Prop} {AX : Nat → Prop} (hr : vx_Run p l e R s m args below meth c H locs cells slots mc ms (F0 m pc ls st0) rest (va_Qf post B A1 a) (vx_X px BX AX) free) (hS : va_S A0 H0 H locs) (hA : ∀ q, q < H.size → A1 q → A0 q) (hf : ∀ q, free q → A0 q) (hAX : ∀ q, q < H.size → AX q → A0 q)
    (kx : ∀ (E : String) (ce : Cell) (q9 : Addr) (u : SX) (t : State) (H1 : Heap) (locs1 : List Loc), t.heap = H1 → s.vm.Alike t.vm → px u → BX E u t → H.size ≤ H1.size → (∀ q : Nat, q < H.size → ¬ AX q → H1[q]? = H[q]?) → va_S A0 H0 H1 locs1 → H1[q9]? = some ce → ce.vm = .none → s.vm.findClass E = some ce.cls → vx_W p l e R s m args below meth c H1 locs1 (cells + mc) (slots + ms) Q (F0 m pc ls rest) q9)
    (kk : ∀ (r : UInt32) (u : S) (t : State) (H1 : Heap) (locs1 : List Loc), t.heap = H1 → s.vm.Alike t.vm → post r u → B u t → H.size ≤ H1.size → (∀ q : Nat, q < H.size → ¬ A1 q → H1[q]? = H[q]?) → va_S A0 H0 H1 locs1 → W p l e R s m args below meth c H1 locs1 (cells + mc) (slots + ms) Q (F0 m (pc + 3) ls (.float r :: rest))) : W p l e R s m args below meth c H locs cells slots Q (F0 m pc ls st0) := by
  intro T hT X
  rcases hr T hT X with ⟨v, st₀, t, T', L, h0, X', hL, e1, e2, ⟨⟨r, u, hv, hp, hb⟩, hF⟩, st⟩ | ⟨q, st₀, t, T', L, E, ce, h0, X', hL, e1, e2, ⟨u, hp, hb, hF⟩, hce, hcv, hcl, st⟩
  · cases hv
    obtain ⟨k1, k2, k3⟩ := vx_keep h0 e1 hS hA hf hL hF
    obtain ⟨t2, a1, b1⟩ := kk r u t T'.heap (locs ++ L) e1.symm (by rw [← e2]; exact X'.warmed.alike) hp hb k1 k2 k3 T' rfl X'
    exact ⟨t2, st t2 a1, b1⟩
  · obtain ⟨k1, k2, k3⟩ := vx_keep h0 e1 hS hAX hf hL hF
    obtain ⟨t2, a1, b1⟩ := kx E ce q u t T'.heap (locs ++ L) e1.symm (by rw [← e2]; exact X'.warmed.alike) hp hb k1 k2 k3 (by rw [e1]; exact hce) hcv hcl T' rfl X'
    exact ⟨t2, st.trans a1, b1⟩
theorem vx_calld {S SX : Type} {post : UInt64 → S → Prop} {px : SX → Prop} {B : S → State → Prop} {BX : String → SX → State → Prop} {AX : Nat → Prop} (hr : vx_Run p l e R s m args below meth c H locs cells slots mc ms (F0 m pc ls st0) rest (va_Qd post B A1 a) (vx_X px BX AX) free) (hS : va_S A0 H0 H locs) (hA : ∀ q, q < H.size → A1 q → A0 q) (hf : ∀ q, free q → A0 q) (hAX : ∀ q, q < H.size → AX q → A0 q)
    (kx : ∀ (E : String) (ce : Cell) (q9 : Addr) (u : SX) (t : State) (H1 : Heap) (locs1 : List Loc), t.heap = H1 → s.vm.Alike t.vm → px u → BX E u t → H.size ≤ H1.size → (∀ q : Nat, q < H.size → ¬ AX q → H1[q]? = H[q]?) → va_S A0 H0 H1 locs1 → H1[q9]? = some ce → ce.vm = .none → s.vm.findClass E = some ce.cls → vx_W p l e R s m args below meth c H1 locs1 (cells + mc) (slots + ms) Q (F0 m pc ls rest) q9)
    (kk : ∀ (r : UInt64) (u : S) (t : State) (H1 : Heap) (locs1 : List Loc), t.heap = H1 → s.vm.Alike t.vm → post r u → B u t → H.size ≤ H1.size → (∀ q : Nat, q < H.size → ¬ A1 q → H1[q]? = H[q]?) → va_S A0 H0 H1 locs1 → W p l e R s m args below meth c H1 locs1 (cells + mc) (slots + ms) Q (F0 m (pc + 3) ls (.double r :: rest))) : W p l e R s m args below meth c H locs cells slots Q (F0 m pc ls st0) := by
  intro T hT X
  rcases hr T hT X with ⟨v, st₀, t, T', L, h0, X', hL, e1, e2, ⟨⟨r, u, hv, hp, hb⟩, hF⟩, st⟩ | ⟨q, st₀, t, T', L, E, ce, h0, X', hL, e1, e2, ⟨u, hp, hb, hF⟩, hce, hcv, hcl, st⟩
  · cases hv
    obtain ⟨k1, k2, k3⟩ := vx_keep h0 e1 hS hA hf hL hF
    obtain ⟨t2, a1, b1⟩ := kk r u t T'.heap (locs ++ L) e1.symm (by rw [← e2]; exact X'.warmed.alike) hp hb k1 k2 k3 T' rfl X'
    exact ⟨t2, st t2 a1, b1⟩
  · obtain ⟨k1, k2, k3⟩ := vx_keep h0 e1 hS hAX hf hL hF
    obtain ⟨t2, a1, b1⟩ := kx E ce q u t T'.heap (locs ++ L) e1.symm (by rw [← e2]; exact X'.warmed.alike) hp hb k1 k2 k3 (by rw [e1]; exact hce) hcv hcl T' rfl X'
    exact ⟨t2, st.trans a1, b1⟩
theorem vx_callv {S SX : Type} {post : S → Prop} {px : SX → Prop} {B : S → State → Prop} {BX : String → SX → State → Prop} {AX : Nat → Prop} (hr : vx_Run p l e R s m args below meth c H locs cells slots mc ms (F0 m pc ls st0) rest (va_Qv post B A1 a) (vx_X px BX AX) free) (hS : va_S A0 H0 H locs) (hA : ∀ q, q < H.size → A1 q → A0 q) (hf : ∀ q, free q → A0 q) (hAX : ∀ q, q < H.size → AX q → A0 q)
    (kx : ∀ (E : String) (ce : Cell) (q9 : Addr) (u : SX) (t : State) (H1 : Heap) (locs1 : List Loc), t.heap = H1 → s.vm.Alike t.vm → px u → BX E u t → H.size ≤ H1.size → (∀ q : Nat, q < H.size → ¬ AX q → H1[q]? = H[q]?) → va_S A0 H0 H1 locs1 → H1[q9]? = some ce → ce.vm = .none → s.vm.findClass E = some ce.cls → vx_W p l e R s m args below meth c H1 locs1 (cells + mc) (slots + ms) Q (F0 m pc ls rest) q9)
    (kk : ∀ (u : S) (t : State) (H1 : Heap) (locs1 : List Loc), t.heap = H1 → s.vm.Alike t.vm → post u → B u t → H.size ≤ H1.size → (∀ q : Nat, q < H.size → ¬ A1 q → H1[q]? = H[q]?) → va_S A0 H0 H1 locs1 → W p l e R s m args below meth c H1 locs1 (cells + mc) (slots + ms) Q (F0 m (pc + 3) ls (rest))) : W p l e R s m args below meth c H locs cells slots Q (F0 m pc ls st0) := by
  intro T hT X
  rcases hr T hT X with ⟨v, st₀, t, T', L, h0, X', hL, e1, e2, ⟨⟨u, hv, hp, hb⟩, hF⟩, st⟩ | ⟨q, st₀, t, T', L, E, ce, h0, X', hL, e1, e2, ⟨u, hp, hb, hF⟩, hce, hcv, hcl, st⟩
  · cases hv
    obtain ⟨k1, k2, k3⟩ := vx_keep h0 e1 hS hA hf hL hF
    obtain ⟨t2, a1, b1⟩ := kk u t T'.heap (locs ++ L) e1.symm (by rw [← e2]; exact X'.warmed.alike) hp hb k1 k2 k3 T' rfl X'
    exact ⟨t2, st t2 a1, b1⟩
  · obtain ⟨k1, k2, k3⟩ := vx_keep h0 e1 hS hAX hf hL hF
    obtain ⟨t2, a1, b1⟩ := kx E ce q u t T'.heap (locs ++ L) e1.symm (by rw [← e2]; exact X'.warmed.alike) hp hb k1 k2 k3 (by rw [e1]; exact hce) hcv hcl T' rfl X'
    exact ⟨t2, st.trans a1, b1⟩
/-- caught by the row x of this method's table; the rows ahead don't take it -/
theorem vx_catch {own name : String} {E : String} {ce : Cell} {q : Addr} (hown : s.vm.findClass own = some m.cls) (pre : List ExceptionTableEntry) (x : ExceptionTableEntry) (suf : List ExceptionTableEntry) (hsplit : c.exceptionTable.toList = pre ++ x :: suf)
    (hpass : ∀ z ∈ pre, covers z pc = false ∨ (z.catchType ≠ 0 ∧ ∃ nm : String, (Cond.classLink own z.catchType nm).before args s = true ∧ va_Nc E nm s)) (hx : covers x pc = true) (h0 : x.catchType ≠ 0)
    (hlink : (Cond.classLink own x.catchType name).before args s = true) (hcast : (Cond.castable E name).before args s = true) (hcell : H[q]? = some ce) (hv : ce.vm = .none) (hcl : s.vm.findClass E = some ce.cls)
    (kk : W p l e R s m args below meth c H locs cells slots Q (F0 m x.handlerPc ls [.ref q])) : vx_W p l e R s m args below meth c H locs cells slots Q (F0 m pc ls rest) q := by
  intro T hT X
  have hpl : e.platform.magicAccessors = ({} : Platform).magicAccessors := by rw [X.admits.platform]
  obtain ⟨c3, c4, hc3, hc4, hasg⟩ := Cond.castable_spec hcast
  cases Option.some.inj (hc3.symm.trans hcl)
  obtain ⟨c5, hc5, hcl5⟩ := Cond.classLink_spec hown hlink e.platform hpl
  cases Option.some.inj (hc4.symm.trans hc5)
  obtain ⟨vm', X', st⟩ := X.thenCaughtThrough q (g := F0 m pc ls rest) rfl (Steps.refl _) (by rw [hT]; exact hcell) (by rw [hv]; rfl) (by obtain ⟨k9, h9, -⟩ := Vm.findClass_spec hcl; exact ⟨k9, h9⟩) pre x suf hsplit
    (fun z hz => by
      rcases hpass z hz with h | ⟨hz0, nm, hl1, hn1⟩
      · exact Or.inl h
      · obtain ⟨c6, hc6, hcl6⟩ := Cond.classLink_spec hown hl1 e.platform hpl
        obtain ⟨a8, b8, h1, h2, h3⟩ := hn1
        cases Option.some.inj (h1.symm.trans hcl)
        cases Option.some.inj (h2.symm.trans hc6)
        exact Or.inr ⟨hz0, _, hcl6, h3⟩) hx (Or.inr ⟨h0, c4, hcl5, hasg⟩)
  obtain ⟨t, a1, b1⟩ := kk (T.setVm vm') hT X'
  exact ⟨t, st.trans a1, b1⟩
end Rows
section Ends
variable {p : Program} {l : Launch} {e : Env} {R : Room} {s : State} {m : MethodId} {args : Array Value} {below : List Frame} {meth : Method} {c : Code} {H : Heap} {locs : List Loc} {cells slots : Nat} {Q : State → Prop}
variable {mc ms : Nat} {free : Addr → Prop} {A0 A1 : Nat → Prop} {H0 : Heap} {a : Array Value} {ls : Array Slot} {st0 rest : List Value}
variable {Qc : Array Value → State → Outcome → State → Prop} {XC : String → State → State → Prop}
/-- what a body that may throw owes at its end -/
def vx_MQ (below : List Frame) (Qc : Array Value → State → Outcome → State → Prop) (XC : String → State → State → Prop) (a : Array Value) (s : State) (mc ms : Nat) (free : Addr → Prop) : State → Prop := fun t =>
  ∃ o, t.status = .running ∧ Ended t below o ∧ vx_Q Qc XC mc ms free a s o t
theorem vx_ret {g : JFrame} {mc ms : Nat} (k : W p l e R s m args below meth c H locs cells slots (MQ below Qc args s mc ms free) g) : W p l e R s m args below meth c H locs cells slots (vx_MQ below Qc XC args s mc ms free) g := by
  intro T hT X
  obtain ⟨t, a1, o, b1, b2, b3, b4⟩ := k T hT X
  exact ⟨t, a1, o, b1, b2, Or.inl ⟨b3, b4⟩⟩
/-- not caught here: it goes on to the caller -/
theorem vx_widen {g : JFrame} {q : Addr} {k n : Nat} (h1 : cells ≤ k) (h2 : slots ≤ n) (kk : vx_W p l e R s m args below meth c H locs k n Q g q) : vx_W p l e R s m args below meth c H locs cells slots Q g q := fun T hT X => kk T hT (stand_widen X h1 h2)
theorem vx_out {pc : Nat} {E : String} {ce : Cell} {q : Addr} {mc ms : Nat} (hout : ∀ x ∈ c.exceptionTable.toList, covers x pc = false) (hlocks : meth.locks = false) (hcell : H[q]? = some ce) (hv : ce.vm = .none) (hcl : s.vm.findClass E = some ce.cls)
    (hx : ∀ t : State, t.heap = H → s.vm.Alike t.vm → XC E s t) (hf : ∀ z ∈ locs, free z.base) (hc : cells ≤ mc) (hs : slots ≤ ms) :
    vx_W p l e R s m args below meth c H locs cells slots (vx_MQ below Qc XC args s mc ms free) (F0 m pc ls rest) q := by
  intro T hT X
  obtain ⟨st1, hrun, hend, hW, hsm⟩ := X.leaveThrown q (g := F0 m pc ls rest) rfl rfl rfl hout hlocks
  have hcell9 : (T.setFrames (.throwing q :: below)).heap[q]? = some ce := by
    show T.heap[q]? = some ce
    rw [hT]; exact hcell
  exact ⟨_, st1, .threw q, hrun, hend, Or.inr ⟨q, rfl, E, ce, locs, hx _ hT hW.alike, hcell9, hv, hcl, hW, hsm.mono hc hs, hf⟩⟩
theorem vx_frame {U : State} {k n : Nat} (h : s.sameButNew ({ U with vm := s.vm } : State) locs k n) : s.heap.size ≤ U.heap.size ∧ ∀ q : Nat, q < s.heap.size → (∀ z ∈ locs, z.base ≠ q) → U.heap[q]? = s.heap[q]? := by
  obtain ⟨-, h2, -, -, -, h6⟩ := h
  refine ⟨h2, fun q hq hz => ?_⟩
  obtain ⟨c9, e1, e2, e3, e4⟩ := h6 q _ (Array.getElem?_eq_getElem hq)
  have hs : c9.slots = (s.heap[q]).slots := Array.ext_getElem? fun i => e4 i fun hm => hz _ hm rfl
  have h9 : c9 = s.heap[q] := by
    rw [hs] at e2
    exact e2
  have e5 : U.heap[q]? = some c9 := e1
  rw [e5, h9, Array.getElem?_eq_getElem hq]
/-- the words of a throw but the four that speak of the heap -/
def vx_no (w : Cond) : Bool := decide (w ≠ .isRef (.static Bundle.tN "UNASSIGNED_STACK" Bundle.steD)) && decide (w ≠ .isRef (.static Bundle.tN "SUPPRESSED_SENTINEL" Bundle.listD)) && decide (w ≠ .laysStatic Bundle.tN "UNASSIGNED_STACK" Bundle.steD) && decide (w ≠ .laysStatic Bundle.tN "SUPPRESSED_SENTINEL" Bundle.listD)
def vx_at0 (own : String) (ic : Nat) (X : String) (names : List String) : List Cond := (Bundle.ownAtoms0 own ic X names).filter vx_no
def vx_atS (own : String) (ic : Nat) (X : String) (names : List String) : List Cond := (Bundle.ownAtoms own ic X names).filter vx_no
/-- a word that the tables alone decide, or a good one -/
def vx_ot (w : Cond) : Bool := w.onTables || goodWord w
theorem vx_ot_at {args a' : Array Value} {s U : State} {w : Cond} (hW : s.WarmedH U.vm) (hvm : s.vm = U.vm) (hg : vx_ot w = true) (h : w.before args s = true) : w.before a' U = true := by
  simp only [vx_ot, Bool.or_eq_true] at hg
  rcases hg with hg | hg
  · exact va_tabs hg hvm h
  · exact word_at hW (good_of_word hg) h
/-- a list's words: the good ones out of the method's own list, the others by premises of their own -/
theorem vx_hat {args : Array Value} {s : State} {L B : List Cond} (h1 : ∀ w ∈ L.filter goodWord, w.before args s = true) (h2 : ∀ w ∈ L.filter (fun w => !goodWord w), w ∈ B) (h3 : ∀ w ∈ B, w.before args s = true) : ∀ w ∈ L, w.before args s = true := by
  intro w hw
  by_cases g : goodWord w = true
  · exact h1 w (List.mem_filter.mpr ⟨hw, g⟩)
  · refine h3 w (h2 w (List.mem_filter.mpr ⟨hw, ?_⟩))
    show (!goodWord w) = true
    cases hgw : goodWord w
    · rfl
    · exact absurd hgw g
theorem vx_c {args : Array Value} {s : State} {w : Cond} {B : List Cond} (h : w.before args s = true) (t : ∀ w ∈ B, w.before args s = true) : ∀ w' ∈ w :: B, w'.before args s = true := fun w' h' => (List.mem_cons.mp h').elim (fun e => by rw [e]; exact h) (t w')
theorem vx_n {args : Array Value} {s : State} : ∀ w ∈ ([] : List Cond), w.before args s = true := fun _ h => nomatch h
theorem vx_own {args : Array Value} {s : State} {L : List Cond} (h1 : ∀ w ∈ L.filter vx_no, w.before args s = true)
    (hU : (Cond.isRef (.static Bundle.tN "UNASSIGNED_STACK" Bundle.steD)).before args s = true) (hN : (Cond.isRef (.static Bundle.tN "SUPPRESSED_SENTINEL" Bundle.listD)).before args s = true)
    (lU : (Cond.laysStatic Bundle.tN "UNASSIGNED_STACK" Bundle.steD).before args s = true) (lN : (Cond.laysStatic Bundle.tN "SUPPRESSED_SENTINEL" Bundle.listD).before args s = true) : ∀ w ∈ L, w.before args s = true := by
  intro w hw
  by_cases e1 : w = .isRef (.static Bundle.tN "UNASSIGNED_STACK" Bundle.steD)
  · rw [e1]; exact hU
  · by_cases e2 : w = .isRef (.static Bundle.tN "SUPPRESSED_SENTINEL" Bundle.listD)
    · rw [e2]; exact hN
    · by_cases e3 : w = .laysStatic Bundle.tN "UNASSIGNED_STACK" Bundle.steD
      · rw [e3]; exact lU
      · by_cases e4 : w = .laysStatic Bundle.tN "SUPPRESSED_SENTINEL" Bundle.listD
        · rw [e4]; exact lN
        · exact h1 w (List.mem_filter.mpr ⟨hw, by unfold vx_no; rw [decide_eq_true e1, decide_eq_true e2, decide_eq_true e3, decide_eq_true e4]; rfl⟩)
/-- where a static field lies, its class's statics cell in H -/
def vx_L (C n d : String) (A : Nat → Prop) (U : State) (H : Heap) : Prop := ∃ (c : ClassId) (k : Class) (i : Nat) (f : Field) (a : Nat) (cell : Cell), U.vm.findClass C = some c ∧ U.fieldFound? C n d = some (c, k, i, f) ∧ f.isStatic = true ∧ k.statics = some a ∧ H[a]? = some cell ∧ cell.vm.isStatics = true ∧ cell.cls = c ∧ f.slot < cell.slots.size ∧ k.staticTypes[f.slot]? = some f.type ∧ ¬ A a
theorem vx_L.moved {C n d : String} {A : Nat → Prop} {u U : State} {H : Heap} (hvm : u.vm.Alike U.vm) (h : vx_L C n d A u H) : vx_L C n d A U H := by
  obtain ⟨c, k, i, f, a, cell, h1, h2, h3, h4, h5, h6, h7, h8, h9, h10⟩ := h
  obtain ⟨k', hi', he⟩ := State.fieldFound?_setVm hvm h2
  exact ⟨c, k', i, f, a, cell, by rw [hvm.findClass]; exact h1, hi', h3, by rw [he]; exact h4, h5, h6, h7, h8, by rw [he]; exact h9, h10⟩
theorem vx_L.kept {C n d : String} {A : Nat → Prop} {U : State} {H H1 : Heap} (h : vx_L C n d A U H) (hq : ∀ a : Nat, a < H.size → ¬ A a → H1[a]? = H[a]?) : vx_L C n d A U H1 := by
  obtain ⟨c, k, i, f, a, cell, h1, h2, h3, h4, h5, h6, h7, h8, h9, h10⟩ := h
  exact ⟨c, k, i, f, a, cell, h1, h2, h3, h4, by rw [hq a (Array.getElem?_eq_some_iff.mp h5).1 h10]; exact h5, h6, h7, h8, h9, h10⟩
theorem vx_L.narrow {C n d : String} {A B : Nat → Prop} {U : State} {H : Heap} (h : vx_L C n d A U H) (hAB : ∀ q, B q → A q) : vx_L C n d B U H := by
  obtain ⟨c, k, i, f, a, cell, h1, h2, h3, h4, h5, h6, h7, h8, h9, h10⟩ := h
  exact ⟨c, k, i, f, a, cell, h1, h2, h3, h4, h5, h6, h7, h8, h9, fun z => h10 (hAB _ z)⟩
theorem vx_L.word {C n d : String} {A : Nat → Prop} {s : State} {args : Array Value} (h : vx_L C n d A s s.heap) : (Cond.laysStatic C n d).before args s = true := by
  obtain ⟨c, k, i, f, a, cell, h1, h2, h3, h4, h5, h6, h7, h8, h9, -⟩ := h
  show (Cond.laysStatic C n d).holds args s none s [] = true
  exact Cond.laysStatic_of h1 h2 h3 h4 h5 h6 h7 h8 h9
/-- .. and what it holds: null or some reference -/
def vx_Zq (C n d : String) (A : Nat → Prop) (U : State) (H : Heap) : Prop := va_Zq C n d A U H ∧ vx_L C n d A U H
theorem vx_Zq.moved {C n d : String} {A : Nat → Prop} {u U : State} {H : Heap} (hvm : u.vm.Alike U.vm) (h : vx_Zq C n d A u H) : vx_Zq C n d A U H := ⟨va_Zq.moved hvm h.1, vx_L.moved hvm h.2⟩
theorem vx_Zq.kept {C n d : String} {A : Nat → Prop} {U : State} {H H1 : Heap} (h : vx_Zq C n d A U H) (hq : ∀ a : Nat, a < H.size → ¬ A a → H1[a]? = H[a]?) : vx_Zq C n d A U H1 := ⟨va_Zq.kept h.1 hq, vx_L.kept h.2 hq⟩
theorem vx_Zq.narrow {C n d : String} {A B : Nat → Prop} {U : State} {H : Heap} (h : vx_Zq C n d A U H) (hAB : ∀ q, B q → A q) : vx_Zq C n d B U H := ⟨va_Zq.narrow h.1 hAB, vx_L.narrow h.2 hAB⟩
theorem vx_Zqof {args : Array Value} {s : State} {C n d : String} {A : Nat → Prop} (hl : (Cond.laysStatic C n d).before args s = true) (hini : (Cond.initialized C).before args s = true) (h : (Cond.isRef (.static C n d)).before args s = true) (hA : ∀ a : Nat, a < s.heap.size → ¬ A a) : vx_Zq C n d A s s.heap := by
  refine ⟨va_Zqof hl hini h hA, ?_⟩
  obtain ⟨c, k, i, f, a, cell, h1, h2, h3, h4, h5, h6, h7, h8, h9⟩ := Cond.laysStatic_spec hl
  exact ⟨c, k, i, f, a, cell, h1, h2, h3, h4, h5, h6, h7, h8, h9, hA a (Array.getElem?_eq_some_iff.mp h5).1⟩
theorem vx_isRef {C n d : String} {v : Value} {A : Nat → Prop} {s : State} {args : Array Value} (h : va_Z C n d v A s s.heap) (hv : v.isRef = true) : (Cond.isRef (.static C n d)).before args s = true := by
  obtain ⟨cf, kf, fi, f, a, cell, h1, h2, h3, h4, h5, h6, h7, -⟩ := h
  have he : (Term.static C n d).eval args s none [] s = some v := by
    simp [Term.eval, State.fieldNamed?, h1, h2, h4, h5, h6, h7]
  simp only [Cond.before, Cond.holds, Cond.value, he]
  cases v <;> simp_all [Value.isRef]
theorem vx_isRefq {C n d : String} {A : Nat → Prop} {s : State} {args : Array Value} (h : va_Zq C n d A s s.heap) : (Cond.isRef (.static C n d)).before args s = true := by
  rcases h with h | ⟨t, h⟩
  · exact vx_isRef h rfl
  · exact vx_isRef h rfl
/-- the same frame, seen from here: as if the method were called anew in this heap -/
theorem vx_rebase {T : State} (X : Stand p l e R s m args below meth c T locs cells slots) {R' : Room} (hf : R'.frames ≤ R.frames) (hl : R'.locals ≤ R.locals) (hc : cells + R'.cells ≤ R.cells) (hs : slots + R'.slots ≤ R.slots) :
    Stand p l e R' ((T.setVm s.vm).setFrames (.invoking m args :: below)) m args below meth c T [] 0 0 := by
  have htop : (T.setVm s.vm).topJava?.isSome := X.here.top
  have hF : ((T.setVm s.vm).setFrames (.invoking m args :: below)).frames = .invoking m args :: below := State.frames_setFrames _ (State.cur_lt_of_top htop)
  obtain ⟨g₀, hg0⟩ := Option.isSome_iff_exists.mp htop
  obtain ⟨r, hr⟩ := State.topJava?_eq_some.mp hg0
  have hl9 : e.platform.stackLimits (T.setVm s.vm).me = e.platform.stackLimits s.me := X.limits
  have hb9 : (T.setVm s.vm).me.stackBytes = s.me.stackBytes := X.bytes
  refine ⟨X.admits, X.cas, X.clock, hF, ?_, X.hears, X.method, X.code, X.here, X.tail, X.warmed, ?_, ?_, ?_⟩
  · have h := X.room
    have hU : ((T.setVm s.vm).setFrames (.invoking m args :: below)).localsInUse = s.localsInUse := by
      rw [State.localsInUse_invoking hF (meth := meth) (c := c) X.method X.code, State.localsInUse_invoking X.frames X.method X.code]
    simp only [State.hasRoom, Bool.and_eq_true, decide_eq_true_eq] at h ⊢
    obtain ⟨⟨⟨⟨h1, h2, h3, h4, h5, h6⟩, h7⟩, h8⟩, h9⟩ := h
    rw [X.frames, List.length_cons] at h2 h3
    have q1 := X.heapSize
    have q2 := X.used
    simp only [hF, hU, List.length_cons, State.stackLimits_setFrames, State.stackBytes_setFrames, hl9, hb9]
    refine ⟨⟨⟨⟨by omega, by omega, by omega, by omega, by omega, h6⟩, ?_⟩, ?_⟩, X.book⟩
    · show T.heap.size + R'.cells ≤ e.platform.maxCells
      omega
    · show T.slotsUsed + R'.slots ≤ e.platform.maxSlots
      omega
  · rw [State.stackLimits_setFrames]; rfl
  · rw [State.stackBytes_setFrames]; rfl
  · refine ⟨?_, Nat.le_refl _, Nat.le_refl _, ?_, ?_, fun a c9 h9 => ⟨c9, h9, rfl, rfl, fun _ _ => rfl⟩⟩
    · obtain ⟨t, ht, -⟩ := State.frames_cons hr
      show T.setVm s.vm = { ((T.setVm s.vm).setFrames (.invoking m args :: below)).setFrames (T.setVm s.vm).frames with heap := T.heap, slotsUsed := T.slotsUsed }
      rw [State.setFrames_setFrames, State.setFrames_self ht]
      rfl
    · show T.slotsUsed = T.slotsUsed + ((T.heap.toList.drop T.heap.size).map (·.slots.size)).sum
      rw [List.drop_eq_nil_of_le (Nat.le_of_eq Array.length_toList)]
      rfl
    · show ((T.heap.toList.drop T.heap.size).map (·.slots.size)).sum ≤ 0
      rw [List.drop_eq_nil_of_le (Nat.le_of_eq Array.length_toList)]
      exact Nat.le_refl _
/-- 'throw new E()': new; dup; invokespecial; athrow -/
theorem vx_throw0 {cc : ByteArray} {pc : Nat} (hexec : p.tables.exec = Jvm.exec) (hb : c.code = cc) (hl : l.stackTraces = false) {own cls : String} {names : List String} {ik ic mc ms : Nat} {A : Nat → Prop}
    (hown : s.vm.findClass own = some m.cls) (hcls : Bundle.fit cls = true) (hnames : ∀ n ∈ names, Bundle.fit n = true)
    (hk : (Cond.classLink own ik cls).before args s = true) (hini : (Cond.initialized cls).before args s = true) (hat : ∀ w ∈ vx_at0 own ic cls names, w.before args s = true)
    (hgood : ∀ w ∈ Cond.classLink own ik cls :: Cond.initialized cls :: vx_at0 own ic cls names, vx_ot w = true)
    (hU : vx_Zq Bundle.tN "UNASSIGNED_STACK" Bundle.steD A s s.heap) (hN : vx_Zq Bundle.tN "SUPPRESSED_SENTINEL" Bundle.listD A s s.heap) (hS : va_S A s.heap H locs) (hsize : ls.size = c.maxLocals)
    (d0 : decode cc pc = .ok (.new ik, 3)) (d3 : decode cc (pc + 3) = .ok (.dup, 1)) (d4 : decode cc (pc + 4) = .ok (.invokespecial ic, 3)) (d7 : decode cc (pc + 7) = .ok (.athrow, 1))
    (hout : ∀ x ∈ c.exceptionTable.toList, covers x (pc + 7) = false)
    (hRframes : names.length + 3 < R.frames) (hRlocals : (rest.map fun v => v.category).sum + (13 * (names.length + 1) + 42) ≤ R.locals) (hRcells : cells + 1 ≤ R.cells) (hRslots : slots + 6 ≤ R.slots) (hlocks : meth.locks = false)
    (hx : ∀ t : State, s.vm.Alike t.vm → H.size ≤ t.heap.size → (∀ q : Nat, q < H.size → t.heap[q]? = H[q]?) → XC cls s t)
    (hf : ∀ z ∈ locs, free z.base) (hc : cells + 1 ≤ mc) (hs : slots + 6 ≤ ms) :
    W p l e R s m args below meth c H locs cells slots (vx_MQ below Qc XC args s mc ms free) (F0 m pc ls rest) := by
  intro T hT X
  have htr : e.platform.stackTraces = false := (show e.platform.stackTraces = l.stackTraces by rw [X.admits.platform]).trans hl
  have Y := vx_rebase X (R' := { frames := R.frames, locals := R.locals, cells := 1, slots := 6 }) (Nat.le_refl _) (Nat.le_refl _) hRcells hRslots
  obtain ⟨s', hA⟩ : ∃ z, z = (T.setVm s.vm).setFrames (.invoking m args :: below) := ⟨_, rfl⟩
  rw [← hA] at Y
  have hvm : s'.vm = s.vm := by rw [hA]; rfl
  have hhp : s'.heap = H := by rw [hA]; exact hT
  have hW0 : s.WarmedH s'.vm := by rw [hvm]; exact State.WarmedH.refl s
  have hat' : ∀ w ∈ vx_at0 own ic cls names, w.before args s' = true := fun w hw => vx_ot_at hW0 hvm.symm (hgood w (List.mem_cons_of_mem _ (List.mem_cons_of_mem _ hw))) (hat w hw)
  have hk' : (Cond.classLink own ik cls).before args s' = true := vx_ot_at hW0 hvm.symm (hgood _ List.mem_cons_self) hk
  have hini' : (Cond.initialized cls).before args s' = true := vx_ot_at hW0 hvm.symm (hgood _ (List.mem_cons_of_mem _ List.mem_cons_self)) hini
  have hU' : vx_Zq Bundle.tN "UNASSIGNED_STACK" Bundle.steD A s' s'.heap := by rw [hhp]; exact vx_Zq.moved hW0.alike (hU.kept hS.2.1)
  have hN' : vx_Zq Bundle.tN "SUPPRESSED_SENTINEL" Bundle.listD A s' s'.heap := by rw [hhp]; exact vx_Zq.moved hW0.alike (hN.kept hS.2.1)
  have h : ∀ w ∈ Bundle.ownAtoms0 own ic cls names, w.before args s' = true := vx_own hat' (vx_isRefq hU'.1) (vx_isRefq hN'.1) hU'.2.word hN'.2.word
  have hown' : s'.vm.findClass own = some m.cls := by rw [hvm]; exact hown
  have hins : (Cond.instantiable cls 6).before args s' = true := h _ (by simp [Bundle.ownAtoms0])
  obtain ⟨vm₁, cX, kX, hfX, hkX, -, -, X₁, st1⟩ := Y.newCold hexec (own := own) (C := cls) (index := ik) (n := 6) hown' hk' hins hini'
    (g := F0 m pc ls rest) rfl (by rw [hb]; exact d0) (Nat.le_refl _) (Nat.le_refl _)
  generalize hT1 : (T.setVm vm₁).pushCell { cls := cX, slots := kX.instanceTypes.map defaultValue, vm := .none } = T1 at X₁ st1
  have hcat : (Value.ref T.heap.size).category = 1 := rfl
  have hcellA : T1.heap[T.heap.size]? = some (freshCell cX kX) := by rw [← hT1]; exact State.heap_pushCell_size _ _
  have d3' : decode c.code (pc + 3) = .ok (.dup, 1) := by rw [hb]; exact d3
  obtain ⟨U, hsteps, hrun, hend, hW, hsame, ce, hce, hO⟩ := X₁.ctorThrow0 hexec htr (own := own) (cls := cls) (names := names) (ic := ic) hown' hcls hnames h (fun x hx => nomatch hx) hfX hkX hcellA (by rw [hhp, hT]; exact Nat.le_refl _)
    (g := { method := m, pc := pc + 4, locals := ls, stack := .ref T.heap.size :: .ref T.heap.size :: rest, locked := none }) rfl hsize rfl rfl (rest := rest) rfl
    (by rw [hb]; exact d4) (by rw [hb]; exact d7) hout hRframes (by simp only [List.map_cons, List.sum_cons, hcat]; omega) hlocks
  obtain ⟨f1, f2⟩ := vx_frame hsame
  rw [hhp] at f1 f2
  have hWs : s.WarmedH U.vm := State.WarmedH.trans hW0 hW
  have hcl : s.vm.findClass cls = some ce.cls := by
    have h9 := hO.cls
    rw [hvm] at h9
    exact h9
  have hall : s.sameButNew ({ U with vm := s.vm } : State) locs mc ms := by
    subst hA
    obtain ⟨e1, e2⟩ := hsame
    rw [State.setFrames_setFrames] at e1
    have h2 : (T.setVm s.vm).sameButNew ({ U with vm := s.vm } : State) [] (0 + 1) (0 + 6) := ⟨e1, e2⟩
    have h3 := X.same.trans h2
    rw [List.append_nil] at h3
    exact h3.mono hc hs
  refine ⟨U, ?_, .threw T.heap.size, hrun, hend, Or.inr ⟨T.heap.size, rfl, cls, ce, locs, hx U hWs.alike f1 (fun q hq => f2 q hq (fun z hz => nomatch hz)), hce, hO.vm, hcl, hWs, hall, hf⟩⟩
  refine st1 _ ?_
  show Steps p.tables e below (T1.setTop { method := m, pc := pc + 3, locals := ls, stack := .ref T.heap.size :: rest, locked := none }) _
  jvm_step X₁.here [X₁.here.top, hexec, d3', Value.category]
  exact hsteps
/-- 'throw new E("text")': new; dup; ldc; invokespecial; athrow -/
theorem vx_throwS {cc : ByteArray} {pc : Nat} (hexec : p.tables.exec = Jvm.exec) (hb : c.code = cc) (hl : l.stackTraces = false) {own cls text : String} {names : List String} {ik is ic mc ms sa : Nat} {A : Nat → Prop}
    (hown : s.vm.findClass own = some m.cls) (hcls : Bundle.fit cls = true) (hnames : ∀ n ∈ names, Bundle.fit n = true)
    (hk : (Cond.classLink own ik cls).before args s = true) (hini : (Cond.initialized cls).before args s = true) (hstr : vk_R own is text sa s) (hat : ∀ w ∈ vx_atS own ic cls names, w.before args s = true)
    (hgood : ∀ w ∈ Cond.classLink own ik cls :: Cond.initialized cls :: vx_atS own ic cls names, vx_ot w = true)
    (hU : vx_Zq Bundle.tN "UNASSIGNED_STACK" Bundle.steD A s s.heap) (hN : vx_Zq Bundle.tN "SUPPRESSED_SENTINEL" Bundle.listD A s s.heap) (hS : va_S A s.heap H locs) (hsize : ls.size = c.maxLocals)
    (d0 : decode cc pc = .ok (.new ik, 3)) (d3 : decode cc (pc + 3) = .ok (.dup, 1)) (d4 : decode cc (pc + 4) = .ok (.ldc is, 2)) (d6 : decode cc (pc + 6) = .ok (.invokespecial ic, 3)) (d9 : decode cc (pc + 9) = .ok (.athrow, 1))
    (hout : ∀ x ∈ c.exceptionTable.toList, covers x (pc + 9) = false)
    (hRframes : names.length + 3 < R.frames) (hRlocals : (rest.map fun v => v.category).sum + (13 * (names.length + 1) + 43) ≤ R.locals) (hRcells : cells + 1 ≤ R.cells) (hRslots : slots + 6 ≤ R.slots) (hlocks : meth.locks = false)
    (hx : ∀ t : State, s.vm.Alike t.vm → H.size ≤ t.heap.size → (∀ q : Nat, q < H.size → t.heap[q]? = H[q]?) → XC cls s t)
    (hf : ∀ z ∈ locs, free z.base) (hc : cells + 1 ≤ mc) (hs : slots + 6 ≤ ms) :
    W p l e R s m args below meth c H locs cells slots (vx_MQ below Qc XC args s mc ms free) (F0 m pc ls rest) := by
  intro T hT X
  have htr : e.platform.stackTraces = false := (show e.platform.stackTraces = l.stackTraces by rw [X.admits.platform]).trans hl
  have Y := vx_rebase X (R' := { frames := R.frames, locals := R.locals, cells := 1, slots := 6 }) (Nat.le_refl _) (Nat.le_refl _) hRcells hRslots
  obtain ⟨s', hA⟩ : ∃ z, z = (T.setVm s.vm).setFrames (.invoking m args :: below) := ⟨_, rfl⟩
  rw [← hA] at Y
  have hvm : s'.vm = s.vm := by rw [hA]; rfl
  have hhp : s'.heap = H := by rw [hA]; exact hT
  have hW0 : s.WarmedH s'.vm := by rw [hvm]; exact State.WarmedH.refl s
  have hat' : ∀ w ∈ vx_atS own ic cls names, w.before args s' = true := fun w hw => vx_ot_at hW0 hvm.symm (hgood w (List.mem_cons_of_mem _ (List.mem_cons_of_mem _ hw))) (hat w hw)
  have hk' : (Cond.classLink own ik cls).before args s' = true := vx_ot_at hW0 hvm.symm (hgood _ List.mem_cons_self) hk
  have hini' : (Cond.initialized cls).before args s' = true := vx_ot_at hW0 hvm.symm (hgood _ (List.mem_cons_of_mem _ List.mem_cons_self)) hini
  have hU' : vx_Zq Bundle.tN "UNASSIGNED_STACK" Bundle.steD A s' s'.heap := by rw [hhp]; exact vx_Zq.moved hW0.alike (hU.kept hS.2.1)
  have hN' : vx_Zq Bundle.tN "SUPPRESSED_SENTINEL" Bundle.listD A s' s'.heap := by rw [hhp]; exact vx_Zq.moved hW0.alike (hN.kept hS.2.1)
  have h : ∀ w ∈ Bundle.ownAtoms own ic cls names, w.before args s' = true := vx_own hat' (vx_isRefq hU'.1) (vx_isRefq hN'.1) hU'.2.word hN'.2.word
  have hown' : s'.vm.findClass own = some m.cls := by rw [hvm]; exact hown
  have hins : (Cond.instantiable cls 6).before args s' = true := h _ (by simp [Bundle.ownAtoms])
  obtain ⟨vm₁, cX, kX, hfX, hkX, -, -, X₁, st1⟩ := Y.newCold hexec (own := own) (C := cls) (index := ik) (n := 6) hown' hk' hins hini'
    (g := F0 m pc ls rest) rfl (by rw [hb]; exact d0) (Nat.le_refl _) (Nat.le_refl _)
  generalize hT1 : (T.setVm vm₁).pushCell { cls := cX, slots := kX.instanceTypes.map defaultValue, vm := .none } = T1 at X₁ st1
  have hcat : (Value.ref T.heap.size).category = 1 := rfl
  have hcellA : T1.heap[T.heap.size]? = some (freshCell cX kX) := by rw [← hT1]; exact State.heap_pushCell_size _ _
  have d3' : decode c.code (pc + 3) = .ok (.dup, 1) := by rw [hb]; exact d3
  have d4' : decode c.code (pc + 4) = .ok (.ldc is, 2) := by rw [hb]; exact d4
  have hstr' : vk_R own is text sa s' := vk_R.warm hW0 hstr
  obtain ⟨U, hsteps, hrun, hend, hW, hsame, ce, hce, hO⟩ := X₁.ctorThrowS hexec htr (own := own) (cls := cls) (names := names) (ic := ic) hown' hcls hnames h (fun x hx => nomatch hx) hfX hkX hcellA (by rw [hhp, hT]; exact Nat.le_refl _) (msg := .ref sa) rfl
    (g := { method := m, pc := pc + 6, locals := ls, stack := .ref sa :: .ref T.heap.size :: .ref T.heap.size :: rest, locked := none }) rfl hsize rfl rfl (rest := rest) rfl
    (by rw [hb]; exact d6) (by rw [hb]; exact d9) hout hRframes (by simp only [List.map_cons, List.sum_cons, hcat]; omega) hlocks
  obtain ⟨f1, f2⟩ := vx_frame hsame
  rw [hhp] at f1 f2
  have hWs : s.WarmedH U.vm := State.WarmedH.trans hW0 hW
  have hcl : s.vm.findClass cls = some ce.cls := by
    have h9 := hO.cls
    rw [hvm] at h9
    exact h9
  have hall : s.sameButNew ({ U with vm := s.vm } : State) locs mc ms := by
    subst hA
    obtain ⟨e1, e2⟩ := hsame
    rw [State.setFrames_setFrames] at e1
    have h2 : (T.setVm s.vm).sameButNew ({ U with vm := s.vm } : State) [] (0 + 1) (0 + 6) := ⟨e1, e2⟩
    have h3 := X.same.trans h2
    rw [List.append_nil] at h3
    exact h3.mono hc hs
  refine ⟨U, ?_, .threw T.heap.size, hrun, hend, Or.inr ⟨T.heap.size, rfl, cls, ce, locs, hx U hWs.alike f1 (fun q hq => f2 q hq (fun z hz => nomatch hz)), hce, hO.vm, hcl, hWs, hall, hf⟩⟩
  refine st1 _ ?_
  show Steps p.tables e below (T1.setTop { method := m, pc := pc + 3, locals := ls, stack := .ref T.heap.size :: rest, locked := none }) _
  jvm_step X₁.here [X₁.here.top, hexec, d3', Value.category]
  exact X₁.ldcString hexec (own := own) (text := text) (index := is) (a := sa) hown' hstr'.1 hstr'.2
    (g := { method := m, pc := pc + 4, locals := ls, stack := .ref T.heap.size :: .ref T.heap.size :: rest, locked := none }) rfl d4' _ hsteps
/-- 'throw new E("text")', the text by a wide index -/
theorem vx_throwSW {cc : ByteArray} {pc : Nat} (hexec : p.tables.exec = Jvm.exec) (hb : c.code = cc) (hl : l.stackTraces = false) {own cls text : String} {names : List String} {ik is ic mc ms sa : Nat} {A : Nat → Prop}
    (hown : s.vm.findClass own = some m.cls) (hcls : Bundle.fit cls = true) (hnames : ∀ n ∈ names, Bundle.fit n = true)
    (hk : (Cond.classLink own ik cls).before args s = true) (hini : (Cond.initialized cls).before args s = true) (hstr : vk_R own is text sa s) (hat : ∀ w ∈ vx_atS own ic cls names, w.before args s = true)
    (hgood : ∀ w ∈ Cond.classLink own ik cls :: Cond.initialized cls :: vx_atS own ic cls names, vx_ot w = true)
    (hU : vx_Zq Bundle.tN "UNASSIGNED_STACK" Bundle.steD A s s.heap) (hN : vx_Zq Bundle.tN "SUPPRESSED_SENTINEL" Bundle.listD A s s.heap) (hS : va_S A s.heap H locs) (hsize : ls.size = c.maxLocals)
    (d0 : decode cc pc = .ok (.new ik, 3)) (d3 : decode cc (pc + 3) = .ok (.dup, 1)) (d4 : decode cc (pc + 4) = .ok (.ldc_w is, 3)) (d7 : decode cc (pc + 7) = .ok (.invokespecial ic, 3)) (d10 : decode cc (pc + 10) = .ok (.athrow, 1))
    (hout : ∀ x ∈ c.exceptionTable.toList, covers x (pc + 10) = false)
    (hRframes : names.length + 3 < R.frames) (hRlocals : (rest.map fun v => v.category).sum + (13 * (names.length + 1) + 43) ≤ R.locals) (hRcells : cells + 1 ≤ R.cells) (hRslots : slots + 6 ≤ R.slots) (hlocks : meth.locks = false)
    (hx : ∀ t : State, s.vm.Alike t.vm → H.size ≤ t.heap.size → (∀ q : Nat, q < H.size → t.heap[q]? = H[q]?) → XC cls s t)
    (hf : ∀ z ∈ locs, free z.base) (hc : cells + 1 ≤ mc) (hs : slots + 6 ≤ ms) :
    W p l e R s m args below meth c H locs cells slots (vx_MQ below Qc XC args s mc ms free) (F0 m pc ls rest) := by
  intro T hT X
  have htr : e.platform.stackTraces = false := (show e.platform.stackTraces = l.stackTraces by rw [X.admits.platform]).trans hl
  have Y := vx_rebase X (R' := { frames := R.frames, locals := R.locals, cells := 1, slots := 6 }) (Nat.le_refl _) (Nat.le_refl _) hRcells hRslots
  obtain ⟨s', hA⟩ : ∃ z, z = (T.setVm s.vm).setFrames (.invoking m args :: below) := ⟨_, rfl⟩
  rw [← hA] at Y
  have hvm : s'.vm = s.vm := by rw [hA]; rfl
  have hhp : s'.heap = H := by rw [hA]; exact hT
  have hW0 : s.WarmedH s'.vm := by rw [hvm]; exact State.WarmedH.refl s
  have hat' : ∀ w ∈ vx_atS own ic cls names, w.before args s' = true := fun w hw => vx_ot_at hW0 hvm.symm (hgood w (List.mem_cons_of_mem _ (List.mem_cons_of_mem _ hw))) (hat w hw)
  have hk' : (Cond.classLink own ik cls).before args s' = true := vx_ot_at hW0 hvm.symm (hgood _ List.mem_cons_self) hk
  have hini' : (Cond.initialized cls).before args s' = true := vx_ot_at hW0 hvm.symm (hgood _ (List.mem_cons_of_mem _ List.mem_cons_self)) hini
  have hU' : vx_Zq Bundle.tN "UNASSIGNED_STACK" Bundle.steD A s' s'.heap := by rw [hhp]; exact vx_Zq.moved hW0.alike (hU.kept hS.2.1)
  have hN' : vx_Zq Bundle.tN "SUPPRESSED_SENTINEL" Bundle.listD A s' s'.heap := by rw [hhp]; exact vx_Zq.moved hW0.alike (hN.kept hS.2.1)
  have h : ∀ w ∈ Bundle.ownAtoms own ic cls names, w.before args s' = true := vx_own hat' (vx_isRefq hU'.1) (vx_isRefq hN'.1) hU'.2.word hN'.2.word
  have hown' : s'.vm.findClass own = some m.cls := by rw [hvm]; exact hown
  have hins : (Cond.instantiable cls 6).before args s' = true := h _ (by simp [Bundle.ownAtoms])
  obtain ⟨vm₁, cX, kX, hfX, hkX, -, -, X₁, st1⟩ := Y.newCold hexec (own := own) (C := cls) (index := ik) (n := 6) hown' hk' hins hini'
    (g := F0 m pc ls rest) rfl (by rw [hb]; exact d0) (Nat.le_refl _) (Nat.le_refl _)
  generalize hT1 : (T.setVm vm₁).pushCell { cls := cX, slots := kX.instanceTypes.map defaultValue, vm := .none } = T1 at X₁ st1
  have hcat : (Value.ref T.heap.size).category = 1 := rfl
  have hcellA : T1.heap[T.heap.size]? = some (freshCell cX kX) := by rw [← hT1]; exact State.heap_pushCell_size _ _
  have d3' : decode c.code (pc + 3) = .ok (.dup, 1) := by rw [hb]; exact d3
  have d4' : decode c.code (pc + 4) = .ok (.ldc_w is, 3) := by rw [hb]; exact d4
  have hstr' : vk_R own is text sa s' := vk_R.warm hW0 hstr
  obtain ⟨U, hsteps, hrun, hend, hW, hsame, ce, hce, hO⟩ := X₁.ctorThrowS hexec htr (own := own) (cls := cls) (names := names) (ic := ic) hown' hcls hnames h (fun x hx => nomatch hx) hfX hkX hcellA (by rw [hhp, hT]; exact Nat.le_refl _) (msg := .ref sa) rfl
    (g := { method := m, pc := pc + 7, locals := ls, stack := .ref sa :: .ref T.heap.size :: .ref T.heap.size :: rest, locked := none }) rfl hsize rfl rfl (rest := rest) rfl
    (by rw [hb]; exact d7) (by rw [hb]; exact d10) hout hRframes (by simp only [List.map_cons, List.sum_cons, hcat]; omega) hlocks
  obtain ⟨f1, f2⟩ := vx_frame hsame
  rw [hhp] at f1 f2
  have hWs : s.WarmedH U.vm := State.WarmedH.trans hW0 hW
  have hcl : s.vm.findClass cls = some ce.cls := by
    have h9 := hO.cls
    rw [hvm] at h9
    exact h9
  have hall : s.sameButNew ({ U with vm := s.vm } : State) locs mc ms := by
    subst hA
    obtain ⟨e1, e2⟩ := hsame
    rw [State.setFrames_setFrames] at e1
    have h2 : (T.setVm s.vm).sameButNew ({ U with vm := s.vm } : State) [] (0 + 1) (0 + 6) := ⟨e1, e2⟩
    have h3 := X.same.trans h2
    rw [List.append_nil] at h3
    exact h3.mono hc hs
  refine ⟨U, ?_, .threw T.heap.size, hrun, hend, Or.inr ⟨T.heap.size, rfl, cls, ce, locs, hx U hWs.alike f1 (fun q hq => f2 q hq (fun z hz => nomatch hz)), hce, hO.vm, hcl, hWs, hall, hf⟩⟩
  refine st1 _ ?_
  show Steps p.tables e below (T1.setTop { method := m, pc := pc + 3, locals := ls, stack := .ref T.heap.size :: rest, locked := none }) _
  jvm_step X₁.here [X₁.here.top, hexec, d3', Value.category]
  exact X₁.ldcStringW hexec (own := own) (text := text) (index := is) (a := sa) hown' hstr'.1 hstr'.2
    (g := { method := m, pc := pc + 4, locals := ls, stack := .ref T.heap.size :: .ref T.heap.size :: rest, locked := none }) rfl d4' _ hsteps
end Ends
section Bodies
variable {l : Launch}
theorem vx_ofW {y : MethodName} {ws ws' : List Cond} {rm : Room} {Pc : Array Value → State → Prop} {Qc : Array Value → State → Outcome → State → Prop} {XC : String → State → State → Prop} {mc ms : Nat} {free : Addr → Prop} {cc : ByteArray} {maxL : Nat} {ret : Option FieldType}
    (hy : plainName y.cls = true) (hw : ws = Cond.code y cc maxL ret :: ws')
    (body : ∀ p e s m args below meth c s₁, BodyLoose p l y (headSpec ws rm) cc maxL ret e s m args below meth c s₁ → c.maxLocals = maxL → (∀ x ∈ c.exceptionTable.toList, False) → Pc args s →
      W p l e (headSpec ws rm).room s m args below meth c s.heap [] 0 0 (vx_MQ below Qc XC args s mc ms free) (entryFrame m args maxL)) : vx_Met l y ws rm Pc Qc XC mc ms free := by
  refine MetFree.of_bodyS (code := cc) (maxLocals := maxL) (ret := ret) hy ?_ ?_
  · intro args s m h hn
    obtain ⟨meth, c, h1, h2, h3, h4, h5, h6, -, -⟩ := Cond.code_spec hn (atoms_spec (ws := ws) h _ (by rw [hw]; exact List.mem_cons_self))
    exact ⟨meth, c, h1, h2, h3, h4, h5, h6⟩
  · intro p e s m args below meth c s₁ B hml hP _
    have hh0 : s₁.heap = s.heap := by rw [B.state]; rfl
    have ht : ∀ x ∈ c.exceptionTable.toList, False := by
      obtain ⟨meth9, c9, h1, h2, -, -, -, -, h7, -⟩ := Cond.code_spec B.named (atoms_spec (ws := ws) B.pre _ (by rw [hw]; exact List.mem_cons_self))
      cases Option.some.inj (h1.symm.trans B.method)
      cases Option.some.inj (h2.symm.trans (Stand.of_body B).code)
      intro x hx
      rw [Array.isEmpty_iff.mp h7] at hx
      cases hx
    obtain ⟨t, a1, o, b1, b2, b3⟩ := body p e s m args below meth c s₁ B hml ht hP s₁ hh0 (Stand.of_body B)
    exact ⟨t, o, a1, b1, b2, b3⟩
/-- the table of a body with handlers -/
theorem vx_table {p : Program} {x y : MethodName} {S : Spec} {cc bytes : ByteArray} {maxL maxL' : Nat} {ret ret' : Option FieldType} {e : Env} {s s₁ : State} {m : MethodId} {args : Array Value} {below : List Frame} {meth : Method} {c : Code} {hh : List (Nat × Nat × Nat × Nat)}
    (B : BodyLoose p l y S cc maxL ret e s m args below meth c s₁) (h : (Cond.codeWith y bytes maxL' ret' hh).before args s = true) : c.exceptionTable.toList = tableOf hh := by
  obtain ⟨m9, meth9, c9, hn9, h1, h2, -, -, h6, -⟩ := Cond.codeWith_spec h
  cases Option.some.inj (hn9.symm.trans B.named)
  cases Option.some.inj (h1.symm.trans B.method)
  cases Option.some.inj (h2.symm.trans (Stand.of_body B).code)
  rw [← h6, table_eq]
end Bodies
end VXA
/-! ===== END ===== -/
/-! ===== BEGIN a static call of a method with an exception table ===== -/
section VXS
variable {p : Program} {l : Launch} {e : Env} {R : Room} {s : State} {m : MethodId} {args : Array Value} {below : List Frame} {meth : Method} {c : Code} {T : State} {H : Heap} {locs : List Loc} {cells slots : Nat}
abbrev vx_CSW (R : Room) (s : State) (args : Array Value) (own : String) (index : Nat) (y : MethodName) (bytes : ByteArray) (maxL : Nat) (ret : Option FieldType) (hh : List (Nat × Nat × Nat × Nat)) (ws : List Cond) (rm : Room) (mc ms n : Nat) : Prop :=
  (rm.cells = mc ∧ rm.slots = ms ∧ rm.frames + 1 ≤ R.frames ∧ 8 + (maxL + 11) + rm.locals ≤ R.locals ∧ (∀ w ∈ ws, ∀ (a' : Array Value) (U : State), s.WarmedH U.vm → w.before a' U = true) ∧ Cond.codeWith y bytes maxL ret hh ∈ ws) ∧
  (Cond.codeWith y bytes maxL ret hh).before args s = true ∧ (Cond.initialized y.cls).before args s = true ∧ (y.cls ≠ "java/lang/invoke/MethodHandle" ∧ y.cls ≠ "java/lang/invoke/VarHandle") ∧
  (∀ sig, parseMethodDescriptor y.desc = some sig → n = sig.parameters.length) ∧ (Cond.methodLink own index y).before args s = true ∧ (Cond.static y).before args s = true
theorem vx_cwSW {own : String} {index maxL mc ms : Nat} {y : MethodName} {bytes : ByteArray} {ret : Option FieldType} {hh : List (Nat × Nat × Nat × Nat)} {Ts ws ws' : List Cond} {rm : Room} (n : Nat) (ht : ∀ w ∈ Ts, w.before args s = true) (hT : GoodIn Ts (va_wsS own index y ws)) (hw : ws = Cond.codeWith y bytes maxL ret hh :: ws') (hrc : rm.cells = mc) (hrs : rm.slots = ms)
    (hd : y.cls ≠ "java/lang/invoke/MethodHandle" ∧ y.cls ≠ "java/lang/invoke/VarHandle" ∧ (parseMethodDescriptor y.desc).map (fun d => d.parameters.length) = some n) (hR : rm.frames + 1 ≤ R.frames ∧ 8 + (maxL + 11) + rm.locals ≤ R.locals) :
    vx_CSW R s args own index y bytes maxL ret hh ws rm mc ms n := by
  have ok : ∀ w ∈ va_wsS own index y ws, w.before args s = true := fun w h => ht w (hT w h).1
  have hG : GoodIn Ts ws := fun w h => hT w (by unfold va_wsS; exact List.mem_append_right _ h)
  have hc : Cond.codeWith y bytes maxL ret hh ∈ ws := by rw [hw]; exact List.mem_cons_self
  refine ⟨⟨hrc, hrs, hR.1, hR.2, pay_in ht hG, hc⟩, ht _ (hG _ hc).1, ok _ (by simp [va_wsS]), ⟨hd.1, hd.2.1⟩, fun sig h => ?_, ok _ (by simp [va_wsS]), ok _ (by simp [va_wsS])⟩
  have h2 := hd.2.2
  rw [h] at h2
  exact (Option.some.inj h2).symm
theorem vx_callSW (X : Stand p l e R s m args below meth c T locs cells slots) (hexec : p.tables.exec = Jvm.exec) {own : String} {index : Nat} {y : MethodName} {bytes : ByteArray} {maxL : Nat} {ret : Option FieldType} {hh : List (Nat × Nat × Nat × Nat)}
    (hown : s.vm.findClass own = some m.cls) (hlink : (Cond.methodLink own index y).before args s = true) (hstat : (Cond.static y).before args s = true) (hinit : (Cond.initialized y.cls).before args s = true)
    (hcode : (Cond.codeWith y bytes maxL ret hh).before args s = true) (hy : y.cls ≠ "java/lang/invoke/MethodHandle" ∧ y.cls ≠ "java/lang/invoke/VarHandle")
    {W9 : Nat} {Pre : Pt → Array Value → Prop} {Post : Pt → Array Value → Option Value → Pt → Prop} (hK : Back l R p e below s args y 3 W9 Pre Post)
    {g : JFrame} (hg : g.method = m) (hsize : g.locals.size = c.maxLocals) {argsL rest : List Value} (hlen : ∀ sig, parseMethodDescriptor y.desc = some sig → argsL.length = sig.parameters.length)
    (hstack : g.stack = argsL.reverse ++ rest) (hW : 2 * g.monitorRoom + (rest.map fun v => v.category).sum ≤ W9) (hdg : decode c.code g.pc = .ok (.invokestatic index, 3))
    (hpre : ∀ vm₁, s.WarmedH vm₁ → Pre ⟨T.setVm vm₁, locs, cells, slots⟩ argsL.toArray) :
    ∃ (v : Option Value) (vm₁ : Vm) (B : Pt), s.WarmedH vm₁ ∧ Stand p l e R s m args below meth c B.U B.locs B.cells B.slots ∧ Post ⟨T.setVm vm₁, locs, cells, slots⟩ argsL.toArray v B ∧
      ∀ target, Steps p.tables e below (B.U.setTop { g with pc := g.pc + 3, stack := v.toList ++ rest }) target → Steps p.tables e below (T.setTop g) target := by
  obtain ⟨mk, methM, cM, hnamed, hmethM, -, -, -, -, -, -, hsigM⟩ := Cond.codeWith_spec hcode
  have hstatic : methM.isStatic = true := Cond.static_spec hnamed hmethM hstat
  obtain ⟨kP, hkP, -⟩ := className_of_methodNamed hnamed
  have hinitP : kP.init = .initialized := Cond.initialized_spec (findClass_of_methodNamed hnamed) hkP hinit
  obtain ⟨vm₁, X₁, hstep₁⟩ := X.invokestatic hexec hown hlink hnamed hmethM hstatic hkP hinitP hy (g := g) hg (argsL := argsL) (rest := rest) (hlen _ hsigM) hstack hdg
  obtain ⟨v, B, X', hpost, hsteps⟩ := hK m meth c ⟨T.setVm vm₁, locs, cells, slots⟩ { g with stack := rest } (.invokestatic index) mk argsL.toArray X₁ hg hsize hdg hW (X₁.named hnamed) (hpre vm₁ X₁.warmed)
  exact ⟨v, vm₁, B, X₁.warmed, X', hpost, fun target h => hstep₁ _ fun acts => by rw [doInvoke_state]; exact hsteps.trans h⟩
theorem vx_runSW {y : MethodName} {bytes cc : ByteArray} {maxL nL mc ms n index : Nat} {ret : Option FieldType} {hh : List (Nat × Nat × Nat × Nat)} {ws : List Cond} {rm : Room} {Pc : Array Value → State → Prop} {Qc : Array Value → State → Outcome → State → Prop} {free : Addr → Prop} {Ts : List Cond} {own : String} {As rest : List Value} {g : JFrame}
    (S : CallFix p m c cc nL s args Ts own) (hM : Met l y ws rm Pc Qc mc ms free) (cw : vx_CSW R s args own index y bytes maxL ret hh ws rm mc ms n) (hp : PreS s H Pc As)
    (hg : g.method = m) (hn : As.length = n) (hsize : g.locals.size = nL) (hstack : g.stack = As.reverse ++ rest) (hW : 2 * g.monitorRoom + (rest.map fun v => v.category).sum ≤ 8) (hdg : decode cc g.pc = .ok (.invokestatic index, 3)) (hf : cells + mc ≤ R.cells ∧ slots + ms ≤ R.slots) :
    va_Run p l e R s m args below meth c H locs cells slots mc ms g rest (Qc As.toArray) (free) := by
  obtain ⟨⟨hrc, hrs, hfr, hlo, hws, hcw⟩, hcode, hini, hy, hlen, hl, hstt⟩ := cw
  have hK : Back l R p e below s args y 3 8 (PreOf R mc ms Pc) (PostOf Qc mc ms free) := va_backW (hh := hh) (bytes := bytes) (maxL := maxL) (ret := ret) hM hp.1 hrc hrs hfr hlo hws hcw (fun a' U hW => word_at hW (Or.inl (by first | rfl | simp [Cond.onTables, Cond.keeps, Cond.steady])) hini)
  obtain ⟨hx, hb, hml, ho, -⟩ := S
  intro T hT X
  obtain ⟨v, vm₁, ⟨U', l2, c2, s2⟩, hW₁, X', ⟨g', mk, t, L, e1, e2, hq, h1, hL, h2, h3⟩, st⟩ := vx_callSW X hx (hh := hh) (bytes := bytes) (maxL := maxL) (ret := ret) ho hl hstt hini hcode hy hK hg (hsize.trans hml.symm) (argsL := As) (rest := rest) (fun sig h => hn.trans (hlen sig h)) hstack hW (by rw [hb]; exact hdg)
    (fun vm₁ hW₁ => ⟨hf.1, hf.2, hp.2 (T.setVm vm₁) hT hW₁⟩)
  dsimp only [Pt.U, Pt.locs, Pt.cells, Pt.slots] at X' e1 e2 h1 h2 h3 st
  subst h1; subst h2; subst h3
  exact ⟨v, (T.setVm vm₁).calling g' mk As.toArray, t, U', L, hT, X', hL, e1, e2, hq, st⟩
/-- not caught here, past rows that name other classes: it goes on to the caller -/
theorem vx_outP {p : Program} {l : Launch} {e : Env} {R : Room} {s : State} {m : MethodId} {args : Array Value} {below : List Frame} {meth : Method} {c : Code} {H : Heap} {locs : List Loc} {cells slots : Nat} {free : Addr → Prop} {ls : Array Slot} {rest : List Value} {Qc : Array Value → State → Outcome → State → Prop} {XC : String → State → State → Prop}
    {pc : Nat} {own E : String} {ce : Cell} {q : Addr} {mc ms : Nat} (hown : s.vm.findClass own = some m.cls) (hlocks : meth.locks = false)
    (hpass : ∀ z ∈ c.exceptionTable.toList, covers z pc = false ∨ (z.catchType ≠ 0 ∧ ∃ nm : String, (Cond.classLink own z.catchType nm).before args s = true ∧ va_Nc E nm s)) (hcell : H[q]? = some ce) (hv : ce.vm = .none) (hcl : s.vm.findClass E = some ce.cls)
    (hx : ∀ t : State, t.heap = H → s.vm.Alike t.vm → XC E s t) (hf : ∀ z ∈ locs, free z.base) (hc : cells ≤ mc) (hs : slots ≤ ms) :
    vx_W p l e R s m args below meth c H locs cells slots (vx_MQ below Qc XC args s mc ms free) (F0 m pc ls rest) q := by
  intro T hT X
  have hpl : e.platform.magicAccessors = ({} : Platform).magicAccessors := by rw [X.admits.platform]
  obtain ⟨vm', hW', X', st⟩ := X.outThrough hlocks q (g := F0 m pc ls rest) rfl rfl rfl (cell := ce) (by rw [hT]; exact hcell) (by rw [hv]; rfl)
    (by obtain ⟨k9, h9, -⟩ := Vm.findClass_spec hcl; exact ⟨k9, h9⟩) (fun z hz => by
      rcases hpass z hz with h | ⟨hz0, nm, hl1, hn1⟩
      · exact Or.inl h
      · obtain ⟨c6, hc6, hcl6⟩ := Cond.classLink_spec hown hl1 e.platform hpl
        obtain ⟨a8, b8, h1, h2, h3⟩ := hn1
        cases Option.some.inj (h1.symm.trans hcl)
        cases Option.some.inj (h2.symm.trans hc6)
        exact Or.inr ⟨hz0, _, hcl6, h3⟩)
  obtain ⟨g₀, hfr⟩ := X'.frames_eq
  have hcell9 : ((T.setVm vm').setFrames (.throwing q :: below)).heap[q]? = some ce := by
    show T.heap[q]? = some ce
    rw [hT]; exact hcell
  have hend : Ended ((T.setVm vm').setFrames (.throwing q :: below)) below (.threw q) := State.frames_setFrames _ (State.cur_lt_of_frames hfr)
  refine ⟨(T.setVm vm').setFrames (.throwing q :: below), ?_, .threw q, X'.here.running, hend, Or.inr ⟨q, rfl, E, ce, locs, hx _ hT (X'.ends _).1.alike, hcell9, hv, hcl, (X'.ends _).1, (X'.ends _).2.mono hc hs, hf⟩⟩
  rw [X.pushThrowing_eq]
  exact st
/-- a thing of a world lies in the heap -/
theorem vx_lt {D : va_G} {cl : List vw_C} {ws : va_W} {H1 : Heap} (h : va_P D cl ws H1) {k : Nat} {q : Nat × va_E} (hk : ws[k]? = some q) : q.1 < H1.size := (h k q hk).lt
end VXS
/-! ===== END ===== -/
/-! ===== BEGIN methods with a table of their own: called by a name, returning or throwing ===== -/
section VXH
/-! vx_backW, vx_callVX, vx_callSX, vx_callVW, vx_runVW, vx_runVX, vx_runSX, vx_ofWH follow the same proofs as their sisters above (Free/Laws.lean, Shelf42/LK1.lean); vx_outP calls Shelf42/NT130.lean (outThrough). -/
section
variable {l : Launch} {R : Room} {p : Program} {e : Env} {below : List Frame} {s : State} {sargs : Array Value} {y : MethodName} {len W9 : Nat}
theorem vx_backW {ws : List Cond} {rm : Room} {Pc : Array Value → State → Prop} {Qc : Array Value → State → Outcome → State → Prop} {XC : String → State → State → Prop} {mc ms : Nat} {free : Addr → Prop} {bytes : ByteArray} {maxL : Nat} {ret : Option FieldType} {hh : List (Nat × Nat × Nat × Nat)}
    (hM : vx_Met l y ws rm Pc Qc XC mc ms free) (hblind : FrameBlind Pc) (hrc : rm.cells = mc) (hrs : rm.slots = ms)
    (hframes : rm.frames + 1 ≤ R.frames) (hlocals : W9 + (maxL + 11) + rm.locals ≤ R.locals)
    (hws : ∀ w ∈ ws, ∀ a' U, s.WarmedH U.vm → w.before a' U = true) (hcode : Cond.codeWith y bytes maxL ret hh ∈ ws) (hinit : ∀ a' U, s.WarmedH U.vm → (Cond.initialized y.cls).before a' U = true) :
    vx_Back l R p e below s sargs y len W9 (PreOf R mc ms Pc) (PostOf Qc mc ms free) (vx_Post XC mc ms free) := by
  intro m meth c A g ig mk a X hg hsize hdg hW hn hp
  have h1 : (headSpec ws rm).pre.before a A.U = true := atoms_intro fun w hw => hws w hw _ _ X.warmed
  have h2 : (Cond.codeWith y bytes maxL ret hh).before a A.U = true := hws _ hcode _ _ X.warmed
  have h3 : (Cond.initialized y.cls).before a A.U = true := hinit _ _ X.warmed
  have h4 : A.cells + (headSpec ws rm).room.cells ≤ R.cells := by rw [show (headSpec ws rm).room.cells = mc from hrc]; exact hp.1
  have h5 : A.slots + (headSpec ws rm).room.slots ≤ R.slots := by rw [show (headSpec ws rm).room.slots = ms from hrs]; exact hp.2.1
  have hPc : Pc a (A.U.calling g mk a) := hblind _ _ _ _ hp.2.2
  obtain ⟨U, Ls, c0, s0⟩ := A
  dsimp only [Pt.U, Pt.locs, Pt.cells, Pt.slots] at h1 h2 h3 h4 h5 X hn hPc ⊢
  obtain ⟨m9, methY, cY, hn9, hmY, hcY, -, hlY, -⟩ := Cond.codeWith_spec h2
  cases Option.some.inj (hn9.symm.trans hn)
  obtain ⟨kY, hkY, -⟩ := className_of_methodNamed hn
  have hinitY : kY.init = .initialized := Cond.initialized_spec (findClass_of_methodNamed hn) hkY h3
  have h : At U g.method c below := by rw [hg]; exact X.here
  have hlocals9 : W9 + (maxL + 11) + (headSpec ws rm).room.locals ≤ R.locals := hlocals
  have happ : (headSpec ws rm).appliesLoose y e.platform (U.calling g mk a) = true :=
    Spec.appliesLoose_calling (g := g) h hdg hn hkY hinitY
      (X.room_calling (g := g) (R' := (headSpec ws rm).room) hsize hmY hcY hframes (by rw [hlY]; omega) h4 h5) h1
  obtain ⟨mid, hmid⟩ := h.above
  have hfr : (U.setTop g).frames = (.java g :: mid) ++ below := by rw [State.frames_setTop' g h.top, hmid]; rfl
  obtain ⟨o, s₂, hsteps, -, hend, hq⟩ := Steps.callFree hM p X.admits X.cas X.clock (acts := []) hfr happ hPc trivial
  have hq' : vx_Q Qc XC mc ms free a (U.calling g mk a) o s₂ := hq
  rw [State.frames_setTop' g h.top] at hend
  obtain ⟨g₀, hg0⟩ := Option.isSome_iff_exists.mp h.top
  obtain ⟨r, hr⟩ := State.topJava?_eq_some.mp hg0
  have hr' : (({ U with heap := s₂.heap, slotsUsed := s₂.slotsUsed } : State).setVm s₂.vm).frames = .java g₀ :: r := hr
  rcases hq' with ⟨hqc, L, hfe, hL⟩ | ⟨q, rfl, E, ce, L, hx, hce, hcv, hcl, hW₂, hsm, hL⟩
  · obtain ⟨⟨v, rfl⟩, hW₂, e2, q2, q3, q4, q5, q6⟩ := id hfe
    have e3 : s₂ = ({ (U.calling g mk a).setFrames s₂.frames with heap := s₂.heap, slotsUsed := s₂.slotsUsed } : State).setVm s₂.vm := by
      have : s₂ = ({ s₂ with vm := (U.calling g mk a).vm } : State).setVm s₂.vm := rfl
      rw [e2] at this
      exact this
    obtain ⟨c₂, i₂, len₂, hc₂, hd₂, hf₂⟩ := hend
    have hW' : U.WarmedH s₂.vm := hW₂
    have hcc : c₂ = c := by
      have h1 : s₂.code? g.method = U.code? g.method := by
        rw [State.code?_eq, State.code?_eq, hW'.alike.method?]
      exact Option.some.inj (hc₂.symm.trans (h1.trans h.code))
    subst hcc
    have hlen : len₂ = len := by rw [hdg] at hd₂; cases hd₂; rfl
    subst hlen
    have hs₂ : s₂ = (({ U with heap := s₂.heap, slotsUsed := s₂.slotsUsed } : State).setVm s₂.vm).setTop { g with pc := g.pc + len₂, stack := v.toList ++ g.stack } := by
      refine e3.trans ?_
      rw [hf₂, State.calling_eq h.top, State.setFrames_setFrames, State.setTop_of_frames _ hr', hr]
      rfl
    have hsame : U.sameButNew ({ U with heap := s₂.heap, slotsUsed := s₂.slotsUsed } : State) L mc ms := by
      refine ⟨?_, q2, q3, q4, q5, q6⟩
      obtain ⟨t, ht, -⟩ := State.frames_cons hr
      show ({ U with heap := s₂.heap, slotsUsed := s₂.slotsUsed } : State) = { U.setFrames U.frames with heap := s₂.heap, slotsUsed := s₂.slotsUsed }
      rw [State.setFrames_self ht]
    subst hg
    refine Or.inl ⟨v, ⟨(({ U with heap := s₂.heap, slotsUsed := s₂.slotsUsed } : State).setVm s₂.vm), Ls ++ L, c0 + mc, s0 + ms⟩,
      ⟨X.admits, X.cas, X.clock, X.frames, X.room, X.hears, X.method, X.code, (X.here.setHeapUsed s₂.heap s₂.slotsUsed).setVm hW'.alike, X.tail, State.WarmedH.trans X.warmed hW', X.limits, X.bytes, X.same.trans (hsame.setVm s.vm)⟩,
      ⟨g, mk, s₂, L, rfl, rfl, hqc, rfl, hL, rfl, rfl⟩, ?_⟩
    show Steps p.tables e below _ ((({ U with heap := s₂.heap, slotsUsed := s₂.slotsUsed } : State).setVm s₂.vm).setTop { g with pc := g.pc + len₂, stack := v.toList ++ g.stack })
    rw [← hs₂]
    exact hsteps
  · obtain ⟨e2, q2, q3, q4, q5, q6⟩ := id hsm
    have e3 : s₂ = ({ (U.calling g mk a).setFrames s₂.frames with heap := s₂.heap, slotsUsed := s₂.slotsUsed } : State).setVm s₂.vm := by
      have : s₂ = ({ s₂ with vm := (U.calling g mk a).vm } : State).setVm s₂.vm := rfl
      rw [e2] at this
      exact this
    have hf₂ : s₂.frames = .throwing q :: .java g :: U.frames.tail := hend
    have hW' : U.WarmedH s₂.vm := hW₂
    have hs₂ : s₂ = ((({ U with heap := s₂.heap, slotsUsed := s₂.slotsUsed } : State).setVm s₂.vm).setTop g).pushFrame (.throwing q) := by
      refine e3.trans ?_
      rw [hf₂, State.calling_eq h.top, State.setFrames_setFrames, State.pushFrame, State.frames_setTop _ hr', State.setTop_of_frames _ hr', State.setFrames_setFrames, hr]
      rfl
    have hsame : U.sameButNew ({ U with heap := s₂.heap, slotsUsed := s₂.slotsUsed } : State) L mc ms := by
      refine ⟨?_, q2, q3, q4, q5, q6⟩
      obtain ⟨t, ht, -⟩ := State.frames_cons hr
      show ({ U with heap := s₂.heap, slotsUsed := s₂.slotsUsed } : State) = { U.setFrames U.frames with heap := s₂.heap, slotsUsed := s₂.slotsUsed }
      rw [State.setFrames_self ht]
    subst hg
    refine Or.inr ⟨q, ⟨(({ U with heap := s₂.heap, slotsUsed := s₂.slotsUsed } : State).setVm s₂.vm), Ls ++ L, c0 + mc, s0 + ms⟩,
      ⟨X.admits, X.cas, X.clock, X.frames, X.room, X.hears, X.method, X.code, (X.here.setHeapUsed s₂.heap s₂.slotsUsed).setVm hW'.alike, X.tail, State.WarmedH.trans X.warmed hW', X.limits, X.bytes, X.same.trans (hsame.setVm s.vm)⟩,
      ⟨g, mk, s₂, L, E, ce, rfl, rfl, hx, hce, hcv, hcl, rfl, hL, rfl, rfl⟩, ?_⟩
    show Steps p.tables e below _ (((({ U with heap := s₂.heap, slotsUsed := s₂.slotsUsed } : State).setVm s₂.vm).setTop g).pushFrame (.throwing q))
    rw [← hs₂]
    exact hsteps
end
variable {p : Program} {l : Launch} {e : Env} {R : Room} {s : State} {m : MethodId} {args : Array Value} {below : List Frame} {meth : Method} {c : Code} {T : State} {H : Heap} {locs : List Loc} {cells slots : Nat}
theorem vx_callVX (X : Stand p l e R s m args below meth c T locs cells slots) (hexec : p.tables.exec = Jvm.exec) {own C : String} {index : Nat} {y : MethodName} {bytes : ByteArray} {maxL : Nat} {ret : Option FieldType} {hh : List (Nat × Nat × Nat × Nat)}
    (hown : s.vm.findClass own = some m.cls) (hlink : (Cond.methodLink own index y).before args s = true) (hinst : (Cond.instanceMethod y).before args s = true) (hsel : (Cond.selects C y y).before args s = true)
    (hcode : (Cond.codeWith y bytes maxL ret hh).before args s = true) (hy : y.cls ≠ "java/lang/invoke/MethodHandle" ∧ y.cls ≠ "java/lang/invoke/VarHandle")
    {W9 : Nat} {Pre : Pt → Array Value → Prop} {Post : Pt → Array Value → Option Value → Pt → Prop} {PostX : Pt → Array Value → Addr → Pt → Prop} (hK : vx_Back l R p e below s args y 3 W9 Pre Post PostX)
    {b : Addr} {cellB : Cell} (hcell : T.heap[b]? = some cellB) (hobj : cellB.vm.isStatics = false) (hcls : s.vm.findClass C = some cellB.cls)
    {g : JFrame} (hg : g.method = m) (hsize : g.locals.size = c.maxLocals) {argsL rest : List Value} (hlen : ∀ sig, parseMethodDescriptor y.desc = some sig → argsL.length = sig.parameters.length)
    (hstack : g.stack = argsL.reverse ++ .ref b :: rest) (hW : 2 * g.monitorRoom + (rest.map fun v => v.category).sum ≤ W9) (hdg : decode c.code g.pc = .ok (.invokevirtual index, 3))
    (hpre : ∀ vm₁, s.WarmedH vm₁ → Pre ⟨T.setVm vm₁, locs, cells, slots⟩ (Value.ref b :: argsL).toArray) :
    (∃ (v : Option Value) (vm₁ : Vm) (B : Pt), s.WarmedH vm₁ ∧ Stand p l e R s m args below meth c B.U B.locs B.cells B.slots ∧ Post ⟨T.setVm vm₁, locs, cells, slots⟩ (Value.ref b :: argsL).toArray v B ∧
      ∀ target, Steps p.tables e below (B.U.setTop { g with pc := g.pc + 3, stack := v.toList ++ rest }) target → Steps p.tables e below (T.setTop g) target) ∨
    (∃ (q : Addr) (vm₁ : Vm) (B : Pt), s.WarmedH vm₁ ∧ Stand p l e R s m args below meth c B.U B.locs B.cells B.slots ∧ PostX ⟨T.setVm vm₁, locs, cells, slots⟩ (Value.ref b :: argsL).toArray q B ∧
      Steps p.tables e below (T.setTop g) ((B.U.setTop { g with stack := rest }).pushFrame (.throwing q))) := by
  obtain ⟨mk, methM, hnamed, hmethM, hstM, habM⟩ := Cond.instanceMethod_spec hinst
  obtain ⟨m8, methM', cM, hn8, hmethM', -, -, -, -, -, -, hsigM⟩ := Cond.codeWith_spec hcode
  cases Option.some.inj (hn8.symm.trans hnamed)
  cases hmethM.symm.trans hmethM'
  obtain ⟨c2, r2, m2, q1, q2, q3, q4, kP, hkP, hkPi⟩ := Cond.selects_spec hsel
  cases hcls.symm.trans q1
  cases (State.methodFound?_of_named hnamed hy).symm.trans q2
  cases hnamed.symm.trans q3
  have hselP : selectMethod e.platform s.vm cellB.cls mk = .method mk := by rw [Launch.admits_selectMethod X.admits]; exact q4
  obtain ⟨vm₁, X₁, hstep₁⟩ := X.invokevirtual hexec hown hlink hnamed hmethM hstM hkP hkPi hy (a := b) (cell := cellB) hcell
    (fun z h => by rw [h] at hobj; cases hobj) hselP hmethM habM hkP hkPi (g := g) hg (argsL := argsL) (rest := rest) (hlen _ hsigM) hstack hdg
  rcases hK m meth c ⟨T.setVm vm₁, locs, cells, slots⟩ { g with stack := rest } (.invokevirtual index) mk (Value.ref b :: argsL).toArray X₁ hg hsize hdg hW (X₁.named hnamed) (hpre vm₁ X₁.warmed) with ⟨v, B, X', hpost, hsteps⟩ | ⟨q, B, X', hpost, hsteps⟩
  · exact Or.inl ⟨v, vm₁, B, X₁.warmed, X', hpost, fun target h => hstep₁ _ fun acts => by rw [doInvoke_state]; exact hsteps.trans h⟩
  · exact Or.inr ⟨q, vm₁, B, X₁.warmed, X', hpost, hstep₁ _ fun acts => by rw [doInvoke_state]; exact hsteps⟩
theorem vx_callSX (X : Stand p l e R s m args below meth c T locs cells slots) (hexec : p.tables.exec = Jvm.exec) {own : String} {index : Nat} {y : MethodName} {bytes : ByteArray} {maxL : Nat} {ret : Option FieldType} {hh : List (Nat × Nat × Nat × Nat)}
    (hown : s.vm.findClass own = some m.cls) (hlink : (Cond.methodLink own index y).before args s = true) (hstat : (Cond.static y).before args s = true) (hinit : (Cond.initialized y.cls).before args s = true)
    (hcode : (Cond.codeWith y bytes maxL ret hh).before args s = true) (hy : y.cls ≠ "java/lang/invoke/MethodHandle" ∧ y.cls ≠ "java/lang/invoke/VarHandle")
    {W9 : Nat} {Pre : Pt → Array Value → Prop} {Post : Pt → Array Value → Option Value → Pt → Prop} {PostX : Pt → Array Value → Addr → Pt → Prop} (hK : vx_Back l R p e below s args y 3 W9 Pre Post PostX)
    {g : JFrame} (hg : g.method = m) (hsize : g.locals.size = c.maxLocals) {argsL rest : List Value} (hlen : ∀ sig, parseMethodDescriptor y.desc = some sig → argsL.length = sig.parameters.length)
    (hstack : g.stack = argsL.reverse ++ rest) (hW : 2 * g.monitorRoom + (rest.map fun v => v.category).sum ≤ W9) (hdg : decode c.code g.pc = .ok (.invokestatic index, 3))
    (hpre : ∀ vm₁, s.WarmedH vm₁ → Pre ⟨T.setVm vm₁, locs, cells, slots⟩ argsL.toArray) :
    (∃ (v : Option Value) (vm₁ : Vm) (B : Pt), s.WarmedH vm₁ ∧ Stand p l e R s m args below meth c B.U B.locs B.cells B.slots ∧ Post ⟨T.setVm vm₁, locs, cells, slots⟩ argsL.toArray v B ∧
      ∀ target, Steps p.tables e below (B.U.setTop { g with pc := g.pc + 3, stack := v.toList ++ rest }) target → Steps p.tables e below (T.setTop g) target) ∨
    (∃ (q : Addr) (vm₁ : Vm) (B : Pt), s.WarmedH vm₁ ∧ Stand p l e R s m args below meth c B.U B.locs B.cells B.slots ∧ PostX ⟨T.setVm vm₁, locs, cells, slots⟩ argsL.toArray q B ∧
      Steps p.tables e below (T.setTop g) ((B.U.setTop { g with stack := rest }).pushFrame (.throwing q))) := by
  obtain ⟨mk, methM, cM, hnamed, hmethM, -, -, -, -, -, -, hsigM⟩ := Cond.codeWith_spec hcode
  have hstatic : methM.isStatic = true := Cond.static_spec hnamed hmethM hstat
  obtain ⟨kP, hkP, -⟩ := className_of_methodNamed hnamed
  have hinitP : kP.init = .initialized := Cond.initialized_spec (findClass_of_methodNamed hnamed) hkP hinit
  obtain ⟨vm₁, X₁, hstep₁⟩ := X.invokestatic hexec hown hlink hnamed hmethM hstatic hkP hinitP hy (g := g) hg (argsL := argsL) (rest := rest) (hlen _ hsigM) hstack hdg
  rcases hK m meth c ⟨T.setVm vm₁, locs, cells, slots⟩ { g with stack := rest } (.invokestatic index) mk argsL.toArray X₁ hg hsize hdg hW (X₁.named hnamed) (hpre vm₁ X₁.warmed) with ⟨v, B, X', hpost, hsteps⟩ | ⟨q, B, X', hpost, hsteps⟩
  · exact Or.inl ⟨v, vm₁, B, X₁.warmed, X', hpost, fun target h => hstep₁ _ fun acts => by rw [doInvoke_state]; exact hsteps.trans h⟩
  · exact Or.inr ⟨q, vm₁, B, X₁.warmed, X', hpost, hstep₁ _ fun acts => by rw [doInvoke_state]; exact hsteps⟩
theorem vx_callVW (X : Stand p l e R s m args below meth c T locs cells slots) (hexec : p.tables.exec = Jvm.exec) {own C : String} {index : Nat} {y : MethodName} {bytes : ByteArray} {maxL : Nat} {ret : Option FieldType} {hh : List (Nat × Nat × Nat × Nat)}
    (hown : s.vm.findClass own = some m.cls) (hlink : (Cond.methodLink own index y).before args s = true) (hinst : (Cond.instanceMethod y).before args s = true) (hsel : (Cond.selects C y y).before args s = true)
    (hcode : (Cond.codeWith y bytes maxL ret hh).before args s = true) (hy : y.cls ≠ "java/lang/invoke/MethodHandle" ∧ y.cls ≠ "java/lang/invoke/VarHandle")
    {W9 : Nat} {Pre : Pt → Array Value → Prop} {Post : Pt → Array Value → Option Value → Pt → Prop} (hK : Back l R p e below s args y 3 W9 Pre Post)
    {b : Addr} {cellB : Cell} (hcell : T.heap[b]? = some cellB) (hobj : cellB.vm.isStatics = false) (hcls : s.vm.findClass C = some cellB.cls)
    {g : JFrame} (hg : g.method = m) (hsize : g.locals.size = c.maxLocals) {argsL rest : List Value} (hlen : ∀ sig, parseMethodDescriptor y.desc = some sig → argsL.length = sig.parameters.length)
    (hstack : g.stack = argsL.reverse ++ .ref b :: rest) (hW : 2 * g.monitorRoom + (rest.map fun v => v.category).sum ≤ W9) (hdg : decode c.code g.pc = .ok (.invokevirtual index, 3))
    (hpre : ∀ vm₁, s.WarmedH vm₁ → Pre ⟨T.setVm vm₁, locs, cells, slots⟩ (Value.ref b :: argsL).toArray) :
    ∃ (v : Option Value) (vm₁ : Vm) (B : Pt), s.WarmedH vm₁ ∧ Stand p l e R s m args below meth c B.U B.locs B.cells B.slots ∧ Post ⟨T.setVm vm₁, locs, cells, slots⟩ (Value.ref b :: argsL).toArray v B ∧
      ∀ target, Steps p.tables e below (B.U.setTop { g with pc := g.pc + 3, stack := v.toList ++ rest }) target → Steps p.tables e below (T.setTop g) target := by
  obtain ⟨mk, methM, hnamed, hmethM, hstM, habM⟩ := Cond.instanceMethod_spec hinst
  obtain ⟨m8, methM', cM, hn8, hmethM', -, -, -, -, -, -, hsigM⟩ := Cond.codeWith_spec hcode
  cases Option.some.inj (hn8.symm.trans hnamed)
  cases hmethM.symm.trans hmethM'
  obtain ⟨c2, r2, m2, q1, q2, q3, q4, kP, hkP, hkPi⟩ := Cond.selects_spec hsel
  cases hcls.symm.trans q1
  cases (State.methodFound?_of_named hnamed hy).symm.trans q2
  cases hnamed.symm.trans q3
  have hselP : selectMethod e.platform s.vm cellB.cls mk = .method mk := by rw [Launch.admits_selectMethod X.admits]; exact q4
  obtain ⟨vm₁, X₁, hstep₁⟩ := X.invokevirtual hexec hown hlink hnamed hmethM hstM hkP hkPi hy (a := b) (cell := cellB) hcell
    (fun z h => by rw [h] at hobj; cases hobj) hselP hmethM habM hkP hkPi (g := g) hg (argsL := argsL) (rest := rest) (hlen _ hsigM) hstack hdg
  obtain ⟨v, B, X', hpost, hsteps⟩ := hK m meth c ⟨T.setVm vm₁, locs, cells, slots⟩ { g with stack := rest } (.invokevirtual index) mk (Value.ref b :: argsL).toArray X₁ hg hsize hdg hW (X₁.named hnamed) (hpre vm₁ X₁.warmed)
  exact ⟨v, vm₁, B, X₁.warmed, X', hpost, fun target h => hstep₁ _ fun acts => by rw [doInvoke_state]; exact hsteps.trans h⟩
abbrev vx_CVW (R : Room) (s : State) (args : Array Value) (own C : String) (index : Nat) (y : MethodName) (bytes : ByteArray) (maxL : Nat) (ret : Option FieldType) (hh : List (Nat × Nat × Nat × Nat)) (ws : List Cond) (rm : Room) (mc ms n : Nat) : Prop :=
  (rm.cells = mc ∧ rm.slots = ms ∧ rm.frames + 1 ≤ R.frames ∧ 8 + (maxL + 11) + rm.locals ≤ R.locals ∧ (∀ w ∈ ws, ∀ (a' : Array Value) (U : State), s.WarmedH U.vm → w.before a' U = true) ∧ Cond.codeWith y bytes maxL ret hh ∈ ws) ∧
  (Cond.codeWith y bytes maxL ret hh).before args s = true ∧ (Cond.initialized y.cls).before args s = true ∧ (y.cls ≠ "java/lang/invoke/MethodHandle" ∧ y.cls ≠ "java/lang/invoke/VarHandle") ∧
  (∀ sig, parseMethodDescriptor y.desc = some sig → n = sig.parameters.length) ∧ (Cond.methodLink own index y).before args s = true ∧ (Cond.instanceMethod y).before args s = true ∧ (Cond.selects C y y).before args s = true
theorem vx_cwVW {own C : String} {index maxL mc ms : Nat} {y : MethodName} {bytes : ByteArray} {ret : Option FieldType} {hh : List (Nat × Nat × Nat × Nat)} {Ts ws ws' : List Cond} {rm : Room} (n : Nat) (ht : ∀ w ∈ Ts, w.before args s = true) (hT : GoodIn Ts (wsV own index C y ws)) (hw : ws = Cond.codeWith y bytes maxL ret hh :: ws') (hrc : rm.cells = mc) (hrs : rm.slots = ms)
    (hd : y.cls = C ∧ y.cls ≠ "java/lang/invoke/MethodHandle" ∧ y.cls ≠ "java/lang/invoke/VarHandle" ∧ (parseMethodDescriptor y.desc).map (fun d => d.parameters.length) = some n) (hR : rm.frames + 1 ≤ R.frames ∧ 8 + (maxL + 11) + rm.locals ≤ R.locals) :
    vx_CVW R s args own C index y bytes maxL ret hh ws rm mc ms n := by
  obtain ⟨hC, hd⟩ := hd
  subst hC
  have ok : ∀ w ∈ wsV own index y.cls y ws, w.before args s = true := fun w h => ht w (hT w h).1
  have hG : GoodIn Ts ws := fun w h => hT w (by unfold wsV; exact List.mem_append_right _ h)
  have hc : Cond.codeWith y bytes maxL ret hh ∈ ws := by rw [hw]; exact List.mem_cons_self
  refine ⟨⟨hrc, hrs, hR.1, hR.2, pay_in ht hG, hc⟩, ht _ (hG _ hc).1, ok _ (by simp [wsV]), ⟨hd.1, hd.2.1⟩, fun sig h => ?_, ok _ (by simp [wsV]), ok _ (by simp [wsV]), ok _ (by simp [wsV])⟩
  have h2 := hd.2.2
  rw [h] at h2
  exact (Option.some.inj h2).symm
theorem vx_runVW {y : MethodName} {bytes cc : ByteArray} {maxL nL mc ms n index : Nat} {ret : Option FieldType} {hh : List (Nat × Nat × Nat × Nat)} {ws : List Cond} {rm : Room} {Pc : Array Value → State → Prop} {Qc : Array Value → State → Outcome → State → Prop} {free : Addr → Prop} {Ts : List Cond} {own C : String} {b : Addr} {As rest : List Value} {g : JFrame}
    (S : CallFix p m c cc nL s args Ts own) (hM : Met l y ws rm Pc Qc mc ms free) (cw : vx_CVW R s args own C index y bytes maxL ret hh ws rm mc ms n) (hp : PreV s H C b Pc As)
    (hg : g.method = m) (hn : As.length = n) (hsize : g.locals.size = nL) (hstack : g.stack = As.reverse ++ .ref b :: rest) (hW : 2 * g.monitorRoom + (rest.map fun v => v.category).sum ≤ 8) (hdg : decode cc g.pc = .ok (.invokevirtual index, 3)) (hf : cells + mc ≤ R.cells ∧ slots + ms ≤ R.slots) :
    va_Run p l e R s m args below meth c H locs cells slots mc ms g rest (Qc (Value.ref b :: As).toArray) free := by
  obtain ⟨⟨hrc, hrs, hfr, hlo, hws, hcw⟩, hcode, hini, hy, hlen, hl, hin, hse⟩ := cw
  have hK : Back l R p e below s args y 3 8 (PreOf R mc ms Pc) (PostOf Qc mc ms free) := va_backW (hh := hh) (bytes := bytes) (maxL := maxL) (ret := ret) hM hp.1 hrc hrs hfr hlo hws hcw (fun a' U hW => word_at hW (Or.inl (by first | rfl | simp [Cond.onTables, Cond.keeps, Cond.steady])) hini)
  obtain ⟨hx, hb, hml, ho, -⟩ := S
  obtain ⟨-, ⟨cellB, hcB, hoB, hclB⟩, hPc⟩ := hp
  intro T hT X
  obtain ⟨v, vm₁, ⟨U', l2, c2, s2⟩, hW₁, X', ⟨g', mk, t, L, e1, e2, hq, h1, hL, h2, h3⟩, st⟩ := vx_callVW X hx (C := C) (hh := hh) (bytes := bytes) (maxL := maxL) (ret := ret) ho hl hin hse hcode hy hK (by rw [hT]; exact hcB) hoB hclB hg (hsize.trans hml.symm) (argsL := As) (rest := rest) (fun sig h => hn.trans (hlen sig h)) hstack hW (by rw [hb]; exact hdg)
    (fun vm₁ hW₁ => ⟨hf.1, hf.2, hPc (T.setVm vm₁) hT hW₁⟩)
  dsimp only [Pt.U, Pt.locs, Pt.cells, Pt.slots] at X' e1 e2 h1 h2 h3 st
  subst h1; subst h2; subst h3
  exact ⟨v, (T.setVm vm₁).calling g' mk (Value.ref b :: As).toArray, t, U', L, hT, X', hL, e1, e2, hq, st⟩
section
variable {y : MethodName} {bytes cc : ByteArray} {maxL nL mc ms n index : Nat} {ret : Option FieldType} {ws : List Cond} {rm : Room} {Pc : Array Value → State → Prop} {Qc : Array Value → State → Outcome → State → Prop} {XC : String → State → State → Prop} {free : Addr → Prop} {Ts : List Cond} {own C : String} {b : Addr} {As rest : List Value} {g : JFrame}
theorem vx_runVX {hh : List (Nat × Nat × Nat × Nat)} (S : CallFix p m c cc nL s args Ts own) (hM : vx_Met l y ws rm Pc Qc XC mc ms free) (cw : vx_CVW R s args own C index y bytes maxL ret hh ws rm mc ms n) (hp : PreV s H C b Pc As)
    (hg : g.method = m) (hn : As.length = n) (hsize : g.locals.size = nL) (hstack : g.stack = As.reverse ++ .ref b :: rest) (hW : 2 * g.monitorRoom + (rest.map fun v => v.category).sum ≤ 8) (hdg : decode cc g.pc = .ok (.invokevirtual index, 3)) (hf : cells + mc ≤ R.cells ∧ slots + ms ≤ R.slots) :
    vx_Run p l e R s m args below meth c H locs cells slots mc ms g rest (Qc (Value.ref b :: As).toArray) XC free := by
  obtain ⟨⟨hrc, hrs, hfr, hlo, hws, hcw⟩, hcode, hini, hy, hlen, hl, hin, hse⟩ := cw
  have hK : vx_Back l R p e below s args y 3 8 (PreOf R mc ms Pc) (PostOf Qc mc ms free) (vx_Post XC mc ms free) := vx_backW (hh := hh) (bytes := bytes) (maxL := maxL) (ret := ret) hM hp.1 hrc hrs hfr hlo hws hcw (fun a' U hW => word_at hW (Or.inl (by first | rfl | simp [Cond.onTables, Cond.keeps, Cond.steady])) hini)
  obtain ⟨hx, hb, hml, ho, -⟩ := S
  obtain ⟨-, ⟨cellB, hcB, hoB, hclB⟩, hPc⟩ := hp
  intro T hT X
  rcases vx_callVX X hx (C := C) (hh := hh) (bytes := bytes) (maxL := maxL) (ret := ret) ho hl hin hse hcode hy hK (by rw [hT]; exact hcB) hoB hclB hg (hsize.trans hml.symm) (argsL := As) (rest := rest) (fun sig h => hn.trans (hlen sig h)) hstack hW (by rw [hb]; exact hdg)
    (fun vm₁ hW₁ => ⟨hf.1, hf.2, hPc (T.setVm vm₁) hT hW₁⟩) with ⟨v, vm₁, ⟨U', l2, c2, s2⟩, hW₁, X', ⟨g', mk, t, L, e1, e2, hq, h1, hL, h2, h3⟩, st⟩ | ⟨q, vm₁, ⟨U', l2, c2, s2⟩, hW₁, X', ⟨g', mk, t, L, E, ce, e1, e2, hq, hce, hcv, hcl, h1, hL, h2, h3⟩, st⟩
  · dsimp only [Pt.U, Pt.locs, Pt.cells, Pt.slots] at X' e1 e2 h1 h2 h3 st
    subst h1; subst h2; subst h3
    exact Or.inl ⟨v, (T.setVm vm₁).calling g' mk (Value.ref b :: As).toArray, t, U', L, hT, X', hL, e1, e2, hq, st⟩
  · dsimp only [Pt.U, Pt.locs, Pt.cells, Pt.slots] at X' e1 e2 h1 h2 h3 st hcl
    subst h1; subst h2; subst h3
    exact Or.inr ⟨q, (T.setVm vm₁).calling g' mk (Value.ref b :: As).toArray, t, U', L, E, ce, hT, X', hL, e1, e2, hq, hce, hcv, vx_cls hW₁ hcl, st⟩
theorem vx_runSX {hh : List (Nat × Nat × Nat × Nat)} (S : CallFix p m c cc nL s args Ts own) (hM : vx_Met l y ws rm Pc Qc XC mc ms free) (cw : vx_CSW R s args own index y bytes maxL ret hh ws rm mc ms n) (hp : PreS s H Pc As)
    (hg : g.method = m) (hn : As.length = n) (hsize : g.locals.size = nL) (hstack : g.stack = As.reverse ++ rest) (hW : 2 * g.monitorRoom + (rest.map fun v => v.category).sum ≤ 8) (hdg : decode cc g.pc = .ok (.invokestatic index, 3)) (hf : cells + mc ≤ R.cells ∧ slots + ms ≤ R.slots) :
    vx_Run p l e R s m args below meth c H locs cells slots mc ms g rest (Qc As.toArray) XC free := by
  obtain ⟨⟨hrc, hrs, hfr, hlo, hws, hcw⟩, hcode, hini, hy, hlen, hl, hstt⟩ := cw
  have hK : vx_Back l R p e below s args y 3 8 (PreOf R mc ms Pc) (PostOf Qc mc ms free) (vx_Post XC mc ms free) := vx_backW (hh := hh) (bytes := bytes) (maxL := maxL) (ret := ret) hM hp.1 hrc hrs hfr hlo hws hcw (fun a' U hW => word_at hW (Or.inl (by first | rfl | simp [Cond.onTables, Cond.keeps, Cond.steady])) hini)
  obtain ⟨hx, hb, hml, ho, -⟩ := S
  intro T hT X
  rcases vx_callSX X hx (hh := hh) (bytes := bytes) (maxL := maxL) (ret := ret) ho hl hstt hini hcode hy hK hg (hsize.trans hml.symm) (argsL := As) (rest := rest) (fun sig h => hn.trans (hlen sig h)) hstack hW (by rw [hb]; exact hdg)
    (fun vm₁ hW₁ => ⟨hf.1, hf.2, hp.2 (T.setVm vm₁) hT hW₁⟩) with ⟨v, vm₁, ⟨U', l2, c2, s2⟩, hW₁, X', ⟨g', mk, t, L, e1, e2, hq, h1, hL, h2, h3⟩, st⟩ | ⟨q, vm₁, ⟨U', l2, c2, s2⟩, hW₁, X', ⟨g', mk, t, L, E, ce, e1, e2, hq, hce, hcv, hcl, h1, hL, h2, h3⟩, st⟩
  · dsimp only [Pt.U, Pt.locs, Pt.cells, Pt.slots] at X' e1 e2 h1 h2 h3 st
    subst h1; subst h2; subst h3
    exact Or.inl ⟨v, (T.setVm vm₁).calling g' mk As.toArray, t, U', L, hT, X', hL, e1, e2, hq, st⟩
  · dsimp only [Pt.U, Pt.locs, Pt.cells, Pt.slots] at X' e1 e2 h1 h2 h3 st hcl
    subst h1; subst h2; subst h3
    exact Or.inr ⟨q, (T.setVm vm₁).calling g' mk As.toArray, t, U', L, E, ce, hT, X', hL, e1, e2, hq, hce, hcv, vx_cls hW₁ hcl, st⟩
end
end VXH
theorem vx_ofWH {l : Launch} {y : MethodName} {ws ws' : List Cond} {rm : Room} {Pc : Array Value → State → Prop} {Qc : Array Value → State → Outcome → State → Prop} {XC : String → State → State → Prop} {mc ms : Nat} {free : Addr → Prop} {cc : ByteArray} {maxL : Nat} {ret : Option FieldType} {hh : List (Nat × Nat × Nat × Nat)}
    (hy : plainName y.cls = true) (hw : ws = Cond.codeWith y cc maxL ret hh :: ws')
    (body : ∀ p e s m args below meth c s₁, BodyLoose p l y (headSpec ws rm) cc maxL ret e s m args below meth c s₁ → c.maxLocals = maxL → Pc args s →
      W p l e (headSpec ws rm).room s m args below meth c s.heap [] 0 0 (vx_MQ below Qc XC args s mc ms free) (entryFrame m args maxL)) : vx_Met l y ws rm Pc Qc XC mc ms free := by
  refine MetFree.of_bodyS (code := cc) (maxLocals := maxL) (ret := ret) hy ?_ ?_
  · intro args s m h hn
    obtain ⟨m9, meth, c, hn9, h1, h2, h3, h4, -, h5, h6, -⟩ := Cond.codeWith_spec (atoms_spec (ws := ws) h _ (by rw [hw]; exact List.mem_cons_self))
    cases hn.symm.trans hn9
    exact ⟨meth, c, h1, h2, h3, h4, h5, h6⟩
  · intro p e s m args below meth c s₁ B hml hP _
    have hh0 : s₁.heap = s.heap := by rw [B.state]; rfl
    obtain ⟨t, a1, o, b1, b2, b3⟩ := body p e s m args below meth c s₁ B hml hP s₁ hh0 (Stand.of_body B)
    exact ⟨t, o, a1, b1, b2, b3⟩
/-! ===== END ===== -/

/-! ===== BEGIN what the machine throws by itself, no traces kept ===== -/
section VXM
set_option maxHeartbeats 1000000 in
/-- the machine throws cls with the message text, no traces kept: from its note over the frame g to 'throwing' over the same frame (follows the proofs of Stand.vmThrowsMessage, Shelf/KitTracedVmS.lean, and Stand.throwsMessageColdBareV, StandMessageColdV.lean, without the step out of the frame) -/
theorem vx_vmAt {p : Program} {l : Launch} {e : Env} {R : Room} {s : State} {m₀ : MethodId} {args : Array Value} {below : List Frame} {meth : Method} {c : Code} {W : State} {locs : List Loc} {cells slots : Nat}
    (X : Stand p l e R s m₀ args below meth c W locs cells slots) (hexec : p.tables.exec = Jvm.exec) (htr : e.platform.stackTraces = false) {cls : String} {names : List String} {text : String}
    (hcls : Bundle.fit cls = true) (hnames : ∀ n ∈ names, Bundle.fit n = true) (hsoe : (cls == "java/lang/StackOverflowError") = false) (hoom : (cls == "java/lang/OutOfMemoryError") = false)
    (h : ∀ a ∈ Bundle.messageArmAtoms cls names, a.before args s = true)
    (hlocs : ∀ x ∈ locs, ∀ cell, s.heap[x.base]? = some cell → cell.vm.isStatics = false)
    (htext : (text == notModelled) = false) (hlimit : ¬ (stringBytes (stringToUtf16 text)).size > e.platform.arrayLengthLimit) (hheap : ¬ (stringBytes (stringToUtf16 text)).size * componentBytes .byte > e.platform.maxHeapBytes)
    {g : JFrame} (hg : g.method = m₀) (hsize : g.locals.size = c.maxLocals)
    (hRframes : names.length + 4 < R.frames) (hRlocals : 2 * g.monitorRoom + (g.stack.map fun v => v.category).sum + 10240 ≤ R.locals) (hshort : 13 * names.length + 55 ≤ 10240)
    (hRcells : cells + 3 ≤ R.cells) (hRslots : slots + ((stringBytes (stringToUtf16 text)).size + 4 + 6) ≤ R.slots) (hlocks : meth.locks = false) :
    ∃ (S : State) (q : Addr) (ce : Cell), (∀ target, Steps p.tables e below ((S.setTop g).pushFrame (.throwing q)) target → Steps p.tables e below ((W.setTop g).pushFrame (.throwNew cls (some text) none)) target) ∧
      Stand p l e R s m₀ args below meth c S locs (cells + 3) (slots + ((stringBytes (stringToUtf16 text)).size + 4 + 6)) ∧ S.heap[q]? = some ce ∧ s.vm.findClass cls = some ce.cls ∧ ce.vm = .none := by
  have howns : e.platform.frameOwnsMonitors = true := by rw [X.admits.platform]
  have hfin : e.platform.finalization = false := by rw [X.admits.platform]
  have hpl : e.platform.magicAccessors = ({} : Platform).magicAccessors := by rw [X.admits.platform]
  have a : ∀ x, x ∈ Bundle.messageArmAtoms cls names → x.holds args s none s [] = true := fun x hx => h x hx
  obtain ⟨T, Z0, L, -, Y⟩ := ThrowableC.of_atoms (args := args) howns hfin hpl (fun x hx => h x (by simp [Bundle.messageArmAtoms, hx]))
  obtain ⟨Z, M, LZ, LM, hnZ⟩ := Init0T.ofS_atoms (args := args) hpl L Y (fun x hx => h x (by simp [Bundle.messageArmAtoms, hx]))
  obtain ⟨P1, Ps, hlen, L1, hL, hP1m, hlink1, hlink⟩ := Bundle.chainS (args := args) hpl hnZ names cls hcls hnames (fun x hx => h x (by simp [Bundle.messageArmAtoms, hx]))
  obtain ⟨Zs, LZs, hn4, hfitv, hfitc⟩ := StringT.of_atoms (args := args) (fun x hx => h x (by simp [Bundle.messageArmAtoms, hx]))
  have hfound : s.vm.findClass cls = some P1.m.cls := findClass_of_methodNamed hP1m
  obtain ⟨c1, kX, hc1, hk, hord, -, -, hn6⟩ := Cond.instantiable_spec (a (.instantiable cls 6) (by simp [Bundle.messageArmAtoms]))
  cases Option.some.inj (hc1.symm.trans hfound)
  have hinit := Cond.initialized_spec hfound hk (a (.initialized cls) (by simp [Bundle.messageArmAtoms]))
  have hctor : kX.findMethod "<init>" "(Ljava/lang/String;)V" = some P1.m.idx := findMethod_of_methodNamed hP1m hk
  have hsel0 : selectMethod e.platform s.vm P1.m.cls T.fill0 = .method T.fill0 := by
    obtain ⟨c2, r2, m2, q1, q2, q3, q4, -⟩ := Cond.selects_spec (a (.selects cls Bundle.tFill0 Bundle.tFill0) (by simp [Bundle.messageArmAtoms]))
    cases Option.some.inj (q1.symm.trans hfound)
    cases Option.some.inj (q2.symm.trans (State.methodFound?_of_named Y.fill0 (by decide)))
    cases Option.some.inj (q3.symm.trans Y.fill0)
    rw [Launch.admits_selectMethod X.admits]; exact q4
  have hselF : selectMethod e.platform s.vm P1.m.cls T.fill = .method T.fill := by
    obtain ⟨c2, r2, m2, q1, q2, q3, q4, -⟩ := Cond.selects_spec (a (.selects cls Bundle.tFill Bundle.tFill) (by simp [Bundle.messageArmAtoms]))
    cases Option.some.inj (q1.symm.trans hfound)
    cases Option.some.inj (q2.symm.trans (State.methodFound?_of_named Y.fill (by decide)))
    cases Option.some.inj (q3.symm.trans Y.fill)
    rw [Launch.admits_selectMethod X.admits]; exact q4
  obtain ⟨cellS0, hcS0, hiss⟩ := Y.statics
  obtain ⟨u0, hu0⟩ := Cond.staticRefV Y.unassigned L.unassignedStatic L.statics hcS0 hiss (a (.isRef (.static Bundle.tN "UNASSIGNED_STACK" Bundle.steD)) (by simp [Bundle.messageArmAtoms]))
  obtain ⟨sen, hsen⟩ := Cond.staticRefV Y.sentinel L.sentinelStatic L.statics hcS0 hiss (a (.isRef (.static Bundle.tN "SUPPRESSED_SENTINEL" Bundle.listD)) (by simp [Bundle.messageArmAtoms]))
  obtain ⟨ci198, i198, fB, hk198, hg198, ha198, hsB, -, hnB, htB, hffB⟩ := Cond.ownField (t := .object "java/lang/Object") Y.found L.cls (by decide +kernel) (a (.fieldLink Bundle.tN 198 Bundle.tN "backtrace" "Ljava/lang/Object;") (by simp [Bundle.messageArmAtoms])) (a (.lays Bundle.tN Bundle.tN "backtrace" "Ljava/lang/Object;") (by simp [Bundle.messageArmAtoms])) e.platform hpl
  obtain ⟨cellS, hcS', heS, -, hkeep⟩ := X.same.2.2.2.2.2 T.aS cellS0 hcS0
  have hcellS : W.heap[T.aS]? = some cellS := hcS'
  have hout' : ∀ i, (⟨T.aS, i⟩ : Loc) ∉ locs := fun i hmem => by
    have := hlocs _ hmem cellS0 hcS0
    rw [hiss] at this; cases this
  have hknownS : cellS.vm ≠ .unknown := by
    rw [heS]; intro hu
    rw [show cellS0.vm = .unknown from hu] at hiss
    cases hiss
  have hvU : cellS.slots[T.fUnassigned.slot]? = some u0.v := by rw [hkeep _ (hout' _)]; exact hu0
  have hvSen : cellS.slots[T.fSentinel.slot]? = some sen.v := by rw [hkeep _ (hout' _)]; exact hsen
  obtain ⟨iM, hffM⟩ := Y.msg
  obtain ⟨tyC, dC, hdC, hdnC⟩ := Cond.laysAt hfound hk Y.cause (a (.lays cls Bundle.tN "cause" "Ljava/lang/Throwable;") (by simp [Bundle.messageArmAtoms]))
  obtain ⟨tyS, dS, hdS, hdnS⟩ := Cond.laysAt hfound hk Y.stack (a (.lays cls Bundle.tN "stackTrace" Bundle.steD) (by simp [Bundle.messageArmAtoms]))
  obtain ⟨tyP, dP, hdP, hdnP⟩ := Cond.laysAt hfound hk Y.supp (a (.lays cls Bundle.tN "suppressedExceptions" Bundle.listD) (by simp [Bundle.messageArmAtoms]))
  obtain ⟨tyM, dM, hdM, hdnM⟩ := Cond.laysAt hfound hk hffM (a (.lays cls Bundle.tN "detailMessage" "Ljava/lang/String;") (by simp [Bundle.messageArmAtoms]))
  obtain ⟨tyB, dB, hdB, hdnB⟩ := Cond.laysAt hfound hk hffB (a (.lays cls Bundle.tN "backtrace" "Ljava/lang/Object;") (by simp [Bundle.messageArmAtoms]))
  have bC := Cond.laysApart hdB hdC hdnB hdnC (by rw [hnB, Y.causeName]; decide)
  have bS := Cond.laysApart hdB hdS hdnB hdnS (by rw [hnB, Y.stackName]; decide)
  have bP := Cond.laysApart hdB hdP hdnB hdnP (by rw [hnB, Y.suppName]; decide)
  have hbk : ((preparedCellV T.toThrowableT (freshCell P1.m.cls kX) (W.heap.size + 2) u0 sen).withEntry W.cur).slots[fB.slot]? = some .null := by
    have := fresh_default (c := P1.m.cls) tyB
    rw [htB] at this
    simpa [preparedCellV, Cell.setSlot, Cell.withEntry, Array.getElem?_setIfInBounds, bC, bS, bP, bC.symm, bS.symm, bP.symm, defaultValue] using this
  have tkC := Takes.of_laid (v := .ref (W.heap.size + 2)) hk hord tyC (by rw [Y.causeType]; rfl)
  have tkS := Takes.of_laid (v := u0.v) hk hord tyS (by rw [Y.stackType]; exact fits_refV_array _ u0)
  have tkP := Takes.of_laid (v := sen.v) hk hord tyP (by rw [Y.suppType]; exact fits_refV_object _ sen)
  have tkM := Takes.of_laid (v := .ref (W.heap.size + 1)) hk hord tyM (by rw [Y.msgType]; rfl)
  have hskip : SkipFacts T e.platform s (fun u => u) u0 ((preparedCellV T.toThrowableT (freshCell P1.m.cls kX) (W.heap.size + 2) u0 sen).withEntry W.cur) := ⟨{ ci198 := ci198, i198 := i198, fBack := fB }, ⟨hk198, hg198, ha198, hsB⟩, hbk, fun _ _ => rfl⟩
  have h0 : At W g.method c below := by rw [hg]; exact X.here
  obtain ⟨hbeyond, hfreeW⟩ := X.vmMayThrow hsize (.throwNew cls (some text) none) (fun f hf => by cases hf) rfl hRlocals
  have hfr' : W.frames.length + Ps.length + 4 < (e.platform.stackLimits W.me).1 := by have := X.framesAbove hRframes; omega
  have hwd' : (stackUse (.java g :: W.frames.tail)).2 + 13 * Ps.length + 55 ≤ (e.platform.stackLimits W.me).2 := by have := X.stackAbove hsize (K := 13 * Ps.length + 55) (by omega); omega
  have hslots : W.slotsUsed + (stringBytes (stringToUtf16 text)).size + Zs.kS.instanceTypes.size + kX.instanceTypes.size ≤ e.platform.maxSlots := by
    have := X.slotsAbove hRslots
    rw [hn4, hn6]
    omega
  obtain ⟨vm', hW', st⟩ := Steps.vmThrowsMessageColdByV p (s₀ := s) (S := W) (g := g) h0 hexec T L Z LZ M LM X.warmed (t := W.cur) rfl Zs LZs P1 L1 Ps hL hlink1 hlink hsoe hoom hfound hk hinit hord hctor
    (Launch.admits_hotImplicitExceptions X.admits) hbeyond hfreeW htext hlimit hheap (X.cellsAbove hRcells) hslots (hfitv _) (hfitc _)
    (Nn := fun u => u) heapOnly_id (fun _ _ => rfl) (fun _ => rfl) (fun u x y => setCell_twice _ _ _ _) (fun _ => Nat.le_refl _) (cN := ((preparedCellV T.toThrowableT (freshCell P1.m.cls kX) (W.heap.size + 2) u0 sen).withEntry W.cur))
    hsel0 hcellS hknownS hvU tkS (fun _ hu => hu) (fun _ hu => hu) rfl rfl rfl (by simp [preparedCellV, Cell.setSlot, Cell.withEntry]) hskip (fun _ _ hA hW _ hroom _ hrest => L.nativeOff p htr hA hW hroom hrest) hselF hvSen tkC tkP tkM Y.objLocals rfl hfr' hwd'
  rw [plainBareV_eq T.toThrowableT (W.heap.size + 2) u0 sen (.ref (W.heap.size + 1)) W.cur rfl rfl] at st
  obtain ⟨-, -, w3, w4, -, -, -⟩ := withThrown_facts e.platform W Zs text P1.m.cls kX
  have X3 := ((X.pushed (bytesOf Zs.cB (stringToUtf16 text))).pushed (stringAt Zs.cS Zs.kS Zs.fv Zs.fc (stringToUtf16 text) W.heap.size)).pushed (freshCell P1.m.cls kX)
  rw [← withString_eq] at X3
  have X4 := X3.noted hW'
  have ha : (W.heap.size + 2) < ((withThrown W Zs text P1.m.cls kX).setVm vm').heap.size := by show _ < (withThrown W Zs text P1.m.cls kX).heap.size; rw [w3]; omega
  have hcell : ((withThrown W Zs text P1.m.cls kX).setVm vm').heap[(W.heap.size + 2)]? = some (freshCell P1.m.cls kX) := w4
  have X5 := ((((X4.stored hcell T.fCause.slot (.ref (W.heap.size + 2))).storedAgain ha T.fStack.slot u0.v).storedAgain ha T.fSupp.slot sen.v).storedAgain ha T.fStack.slot u0.v).storedAgain ha T.fMsg.slot (.ref (W.heap.size + 1))
  obtain ⟨g₁, hfrM⟩ := X5.frames_eq
  have hU : ((((withThrown W Zs text P1.m.cls kX).setVm vm').setCell (W.heap.size + 2) (plainBareV T.toThrowableT (freshCell P1.m.cls kX) (W.heap.size + 2) u0 sen (.ref (W.heap.size + 1)))).setTop g).pushFrame (.throwing (W.heap.size + 2)) = (((withThrown W Zs text P1.m.cls kX).setVm vm').setCell (W.heap.size + 2) (plainBareV T.toThrowableT (freshCell P1.m.cls kX) (W.heap.size + 2) u0 sen (.ref (W.heap.size + 1)))).setFrames (.throwing (W.heap.size + 2) :: .java g :: below) := by
    rw [State.pushFrame, State.frames_setTop _ hfrM, State.setTop_of_frames _ hfrM, State.setFrames_setFrames]
  have b1 : (bytesOf Zs.cB (stringToUtf16 text)).slots.size = (stringBytes (stringToUtf16 text)).size := by
    rw [(Cell.writeAll_facts _ _).2.2]; simp [bytes0]
  have b2 : (stringAt Zs.cS Zs.kS Zs.fv Zs.fc (stringToUtf16 text) W.heap.size).slots.size = 4 := by simp [string0, Cell.setSlot, hn4]
  have b3 : (freshCell P1.m.cls kX).slots.size = 6 := by simp [hn6]
  rw [b1, b2, b3] at X5
  have e9 : slots + (stringBytes (stringToUtf16 text)).size + 4 + 6 = slots + ((stringBytes (stringToUtf16 text)).size + 4 + 6) := by omega
  rw [e9] at X5
  simp only [List.append_assoc, List.cons_append, List.nil_append] at X5
  refine ⟨((withThrown W Zs text P1.m.cls kX).setVm vm').setCell (W.heap.size + 2) (plainBareV T.toThrowableT (freshCell P1.m.cls kX) (W.heap.size + 2) u0 sen (.ref (W.heap.size + 1))), W.heap.size + 2, _, fun target ht => st _ (by rw [X.tail, ← hU]; exact ht),
    X5.forget (fun y hy => ?_), heapAt_setCell_self _ ha, hfound, rfl⟩
  simp only [List.mem_cons, List.not_mem_nil, or_false] at hy
  have hge : s.heap.size ≤ W.heap.size := X.same.2.1
  rcases hy with rfl | rfl | rfl | rfl | rfl <;> exact Nat.le_trans hge (Nat.le_add_right _ 2)
set_option maxHeartbeats 1000000 in
/-- the machine throws NullPointerException, no traces kept: from its note over the frame g to 'throwing' over the same frame (follows the proof of Stand.vmThrowsNpe, Shelf42/KT2.lean; throwsNpeColdBareVAt, Shelf42/NT91.lean, called) -/
theorem vx_npeAt {p : Program} {l : Launch} {e : Env} {R : Room} {s : State} {m₀ : MethodId} {args : Array Value} {below : List Frame} {meth : Method} {c : Code} {W : State} {locs : List Loc} {cells slots : Nat}
    (X : Stand p l e R s m₀ args below meth c W locs cells slots) (hexec : p.tables.exec = Jvm.exec) (htr : e.platform.stackTraces = false) {n : Nat}
    (h : ∀ a ∈ Bundle.npeArmAtoms n, a.before args s = true)
    (hlocs : ∀ x ∈ locs, ∀ cell, s.heap[x.base]? = some cell → cell.vm.isStatics = false)
    {g : JFrame} (hg : g.method = m₀) (hsize : g.locals.size = c.maxLocals)
    (hRframes : 7 < R.frames) (hRlocals : 2 * g.monitorRoom + (g.stack.map fun v => v.category).sum + 10240 ≤ R.locals)
    (hRcells : cells + 1 ≤ R.cells) (hRslots : slots + n ≤ R.slots) (hlocks : meth.locks = false) :
    ∃ (S : State) (q : Addr) (ce : Cell), (∀ target, Steps p.tables e below ((S.setTop g).pushFrame (.throwing q)) target → Steps p.tables e below ((W.setTop g).pushFrame (.throwNew "java/lang/NullPointerException" none none)) target) ∧
      Stand p l e R s m₀ args below meth c S locs (cells + 1) (slots + n) ∧ S.heap[q]? = some ce ∧ s.vm.findClass "java/lang/NullPointerException" = some ce.cls ∧ ce.vm = .none := by
  have howns : e.platform.frameOwnsMonitors = true := by rw [X.admits.platform]
  have hfin : e.platform.finalization = false := by rw [X.admits.platform]
  have hpl : e.platform.magicAccessors = ({} : Platform).magicAccessors := by rw [X.admits.platform]
  have hpl2 : e.platform.arrayCloneIsPublic = true := by rw [X.admits.platform]
  have a' : ∀ x, x ∈ Bundle.npeArmAtoms n → x.holds args s none s [] = true := fun x hx => h x hx
  obtain ⟨T, Z, L, LZ, Y⟩ := ThrowableC.of_atoms (args := args) howns hfin hpl (fun x hx => h x (by simp [Bundle.npeArmAtoms, hx]))
  obtain ⟨N, LN, hcN, hnNF, hordN, hffS⟩ := NpeC.of_atoms (args := args) hpl hpl2 L Y (fun x hx => h x (by simp [Bundle.npeArmAtoms, hx]))
  obtain ⟨P1, L1, hP1m, hP1s⟩ := PassC.of_atoms (args := args) (s := s) hpl (X := Bundle.nN) (Y := Bundle.rN) (by decide) (by decide) LibCode.NullPointerException.Init0.at_0 LibCode.NullPointerException.Init0.at_1 LibCode.NullPointerException.Init0.at_4 (fun x hx => h x (by simp [Bundle.npeArmAtoms, hx]))
  obtain ⟨PR, LR, hPRm, hPRs⟩ := PassC.of_atoms (args := args) (s := s) hpl (X := Bundle.rN) (Y := Bundle.eN) (by decide) (by decide) LibCode.RuntimeException.Init0.at_0 LibCode.RuntimeException.Init0.at_1 LibCode.RuntimeException.Init0.at_4 (fun x hx => h x (by simp [Bundle.npeArmAtoms, hx]))
  obtain ⟨PE, LEx, hPEm, hPEs⟩ := PassC.of_atoms (args := args) (s := s) hpl (X := Bundle.eN) (Y := Bundle.tN) (by decide) (by decide) LibCode.Exception.Init0.at_0 LibCode.Exception.Init0.at_1 LibCode.Exception.Init0.at_4 (fun x hx => h x (by simp [Bundle.npeArmAtoms, hx]))
  have hfound : s.vm.findClass Bundle.nN = some P1.m.cls := findClass_of_methodNamed hP1m
  have ecls : N.cN = P1.m.cls := Option.some.inj (hcN.symm.trans hfound)
  have hk : s.vm.classes[P1.m.cls]? = some N.kN := by rw [← ecls]; exact LN.cls
  have hinit := Cond.initialized_spec hfound hk (a' (.initialized Bundle.nN) (by simp [Bundle.npeArmAtoms]))
  have hctor : N.kN.findMethod "<init>" "()V" = some P1.m.idx := findMethod_of_methodNamed hP1m hk
  obtain ⟨c1, k1, hc1, hk1, -, -, -, hn⟩ := Cond.instantiable_spec (a' (.instantiable Bundle.nN n) (by simp [Bundle.npeArmAtoms]))
  cases Option.some.inj (hc1.symm.trans hfound)
  cases Option.some.inj (hk1.symm.trans hk)
  have hfsz : (freshCell P1.m.cls N.kN).slots.size = n := by simp [hn]
  have hlink1 : P1.sup = PR.m := Option.some.inj (hP1s.symm.trans hPRm)
  have hlinkR : PR.sup = PE.m := Option.some.inj (hPRs.symm.trans hPEm)
  have hlinkE : PE.sup = Z.m T.toThrowableT := Option.some.inj (hPEs.symm.trans Y.init0)
  have hLs : ∀ P, P ∈ [PR, PE] → P.Links0 e.platform s := fun P hP => by
    simp only [List.mem_cons, List.not_mem_nil, or_false] at hP
    rcases hP with rfl | rfl
    · exact LR
    · exact LEx
  have hsel0 : selectMethod e.platform s.vm P1.m.cls T.fill0 = .method T.fill0 := by
    obtain ⟨c2, r2, m2, q1, q2, q3, q4, -⟩ := Cond.selects_spec (a' (.selects Bundle.nN Bundle.tFill0 Bundle.tFill0) (by simp [Bundle.npeArmAtoms]))
    cases Option.some.inj (q1.symm.trans hfound)
    cases Option.some.inj (q2.symm.trans (State.methodFound?_of_named Y.fill0 (by decide)))
    cases Option.some.inj (q3.symm.trans Y.fill0)
    rw [Launch.admits_selectMethod X.admits]; exact q4
  have hselF : selectMethod e.platform s.vm P1.m.cls T.fill = .method N.fill := by
    obtain ⟨c2, r2, m2, q1, q2, q3, q4, -⟩ := Cond.selects_spec (a' (.selects Bundle.nN Bundle.tFill Bundle.nFill) (by simp [Bundle.npeArmAtoms]))
    cases Option.some.inj (q1.symm.trans hfound)
    cases Option.some.inj (q2.symm.trans (State.methodFound?_of_named Y.fill (by decide)))
    cases Option.some.inj (q3.symm.trans hnNF)
    rw [Launch.admits_selectMethod X.admits]; exact q4
  obtain ⟨cellS0, hcS0, hiss⟩ := Y.statics
  obtain ⟨u0, hu0⟩ := Cond.staticRefV Y.unassigned L.unassignedStatic L.statics hcS0 hiss (a' (.isRef (.static Bundle.tN "UNASSIGNED_STACK" Bundle.steD)) (by simp [Bundle.npeArmAtoms]))
  obtain ⟨sen, hsen⟩ := Cond.staticRefV Y.sentinel L.sentinelStatic L.statics hcS0 hiss (a' (.isRef (.static Bundle.tN "SUPPRESSED_SENTINEL" Bundle.listD)) (by simp [Bundle.npeArmAtoms]))
  obtain ⟨ci198, i198, fB, hk198, hg198, ha198, hsB, -, hnB, htB, hffB⟩ := Cond.ownField (t := .object "java/lang/Object") Y.found L.cls (by decide +kernel) (a' (.fieldLink Bundle.tN 198 Bundle.tN "backtrace" Bundle.objD) (by simp [Bundle.npeArmAtoms])) (a' (.lays Bundle.tN Bundle.tN "backtrace" Bundle.objD) (by simp [Bundle.npeArmAtoms])) e.platform hpl
  obtain ⟨cellS, hcS', heS, -, hkeep⟩ := X.same.2.2.2.2.2 T.aS cellS0 hcS0
  have hcellS : W.heap[T.aS]? = some cellS := hcS'
  have hout' : ∀ i, (⟨T.aS, i⟩ : Loc) ∉ locs := fun i hmem => by
    have := hlocs _ hmem cellS0 hcS0
    rw [hiss] at this; cases this
  have hknownS : cellS.vm ≠ .unknown := by
    rw [heS]; intro hu
    rw [show cellS0.vm = .unknown from hu] at hiss
    cases hiss
  have hvU : cellS.slots[T.fUnassigned.slot]? = some u0.v := by rw [hkeep _ (hout' _)]; exact hu0
  have hvSen : cellS.slots[T.fSentinel.slot]? = some sen.v := by rw [hkeep _ (hout' _)]; exact hsen
  obtain ⟨tyC, dC, hdC, hdnC⟩ := Cond.laysAt hfound hk Y.cause (a' (.lays Bundle.nN Bundle.tN "cause" "Ljava/lang/Throwable;") (by simp [Bundle.npeArmAtoms]))
  obtain ⟨tyS, dS, hdS, hdnS⟩ := Cond.laysAt hfound hk Y.stack (a' (.lays Bundle.nN Bundle.tN "stackTrace" Bundle.steD) (by simp [Bundle.npeArmAtoms]))
  obtain ⟨tyP, dP, hdP, hdnP⟩ := Cond.laysAt hfound hk Y.supp (a' (.lays Bundle.nN Bundle.tN "suppressedExceptions" Bundle.listD) (by simp [Bundle.npeArmAtoms]))
  obtain ⟨tyX, dX, hdX, hdnX⟩ := Cond.laysAt hfound hk hffS (a' (.lays Bundle.nN Bundle.nN "extendedMessageState" "I") (by simp [Bundle.npeArmAtoms, Bundle.npeAtoms]))
  obtain ⟨hnX, htX⟩ := State.fieldFound?_type hffS (t := .int) (by decide +kernel)
  have xC := Cond.laysApart hdC hdX hdnC hdnX (by rw [hnX, Y.causeName]; decide)
  have xS := Cond.laysApart hdS hdX hdnS hdnX (by rw [hnX, Y.stackName]; decide)
  have xP := Cond.laysApart hdP hdX hdnP hdnX (by rw [hnX, Y.suppName]; decide)
  have hv0 : (freshCell P1.m.cls N.kN).slots[N.fState.slot]? = some (.int 0) := by
    have := fresh_default (c := P1.m.cls) tyX
    rw [htX] at this; exact this
  obtain ⟨tyB, dB, hdB, hdnB⟩ := Cond.laysAt hfound hk hffB (a' (.lays Bundle.nN Bundle.tN "backtrace" Bundle.objD) (by simp [Bundle.npeArmAtoms]))
  have bC := Cond.laysApart hdB hdC hdnB hdnC (by rw [hnB, Y.causeName]; decide)
  have bS := Cond.laysApart hdB hdS hdnB hdnS (by rw [hnB, Y.stackName]; decide)
  have bP := Cond.laysApart hdB hdP hdnB hdnP (by rw [hnB, Y.suppName]; decide)
  have bX := Cond.laysApart hdB hdX hdnB hdnX (by rw [hnB, hnX]; decide)
  have hbk : ((npeCell N.toNpeT (preparedCellV T.toThrowableT (freshCell P1.m.cls N.kN) W.heap.size u0 sen) W.cur).withEntry W.cur).slots[fB.slot]? = some .null := by
    have := fresh_default (c := P1.m.cls) tyB
    rw [htB] at this
    simpa [npeCell, preparedCellV, Cell.setSlot, Cell.withEntry, Array.getElem?_setIfInBounds, bC, bS, bP, bX, bC.symm, bS.symm, bP.symm, bX.symm, defaultValue] using this
  have tkC := Takes.of_laid (v := .ref W.heap.size) hk hordN tyC (by rw [Y.causeType]; rfl)
  have tkS := Takes.of_laid (v := u0.v) hk hordN tyS (by rw [Y.stackType]; exact fits_refV_array _ u0)
  have tkP := Takes.of_laid (v := sen.v) hk hordN tyP (by rw [Y.suppType]; exact fits_refV_object _ sen)
  have tkX := Takes.of_laid (v := .int 1) hk hordN tyX (by rw [htX]; rfl)
  have hskip : SkipFacts T e.platform s (fun u => u) u0 ((npeCell N.toNpeT (preparedCellV T.toThrowableT (freshCell P1.m.cls N.kN) W.heap.size u0 sen) W.cur).withEntry W.cur) := ⟨{ ci198 := ci198, i198 := i198, fBack := fB }, ⟨hk198, hg198, ha198, hsB⟩, hbk, fun _ _ => rfl⟩
  obtain ⟨vm', X3, st, -⟩ := X.throwsNpeColdBareVAt hexec hg hsize T L Z LZ N LN P1 L1 [PR, PE] hLs hlink1 ⟨hlinkR, hlinkE, trivial⟩ hfound hk hinit hordN hctor hsel0 hselF hcellS hknownS hvU hvSen
    hv0 xC xS xP tkC tkS tkP tkX Y.objLocals hskip (fun _ _ hA hW _ hroom _ hrest => L.nativeOff p htr hA hW hroom hrest) (by simpa using hRframes) hRlocals (by simp) hRcells (by rw [hn]; exact hRslots)
  have hlt : W.heap.size < ((W.pushCell (freshCell P1.m.cls N.kN)).setVm vm').heap.size := by
    show W.heap.size < (W.pushCell (freshCell P1.m.cls N.kN)).heap.size
    rw [State.heap_size_pushCell]; omega
  rw [hfsz] at X3
  obtain ⟨g₁, hfrM⟩ := X3.frames_eq
  have hU : ((((W.pushCell (freshCell P1.m.cls N.kN)).setVm vm').setCell W.heap.size (npeBareV T.toThrowableT N.toNpeT (freshCell P1.m.cls N.kN) W.heap.size u0 sen)).setTop g).pushFrame (.throwing W.heap.size) = (((W.pushCell (freshCell P1.m.cls N.kN)).setVm vm').setCell W.heap.size (npeBareV T.toThrowableT N.toNpeT (freshCell P1.m.cls N.kN) W.heap.size u0 sen)).setFrames (.throwing W.heap.size :: .java g :: below) := by
    rw [State.pushFrame, State.frames_setTop _ hfrM, State.setTop_of_frames _ hfrM, State.setFrames_setFrames]
  refine ⟨_, W.heap.size, _, fun target ht => st.trans (by rw [← hU]; exact ht), X3.forget (fun y hy => ?_), heapAt_setCell_self _ hlt, hfound, rfl⟩
  simp only [List.mem_cons, List.not_mem_nil, or_false] at hy
  have hge : s.heap.size ≤ W.heap.size := X.same.2.1
  rcases hy with rfl | rfl | rfl | rfl | rfl <;> exact hge
/-- the words of a machine's NullPointerException, but the four that speak of the heap -/
def vx_atN (n : Nat) : List Cond := (Bundle.npeArmAtoms n).filter vx_no
/-- the words of a machine's throw with a message, but the four that speak of the heap -/
def vx_atM (X : String) (names : List String) : List Cond := (Bundle.messageArmAtoms X names).filter vx_no
section
variable {p : Program} {l : Launch} {e : Env} {R : Room} {s : State} {m : MethodId} {args : Array Value} {below : List Frame} {meth : Method} {c : Code} {H : Heap} {locs : List Loc} {cells slots : Nat}
/-- a frame seen from a rebased start, seen from the first start again -/
theorem vx_back9 {T S : State} {R' : Room} {k n : Nat} (X : Stand p l e R s m args below meth c T locs cells slots) (Y : Stand p l e R' ((T.setVm s.vm).setFrames (.invoking m args :: below)) m args below meth c T [] 0 0) (Z : Stand p l e R' ((T.setVm s.vm).setFrames (.invoking m args :: below)) m args below meth c S [] k n) :
    Stand p l e R s m args below meth c S locs (cells + k) (slots + n) := by
  have hW0 : s.WarmedH ((T.setVm s.vm).setFrames (.invoking m args :: below)).vm := State.WarmedH.refl s
  refine { admits := X.admits, cas := X.cas, clock := X.clock, frames := X.frames, room := X.room, hears := X.hears, method := X.method, code := X.code, here := Z.here, tail := Z.tail, warmed := State.WarmedH.trans hW0 Z.warmed, limits := Z.limits.trans (Y.limits.symm.trans X.limits), bytes := Z.bytes.trans (Y.bytes.symm.trans X.bytes), same := ?_ }
  obtain ⟨e1, e2⟩ := Z.same
  rw [State.setFrames_setFrames] at e1
  have h2 : (T.setVm s.vm).sameButNew (S.setVm s.vm) [] k n := ⟨e1, e2⟩
  have h3 := X.same.trans h2
  rw [List.append_nil] at h3
  exact h3
/-- from the machine's note that E is thrown here with this text -/
def vx_Note (p : Program) (l : Launch) (e : Env) (R : Room) (s : State) (m : MethodId) (args : Array Value) (below : List Frame) (meth : Method) (c : Code) (H : Heap) (locs : List Loc) (cells slots : Nat) (Q : State → Prop) (g : JFrame) (E text : String) : Prop :=
  ∀ T : State, T.heap = H → Stand p l e R s m args below meth c T locs cells slots → ∃ t, Steps p.tables e below ((T.setTop g).pushFrame (.throwNew E (some text) none)) t ∧ Q t
theorem vx_vm {pc : Nat} {ls : Array Slot} {rest : List Value} {Q : State → Prop} (hexec : p.tables.exec = Jvm.exec) (hl : l.stackTraces = false) {cls text : String} {names : List String} {nb : Nat} {A : Nat → Prop}
    (hcls : Bundle.fit cls = true) (hnames : ∀ n ∈ names, Bundle.fit n = true) (hsoe : (cls == "java/lang/StackOverflowError") = false) (hoom : (cls == "java/lang/OutOfMemoryError") = false)
    (hat : ∀ w ∈ vx_atM cls names, w.before args s = true) (hgood : ∀ w ∈ vx_atM cls names, vx_ot w = true)
    (hU : vx_Zq Bundle.tN "UNASSIGNED_STACK" Bundle.steD A s s.heap) (hN : vx_Zq Bundle.tN "SUPPRESSED_SENTINEL" Bundle.listD A s s.heap) (hS : va_S A s.heap H locs) (hsize : ls.size = c.maxLocals)
    (htext : (text == notModelled) = false) (hnb : (stringBytes (stringToUtf16 text)).size ≤ nb) (hnb1 : nb ≤ 1000)
    (hRframes : names.length + 4 < R.frames) (hRlocals : (rest.map fun v => v.category).sum + 10240 ≤ R.locals) (hshort : 13 * names.length + 55 ≤ 10240) (hRcells : cells + 3 ≤ R.cells) (hRslots : slots + (nb + 10) ≤ R.slots) (hlocks : meth.locks = false)
    (k : ∀ (H1 : Heap) (q9 : Addr) (ce : Cell), H.size ≤ H1.size → (∀ q : Nat, q < H.size → H1[q]? = H[q]?) → va_S A s.heap H1 locs → H1[q9]? = some ce → ce.vm = .none → s.vm.findClass cls = some ce.cls → vx_W p l e R s m args below meth c H1 locs (cells + 3) (slots + (nb + 10)) Q (F0 m pc ls rest) q9) :
    vx_Note p l e R s m args below meth c H locs cells slots Q (F0 m pc ls rest) cls text := by
  intro T hT X
  have htr : e.platform.stackTraces = false := (show e.platform.stackTraces = l.stackTraces by rw [X.admits.platform]).trans hl
  have Y := vx_rebase X (R' := { frames := R.frames, locals := R.locals, cells := 3, slots := nb + 10 }) (Nat.le_refl _) (Nat.le_refl _) hRcells hRslots
  have hhp : ((T.setVm s.vm).setFrames (.invoking m args :: below)).heap = H := hT
  have hW0 : s.WarmedH ((T.setVm s.vm).setFrames (.invoking m args :: below)).vm := State.WarmedH.refl s
  have hat' : ∀ w ∈ vx_atM cls names, w.before args ((T.setVm s.vm).setFrames (.invoking m args :: below)) = true := fun w hw => vx_ot_at hW0 rfl (hgood w hw) (hat w hw)
  have hU' : vx_Zq Bundle.tN "UNASSIGNED_STACK" Bundle.steD A ((T.setVm s.vm).setFrames (.invoking m args :: below)) ((T.setVm s.vm).setFrames (.invoking m args :: below)).heap := by rw [hhp]; exact vx_Zq.moved hW0.alike (hU.kept hS.2.1)
  have hN' : vx_Zq Bundle.tN "SUPPRESSED_SENTINEL" Bundle.listD A ((T.setVm s.vm).setFrames (.invoking m args :: below)) ((T.setVm s.vm).setFrames (.invoking m args :: below)).heap := by rw [hhp]; exact vx_Zq.moved hW0.alike (hN.kept hS.2.1)
  obtain ⟨S, q, ce, st, Z, hce, hcl', hv⟩ := vx_vmAt Y hexec htr (cls := cls) (names := names) (text := text) hcls hnames hsoe hoom (vx_own hat' (vx_isRefq hU'.1) (vx_isRefq hN'.1) hU'.2.word hN'.2.word) (fun x hx => nomatch hx) htext
    (by rw [Launch.admits_arrayLengthLimit X.admits]; omega) (by rw [Launch.admits_maxHeapBytes X.admits]; simp only [componentBytes]; omega)
    (g := F0 m pc ls rest) rfl hsize hRframes (by show 2 * 0 + (rest.map fun v => v.category).sum + 10240 ≤ R.locals; omega) hshort (by show 0 + 3 ≤ 3; omega) (by show 0 + (_ + 4 + 6) ≤ nb + 10; omega) hlocks
  obtain ⟨f1, f2⟩ := vx_frame Z.same
  have f1' : H.size ≤ S.heap.size := by rw [← hT]; exact f1
  have f2' : ∀ q : Nat, q < H.size → S.heap[q]? = H[q]? := fun q hq => by
    rw [← hT]
    exact f2 q (by rw [← hT] at hq; exact hq) (fun z hz => nomatch hz)
  have X5 := vx_back9 X Y Z
  have X6 : Stand p l e R s m args below meth c S locs (cells + 3) (slots + (nb + 10)) := { X5 with same := X5.same.mono (by omega) (by omega) }
  obtain ⟨t, a1, b1⟩ := k S.heap q ce f1' f2' ⟨Nat.le_trans hS.1 f1', fun q h1 h2 => (f2' q (Nat.lt_of_lt_of_le h1 hS.1)).trans (hS.2.1 q h1 h2), hS.2.2⟩ hce hv hcl' S rfl X6
  exact ⟨t, st t a1, b1⟩
/-- from the machine's note that NullPointerException is thrown here -/
def vx_NoteN (p : Program) (l : Launch) (e : Env) (R : Room) (s : State) (m : MethodId) (args : Array Value) (below : List Frame) (meth : Method) (c : Code) (H : Heap) (locs : List Loc) (cells slots : Nat) (Q : State → Prop) (g : JFrame) : Prop :=
  ∀ T : State, T.heap = H → Stand p l e R s m args below meth c T locs cells slots → ∃ t, Steps p.tables e below ((T.setTop g).pushFrame (.throwNew "java/lang/NullPointerException" none none)) t ∧ Q t
theorem vx_npe {pc : Nat} {ls : Array Slot} {rest : List Value} {Q : State → Prop} (hexec : p.tables.exec = Jvm.exec) (hl : l.stackTraces = false) {nb : Nat} {A : Nat → Prop}
    (hat : ∀ w ∈ vx_atN nb, w.before args s = true) (hgood : ∀ w ∈ vx_atN nb, vx_ot w = true)
    (hU : vx_Zq Bundle.tN "UNASSIGNED_STACK" Bundle.steD A s s.heap) (hN : vx_Zq Bundle.tN "SUPPRESSED_SENTINEL" Bundle.listD A s s.heap) (hS : va_S A s.heap H locs) (hsize : ls.size = c.maxLocals)
    (hRframes : 7 < R.frames) (hRlocals : (rest.map fun v => v.category).sum + 10240 ≤ R.locals) (hRcells : cells + 1 ≤ R.cells) (hRslots : slots + nb ≤ R.slots) (hlocks : meth.locks = false)
    (k : ∀ (H1 : Heap) (q9 : Addr) (ce : Cell), H.size ≤ H1.size → (∀ q : Nat, q < H.size → H1[q]? = H[q]?) → va_S A s.heap H1 locs → H1[q9]? = some ce → ce.vm = .none → s.vm.findClass "java/lang/NullPointerException" = some ce.cls → vx_W p l e R s m args below meth c H1 locs (cells + 1) (slots + nb) Q (F0 m pc ls rest) q9) :
    vx_NoteN p l e R s m args below meth c H locs cells slots Q (F0 m pc ls rest) := by
  intro T hT X
  have htr : e.platform.stackTraces = false := (show e.platform.stackTraces = l.stackTraces by rw [X.admits.platform]).trans hl
  have Y := vx_rebase X (R' := { frames := R.frames, locals := R.locals, cells := 1, slots := nb }) (Nat.le_refl _) (Nat.le_refl _) hRcells hRslots
  have hhp : ((T.setVm s.vm).setFrames (.invoking m args :: below)).heap = H := hT
  have hW0 : s.WarmedH ((T.setVm s.vm).setFrames (.invoking m args :: below)).vm := State.WarmedH.refl s
  have hat' : ∀ w ∈ vx_atN nb, w.before args ((T.setVm s.vm).setFrames (.invoking m args :: below)) = true := fun w hw => vx_ot_at hW0 rfl (hgood w hw) (hat w hw)
  have hU' : vx_Zq Bundle.tN "UNASSIGNED_STACK" Bundle.steD A ((T.setVm s.vm).setFrames (.invoking m args :: below)) ((T.setVm s.vm).setFrames (.invoking m args :: below)).heap := by rw [hhp]; exact vx_Zq.moved hW0.alike (hU.kept hS.2.1)
  have hN' : vx_Zq Bundle.tN "SUPPRESSED_SENTINEL" Bundle.listD A ((T.setVm s.vm).setFrames (.invoking m args :: below)) ((T.setVm s.vm).setFrames (.invoking m args :: below)).heap := by rw [hhp]; exact vx_Zq.moved hW0.alike (hN.kept hS.2.1)
  obtain ⟨S, q, ce, st, Z, hce, hcl', hv⟩ := vx_npeAt Y hexec htr (n := nb) (vx_own hat' (vx_isRefq hU'.1) (vx_isRefq hN'.1) hU'.2.word hN'.2.word) (fun x hx => nomatch hx)
    (g := F0 m pc ls rest) rfl hsize hRframes (by show 2 * 0 + (rest.map fun v => v.category).sum + 10240 ≤ R.locals; omega) (by show 0 + 1 ≤ 1; omega) (by show 0 + nb ≤ nb; omega) hlocks
  obtain ⟨f1, f2⟩ := vx_frame Z.same
  have f1' : H.size ≤ S.heap.size := by rw [← hT]; exact f1
  have f2' : ∀ q : Nat, q < H.size → S.heap[q]? = H[q]? := fun q hq => by
    rw [← hT]
    exact f2 q (by rw [← hT] at hq; exact hq) (fun z hz => nomatch hz)
  have X5 := vx_back9 X Y Z
  have X6 : Stand p l e R s m args below meth c S locs (cells + 1) (slots + nb) := { X5 with same := X5.same.mono (by omega) (by omega) }
  obtain ⟨t, a1, b1⟩ := k S.heap q ce f1' f2' ⟨Nat.le_trans hS.1 f1', fun q h1 h2 => (f2' q (Nat.lt_of_lt_of_le h1 hS.1)).trans (hS.2.1 q h1 h2), hS.2.2⟩ hce hv hcl' S rfl X6
  exact ⟨t, st t a1, b1⟩
variable {Q : State → Prop} {cc : ByteArray} {pc : Nat} {ls : Array Slot} {rest : List Value}
theorem vx_idivZ (hexec : p.tables.exec = Jvm.exec) (hb : c.code = cc) {a b : Int32} (h0 : b = 0) (d : decode cc pc = .ok (.idiv, 1)) (k : vx_Note p l e R s m args below meth c H locs cells slots Q (F0 m pc ls rest) "java/lang/ArithmeticException" "/ by zero") :
    W p l e R s m args below meth c H locs cells slots Q (F0 m pc ls (.int b :: .int a :: rest)) := by
  intro T hT X
  obtain ⟨t, st, q⟩ := k T hT X
  exact ⟨t, X.idivZero hexec (g := F0 m pc ls (.int b :: .int a :: rest)) rfl (a := a) (rest := rest) (by rw [h0]) (by rw [hb]; exact d) t st, q⟩
theorem vx_iremZ (hexec : p.tables.exec = Jvm.exec) (hb : c.code = cc) {a b : Int32} (h0 : b = 0) (d : decode cc pc = .ok (.irem, 1)) (k : vx_Note p l e R s m args below meth c H locs cells slots Q (F0 m pc ls rest) "java/lang/ArithmeticException" "/ by zero") :
    W p l e R s m args below meth c H locs cells slots Q (F0 m pc ls (.int b :: .int a :: rest)) := by
  intro T hT X
  obtain ⟨t, st, q⟩ := k T hT X
  exact ⟨t, X.iremZero hexec (g := F0 m pc ls (.int b :: .int a :: rest)) rfl (a := a) (rest := rest) (by rw [h0]) (by rw [hb]; exact d) t st, q⟩
theorem vx_ldivZ (hexec : p.tables.exec = Jvm.exec) (hb : c.code = cc) {a b : Int64} (h0 : b = 0) (d : decode cc pc = .ok (.ldiv, 1)) (k : vx_Note p l e R s m args below meth c H locs cells slots Q (F0 m pc ls rest) "java/lang/ArithmeticException" "/ by zero") :
    W p l e R s m args below meth c H locs cells slots Q (F0 m pc ls (.long b :: .long a :: rest)) := by
  intro T hT X
  obtain ⟨t, st, q⟩ := k T hT X
  exact ⟨t, X.ldivZero hexec (g := F0 m pc ls (.long b :: .long a :: rest)) rfl (a := a) (rest := rest) (by rw [h0]) (by rw [hb]; exact d) t st, q⟩
theorem vx_lremZ (hexec : p.tables.exec = Jvm.exec) (hb : c.code = cc) {a b : Int64} (h0 : b = 0) (d : decode cc pc = .ok (.lrem, 1)) (k : vx_Note p l e R s m args below meth c H locs cells slots Q (F0 m pc ls rest) "java/lang/ArithmeticException" "/ by zero") :
    W p l e R s m args below meth c H locs cells slots Q (F0 m pc ls (.long b :: .long a :: rest)) := by
  intro T hT X
  obtain ⟨t, st, q⟩ := k T hT X
  exact ⟨t, X.lremZero hexec (g := F0 m pc ls (.long b :: .long a :: rest)) rfl (a := a) (rest := rest) (by rw [h0]) (by rw [hb]; exact d) t st, q⟩
theorem vx_ialdZ {D : va_G} {cl : List vw_C} {ws : va_W} {tys : List (ClassId × FieldType)} {a : Nat} (hexec : p.tables.exec = Jvm.exec) (hb : c.code = cc) (hK : va_K D cl tys s) (hP : va_P D cl ws H) (q0 t0 : Nat) {cA : ClassId} {n : Nat} {f : Nat → Int32} (ha : ws[q0]? = some (a, .inl (cA, n, .inl f))) (ht : tys[t0]? = some (cA, .int)) {i : Int32} (hout : ¬ vp_in i n) (hdg : decode cc pc = .ok (.iaload, 1))
    (k : ∀ tx : String, tx = (toString "Index " ++ toString i ++ toString " out of bounds for length " ++ toString n : String) → vx_Note p l e R s m args below meth c H locs cells slots Q (F0 m pc ls rest) "java/lang/ArrayIndexOutOfBoundsException" tx) : W p l e R s m args below meth c H locs cells slots Q (F0 m pc ls (.int i :: .ref a :: rest)) := by
  intro T hT X
  obtain ⟨t, st, q⟩ := k _ rfl T hT X
  refine ⟨t, ?_, q⟩
  have h1 := X.ialoadOut hexec (by rw [hT]; exact hP q0 _ ha) ((hK.2 t0 _ ht).1 n (fun j => .int (f j))) (j := i) (by show (i < 0 ∨ (arrV _ _ _).slots.size ≤ _); rw [arrV_size]; exact Classical.byContradiction hout) (g := F0 m pc ls (.int i :: .ref a :: rest)) rfl (rest := rest) rfl (by rw [hb]; exact hdg) t
  simp only [arrV_size] at h1
  exact h1 st
theorem vx_iastZ {D : va_G} {cl : List vw_C} {ws : va_W} {tys : List (ClassId × FieldType)} {a : Nat} (hexec : p.tables.exec = Jvm.exec) (hb : c.code = cc) (hK : va_K D cl tys s) (hP : va_P D cl ws H) (q0 t0 : Nat) {cA : ClassId} {n : Nat} {f : Nat → Int32} (ha : ws[q0]? = some (a, .inl (cA, n, .inl f))) (ht : tys[t0]? = some (cA, .int)) {i : Int32} {x : Int32} (hout : ¬ vp_in i n) (hdg : decode cc pc = .ok (.iastore, 1))
    (k : ∀ tx : String, tx = (toString "Index " ++ toString i ++ toString " out of bounds for length " ++ toString n : String) → vx_Note p l e R s m args below meth c H locs cells slots Q (F0 m pc ls rest) "java/lang/ArrayIndexOutOfBoundsException" tx) : W p l e R s m args below meth c H locs cells slots Q (F0 m pc ls (.int x :: .int i :: .ref a :: rest)) := by
  intro T hT X
  obtain ⟨t, st, q⟩ := k _ rfl T hT X
  refine ⟨t, ?_, q⟩
  have h1 := X.iastoreOut hexec (by rw [hT]; exact hP q0 _ ha) ((hK.2 t0 _ ht).1 n (fun j => .int (f j))) (j := i) (by show (i < 0 ∨ (arrV _ _ _).slots.size ≤ _); rw [arrV_size]; exact Classical.byContradiction hout) (g := F0 m pc ls (.int x :: .int i :: .ref a :: rest)) rfl (rest := rest) rfl (by rw [hb]; exact hdg) t
  simp only [arrV_size] at h1
  exact h1 st
theorem vx_baldZ {D : va_G} {cl : List vw_C} {ws : va_W} {tys : List (ClassId × FieldType)} {a : Nat} (hexec : p.tables.exec = Jvm.exec) (hb : c.code = cc) (hK : va_K D cl tys s) (hP : va_P D cl ws H) (q0 t0 : Nat) {cA : ClassId} {n : Nat} {f : Nat → Int32} (ha : ws[q0]? = some (a, .inl (cA, n, .inl f))) (ht : tys[t0]? = some (cA, .byte)) {i : Int32} (hout : ¬ vp_in i n) (hdg : decode cc pc = .ok (.baload, 1))
    (k : ∀ tx : String, tx = (toString "Index " ++ toString i ++ toString " out of bounds for length " ++ toString n : String) → vx_Note p l e R s m args below meth c H locs cells slots Q (F0 m pc ls rest) "java/lang/ArrayIndexOutOfBoundsException" tx) : W p l e R s m args below meth c H locs cells slots Q (F0 m pc ls (.int i :: .ref a :: rest)) := by
  intro T hT X
  obtain ⟨t, st, q⟩ := k _ rfl T hT X
  refine ⟨t, ?_, q⟩
  have h1 := X.baloadOut hexec (by rw [hT]; exact hP q0 _ ha) ((hK.2 t0 _ ht).1 n (fun j => .int (f j))) (j := i) (by show (i < 0 ∨ (arrV _ _ _).slots.size ≤ _); rw [arrV_size]; exact Classical.byContradiction hout) (g := F0 m pc ls (.int i :: .ref a :: rest)) rfl (rest := rest) rfl (by rw [hb]; exact hdg) t
  simp only [arrV_size] at h1
  exact h1 st
theorem vx_bastZ {D : va_G} {cl : List vw_C} {ws : va_W} {tys : List (ClassId × FieldType)} {a : Nat} (hexec : p.tables.exec = Jvm.exec) (hb : c.code = cc) (hK : va_K D cl tys s) (hP : va_P D cl ws H) (q0 t0 : Nat) {cA : ClassId} {n : Nat} {f : Nat → Int32} (ha : ws[q0]? = some (a, .inl (cA, n, .inl f))) (ht : tys[t0]? = some (cA, .byte)) {i : Int32} {x : Int32} (hout : ¬ vp_in i n) (hdg : decode cc pc = .ok (.bastore, 1))
    (k : ∀ tx : String, tx = (toString "Index " ++ toString i ++ toString " out of bounds for length " ++ toString n : String) → vx_Note p l e R s m args below meth c H locs cells slots Q (F0 m pc ls rest) "java/lang/ArrayIndexOutOfBoundsException" tx) : W p l e R s m args below meth c H locs cells slots Q (F0 m pc ls (.int x :: .int i :: .ref a :: rest)) := by
  intro T hT X
  obtain ⟨t, st, q⟩ := k _ rfl T hT X
  refine ⟨t, ?_, q⟩
  have h1 := X.bastoreOut hexec (by rw [hT]; exact hP q0 _ ha) ((hK.2 t0 _ ht).1 n (fun j => .int (f j))) (j := i) (by show (i < 0 ∨ (arrV _ _ _).slots.size ≤ _); rw [arrV_size]; exact Classical.byContradiction hout) (g := F0 m pc ls (.int x :: .int i :: .ref a :: rest)) rfl (rest := rest) rfl (by rw [hb]; exact hdg) t
  simp only [arrV_size] at h1
  exact h1 st
theorem vx_zaldZ {D : va_G} {cl : List vw_C} {ws : va_W} {tys : List (ClassId × FieldType)} {a : Nat} (hexec : p.tables.exec = Jvm.exec) (hb : c.code = cc) (hK : va_K D cl tys s) (hP : va_P D cl ws H) (q0 t0 : Nat) {cA : ClassId} {n : Nat} {f : Nat → Int32} (ha : ws[q0]? = some (a, .inl (cA, n, .inl f))) (ht : tys[t0]? = some (cA, .boolean)) {i : Int32} (hout : ¬ vp_in i n) (hdg : decode cc pc = .ok (.baload, 1))
    (k : ∀ tx : String, tx = (toString "Index " ++ toString i ++ toString " out of bounds for length " ++ toString n : String) → vx_Note p l e R s m args below meth c H locs cells slots Q (F0 m pc ls rest) "java/lang/ArrayIndexOutOfBoundsException" tx) : W p l e R s m args below meth c H locs cells slots Q (F0 m pc ls (.int i :: .ref a :: rest)) := by
  intro T hT X
  obtain ⟨t, st, q⟩ := k _ rfl T hT X
  refine ⟨t, ?_, q⟩
  have h1 := X.baloadOut hexec (by rw [hT]; exact hP q0 _ ha) ((hK.2 t0 _ ht).1 n (fun j => .int (f j))) (j := i) (by show (i < 0 ∨ (arrV _ _ _).slots.size ≤ _); rw [arrV_size]; exact Classical.byContradiction hout) (g := F0 m pc ls (.int i :: .ref a :: rest)) rfl (rest := rest) rfl (by rw [hb]; exact hdg) t
  simp only [arrV_size] at h1
  exact h1 st
theorem vx_zastZ {D : va_G} {cl : List vw_C} {ws : va_W} {tys : List (ClassId × FieldType)} {a : Nat} (hexec : p.tables.exec = Jvm.exec) (hb : c.code = cc) (hK : va_K D cl tys s) (hP : va_P D cl ws H) (q0 t0 : Nat) {cA : ClassId} {n : Nat} {f : Nat → Int32} (ha : ws[q0]? = some (a, .inl (cA, n, .inl f))) (ht : tys[t0]? = some (cA, .boolean)) {i : Int32} {x : Int32} (hout : ¬ vp_in i n) (hdg : decode cc pc = .ok (.bastore, 1))
    (k : ∀ tx : String, tx = (toString "Index " ++ toString i ++ toString " out of bounds for length " ++ toString n : String) → vx_Note p l e R s m args below meth c H locs cells slots Q (F0 m pc ls rest) "java/lang/ArrayIndexOutOfBoundsException" tx) : W p l e R s m args below meth c H locs cells slots Q (F0 m pc ls (.int x :: .int i :: .ref a :: rest)) := by
  intro T hT X
  obtain ⟨t, st, q⟩ := k _ rfl T hT X
  refine ⟨t, ?_, q⟩
  have h1 := X.bastoreOut hexec (by rw [hT]; exact hP q0 _ ha) ((hK.2 t0 _ ht).1 n (fun j => .int (f j))) (j := i) (by show (i < 0 ∨ (arrV _ _ _).slots.size ≤ _); rw [arrV_size]; exact Classical.byContradiction hout) (g := F0 m pc ls (.int x :: .int i :: .ref a :: rest)) rfl (rest := rest) rfl (by rw [hb]; exact hdg) t
  simp only [arrV_size] at h1
  exact h1 st
theorem vx_caldZ {D : va_G} {cl : List vw_C} {ws : va_W} {tys : List (ClassId × FieldType)} {a : Nat} (hexec : p.tables.exec = Jvm.exec) (hb : c.code = cc) (hK : va_K D cl tys s) (hP : va_P D cl ws H) (q0 t0 : Nat) {cA : ClassId} {n : Nat} {f : Nat → Int32} (ha : ws[q0]? = some (a, .inl (cA, n, .inl f))) (ht : tys[t0]? = some (cA, .char)) {i : Int32} (hout : ¬ vp_in i n) (hdg : decode cc pc = .ok (.caload, 1))
    (k : ∀ tx : String, tx = (toString "Index " ++ toString i ++ toString " out of bounds for length " ++ toString n : String) → vx_Note p l e R s m args below meth c H locs cells slots Q (F0 m pc ls rest) "java/lang/ArrayIndexOutOfBoundsException" tx) : W p l e R s m args below meth c H locs cells slots Q (F0 m pc ls (.int i :: .ref a :: rest)) := by
  intro T hT X
  obtain ⟨t, st, q⟩ := k _ rfl T hT X
  refine ⟨t, ?_, q⟩
  have h1 := X.caloadOut hexec (by rw [hT]; exact hP q0 _ ha) ((hK.2 t0 _ ht).1 n (fun j => .int (f j))) (j := i) (by show (i < 0 ∨ (arrV _ _ _).slots.size ≤ _); rw [arrV_size]; exact Classical.byContradiction hout) (g := F0 m pc ls (.int i :: .ref a :: rest)) rfl (rest := rest) rfl (by rw [hb]; exact hdg) t
  simp only [arrV_size] at h1
  exact h1 st
theorem vx_castZ {D : va_G} {cl : List vw_C} {ws : va_W} {tys : List (ClassId × FieldType)} {a : Nat} (hexec : p.tables.exec = Jvm.exec) (hb : c.code = cc) (hK : va_K D cl tys s) (hP : va_P D cl ws H) (q0 t0 : Nat) {cA : ClassId} {n : Nat} {f : Nat → Int32} (ha : ws[q0]? = some (a, .inl (cA, n, .inl f))) (ht : tys[t0]? = some (cA, .char)) {i : Int32} {x : Int32} (hout : ¬ vp_in i n) (hdg : decode cc pc = .ok (.castore, 1))
    (k : ∀ tx : String, tx = (toString "Index " ++ toString i ++ toString " out of bounds for length " ++ toString n : String) → vx_Note p l e R s m args below meth c H locs cells slots Q (F0 m pc ls rest) "java/lang/ArrayIndexOutOfBoundsException" tx) : W p l e R s m args below meth c H locs cells slots Q (F0 m pc ls (.int x :: .int i :: .ref a :: rest)) := by
  intro T hT X
  obtain ⟨t, st, q⟩ := k _ rfl T hT X
  refine ⟨t, ?_, q⟩
  have h1 := X.castoreOut hexec (by rw [hT]; exact hP q0 _ ha) ((hK.2 t0 _ ht).1 n (fun j => .int (f j))) (j := i) (by show (i < 0 ∨ (arrV _ _ _).slots.size ≤ _); rw [arrV_size]; exact Classical.byContradiction hout) (g := F0 m pc ls (.int x :: .int i :: .ref a :: rest)) rfl (rest := rest) rfl (by rw [hb]; exact hdg) t
  simp only [arrV_size] at h1
  exact h1 st
theorem vx_saldZ {D : va_G} {cl : List vw_C} {ws : va_W} {tys : List (ClassId × FieldType)} {a : Nat} (hexec : p.tables.exec = Jvm.exec) (hb : c.code = cc) (hK : va_K D cl tys s) (hP : va_P D cl ws H) (q0 t0 : Nat) {cA : ClassId} {n : Nat} {f : Nat → Int32} (ha : ws[q0]? = some (a, .inl (cA, n, .inl f))) (ht : tys[t0]? = some (cA, .short)) {i : Int32} (hout : ¬ vp_in i n) (hdg : decode cc pc = .ok (.saload, 1))
    (k : ∀ tx : String, tx = (toString "Index " ++ toString i ++ toString " out of bounds for length " ++ toString n : String) → vx_Note p l e R s m args below meth c H locs cells slots Q (F0 m pc ls rest) "java/lang/ArrayIndexOutOfBoundsException" tx) : W p l e R s m args below meth c H locs cells slots Q (F0 m pc ls (.int i :: .ref a :: rest)) := by
  intro T hT X
  obtain ⟨t, st, q⟩ := k _ rfl T hT X
  refine ⟨t, ?_, q⟩
  have h1 := X.saloadOut hexec (by rw [hT]; exact hP q0 _ ha) ((hK.2 t0 _ ht).1 n (fun j => .int (f j))) (j := i) (by show (i < 0 ∨ (arrV _ _ _).slots.size ≤ _); rw [arrV_size]; exact Classical.byContradiction hout) (g := F0 m pc ls (.int i :: .ref a :: rest)) rfl (rest := rest) rfl (by rw [hb]; exact hdg) t
  simp only [arrV_size] at h1
  exact h1 st
theorem vx_sastZ {D : va_G} {cl : List vw_C} {ws : va_W} {tys : List (ClassId × FieldType)} {a : Nat} (hexec : p.tables.exec = Jvm.exec) (hb : c.code = cc) (hK : va_K D cl tys s) (hP : va_P D cl ws H) (q0 t0 : Nat) {cA : ClassId} {n : Nat} {f : Nat → Int32} (ha : ws[q0]? = some (a, .inl (cA, n, .inl f))) (ht : tys[t0]? = some (cA, .short)) {i : Int32} {x : Int32} (hout : ¬ vp_in i n) (hdg : decode cc pc = .ok (.sastore, 1))
    (k : ∀ tx : String, tx = (toString "Index " ++ toString i ++ toString " out of bounds for length " ++ toString n : String) → vx_Note p l e R s m args below meth c H locs cells slots Q (F0 m pc ls rest) "java/lang/ArrayIndexOutOfBoundsException" tx) : W p l e R s m args below meth c H locs cells slots Q (F0 m pc ls (.int x :: .int i :: .ref a :: rest)) := by
  intro T hT X
  obtain ⟨t, st, q⟩ := k _ rfl T hT X
  refine ⟨t, ?_, q⟩
  have h1 := X.sastoreOut hexec (by rw [hT]; exact hP q0 _ ha) ((hK.2 t0 _ ht).1 n (fun j => .int (f j))) (j := i) (by show (i < 0 ∨ (arrV _ _ _).slots.size ≤ _); rw [arrV_size]; exact Classical.byContradiction hout) (g := F0 m pc ls (.int x :: .int i :: .ref a :: rest)) rfl (rest := rest) rfl (by rw [hb]; exact hdg) t
  simp only [arrV_size] at h1
  exact h1 st
theorem vx_laldZ {D : va_G} {cl : List vw_C} {ws : va_W} {tys : List (ClassId × FieldType)} {a : Nat} (hexec : p.tables.exec = Jvm.exec) (hb : c.code = cc) (hK : va_K D cl tys s) (hP : va_P D cl ws H) (q0 t0 : Nat) {cA : ClassId} {n : Nat} {f : Nat → Int64} (ha : ws[q0]? = some (a, .inl (cA, n, .inr (.inl f)))) (ht : tys[t0]? = some (cA, .long)) {i : Int32} (hout : ¬ vp_in i n) (hdg : decode cc pc = .ok (.laload, 1))
    (k : ∀ tx : String, tx = (toString "Index " ++ toString i ++ toString " out of bounds for length " ++ toString n : String) → vx_Note p l e R s m args below meth c H locs cells slots Q (F0 m pc ls rest) "java/lang/ArrayIndexOutOfBoundsException" tx) : W p l e R s m args below meth c H locs cells slots Q (F0 m pc ls (.int i :: .ref a :: rest)) := by
  intro T hT X
  obtain ⟨t, st, q⟩ := k _ rfl T hT X
  refine ⟨t, ?_, q⟩
  have h1 := X.laloadOut hexec (by rw [hT]; exact hP q0 _ ha) ((hK.2 t0 _ ht).1 n (fun j => .long (f j))) (j := i) (by show (i < 0 ∨ (arrV _ _ _).slots.size ≤ _); rw [arrV_size]; exact Classical.byContradiction hout) (g := F0 m pc ls (.int i :: .ref a :: rest)) rfl (rest := rest) rfl (by rw [hb]; exact hdg) t
  simp only [arrV_size] at h1
  exact h1 st
theorem vx_lastZ {D : va_G} {cl : List vw_C} {ws : va_W} {tys : List (ClassId × FieldType)} {a : Nat} (hexec : p.tables.exec = Jvm.exec) (hb : c.code = cc) (hK : va_K D cl tys s) (hP : va_P D cl ws H) (q0 t0 : Nat) {cA : ClassId} {n : Nat} {f : Nat → Int64} (ha : ws[q0]? = some (a, .inl (cA, n, .inr (.inl f)))) (ht : tys[t0]? = some (cA, .long)) {i : Int32} {x : Int64} (hout : ¬ vp_in i n) (hdg : decode cc pc = .ok (.lastore, 1))
    (k : ∀ tx : String, tx = (toString "Index " ++ toString i ++ toString " out of bounds for length " ++ toString n : String) → vx_Note p l e R s m args below meth c H locs cells slots Q (F0 m pc ls rest) "java/lang/ArrayIndexOutOfBoundsException" tx) : W p l e R s m args below meth c H locs cells slots Q (F0 m pc ls (.long x :: .int i :: .ref a :: rest)) := by
  intro T hT X
  obtain ⟨t, st, q⟩ := k _ rfl T hT X
  refine ⟨t, ?_, q⟩
  have h1 := X.lastoreOut hexec (by rw [hT]; exact hP q0 _ ha) ((hK.2 t0 _ ht).1 n (fun j => .long (f j))) (j := i) (by show (i < 0 ∨ (arrV _ _ _).slots.size ≤ _); rw [arrV_size]; exact Classical.byContradiction hout) (g := F0 m pc ls (.long x :: .int i :: .ref a :: rest)) rfl (rest := rest) rfl (by rw [hb]; exact hdg) t
  simp only [arrV_size] at h1
  exact h1 st
theorem vx_faldZ {D : va_G} {cl : List vw_C} {ws : va_W} {tys : List (ClassId × FieldType)} {a : Nat} (hexec : p.tables.exec = Jvm.exec) (hb : c.code = cc) (hK : va_K D cl tys s) (hP : va_P D cl ws H) (q0 t0 : Nat) {cA : ClassId} {n : Nat} {f : Nat → UInt32} (ha : ws[q0]? = some (a, .inl (cA, n, .inr (.inr (.inl f))))) (ht : tys[t0]? = some (cA, .float)) {i : Int32} (hout : ¬ vp_in i n) (hdg : decode cc pc = .ok (.faload, 1))
    (k : ∀ tx : String, tx = (toString "Index " ++ toString i ++ toString " out of bounds for length " ++ toString n : String) → vx_Note p l e R s m args below meth c H locs cells slots Q (F0 m pc ls rest) "java/lang/ArrayIndexOutOfBoundsException" tx) : W p l e R s m args below meth c H locs cells slots Q (F0 m pc ls (.int i :: .ref a :: rest)) := by
  intro T hT X
  obtain ⟨t, st, q⟩ := k _ rfl T hT X
  refine ⟨t, ?_, q⟩
  have h1 := X.faloadOut hexec (by rw [hT]; exact hP q0 _ ha) ((hK.2 t0 _ ht).1 n (fun j => .float (f j))) (j := i) (by show (i < 0 ∨ (arrV _ _ _).slots.size ≤ _); rw [arrV_size]; exact Classical.byContradiction hout) (g := F0 m pc ls (.int i :: .ref a :: rest)) rfl (rest := rest) rfl (by rw [hb]; exact hdg) t
  simp only [arrV_size] at h1
  exact h1 st
theorem vx_fastZ {D : va_G} {cl : List vw_C} {ws : va_W} {tys : List (ClassId × FieldType)} {a : Nat} (hexec : p.tables.exec = Jvm.exec) (hb : c.code = cc) (hK : va_K D cl tys s) (hP : va_P D cl ws H) (q0 t0 : Nat) {cA : ClassId} {n : Nat} {f : Nat → UInt32} (ha : ws[q0]? = some (a, .inl (cA, n, .inr (.inr (.inl f))))) (ht : tys[t0]? = some (cA, .float)) {i : Int32} {x : UInt32} (hout : ¬ vp_in i n) (hdg : decode cc pc = .ok (.fastore, 1))
    (k : ∀ tx : String, tx = (toString "Index " ++ toString i ++ toString " out of bounds for length " ++ toString n : String) → vx_Note p l e R s m args below meth c H locs cells slots Q (F0 m pc ls rest) "java/lang/ArrayIndexOutOfBoundsException" tx) : W p l e R s m args below meth c H locs cells slots Q (F0 m pc ls (.float x :: .int i :: .ref a :: rest)) := by
  intro T hT X
  obtain ⟨t, st, q⟩ := k _ rfl T hT X
  refine ⟨t, ?_, q⟩
  have h1 := X.fastoreOut hexec (by rw [hT]; exact hP q0 _ ha) ((hK.2 t0 _ ht).1 n (fun j => .float (f j))) (j := i) (by show (i < 0 ∨ (arrV _ _ _).slots.size ≤ _); rw [arrV_size]; exact Classical.byContradiction hout) (g := F0 m pc ls (.float x :: .int i :: .ref a :: rest)) rfl (rest := rest) rfl (by rw [hb]; exact hdg) t
  simp only [arrV_size] at h1
  exact h1 st
theorem vx_daldZ {D : va_G} {cl : List vw_C} {ws : va_W} {tys : List (ClassId × FieldType)} {a : Nat} (hexec : p.tables.exec = Jvm.exec) (hb : c.code = cc) (hK : va_K D cl tys s) (hP : va_P D cl ws H) (q0 t0 : Nat) {cA : ClassId} {n : Nat} {f : Nat → UInt64} (ha : ws[q0]? = some (a, .inl (cA, n, .inr (.inr (.inr (.inl f)))))) (ht : tys[t0]? = some (cA, .double)) {i : Int32} (hout : ¬ vp_in i n) (hdg : decode cc pc = .ok (.daload, 1))
    (k : ∀ tx : String, tx = (toString "Index " ++ toString i ++ toString " out of bounds for length " ++ toString n : String) → vx_Note p l e R s m args below meth c H locs cells slots Q (F0 m pc ls rest) "java/lang/ArrayIndexOutOfBoundsException" tx) : W p l e R s m args below meth c H locs cells slots Q (F0 m pc ls (.int i :: .ref a :: rest)) := by
  intro T hT X
  obtain ⟨t, st, q⟩ := k _ rfl T hT X
  refine ⟨t, ?_, q⟩
  have h1 := X.daloadOut hexec (by rw [hT]; exact hP q0 _ ha) ((hK.2 t0 _ ht).1 n (fun j => .double (f j))) (j := i) (by show (i < 0 ∨ (arrV _ _ _).slots.size ≤ _); rw [arrV_size]; exact Classical.byContradiction hout) (g := F0 m pc ls (.int i :: .ref a :: rest)) rfl (rest := rest) rfl (by rw [hb]; exact hdg) t
  simp only [arrV_size] at h1
  exact h1 st
theorem vx_dastZ {D : va_G} {cl : List vw_C} {ws : va_W} {tys : List (ClassId × FieldType)} {a : Nat} (hexec : p.tables.exec = Jvm.exec) (hb : c.code = cc) (hK : va_K D cl tys s) (hP : va_P D cl ws H) (q0 t0 : Nat) {cA : ClassId} {n : Nat} {f : Nat → UInt64} (ha : ws[q0]? = some (a, .inl (cA, n, .inr (.inr (.inr (.inl f)))))) (ht : tys[t0]? = some (cA, .double)) {i : Int32} {x : UInt64} (hout : ¬ vp_in i n) (hdg : decode cc pc = .ok (.dastore, 1))
    (k : ∀ tx : String, tx = (toString "Index " ++ toString i ++ toString " out of bounds for length " ++ toString n : String) → vx_Note p l e R s m args below meth c H locs cells slots Q (F0 m pc ls rest) "java/lang/ArrayIndexOutOfBoundsException" tx) : W p l e R s m args below meth c H locs cells slots Q (F0 m pc ls (.double x :: .int i :: .ref a :: rest)) := by
  intro T hT X
  obtain ⟨t, st, q⟩ := k _ rfl T hT X
  refine ⟨t, ?_, q⟩
  have h1 := X.dastoreOut hexec (by rw [hT]; exact hP q0 _ ha) ((hK.2 t0 _ ht).1 n (fun j => .double (f j))) (j := i) (by show (i < 0 ∨ (arrV _ _ _).slots.size ≤ _); rw [arrV_size]; exact Classical.byContradiction hout) (g := F0 m pc ls (.double x :: .int i :: .ref a :: rest)) rfl (rest := rest) rfl (by rw [hb]; exact hdg) t
  simp only [arrV_size] at h1
  exact h1 st
theorem vx_arraylengthN (hexec : p.tables.exec = Jvm.exec) (hb : c.code = cc) (hdg : decode cc pc = .ok (.arraylength, 1)) (k : vx_NoteN p l e R s m args below meth c H locs cells slots Q (F0 m pc ls rest)) : W p l e R s m args below meth c H locs cells slots Q (F0 m pc ls (.null :: rest)) := by
  intro T hT X
  obtain ⟨t, st, q⟩ := k T hT X
  exact ⟨t, X.arraylengthNull hexec (g := F0 m pc ls (.null :: rest)) rfl (rest := rest) rfl (by rw [hb]; exact hdg) t st, q⟩
theorem vx_ialoadN (hexec : p.tables.exec = Jvm.exec) (hb : c.code = cc) {i : Int32} (hdg : decode cc pc = .ok (.iaload, 1)) (k : vx_NoteN p l e R s m args below meth c H locs cells slots Q (F0 m pc ls rest)) : W p l e R s m args below meth c H locs cells slots Q (F0 m pc ls (.int i :: .null :: rest)) := by
  intro T hT X
  obtain ⟨t, st, q⟩ := k T hT X
  exact ⟨t, X.ialoadNull hexec (g := F0 m pc ls (.int i :: .null :: rest)) rfl (rest := rest) rfl (by rw [hb]; exact hdg) t st, q⟩
theorem vx_laloadN (hexec : p.tables.exec = Jvm.exec) (hb : c.code = cc) {i : Int32} (hdg : decode cc pc = .ok (.laload, 1)) (k : vx_NoteN p l e R s m args below meth c H locs cells slots Q (F0 m pc ls rest)) : W p l e R s m args below meth c H locs cells slots Q (F0 m pc ls (.int i :: .null :: rest)) := by
  intro T hT X
  obtain ⟨t, st, q⟩ := k T hT X
  exact ⟨t, X.laloadNull hexec (g := F0 m pc ls (.int i :: .null :: rest)) rfl (rest := rest) rfl (by rw [hb]; exact hdg) t st, q⟩
theorem vx_faloadN (hexec : p.tables.exec = Jvm.exec) (hb : c.code = cc) {i : Int32} (hdg : decode cc pc = .ok (.faload, 1)) (k : vx_NoteN p l e R s m args below meth c H locs cells slots Q (F0 m pc ls rest)) : W p l e R s m args below meth c H locs cells slots Q (F0 m pc ls (.int i :: .null :: rest)) := by
  intro T hT X
  obtain ⟨t, st, q⟩ := k T hT X
  exact ⟨t, X.faloadNull hexec (g := F0 m pc ls (.int i :: .null :: rest)) rfl (rest := rest) rfl (by rw [hb]; exact hdg) t st, q⟩
theorem vx_daloadN (hexec : p.tables.exec = Jvm.exec) (hb : c.code = cc) {i : Int32} (hdg : decode cc pc = .ok (.daload, 1)) (k : vx_NoteN p l e R s m args below meth c H locs cells slots Q (F0 m pc ls rest)) : W p l e R s m args below meth c H locs cells slots Q (F0 m pc ls (.int i :: .null :: rest)) := by
  intro T hT X
  obtain ⟨t, st, q⟩ := k T hT X
  exact ⟨t, X.daloadNull hexec (g := F0 m pc ls (.int i :: .null :: rest)) rfl (rest := rest) rfl (by rw [hb]; exact hdg) t st, q⟩
theorem vx_aaloadN (hexec : p.tables.exec = Jvm.exec) (hb : c.code = cc) {i : Int32} (hdg : decode cc pc = .ok (.aaload, 1)) (k : vx_NoteN p l e R s m args below meth c H locs cells slots Q (F0 m pc ls rest)) : W p l e R s m args below meth c H locs cells slots Q (F0 m pc ls (.int i :: .null :: rest)) := by
  intro T hT X
  obtain ⟨t, st, q⟩ := k T hT X
  exact ⟨t, X.aaloadNull hexec (g := F0 m pc ls (.int i :: .null :: rest)) rfl (rest := rest) rfl (by rw [hb]; exact hdg) t st, q⟩
theorem vx_baloadN (hexec : p.tables.exec = Jvm.exec) (hb : c.code = cc) {i : Int32} (hdg : decode cc pc = .ok (.baload, 1)) (k : vx_NoteN p l e R s m args below meth c H locs cells slots Q (F0 m pc ls rest)) : W p l e R s m args below meth c H locs cells slots Q (F0 m pc ls (.int i :: .null :: rest)) := by
  intro T hT X
  obtain ⟨t, st, q⟩ := k T hT X
  exact ⟨t, X.baloadNull hexec (g := F0 m pc ls (.int i :: .null :: rest)) rfl (rest := rest) rfl (by rw [hb]; exact hdg) t st, q⟩
theorem vx_caloadN (hexec : p.tables.exec = Jvm.exec) (hb : c.code = cc) {i : Int32} (hdg : decode cc pc = .ok (.caload, 1)) (k : vx_NoteN p l e R s m args below meth c H locs cells slots Q (F0 m pc ls rest)) : W p l e R s m args below meth c H locs cells slots Q (F0 m pc ls (.int i :: .null :: rest)) := by
  intro T hT X
  obtain ⟨t, st, q⟩ := k T hT X
  exact ⟨t, X.caloadNull hexec (g := F0 m pc ls (.int i :: .null :: rest)) rfl (rest := rest) rfl (by rw [hb]; exact hdg) t st, q⟩
theorem vx_saloadN (hexec : p.tables.exec = Jvm.exec) (hb : c.code = cc) {i : Int32} (hdg : decode cc pc = .ok (.saload, 1)) (k : vx_NoteN p l e R s m args below meth c H locs cells slots Q (F0 m pc ls rest)) : W p l e R s m args below meth c H locs cells slots Q (F0 m pc ls (.int i :: .null :: rest)) := by
  intro T hT X
  obtain ⟨t, st, q⟩ := k T hT X
  exact ⟨t, X.saloadNull hexec (g := F0 m pc ls (.int i :: .null :: rest)) rfl (rest := rest) rfl (by rw [hb]; exact hdg) t st, q⟩
theorem vx_iastoreN (hexec : p.tables.exec = Jvm.exec) (hb : c.code = cc) {x : Int32} {i : Int32} (hdg : decode cc pc = .ok (.iastore, 1)) (k : vx_NoteN p l e R s m args below meth c H locs cells slots Q (F0 m pc ls rest)) : W p l e R s m args below meth c H locs cells slots Q (F0 m pc ls (.int x :: .int i :: .null :: rest)) := by
  intro T hT X
  obtain ⟨t, st, q⟩ := k T hT X
  exact ⟨t, X.iastoreNull hexec (g := F0 m pc ls (.int x :: .int i :: .null :: rest)) rfl (rest := rest) rfl (by rw [hb]; exact hdg) t st, q⟩
theorem vx_lastoreN (hexec : p.tables.exec = Jvm.exec) (hb : c.code = cc) {x : Int64} {i : Int32} (hdg : decode cc pc = .ok (.lastore, 1)) (k : vx_NoteN p l e R s m args below meth c H locs cells slots Q (F0 m pc ls rest)) : W p l e R s m args below meth c H locs cells slots Q (F0 m pc ls (.long x :: .int i :: .null :: rest)) := by
  intro T hT X
  obtain ⟨t, st, q⟩ := k T hT X
  exact ⟨t, X.lastoreNull hexec (g := F0 m pc ls (.long x :: .int i :: .null :: rest)) rfl (rest := rest) rfl (by rw [hb]; exact hdg) t st, q⟩
theorem vx_fastoreN (hexec : p.tables.exec = Jvm.exec) (hb : c.code = cc) {x : UInt32} {i : Int32} (hdg : decode cc pc = .ok (.fastore, 1)) (k : vx_NoteN p l e R s m args below meth c H locs cells slots Q (F0 m pc ls rest)) : W p l e R s m args below meth c H locs cells slots Q (F0 m pc ls (.float x :: .int i :: .null :: rest)) := by
  intro T hT X
  obtain ⟨t, st, q⟩ := k T hT X
  exact ⟨t, X.fastoreNull hexec (g := F0 m pc ls (.float x :: .int i :: .null :: rest)) rfl (rest := rest) rfl (by rw [hb]; exact hdg) t st, q⟩
theorem vx_dastoreN (hexec : p.tables.exec = Jvm.exec) (hb : c.code = cc) {x : UInt64} {i : Int32} (hdg : decode cc pc = .ok (.dastore, 1)) (k : vx_NoteN p l e R s m args below meth c H locs cells slots Q (F0 m pc ls rest)) : W p l e R s m args below meth c H locs cells slots Q (F0 m pc ls (.double x :: .int i :: .null :: rest)) := by
  intro T hT X
  obtain ⟨t, st, q⟩ := k T hT X
  exact ⟨t, X.dastoreNull hexec (g := F0 m pc ls (.double x :: .int i :: .null :: rest)) rfl (rest := rest) rfl (by rw [hb]; exact hdg) t st, q⟩
theorem vx_bastoreN (hexec : p.tables.exec = Jvm.exec) (hb : c.code = cc) {x : Int32} {i : Int32} (hdg : decode cc pc = .ok (.bastore, 1)) (k : vx_NoteN p l e R s m args below meth c H locs cells slots Q (F0 m pc ls rest)) : W p l e R s m args below meth c H locs cells slots Q (F0 m pc ls (.int x :: .int i :: .null :: rest)) := by
  intro T hT X
  obtain ⟨t, st, q⟩ := k T hT X
  exact ⟨t, X.bastoreNull hexec (g := F0 m pc ls (.int x :: .int i :: .null :: rest)) rfl (rest := rest) rfl (by rw [hb]; exact hdg) t st, q⟩
theorem vx_castoreN (hexec : p.tables.exec = Jvm.exec) (hb : c.code = cc) {x : Int32} {i : Int32} (hdg : decode cc pc = .ok (.castore, 1)) (k : vx_NoteN p l e R s m args below meth c H locs cells slots Q (F0 m pc ls rest)) : W p l e R s m args below meth c H locs cells slots Q (F0 m pc ls (.int x :: .int i :: .null :: rest)) := by
  intro T hT X
  obtain ⟨t, st, q⟩ := k T hT X
  exact ⟨t, X.castoreNull hexec (g := F0 m pc ls (.int x :: .int i :: .null :: rest)) rfl (rest := rest) rfl (by rw [hb]; exact hdg) t st, q⟩
theorem vx_sastoreN (hexec : p.tables.exec = Jvm.exec) (hb : c.code = cc) {x : Int32} {i : Int32} (hdg : decode cc pc = .ok (.sastore, 1)) (k : vx_NoteN p l e R s m args below meth c H locs cells slots Q (F0 m pc ls rest)) : W p l e R s m args below meth c H locs cells slots Q (F0 m pc ls (.int x :: .int i :: .null :: rest)) := by
  intro T hT X
  obtain ⟨t, st, q⟩ := k T hT X
  exact ⟨t, X.sastoreNull hexec (g := F0 m pc ls (.int x :: .int i :: .null :: rest)) rfl (rest := rest) rfl (by rw [hb]; exact hdg) t st, q⟩
theorem vx_invokeN {own C : String} {index maxL : Nat} {y : MethodName} {bytes : ByteArray} {ret : Option FieldType} (hexec : p.tables.exec = Jvm.exec) (hb : c.code = cc) (hown : s.vm.findClass own = some m.cls) (hlink : (Cond.methodLink own index y).before args s = true) (hinst : (Cond.instanceMethod y).before args s = true) (hcode : (Cond.code y bytes maxL ret).before args s = true) (hsel : (Cond.selects C y y).before args s = true)
    (hx : y.cls ≠ "java/lang/invoke/MethodHandle" ∧ y.cls ≠ "java/lang/invoke/VarHandle") {As : List Value} (hlen : (parseMethodDescriptor y.desc).map (fun d => d.parameters.length) = some As.length) (hdg : decode cc pc = .ok (.invokevirtual index, 3))
    (k : vx_NoteN p l e R s m args below meth c H locs cells slots Q (F0 m pc ls rest)) {st0 : List Value} (hst : st0 = As.reverse ++ .null :: rest) : W p l e R s m args below meth c H locs cells slots Q (F0 m pc ls st0) := by
  intro T hT X
  obtain ⟨r0, r, hn, hrm, hstR, hsigR⟩ := va_Decl.of hinst hcode
  obtain ⟨c2, r2, m2, q1, q2, q3, q4, kP, hkP, hkPi⟩ := Cond.selects_spec hsel
  cases hn.symm.trans q3
  have hl9 : As.length = r.sig.parameters.length := by
    rw [hsigR] at hlen
    exact (Option.some.inj hlen).symm
  obtain ⟨vm', X1, st1⟩ := X.invokevirtualNull hexec hown hlink hn hrm hstR hkP hkPi hx (g := F0 m pc ls st0) rfl (argsL := As) (rest := rest) hl9 hst (by rw [hb]; exact hdg)
  obtain ⟨t, st, q⟩ := k (T.setVm vm') hT X1
  exact ⟨t, st1 t st, q⟩
theorem vx_newarrayZ {atype : ArrayType} (hexec : p.tables.exec = Jvm.exec) (hb : c.code = cc) {n : Int32} (h0 : n < 0) (hdg : decode cc pc = .ok (.newarray atype, 2)) (k : ∀ tx : String, tx = toString n → vx_Note p l e R s m args below meth c H locs cells slots Q (F0 m pc ls rest) "java/lang/NegativeArraySizeException" tx) : W p l e R s m args below meth c H locs cells slots Q (F0 m pc ls (.int n :: rest)) := by
  intro T hT X
  obtain ⟨t, st, q⟩ := k _ rfl T hT X
  exact ⟨t, X.newarrayNegative hexec (g := F0 m pc ls (.int n :: rest)) rfl h0 (rest := rest) rfl (by rw [hb]; exact hdg) t st, q⟩
end
end VXM
/-! ===== END ===== -/
end
section
def RX0 : String := "SnowLedger$FlakeTable"
def TX0 : u_T := fun k => match k with
  | 0 => ("SnowLedger$FlakeTable", "sizes", "LSnowLedger$Row;", true)
  | 1 => ("SnowLedger$FlakeTable", "flakes", "LSnowLedger$Row;", true)
  | _ => ("SnowLedger$FlakeTable", "list", "LSnowLedger$Row;", true)
def tyX0 : Nat → FieldType := fun k => match k with
  | 0 => .object "SnowLedger$Row"
  | 1 => .object "SnowLedger$Row"
  | _ => .object "SnowLedger$Row"
abbrev wsX00 : List Cond := u_ws RX0 TX0 3
theorem nmX0 : ∀ a, a < 3 → ∀ b, b < 3 → a ≠ b → (TX0 a).2.1 ≠ (TX0 b).2.1 := by decide +kernel
theorem tyX0_ok : ∀ k, k < 3 → parseFieldDescriptor (TX0 k).2.2.1 = some (tyX0 k) := by decide +kernel
abbrev cX0_init : ByteArray := prog_2_method_1_code
def yX0_init : MethodName := ⟨RX0, "<init>", "(I)V"⟩
abbrev cX0_size : ByteArray := prog_2_method_2_code
def yX0_size : MethodName := ⟨RX0, "size", "(I)I"⟩
abbrev cX0_hasPosition : ByteArray := prog_2_method_3_code
def yX0_hasPosition : MethodName := ⟨RX0, "hasPosition", "(II)Z"⟩
abbrev cX0_flake : ByteArray := prog_2_method_4_code
def yX0_flake : MethodName := ⟨RX0, "flake", "(II)I"⟩
abbrev cX0_replace : ByteArray := prog_2_method_6_code
def yX0_replace : MethodName := ⟨RX0, "replace", "(III)V"⟩
abbrev cX0_add : ByteArray := prog_2_method_7_code
def yX0_add : MethodName := ⟨RX0, "add", "(II)V"⟩
abbrev cX0_clear : ByteArray := prog_2_method_8_code
def yX0_clear : MethodName := ⟨RX0, "clear", "(I)V"⟩
abbrev cX0_takeList : ByteArray := prog_2_method_9_code
def yX0_takeList : MethodName := ⟨RX0, "takeList", "(ILSnowLedger$FlakeTable;I)V"⟩
abbrev cX0_copyFrom : ByteArray := prog_2_method_10_code
def yX0_copyFrom : MethodName := ⟨RX0, "copyFrom", "(LSnowLedger$FlakeTable;)V"⟩
abbrev cX0_rootByLists : ByteArray := prog_2_method_11_code
def yX0_rootByLists : MethodName := ⟨RX0, "rootByLists", "(I)I"⟩
abbrev cX0_rootByHalves : ByteArray := prog_2_method_12_code
def yX0_rootByHalves : MethodName := ⟨RX0, "rootByHalves", "(I)I"⟩
abbrev cX0_rootOfHalf : ByteArray := prog_2_method_13_code
def yX0_rootOfHalf : MethodName := ⟨RX0, "rootOfHalf", "(LSnowLedger$Row;III)I"⟩
def RX1 : String := "SnowLedger$History"
def TX1 : u_T := fun k => match k with
  | 0 => ("SnowLedger$History", "ring", "[LSnowLedger$State;", true)
  | 1 => ("SnowLedger$History", "next", "I", false)
  | _ => ("SnowLedger$History", "size", "I", false)
def tyX1 : Nat → FieldType := fun k => match k with
  | 0 => .array (.object "SnowLedger$State")
  | 1 => .int
  | _ => .int
abbrev wsX10 : List Cond := u_ws RX1 TX1 3
theorem nmX1 : ∀ a, a < 3 → ∀ b, b < 3 → a ≠ b → (TX1 a).2.1 ≠ (TX1 b).2.1 := by decide +kernel
theorem tyX1_ok : ∀ k, k < 3 → parseFieldDescriptor (TX1 k).2.2.1 = some (tyX1 k) := by decide +kernel
abbrev cX1_init : ByteArray := prog_3_method_1_code
def yX1_init : MethodName := ⟨RX1, "<init>", "()V"⟩
abbrev cX1_keep : ByteArray := prog_3_method_2_code
def yX1_keep : MethodName := ⟨RX1, "keep", "(LSnowLedger$State;)V"⟩
abbrev cX1_takeBack : ByteArray := prog_3_method_3_code
def yX1_takeBack : MethodName := ⟨RX1, "takeBack", "(LSnowLedger$State;)V"⟩
abbrev cX1_forget : ByteArray := prog_3_method_4_code
def yX1_forget : MethodName := ⟨RX1, "forget", "()V"⟩
def RX2 : String := "SnowLedger$Refusal"
def TX2 : u_T := fun k => match k with
  | _ => ("", "", "", false)
def tyX2 : Nat → FieldType := fun k => match k with
  | _ => .int
abbrev wsX20 : List Cond := u_ws RX2 TX2 0
theorem nmX2 : ∀ a, a < 0 → ∀ b, b < 0 → a ≠ b → (TX2 a).2.1 ≠ (TX2 b).2.1 := by decide +kernel
theorem tyX2_ok : ∀ k, k < 0 → parseFieldDescriptor (TX2 k).2.2.1 = some (tyX2 k) := by decide +kernel
def RX3 : String := "SnowLedger$Row"
def TX3 : u_T := fun k => match k with
  | _ => ("SnowLedger$Row", "cells", "[I", true)
def tyX3 : Nat → FieldType := fun k => match k with
  | _ => .array .int
abbrev wsX30 : List Cond := u_ws RX3 TX3 1
theorem nmX3 : ∀ a, a < 1 → ∀ b, b < 1 → a ≠ b → (TX3 a).2.1 ≠ (TX3 b).2.1 := by decide +kernel
theorem tyX3_ok : ∀ k, k < 1 → parseFieldDescriptor (TX3 k).2.2.1 = some (tyX3 k) := by decide +kernel
abbrev cX3_init : ByteArray := prog_5_method_1_code
def yX3_init : MethodName := ⟨RX3, "<init>", "(II)V"⟩
abbrev cX3_at : ByteArray := prog_5_method_2_code
def yX3_at : MethodName := ⟨RX3, "at", "(I)I"⟩
abbrev cX3_put : ByteArray := prog_5_method_3_code
def yX3_put : MethodName := ⟨RX3, "put", "(II)V"⟩
abbrev cX3_fill : ByteArray := prog_5_method_4_code
def yX3_fill : MethodName := ⟨RX3, "fill", "(I)V"⟩
abbrev cX3_copyFrom : ByteArray := prog_5_method_5_code
def yX3_copyFrom : MethodName := ⟨RX3, "copyFrom", "(LSnowLedger$Row;)V"⟩
def RX4 : String := "SnowLedger$Script"
def TX4 : u_T := fun k => match k with
  | 0 => ("SnowLedger$Script", "text", "Ljava/lang/StringBuilder;", true)
  | 1 => ("SnowLedger$Script", "kind", "LSnowLedger$Row;", true)
  | 2 => ("SnowLedger$Script", "first", "LSnowLedger$Row;", true)
  | 3 => ("SnowLedger$Script", "second", "LSnowLedger$Row;", true)
  | 4 => ("SnowLedger$Script", "third", "LSnowLedger$Row;", true)
  | 5 => ("SnowLedger$Script", "command", "LSnowLedger$Row;", true)
  | 6 => ("SnowLedger$Script", "steps", "I", false)
  | 7 => ("SnowLedger$Script", "commands", "I", false)
  | _ => ("SnowLedger$Script", "stoppedAt", "I", false)
def tyX4 : Nat → FieldType := fun k => match k with
  | 0 => .object "java/lang/StringBuilder"
  | 1 => .object "SnowLedger$Row"
  | 2 => .object "SnowLedger$Row"
  | 3 => .object "SnowLedger$Row"
  | 4 => .object "SnowLedger$Row"
  | 5 => .object "SnowLedger$Row"
  | 6 => .int
  | 7 => .int
  | _ => .int
abbrev wsX40 : List Cond := u_ws RX4 TX4 9
theorem nmX4 : ∀ a, a < 9 → ∀ b, b < 9 → a ≠ b → (TX4 a).2.1 ≠ (TX4 b).2.1 := by decide +kernel
theorem tyX4_ok : ∀ k, k < 9 → parseFieldDescriptor (TX4 k).2.2.1 = some (tyX4 k) := by decide +kernel
abbrev cX4_init : ByteArray := prog_6_method_1_code
def yX4_init : MethodName := ⟨RX4, "<init>", "()V"⟩
abbrev cX4_length : ByteArray := prog_6_method_2_code
def yX4_length : MethodName := ⟨RX4, "length", "()I"⟩
abbrev cX4_append : ByteArray := prog_6_method_3_code
def yX4_append : MethodName := ⟨RX4, "append", "(C)I"⟩
abbrev cX4_empty : ByteArray := prog_6_method_4_code
def yX4_empty : MethodName := ⟨RX4, "empty", "()V"⟩
abbrev cX4_parse : ByteArray := prog_6_method_5_code
def yX4_parse : MethodName := ⟨RX4, "parse", "()Z"⟩
abbrev cX4_readCommand : ByteArray := prog_6_method_6_code
def yX4_readCommand : MethodName := ⟨RX4, "readCommand", "()Z"⟩
abbrev cX4_readWriting : ByteArray := prog_6_method_7_code
def yX4_readWriting : MethodName := ⟨RX4, "readWriting", "()Z"⟩
abbrev cX4_readFollowing : ByteArray := prog_6_method_8_code
def yX4_readFollowing : MethodName := ⟨RX4, "readFollowing", "()Z"⟩
abbrev cX4_readSwapping : ByteArray := prog_6_method_9_code
def yX4_readSwapping : MethodName := ⟨RX4, "readSwapping", "()Z"⟩
abbrev cX4_readMeltingOrMending : ByteArray := prog_6_method_10_code
def yX4_readMeltingOrMending : MethodName := ⟨RX4, "readMeltingOrMending", "()Z"⟩
abbrev cX4_addStep : ByteArray := prog_6_method_11_code
def yX4_addStep : MethodName := ⟨RX4, "addStep", "(IIII)Z"⟩
abbrev cX4_readNumber : ByteArray := prog_6_method_12_code
def yX4_readNumber : MethodName := ⟨RX4, "readNumber", "()I"⟩
abbrev cX4_readDigit : ByteArray := prog_6_method_13_code
def yX4_readDigit : MethodName := ⟨RX4, "readDigit", "()I"⟩
abbrev cX4_readWord : ByteArray := prog_6_method_14_code
def yX4_readWord : MethodName := ⟨RX4, "readWord", "(Ljava/lang/String;)Z"⟩
abbrev cX4_readSign : ByteArray := prog_6_method_15_code
def yX4_readSign : MethodName := ⟨RX4, "readSign", "(C)Z"⟩
abbrev cX4_sign : ByteArray := prog_6_method_16_code
def yX4_sign : MethodName := ⟨RX4, "sign", "()I"⟩
def RX5 : String := "SnowLedger$State"
def TX5 : u_T := fun k => match k with
  | 0 => ("SnowLedger$State", "number", "LSnowLedger$Row;", true)
  | 1 => ("SnowLedger$State", "parent", "LSnowLedger$Row;", true)
  | 2 => ("SnowLedger$State", "writer", "LSnowLedger$Row;", true)
  | 3 => ("SnowLedger$State", "hash", "LSnowLedger$Row;", true)
  | 4 => ("SnowLedger$State", "nonce", "LSnowLedger$Row;", true)
  | 5 => ("SnowLedger$State", "blockFlakes", "LSnowLedger$FlakeTable;", true)
  | 6 => ("SnowLedger$State", "followed", "LSnowLedger$Row;", true)
  | 7 => ("SnowLedger$State", "hillFlakes", "LSnowLedger$FlakeTable;", true)
  | 8 => ("SnowLedger$State", "hills", "I", false)
  | 9 => ("SnowLedger$State", "nextNumber", "I", false)
  | 10 => ("SnowLedger$State", "written", "I", false)
  | _ => ("SnowLedger$State", "melted", "I", false)
def tyX5 : Nat → FieldType := fun k => match k with
  | 0 => .object "SnowLedger$Row"
  | 1 => .object "SnowLedger$Row"
  | 2 => .object "SnowLedger$Row"
  | 3 => .object "SnowLedger$Row"
  | 4 => .object "SnowLedger$Row"
  | 5 => .object "SnowLedger$FlakeTable"
  | 6 => .object "SnowLedger$Row"
  | 7 => .object "SnowLedger$FlakeTable"
  | 8 => .int
  | 9 => .int
  | 10 => .int
  | _ => .int
abbrev wsX50 : List Cond := u_ws RX5 TX5 12
theorem nmX5 : ∀ a, a < 12 → ∀ b, b < 12 → a ≠ b → (TX5 a).2.1 ≠ (TX5 b).2.1 := by decide +kernel
theorem tyX5_ok : ∀ k, k < 12 → parseFieldDescriptor (TX5 k).2.2.1 = some (tyX5 k) := by decide +kernel
abbrev cX5_init : ByteArray := prog_7_method_1_code
def yX5_init : MethodName := ⟨RX5, "<init>", "()V"⟩
abbrev cX5_copyFrom : ByteArray := prog_7_method_2_code
def yX5_copyFrom : MethodName := ⟨RX5, "copyFrom", "(LSnowLedger$State;)V"⟩
abbrev cX5_hasHill : ByteArray := prog_7_method_3_code
def yX5_hasHill : MethodName := ⟨RX5, "hasHill", "(I)Z"⟩
abbrev cX5_isUsed : ByteArray := prog_7_method_4_code
def yX5_isUsed : MethodName := ⟨RX5, "isUsed", "(I)Z"⟩
abbrev cX5_slotOf : ByteArray := prog_7_method_5_code
def yX5_slotOf : MethodName := ⟨RX5, "slotOf", "(I)I"⟩
abbrev cX5_freeSlot : ByteArray := prog_7_method_6_code
def yX5_freeSlot : MethodName := ⟨RX5, "freeSlot", "()I"⟩
abbrev cX5_free : ByteArray := prog_7_method_7_code
def yX5_free : MethodName := ⟨RX5, "free", "(I)V"⟩
def RX6 : String := "SnowLedger$Survey"
def TX6 : u_T := fun k => match k with
  | 0 => ("SnowLedger$Survey", "state", "LSnowLedger$State;", true)
  | _ => ("SnowLedger$Survey", "marks", "LSnowLedger$Row;", true)
def tyX6 : Nat → FieldType := fun k => match k with
  | 0 => .object "SnowLedger$State"
  | _ => .object "SnowLedger$Row"
abbrev wsX60 : List Cond := u_ws RX6 TX6 2
theorem nmX6 : ∀ a, a < 2 → ∀ b, b < 2 → a ≠ b → (TX6 a).2.1 ≠ (TX6 b).2.1 := by decide +kernel
theorem tyX6_ok : ∀ k, k < 2 → parseFieldDescriptor (TX6 k).2.2.1 = some (tyX6 k) := by decide +kernel
abbrev cX6_init : ByteArray := prog_8_method_1_code
def yX6_init : MethodName := ⟨RX6, "<init>", "(LSnowLedger$State;)V"⟩
abbrev cX6_countBlocks : ByteArray := prog_8_method_2_code
def yX6_countBlocks : MethodName := ⟨RX6, "countBlocks", "()I"⟩
abbrev cX6_countChildren : ByteArray := prog_8_method_3_code
def yX6_countChildren : MethodName := ⟨RX6, "countChildren", "(I)I"⟩
abbrev cX6_countWrittenBy : ByteArray := prog_8_method_4_code
def yX6_countWrittenBy : MethodName := ⟨RX6, "countWrittenBy", "(I)I"⟩
abbrev cX6_heightByWalk : ByteArray := prog_8_method_5_code
def yX6_heightByWalk : MethodName := ⟨RX6, "heightByWalk", "(I)I"⟩
abbrev cX6_heightBySearch : ByteArray := prog_8_method_6_code
def yX6_heightBySearch : MethodName := ⟨RX6, "heightBySearch", "(I)I"⟩
abbrev cX6_depthBelow : ByteArray := prog_8_method_7_code
def yX6_depthBelow : MethodName := ⟨RX6, "depthBelow", "(LSnowLedger$Row;III)I"⟩
abbrev cX6_countAtHeight : ByteArray := prog_8_method_8_code
def yX6_countAtHeight : MethodName := ⟨RX6, "countAtHeight", "(I)I"⟩
abbrev cX6_holds : ByteArray := prog_8_method_9_code
def yX6_holds : MethodName := ⟨RX6, "holds", "(I)Z"⟩
abbrev cX6_countHolding : ByteArray := prog_8_method_10_code
def yX6_countHolding : MethodName := ⟨RX6, "countHolding", "()I"⟩
abbrev cX6_lowestBroken : ByteArray := prog_8_method_11_code
def yX6_lowestBroken : MethodName := ⟨RX6, "lowestBroken", "(I)I"⟩
abbrev cX6_countRepairs : ByteArray := prog_8_method_12_code
def yX6_countRepairs : MethodName := ⟨RX6, "countRepairs", "(I)I"⟩
abbrev cX6_ancestor : ByteArray := prog_8_method_13_code
def yX6_ancestor : MethodName := ⟨RX6, "ancestor", "(II)I"⟩
abbrev cX6_reaches : ByteArray := prog_8_method_14_code
def yX6_reaches : MethodName := ⟨RX6, "reaches", "(II)Z"⟩
abbrev cX6_countReaching : ByteArray := prog_8_method_15_code
def yX6_countReaching : MethodName := ⟨RX6, "countReaching", "(I)I"⟩
abbrev cX6_fork : ByteArray := prog_8_method_16_code
def yX6_fork : MethodName := ⟨RX6, "fork", "(II)I"⟩
abbrev cX6_countCommonFlakes : ByteArray := prog_8_method_17_code
def yX6_countCommonFlakes : MethodName := ⟨RX6, "countCommonFlakes", "(II)I"⟩
abbrev cX6_markFlakes : ByteArray := prog_8_method_18_code
def yX6_markFlakes : MethodName := ⟨RX6, "markFlakes", "(II)V"⟩
abbrev cX6_isTip : ByteArray := prog_8_method_21_code
def yX6_isTip : MethodName := ⟨RX6, "isTip", "(I)Z"⟩
abbrev cX6_countTips : ByteArray := prog_8_method_22_code
def yX6_countTips : MethodName := ⟨RX6, "countTips", "()I"⟩
abbrev cX6_sumOfTipHeights : ByteArray := prog_8_method_23_code
def yX6_sumOfTipHeights : MethodName := ⟨RX6, "sumOfTipHeights", "()I"⟩
abbrev cX6_tipRanked : ByteArray := prog_8_method_24_code
def yX6_tipRanked : MethodName := ⟨RX6, "tipRanked", "(I)I"⟩
abbrev cX6_countTipsBefore : ByteArray := prog_8_method_25_code
def yX6_countTipsBefore : MethodName := ⟨RX6, "countTipsBefore", "(I)I"⟩
abbrev cX6_ranksBefore : ByteArray := prog_8_method_26_code
def yX6_ranksBefore : MethodName := ⟨RX6, "ranksBefore", "(II)Z"⟩
abbrev cX6_best : ByteArray := prog_8_method_27_code
def yX6_best : MethodName := ⟨RX6, "best", "()I"⟩
abbrev cX6_waysAgree : ByteArray := prog_8_method_28_code
def yX6_waysAgree : MethodName := ⟨RX6, "waysAgree", "()Z"⟩
abbrev cX6_hashesAreSteps : ByteArray := prog_8_method_29_code
def yX6_hashesAreSteps : MethodName := ⟨RX6, "hashesAreSteps", "()Z"⟩
def RX7 : String := "SnowLedger$Work"
def TX7 : u_T := fun k => match k with
  | 0 => ("SnowLedger$Work", "state", "LSnowLedger$State;", true)
  | 1 => ("SnowLedger$Work", "survey", "LSnowLedger$Survey;", true)
  | _ => ("SnowLedger$Work", "doomed", "LSnowLedger$Row;", true)
def tyX7 : Nat → FieldType := fun k => match k with
  | 0 => .object "SnowLedger$State"
  | 1 => .object "SnowLedger$Survey"
  | _ => .object "SnowLedger$Row"
abbrev wsX70 : List Cond := u_ws RX7 TX7 3
theorem nmX7 : ∀ a, a < 3 → ∀ b, b < 3 → a ≠ b → (TX7 a).2.1 ≠ (TX7 b).2.1 := by decide +kernel
theorem tyX7_ok : ∀ k, k < 3 → parseFieldDescriptor (TX7 k).2.2.1 = some (tyX7 k) := by decide +kernel
abbrev cX7_init : ByteArray := prog_9_method_1_code
def yX7_init : MethodName := ⟨RX7, "<init>", "(LSnowLedger$State;LSnowLedger$Survey;)V"⟩
abbrev cX7_refusalOf : ByteArray := prog_9_method_2_code
def yX7_refusalOf : MethodName := ⟨RX7, "refusalOf", "(IIII)LSnowLedger$Refusal;"⟩
abbrev cX7_carryOut : ByteArray := prog_9_method_3_code
def yX7_carryOut : MethodName := ⟨RX7, "carryOut", "(IIII)I"⟩
abbrev cX7_refusalToRaiseHill : ByteArray := prog_9_method_4_code
def yX7_refusalToRaiseHill : MethodName := ⟨RX7, "refusalToRaiseHill", "()LSnowLedger$Refusal;"⟩
abbrev cX7_raiseHill : ByteArray := prog_9_method_5_code
def yX7_raiseHill : MethodName := ⟨RX7, "raiseHill", "()I"⟩
abbrev cX7_refusalToHold : ByteArray := prog_9_method_6_code
def yX7_refusalToHold : MethodName := ⟨RX7, "refusalToHold", "(II)LSnowLedger$Refusal;"⟩
abbrev cX7_hold : ByteArray := prog_9_method_7_code
def yX7_hold : MethodName := ⟨RX7, "hold", "(II)I"⟩
abbrev cX7_refusalToAppend : ByteArray := prog_9_method_8_code
def yX7_refusalToAppend : MethodName := ⟨RX7, "refusalToAppend", "(I)LSnowLedger$Refusal;"⟩
abbrev cX7_append : ByteArray := prog_9_method_9_code
def yX7_append : MethodName := ⟨RX7, "append", "(I)I"⟩
abbrev cX7_seal : ByteArray := prog_9_method_10_code
def yX7_seal : MethodName := ⟨RX7, "seal", "(I)V"⟩
abbrev cX7_refusalToTurn : ByteArray := prog_9_method_11_code
def yX7_refusalToTurn : MethodName := ⟨RX7, "refusalToTurn", "(II)LSnowLedger$Refusal;"⟩
abbrev cX7_turn : ByteArray := prog_9_method_12_code
def yX7_turn : MethodName := ⟨RX7, "turn", "(II)I"⟩
abbrev cX7_refusalToRemove : ByteArray := prog_9_method_13_code
def yX7_refusalToRemove : MethodName := ⟨RX7, "refusalToRemove", "(I)LSnowLedger$Refusal;"⟩
abbrev cX7_remove : ByteArray := prog_9_method_14_code
def yX7_remove : MethodName := ⟨RX7, "remove", "(I)I"⟩
abbrev cX7_refusalToSwap : ByteArray := prog_9_method_15_code
def yX7_refusalToSwap : MethodName := ⟨RX7, "refusalToSwap", "(III)LSnowLedger$Refusal;"⟩
abbrev cX7_swap : ByteArray := prog_9_method_16_code
def yX7_swap : MethodName := ⟨RX7, "swap", "(III)I"⟩
abbrev cX7_refusalToMend : ByteArray := prog_9_method_17_code
def yX7_refusalToMend : MethodName := ⟨RX7, "refusalToMend", "(I)LSnowLedger$Refusal;"⟩
abbrev cX7_mend : ByteArray := prog_9_method_18_code
def yX7_mend : MethodName := ⟨RX7, "mend", "(I)I"⟩
def RX8 : String := "SnowLedger"
def TX8 : u_T := fun k => match k with
  | 0 => ("SnowLedger", "state", "LSnowLedger$State;", true)
  | 1 => ("SnowLedger", "survey", "LSnowLedger$Survey;", true)
  | 2 => ("SnowLedger", "work", "LSnowLedger$Work;", true)
  | 3 => ("SnowLedger", "history", "LSnowLedger$History;", true)
  | 4 => ("SnowLedger", "snapshot", "LSnowLedger$State;", true)
  | 5 => ("SnowLedger", "snapshotTaken", "Z", false)
  | 6 => ("SnowLedger", "beforeScript", "LSnowLedger$State;", true)
  | 7 => ("SnowLedger", "script", "LSnowLedger$Script;", true)
  | 8 => ("SnowLedger", "output", "Ljava/lang/StringBuilder;", true)
  | 9 => ("SnowLedger", "formError", "I", false)
  | _ => ("SnowLedger", "failedAt", "I", false)
def tyX8 : Nat → FieldType := fun k => match k with
  | 0 => .object "SnowLedger$State"
  | 1 => .object "SnowLedger$Survey"
  | 2 => .object "SnowLedger$Work"
  | 3 => .object "SnowLedger$History"
  | 4 => .object "SnowLedger$State"
  | 5 => .boolean
  | 6 => .object "SnowLedger$State"
  | 7 => .object "SnowLedger$Script"
  | 8 => .object "java/lang/StringBuilder"
  | 9 => .int
  | _ => .int
abbrev wsX80 : List Cond := u_ws RX8 TX8 11
theorem nmX8 : ∀ a, a < 11 → ∀ b, b < 11 → a ≠ b → (TX8 a).2.1 ≠ (TX8 b).2.1 := by decide +kernel
theorem tyX8_ok : ∀ k, k < 11 → parseFieldDescriptor (TX8 k).2.2.1 = some (tyX8 k) := by decide +kernel
abbrev cX8_init : ByteArray := prog_1_method_1_code
def yX8_init : MethodName := ⟨RX8, "<init>", "()V"⟩
abbrev cX8_addHill : ByteArray := prog_1_method_2_code
def yX8_addHill : MethodName := ⟨RX8, "addHill", "()I"⟩
abbrev cX8_collect : ByteArray := prog_1_method_3_code
def yX8_collect : MethodName := ⟨RX8, "collect", "(II)I"⟩
abbrev cX8_write : ByteArray := prog_1_method_4_code
def yX8_write : MethodName := ⟨RX8, "write", "(I)I"⟩
abbrev cX8_follow : ByteArray := prog_1_method_5_code
def yX8_follow : MethodName := ⟨RX8, "follow", "(II)I"⟩
abbrev cX8_melt : ByteArray := prog_1_method_6_code
def yX8_melt : MethodName := ⟨RX8, "melt", "(I)I"⟩
abbrev cX8_replaceFlake : ByteArray := prog_1_method_7_code
def yX8_replaceFlake : MethodName := ⟨RX8, "replaceFlake", "(III)I"⟩
abbrev cX8_repair : ByteArray := prog_1_method_8_code
def yX8_repair : MethodName := ⟨RX8, "repair", "(I)I"⟩
abbrev cX8_blockCount : ByteArray := prog_1_method_9_code
def yX8_blockCount : MethodName := ⟨RX8, "blockCount", "()I"⟩
abbrev cX8_exists : ByteArray := prog_1_method_10_code
def yX8_exists : MethodName := ⟨RX8, "exists", "(I)Z"⟩
abbrev cX8_parentOf : ByteArray := prog_1_method_11_code
def yX8_parentOf : MethodName := ⟨RX8, "parentOf", "(I)I"⟩
abbrev cX8_childCount : ByteArray := prog_1_method_12_code
def yX8_childCount : MethodName := ⟨RX8, "childCount", "(I)I"⟩
abbrev cX8_writerOf : ByteArray := prog_1_method_13_code
def yX8_writerOf : MethodName := ⟨RX8, "writerOf", "(I)I"⟩
abbrev cX8_flakeCount : ByteArray := prog_1_method_14_code
def yX8_flakeCount : MethodName := ⟨RX8, "flakeCount", "(I)I"⟩
abbrev cX8_flakeAt : ByteArray := prog_1_method_15_code
def yX8_flakeAt : MethodName := ⟨RX8, "flakeAt", "(II)I"⟩
abbrev cX8_hashOf : ByteArray := prog_1_method_16_code
def yX8_hashOf : MethodName := ⟨RX8, "hashOf", "(I)I"⟩
abbrev cX8_nonceOf : ByteArray := prog_1_method_17_code
def yX8_nonceOf : MethodName := ⟨RX8, "nonceOf", "(I)I"⟩
abbrev cX8_rootOfFlakes : ByteArray := prog_1_method_18_code
def yX8_rootOfFlakes : MethodName := ⟨RX8, "rootOfFlakes", "(I)I"⟩
abbrev cX8_rootOfFlakesByHalves : ByteArray := prog_1_method_19_code
def yX8_rootOfFlakesByHalves : MethodName := ⟨RX8, "rootOfFlakesByHalves", "(I)I"⟩
abbrev cX8_heightOf : ByteArray := prog_1_method_20_code
def yX8_heightOf : MethodName := ⟨RX8, "heightOf", "(I)I"⟩
abbrev cX8_heightFromRoot : ByteArray := prog_1_method_21_code
def yX8_heightFromRoot : MethodName := ⟨RX8, "heightFromRoot", "(I)I"⟩
abbrev cX8_isValid : ByteArray := prog_1_method_22_code
def yX8_isValid : MethodName := ⟨RX8, "isValid", "(I)Z"⟩
abbrev cX8_isBranchValid : ByteArray := prog_1_method_23_code
def yX8_isBranchValid : MethodName := ⟨RX8, "isBranchValid", "(I)Z"⟩
abbrev cX8_firstInvalid : ByteArray := prog_1_method_24_code
def yX8_firstInvalid : MethodName := ⟨RX8, "firstInvalid", "(I)I"⟩
abbrev cX8_isInBranch : ByteArray := prog_1_method_25_code
def yX8_isInBranch : MethodName := ⟨RX8, "isInBranch", "(II)Z"⟩
abbrev cX8_forkOf : ByteArray := prog_1_method_26_code
def yX8_forkOf : MethodName := ⟨RX8, "forkOf", "(II)I"⟩
abbrev cX8_meltSize : ByteArray := prog_1_method_27_code
def yX8_meltSize : MethodName := ⟨RX8, "meltSize", "(I)I"⟩
abbrev cX8_differentFlakes : ByteArray := prog_1_method_28_code
def yX8_differentFlakes : MethodName := ⟨RX8, "differentFlakes", "(I)I"⟩
abbrev cX8_commonFlakes : ByteArray := prog_1_method_29_code
def yX8_commonFlakes : MethodName := ⟨RX8, "commonFlakes", "(II)I"⟩
abbrev cX8_repairsNeeded : ByteArray := prog_1_method_30_code
def yX8_repairsNeeded : MethodName := ⟨RX8, "repairsNeeded", "(I)I"⟩
abbrev cX8_tipCount : ByteArray := prog_1_method_31_code
def yX8_tipCount : MethodName := ⟨RX8, "tipCount", "()I"⟩
abbrev cX8_tipAtRank : ByteArray := prog_1_method_32_code
def yX8_tipAtRank : MethodName := ⟨RX8, "tipAtRank", "(I)I"⟩
abbrev cX8_bestValidBlock : ByteArray := prog_1_method_33_code
def yX8_bestValidBlock : MethodName := ⟨RX8, "bestValidBlock", "()I"⟩
abbrev cX8_blocksAtHeight : ByteArray := prog_1_method_35_code
def yX8_blocksAtHeight : MethodName := ⟨RX8, "blocksAtHeight", "(I)I"⟩
abbrev cX8_writtenTotal : ByteArray := prog_1_method_36_code
def yX8_writtenTotal : MethodName := ⟨RX8, "writtenTotal", "()I"⟩
abbrev cX8_meltedTotal : ByteArray := prog_1_method_37_code
def yX8_meltedTotal : MethodName := ⟨RX8, "meltedTotal", "()I"⟩
abbrev cX8_meanTipHeight : ByteArray := prog_1_method_38_code
def yX8_meanTipHeight : MethodName := ⟨RX8, "meanTipHeight", "()D"⟩
abbrev cX8_validShare : ByteArray := prog_1_method_39_code
def yX8_validShare : MethodName := ⟨RX8, "validShare", "()F"⟩
abbrev cX8_isConsistent : ByteArray := prog_1_method_40_code
def yX8_isConsistent : MethodName := ⟨RX8, "isConsistent", "()Z"⟩
abbrev cX8_hillCount : ByteArray := prog_1_method_41_code
def yX8_hillCount : MethodName := ⟨RX8, "hillCount", "()I"⟩
abbrev cX8_followed : ByteArray := prog_1_method_42_code
def yX8_followed : MethodName := ⟨RX8, "followed", "(I)I"⟩
abbrev cX8_collected : ByteArray := prog_1_method_43_code
def yX8_collected : MethodName := ⟨RX8, "collected", "(I)I"⟩
abbrev cX8_blocksBy : ByteArray := prog_1_method_44_code
def yX8_blocksBy : MethodName := ⟨RX8, "blocksBy", "(I)I"⟩
abbrev cX8_nextHash : ByteArray := prog_1_method_45_code
def yX8_nextHash : MethodName := ⟨RX8, "nextHash", "(I)I"⟩
abbrev cX8_renderBlock : ByteArray := prog_1_method_46_code
def yX8_renderBlock : MethodName := ⟨RX8, "renderBlock", "(I)I"⟩
abbrev cX8_renderBranch : ByteArray := prog_1_method_47_code
def yX8_renderBranch : MethodName := ⟨RX8, "renderBranch", "(I)I"⟩
abbrev cX8_type : ByteArray := prog_1_method_49_code
def yX8_type : MethodName := ⟨RX8, "type", "(C)I"⟩
abbrev cX8_runScript : ByteArray := prog_1_method_50_code
def yX8_runScript : MethodName := ⟨RX8, "runScript", "()I"⟩
abbrev cX8_failedCommand : ByteArray := prog_1_method_52_code
def yX8_failedCommand : MethodName := ⟨RX8, "failedCommand", "()I"⟩
abbrev cX8_undo : ByteArray := prog_1_method_53_code
def yX8_undo : MethodName := ⟨RX8, "undo", "()I"⟩
abbrev cX8_save : ByteArray := prog_1_method_54_code
def yX8_save : MethodName := ⟨RX8, "save", "()I"⟩
abbrev cX8_restore : ByteArray := prog_1_method_55_code
def yX8_restore : MethodName := ⟨RX8, "restore", "()I"⟩
abbrev cX8_admit : ByteArray := prog_1_method_56_code
def yX8_admit : MethodName := ⟨RX8, "admit", "(LSnowLedger$Refusal;)V"⟩
abbrev cX8_throwFor : ByteArray := prog_1_method_57_code
def yX8_throwFor : MethodName := ⟨RX8, "throwFor", "(LSnowLedger$Refusal;)V"⟩
abbrev cX8_requireBlock : ByteArray := prog_1_method_58_code
def yX8_requireBlock : MethodName := ⟨RX8, "requireBlock", "(I)I"⟩
abbrev cX8_requireWritten : ByteArray := prog_1_method_59_code
def yX8_requireWritten : MethodName := ⟨RX8, "requireWritten", "(I)I"⟩
abbrev cX8_requireHill : ByteArray := prog_1_method_60_code
def yX8_requireHill : MethodName := ⟨RX8, "requireHill", "(I)V"⟩
abbrev cX8_isFlake : ByteArray := prog_1_method_61_code
def yX8_isFlake : MethodName := ⟨RX8, "isFlake", "(I)Z"⟩
abbrev cX8_combine : ByteArray := prog_1_method_62_code
def yX8_combine : MethodName := ⟨RX8, "combine", "(II)I"⟩
abbrev cX8_hashWith : ByteArray := prog_1_method_63_code
def yX8_hashWith : MethodName := ⟨RX8, "hashWith", "(IIII)I"⟩
abbrev cX8_leastNonce : ByteArray := prog_1_method_64_code
def yX8_leastNonce : MethodName := ⟨RX8, "leastNonce", "(III)I"⟩
abbrev cX8_sealedHash : ByteArray := prog_1_method_65_code
def yX8_sealedHash : MethodName := ⟨RX8, "sealedHash", "(III)I"⟩
def RX9 : String := "SnowLedgerModel"
def TX9 : u_T := fun k => match k with
  | _ => ("", "", "", false)
def tyX9 : Nat → FieldType := fun k => match k with
  | _ => .int
abbrev wsX90 : List Cond := u_ws RX9 TX9 0
theorem nmX9 : ∀ a, a < 0 → ∀ b, b < 0 → a ≠ b → (TX9 a).2.1 ≠ (TX9 b).2.1 := by decide +kernel
theorem tyX9_ok : ∀ k, k < 0 → parseFieldDescriptor (TX9 k).2.2.1 = some (tyX9 k) := by decide +kernel
def RJx145de : String := "java/io/Serializable"
def TJx145de : u_T := fun k => match k with
  | _ => ("", "", "", false)
def tyJx145de : Nat → FieldType := fun k => match k with
  | _ => .int
abbrev wsJx145de0 : List Cond := u_ws RJx145de TJx145de 0
theorem nmJx145de : ∀ a, a < 0 → ∀ b, b < 0 → a ≠ b → (TJx145de a).2.1 ≠ (TJx145de b).2.1 := by decide +kernel
theorem tyJx145de_ok : ∀ k, k < 0 → parseFieldDescriptor (TJx145de k).2.2.1 = some (tyJx145de k) := by decide +kernel
def RJ5 : String := "java/lang/AbstractStringBuilder"
def TJ5 : u_T := fun k => match k with
  | _ => ("", "", "", false)
def tyJ5 : Nat → FieldType := fun k => match k with
  | _ => .int
abbrev wsJ50 : List Cond := u_ws RJ5 TJ5 0
theorem nmJ5 : ∀ a, a < 0 → ∀ b, b < 0 → a ≠ b → (TJ5 a).2.1 ≠ (TJ5 b).2.1 := by decide +kernel
theorem tyJ5_ok : ∀ k, k < 0 → parseFieldDescriptor (TJ5 k).2.2.1 = some (tyJ5 k) := by decide +kernel
abbrev cJ5_init_d00df : ByteArray := prog_13_method_2_code
def yJ5_init_d00df : MethodName := ⟨RJ5, "<init>", "(I)V"⟩
abbrev cJ5_length_8abf5 : ByteArray := prog_13_method_6_code
def yJ5_length_8abf5 : MethodName := ⟨RJ5, "length", "()I"⟩
abbrev cJ5_ensureCapacityInternal_d00df : ByteArray := prog_13_method_9_code
def yJ5_ensureCapacityInternal_d00df : MethodName := ⟨RJ5, "ensureCapacityInternal", "(I)V"⟩
abbrev cJ5_newCapacity_0f7a4 : ByteArray := prog_13_method_10_code
def yJ5_newCapacity_0f7a4 : MethodName := ⟨RJ5, "newCapacity", "(I)I"⟩
abbrev cJ5_inflate_da8c8 : ByteArray := prog_13_method_11_code
def yJ5_inflate_da8c8 : MethodName := ⟨RJ5, "inflate", "()V"⟩
abbrev cJ5_setLength_d00df : ByteArray := prog_13_method_13_code
def yJ5_setLength_d00df : MethodName := ⟨RJ5, "setLength", "(I)V"⟩
abbrev cJ5_charAt_5068e : ByteArray := prog_13_method_14_code
def yJ5_charAt_5068e : MethodName := ⟨RJ5, "charAt", "(I)C"⟩
abbrev cJ5_append_cf1ce : ByteArray := prog_13_method_22_code
def yJ5_append_cf1ce : MethodName := ⟨RJ5, "append", "(Ljava/lang/String;)Ljava/lang/AbstractStringBuilder;"⟩
abbrev cJ5_appendNull_278bc : ByteArray := prog_13_method_26_code
def yJ5_appendNull_278bc : MethodName := ⟨RJ5, "appendNull", "()Ljava/lang/AbstractStringBuilder;"⟩
abbrev cJ5_append_3fe6f : ByteArray := prog_13_method_31_code
def yJ5_append_3fe6f : MethodName := ⟨RJ5, "append", "(C)Ljava/lang/AbstractStringBuilder;"⟩
abbrev cJ5_append_c97b9 : ByteArray := prog_13_method_32_code
def yJ5_append_c97b9 : MethodName := ⟨RJ5, "append", "(I)Ljava/lang/AbstractStringBuilder;"⟩
abbrev cJ5_getValue_6d5f1 : ByteArray := prog_13_method_64_code
def yJ5_getValue_6d5f1 : MethodName := ⟨RJ5, "getValue", "()[B"⟩
abbrev cJ5_isLatin1_aae02 : ByteArray := prog_13_method_68_code
def yJ5_isLatin1_aae02 : MethodName := ⟨RJ5, "isLatin1", "()Z"⟩
abbrev cJ5_inflateIfNeededFor_a7421 : ByteArray := prog_13_method_71_code
def yJ5_inflateIfNeededFor_a7421 : MethodName := ⟨RJ5, "inflateIfNeededFor", "(Ljava/lang/String;)V"⟩
abbrev cJ5_putStringAt_47b60 : ByteArray := prog_13_method_73_code
def yJ5_putStringAt_47b60 : MethodName := ⟨RJ5, "putStringAt", "(ILjava/lang/String;)V"⟩
def RJx2cfe8 : String := "java/lang/Appendable"
def TJx2cfe8 : u_T := fun k => match k with
  | _ => ("", "", "", false)
def tyJx2cfe8 : Nat → FieldType := fun k => match k with
  | _ => .int
abbrev wsJx2cfe80 : List Cond := u_ws RJx2cfe8 TJx2cfe8 0
theorem nmJx2cfe8 : ∀ a, a < 0 → ∀ b, b < 0 → a ≠ b → (TJx2cfe8 a).2.1 ≠ (TJx2cfe8 b).2.1 := by decide +kernel
theorem tyJx2cfe8_ok : ∀ k, k < 0 → parseFieldDescriptor (TJx2cfe8 k).2.2.1 = some (tyJx2cfe8 k) := by decide +kernel
def RJx00060 : String := "java/lang/ArrayIndexOutOfBoundsException"
def TJx00060 : u_T := fun k => match k with
  | 0 => ("java/lang/Throwable", "cause", "Ljava/lang/Throwable;", false)
  | 1 => ("java/lang/Throwable", "stackTrace", "[Ljava/lang/StackTraceElement;", false)
  | 2 => ("java/lang/Throwable", "suppressedExceptions", "Ljava/util/List;", false)
  | 3 => ("java/lang/Throwable", "detailMessage", "Ljava/lang/String;", false)
  | 4 => ("java/lang/Throwable", "backtrace", "Ljava/lang/Object;", false)
  | _ => ("java/lang/Throwable", "depth", "I", false)
def tyJx00060 : Nat → FieldType := fun k => match k with
  | 0 => .object "java/lang/Throwable"
  | 1 => .array (.object "java/lang/StackTraceElement")
  | 2 => .object "java/util/List"
  | 3 => .object "java/lang/String"
  | 4 => .object "java/lang/Object"
  | _ => .int
abbrev wsJx000600 : List Cond := u_ws RJx00060 TJx00060 6
theorem nmJx00060 : ∀ a, a < 6 → ∀ b, b < 6 → a ≠ b → (TJx00060 a).2.1 ≠ (TJx00060 b).2.1 := by decide +kernel
theorem tyJx00060_ok : ∀ k, k < 6 → parseFieldDescriptor (TJx00060 k).2.2.1 = some (tyJx00060 k) := by decide +kernel
abbrev cJx00060_init_d00df : ByteArray := prog_15_method_3_code
def yJx00060_init_d00df : MethodName := ⟨RJx00060, "<init>", "(I)V"⟩
def RJx9f9b0 : String := "java/lang/CharSequence"
def TJx9f9b0 : u_T := fun k => match k with
  | _ => ("", "", "", false)
def tyJx9f9b0 : Nat → FieldType := fun k => match k with
  | _ => .int
abbrev wsJx9f9b00 : List Cond := u_ws RJx9f9b0 TJx9f9b0 0
theorem nmJx9f9b0 : ∀ a, a < 0 → ∀ b, b < 0 → a ≠ b → (TJx9f9b0 a).2.1 ≠ (TJx9f9b0 b).2.1 := by decide +kernel
theorem tyJx9f9b0_ok : ∀ k, k < 0 → parseFieldDescriptor (TJx9f9b0 k).2.2.1 = some (tyJx9f9b0 k) := by decide +kernel
def RJx8e188 : String := "java/lang/Cloneable"
def TJx8e188 : u_T := fun k => match k with
  | _ => ("", "", "", false)
def tyJx8e188 : Nat → FieldType := fun k => match k with
  | _ => .int
abbrev wsJx8e1880 : List Cond := u_ws RJx8e188 TJx8e188 0
theorem nmJx8e188 : ∀ a, a < 0 → ∀ b, b < 0 → a ≠ b → (TJx8e188 a).2.1 ≠ (TJx8e188 b).2.1 := by decide +kernel
theorem tyJx8e188_ok : ∀ k, k < 0 → parseFieldDescriptor (TJx8e188 k).2.2.1 = some (tyJx8e188 k) := by decide +kernel
def RJxb160c : String := "java/lang/Comparable"
def TJxb160c : u_T := fun k => match k with
  | _ => ("", "", "", false)
def tyJxb160c : Nat → FieldType := fun k => match k with
  | _ => .int
abbrev wsJxb160c0 : List Cond := u_ws RJxb160c TJxb160c 0
theorem nmJxb160c : ∀ a, a < 0 → ∀ b, b < 0 → a ≠ b → (TJxb160c a).2.1 ≠ (TJxb160c b).2.1 := by decide +kernel
theorem tyJxb160c_ok : ∀ k, k < 0 → parseFieldDescriptor (TJxb160c k).2.2.1 = some (tyJxb160c k) := by decide +kernel
def RJx29ce0 : String := "java/lang/Enum"
def TJx29ce0 : u_T := fun k => match k with
  | _ => ("", "", "", false)
def tyJx29ce0 : Nat → FieldType := fun k => match k with
  | _ => .int
abbrev wsJx29ce00 : List Cond := u_ws RJx29ce0 TJx29ce0 0
theorem nmJx29ce0 : ∀ a, a < 0 → ∀ b, b < 0 → a ≠ b → (TJx29ce0 a).2.1 ≠ (TJx29ce0 b).2.1 := by decide +kernel
theorem tyJx29ce0_ok : ∀ k, k < 0 → parseFieldDescriptor (TJx29ce0 k).2.2.1 = some (tyJx29ce0 k) := by decide +kernel
def RJ6 : String := "java/lang/Integer"
def TJ6 : u_T := fun k => match k with
  | _ => ("", "", "", false)
def tyJ6 : Nat → FieldType := fun k => match k with
  | _ => .int
abbrev wsJ60 : List Cond := u_ws RJ6 TJ6 0
theorem nmJ6 : ∀ a, a < 0 → ∀ b, b < 0 → a ≠ b → (TJ6 a).2.1 ≠ (TJ6 b).2.1 := by decide +kernel
theorem tyJ6_ok : ∀ k, k < 0 → parseFieldDescriptor (TJ6 k).2.2.1 = some (tyJ6 k) := by decide +kernel
abbrev cJ6_getChars_ba4f3 : ByteArray := prog_24_method_12_code
def yJ6_getChars_ba4f3 : MethodName := ⟨RJ6, "getChars", "(II[B)I"⟩
abbrev cJ6_stringSize_0f7a4 : ByteArray := prog_24_method_13_code
def yJ6_stringSize_0f7a4 : MethodName := ⟨RJ6, "stringSize", "(I)I"⟩
def RJ9 : String := "java/lang/Math"
def TJ9 : u_T := fun k => match k with
  | _ => ("", "", "", false)
def tyJ9 : Nat → FieldType := fun k => match k with
  | _ => .int
abbrev wsJ90 : List Cond := u_ws RJ9 TJ9 0
theorem nmJ9 : ∀ a, a < 0 → ∀ b, b < 0 → a ≠ b → (TJ9 a).2.1 ≠ (TJ9 b).2.1 := by decide +kernel
theorem tyJ9_ok : ∀ k, k < 0 → parseFieldDescriptor (TJ9 k).2.2.1 = some (tyJ9 k) := by decide +kernel
abbrev cJ9_max_7cf53 : ByteArray := prog_25_method_65_code
def yJ9_max_7cf53 : MethodName := ⟨RJ9, "max", "(II)I"⟩
abbrev cJ9_min_7cf53 : ByteArray := prog_25_method_69_code
def yJ9_min_7cf53 : MethodName := ⟨RJ9, "min", "(II)I"⟩
def RJxd2413 : String := "java/lang/Number"
def TJxd2413 : u_T := fun k => match k with
  | _ => ("", "", "", false)
def tyJxd2413 : Nat → FieldType := fun k => match k with
  | _ => .int
abbrev wsJxd24130 : List Cond := u_ws RJxd2413 TJxd2413 0
theorem nmJxd2413 : ∀ a, a < 0 → ∀ b, b < 0 → a ≠ b → (TJxd2413 a).2.1 ≠ (TJxd2413 b).2.1 := by decide +kernel
theorem tyJxd2413_ok : ∀ k, k < 0 → parseFieldDescriptor (TJxd2413 k).2.2.1 = some (tyJxd2413 k) := by decide +kernel
def RJ0 : String := "java/lang/String"
def TJ0 : u_T := fun k => match k with
  | 0 => ("java/lang/String", "value", "[B", true)
  | 1 => ("java/lang/String", "coder", "B", true)
  | 2 => ("java/lang/String", "hash", "I", false)
  | _ => ("java/lang/String", "hashIsZero", "Z", false)
def tyJ0 : Nat → FieldType := fun k => match k with
  | 0 => .array .byte
  | 1 => .byte
  | 2 => .int
  | _ => .boolean
abbrev wsJ00 : List Cond := u_ws RJ0 TJ0 4
theorem nmJ0 : ∀ a, a < 4 → ∀ b, b < 4 → a ≠ b → (TJ0 a).2.1 ≠ (TJ0 b).2.1 := by decide +kernel
theorem tyJ0_ok : ∀ k, k < 4 → parseFieldDescriptor (TJ0 k).2.2.1 = some (tyJ0 k) := by decide +kernel
abbrev cJ0_init_81219 : ByteArray := prog_28_method_53_code
def yJ0_init_81219 : MethodName := ⟨RJ0, "<init>", "(Ljava/lang/StringBuilder;)V"⟩
abbrev cJ0_length_8abf5 : ByteArray := prog_28_method_54_code
def yJ0_length_8abf5 : MethodName := ⟨RJ0, "length", "()I"⟩
abbrev cJ0_charAt_5068e : ByteArray := prog_28_method_56_code
def yJ0_charAt_5068e : MethodName := ⟨RJ0, "charAt", "(I)C"⟩
abbrev cJ0_getBytes_840e7 : ByteArray := prog_28_method_147_code
def yJ0_getBytes_840e7 : MethodName := ⟨RJ0, "getBytes", "([BIB)V"⟩
abbrev cJ0_init_db425 : ByteArray := prog_28_method_150_code
def yJ0_init_db425 : MethodName := ⟨RJ0, "<init>", "(Ljava/lang/AbstractStringBuilder;Ljava/lang/Void;)V"⟩
abbrev cJ0_coder_7d493 : ByteArray := prog_28_method_152_code
def yJ0_coder_7d493 : MethodName := ⟨RJ0, "coder", "()B"⟩
abbrev cJ0_isLatin1_aae02 : ByteArray := prog_28_method_154_code
def yJ0_isLatin1_aae02 : MethodName := ⟨RJ0, "isLatin1", "()Z"⟩
abbrev cJ0_checkIndex_df160 : ByteArray := prog_28_method_155_code
def yJ0_checkIndex_df160 : MethodName := ⟨RJ0, "checkIndex", "(II)V"⟩
abbrev cJ0_checkBoundsOffCount_cabcc : ByteArray := prog_28_method_157_code
def yJ0_checkBoundsOffCount_cabcc : MethodName := ⟨RJ0, "checkBoundsOffCount", "(III)I"⟩
abbrev cJ0_checkBoundsBeginEnd_23922 : ByteArray := prog_28_method_158_code
def yJ0_checkBoundsBeginEnd_23922 : MethodName := ⟨RJ0, "checkBoundsBeginEnd", "(III)V"⟩
def RJ4 : String := "java/lang/StringBuilder"
def TJ4 : u_T := fun k => match k with
  | 0 => ("java/lang/AbstractStringBuilder", "value", "[B", false)
  | 1 => ("java/lang/AbstractStringBuilder", "coder", "B", false)
  | 2 => ("java/lang/AbstractStringBuilder", "maybeLatin1", "Z", false)
  | _ => ("java/lang/AbstractStringBuilder", "count", "I", false)
def tyJ4 : Nat → FieldType := fun k => match k with
  | 0 => .array .byte
  | 1 => .byte
  | 2 => .boolean
  | _ => .int
abbrev wsJ40 : List Cond := u_ws RJ4 TJ4 4
theorem nmJ4 : ∀ a, a < 4 → ∀ b, b < 4 → a ≠ b → (TJ4 a).2.1 ≠ (TJ4 b).2.1 := by decide +kernel
theorem tyJ4_ok : ∀ k, k < 4 → parseFieldDescriptor (TJ4 k).2.2.1 = some (tyJ4 k) := by decide +kernel
abbrev cJ4_init_da8c8 : ByteArray := prog_29_method_1_code
def yJ4_init_da8c8 : MethodName := ⟨RJ4, "<init>", "()V"⟩
abbrev cJ4_append_15ec4 : ByteArray := prog_29_method_7_code
def yJ4_append_15ec4 : MethodName := ⟨RJ4, "append", "(Ljava/lang/String;)Ljava/lang/StringBuilder;"⟩
abbrev cJ4_append_cf468 : ByteArray := prog_29_method_14_code
def yJ4_append_cf468 : MethodName := ⟨RJ4, "append", "(C)Ljava/lang/StringBuilder;"⟩
abbrev cJ4_append_bf812 : ByteArray := prog_29_method_15_code
def yJ4_append_bf812 : MethodName := ⟨RJ4, "append", "(I)Ljava/lang/StringBuilder;"⟩
abbrev cJ4_toString_0e30d : ByteArray := prog_29_method_42_code
def yJ4_toString_0e30d : MethodName := ⟨RJ4, "toString", "()Ljava/lang/String;"⟩
abbrev cJ4_charAt_5068e : ByteArray := prog_29_method_88_code
def yJ4_charAt_5068e : MethodName := ⟨RJ4, "charAt", "(I)C"⟩
abbrev cJ4_setLength_d00df : ByteArray := prog_29_method_89_code
def yJ4_setLength_d00df : MethodName := ⟨RJ4, "setLength", "(I)V"⟩
abbrev cJ4_length_8abf5 : ByteArray := prog_29_method_93_code
def yJ4_length_8abf5 : MethodName := ⟨RJ4, "length", "()I"⟩
def RJx7c733 : String := "java/lang/StringIndexOutOfBoundsException"
def TJx7c733 : u_T := fun k => match k with
  | 0 => ("java/lang/Throwable", "backtrace", "Ljava/lang/Object;", false)
  | 1 => ("java/lang/Throwable", "detailMessage", "Ljava/lang/String;", false)
  | 2 => ("java/lang/Throwable", "cause", "Ljava/lang/Throwable;", false)
  | 3 => ("java/lang/Throwable", "stackTrace", "[Ljava/lang/StackTraceElement;", false)
  | 4 => ("java/lang/Throwable", "depth", "I", false)
  | _ => ("java/lang/Throwable", "suppressedExceptions", "Ljava/util/List;", false)
def tyJx7c733 : Nat → FieldType := fun k => match k with
  | 0 => .object "java/lang/Object"
  | 1 => .object "java/lang/String"
  | 2 => .object "java/lang/Throwable"
  | 3 => .array (.object "java/lang/StackTraceElement")
  | 4 => .int
  | _ => .object "java/util/List"
abbrev wsJx7c7330 : List Cond := u_ws RJx7c733 TJx7c733 6
theorem nmJx7c733 : ∀ a, a < 6 → ∀ b, b < 6 → a ≠ b → (TJx7c733 a).2.1 ≠ (TJx7c733 b).2.1 := by decide +kernel
theorem tyJx7c733_ok : ∀ k, k < 6 → parseFieldDescriptor (TJx7c733 k).2.2.1 = some (tyJx7c733 k) := by decide +kernel
abbrev cJx7c733_init_d00df : ByteArray := prog_30_method_3_code
def yJx7c733_init_d00df : MethodName := ⟨RJx7c733, "<init>", "(I)V"⟩
def RJ1 : String := "java/lang/StringLatin1"
def TJ1 : u_T := fun k => match k with
  | _ => ("", "", "", false)
def tyJ1 : Nat → FieldType := fun k => match k with
  | _ => .int
abbrev wsJ10 : List Cond := u_ws RJ1 TJ1 0
theorem nmJ1 : ∀ a, a < 0 → ∀ b, b < 0 → a ≠ b → (TJ1 a).2.1 ≠ (TJ1 b).2.1 := by decide +kernel
theorem tyJ1_ok : ∀ k, k < 0 → parseFieldDescriptor (TJ1 k).2.2.1 = some (tyJ1 k) := by decide +kernel
abbrev cJ1_charAt_3b067 : ByteArray := prog_31_method_2_code
def yJ1_charAt_3b067 : MethodName := ⟨RJ1, "charAt", "([BI)C"⟩
abbrev cJ1_canEncode_fc78d : ByteArray := prog_31_method_3_code
def yJ1_canEncode_fc78d : MethodName := ⟨RJ1, "canEncode", "(C)Z"⟩
abbrev cJ1_fillNull_b72d1 : ByteArray := prog_31_method_48_code
def yJ1_fillNull_b72d1 : MethodName := ⟨RJ1, "fillNull", "([BII)V"⟩
abbrev cJ1_inflate_0e8fd : ByteArray := prog_31_method_50_code
def yJ1_inflate_0e8fd : MethodName := ⟨RJ1, "inflate", "([BI[BII)V"⟩
def RJ2 : String := "java/lang/StringUTF16"
def TJ2 : u_T := fun k => match k with
  | _ => ("", "", "", false)
def tyJ2 : Nat → FieldType := fun k => match k with
  | _ => .int
abbrev wsJ20 : List Cond := u_ws RJ2 TJ2 0
theorem nmJ2 : ∀ a, a < 0 → ∀ b, b < 0 → a ≠ b → (TJ2 a).2.1 ≠ (TJ2 b).2.1 := by decide +kernel
theorem tyJ2_ok : ∀ k, k < 0 → parseFieldDescriptor (TJ2 k).2.2.1 = some (tyJ2 k) := by decide +kernel
abbrev cJ2_newBytesFor_77867 : ByteArray := prog_32_method_2_code
def yJ2_newBytesFor_77867 : MethodName := ⟨RJ2, "newBytesFor", "(I)[B"⟩
abbrev cJ2_newBytesLength_0f7a4 : ByteArray := prog_32_method_3_code
def yJ2_newBytesLength_0f7a4 : MethodName := ⟨RJ2, "newBytesLength", "(I)I"⟩
abbrev cJ2_putChar_b72d1 : ByteArray := prog_32_method_4_code
def yJ2_putChar_b72d1 : MethodName := ⟨RJ2, "putChar", "([BII)V"⟩
abbrev cJ2_getChar_3b067 : ByteArray := prog_32_method_5_code
def yJ2_getChar_3b067 : MethodName := ⟨RJ2, "getChar", "([BI)C"⟩
abbrev cJ2_length_9d52b : ByteArray := prog_32_method_6_code
def yJ2_length_9d52b : MethodName := ⟨RJ2, "length", "([B)I"⟩
abbrev cJ2_coderFromArrayLen_85cad : ByteArray := prog_32_method_15_code
def yJ2_coderFromArrayLen_85cad : MethodName := ⟨RJ2, "coderFromArrayLen", "([BI)B"⟩
abbrev cJ2_compress_39247 : ByteArray := prog_32_method_17_code
def yJ2_compress_39247 : MethodName := ⟨RJ2, "compress", "([BII)[B"⟩
abbrev cJ2_compress_5af95 : ByteArray := prog_32_method_22_code
def yJ2_compress_5af95 : MethodName := ⟨RJ2, "compress", "([BI[BII)I"⟩
abbrev cJ2_fillNull_b72d1 : ByteArray := prog_32_method_70_code
def yJ2_fillNull_b72d1 : MethodName := ⟨RJ2, "fillNull", "([BII)V"⟩
abbrev cJ2_putCharSB_b72d1 : ByteArray := prog_32_method_71_code
def yJ2_putCharSB_b72d1 : MethodName := ⟨RJ2, "putCharSB", "([BII)V"⟩
abbrev cJ2_getChars_46870 : ByteArray := prog_32_method_77_code
def yJ2_getChars_46870 : MethodName := ⟨RJ2, "getChars", "(III[B)I"⟩
abbrev cJ2_putCharsAt_cd4e5 : ByteArray := prog_32_method_81_code
def yJ2_putCharsAt_cd4e5 : MethodName := ⟨RJ2, "putCharsAt", "([BICCCC)I"⟩
abbrev cJ2_charAt_3b067 : ByteArray := prog_32_method_83_code
def yJ2_charAt_3b067 : MethodName := ⟨RJ2, "charAt", "([BI)C"⟩
abbrev cJ2_inflate_0e8fd : ByteArray := prog_32_method_86_code
def yJ2_inflate_0e8fd : MethodName := ⟨RJ2, "inflate", "([BI[BII)V"⟩
abbrev cJ2_getChars_ba4f3 : ByteArray := prog_32_method_89_code
def yJ2_getChars_ba4f3 : MethodName := ⟨RJ2, "getChars", "(II[B)I"⟩
abbrev cJ2_checkIndex_2214a : ByteArray := prog_32_method_91_code
def yJ2_checkIndex_2214a : MethodName := ⟨RJ2, "checkIndex", "(I[B)V"⟩
abbrev cJ2_checkBoundsBeginEnd_d044e : ByteArray := prog_32_method_93_code
def yJ2_checkBoundsBeginEnd_d044e : MethodName := ⟨RJ2, "checkBoundsBeginEnd", "(II[B)V"⟩
abbrev cJ2_checkBoundsOffCount_d044e : ByteArray := prog_32_method_94_code
def yJ2_checkBoundsOffCount_d044e : MethodName := ⟨RJ2, "checkBoundsOffCount", "(II[B)V"⟩
def RJ10 : String := "java/lang/System"
def TJ10 : u_T := fun k => match k with
  | _ => ("", "", "", false)
def tyJ10 : Nat → FieldType := fun k => match k with
  | _ => .int
abbrev wsJ100 : List Cond := u_ws RJ10 TJ10 0
theorem nmJ10 : ∀ a, a < 0 → ∀ b, b < 0 → a ≠ b → (TJ10 a).2.1 ≠ (TJ10 b).2.1 := by decide +kernel
theorem tyJ10_ok : ∀ k, k < 0 → parseFieldDescriptor (TJ10 k).2.2.1 = some (tyJ10 k) := by decide +kernel
def RJxfd54e : String := "java/lang/constant/Constable"
def TJxfd54e : u_T := fun k => match k with
  | _ => ("", "", "", false)
def tyJxfd54e : Nat → FieldType := fun k => match k with
  | _ => .int
abbrev wsJxfd54e0 : List Cond := u_ws RJxfd54e TJxfd54e 0
theorem nmJxfd54e : ∀ a, a < 0 → ∀ b, b < 0 → a ≠ b → (TJxfd54e a).2.1 ≠ (TJxfd54e b).2.1 := by decide +kernel
theorem tyJxfd54e_ok : ∀ k, k < 0 → parseFieldDescriptor (TJxfd54e k).2.2.1 = some (tyJxfd54e k) := by decide +kernel
def RJx3cf43 : String := "java/lang/constant/ConstantDesc"
def TJx3cf43 : u_T := fun k => match k with
  | _ => ("", "", "", false)
def tyJx3cf43 : Nat → FieldType := fun k => match k with
  | _ => .int
abbrev wsJx3cf430 : List Cond := u_ws RJx3cf43 TJx3cf43 0
theorem nmJx3cf43 : ∀ a, a < 0 → ∀ b, b < 0 → a ≠ b → (TJx3cf43 a).2.1 ≠ (TJx3cf43 b).2.1 := by decide +kernel
theorem tyJx3cf43_ok : ∀ k, k < 0 → parseFieldDescriptor (TJx3cf43 k).2.2.1 = some (tyJx3cf43 k) := by decide +kernel
def RJ7 : String := "java/util/Arrays"
def TJ7 : u_T := fun k => match k with
  | _ => ("", "", "", false)
def tyJ7 : Nat → FieldType := fun k => match k with
  | _ => .int
abbrev wsJ70 : List Cond := u_ws RJ7 TJ7 0
theorem nmJ7 : ∀ a, a < 0 → ∀ b, b < 0 → a ≠ b → (TJ7 a).2.1 ≠ (TJ7 b).2.1 := by decide +kernel
theorem tyJ7_ok : ∀ k, k < 0 → parseFieldDescriptor (TJ7 k).2.2.1 = some (tyJ7 k) := by decide +kernel
abbrev cJ7_rangeCheck_23922 : ByteArray := prog_38_method_30_code
def yJ7_rangeCheck_23922 : MethodName := ⟨RJ7, "rangeCheck", "(III)V"⟩
abbrev cJ7_fill_53178 : ByteArray := prog_38_method_103_code
def yJ7_fill_53178 : MethodName := ⟨RJ7, "fill", "([II)V"⟩
abbrev cJ7_fill_eb02e : ByteArray := prog_38_method_110_code
def yJ7_fill_eb02e : MethodName := ⟨RJ7, "fill", "([BIIB)V"⟩
abbrev cJ7_copyOf_9075b : ByteArray := prog_38_method_121_code
def yJ7_copyOf_9075b : MethodName := ⟨RJ7, "copyOf", "([BI)[B"⟩
abbrev cJ7_checkLength_df160 : ByteArray := prog_38_method_131_code
def yJ7_checkLength_df160 : MethodName := ⟨RJ7, "checkLength", "(II)V"⟩
abbrev cJ7_copyOfRange_39247 : ByteArray := prog_38_method_132_code
def yJ7_copyOfRange_39247 : MethodName := ⟨RJ7, "copyOfRange", "([BII)[B"⟩
abbrev cJ7_copyOfRangeByte_39247 : ByteArray := prog_38_method_133_code
def yJ7_copyOfRangeByte_39247 : MethodName := ⟨RJ7, "copyOfRangeByte", "([BII)[B"⟩
def RJ8 : String := "jdk/internal/util/ArraysSupport"
def TJ8 : u_T := fun k => match k with
  | _ => ("", "", "", false)
def tyJ8 : Nat → FieldType := fun k => match k with
  | _ => .int
abbrev wsJ80 : List Cond := u_ws RJ8 TJ8 0
theorem nmJ8 : ∀ a, a < 0 → ∀ b, b < 0 → a ≠ b → (TJ8 a).2.1 ≠ (TJ8 b).2.1 := by decide +kernel
theorem tyJ8_ok : ∀ k, k < 0 → parseFieldDescriptor (TJ8 k).2.2.1 = some (tyJ8 k) := by decide +kernel
abbrev cJ8_newLength_cabcc : ByteArray := prog_40_method_27_code
def yJ8_newLength_cabcc : MethodName := ⟨RJ8, "newLength", "(III)I"⟩
abbrev cJ8_hugeLength_7cf53 : ByteArray := prog_40_method_28_code
def yJ8_hugeLength_7cf53 : MethodName := ⟨RJ8, "hugeLength", "(II)I"⟩
def RJ3 : String := "jdk/internal/util/Preconditions"
def TJ3 : u_T := fun k => match k with
  | _ => ("", "", "", false)
def tyJ3 : Nat → FieldType := fun k => match k with
  | _ => .int
abbrev wsJ30 : List Cond := u_ws RJ3 TJ3 0
theorem nmJ3 : ∀ a, a < 0 → ∀ b, b < 0 → a ≠ b → (TJ3 a).2.1 ≠ (TJ3 b).2.1 := by decide +kernel
theorem tyJ3_ok : ∀ k, k < 0 → parseFieldDescriptor (TJ3 k).2.2.1 = some (tyJ3 k) := by decide +kernel
abbrev cJ3_checkIndex_8e157 : ByteArray := prog_41_method_11_code
def yJ3_checkIndex_8e157 : MethodName := ⟨RJ3, "checkIndex", "(IILjava/util/function/BiFunction;)I"⟩
abbrev cJ3_checkFromToIndex_8c36e : ByteArray := prog_41_method_12_code
def yJ3_checkFromToIndex_8c36e : MethodName := ⟨RJ3, "checkFromToIndex", "(IIILjava/util/function/BiFunction;)I"⟩
abbrev cJ3_checkFromIndexSize_8c36e : ByteArray := prog_41_method_13_code
def yJ3_checkFromIndexSize_8c36e : MethodName := ⟨RJ3, "checkFromIndexSize", "(IIILjava/util/function/BiFunction;)I"⟩
def RL : String := "SnowLedgerLaw"
abbrev cL_cell : ByteArray := method_2_code
def yL_cell : MethodName := ⟨RL, "cell", "([II)I"⟩
abbrev cL_addHill : ByteArray := method_3_code
def yL_addHill : MethodName := ⟨RL, "addHill", "(LSnowLedger;)I"⟩
abbrev cL_collect : ByteArray := method_4_code
def yL_collect : MethodName := ⟨RL, "collect", "(LSnowLedger;II)I"⟩
abbrev cL_writeBlock : ByteArray := method_5_code
def yL_writeBlock : MethodName := ⟨RL, "writeBlock", "(LSnowLedger;I)I"⟩
abbrev cL_follow : ByteArray := method_6_code
def yL_follow : MethodName := ⟨RL, "follow", "(LSnowLedger;II)I"⟩
abbrev cL_melt : ByteArray := method_7_code
def yL_melt : MethodName := ⟨RL, "melt", "(LSnowLedger;I)I"⟩
abbrev cL_replaceFlake : ByteArray := method_8_code
def yL_replaceFlake : MethodName := ⟨RL, "replaceFlake", "(LSnowLedger;III)I"⟩
abbrev cL_repair : ByteArray := method_9_code
def yL_repair : MethodName := ⟨RL, "repair", "(LSnowLedger;I)I"⟩
abbrev cL_parentOf : ByteArray := method_10_code
def yL_parentOf : MethodName := ⟨RL, "parentOf", "(LSnowLedger;I)I"⟩
abbrev cL_nonceOf : ByteArray := method_11_code
def yL_nonceOf : MethodName := ⟨RL, "nonceOf", "(LSnowLedger;I)I"⟩
abbrev cL_firstInvalid : ByteArray := method_12_code
def yL_firstInvalid : MethodName := ⟨RL, "firstInvalid", "(LSnowLedger;I)I"⟩
abbrev cL_tipAtRank : ByteArray := method_13_code
def yL_tipAtRank : MethodName := ⟨RL, "tipAtRank", "(LSnowLedger;I)I"⟩
abbrev cL_runScript : ByteArray := method_15_code
def yL_runScript : MethodName := ⟨RL, "runScript", "(LSnowLedger;)I"⟩
abbrev cL_failedCommand : ByteArray := method_16_code
def yL_failedCommand : MethodName := ⟨RL, "failedCommand", "(LSnowLedger;)I"⟩
abbrev cL_undo : ByteArray := method_17_code
def yL_undo : MethodName := ⟨RL, "undo", "(LSnowLedger;)I"⟩
abbrev cL_restore : ByteArray := method_18_code
def yL_restore : MethodName := ⟨RL, "restore", "(LSnowLedger;)I"⟩
abbrev cL_put : ByteArray := method_19_code
def yL_put : MethodName := ⟨RL, "put", "(LSnowLedger;C)Z"⟩
abbrev cL_typed : ByteArray := method_20_code
def yL_typed : MethodName := ⟨RL, "typed", "(LSnowLedger;Ljava/lang/String;)LSnowLedger;"⟩
abbrev cL_act : ByteArray := method_21_code
def yL_act : MethodName := ⟨RL, "act", "(LSnowLedger;I)I"⟩
abbrev cL_blockAt : ByteArray := method_22_code
def yL_blockAt : MethodName := ⟨RL, "blockAt", "(LSnowLedger;I)I"⟩
abbrev cL_digest : ByteArray := method_23_code
def yL_digest : MethodName := ⟨RL, "digest", "(LSnowLedger;)J"⟩
abbrev cL_combine : ByteArray := method_24_code
def yL_combine : MethodName := ⟨RL, "combine", "(II)I"⟩
abbrev cL_root : ByteArray := method_25_code
def yL_root : MethodName := ⟨RL, "root", "(LSnowLedger;I)I"⟩
abbrev cL_isBlock : ByteArray := method_26_code
def yL_isBlock : MethodName := ⟨RL, "isBlock", "(LSnowLedger;I)Z"⟩
abbrev cL_areBlocks : ByteArray := method_27_code
def yL_areBlocks : MethodName := ⟨RL, "areBlocks", "(LSnowLedger;)Z"⟩
abbrev cL_areTips : ByteArray := method_28_code
def yL_areTips : MethodName := ⟨RL, "areTips", "(LSnowLedger;I)Z"⟩
abbrev cL_isWritten : ByteArray := method_29_code
def yL_isWritten : MethodName := ⟨RL, "isWritten", "(LSnowLedger;I)Z"⟩
abbrev cL_isMelted : ByteArray := method_30_code
def yL_isMelted : MethodName := ⟨RL, "isMelted", "(LSnowLedger;I)Z"⟩
abbrev cL_isRepaired : ByteArray := method_31_code
def yL_isRepaired : MethodName := ⟨RL, "isRepaired", "(LSnowLedger;I)Z"⟩
abbrev cL_isFit : ByteArray := method_32_code
def yL_isFit : MethodName := ⟨RL, "isFit", "(LSnowLedger;)Z"⟩
abbrev cL_law : ByteArray := code
def yL_law : MethodName := ⟨RL, "law", "([I)Z"⟩
theorem inX0 : ∀ w ∈ wsX00, w ∈ lw_tbl := by decide +kernel
theorem inX1 : ∀ w ∈ wsX10, w ∈ lw_tbl := by decide +kernel
theorem inX2 : ∀ w ∈ wsX20, w ∈ lw_tbl := by decide +kernel
theorem inX3 : ∀ w ∈ wsX30, w ∈ lw_tbl := by decide +kernel
theorem inX4 : ∀ w ∈ wsX40, w ∈ lw_tbl := by decide +kernel
theorem inX5 : ∀ w ∈ wsX50, w ∈ lw_tbl := by decide +kernel
theorem inX6 : ∀ w ∈ wsX60, w ∈ lw_tbl := by decide +kernel
theorem inX7 : ∀ w ∈ wsX70, w ∈ lw_tbl := by decide +kernel
theorem inX8 : ∀ w ∈ wsX80, w ∈ lw_tbl := by decide +kernel
theorem inX9 : ∀ w ∈ wsX90, w ∈ lw_tbl := by decide +kernel
theorem inJx145de : ∀ w ∈ wsJx145de0, w ∈ lw_tbl := by decide +kernel
theorem inJ5 : ∀ w ∈ wsJ50, w ∈ lw_tbl := by decide +kernel
theorem inJx2cfe8 : ∀ w ∈ wsJx2cfe80, w ∈ lw_tbl := by decide +kernel
theorem inJx00060 : ∀ w ∈ wsJx000600, w ∈ lw_tbl := by decide +kernel
theorem inJx9f9b0 : ∀ w ∈ wsJx9f9b00, w ∈ lw_tbl := by decide +kernel
theorem inJx8e188 : ∀ w ∈ wsJx8e1880, w ∈ lw_tbl := by decide +kernel
theorem inJxb160c : ∀ w ∈ wsJxb160c0, w ∈ lw_tbl := by decide +kernel
theorem inJx29ce0 : ∀ w ∈ wsJx29ce00, w ∈ lw_tbl := by decide +kernel
theorem inJ6 : ∀ w ∈ wsJ60, w ∈ lw_tbl := by decide +kernel
theorem inJ9 : ∀ w ∈ wsJ90, w ∈ lw_tbl := by decide +kernel
theorem inJxd2413 : ∀ w ∈ wsJxd24130, w ∈ lw_tbl := by decide +kernel
theorem inJ0 : ∀ w ∈ wsJ00, w ∈ lw_tbl := by decide +kernel
theorem inJ4 : ∀ w ∈ wsJ40, w ∈ lw_tbl := by decide +kernel
theorem inJx7c733 : ∀ w ∈ wsJx7c7330, w ∈ lw_tbl := by decide +kernel
theorem inJ1 : ∀ w ∈ wsJ10, w ∈ lw_tbl := by decide +kernel
theorem inJ2 : ∀ w ∈ wsJ20, w ∈ lw_tbl := by decide +kernel
theorem inJ10 : ∀ w ∈ wsJ100, w ∈ lw_tbl := by decide +kernel
theorem inJxfd54e : ∀ w ∈ wsJxfd54e0, w ∈ lw_tbl := by decide +kernel
theorem inJx3cf43 : ∀ w ∈ wsJx3cf430, w ∈ lw_tbl := by decide +kernel
theorem inJ7 : ∀ w ∈ wsJ70, w ∈ lw_tbl := by decide +kernel
theorem inJ8 : ∀ w ∈ wsJ80, w ∈ lw_tbl := by decide +kernel
theorem inJ3 : ∀ w ∈ wsJ30, w ∈ lw_tbl := by decide +kernel
abbrev vwCl : List vw_C := [(RJ0, TJ0, 4), (RJ4, TJ4, 4), (RJx00060, TJx00060, 6), (RJx7c733, TJx7c733, 6), (RX0, TX0, 3), (RX1, TX1, 3), (RX3, TX3, 1), (RX4, TX4, 9), (RX5, TX5, 12), (RX6, TX6, 2), (RX7, TX7, 3), (RX8, TX8, 11)]
end
section
theorem dX0_init_0 : decode cX0_init 0 = .ok (.aload_n 0, 1) := by decide +kernel
theorem dX0_init_1 : decode cX0_init 1 = .ok (.invokespecial 3, 3) := by decide +kernel
theorem dX0_init_4 : decode cX0_init 4 = .ok (.aload_n 0, 1) := by decide +kernel
theorem dX0_init_5 : decode cX0_init 5 = .ok (.new 9, 3) := by decide +kernel
theorem dX0_init_8 : decode cX0_init 8 = .ok (.dup, 1) := by decide +kernel
theorem dX0_init_9 : decode cX0_init 9 = .ok (.iload_n 1, 1) := by decide +kernel
theorem dX0_init_10 : decode cX0_init 10 = .ok (.iconst 0, 1) := by decide +kernel
theorem dX0_init_11 : decode cX0_init 11 = .ok (.invokespecial 11, 3) := by decide +kernel
theorem dX0_init_14 : decode cX0_init 14 = .ok (.putfield 14, 3) := by decide +kernel
theorem dX0_init_17 : decode cX0_init 17 = .ok (.aload_n 0, 1) := by decide +kernel
theorem dX0_init_18 : decode cX0_init 18 = .ok (.new 9, 3) := by decide +kernel
theorem dX0_init_21 : decode cX0_init 21 = .ok (.dup, 1) := by decide +kernel
theorem dX0_init_22 : decode cX0_init 22 = .ok (.iload_n 1, 1) := by decide +kernel
theorem dX0_init_23 : decode cX0_init 23 = .ok (.iconst 4, 1) := by decide +kernel
theorem dX0_init_24 : decode cX0_init 24 = .ok (.imul, 1) := by decide +kernel
theorem dX0_init_25 : decode cX0_init 25 = .ok (.iconst 0, 1) := by decide +kernel
theorem dX0_init_26 : decode cX0_init 26 = .ok (.invokespecial 11, 3) := by decide +kernel
theorem dX0_init_29 : decode cX0_init 29 = .ok (.putfield 20, 3) := by decide +kernel
theorem dX0_init_32 : decode cX0_init 32 = .ok (.aload_n 0, 1) := by decide +kernel
theorem dX0_init_33 : decode cX0_init 33 = .ok (.new 9, 3) := by decide +kernel
theorem dX0_init_36 : decode cX0_init 36 = .ok (.dup, 1) := by decide +kernel
theorem dX0_init_37 : decode cX0_init 37 = .ok (.iconst 4, 1) := by decide +kernel
theorem dX0_init_38 : decode cX0_init 38 = .ok (.iconst 0, 1) := by decide +kernel
theorem dX0_init_39 : decode cX0_init 39 = .ok (.invokespecial 11, 3) := by decide +kernel
theorem dX0_init_42 : decode cX0_init 42 = .ok (.putfield 23, 3) := by decide +kernel
theorem dX0_init_45 : decode cX0_init 45 = .ok (.return_, 1) := by decide +kernel
theorem dX0_size_0 : decode cX0_size 0 = .ok (.aload_n 0, 1) := by decide +kernel
theorem dX0_size_1 : decode cX0_size 1 = .ok (.getfield 14, 3) := by decide +kernel
theorem dX0_size_4 : decode cX0_size 4 = .ok (.iload_n 1, 1) := by decide +kernel
theorem dX0_size_5 : decode cX0_size 5 = .ok (.invokevirtual 26, 3) := by decide +kernel
theorem dX0_size_8 : decode cX0_size 8 = .ok (.ireturn, 1) := by decide +kernel
theorem dX0_hasPosition_0 : decode cX0_hasPosition 0 = .ok (.iload_n 2, 1) := by decide +kernel
theorem dX0_hasPosition_1 : decode cX0_hasPosition 1 = .ok (.ifCond .lt 19, 3) := by decide +kernel
theorem dX0_hasPosition_4 : decode cX0_hasPosition 4 = .ok (.iload_n 2, 1) := by decide +kernel
theorem dX0_hasPosition_5 : decode cX0_hasPosition 5 = .ok (.aload_n 0, 1) := by decide +kernel
theorem dX0_hasPosition_6 : decode cX0_hasPosition 6 = .ok (.getfield 14, 3) := by decide +kernel
theorem dX0_hasPosition_9 : decode cX0_hasPosition 9 = .ok (.iload_n 1, 1) := by decide +kernel
theorem dX0_hasPosition_10 : decode cX0_hasPosition 10 = .ok (.invokevirtual 26, 3) := by decide +kernel
theorem dX0_hasPosition_13 : decode cX0_hasPosition 13 = .ok (.if_icmp .ge 7, 3) := by decide +kernel
theorem dX0_hasPosition_16 : decode cX0_hasPosition 16 = .ok (.iconst 1, 1) := by decide +kernel
theorem dX0_hasPosition_17 : decode cX0_hasPosition 17 = .ok (.goto 4, 3) := by decide +kernel
theorem dX0_hasPosition_20 : decode cX0_hasPosition 20 = .ok (.iconst 0, 1) := by decide +kernel
theorem dX0_hasPosition_21 : decode cX0_hasPosition 21 = .ok (.ireturn, 1) := by decide +kernel
theorem dX0_flake_0 : decode cX0_flake 0 = .ok (.aload_n 0, 1) := by decide +kernel
theorem dX0_flake_1 : decode cX0_flake 1 = .ok (.getfield 20, 3) := by decide +kernel
theorem dX0_flake_4 : decode cX0_flake 4 = .ok (.iload_n 1, 1) := by decide +kernel
theorem dX0_flake_5 : decode cX0_flake 5 = .ok (.iconst 4, 1) := by decide +kernel
theorem dX0_flake_6 : decode cX0_flake 6 = .ok (.imul, 1) := by decide +kernel
theorem dX0_flake_7 : decode cX0_flake 7 = .ok (.iload_n 2, 1) := by decide +kernel
theorem dX0_flake_8 : decode cX0_flake 8 = .ok (.iadd, 1) := by decide +kernel
theorem dX0_flake_9 : decode cX0_flake 9 = .ok (.invokevirtual 26, 3) := by decide +kernel
theorem dX0_flake_12 : decode cX0_flake 12 = .ok (.ireturn, 1) := by decide +kernel
theorem dX0_replace_0 : decode cX0_replace 0 = .ok (.aload_n 0, 1) := by decide +kernel
theorem dX0_replace_1 : decode cX0_replace 1 = .ok (.getfield 20, 3) := by decide +kernel
theorem dX0_replace_4 : decode cX0_replace 4 = .ok (.iload_n 1, 1) := by decide +kernel
theorem dX0_replace_5 : decode cX0_replace 5 = .ok (.iconst 4, 1) := by decide +kernel
theorem dX0_replace_6 : decode cX0_replace 6 = .ok (.imul, 1) := by decide +kernel
theorem dX0_replace_7 : decode cX0_replace 7 = .ok (.iload_n 2, 1) := by decide +kernel
theorem dX0_replace_8 : decode cX0_replace 8 = .ok (.iadd, 1) := by decide +kernel
theorem dX0_replace_9 : decode cX0_replace 9 = .ok (.iload_n 3, 1) := by decide +kernel
theorem dX0_replace_10 : decode cX0_replace 10 = .ok (.invokevirtual 30, 3) := by decide +kernel
theorem dX0_replace_13 : decode cX0_replace 13 = .ok (.return_, 1) := by decide +kernel
theorem dX0_add_0 : decode cX0_add 0 = .ok (.aload_n 0, 1) := by decide +kernel
theorem dX0_add_1 : decode cX0_add 1 = .ok (.getfield 14, 3) := by decide +kernel
theorem dX0_add_4 : decode cX0_add 4 = .ok (.iload_n 1, 1) := by decide +kernel
theorem dX0_add_5 : decode cX0_add 5 = .ok (.invokevirtual 26, 3) := by decide +kernel
theorem dX0_add_8 : decode cX0_add 8 = .ok (.istore_n 3, 1) := by decide +kernel
theorem dX0_add_9 : decode cX0_add 9 = .ok (.aload_n 0, 1) := by decide +kernel
theorem dX0_add_10 : decode cX0_add 10 = .ok (.getfield 20, 3) := by decide +kernel
theorem dX0_add_13 : decode cX0_add 13 = .ok (.iload_n 1, 1) := by decide +kernel
theorem dX0_add_14 : decode cX0_add 14 = .ok (.iconst 4, 1) := by decide +kernel
theorem dX0_add_15 : decode cX0_add 15 = .ok (.imul, 1) := by decide +kernel
theorem dX0_add_16 : decode cX0_add 16 = .ok (.iload_n 3, 1) := by decide +kernel
theorem dX0_add_17 : decode cX0_add 17 = .ok (.iadd, 1) := by decide +kernel
theorem dX0_add_18 : decode cX0_add 18 = .ok (.iload_n 2, 1) := by decide +kernel
theorem dX0_add_19 : decode cX0_add 19 = .ok (.invokevirtual 30, 3) := by decide +kernel
theorem dX0_add_22 : decode cX0_add 22 = .ok (.aload_n 0, 1) := by decide +kernel
theorem dX0_add_23 : decode cX0_add 23 = .ok (.getfield 14, 3) := by decide +kernel
theorem dX0_add_26 : decode cX0_add 26 = .ok (.iload_n 1, 1) := by decide +kernel
theorem dX0_add_27 : decode cX0_add 27 = .ok (.iload_n 3, 1) := by decide +kernel
theorem dX0_add_28 : decode cX0_add 28 = .ok (.iconst 1, 1) := by decide +kernel
theorem dX0_add_29 : decode cX0_add 29 = .ok (.iadd, 1) := by decide +kernel
theorem dX0_add_30 : decode cX0_add 30 = .ok (.invokevirtual 30, 3) := by decide +kernel
theorem dX0_add_33 : decode cX0_add 33 = .ok (.return_, 1) := by decide +kernel
theorem dX0_clear_0 : decode cX0_clear 0 = .ok (.aload_n 0, 1) := by decide +kernel
theorem dX0_clear_1 : decode cX0_clear 1 = .ok (.getfield 14, 3) := by decide +kernel
theorem dX0_clear_4 : decode cX0_clear 4 = .ok (.iload_n 1, 1) := by decide +kernel
theorem dX0_clear_5 : decode cX0_clear 5 = .ok (.iconst 0, 1) := by decide +kernel
theorem dX0_clear_6 : decode cX0_clear 6 = .ok (.invokevirtual 30, 3) := by decide +kernel
theorem dX0_clear_9 : decode cX0_clear 9 = .ok (.return_, 1) := by decide +kernel
theorem dX0_takeList_0 : decode cX0_takeList 0 = .ok (.aload_n 2, 1) := by decide +kernel
theorem dX0_takeList_1 : decode cX0_takeList 1 = .ok (.getfield 14, 3) := by decide +kernel
theorem dX0_takeList_4 : decode cX0_takeList 4 = .ok (.iload_n 3, 1) := by decide +kernel
theorem dX0_takeList_5 : decode cX0_takeList 5 = .ok (.invokevirtual 26, 3) := by decide +kernel
theorem dX0_takeList_8 : decode cX0_takeList 8 = .ok (.istore 4, 2) := by decide +kernel
theorem dX0_takeList_10 : decode cX0_takeList 10 = .ok (.iconst 0, 1) := by decide +kernel
theorem dX0_takeList_11 : decode cX0_takeList 11 = .ok (.istore 5, 2) := by decide +kernel
theorem dX0_takeList_13 : decode cX0_takeList 13 = .ok (.iload 5, 2) := by decide +kernel
theorem dX0_takeList_15 : decode cX0_takeList 15 = .ok (.iload 4, 2) := by decide +kernel
theorem dX0_takeList_17 : decode cX0_takeList 17 = .ok (.if_icmp .ge 35, 3) := by decide +kernel
theorem dX0_takeList_20 : decode cX0_takeList 20 = .ok (.aload_n 0, 1) := by decide +kernel
theorem dX0_takeList_21 : decode cX0_takeList 21 = .ok (.getfield 20, 3) := by decide +kernel
theorem dX0_takeList_24 : decode cX0_takeList 24 = .ok (.iload_n 1, 1) := by decide +kernel
theorem dX0_takeList_25 : decode cX0_takeList 25 = .ok (.iconst 4, 1) := by decide +kernel
theorem dX0_takeList_26 : decode cX0_takeList 26 = .ok (.imul, 1) := by decide +kernel
theorem dX0_takeList_27 : decode cX0_takeList 27 = .ok (.iload 5, 2) := by decide +kernel
theorem dX0_takeList_29 : decode cX0_takeList 29 = .ok (.iadd, 1) := by decide +kernel
theorem dX0_takeList_30 : decode cX0_takeList 30 = .ok (.aload_n 2, 1) := by decide +kernel
theorem dX0_takeList_31 : decode cX0_takeList 31 = .ok (.getfield 20, 3) := by decide +kernel
theorem dX0_takeList_34 : decode cX0_takeList 34 = .ok (.iload_n 3, 1) := by decide +kernel
theorem dX0_takeList_35 : decode cX0_takeList 35 = .ok (.iconst 4, 1) := by decide +kernel
theorem dX0_takeList_36 : decode cX0_takeList 36 = .ok (.imul, 1) := by decide +kernel
theorem dX0_takeList_37 : decode cX0_takeList 37 = .ok (.iload 5, 2) := by decide +kernel
theorem dX0_takeList_39 : decode cX0_takeList 39 = .ok (.iadd, 1) := by decide +kernel
theorem dX0_takeList_40 : decode cX0_takeList 40 = .ok (.invokevirtual 26, 3) := by decide +kernel
theorem dX0_takeList_43 : decode cX0_takeList 43 = .ok (.invokevirtual 30, 3) := by decide +kernel
theorem dX0_takeList_46 : decode cX0_takeList 46 = .ok (.iinc 5 1, 3) := by decide +kernel
theorem dX0_takeList_49 : decode cX0_takeList 49 = .ok (.goto (-36), 3) := by decide +kernel
theorem dX0_takeList_52 : decode cX0_takeList 52 = .ok (.aload_n 0, 1) := by decide +kernel
theorem dX0_takeList_53 : decode cX0_takeList 53 = .ok (.getfield 14, 3) := by decide +kernel
theorem dX0_takeList_56 : decode cX0_takeList 56 = .ok (.iload_n 1, 1) := by decide +kernel
theorem dX0_takeList_57 : decode cX0_takeList 57 = .ok (.iload 4, 2) := by decide +kernel
theorem dX0_takeList_59 : decode cX0_takeList 59 = .ok (.invokevirtual 30, 3) := by decide +kernel
theorem dX0_takeList_62 : decode cX0_takeList 62 = .ok (.return_, 1) := by decide +kernel
theorem dX0_copyFrom_0 : decode cX0_copyFrom 0 = .ok (.aload_n 0, 1) := by decide +kernel
theorem dX0_copyFrom_1 : decode cX0_copyFrom 1 = .ok (.getfield 14, 3) := by decide +kernel
theorem dX0_copyFrom_4 : decode cX0_copyFrom 4 = .ok (.aload_n 1, 1) := by decide +kernel
theorem dX0_copyFrom_5 : decode cX0_copyFrom 5 = .ok (.getfield 14, 3) := by decide +kernel
theorem dX0_copyFrom_8 : decode cX0_copyFrom 8 = .ok (.invokevirtual 33, 3) := by decide +kernel
theorem dX0_copyFrom_11 : decode cX0_copyFrom 11 = .ok (.aload_n 0, 1) := by decide +kernel
theorem dX0_copyFrom_12 : decode cX0_copyFrom 12 = .ok (.getfield 20, 3) := by decide +kernel
theorem dX0_copyFrom_15 : decode cX0_copyFrom 15 = .ok (.aload_n 1, 1) := by decide +kernel
theorem dX0_copyFrom_16 : decode cX0_copyFrom 16 = .ok (.getfield 20, 3) := by decide +kernel
theorem dX0_copyFrom_19 : decode cX0_copyFrom 19 = .ok (.invokevirtual 33, 3) := by decide +kernel
theorem dX0_copyFrom_22 : decode cX0_copyFrom 22 = .ok (.return_, 1) := by decide +kernel
theorem dX0_rootByLists_0 : decode cX0_rootByLists 0 = .ok (.aload_n 0, 1) := by decide +kernel
theorem dX0_rootByLists_1 : decode cX0_rootByLists 1 = .ok (.getfield 14, 3) := by decide +kernel
theorem dX0_rootByLists_4 : decode cX0_rootByLists 4 = .ok (.iload_n 1, 1) := by decide +kernel
theorem dX0_rootByLists_5 : decode cX0_rootByLists 5 = .ok (.invokevirtual 26, 3) := by decide +kernel
theorem dX0_rootByLists_8 : decode cX0_rootByLists 8 = .ok (.istore_n 2, 1) := by decide +kernel
theorem dX0_rootByLists_9 : decode cX0_rootByLists 9 = .ok (.iload_n 2, 1) := by decide +kernel
theorem dX0_rootByLists_10 : decode cX0_rootByLists 10 = .ok (.ifCond .gt 5, 3) := by decide +kernel
theorem dX0_rootByLists_13 : decode cX0_rootByLists 13 = .ok (.iconst 0, 1) := by decide +kernel
theorem dX0_rootByLists_14 : decode cX0_rootByLists 14 = .ok (.ireturn, 1) := by decide +kernel
theorem dX0_rootByLists_15 : decode cX0_rootByLists 15 = .ok (.iconst 0, 1) := by decide +kernel
theorem dX0_rootByLists_16 : decode cX0_rootByLists 16 = .ok (.istore_n 3, 1) := by decide +kernel
theorem dX0_rootByLists_17 : decode cX0_rootByLists 17 = .ok (.iload_n 3, 1) := by decide +kernel
theorem dX0_rootByLists_18 : decode cX0_rootByLists 18 = .ok (.iload_n 2, 1) := by decide +kernel
theorem dX0_rootByLists_19 : decode cX0_rootByLists 19 = .ok (.if_icmp .ge 29, 3) := by decide +kernel
theorem dX0_rootByLists_22 : decode cX0_rootByLists 22 = .ok (.aload_n 0, 1) := by decide +kernel
theorem dX0_rootByLists_23 : decode cX0_rootByLists 23 = .ok (.getfield 23, 3) := by decide +kernel
theorem dX0_rootByLists_26 : decode cX0_rootByLists 26 = .ok (.iload_n 3, 1) := by decide +kernel
theorem dX0_rootByLists_27 : decode cX0_rootByLists 27 = .ok (.aload_n 0, 1) := by decide +kernel
theorem dX0_rootByLists_28 : decode cX0_rootByLists 28 = .ok (.getfield 20, 3) := by decide +kernel
theorem dX0_rootByLists_31 : decode cX0_rootByLists 31 = .ok (.iload_n 1, 1) := by decide +kernel
theorem dX0_rootByLists_32 : decode cX0_rootByLists 32 = .ok (.iconst 4, 1) := by decide +kernel
theorem dX0_rootByLists_33 : decode cX0_rootByLists 33 = .ok (.imul, 1) := by decide +kernel
theorem dX0_rootByLists_34 : decode cX0_rootByLists 34 = .ok (.iload_n 3, 1) := by decide +kernel
theorem dX0_rootByLists_35 : decode cX0_rootByLists 35 = .ok (.iadd, 1) := by decide +kernel
theorem dX0_rootByLists_36 : decode cX0_rootByLists 36 = .ok (.invokevirtual 26, 3) := by decide +kernel
theorem dX0_rootByLists_39 : decode cX0_rootByLists 39 = .ok (.invokevirtual 30, 3) := by decide +kernel
theorem dX0_rootByLists_42 : decode cX0_rootByLists 42 = .ok (.iinc 3 1, 3) := by decide +kernel
theorem dX0_rootByLists_45 : decode cX0_rootByLists 45 = .ok (.goto (-28), 3) := by decide +kernel
theorem dX0_rootByLists_48 : decode cX0_rootByLists 48 = .ok (.iconst 0, 1) := by decide +kernel
theorem dX0_rootByLists_49 : decode cX0_rootByLists 49 = .ok (.istore_n 3, 1) := by decide +kernel
theorem dX0_rootByLists_50 : decode cX0_rootByLists 50 = .ok (.iload_n 3, 1) := by decide +kernel
theorem dX0_rootByLists_51 : decode cX0_rootByLists 51 = .ok (.iconst 4, 1) := by decide +kernel
theorem dX0_rootByLists_52 : decode cX0_rootByLists 52 = .ok (.if_icmp .ge 99, 3) := by decide +kernel
theorem dX0_rootByLists_55 : decode cX0_rootByLists 55 = .ok (.iload_n 2, 1) := by decide +kernel
theorem dX0_rootByLists_56 : decode cX0_rootByLists 56 = .ok (.iconst 1, 1) := by decide +kernel
theorem dX0_rootByLists_57 : decode cX0_rootByLists 57 = .ok (.if_icmp .le 94, 3) := by decide +kernel
theorem dX0_rootByLists_60 : decode cX0_rootByLists 60 = .ok (.iload_n 2, 1) := by decide +kernel
theorem dX0_rootByLists_61 : decode cX0_rootByLists 61 = .ok (.iconst 1, 1) := by decide +kernel
theorem dX0_rootByLists_62 : decode cX0_rootByLists 62 = .ok (.iadd, 1) := by decide +kernel
theorem dX0_rootByLists_63 : decode cX0_rootByLists 63 = .ok (.iconst 2, 1) := by decide +kernel
theorem dX0_rootByLists_64 : decode cX0_rootByLists 64 = .ok (.idiv, 1) := by decide +kernel
theorem dX0_rootByLists_65 : decode cX0_rootByLists 65 = .ok (.istore 4, 2) := by decide +kernel
theorem dX0_rootByLists_67 : decode cX0_rootByLists 67 = .ok (.iconst 0, 1) := by decide +kernel
theorem dX0_rootByLists_68 : decode cX0_rootByLists 68 = .ok (.istore 5, 2) := by decide +kernel
theorem dX0_rootByLists_70 : decode cX0_rootByLists 70 = .ok (.iload 5, 2) := by decide +kernel
theorem dX0_rootByLists_72 : decode cX0_rootByLists 72 = .ok (.iload 4, 2) := by decide +kernel
theorem dX0_rootByLists_74 : decode cX0_rootByLists 74 = .ok (.if_icmp .ge 68, 3) := by decide +kernel
theorem dX0_rootByLists_77 : decode cX0_rootByLists 77 = .ok (.aload_n 0, 1) := by decide +kernel
theorem dX0_rootByLists_78 : decode cX0_rootByLists 78 = .ok (.getfield 23, 3) := by decide +kernel
theorem dX0_rootByLists_81 : decode cX0_rootByLists 81 = .ok (.iconst 2, 1) := by decide +kernel
theorem dX0_rootByLists_82 : decode cX0_rootByLists 82 = .ok (.iload 5, 2) := by decide +kernel
theorem dX0_rootByLists_84 : decode cX0_rootByLists 84 = .ok (.imul, 1) := by decide +kernel
theorem dX0_rootByLists_85 : decode cX0_rootByLists 85 = .ok (.invokevirtual 26, 3) := by decide +kernel
theorem dX0_rootByLists_88 : decode cX0_rootByLists 88 = .ok (.istore 6, 2) := by decide +kernel
theorem dX0_rootByLists_90 : decode cX0_rootByLists 90 = .ok (.iconst 2, 1) := by decide +kernel
theorem dX0_rootByLists_91 : decode cX0_rootByLists 91 = .ok (.iload 5, 2) := by decide +kernel
theorem dX0_rootByLists_93 : decode cX0_rootByLists 93 = .ok (.imul, 1) := by decide +kernel
theorem dX0_rootByLists_94 : decode cX0_rootByLists 94 = .ok (.iconst 1, 1) := by decide +kernel
theorem dX0_rootByLists_95 : decode cX0_rootByLists 95 = .ok (.iadd, 1) := by decide +kernel
theorem dX0_rootByLists_96 : decode cX0_rootByLists 96 = .ok (.iload_n 2, 1) := by decide +kernel
theorem dX0_rootByLists_97 : decode cX0_rootByLists 97 = .ok (.if_icmp .ge 19, 3) := by decide +kernel
theorem dX0_rootByLists_100 : decode cX0_rootByLists 100 = .ok (.aload_n 0, 1) := by decide +kernel
theorem dX0_rootByLists_101 : decode cX0_rootByLists 101 = .ok (.getfield 23, 3) := by decide +kernel
theorem dX0_rootByLists_104 : decode cX0_rootByLists 104 = .ok (.iconst 2, 1) := by decide +kernel
theorem dX0_rootByLists_105 : decode cX0_rootByLists 105 = .ok (.iload 5, 2) := by decide +kernel
theorem dX0_rootByLists_107 : decode cX0_rootByLists 107 = .ok (.imul, 1) := by decide +kernel
theorem dX0_rootByLists_108 : decode cX0_rootByLists 108 = .ok (.iconst 1, 1) := by decide +kernel
theorem dX0_rootByLists_109 : decode cX0_rootByLists 109 = .ok (.iadd, 1) := by decide +kernel
theorem dX0_rootByLists_110 : decode cX0_rootByLists 110 = .ok (.invokevirtual 26, 3) := by decide +kernel
theorem dX0_rootByLists_113 : decode cX0_rootByLists 113 = .ok (.goto 5, 3) := by decide +kernel
theorem dX0_rootByLists_116 : decode cX0_rootByLists 116 = .ok (.iload 6, 2) := by decide +kernel
theorem dX0_rootByLists_118 : decode cX0_rootByLists 118 = .ok (.istore 7, 2) := by decide +kernel
theorem dX0_rootByLists_120 : decode cX0_rootByLists 120 = .ok (.aload_n 0, 1) := by decide +kernel
theorem dX0_rootByLists_121 : decode cX0_rootByLists 121 = .ok (.getfield 23, 3) := by decide +kernel
theorem dX0_rootByLists_124 : decode cX0_rootByLists 124 = .ok (.iload 5, 2) := by decide +kernel
theorem dX0_rootByLists_126 : decode cX0_rootByLists 126 = .ok (.iload 6, 2) := by decide +kernel
theorem dX0_rootByLists_128 : decode cX0_rootByLists 128 = .ok (.iload 7, 2) := by decide +kernel
theorem dX0_rootByLists_130 : decode cX0_rootByLists 130 = .ok (.invokestatic 37, 3) := by decide +kernel
theorem dX0_rootByLists_133 : decode cX0_rootByLists 133 = .ok (.invokevirtual 30, 3) := by decide +kernel
theorem dX0_rootByLists_136 : decode cX0_rootByLists 136 = .ok (.iinc 5 1, 3) := by decide +kernel
theorem dX0_rootByLists_139 : decode cX0_rootByLists 139 = .ok (.goto (-69), 3) := by decide +kernel
theorem dX0_rootByLists_142 : decode cX0_rootByLists 142 = .ok (.iload 4, 2) := by decide +kernel
theorem dX0_rootByLists_144 : decode cX0_rootByLists 144 = .ok (.istore_n 2, 1) := by decide +kernel
theorem dX0_rootByLists_145 : decode cX0_rootByLists 145 = .ok (.iinc 3 1, 3) := by decide +kernel
theorem dX0_rootByLists_148 : decode cX0_rootByLists 148 = .ok (.goto (-98), 3) := by decide +kernel
theorem dX0_rootByLists_151 : decode cX0_rootByLists 151 = .ok (.aload_n 0, 1) := by decide +kernel
theorem dX0_rootByLists_152 : decode cX0_rootByLists 152 = .ok (.getfield 23, 3) := by decide +kernel
theorem dX0_rootByLists_155 : decode cX0_rootByLists 155 = .ok (.iconst 0, 1) := by decide +kernel
theorem dX0_rootByLists_156 : decode cX0_rootByLists 156 = .ok (.invokevirtual 26, 3) := by decide +kernel
theorem dX0_rootByLists_159 : decode cX0_rootByLists 159 = .ok (.ireturn, 1) := by decide +kernel
theorem dX0_rootByHalves_0 : decode cX0_rootByHalves 0 = .ok (.aload_n 0, 1) := by decide +kernel
theorem dX0_rootByHalves_1 : decode cX0_rootByHalves 1 = .ok (.getfield 14, 3) := by decide +kernel
theorem dX0_rootByHalves_4 : decode cX0_rootByHalves 4 = .ok (.iload_n 1, 1) := by decide +kernel
theorem dX0_rootByHalves_5 : decode cX0_rootByHalves 5 = .ok (.invokevirtual 26, 3) := by decide +kernel
theorem dX0_rootByHalves_8 : decode cX0_rootByHalves 8 = .ok (.istore_n 2, 1) := by decide +kernel
theorem dX0_rootByHalves_9 : decode cX0_rootByHalves 9 = .ok (.iload_n 2, 1) := by decide +kernel
theorem dX0_rootByHalves_10 : decode cX0_rootByHalves 10 = .ok (.ifCond .gt 5, 3) := by decide +kernel
theorem dX0_rootByHalves_13 : decode cX0_rootByHalves 13 = .ok (.iconst 0, 1) := by decide +kernel
theorem dX0_rootByHalves_14 : decode cX0_rootByHalves 14 = .ok (.ireturn, 1) := by decide +kernel
theorem dX0_rootByHalves_15 : decode cX0_rootByHalves 15 = .ok (.iconst 1, 1) := by decide +kernel
theorem dX0_rootByHalves_16 : decode cX0_rootByHalves 16 = .ok (.istore_n 3, 1) := by decide +kernel
theorem dX0_rootByHalves_17 : decode cX0_rootByHalves 17 = .ok (.iconst 0, 1) := by decide +kernel
theorem dX0_rootByHalves_18 : decode cX0_rootByHalves 18 = .ok (.istore 4, 2) := by decide +kernel
theorem dX0_rootByHalves_20 : decode cX0_rootByHalves 20 = .ok (.iload 4, 2) := by decide +kernel
theorem dX0_rootByHalves_22 : decode cX0_rootByHalves 22 = .ok (.iconst 4, 1) := by decide +kernel
theorem dX0_rootByHalves_23 : decode cX0_rootByHalves 23 = .ok (.if_icmp .ge 18, 3) := by decide +kernel
theorem dX0_rootByHalves_26 : decode cX0_rootByHalves 26 = .ok (.iload_n 3, 1) := by decide +kernel
theorem dX0_rootByHalves_27 : decode cX0_rootByHalves 27 = .ok (.iload_n 2, 1) := by decide +kernel
theorem dX0_rootByHalves_28 : decode cX0_rootByHalves 28 = .ok (.if_icmp .ge 13, 3) := by decide +kernel
theorem dX0_rootByHalves_31 : decode cX0_rootByHalves 31 = .ok (.iload_n 3, 1) := by decide +kernel
theorem dX0_rootByHalves_32 : decode cX0_rootByHalves 32 = .ok (.iconst 2, 1) := by decide +kernel
theorem dX0_rootByHalves_33 : decode cX0_rootByHalves 33 = .ok (.imul, 1) := by decide +kernel
theorem dX0_rootByHalves_34 : decode cX0_rootByHalves 34 = .ok (.istore_n 3, 1) := by decide +kernel
theorem dX0_rootByHalves_35 : decode cX0_rootByHalves 35 = .ok (.iinc 4 1, 3) := by decide +kernel
theorem dX0_rootByHalves_38 : decode cX0_rootByHalves 38 = .ok (.goto (-18), 3) := by decide +kernel
theorem dX0_rootByHalves_41 : decode cX0_rootByHalves 41 = .ok (.iload_n 1, 1) := by decide +kernel
theorem dX0_rootByHalves_42 : decode cX0_rootByHalves 42 = .ok (.iconst 4, 1) := by decide +kernel
theorem dX0_rootByHalves_43 : decode cX0_rootByHalves 43 = .ok (.imul, 1) := by decide +kernel
theorem dX0_rootByHalves_44 : decode cX0_rootByHalves 44 = .ok (.istore 4, 2) := by decide +kernel
theorem dX0_rootByHalves_46 : decode cX0_rootByHalves 46 = .ok (.aload_n 0, 1) := by decide +kernel
theorem dX0_rootByHalves_47 : decode cX0_rootByHalves 47 = .ok (.getfield 20, 3) := by decide +kernel
theorem dX0_rootByHalves_50 : decode cX0_rootByHalves 50 = .ok (.iload 4, 2) := by decide +kernel
theorem dX0_rootByHalves_52 : decode cX0_rootByHalves 52 = .ok (.iload 4, 2) := by decide +kernel
theorem dX0_rootByHalves_54 : decode cX0_rootByHalves 54 = .ok (.iload_n 2, 1) := by decide +kernel
theorem dX0_rootByHalves_55 : decode cX0_rootByHalves 55 = .ok (.iadd, 1) := by decide +kernel
theorem dX0_rootByHalves_56 : decode cX0_rootByHalves 56 = .ok (.iload_n 3, 1) := by decide +kernel
theorem dX0_rootByHalves_57 : decode cX0_rootByHalves 57 = .ok (.invokestatic 41, 3) := by decide +kernel
theorem dX0_rootByHalves_60 : decode cX0_rootByHalves 60 = .ok (.ireturn, 1) := by decide +kernel
theorem dX0_rootOfHalf_0 : decode cX0_rootOfHalf 0 = .ok (.iload_n 3, 1) := by decide +kernel
theorem dX0_rootOfHalf_1 : decode cX0_rootOfHalf 1 = .ok (.iconst 1, 1) := by decide +kernel
theorem dX0_rootOfHalf_2 : decode cX0_rootOfHalf 2 = .ok (.if_icmp .gt 9, 3) := by decide +kernel
theorem dX0_rootOfHalf_5 : decode cX0_rootOfHalf 5 = .ok (.aload_n 0, 1) := by decide +kernel
theorem dX0_rootOfHalf_6 : decode cX0_rootOfHalf 6 = .ok (.iload_n 1, 1) := by decide +kernel
theorem dX0_rootOfHalf_7 : decode cX0_rootOfHalf 7 = .ok (.invokevirtual 26, 3) := by decide +kernel
theorem dX0_rootOfHalf_10 : decode cX0_rootOfHalf 10 = .ok (.ireturn, 1) := by decide +kernel
theorem dX0_rootOfHalf_11 : decode cX0_rootOfHalf 11 = .ok (.iload_n 3, 1) := by decide +kernel
theorem dX0_rootOfHalf_12 : decode cX0_rootOfHalf 12 = .ok (.iconst 2, 1) := by decide +kernel
theorem dX0_rootOfHalf_13 : decode cX0_rootOfHalf 13 = .ok (.idiv, 1) := by decide +kernel
theorem dX0_rootOfHalf_14 : decode cX0_rootOfHalf 14 = .ok (.istore 4, 2) := by decide +kernel
theorem dX0_rootOfHalf_16 : decode cX0_rootOfHalf 16 = .ok (.aload_n 0, 1) := by decide +kernel
theorem dX0_rootOfHalf_17 : decode cX0_rootOfHalf 17 = .ok (.iload_n 1, 1) := by decide +kernel
theorem dX0_rootOfHalf_18 : decode cX0_rootOfHalf 18 = .ok (.iload_n 2, 1) := by decide +kernel
theorem dX0_rootOfHalf_19 : decode cX0_rootOfHalf 19 = .ok (.iload 4, 2) := by decide +kernel
theorem dX0_rootOfHalf_21 : decode cX0_rootOfHalf 21 = .ok (.invokestatic 41, 3) := by decide +kernel
theorem dX0_rootOfHalf_24 : decode cX0_rootOfHalf 24 = .ok (.istore 5, 2) := by decide +kernel
theorem dX0_rootOfHalf_26 : decode cX0_rootOfHalf 26 = .ok (.iload_n 1, 1) := by decide +kernel
theorem dX0_rootOfHalf_27 : decode cX0_rootOfHalf 27 = .ok (.iload 4, 2) := by decide +kernel
theorem dX0_rootOfHalf_29 : decode cX0_rootOfHalf 29 = .ok (.iadd, 1) := by decide +kernel
theorem dX0_rootOfHalf_30 : decode cX0_rootOfHalf 30 = .ok (.iload_n 2, 1) := by decide +kernel
theorem dX0_rootOfHalf_31 : decode cX0_rootOfHalf 31 = .ok (.if_icmp .ge 17, 3) := by decide +kernel
theorem dX0_rootOfHalf_34 : decode cX0_rootOfHalf 34 = .ok (.aload_n 0, 1) := by decide +kernel
theorem dX0_rootOfHalf_35 : decode cX0_rootOfHalf 35 = .ok (.iload_n 1, 1) := by decide +kernel
theorem dX0_rootOfHalf_36 : decode cX0_rootOfHalf 36 = .ok (.iload 4, 2) := by decide +kernel
theorem dX0_rootOfHalf_38 : decode cX0_rootOfHalf 38 = .ok (.iadd, 1) := by decide +kernel
theorem dX0_rootOfHalf_39 : decode cX0_rootOfHalf 39 = .ok (.iload_n 2, 1) := by decide +kernel
theorem dX0_rootOfHalf_40 : decode cX0_rootOfHalf 40 = .ok (.iload 4, 2) := by decide +kernel
theorem dX0_rootOfHalf_42 : decode cX0_rootOfHalf 42 = .ok (.invokestatic 41, 3) := by decide +kernel
theorem dX0_rootOfHalf_45 : decode cX0_rootOfHalf 45 = .ok (.goto 5, 3) := by decide +kernel
theorem dX0_rootOfHalf_48 : decode cX0_rootOfHalf 48 = .ok (.iload 5, 2) := by decide +kernel
theorem dX0_rootOfHalf_50 : decode cX0_rootOfHalf 50 = .ok (.istore 6, 2) := by decide +kernel
theorem dX0_rootOfHalf_52 : decode cX0_rootOfHalf 52 = .ok (.iload 5, 2) := by decide +kernel
theorem dX0_rootOfHalf_54 : decode cX0_rootOfHalf 54 = .ok (.iload 6, 2) := by decide +kernel
theorem dX0_rootOfHalf_56 : decode cX0_rootOfHalf 56 = .ok (.invokestatic 37, 3) := by decide +kernel
theorem dX0_rootOfHalf_59 : decode cX0_rootOfHalf 59 = .ok (.ireturn, 1) := by decide +kernel
theorem dX1_init_0 : decode cX1_init 0 = .ok (.aload_n 0, 1) := by decide +kernel
theorem dX1_init_1 : decode cX1_init 1 = .ok (.invokespecial 3, 3) := by decide +kernel
theorem dX1_init_4 : decode cX1_init 4 = .ok (.aload_n 0, 1) := by decide +kernel
theorem dX1_init_5 : decode cX1_init 5 = .ok (.bipush 8, 2) := by decide +kernel
theorem dX1_init_7 : decode cX1_init 7 = .ok (.anewarray 9, 3) := by decide +kernel
theorem dX1_init_10 : decode cX1_init 10 = .ok (.putfield 11, 3) := by decide +kernel
theorem dX1_init_13 : decode cX1_init 13 = .ok (.iconst 0, 1) := by decide +kernel
theorem dX1_init_14 : decode cX1_init 14 = .ok (.istore_n 1, 1) := by decide +kernel
theorem dX1_init_15 : decode cX1_init 15 = .ok (.iload_n 1, 1) := by decide +kernel
theorem dX1_init_16 : decode cX1_init 16 = .ok (.aload_n 0, 1) := by decide +kernel
theorem dX1_init_17 : decode cX1_init 17 = .ok (.getfield 11, 3) := by decide +kernel
theorem dX1_init_20 : decode cX1_init 20 = .ok (.arraylength, 1) := by decide +kernel
theorem dX1_init_21 : decode cX1_init 21 = .ok (.if_icmp .ge 22, 3) := by decide +kernel
theorem dX1_init_24 : decode cX1_init 24 = .ok (.aload_n 0, 1) := by decide +kernel
theorem dX1_init_25 : decode cX1_init 25 = .ok (.getfield 11, 3) := by decide +kernel
theorem dX1_init_28 : decode cX1_init 28 = .ok (.iload_n 1, 1) := by decide +kernel
theorem dX1_init_29 : decode cX1_init 29 = .ok (.new 9, 3) := by decide +kernel
theorem dX1_init_32 : decode cX1_init 32 = .ok (.dup, 1) := by decide +kernel
theorem dX1_init_33 : decode cX1_init 33 = .ok (.invokespecial 17, 3) := by decide +kernel
theorem dX1_init_36 : decode cX1_init 36 = .ok (.aastore, 1) := by decide +kernel
theorem dX1_init_37 : decode cX1_init 37 = .ok (.iinc 1 1, 3) := by decide +kernel
theorem dX1_init_40 : decode cX1_init 40 = .ok (.goto (-25), 3) := by decide +kernel
theorem dX1_init_43 : decode cX1_init 43 = .ok (.return_, 1) := by decide +kernel
theorem dX1_keep_0 : decode cX1_keep 0 = .ok (.aload_n 0, 1) := by decide +kernel
theorem dX1_keep_1 : decode cX1_keep 1 = .ok (.getfield 18, 3) := by decide +kernel
theorem dX1_keep_4 : decode cX1_keep 4 = .ok (.ifCond .lt 40, 3) := by decide +kernel
theorem dX1_keep_7 : decode cX1_keep 7 = .ok (.aload_n 0, 1) := by decide +kernel
theorem dX1_keep_8 : decode cX1_keep 8 = .ok (.getfield 18, 3) := by decide +kernel
theorem dX1_keep_11 : decode cX1_keep 11 = .ok (.aload_n 0, 1) := by decide +kernel
theorem dX1_keep_12 : decode cX1_keep 12 = .ok (.getfield 11, 3) := by decide +kernel
theorem dX1_keep_15 : decode cX1_keep 15 = .ok (.arraylength, 1) := by decide +kernel
theorem dX1_keep_16 : decode cX1_keep 16 = .ok (.if_icmp .ge 28, 3) := by decide +kernel
theorem dX1_keep_19 : decode cX1_keep 19 = .ok (.aload_n 0, 1) := by decide +kernel
theorem dX1_keep_20 : decode cX1_keep 20 = .ok (.getfield 11, 3) := by decide +kernel
theorem dX1_keep_23 : decode cX1_keep 23 = .ok (.aload_n 0, 1) := by decide +kernel
theorem dX1_keep_24 : decode cX1_keep 24 = .ok (.getfield 18, 3) := by decide +kernel
theorem dX1_keep_27 : decode cX1_keep 27 = .ok (.aaload, 1) := by decide +kernel
theorem dX1_keep_28 : decode cX1_keep 28 = .ok (.ifnull 16, 3) := by decide +kernel
theorem dX1_keep_31 : decode cX1_keep 31 = .ok (.aload_n 0, 1) := by decide +kernel
theorem dX1_keep_32 : decode cX1_keep 32 = .ok (.getfield 11, 3) := by decide +kernel
theorem dX1_keep_35 : decode cX1_keep 35 = .ok (.aload_n 0, 1) := by decide +kernel
theorem dX1_keep_36 : decode cX1_keep 36 = .ok (.getfield 18, 3) := by decide +kernel
theorem dX1_keep_39 : decode cX1_keep 39 = .ok (.aaload, 1) := by decide +kernel
theorem dX1_keep_40 : decode cX1_keep 40 = .ok (.aload_n 1, 1) := by decide +kernel
theorem dX1_keep_41 : decode cX1_keep 41 = .ok (.invokevirtual 22, 3) := by decide +kernel
theorem dX1_keep_44 : decode cX1_keep 44 = .ok (.aload_n 0, 1) := by decide +kernel
theorem dX1_keep_45 : decode cX1_keep 45 = .ok (.aload_n 0, 1) := by decide +kernel
theorem dX1_keep_46 : decode cX1_keep 46 = .ok (.getfield 18, 3) := by decide +kernel
theorem dX1_keep_49 : decode cX1_keep 49 = .ok (.iconst 1, 1) := by decide +kernel
theorem dX1_keep_50 : decode cX1_keep 50 = .ok (.iadd, 1) := by decide +kernel
theorem dX1_keep_51 : decode cX1_keep 51 = .ok (.bipush 8, 2) := by decide +kernel
theorem dX1_keep_53 : decode cX1_keep 53 = .ok (.irem, 1) := by decide +kernel
theorem dX1_keep_54 : decode cX1_keep 54 = .ok (.putfield 18, 3) := by decide +kernel
theorem dX1_keep_57 : decode cX1_keep 57 = .ok (.aload_n 0, 1) := by decide +kernel
theorem dX1_keep_58 : decode cX1_keep 58 = .ok (.aload_n 0, 1) := by decide +kernel
theorem dX1_keep_59 : decode cX1_keep 59 = .ok (.getfield 26, 3) := by decide +kernel
theorem dX1_keep_62 : decode cX1_keep 62 = .ok (.iconst 1, 1) := by decide +kernel
theorem dX1_keep_63 : decode cX1_keep 63 = .ok (.iadd, 1) := by decide +kernel
theorem dX1_keep_64 : decode cX1_keep 64 = .ok (.bipush 8, 2) := by decide +kernel
theorem dX1_keep_66 : decode cX1_keep 66 = .ok (.invokestatic 29, 3) := by decide +kernel
theorem dX1_keep_69 : decode cX1_keep 69 = .ok (.putfield 26, 3) := by decide +kernel
theorem dX1_keep_72 : decode cX1_keep 72 = .ok (.return_, 1) := by decide +kernel
theorem dX1_takeBack_0 : decode cX1_takeBack 0 = .ok (.aload_n 0, 1) := by decide +kernel
theorem dX1_takeBack_1 : decode cX1_takeBack 1 = .ok (.aload_n 0, 1) := by decide +kernel
theorem dX1_takeBack_2 : decode cX1_takeBack 2 = .ok (.getfield 18, 3) := by decide +kernel
theorem dX1_takeBack_5 : decode cX1_takeBack 5 = .ok (.bipush 8, 2) := by decide +kernel
theorem dX1_takeBack_7 : decode cX1_takeBack 7 = .ok (.iadd, 1) := by decide +kernel
theorem dX1_takeBack_8 : decode cX1_takeBack 8 = .ok (.iconst 1, 1) := by decide +kernel
theorem dX1_takeBack_9 : decode cX1_takeBack 9 = .ok (.isub, 1) := by decide +kernel
theorem dX1_takeBack_10 : decode cX1_takeBack 10 = .ok (.bipush 8, 2) := by decide +kernel
theorem dX1_takeBack_12 : decode cX1_takeBack 12 = .ok (.irem, 1) := by decide +kernel
theorem dX1_takeBack_13 : decode cX1_takeBack 13 = .ok (.putfield 18, 3) := by decide +kernel
theorem dX1_takeBack_16 : decode cX1_takeBack 16 = .ok (.aload_n 0, 1) := by decide +kernel
theorem dX1_takeBack_17 : decode cX1_takeBack 17 = .ok (.getfield 18, 3) := by decide +kernel
theorem dX1_takeBack_20 : decode cX1_takeBack 20 = .ok (.ifCond .lt 40, 3) := by decide +kernel
theorem dX1_takeBack_23 : decode cX1_takeBack 23 = .ok (.aload_n 0, 1) := by decide +kernel
theorem dX1_takeBack_24 : decode cX1_takeBack 24 = .ok (.getfield 18, 3) := by decide +kernel
theorem dX1_takeBack_27 : decode cX1_takeBack 27 = .ok (.aload_n 0, 1) := by decide +kernel
theorem dX1_takeBack_28 : decode cX1_takeBack 28 = .ok (.getfield 11, 3) := by decide +kernel
theorem dX1_takeBack_31 : decode cX1_takeBack 31 = .ok (.arraylength, 1) := by decide +kernel
theorem dX1_takeBack_32 : decode cX1_takeBack 32 = .ok (.if_icmp .ge 28, 3) := by decide +kernel
theorem dX1_takeBack_35 : decode cX1_takeBack 35 = .ok (.aload_n 0, 1) := by decide +kernel
theorem dX1_takeBack_36 : decode cX1_takeBack 36 = .ok (.getfield 11, 3) := by decide +kernel
theorem dX1_takeBack_39 : decode cX1_takeBack 39 = .ok (.aload_n 0, 1) := by decide +kernel
theorem dX1_takeBack_40 : decode cX1_takeBack 40 = .ok (.getfield 18, 3) := by decide +kernel
theorem dX1_takeBack_43 : decode cX1_takeBack 43 = .ok (.aaload, 1) := by decide +kernel
theorem dX1_takeBack_44 : decode cX1_takeBack 44 = .ok (.ifnull 16, 3) := by decide +kernel
theorem dX1_takeBack_47 : decode cX1_takeBack 47 = .ok (.aload_n 1, 1) := by decide +kernel
theorem dX1_takeBack_48 : decode cX1_takeBack 48 = .ok (.aload_n 0, 1) := by decide +kernel
theorem dX1_takeBack_49 : decode cX1_takeBack 49 = .ok (.getfield 11, 3) := by decide +kernel
theorem dX1_takeBack_52 : decode cX1_takeBack 52 = .ok (.aload_n 0, 1) := by decide +kernel
theorem dX1_takeBack_53 : decode cX1_takeBack 53 = .ok (.getfield 18, 3) := by decide +kernel
theorem dX1_takeBack_56 : decode cX1_takeBack 56 = .ok (.aaload, 1) := by decide +kernel
theorem dX1_takeBack_57 : decode cX1_takeBack 57 = .ok (.invokevirtual 22, 3) := by decide +kernel
theorem dX1_takeBack_60 : decode cX1_takeBack 60 = .ok (.aload_n 0, 1) := by decide +kernel
theorem dX1_takeBack_61 : decode cX1_takeBack 61 = .ok (.dup, 1) := by decide +kernel
theorem dX1_takeBack_62 : decode cX1_takeBack 62 = .ok (.getfield 26, 3) := by decide +kernel
theorem dX1_takeBack_65 : decode cX1_takeBack 65 = .ok (.iconst 1, 1) := by decide +kernel
theorem dX1_takeBack_66 : decode cX1_takeBack 66 = .ok (.isub, 1) := by decide +kernel
theorem dX1_takeBack_67 : decode cX1_takeBack 67 = .ok (.putfield 26, 3) := by decide +kernel
theorem dX1_takeBack_70 : decode cX1_takeBack 70 = .ok (.return_, 1) := by decide +kernel
theorem dX1_forget_0 : decode cX1_forget 0 = .ok (.aload_n 0, 1) := by decide +kernel
theorem dX1_forget_1 : decode cX1_forget 1 = .ok (.iconst 0, 1) := by decide +kernel
theorem dX1_forget_2 : decode cX1_forget 2 = .ok (.putfield 26, 3) := by decide +kernel
theorem dX1_forget_5 : decode cX1_forget 5 = .ok (.return_, 1) := by decide +kernel
theorem dX3_init_0 : decode cX3_init 0 = .ok (.aload_n 0, 1) := by decide +kernel
theorem dX3_init_1 : decode cX3_init 1 = .ok (.invokespecial 3, 3) := by decide +kernel
theorem dX3_init_4 : decode cX3_init 4 = .ok (.aload_n 0, 1) := by decide +kernel
theorem dX3_init_5 : decode cX3_init 5 = .ok (.iload_n 1, 1) := by decide +kernel
theorem dX3_init_6 : decode cX3_init 6 = .ok (.ifCond .le 7, 3) := by decide +kernel
theorem dX3_init_9 : decode cX3_init 9 = .ok (.iload_n 1, 1) := by decide +kernel
theorem dX3_init_10 : decode cX3_init 10 = .ok (.goto 4, 3) := by decide +kernel
theorem dX3_init_13 : decode cX3_init 13 = .ok (.iconst 0, 1) := by decide +kernel
theorem dX3_init_14 : decode cX3_init 14 = .ok (.newarray .int, 2) := by decide +kernel
theorem dX3_init_16 : decode cX3_init 16 = .ok (.putfield 9, 3) := by decide +kernel
theorem dX3_init_19 : decode cX3_init 19 = .ok (.aload_n 0, 1) := by decide +kernel
theorem dX3_init_20 : decode cX3_init 20 = .ok (.getfield 9, 3) := by decide +kernel
theorem dX3_init_23 : decode cX3_init 23 = .ok (.iload_n 2, 1) := by decide +kernel
theorem dX3_init_24 : decode cX3_init 24 = .ok (.invokestatic 15, 3) := by decide +kernel
theorem dX3_init_27 : decode cX3_init 27 = .ok (.return_, 1) := by decide +kernel
theorem dX3_at_0 : decode cX3_at 0 = .ok (.iload_n 1, 1) := by decide +kernel
theorem dX3_at_1 : decode cX3_at 1 = .ok (.ifCond .lt 21, 3) := by decide +kernel
theorem dX3_at_4 : decode cX3_at 4 = .ok (.iload_n 1, 1) := by decide +kernel
theorem dX3_at_5 : decode cX3_at 5 = .ok (.aload_n 0, 1) := by decide +kernel
theorem dX3_at_6 : decode cX3_at 6 = .ok (.getfield 9, 3) := by decide +kernel
theorem dX3_at_9 : decode cX3_at 9 = .ok (.arraylength, 1) := by decide +kernel
theorem dX3_at_10 : decode cX3_at 10 = .ok (.if_icmp .ge 12, 3) := by decide +kernel
theorem dX3_at_13 : decode cX3_at 13 = .ok (.aload_n 0, 1) := by decide +kernel
theorem dX3_at_14 : decode cX3_at 14 = .ok (.getfield 9, 3) := by decide +kernel
theorem dX3_at_17 : decode cX3_at 17 = .ok (.iload_n 1, 1) := by decide +kernel
theorem dX3_at_18 : decode cX3_at 18 = .ok (.iaload, 1) := by decide +kernel
theorem dX3_at_19 : decode cX3_at 19 = .ok (.goto 4, 3) := by decide +kernel
theorem dX3_at_22 : decode cX3_at 22 = .ok (.iconst (-1), 1) := by decide +kernel
theorem dX3_at_23 : decode cX3_at 23 = .ok (.ireturn, 1) := by decide +kernel
theorem dX3_put_0 : decode cX3_put 0 = .ok (.iload_n 1, 1) := by decide +kernel
theorem dX3_put_1 : decode cX3_put 1 = .ok (.ifCond .lt 19, 3) := by decide +kernel
theorem dX3_put_4 : decode cX3_put 4 = .ok (.iload_n 1, 1) := by decide +kernel
theorem dX3_put_5 : decode cX3_put 5 = .ok (.aload_n 0, 1) := by decide +kernel
theorem dX3_put_6 : decode cX3_put 6 = .ok (.getfield 9, 3) := by decide +kernel
theorem dX3_put_9 : decode cX3_put 9 = .ok (.arraylength, 1) := by decide +kernel
theorem dX3_put_10 : decode cX3_put 10 = .ok (.if_icmp .ge 10, 3) := by decide +kernel
theorem dX3_put_13 : decode cX3_put 13 = .ok (.aload_n 0, 1) := by decide +kernel
theorem dX3_put_14 : decode cX3_put 14 = .ok (.getfield 9, 3) := by decide +kernel
theorem dX3_put_17 : decode cX3_put 17 = .ok (.iload_n 1, 1) := by decide +kernel
theorem dX3_put_18 : decode cX3_put 18 = .ok (.iload_n 2, 1) := by decide +kernel
theorem dX3_put_19 : decode cX3_put 19 = .ok (.iastore, 1) := by decide +kernel
theorem dX3_put_20 : decode cX3_put 20 = .ok (.return_, 1) := by decide +kernel
theorem dX3_fill_0 : decode cX3_fill 0 = .ok (.aload_n 0, 1) := by decide +kernel
theorem dX3_fill_1 : decode cX3_fill 1 = .ok (.getfield 9, 3) := by decide +kernel
theorem dX3_fill_4 : decode cX3_fill 4 = .ok (.iload_n 1, 1) := by decide +kernel
theorem dX3_fill_5 : decode cX3_fill 5 = .ok (.invokestatic 15, 3) := by decide +kernel
theorem dX3_fill_8 : decode cX3_fill 8 = .ok (.return_, 1) := by decide +kernel
theorem dX3_copyFrom_0 : decode cX3_copyFrom 0 = .ok (.aload_n 1, 1) := by decide +kernel
theorem dX3_copyFrom_1 : decode cX3_copyFrom 1 = .ok (.getfield 9, 3) := by decide +kernel
theorem dX3_copyFrom_4 : decode cX3_copyFrom 4 = .ok (.iconst 0, 1) := by decide +kernel
theorem dX3_copyFrom_5 : decode cX3_copyFrom 5 = .ok (.aload_n 0, 1) := by decide +kernel
theorem dX3_copyFrom_6 : decode cX3_copyFrom 6 = .ok (.getfield 9, 3) := by decide +kernel
theorem dX3_copyFrom_9 : decode cX3_copyFrom 9 = .ok (.iconst 0, 1) := by decide +kernel
theorem dX3_copyFrom_10 : decode cX3_copyFrom 10 = .ok (.aload_n 0, 1) := by decide +kernel
theorem dX3_copyFrom_11 : decode cX3_copyFrom 11 = .ok (.getfield 9, 3) := by decide +kernel
theorem dX3_copyFrom_14 : decode cX3_copyFrom 14 = .ok (.arraylength, 1) := by decide +kernel
theorem dX3_copyFrom_15 : decode cX3_copyFrom 15 = .ok (.aload_n 1, 1) := by decide +kernel
theorem dX3_copyFrom_16 : decode cX3_copyFrom 16 = .ok (.getfield 9, 3) := by decide +kernel
theorem dX3_copyFrom_19 : decode cX3_copyFrom 19 = .ok (.arraylength, 1) := by decide +kernel
theorem dX3_copyFrom_20 : decode cX3_copyFrom 20 = .ok (.invokestatic 21, 3) := by decide +kernel
theorem dX3_copyFrom_23 : decode cX3_copyFrom 23 = .ok (.invokestatic 27, 3) := by decide +kernel
theorem dX3_copyFrom_26 : decode cX3_copyFrom 26 = .ok (.return_, 1) := by decide +kernel
theorem dX4_init_0 : decode cX4_init 0 = .ok (.aload_n 0, 1) := by decide +kernel
theorem dX4_init_1 : decode cX4_init 1 = .ok (.invokespecial 3, 3) := by decide +kernel
theorem dX4_init_4 : decode cX4_init 4 = .ok (.aload_n 0, 1) := by decide +kernel
theorem dX4_init_5 : decode cX4_init 5 = .ok (.new 9, 3) := by decide +kernel
theorem dX4_init_8 : decode cX4_init 8 = .ok (.dup, 1) := by decide +kernel
theorem dX4_init_9 : decode cX4_init 9 = .ok (.invokespecial 11, 3) := by decide +kernel
theorem dX4_init_12 : decode cX4_init 12 = .ok (.putfield 12, 3) := by decide +kernel
theorem dX4_init_15 : decode cX4_init 15 = .ok (.aload_n 0, 1) := by decide +kernel
theorem dX4_init_16 : decode cX4_init 16 = .ok (.new 18, 3) := by decide +kernel
theorem dX4_init_19 : decode cX4_init 19 = .ok (.dup, 1) := by decide +kernel
theorem dX4_init_20 : decode cX4_init 20 = .ok (.bipush 60, 2) := by decide +kernel
theorem dX4_init_22 : decode cX4_init 22 = .ok (.iconst 0, 1) := by decide +kernel
theorem dX4_init_23 : decode cX4_init 23 = .ok (.invokespecial 20, 3) := by decide +kernel
theorem dX4_init_26 : decode cX4_init 26 = .ok (.putfield 23, 3) := by decide +kernel
theorem dX4_init_29 : decode cX4_init 29 = .ok (.aload_n 0, 1) := by decide +kernel
theorem dX4_init_30 : decode cX4_init 30 = .ok (.new 18, 3) := by decide +kernel
theorem dX4_init_33 : decode cX4_init 33 = .ok (.dup, 1) := by decide +kernel
theorem dX4_init_34 : decode cX4_init 34 = .ok (.bipush 60, 2) := by decide +kernel
theorem dX4_init_36 : decode cX4_init 36 = .ok (.iconst 0, 1) := by decide +kernel
theorem dX4_init_37 : decode cX4_init 37 = .ok (.invokespecial 20, 3) := by decide +kernel
theorem dX4_init_40 : decode cX4_init 40 = .ok (.putfield 27, 3) := by decide +kernel
theorem dX4_init_43 : decode cX4_init 43 = .ok (.aload_n 0, 1) := by decide +kernel
theorem dX4_init_44 : decode cX4_init 44 = .ok (.new 18, 3) := by decide +kernel
theorem dX4_init_47 : decode cX4_init 47 = .ok (.dup, 1) := by decide +kernel
theorem dX4_init_48 : decode cX4_init 48 = .ok (.bipush 60, 2) := by decide +kernel
theorem dX4_init_50 : decode cX4_init 50 = .ok (.iconst 0, 1) := by decide +kernel
theorem dX4_init_51 : decode cX4_init 51 = .ok (.invokespecial 20, 3) := by decide +kernel
theorem dX4_init_54 : decode cX4_init 54 = .ok (.putfield 30, 3) := by decide +kernel
theorem dX4_init_57 : decode cX4_init 57 = .ok (.aload_n 0, 1) := by decide +kernel
theorem dX4_init_58 : decode cX4_init 58 = .ok (.new 18, 3) := by decide +kernel
theorem dX4_init_61 : decode cX4_init 61 = .ok (.dup, 1) := by decide +kernel
theorem dX4_init_62 : decode cX4_init 62 = .ok (.bipush 60, 2) := by decide +kernel
theorem dX4_init_64 : decode cX4_init 64 = .ok (.iconst 0, 1) := by decide +kernel
theorem dX4_init_65 : decode cX4_init 65 = .ok (.invokespecial 20, 3) := by decide +kernel
theorem dX4_init_68 : decode cX4_init 68 = .ok (.putfield 33, 3) := by decide +kernel
theorem dX4_init_71 : decode cX4_init 71 = .ok (.aload_n 0, 1) := by decide +kernel
theorem dX4_init_72 : decode cX4_init 72 = .ok (.new 18, 3) := by decide +kernel
theorem dX4_init_75 : decode cX4_init 75 = .ok (.dup, 1) := by decide +kernel
theorem dX4_init_76 : decode cX4_init 76 = .ok (.bipush 60, 2) := by decide +kernel
theorem dX4_init_78 : decode cX4_init 78 = .ok (.iconst 0, 1) := by decide +kernel
theorem dX4_init_79 : decode cX4_init 79 = .ok (.invokespecial 20, 3) := by decide +kernel
theorem dX4_init_82 : decode cX4_init 82 = .ok (.putfield 36, 3) := by decide +kernel
theorem dX4_init_85 : decode cX4_init 85 = .ok (.return_, 1) := by decide +kernel
theorem dX4_length_0 : decode cX4_length 0 = .ok (.aload_n 0, 1) := by decide +kernel
theorem dX4_length_1 : decode cX4_length 1 = .ok (.getfield 12, 3) := by decide +kernel
theorem dX4_length_4 : decode cX4_length 4 = .ok (.invokevirtual 39, 3) := by decide +kernel
theorem dX4_length_7 : decode cX4_length 7 = .ok (.ireturn, 1) := by decide +kernel
theorem dX4_append_0 : decode cX4_append 0 = .ok (.aload_n 0, 1) := by decide +kernel
theorem dX4_append_1 : decode cX4_append 1 = .ok (.getfield 12, 3) := by decide +kernel
theorem dX4_append_4 : decode cX4_append 4 = .ok (.iload_n 1, 1) := by decide +kernel
theorem dX4_append_5 : decode cX4_append 5 = .ok (.invokevirtual 43, 3) := by decide +kernel
theorem dX4_append_8 : decode cX4_append 8 = .ok (.pop, 1) := by decide +kernel
theorem dX4_append_9 : decode cX4_append 9 = .ok (.aload_n 0, 1) := by decide +kernel
theorem dX4_append_10 : decode cX4_append 10 = .ok (.getfield 12, 3) := by decide +kernel
theorem dX4_append_13 : decode cX4_append 13 = .ok (.invokevirtual 39, 3) := by decide +kernel
theorem dX4_append_16 : decode cX4_append 16 = .ok (.ireturn, 1) := by decide +kernel
theorem dX4_empty_0 : decode cX4_empty 0 = .ok (.aload_n 0, 1) := by decide +kernel
theorem dX4_empty_1 : decode cX4_empty 1 = .ok (.getfield 12, 3) := by decide +kernel
theorem dX4_empty_4 : decode cX4_empty 4 = .ok (.iconst 0, 1) := by decide +kernel
theorem dX4_empty_5 : decode cX4_empty 5 = .ok (.invokevirtual 47, 3) := by decide +kernel
theorem dX4_empty_8 : decode cX4_empty 8 = .ok (.return_, 1) := by decide +kernel
theorem dX4_parse_0 : decode cX4_parse 0 = .ok (.aload_n 0, 1) := by decide +kernel
theorem dX4_parse_1 : decode cX4_parse 1 = .ok (.iconst 0, 1) := by decide +kernel
theorem dX4_parse_2 : decode cX4_parse 2 = .ok (.putfield 51, 3) := by decide +kernel
theorem dX4_parse_5 : decode cX4_parse 5 = .ok (.aload_n 0, 1) := by decide +kernel
theorem dX4_parse_6 : decode cX4_parse 6 = .ok (.iconst 0, 1) := by decide +kernel
theorem dX4_parse_7 : decode cX4_parse 7 = .ok (.putfield 55, 3) := by decide +kernel
theorem dX4_parse_10 : decode cX4_parse 10 = .ok (.aload_n 0, 1) := by decide +kernel
theorem dX4_parse_11 : decode cX4_parse 11 = .ok (.iconst 0, 1) := by decide +kernel
theorem dX4_parse_12 : decode cX4_parse 12 = .ok (.putfield 58, 3) := by decide +kernel
theorem dX4_parse_15 : decode cX4_parse 15 = .ok (.iconst 0, 1) := by decide +kernel
theorem dX4_parse_16 : decode cX4_parse 16 = .ok (.istore_n 1, 1) := by decide +kernel
theorem dX4_parse_17 : decode cX4_parse 17 = .ok (.iload_n 1, 1) := by decide +kernel
theorem dX4_parse_18 : decode cX4_parse 18 = .ok (.bipush 60, 2) := by decide +kernel
theorem dX4_parse_20 : decode cX4_parse 20 = .ok (.if_icmp .ge 57, 3) := by decide +kernel
theorem dX4_parse_23 : decode cX4_parse 23 = .ok (.aload_n 0, 1) := by decide +kernel
theorem dX4_parse_24 : decode cX4_parse 24 = .ok (.invokevirtual 61, 3) := by decide +kernel
theorem dX4_parse_27 : decode cX4_parse 27 = .ok (.ifCond .ne 5, 3) := by decide +kernel
theorem dX4_parse_30 : decode cX4_parse 30 = .ok (.iconst 0, 1) := by decide +kernel
theorem dX4_parse_31 : decode cX4_parse 31 = .ok (.ireturn, 1) := by decide +kernel
theorem dX4_parse_32 : decode cX4_parse 32 = .ok (.aload_n 0, 1) := by decide +kernel
theorem dX4_parse_33 : decode cX4_parse 33 = .ok (.dup, 1) := by decide +kernel
theorem dX4_parse_34 : decode cX4_parse 34 = .ok (.getfield 58, 3) := by decide +kernel
theorem dX4_parse_37 : decode cX4_parse 37 = .ok (.iconst 1, 1) := by decide +kernel
theorem dX4_parse_38 : decode cX4_parse 38 = .ok (.iadd, 1) := by decide +kernel
theorem dX4_parse_39 : decode cX4_parse 39 = .ok (.putfield 58, 3) := by decide +kernel
theorem dX4_parse_42 : decode cX4_parse 42 = .ok (.aload_n 0, 1) := by decide +kernel
theorem dX4_parse_43 : decode cX4_parse 43 = .ok (.bipush 59, 2) := by decide +kernel
theorem dX4_parse_45 : decode cX4_parse 45 = .ok (.invokevirtual 65, 3) := by decide +kernel
theorem dX4_parse_48 : decode cX4_parse 48 = .ok (.ifCond .ne 23, 3) := by decide +kernel
theorem dX4_parse_51 : decode cX4_parse 51 = .ok (.aload_n 0, 1) := by decide +kernel
theorem dX4_parse_52 : decode cX4_parse 52 = .ok (.getfield 51, 3) := by decide +kernel
theorem dX4_parse_55 : decode cX4_parse 55 = .ok (.aload_n 0, 1) := by decide +kernel
theorem dX4_parse_56 : decode cX4_parse 56 = .ok (.getfield 12, 3) := by decide +kernel
theorem dX4_parse_59 : decode cX4_parse 59 = .ok (.invokevirtual 39, 3) := by decide +kernel
theorem dX4_parse_62 : decode cX4_parse 62 = .ok (.if_icmp .ne 7, 3) := by decide +kernel
theorem dX4_parse_65 : decode cX4_parse 65 = .ok (.iconst 1, 1) := by decide +kernel
theorem dX4_parse_66 : decode cX4_parse 66 = .ok (.goto 4, 3) := by decide +kernel
theorem dX4_parse_69 : decode cX4_parse 69 = .ok (.iconst 0, 1) := by decide +kernel
theorem dX4_parse_70 : decode cX4_parse 70 = .ok (.ireturn, 1) := by decide +kernel
theorem dX4_parse_71 : decode cX4_parse 71 = .ok (.iinc 1 1, 3) := by decide +kernel
theorem dX4_parse_74 : decode cX4_parse 74 = .ok (.goto (-57), 3) := by decide +kernel
theorem dX4_parse_77 : decode cX4_parse 77 = .ok (.iconst 0, 1) := by decide +kernel
theorem dX4_parse_78 : decode cX4_parse 78 = .ok (.ireturn, 1) := by decide +kernel
theorem dX4_readCommand_0 : decode cX4_readCommand 0 = .ok (.aload_n 0, 1) := by decide +kernel
theorem dX4_readCommand_1 : decode cX4_readCommand 1 = .ok (.invokevirtual 69, 3) := by decide +kernel
theorem dX4_readCommand_4 : decode cX4_readCommand 4 = .ok (.lookupswitch 166 #[(102, 100), (104, 52), (109, 144), (115, 122), (119, 78)], 52) := by decide +kernel
theorem dX4_readCommand_56 : decode cX4_readCommand 56 = .ok (.aload_n 0, 1) := by decide +kernel
theorem dX4_readCommand_57 : decode cX4_readCommand 57 = .ok (.ldc 72, 2) := by decide +kernel
theorem dX4_readCommand_59 : decode cX4_readCommand 59 = .ok (.invokevirtual 74, 3) := by decide +kernel
theorem dX4_readCommand_62 : decode cX4_readCommand 62 = .ok (.ifCond .eq 18, 3) := by decide +kernel
theorem dX4_readCommand_65 : decode cX4_readCommand 65 = .ok (.aload_n 0, 1) := by decide +kernel
theorem dX4_readCommand_66 : decode cX4_readCommand 66 = .ok (.iconst 0, 1) := by decide +kernel
theorem dX4_readCommand_67 : decode cX4_readCommand 67 = .ok (.iconst 0, 1) := by decide +kernel
theorem dX4_readCommand_68 : decode cX4_readCommand 68 = .ok (.iconst 0, 1) := by decide +kernel
theorem dX4_readCommand_69 : decode cX4_readCommand 69 = .ok (.iconst 0, 1) := by decide +kernel
theorem dX4_readCommand_70 : decode cX4_readCommand 70 = .ok (.invokevirtual 78, 3) := by decide +kernel
theorem dX4_readCommand_73 : decode cX4_readCommand 73 = .ok (.ifCond .eq 7, 3) := by decide +kernel
theorem dX4_readCommand_76 : decode cX4_readCommand 76 = .ok (.iconst 1, 1) := by decide +kernel
theorem dX4_readCommand_77 : decode cX4_readCommand 77 = .ok (.goto 4, 3) := by decide +kernel
theorem dX4_readCommand_80 : decode cX4_readCommand 80 = .ok (.iconst 0, 1) := by decide +kernel
theorem dX4_readCommand_81 : decode cX4_readCommand 81 = .ok (.ireturn, 1) := by decide +kernel
theorem dX4_readCommand_82 : decode cX4_readCommand 82 = .ok (.aload_n 0, 1) := by decide +kernel
theorem dX4_readCommand_83 : decode cX4_readCommand 83 = .ok (.ldc 82, 2) := by decide +kernel
theorem dX4_readCommand_85 : decode cX4_readCommand 85 = .ok (.invokevirtual 74, 3) := by decide +kernel
theorem dX4_readCommand_88 : decode cX4_readCommand 88 = .ok (.ifCond .eq 14, 3) := by decide +kernel
theorem dX4_readCommand_91 : decode cX4_readCommand 91 = .ok (.aload_n 0, 1) := by decide +kernel
theorem dX4_readCommand_92 : decode cX4_readCommand 92 = .ok (.invokevirtual 84, 3) := by decide +kernel
theorem dX4_readCommand_95 : decode cX4_readCommand 95 = .ok (.ifCond .eq 7, 3) := by decide +kernel
theorem dX4_readCommand_98 : decode cX4_readCommand 98 = .ok (.iconst 1, 1) := by decide +kernel
theorem dX4_readCommand_99 : decode cX4_readCommand 99 = .ok (.goto 4, 3) := by decide +kernel
theorem dX4_readCommand_102 : decode cX4_readCommand 102 = .ok (.iconst 0, 1) := by decide +kernel
theorem dX4_readCommand_103 : decode cX4_readCommand 103 = .ok (.ireturn, 1) := by decide +kernel
theorem dX4_readCommand_104 : decode cX4_readCommand 104 = .ok (.aload_n 0, 1) := by decide +kernel
theorem dX4_readCommand_105 : decode cX4_readCommand 105 = .ok (.ldc 87, 2) := by decide +kernel
theorem dX4_readCommand_107 : decode cX4_readCommand 107 = .ok (.invokevirtual 74, 3) := by decide +kernel
theorem dX4_readCommand_110 : decode cX4_readCommand 110 = .ok (.ifCond .eq 14, 3) := by decide +kernel
theorem dX4_readCommand_113 : decode cX4_readCommand 113 = .ok (.aload_n 0, 1) := by decide +kernel
theorem dX4_readCommand_114 : decode cX4_readCommand 114 = .ok (.invokevirtual 89, 3) := by decide +kernel
theorem dX4_readCommand_117 : decode cX4_readCommand 117 = .ok (.ifCond .eq 7, 3) := by decide +kernel
theorem dX4_readCommand_120 : decode cX4_readCommand 120 = .ok (.iconst 1, 1) := by decide +kernel
theorem dX4_readCommand_121 : decode cX4_readCommand 121 = .ok (.goto 4, 3) := by decide +kernel
theorem dX4_readCommand_124 : decode cX4_readCommand 124 = .ok (.iconst 0, 1) := by decide +kernel
theorem dX4_readCommand_125 : decode cX4_readCommand 125 = .ok (.ireturn, 1) := by decide +kernel
theorem dX4_readCommand_126 : decode cX4_readCommand 126 = .ok (.aload_n 0, 1) := by decide +kernel
theorem dX4_readCommand_127 : decode cX4_readCommand 127 = .ok (.ldc 92, 2) := by decide +kernel
theorem dX4_readCommand_129 : decode cX4_readCommand 129 = .ok (.invokevirtual 74, 3) := by decide +kernel
theorem dX4_readCommand_132 : decode cX4_readCommand 132 = .ok (.ifCond .eq 14, 3) := by decide +kernel
theorem dX4_readCommand_135 : decode cX4_readCommand 135 = .ok (.aload_n 0, 1) := by decide +kernel
theorem dX4_readCommand_136 : decode cX4_readCommand 136 = .ok (.invokevirtual 94, 3) := by decide +kernel
theorem dX4_readCommand_139 : decode cX4_readCommand 139 = .ok (.ifCond .eq 7, 3) := by decide +kernel
theorem dX4_readCommand_142 : decode cX4_readCommand 142 = .ok (.iconst 1, 1) := by decide +kernel
theorem dX4_readCommand_143 : decode cX4_readCommand 143 = .ok (.goto 4, 3) := by decide +kernel
theorem dX4_readCommand_146 : decode cX4_readCommand 146 = .ok (.iconst 0, 1) := by decide +kernel
theorem dX4_readCommand_147 : decode cX4_readCommand 147 = .ok (.ireturn, 1) := by decide +kernel
theorem dX4_readCommand_148 : decode cX4_readCommand 148 = .ok (.aload_n 0, 1) := by decide +kernel
theorem dX4_readCommand_149 : decode cX4_readCommand 149 = .ok (.ldc 97, 2) := by decide +kernel
theorem dX4_readCommand_151 : decode cX4_readCommand 151 = .ok (.invokevirtual 74, 3) := by decide +kernel
theorem dX4_readCommand_154 : decode cX4_readCommand 154 = .ok (.ifCond .eq 14, 3) := by decide +kernel
theorem dX4_readCommand_157 : decode cX4_readCommand 157 = .ok (.aload_n 0, 1) := by decide +kernel
theorem dX4_readCommand_158 : decode cX4_readCommand 158 = .ok (.invokevirtual 99, 3) := by decide +kernel
theorem dX4_readCommand_161 : decode cX4_readCommand 161 = .ok (.ifCond .eq 7, 3) := by decide +kernel
theorem dX4_readCommand_164 : decode cX4_readCommand 164 = .ok (.iconst 1, 1) := by decide +kernel
theorem dX4_readCommand_165 : decode cX4_readCommand 165 = .ok (.goto 4, 3) := by decide +kernel
theorem dX4_readCommand_168 : decode cX4_readCommand 168 = .ok (.iconst 0, 1) := by decide +kernel
theorem dX4_readCommand_169 : decode cX4_readCommand 169 = .ok (.ireturn, 1) := by decide +kernel
theorem dX4_readCommand_170 : decode cX4_readCommand 170 = .ok (.iconst 0, 1) := by decide +kernel
theorem dX4_readCommand_171 : decode cX4_readCommand 171 = .ok (.ireturn, 1) := by decide +kernel
theorem dX4_readWriting_0 : decode cX4_readWriting 0 = .ok (.aload_n 0, 1) := by decide +kernel
theorem dX4_readWriting_1 : decode cX4_readWriting 1 = .ok (.invokevirtual 102, 3) := by decide +kernel
theorem dX4_readWriting_4 : decode cX4_readWriting 4 = .ok (.istore_n 1, 1) := by decide +kernel
theorem dX4_readWriting_5 : decode cX4_readWriting 5 = .ok (.iload_n 1, 1) := by decide +kernel
theorem dX4_readWriting_6 : decode cX4_readWriting 6 = .ok (.iconst (-1), 1) := by decide +kernel
theorem dX4_readWriting_7 : decode cX4_readWriting 7 = .ok (.if_icmp .ne 5, 3) := by decide +kernel
theorem dX4_readWriting_10 : decode cX4_readWriting 10 = .ok (.iconst 0, 1) := by decide +kernel
theorem dX4_readWriting_11 : decode cX4_readWriting 11 = .ok (.ireturn, 1) := by decide +kernel
theorem dX4_readWriting_12 : decode cX4_readWriting 12 = .ok (.iconst 0, 1) := by decide +kernel
theorem dX4_readWriting_13 : decode cX4_readWriting 13 = .ok (.istore_n 2, 1) := by decide +kernel
theorem dX4_readWriting_14 : decode cX4_readWriting 14 = .ok (.iload_n 2, 1) := by decide +kernel
theorem dX4_readWriting_15 : decode cX4_readWriting 15 = .ok (.bipush 60, 2) := by decide +kernel
theorem dX4_readWriting_17 : decode cX4_readWriting 17 = .ok (.if_icmp .ge 39, 3) := by decide +kernel
theorem dX4_readWriting_20 : decode cX4_readWriting 20 = .ok (.aload_n 0, 1) := by decide +kernel
theorem dX4_readWriting_21 : decode cX4_readWriting 21 = .ok (.bipush 44, 2) := by decide +kernel
theorem dX4_readWriting_23 : decode cX4_readWriting 23 = .ok (.invokevirtual 65, 3) := by decide +kernel
theorem dX4_readWriting_26 : decode cX4_readWriting 26 = .ok (.ifCond .eq 30, 3) := by decide +kernel
theorem dX4_readWriting_29 : decode cX4_readWriting 29 = .ok (.aload_n 0, 1) := by decide +kernel
theorem dX4_readWriting_30 : decode cX4_readWriting 30 = .ok (.invokevirtual 105, 3) := by decide +kernel
theorem dX4_readWriting_33 : decode cX4_readWriting 33 = .ok (.istore_n 3, 1) := by decide +kernel
theorem dX4_readWriting_34 : decode cX4_readWriting 34 = .ok (.iload_n 3, 1) := by decide +kernel
theorem dX4_readWriting_35 : decode cX4_readWriting 35 = .ok (.iconst (-1), 1) := by decide +kernel
theorem dX4_readWriting_36 : decode cX4_readWriting 36 = .ok (.if_icmp .ne 5, 3) := by decide +kernel
theorem dX4_readWriting_39 : decode cX4_readWriting 39 = .ok (.iconst 0, 1) := by decide +kernel
theorem dX4_readWriting_40 : decode cX4_readWriting 40 = .ok (.ireturn, 1) := by decide +kernel
theorem dX4_readWriting_41 : decode cX4_readWriting 41 = .ok (.aload_n 0, 1) := by decide +kernel
theorem dX4_readWriting_42 : decode cX4_readWriting 42 = .ok (.iconst 1, 1) := by decide +kernel
theorem dX4_readWriting_43 : decode cX4_readWriting 43 = .ok (.iload_n 1, 1) := by decide +kernel
theorem dX4_readWriting_44 : decode cX4_readWriting 44 = .ok (.iload_n 3, 1) := by decide +kernel
theorem dX4_readWriting_45 : decode cX4_readWriting 45 = .ok (.iconst 0, 1) := by decide +kernel
theorem dX4_readWriting_46 : decode cX4_readWriting 46 = .ok (.invokevirtual 78, 3) := by decide +kernel
theorem dX4_readWriting_49 : decode cX4_readWriting 49 = .ok (.pop, 1) := by decide +kernel
theorem dX4_readWriting_50 : decode cX4_readWriting 50 = .ok (.iinc 2 1, 3) := by decide +kernel
theorem dX4_readWriting_53 : decode cX4_readWriting 53 = .ok (.goto (-39), 3) := by decide +kernel
theorem dX4_readWriting_56 : decode cX4_readWriting 56 = .ok (.aload_n 0, 1) := by decide +kernel
theorem dX4_readWriting_57 : decode cX4_readWriting 57 = .ok (.iconst 2, 1) := by decide +kernel
theorem dX4_readWriting_58 : decode cX4_readWriting 58 = .ok (.iload_n 1, 1) := by decide +kernel
theorem dX4_readWriting_59 : decode cX4_readWriting 59 = .ok (.iconst 0, 1) := by decide +kernel
theorem dX4_readWriting_60 : decode cX4_readWriting 60 = .ok (.iconst 0, 1) := by decide +kernel
theorem dX4_readWriting_61 : decode cX4_readWriting 61 = .ok (.invokevirtual 78, 3) := by decide +kernel
theorem dX4_readWriting_64 : decode cX4_readWriting 64 = .ok (.ireturn, 1) := by decide +kernel
theorem dX4_readFollowing_0 : decode cX4_readFollowing 0 = .ok (.aload_n 0, 1) := by decide +kernel
theorem dX4_readFollowing_1 : decode cX4_readFollowing 1 = .ok (.invokevirtual 102, 3) := by decide +kernel
theorem dX4_readFollowing_4 : decode cX4_readFollowing 4 = .ok (.istore_n 1, 1) := by decide +kernel
theorem dX4_readFollowing_5 : decode cX4_readFollowing 5 = .ok (.iload_n 1, 1) := by decide +kernel
theorem dX4_readFollowing_6 : decode cX4_readFollowing 6 = .ok (.iconst (-1), 1) := by decide +kernel
theorem dX4_readFollowing_7 : decode cX4_readFollowing 7 = .ok (.if_icmp .eq 12, 3) := by decide +kernel
theorem dX4_readFollowing_10 : decode cX4_readFollowing 10 = .ok (.aload_n 0, 1) := by decide +kernel
theorem dX4_readFollowing_11 : decode cX4_readFollowing 11 = .ok (.bipush 32, 2) := by decide +kernel
theorem dX4_readFollowing_13 : decode cX4_readFollowing 13 = .ok (.invokevirtual 65, 3) := by decide +kernel
theorem dX4_readFollowing_16 : decode cX4_readFollowing 16 = .ok (.ifCond .ne 5, 3) := by decide +kernel
theorem dX4_readFollowing_19 : decode cX4_readFollowing 19 = .ok (.iconst 0, 1) := by decide +kernel
theorem dX4_readFollowing_20 : decode cX4_readFollowing 20 = .ok (.ireturn, 1) := by decide +kernel
theorem dX4_readFollowing_21 : decode cX4_readFollowing 21 = .ok (.aload_n 0, 1) := by decide +kernel
theorem dX4_readFollowing_22 : decode cX4_readFollowing 22 = .ok (.invokevirtual 105, 3) := by decide +kernel
theorem dX4_readFollowing_25 : decode cX4_readFollowing 25 = .ok (.istore_n 2, 1) := by decide +kernel
theorem dX4_readFollowing_26 : decode cX4_readFollowing 26 = .ok (.iload_n 2, 1) := by decide +kernel
theorem dX4_readFollowing_27 : decode cX4_readFollowing 27 = .ok (.iconst (-1), 1) := by decide +kernel
theorem dX4_readFollowing_28 : decode cX4_readFollowing 28 = .ok (.if_icmp .eq 18, 3) := by decide +kernel
theorem dX4_readFollowing_31 : decode cX4_readFollowing 31 = .ok (.aload_n 0, 1) := by decide +kernel
theorem dX4_readFollowing_32 : decode cX4_readFollowing 32 = .ok (.iconst 3, 1) := by decide +kernel
theorem dX4_readFollowing_33 : decode cX4_readFollowing 33 = .ok (.iload_n 1, 1) := by decide +kernel
theorem dX4_readFollowing_34 : decode cX4_readFollowing 34 = .ok (.iload_n 2, 1) := by decide +kernel
theorem dX4_readFollowing_35 : decode cX4_readFollowing 35 = .ok (.iconst 0, 1) := by decide +kernel
theorem dX4_readFollowing_36 : decode cX4_readFollowing 36 = .ok (.invokevirtual 78, 3) := by decide +kernel
theorem dX4_readFollowing_39 : decode cX4_readFollowing 39 = .ok (.ifCond .eq 7, 3) := by decide +kernel
theorem dX4_readFollowing_42 : decode cX4_readFollowing 42 = .ok (.iconst 1, 1) := by decide +kernel
theorem dX4_readFollowing_43 : decode cX4_readFollowing 43 = .ok (.goto 4, 3) := by decide +kernel
theorem dX4_readFollowing_46 : decode cX4_readFollowing 46 = .ok (.iconst 0, 1) := by decide +kernel
theorem dX4_readFollowing_47 : decode cX4_readFollowing 47 = .ok (.ireturn, 1) := by decide +kernel
theorem dX4_readSwapping_0 : decode cX4_readSwapping 0 = .ok (.aload_n 0, 1) := by decide +kernel
theorem dX4_readSwapping_1 : decode cX4_readSwapping 1 = .ok (.invokevirtual 105, 3) := by decide +kernel
theorem dX4_readSwapping_4 : decode cX4_readSwapping 4 = .ok (.istore_n 1, 1) := by decide +kernel
theorem dX4_readSwapping_5 : decode cX4_readSwapping 5 = .ok (.iload_n 1, 1) := by decide +kernel
theorem dX4_readSwapping_6 : decode cX4_readSwapping 6 = .ok (.iconst (-1), 1) := by decide +kernel
theorem dX4_readSwapping_7 : decode cX4_readSwapping 7 = .ok (.if_icmp .eq 12, 3) := by decide +kernel
theorem dX4_readSwapping_10 : decode cX4_readSwapping 10 = .ok (.aload_n 0, 1) := by decide +kernel
theorem dX4_readSwapping_11 : decode cX4_readSwapping 11 = .ok (.bipush 32, 2) := by decide +kernel
theorem dX4_readSwapping_13 : decode cX4_readSwapping 13 = .ok (.invokevirtual 65, 3) := by decide +kernel
theorem dX4_readSwapping_16 : decode cX4_readSwapping 16 = .ok (.ifCond .ne 5, 3) := by decide +kernel
theorem dX4_readSwapping_19 : decode cX4_readSwapping 19 = .ok (.iconst 0, 1) := by decide +kernel
theorem dX4_readSwapping_20 : decode cX4_readSwapping 20 = .ok (.ireturn, 1) := by decide +kernel
theorem dX4_readSwapping_21 : decode cX4_readSwapping 21 = .ok (.aload_n 0, 1) := by decide +kernel
theorem dX4_readSwapping_22 : decode cX4_readSwapping 22 = .ok (.invokevirtual 102, 3) := by decide +kernel
theorem dX4_readSwapping_25 : decode cX4_readSwapping 25 = .ok (.istore_n 2, 1) := by decide +kernel
theorem dX4_readSwapping_26 : decode cX4_readSwapping 26 = .ok (.iload_n 2, 1) := by decide +kernel
theorem dX4_readSwapping_27 : decode cX4_readSwapping 27 = .ok (.iconst (-1), 1) := by decide +kernel
theorem dX4_readSwapping_28 : decode cX4_readSwapping 28 = .ok (.if_icmp .eq 12, 3) := by decide +kernel
theorem dX4_readSwapping_31 : decode cX4_readSwapping 31 = .ok (.aload_n 0, 1) := by decide +kernel
theorem dX4_readSwapping_32 : decode cX4_readSwapping 32 = .ok (.bipush 32, 2) := by decide +kernel
theorem dX4_readSwapping_34 : decode cX4_readSwapping 34 = .ok (.invokevirtual 65, 3) := by decide +kernel
theorem dX4_readSwapping_37 : decode cX4_readSwapping 37 = .ok (.ifCond .ne 5, 3) := by decide +kernel
theorem dX4_readSwapping_40 : decode cX4_readSwapping 40 = .ok (.iconst 0, 1) := by decide +kernel
theorem dX4_readSwapping_41 : decode cX4_readSwapping 41 = .ok (.ireturn, 1) := by decide +kernel
theorem dX4_readSwapping_42 : decode cX4_readSwapping 42 = .ok (.aload_n 0, 1) := by decide +kernel
theorem dX4_readSwapping_43 : decode cX4_readSwapping 43 = .ok (.invokevirtual 105, 3) := by decide +kernel
theorem dX4_readSwapping_46 : decode cX4_readSwapping 46 = .ok (.istore_n 3, 1) := by decide +kernel
theorem dX4_readSwapping_47 : decode cX4_readSwapping 47 = .ok (.iload_n 3, 1) := by decide +kernel
theorem dX4_readSwapping_48 : decode cX4_readSwapping 48 = .ok (.iconst (-1), 1) := by decide +kernel
theorem dX4_readSwapping_49 : decode cX4_readSwapping 49 = .ok (.if_icmp .eq 18, 3) := by decide +kernel
theorem dX4_readSwapping_52 : decode cX4_readSwapping 52 = .ok (.aload_n 0, 1) := by decide +kernel
theorem dX4_readSwapping_53 : decode cX4_readSwapping 53 = .ok (.iconst 5, 1) := by decide +kernel
theorem dX4_readSwapping_54 : decode cX4_readSwapping 54 = .ok (.iload_n 1, 1) := by decide +kernel
theorem dX4_readSwapping_55 : decode cX4_readSwapping 55 = .ok (.iload_n 2, 1) := by decide +kernel
theorem dX4_readSwapping_56 : decode cX4_readSwapping 56 = .ok (.iload_n 3, 1) := by decide +kernel
theorem dX4_readSwapping_57 : decode cX4_readSwapping 57 = .ok (.invokevirtual 78, 3) := by decide +kernel
theorem dX4_readSwapping_60 : decode cX4_readSwapping 60 = .ok (.ifCond .eq 7, 3) := by decide +kernel
theorem dX4_readSwapping_63 : decode cX4_readSwapping 63 = .ok (.iconst 1, 1) := by decide +kernel
theorem dX4_readSwapping_64 : decode cX4_readSwapping 64 = .ok (.goto 4, 3) := by decide +kernel
theorem dX4_readSwapping_67 : decode cX4_readSwapping 67 = .ok (.iconst 0, 1) := by decide +kernel
theorem dX4_readSwapping_68 : decode cX4_readSwapping 68 = .ok (.ireturn, 1) := by decide +kernel
theorem dX4_readMeltingOrMending_0 : decode cX4_readMeltingOrMending 0 = .ok (.aload_n 0, 1) := by decide +kernel
theorem dX4_readMeltingOrMending_1 : decode cX4_readMeltingOrMending 1 = .ok (.invokevirtual 69, 3) := by decide +kernel
theorem dX4_readMeltingOrMending_4 : decode cX4_readMeltingOrMending 4 = .ok (.bipush 108, 2) := by decide +kernel
theorem dX4_readMeltingOrMending_6 : decode cX4_readMeltingOrMending 6 = .ok (.if_icmp .ne 7, 3) := by decide +kernel
theorem dX4_readMeltingOrMending_9 : decode cX4_readMeltingOrMending 9 = .ok (.iconst 1, 1) := by decide +kernel
theorem dX4_readMeltingOrMending_10 : decode cX4_readMeltingOrMending 10 = .ok (.goto 4, 3) := by decide +kernel
theorem dX4_readMeltingOrMending_13 : decode cX4_readMeltingOrMending 13 = .ok (.iconst 0, 1) := by decide +kernel
theorem dX4_readMeltingOrMending_14 : decode cX4_readMeltingOrMending 14 = .ok (.istore_n 1, 1) := by decide +kernel
theorem dX4_readMeltingOrMending_15 : decode cX4_readMeltingOrMending 15 = .ok (.aload_n 0, 1) := by decide +kernel
theorem dX4_readMeltingOrMending_16 : decode cX4_readMeltingOrMending 16 = .ok (.iload_n 1, 1) := by decide +kernel
theorem dX4_readMeltingOrMending_17 : decode cX4_readMeltingOrMending 17 = .ok (.ifCond .eq 8, 3) := by decide +kernel
theorem dX4_readMeltingOrMending_20 : decode cX4_readMeltingOrMending 20 = .ok (.ldc 108, 2) := by decide +kernel
theorem dX4_readMeltingOrMending_22 : decode cX4_readMeltingOrMending 22 = .ok (.goto 5, 3) := by decide +kernel
theorem dX4_readMeltingOrMending_25 : decode cX4_readMeltingOrMending 25 = .ok (.ldc 110, 2) := by decide +kernel
theorem dX4_readMeltingOrMending_27 : decode cX4_readMeltingOrMending 27 = .ok (.invokevirtual 74, 3) := by decide +kernel
theorem dX4_readMeltingOrMending_30 : decode cX4_readMeltingOrMending 30 = .ok (.ifCond .ne 5, 3) := by decide +kernel
theorem dX4_readMeltingOrMending_33 : decode cX4_readMeltingOrMending 33 = .ok (.iconst 0, 1) := by decide +kernel
theorem dX4_readMeltingOrMending_34 : decode cX4_readMeltingOrMending 34 = .ok (.ireturn, 1) := by decide +kernel
theorem dX4_readMeltingOrMending_35 : decode cX4_readMeltingOrMending 35 = .ok (.aload_n 0, 1) := by decide +kernel
theorem dX4_readMeltingOrMending_36 : decode cX4_readMeltingOrMending 36 = .ok (.invokevirtual 105, 3) := by decide +kernel
theorem dX4_readMeltingOrMending_39 : decode cX4_readMeltingOrMending 39 = .ok (.istore_n 2, 1) := by decide +kernel
theorem dX4_readMeltingOrMending_40 : decode cX4_readMeltingOrMending 40 = .ok (.iload_n 2, 1) := by decide +kernel
theorem dX4_readMeltingOrMending_41 : decode cX4_readMeltingOrMending 41 = .ok (.iconst (-1), 1) := by decide +kernel
theorem dX4_readMeltingOrMending_42 : decode cX4_readMeltingOrMending 42 = .ok (.if_icmp .eq 27, 3) := by decide +kernel
theorem dX4_readMeltingOrMending_45 : decode cX4_readMeltingOrMending 45 = .ok (.aload_n 0, 1) := by decide +kernel
theorem dX4_readMeltingOrMending_46 : decode cX4_readMeltingOrMending 46 = .ok (.iload_n 1, 1) := by decide +kernel
theorem dX4_readMeltingOrMending_47 : decode cX4_readMeltingOrMending 47 = .ok (.ifCond .eq 7, 3) := by decide +kernel
theorem dX4_readMeltingOrMending_50 : decode cX4_readMeltingOrMending 50 = .ok (.iconst 4, 1) := by decide +kernel
theorem dX4_readMeltingOrMending_51 : decode cX4_readMeltingOrMending 51 = .ok (.goto 5, 3) := by decide +kernel
theorem dX4_readMeltingOrMending_54 : decode cX4_readMeltingOrMending 54 = .ok (.bipush 6, 2) := by decide +kernel
theorem dX4_readMeltingOrMending_56 : decode cX4_readMeltingOrMending 56 = .ok (.iload_n 2, 1) := by decide +kernel
theorem dX4_readMeltingOrMending_57 : decode cX4_readMeltingOrMending 57 = .ok (.iconst 0, 1) := by decide +kernel
theorem dX4_readMeltingOrMending_58 : decode cX4_readMeltingOrMending 58 = .ok (.iconst 0, 1) := by decide +kernel
theorem dX4_readMeltingOrMending_59 : decode cX4_readMeltingOrMending 59 = .ok (.invokevirtual 78, 3) := by decide +kernel
theorem dX4_readMeltingOrMending_62 : decode cX4_readMeltingOrMending 62 = .ok (.ifCond .eq 7, 3) := by decide +kernel
theorem dX4_readMeltingOrMending_65 : decode cX4_readMeltingOrMending 65 = .ok (.iconst 1, 1) := by decide +kernel
theorem dX4_readMeltingOrMending_66 : decode cX4_readMeltingOrMending 66 = .ok (.goto 4, 3) := by decide +kernel
theorem dX4_readMeltingOrMending_69 : decode cX4_readMeltingOrMending 69 = .ok (.iconst 0, 1) := by decide +kernel
theorem dX4_readMeltingOrMending_70 : decode cX4_readMeltingOrMending 70 = .ok (.ireturn, 1) := by decide +kernel
theorem dX4_addStep_0 : decode cX4_addStep 0 = .ok (.aload_n 0, 1) := by decide +kernel
theorem dX4_addStep_1 : decode cX4_addStep 1 = .ok (.getfield 23, 3) := by decide +kernel
theorem dX4_addStep_4 : decode cX4_addStep 4 = .ok (.aload_n 0, 1) := by decide +kernel
theorem dX4_addStep_5 : decode cX4_addStep 5 = .ok (.getfield 55, 3) := by decide +kernel
theorem dX4_addStep_8 : decode cX4_addStep 8 = .ok (.iload_n 1, 1) := by decide +kernel
theorem dX4_addStep_9 : decode cX4_addStep 9 = .ok (.invokevirtual 112, 3) := by decide +kernel
theorem dX4_addStep_12 : decode cX4_addStep 12 = .ok (.aload_n 0, 1) := by decide +kernel
theorem dX4_addStep_13 : decode cX4_addStep 13 = .ok (.getfield 27, 3) := by decide +kernel
theorem dX4_addStep_16 : decode cX4_addStep 16 = .ok (.aload_n 0, 1) := by decide +kernel
theorem dX4_addStep_17 : decode cX4_addStep 17 = .ok (.getfield 55, 3) := by decide +kernel
theorem dX4_addStep_20 : decode cX4_addStep 20 = .ok (.iload_n 2, 1) := by decide +kernel
theorem dX4_addStep_21 : decode cX4_addStep 21 = .ok (.invokevirtual 112, 3) := by decide +kernel
theorem dX4_addStep_24 : decode cX4_addStep 24 = .ok (.aload_n 0, 1) := by decide +kernel
theorem dX4_addStep_25 : decode cX4_addStep 25 = .ok (.getfield 30, 3) := by decide +kernel
theorem dX4_addStep_28 : decode cX4_addStep 28 = .ok (.aload_n 0, 1) := by decide +kernel
theorem dX4_addStep_29 : decode cX4_addStep 29 = .ok (.getfield 55, 3) := by decide +kernel
theorem dX4_addStep_32 : decode cX4_addStep 32 = .ok (.iload_n 3, 1) := by decide +kernel
theorem dX4_addStep_33 : decode cX4_addStep 33 = .ok (.invokevirtual 112, 3) := by decide +kernel
theorem dX4_addStep_36 : decode cX4_addStep 36 = .ok (.aload_n 0, 1) := by decide +kernel
theorem dX4_addStep_37 : decode cX4_addStep 37 = .ok (.getfield 33, 3) := by decide +kernel
theorem dX4_addStep_40 : decode cX4_addStep 40 = .ok (.aload_n 0, 1) := by decide +kernel
theorem dX4_addStep_41 : decode cX4_addStep 41 = .ok (.getfield 55, 3) := by decide +kernel
theorem dX4_addStep_44 : decode cX4_addStep 44 = .ok (.iload 4, 2) := by decide +kernel
theorem dX4_addStep_46 : decode cX4_addStep 46 = .ok (.invokevirtual 112, 3) := by decide +kernel
theorem dX4_addStep_49 : decode cX4_addStep 49 = .ok (.aload_n 0, 1) := by decide +kernel
theorem dX4_addStep_50 : decode cX4_addStep 50 = .ok (.getfield 36, 3) := by decide +kernel
theorem dX4_addStep_53 : decode cX4_addStep 53 = .ok (.aload_n 0, 1) := by decide +kernel
theorem dX4_addStep_54 : decode cX4_addStep 54 = .ok (.getfield 55, 3) := by decide +kernel
theorem dX4_addStep_57 : decode cX4_addStep 57 = .ok (.aload_n 0, 1) := by decide +kernel
theorem dX4_addStep_58 : decode cX4_addStep 58 = .ok (.getfield 58, 3) := by decide +kernel
theorem dX4_addStep_61 : decode cX4_addStep 61 = .ok (.invokevirtual 112, 3) := by decide +kernel
theorem dX4_addStep_64 : decode cX4_addStep 64 = .ok (.aload_n 0, 1) := by decide +kernel
theorem dX4_addStep_65 : decode cX4_addStep 65 = .ok (.dup, 1) := by decide +kernel
theorem dX4_addStep_66 : decode cX4_addStep 66 = .ok (.getfield 55, 3) := by decide +kernel
theorem dX4_addStep_69 : decode cX4_addStep 69 = .ok (.iconst 1, 1) := by decide +kernel
theorem dX4_addStep_70 : decode cX4_addStep 70 = .ok (.iadd, 1) := by decide +kernel
theorem dX4_addStep_71 : decode cX4_addStep 71 = .ok (.putfield 55, 3) := by decide +kernel
theorem dX4_addStep_74 : decode cX4_addStep 74 = .ok (.iconst 1, 1) := by decide +kernel
theorem dX4_addStep_75 : decode cX4_addStep 75 = .ok (.ireturn, 1) := by decide +kernel
theorem dX4_readNumber_0 : decode cX4_readNumber 0 = .ok (.aload_n 0, 1) := by decide +kernel
theorem dX4_readNumber_1 : decode cX4_readNumber 1 = .ok (.invokevirtual 102, 3) := by decide +kernel
theorem dX4_readNumber_4 : decode cX4_readNumber 4 = .ok (.istore_n 1, 1) := by decide +kernel
theorem dX4_readNumber_5 : decode cX4_readNumber 5 = .ok (.iload_n 1, 1) := by decide +kernel
theorem dX4_readNumber_6 : decode cX4_readNumber 6 = .ok (.iconst (-1), 1) := by decide +kernel
theorem dX4_readNumber_7 : decode cX4_readNumber 7 = .ok (.if_icmp .ne 5, 3) := by decide +kernel
theorem dX4_readNumber_10 : decode cX4_readNumber 10 = .ok (.iconst (-1), 1) := by decide +kernel
theorem dX4_readNumber_11 : decode cX4_readNumber 11 = .ok (.ireturn, 1) := by decide +kernel
theorem dX4_readNumber_12 : decode cX4_readNumber 12 = .ok (.aload_n 0, 1) := by decide +kernel
theorem dX4_readNumber_13 : decode cX4_readNumber 13 = .ok (.invokevirtual 102, 3) := by decide +kernel
theorem dX4_readNumber_16 : decode cX4_readNumber 16 = .ok (.istore_n 2, 1) := by decide +kernel
theorem dX4_readNumber_17 : decode cX4_readNumber 17 = .ok (.iload_n 2, 1) := by decide +kernel
theorem dX4_readNumber_18 : decode cX4_readNumber 18 = .ok (.iconst (-1), 1) := by decide +kernel
theorem dX4_readNumber_19 : decode cX4_readNumber 19 = .ok (.if_icmp .ne 7, 3) := by decide +kernel
theorem dX4_readNumber_22 : decode cX4_readNumber 22 = .ok (.iload_n 1, 1) := by decide +kernel
theorem dX4_readNumber_23 : decode cX4_readNumber 23 = .ok (.goto 9, 3) := by decide +kernel
theorem dX4_readNumber_26 : decode cX4_readNumber 26 = .ok (.bipush 10, 2) := by decide +kernel
theorem dX4_readNumber_28 : decode cX4_readNumber 28 = .ok (.iload_n 1, 1) := by decide +kernel
theorem dX4_readNumber_29 : decode cX4_readNumber 29 = .ok (.imul, 1) := by decide +kernel
theorem dX4_readNumber_30 : decode cX4_readNumber 30 = .ok (.iload_n 2, 1) := by decide +kernel
theorem dX4_readNumber_31 : decode cX4_readNumber 31 = .ok (.iadd, 1) := by decide +kernel
theorem dX4_readNumber_32 : decode cX4_readNumber 32 = .ok (.ireturn, 1) := by decide +kernel
theorem dX4_readDigit_0 : decode cX4_readDigit 0 = .ok (.aload_n 0, 1) := by decide +kernel
theorem dX4_readDigit_1 : decode cX4_readDigit 1 = .ok (.invokevirtual 69, 3) := by decide +kernel
theorem dX4_readDigit_4 : decode cX4_readDigit 4 = .ok (.istore_n 1, 1) := by decide +kernel
theorem dX4_readDigit_5 : decode cX4_readDigit 5 = .ok (.iload_n 1, 1) := by decide +kernel
theorem dX4_readDigit_6 : decode cX4_readDigit 6 = .ok (.bipush 48, 2) := by decide +kernel
theorem dX4_readDigit_8 : decode cX4_readDigit 8 = .ok (.if_icmp .lt 9, 3) := by decide +kernel
theorem dX4_readDigit_11 : decode cX4_readDigit 11 = .ok (.iload_n 1, 1) := by decide +kernel
theorem dX4_readDigit_12 : decode cX4_readDigit 12 = .ok (.bipush 57, 2) := by decide +kernel
theorem dX4_readDigit_14 : decode cX4_readDigit 14 = .ok (.if_icmp .le 5, 3) := by decide +kernel
theorem dX4_readDigit_17 : decode cX4_readDigit 17 = .ok (.iconst (-1), 1) := by decide +kernel
theorem dX4_readDigit_18 : decode cX4_readDigit 18 = .ok (.ireturn, 1) := by decide +kernel
theorem dX4_readDigit_19 : decode cX4_readDigit 19 = .ok (.aload_n 0, 1) := by decide +kernel
theorem dX4_readDigit_20 : decode cX4_readDigit 20 = .ok (.dup, 1) := by decide +kernel
theorem dX4_readDigit_21 : decode cX4_readDigit 21 = .ok (.getfield 51, 3) := by decide +kernel
theorem dX4_readDigit_24 : decode cX4_readDigit 24 = .ok (.iconst 1, 1) := by decide +kernel
theorem dX4_readDigit_25 : decode cX4_readDigit 25 = .ok (.iadd, 1) := by decide +kernel
theorem dX4_readDigit_26 : decode cX4_readDigit 26 = .ok (.putfield 51, 3) := by decide +kernel
theorem dX4_readDigit_29 : decode cX4_readDigit 29 = .ok (.iload_n 1, 1) := by decide +kernel
theorem dX4_readDigit_30 : decode cX4_readDigit 30 = .ok (.bipush 48, 2) := by decide +kernel
theorem dX4_readDigit_32 : decode cX4_readDigit 32 = .ok (.isub, 1) := by decide +kernel
theorem dX4_readDigit_33 : decode cX4_readDigit 33 = .ok (.ireturn, 1) := by decide +kernel
theorem dX4_readWord_0 : decode cX4_readWord 0 = .ok (.iconst 0, 1) := by decide +kernel
theorem dX4_readWord_1 : decode cX4_readWord 1 = .ok (.istore_n 2, 1) := by decide +kernel
theorem dX4_readWord_2 : decode cX4_readWord 2 = .ok (.iload_n 2, 1) := by decide +kernel
theorem dX4_readWord_3 : decode cX4_readWord 3 = .ok (.aload_n 1, 1) := by decide +kernel
theorem dX4_readWord_4 : decode cX4_readWord 4 = .ok (.invokevirtual 115, 3) := by decide +kernel
theorem dX4_readWord_7 : decode cX4_readWord 7 = .ok (.if_icmp .ge 23, 3) := by decide +kernel
theorem dX4_readWord_10 : decode cX4_readWord 10 = .ok (.aload_n 0, 1) := by decide +kernel
theorem dX4_readWord_11 : decode cX4_readWord 11 = .ok (.aload_n 1, 1) := by decide +kernel
theorem dX4_readWord_12 : decode cX4_readWord 12 = .ok (.iload_n 2, 1) := by decide +kernel
theorem dX4_readWord_13 : decode cX4_readWord 13 = .ok (.invokevirtual 118, 3) := by decide +kernel
theorem dX4_readWord_16 : decode cX4_readWord 16 = .ok (.invokevirtual 65, 3) := by decide +kernel
theorem dX4_readWord_19 : decode cX4_readWord 19 = .ok (.ifCond .ne 5, 3) := by decide +kernel
theorem dX4_readWord_22 : decode cX4_readWord 22 = .ok (.iconst 0, 1) := by decide +kernel
theorem dX4_readWord_23 : decode cX4_readWord 23 = .ok (.ireturn, 1) := by decide +kernel
theorem dX4_readWord_24 : decode cX4_readWord 24 = .ok (.iinc 2 1, 3) := by decide +kernel
theorem dX4_readWord_27 : decode cX4_readWord 27 = .ok (.goto (-25), 3) := by decide +kernel
theorem dX4_readWord_30 : decode cX4_readWord 30 = .ok (.iconst 1, 1) := by decide +kernel
theorem dX4_readWord_31 : decode cX4_readWord 31 = .ok (.ireturn, 1) := by decide +kernel
theorem dX4_readSign_0 : decode cX4_readSign 0 = .ok (.aload_n 0, 1) := by decide +kernel
theorem dX4_readSign_1 : decode cX4_readSign 1 = .ok (.invokevirtual 69, 3) := by decide +kernel
theorem dX4_readSign_4 : decode cX4_readSign 4 = .ok (.iload_n 1, 1) := by decide +kernel
theorem dX4_readSign_5 : decode cX4_readSign 5 = .ok (.if_icmp .eq 5, 3) := by decide +kernel
theorem dX4_readSign_8 : decode cX4_readSign 8 = .ok (.iconst 0, 1) := by decide +kernel
theorem dX4_readSign_9 : decode cX4_readSign 9 = .ok (.ireturn, 1) := by decide +kernel
theorem dX4_readSign_10 : decode cX4_readSign 10 = .ok (.aload_n 0, 1) := by decide +kernel
theorem dX4_readSign_11 : decode cX4_readSign 11 = .ok (.dup, 1) := by decide +kernel
theorem dX4_readSign_12 : decode cX4_readSign 12 = .ok (.getfield 51, 3) := by decide +kernel
theorem dX4_readSign_15 : decode cX4_readSign 15 = .ok (.iconst 1, 1) := by decide +kernel
theorem dX4_readSign_16 : decode cX4_readSign 16 = .ok (.iadd, 1) := by decide +kernel
theorem dX4_readSign_17 : decode cX4_readSign 17 = .ok (.putfield 51, 3) := by decide +kernel
theorem dX4_readSign_20 : decode cX4_readSign 20 = .ok (.iconst 1, 1) := by decide +kernel
theorem dX4_readSign_21 : decode cX4_readSign 21 = .ok (.ireturn, 1) := by decide +kernel
theorem dX4_sign_0 : decode cX4_sign 0 = .ok (.aload_n 0, 1) := by decide +kernel
theorem dX4_sign_1 : decode cX4_sign 1 = .ok (.getfield 51, 3) := by decide +kernel
theorem dX4_sign_4 : decode cX4_sign 4 = .ok (.ifCond .lt 31, 3) := by decide +kernel
theorem dX4_sign_7 : decode cX4_sign 7 = .ok (.aload_n 0, 1) := by decide +kernel
theorem dX4_sign_8 : decode cX4_sign 8 = .ok (.getfield 51, 3) := by decide +kernel
theorem dX4_sign_11 : decode cX4_sign 11 = .ok (.aload_n 0, 1) := by decide +kernel
theorem dX4_sign_12 : decode cX4_sign 12 = .ok (.getfield 12, 3) := by decide +kernel
theorem dX4_sign_15 : decode cX4_sign 15 = .ok (.invokevirtual 39, 3) := by decide +kernel
theorem dX4_sign_18 : decode cX4_sign 18 = .ok (.if_icmp .ge 17, 3) := by decide +kernel
theorem dX4_sign_21 : decode cX4_sign 21 = .ok (.aload_n 0, 1) := by decide +kernel
theorem dX4_sign_22 : decode cX4_sign 22 = .ok (.getfield 12, 3) := by decide +kernel
theorem dX4_sign_25 : decode cX4_sign 25 = .ok (.aload_n 0, 1) := by decide +kernel
theorem dX4_sign_26 : decode cX4_sign 26 = .ok (.getfield 51, 3) := by decide +kernel
theorem dX4_sign_29 : decode cX4_sign 29 = .ok (.invokevirtual 122, 3) := by decide +kernel
theorem dX4_sign_32 : decode cX4_sign 32 = .ok (.goto 4, 3) := by decide +kernel
theorem dX4_sign_35 : decode cX4_sign 35 = .ok (.iconst (-1), 1) := by decide +kernel
theorem dX4_sign_36 : decode cX4_sign 36 = .ok (.ireturn, 1) := by decide +kernel
theorem dX5_init_0 : decode cX5_init 0 = .ok (.aload_n 0, 1) := by decide +kernel
theorem dX5_init_1 : decode cX5_init 1 = .ok (.invokespecial 3, 3) := by decide +kernel
theorem dX5_init_4 : decode cX5_init 4 = .ok (.aload_n 0, 1) := by decide +kernel
theorem dX5_init_5 : decode cX5_init 5 = .ok (.new 9, 3) := by decide +kernel
theorem dX5_init_8 : decode cX5_init 8 = .ok (.dup, 1) := by decide +kernel
theorem dX5_init_9 : decode cX5_init 9 = .ok (.bipush 16, 2) := by decide +kernel
theorem dX5_init_11 : decode cX5_init 11 = .ok (.iconst (-1), 1) := by decide +kernel
theorem dX5_init_12 : decode cX5_init 12 = .ok (.invokespecial 11, 3) := by decide +kernel
theorem dX5_init_15 : decode cX5_init 15 = .ok (.putfield 14, 3) := by decide +kernel
theorem dX5_init_18 : decode cX5_init 18 = .ok (.aload_n 0, 1) := by decide +kernel
theorem dX5_init_19 : decode cX5_init 19 = .ok (.new 9, 3) := by decide +kernel
theorem dX5_init_22 : decode cX5_init 22 = .ok (.dup, 1) := by decide +kernel
theorem dX5_init_23 : decode cX5_init 23 = .ok (.bipush 16, 2) := by decide +kernel
theorem dX5_init_25 : decode cX5_init 25 = .ok (.iconst (-1), 1) := by decide +kernel
theorem dX5_init_26 : decode cX5_init 26 = .ok (.invokespecial 11, 3) := by decide +kernel
theorem dX5_init_29 : decode cX5_init 29 = .ok (.putfield 20, 3) := by decide +kernel
theorem dX5_init_32 : decode cX5_init 32 = .ok (.aload_n 0, 1) := by decide +kernel
theorem dX5_init_33 : decode cX5_init 33 = .ok (.new 9, 3) := by decide +kernel
theorem dX5_init_36 : decode cX5_init 36 = .ok (.dup, 1) := by decide +kernel
theorem dX5_init_37 : decode cX5_init 37 = .ok (.bipush 16, 2) := by decide +kernel
theorem dX5_init_39 : decode cX5_init 39 = .ok (.iconst (-1), 1) := by decide +kernel
theorem dX5_init_40 : decode cX5_init 40 = .ok (.invokespecial 11, 3) := by decide +kernel
theorem dX5_init_43 : decode cX5_init 43 = .ok (.putfield 23, 3) := by decide +kernel
theorem dX5_init_46 : decode cX5_init 46 = .ok (.aload_n 0, 1) := by decide +kernel
theorem dX5_init_47 : decode cX5_init 47 = .ok (.new 9, 3) := by decide +kernel
theorem dX5_init_50 : decode cX5_init 50 = .ok (.dup, 1) := by decide +kernel
theorem dX5_init_51 : decode cX5_init 51 = .ok (.bipush 16, 2) := by decide +kernel
theorem dX5_init_53 : decode cX5_init 53 = .ok (.iconst 0, 1) := by decide +kernel
theorem dX5_init_54 : decode cX5_init 54 = .ok (.invokespecial 11, 3) := by decide +kernel
theorem dX5_init_57 : decode cX5_init 57 = .ok (.putfield 26, 3) := by decide +kernel
theorem dX5_init_60 : decode cX5_init 60 = .ok (.aload_n 0, 1) := by decide +kernel
theorem dX5_init_61 : decode cX5_init 61 = .ok (.new 9, 3) := by decide +kernel
theorem dX5_init_64 : decode cX5_init 64 = .ok (.dup, 1) := by decide +kernel
theorem dX5_init_65 : decode cX5_init 65 = .ok (.bipush 16, 2) := by decide +kernel
theorem dX5_init_67 : decode cX5_init 67 = .ok (.iconst 0, 1) := by decide +kernel
theorem dX5_init_68 : decode cX5_init 68 = .ok (.invokespecial 11, 3) := by decide +kernel
theorem dX5_init_71 : decode cX5_init 71 = .ok (.putfield 29, 3) := by decide +kernel
theorem dX5_init_74 : decode cX5_init 74 = .ok (.aload_n 0, 1) := by decide +kernel
theorem dX5_init_75 : decode cX5_init 75 = .ok (.new 32, 3) := by decide +kernel
theorem dX5_init_78 : decode cX5_init 78 = .ok (.dup, 1) := by decide +kernel
theorem dX5_init_79 : decode cX5_init 79 = .ok (.bipush 16, 2) := by decide +kernel
theorem dX5_init_81 : decode cX5_init 81 = .ok (.invokespecial 34, 3) := by decide +kernel
theorem dX5_init_84 : decode cX5_init 84 = .ok (.putfield 37, 3) := by decide +kernel
theorem dX5_init_87 : decode cX5_init 87 = .ok (.aload_n 0, 1) := by decide +kernel
theorem dX5_init_88 : decode cX5_init 88 = .ok (.new 9, 3) := by decide +kernel
theorem dX5_init_91 : decode cX5_init 91 = .ok (.dup, 1) := by decide +kernel
theorem dX5_init_92 : decode cX5_init 92 = .ok (.iconst 4, 1) := by decide +kernel
theorem dX5_init_93 : decode cX5_init 93 = .ok (.iconst 0, 1) := by decide +kernel
theorem dX5_init_94 : decode cX5_init 94 = .ok (.invokespecial 11, 3) := by decide +kernel
theorem dX5_init_97 : decode cX5_init 97 = .ok (.putfield 41, 3) := by decide +kernel
theorem dX5_init_100 : decode cX5_init 100 = .ok (.aload_n 0, 1) := by decide +kernel
theorem dX5_init_101 : decode cX5_init 101 = .ok (.new 32, 3) := by decide +kernel
theorem dX5_init_104 : decode cX5_init 104 = .ok (.dup, 1) := by decide +kernel
theorem dX5_init_105 : decode cX5_init 105 = .ok (.iconst 4, 1) := by decide +kernel
theorem dX5_init_106 : decode cX5_init 106 = .ok (.invokespecial 34, 3) := by decide +kernel
theorem dX5_init_109 : decode cX5_init 109 = .ok (.putfield 44, 3) := by decide +kernel
theorem dX5_init_112 : decode cX5_init 112 = .ok (.aload_n 0, 1) := by decide +kernel
theorem dX5_init_113 : decode cX5_init 113 = .ok (.getfield 14, 3) := by decide +kernel
theorem dX5_init_116 : decode cX5_init 116 = .ok (.iconst 0, 1) := by decide +kernel
theorem dX5_init_117 : decode cX5_init 117 = .ok (.iconst 0, 1) := by decide +kernel
theorem dX5_init_118 : decode cX5_init 118 = .ok (.invokevirtual 47, 3) := by decide +kernel
theorem dX5_init_121 : decode cX5_init 121 = .ok (.aload_n 0, 1) := by decide +kernel
theorem dX5_init_122 : decode cX5_init 122 = .ok (.getfield 26, 3) := by decide +kernel
theorem dX5_init_125 : decode cX5_init 125 = .ok (.iconst 0, 1) := by decide +kernel
theorem dX5_init_126 : decode cX5_init 126 = .ok (.iconst 1, 1) := by decide +kernel
theorem dX5_init_127 : decode cX5_init 127 = .ok (.invokevirtual 47, 3) := by decide +kernel
theorem dX5_init_130 : decode cX5_init 130 = .ok (.aload_n 0, 1) := by decide +kernel
theorem dX5_init_131 : decode cX5_init 131 = .ok (.iconst 1, 1) := by decide +kernel
theorem dX5_init_132 : decode cX5_init 132 = .ok (.putfield 50, 3) := by decide +kernel
theorem dX5_init_135 : decode cX5_init 135 = .ok (.return_, 1) := by decide +kernel
theorem dX5_copyFrom_0 : decode cX5_copyFrom 0 = .ok (.aload_n 0, 1) := by decide +kernel
theorem dX5_copyFrom_1 : decode cX5_copyFrom 1 = .ok (.getfield 14, 3) := by decide +kernel
theorem dX5_copyFrom_4 : decode cX5_copyFrom 4 = .ok (.aload_n 1, 1) := by decide +kernel
theorem dX5_copyFrom_5 : decode cX5_copyFrom 5 = .ok (.getfield 14, 3) := by decide +kernel
theorem dX5_copyFrom_8 : decode cX5_copyFrom 8 = .ok (.invokevirtual 54, 3) := by decide +kernel
theorem dX5_copyFrom_11 : decode cX5_copyFrom 11 = .ok (.aload_n 0, 1) := by decide +kernel
theorem dX5_copyFrom_12 : decode cX5_copyFrom 12 = .ok (.getfield 20, 3) := by decide +kernel
theorem dX5_copyFrom_15 : decode cX5_copyFrom 15 = .ok (.aload_n 1, 1) := by decide +kernel
theorem dX5_copyFrom_16 : decode cX5_copyFrom 16 = .ok (.getfield 20, 3) := by decide +kernel
theorem dX5_copyFrom_19 : decode cX5_copyFrom 19 = .ok (.invokevirtual 54, 3) := by decide +kernel
theorem dX5_copyFrom_22 : decode cX5_copyFrom 22 = .ok (.aload_n 0, 1) := by decide +kernel
theorem dX5_copyFrom_23 : decode cX5_copyFrom 23 = .ok (.getfield 23, 3) := by decide +kernel
theorem dX5_copyFrom_26 : decode cX5_copyFrom 26 = .ok (.aload_n 1, 1) := by decide +kernel
theorem dX5_copyFrom_27 : decode cX5_copyFrom 27 = .ok (.getfield 23, 3) := by decide +kernel
theorem dX5_copyFrom_30 : decode cX5_copyFrom 30 = .ok (.invokevirtual 54, 3) := by decide +kernel
theorem dX5_copyFrom_33 : decode cX5_copyFrom 33 = .ok (.aload_n 0, 1) := by decide +kernel
theorem dX5_copyFrom_34 : decode cX5_copyFrom 34 = .ok (.getfield 26, 3) := by decide +kernel
theorem dX5_copyFrom_37 : decode cX5_copyFrom 37 = .ok (.aload_n 1, 1) := by decide +kernel
theorem dX5_copyFrom_38 : decode cX5_copyFrom 38 = .ok (.getfield 26, 3) := by decide +kernel
theorem dX5_copyFrom_41 : decode cX5_copyFrom 41 = .ok (.invokevirtual 54, 3) := by decide +kernel
theorem dX5_copyFrom_44 : decode cX5_copyFrom 44 = .ok (.aload_n 0, 1) := by decide +kernel
theorem dX5_copyFrom_45 : decode cX5_copyFrom 45 = .ok (.getfield 29, 3) := by decide +kernel
theorem dX5_copyFrom_48 : decode cX5_copyFrom 48 = .ok (.aload_n 1, 1) := by decide +kernel
theorem dX5_copyFrom_49 : decode cX5_copyFrom 49 = .ok (.getfield 29, 3) := by decide +kernel
theorem dX5_copyFrom_52 : decode cX5_copyFrom 52 = .ok (.invokevirtual 54, 3) := by decide +kernel
theorem dX5_copyFrom_55 : decode cX5_copyFrom 55 = .ok (.aload_n 0, 1) := by decide +kernel
theorem dX5_copyFrom_56 : decode cX5_copyFrom 56 = .ok (.getfield 37, 3) := by decide +kernel
theorem dX5_copyFrom_59 : decode cX5_copyFrom 59 = .ok (.aload_n 1, 1) := by decide +kernel
theorem dX5_copyFrom_60 : decode cX5_copyFrom 60 = .ok (.getfield 37, 3) := by decide +kernel
theorem dX5_copyFrom_63 : decode cX5_copyFrom 63 = .ok (.invokevirtual 58, 3) := by decide +kernel
theorem dX5_copyFrom_66 : decode cX5_copyFrom 66 = .ok (.aload_n 0, 1) := by decide +kernel
theorem dX5_copyFrom_67 : decode cX5_copyFrom 67 = .ok (.getfield 41, 3) := by decide +kernel
theorem dX5_copyFrom_70 : decode cX5_copyFrom 70 = .ok (.aload_n 1, 1) := by decide +kernel
theorem dX5_copyFrom_71 : decode cX5_copyFrom 71 = .ok (.getfield 41, 3) := by decide +kernel
theorem dX5_copyFrom_74 : decode cX5_copyFrom 74 = .ok (.invokevirtual 54, 3) := by decide +kernel
theorem dX5_copyFrom_77 : decode cX5_copyFrom 77 = .ok (.aload_n 0, 1) := by decide +kernel
theorem dX5_copyFrom_78 : decode cX5_copyFrom 78 = .ok (.getfield 44, 3) := by decide +kernel
theorem dX5_copyFrom_81 : decode cX5_copyFrom 81 = .ok (.aload_n 1, 1) := by decide +kernel
theorem dX5_copyFrom_82 : decode cX5_copyFrom 82 = .ok (.getfield 44, 3) := by decide +kernel
theorem dX5_copyFrom_85 : decode cX5_copyFrom 85 = .ok (.invokevirtual 58, 3) := by decide +kernel
theorem dX5_copyFrom_88 : decode cX5_copyFrom 88 = .ok (.aload_n 0, 1) := by decide +kernel
theorem dX5_copyFrom_89 : decode cX5_copyFrom 89 = .ok (.aload_n 1, 1) := by decide +kernel
theorem dX5_copyFrom_90 : decode cX5_copyFrom 90 = .ok (.getfield 61, 3) := by decide +kernel
theorem dX5_copyFrom_93 : decode cX5_copyFrom 93 = .ok (.putfield 61, 3) := by decide +kernel
theorem dX5_copyFrom_96 : decode cX5_copyFrom 96 = .ok (.aload_n 0, 1) := by decide +kernel
theorem dX5_copyFrom_97 : decode cX5_copyFrom 97 = .ok (.aload_n 1, 1) := by decide +kernel
theorem dX5_copyFrom_98 : decode cX5_copyFrom 98 = .ok (.getfield 50, 3) := by decide +kernel
theorem dX5_copyFrom_101 : decode cX5_copyFrom 101 = .ok (.putfield 50, 3) := by decide +kernel
theorem dX5_copyFrom_104 : decode cX5_copyFrom 104 = .ok (.aload_n 0, 1) := by decide +kernel
theorem dX5_copyFrom_105 : decode cX5_copyFrom 105 = .ok (.aload_n 1, 1) := by decide +kernel
theorem dX5_copyFrom_106 : decode cX5_copyFrom 106 = .ok (.getfield 64, 3) := by decide +kernel
theorem dX5_copyFrom_109 : decode cX5_copyFrom 109 = .ok (.putfield 64, 3) := by decide +kernel
theorem dX5_copyFrom_112 : decode cX5_copyFrom 112 = .ok (.aload_n 0, 1) := by decide +kernel
theorem dX5_copyFrom_113 : decode cX5_copyFrom 113 = .ok (.aload_n 1, 1) := by decide +kernel
theorem dX5_copyFrom_114 : decode cX5_copyFrom 114 = .ok (.getfield 67, 3) := by decide +kernel
theorem dX5_copyFrom_117 : decode cX5_copyFrom 117 = .ok (.putfield 67, 3) := by decide +kernel
theorem dX5_copyFrom_120 : decode cX5_copyFrom 120 = .ok (.return_, 1) := by decide +kernel
theorem dX5_hasHill_0 : decode cX5_hasHill 0 = .ok (.iload_n 1, 1) := by decide +kernel
theorem dX5_hasHill_1 : decode cX5_hasHill 1 = .ok (.ifCond .lt 15, 3) := by decide +kernel
theorem dX5_hasHill_4 : decode cX5_hasHill 4 = .ok (.iload_n 1, 1) := by decide +kernel
theorem dX5_hasHill_5 : decode cX5_hasHill 5 = .ok (.aload_n 0, 1) := by decide +kernel
theorem dX5_hasHill_6 : decode cX5_hasHill 6 = .ok (.getfield 61, 3) := by decide +kernel
theorem dX5_hasHill_9 : decode cX5_hasHill 9 = .ok (.if_icmp .ge 7, 3) := by decide +kernel
theorem dX5_hasHill_12 : decode cX5_hasHill 12 = .ok (.iconst 1, 1) := by decide +kernel
theorem dX5_hasHill_13 : decode cX5_hasHill 13 = .ok (.goto 4, 3) := by decide +kernel
theorem dX5_hasHill_16 : decode cX5_hasHill 16 = .ok (.iconst 0, 1) := by decide +kernel
theorem dX5_hasHill_17 : decode cX5_hasHill 17 = .ok (.ireturn, 1) := by decide +kernel
theorem dX5_isUsed_0 : decode cX5_isUsed 0 = .ok (.aload_n 0, 1) := by decide +kernel
theorem dX5_isUsed_1 : decode cX5_isUsed 1 = .ok (.getfield 14, 3) := by decide +kernel
theorem dX5_isUsed_4 : decode cX5_isUsed 4 = .ok (.iload_n 1, 1) := by decide +kernel
theorem dX5_isUsed_5 : decode cX5_isUsed 5 = .ok (.invokevirtual 70, 3) := by decide +kernel
theorem dX5_isUsed_8 : decode cX5_isUsed 8 = .ok (.iconst (-1), 1) := by decide +kernel
theorem dX5_isUsed_9 : decode cX5_isUsed 9 = .ok (.if_icmp .eq 7, 3) := by decide +kernel
theorem dX5_isUsed_12 : decode cX5_isUsed 12 = .ok (.iconst 1, 1) := by decide +kernel
theorem dX5_isUsed_13 : decode cX5_isUsed 13 = .ok (.goto 4, 3) := by decide +kernel
theorem dX5_isUsed_16 : decode cX5_isUsed 16 = .ok (.iconst 0, 1) := by decide +kernel
theorem dX5_isUsed_17 : decode cX5_isUsed 17 = .ok (.ireturn, 1) := by decide +kernel
theorem dX5_slotOf_0 : decode cX5_slotOf 0 = .ok (.iconst 0, 1) := by decide +kernel
theorem dX5_slotOf_1 : decode cX5_slotOf 1 = .ok (.istore_n 2, 1) := by decide +kernel
theorem dX5_slotOf_2 : decode cX5_slotOf 2 = .ok (.iload_n 2, 1) := by decide +kernel
theorem dX5_slotOf_3 : decode cX5_slotOf 3 = .ok (.bipush 16, 2) := by decide +kernel
theorem dX5_slotOf_5 : decode cX5_slotOf 5 = .ok (.if_icmp .ge 27, 3) := by decide +kernel
theorem dX5_slotOf_8 : decode cX5_slotOf 8 = .ok (.iload_n 1, 1) := by decide +kernel
theorem dX5_slotOf_9 : decode cX5_slotOf 9 = .ok (.ifCond .lt 17, 3) := by decide +kernel
theorem dX5_slotOf_12 : decode cX5_slotOf 12 = .ok (.aload_n 0, 1) := by decide +kernel
theorem dX5_slotOf_13 : decode cX5_slotOf 13 = .ok (.getfield 14, 3) := by decide +kernel
theorem dX5_slotOf_16 : decode cX5_slotOf 16 = .ok (.iload_n 2, 1) := by decide +kernel
theorem dX5_slotOf_17 : decode cX5_slotOf 17 = .ok (.invokevirtual 70, 3) := by decide +kernel
theorem dX5_slotOf_20 : decode cX5_slotOf 20 = .ok (.iload_n 1, 1) := by decide +kernel
theorem dX5_slotOf_21 : decode cX5_slotOf 21 = .ok (.if_icmp .ne 5, 3) := by decide +kernel
theorem dX5_slotOf_24 : decode cX5_slotOf 24 = .ok (.iload_n 2, 1) := by decide +kernel
theorem dX5_slotOf_25 : decode cX5_slotOf 25 = .ok (.ireturn, 1) := by decide +kernel
theorem dX5_slotOf_26 : decode cX5_slotOf 26 = .ok (.iinc 2 1, 3) := by decide +kernel
theorem dX5_slotOf_29 : decode cX5_slotOf 29 = .ok (.goto (-27), 3) := by decide +kernel
theorem dX5_slotOf_32 : decode cX5_slotOf 32 = .ok (.iconst (-1), 1) := by decide +kernel
theorem dX5_slotOf_33 : decode cX5_slotOf 33 = .ok (.ireturn, 1) := by decide +kernel
theorem dX5_freeSlot_0 : decode cX5_freeSlot 0 = .ok (.iconst 0, 1) := by decide +kernel
theorem dX5_freeSlot_1 : decode cX5_freeSlot 1 = .ok (.istore_n 1, 1) := by decide +kernel
theorem dX5_freeSlot_2 : decode cX5_freeSlot 2 = .ok (.iload_n 1, 1) := by decide +kernel
theorem dX5_freeSlot_3 : decode cX5_freeSlot 3 = .ok (.bipush 16, 2) := by decide +kernel
theorem dX5_freeSlot_5 : decode cX5_freeSlot 5 = .ok (.if_icmp .ge 19, 3) := by decide +kernel
theorem dX5_freeSlot_8 : decode cX5_freeSlot 8 = .ok (.aload_n 0, 1) := by decide +kernel
theorem dX5_freeSlot_9 : decode cX5_freeSlot 9 = .ok (.iload_n 1, 1) := by decide +kernel
theorem dX5_freeSlot_10 : decode cX5_freeSlot 10 = .ok (.invokevirtual 74, 3) := by decide +kernel
theorem dX5_freeSlot_13 : decode cX5_freeSlot 13 = .ok (.ifCond .ne 5, 3) := by decide +kernel
theorem dX5_freeSlot_16 : decode cX5_freeSlot 16 = .ok (.iload_n 1, 1) := by decide +kernel
theorem dX5_freeSlot_17 : decode cX5_freeSlot 17 = .ok (.ireturn, 1) := by decide +kernel
theorem dX5_freeSlot_18 : decode cX5_freeSlot 18 = .ok (.iinc 1 1, 3) := by decide +kernel
theorem dX5_freeSlot_21 : decode cX5_freeSlot 21 = .ok (.goto (-19), 3) := by decide +kernel
theorem dX5_freeSlot_24 : decode cX5_freeSlot 24 = .ok (.iconst (-1), 1) := by decide +kernel
theorem dX5_freeSlot_25 : decode cX5_freeSlot 25 = .ok (.ireturn, 1) := by decide +kernel
theorem dX5_free_0 : decode cX5_free 0 = .ok (.aload_n 0, 1) := by decide +kernel
theorem dX5_free_1 : decode cX5_free 1 = .ok (.getfield 14, 3) := by decide +kernel
theorem dX5_free_4 : decode cX5_free 4 = .ok (.iload_n 1, 1) := by decide +kernel
theorem dX5_free_5 : decode cX5_free 5 = .ok (.iconst (-1), 1) := by decide +kernel
theorem dX5_free_6 : decode cX5_free 6 = .ok (.invokevirtual 47, 3) := by decide +kernel
theorem dX5_free_9 : decode cX5_free 9 = .ok (.aload_n 0, 1) := by decide +kernel
theorem dX5_free_10 : decode cX5_free 10 = .ok (.getfield 20, 3) := by decide +kernel
theorem dX5_free_13 : decode cX5_free 13 = .ok (.iload_n 1, 1) := by decide +kernel
theorem dX5_free_14 : decode cX5_free 14 = .ok (.iconst (-1), 1) := by decide +kernel
theorem dX5_free_15 : decode cX5_free 15 = .ok (.invokevirtual 47, 3) := by decide +kernel
theorem dX5_free_18 : decode cX5_free 18 = .ok (.aload_n 0, 1) := by decide +kernel
theorem dX5_free_19 : decode cX5_free 19 = .ok (.getfield 23, 3) := by decide +kernel
theorem dX5_free_22 : decode cX5_free 22 = .ok (.iload_n 1, 1) := by decide +kernel
theorem dX5_free_23 : decode cX5_free 23 = .ok (.iconst (-1), 1) := by decide +kernel
theorem dX5_free_24 : decode cX5_free 24 = .ok (.invokevirtual 47, 3) := by decide +kernel
theorem dX5_free_27 : decode cX5_free 27 = .ok (.return_, 1) := by decide +kernel
theorem dX6_init_0 : decode cX6_init 0 = .ok (.aload_n 0, 1) := by decide +kernel
theorem dX6_init_1 : decode cX6_init 1 = .ok (.invokespecial 3, 3) := by decide +kernel
theorem dX6_init_4 : decode cX6_init 4 = .ok (.aload_n 0, 1) := by decide +kernel
theorem dX6_init_5 : decode cX6_init 5 = .ok (.aload_n 1, 1) := by decide +kernel
theorem dX6_init_6 : decode cX6_init 6 = .ok (.putfield 9, 3) := by decide +kernel
theorem dX6_init_9 : decode cX6_init 9 = .ok (.aload_n 0, 1) := by decide +kernel
theorem dX6_init_10 : decode cX6_init 10 = .ok (.new 15, 3) := by decide +kernel
theorem dX6_init_13 : decode cX6_init 13 = .ok (.dup, 1) := by decide +kernel
theorem dX6_init_14 : decode cX6_init 14 = .ok (.bipush 100, 2) := by decide +kernel
theorem dX6_init_16 : decode cX6_init 16 = .ok (.iconst 0, 1) := by decide +kernel
theorem dX6_init_17 : decode cX6_init 17 = .ok (.invokespecial 17, 3) := by decide +kernel
theorem dX6_init_20 : decode cX6_init 20 = .ok (.putfield 20, 3) := by decide +kernel
theorem dX6_init_23 : decode cX6_init 23 = .ok (.return_, 1) := by decide +kernel
theorem dX6_countBlocks_0 : decode cX6_countBlocks 0 = .ok (.iconst 0, 1) := by decide +kernel
theorem dX6_countBlocks_1 : decode cX6_countBlocks 1 = .ok (.istore_n 1, 1) := by decide +kernel
theorem dX6_countBlocks_2 : decode cX6_countBlocks 2 = .ok (.iconst 0, 1) := by decide +kernel
theorem dX6_countBlocks_3 : decode cX6_countBlocks 3 = .ok (.istore_n 2, 1) := by decide +kernel
theorem dX6_countBlocks_4 : decode cX6_countBlocks 4 = .ok (.iload_n 2, 1) := by decide +kernel
theorem dX6_countBlocks_5 : decode cX6_countBlocks 5 = .ok (.bipush 16, 2) := by decide +kernel
theorem dX6_countBlocks_7 : decode cX6_countBlocks 7 = .ok (.if_icmp .ge 23, 3) := by decide +kernel
theorem dX6_countBlocks_10 : decode cX6_countBlocks 10 = .ok (.aload_n 0, 1) := by decide +kernel
theorem dX6_countBlocks_11 : decode cX6_countBlocks 11 = .ok (.getfield 9, 3) := by decide +kernel
theorem dX6_countBlocks_14 : decode cX6_countBlocks 14 = .ok (.iload_n 2, 1) := by decide +kernel
theorem dX6_countBlocks_15 : decode cX6_countBlocks 15 = .ok (.invokevirtual 24, 3) := by decide +kernel
theorem dX6_countBlocks_18 : decode cX6_countBlocks 18 = .ok (.ifCond .eq 6, 3) := by decide +kernel
theorem dX6_countBlocks_21 : decode cX6_countBlocks 21 = .ok (.iinc 1 1, 3) := by decide +kernel
theorem dX6_countBlocks_24 : decode cX6_countBlocks 24 = .ok (.iinc 2 1, 3) := by decide +kernel
theorem dX6_countBlocks_27 : decode cX6_countBlocks 27 = .ok (.goto (-23), 3) := by decide +kernel
theorem dX6_countBlocks_30 : decode cX6_countBlocks 30 = .ok (.iload_n 1, 1) := by decide +kernel
theorem dX6_countBlocks_31 : decode cX6_countBlocks 31 = .ok (.ireturn, 1) := by decide +kernel
theorem dX6_countChildren_0 : decode cX6_countChildren 0 = .ok (.iconst 0, 1) := by decide +kernel
theorem dX6_countChildren_1 : decode cX6_countChildren 1 = .ok (.istore_n 2, 1) := by decide +kernel
theorem dX6_countChildren_2 : decode cX6_countChildren 2 = .ok (.iconst 0, 1) := by decide +kernel
theorem dX6_countChildren_3 : decode cX6_countChildren 3 = .ok (.istore_n 3, 1) := by decide +kernel
theorem dX6_countChildren_4 : decode cX6_countChildren 4 = .ok (.iload_n 3, 1) := by decide +kernel
theorem dX6_countChildren_5 : decode cX6_countChildren 5 = .ok (.bipush 16, 2) := by decide +kernel
theorem dX6_countChildren_7 : decode cX6_countChildren 7 = .ok (.if_icmp .ge 27, 3) := by decide +kernel
theorem dX6_countChildren_10 : decode cX6_countChildren 10 = .ok (.aload_n 0, 1) := by decide +kernel
theorem dX6_countChildren_11 : decode cX6_countChildren 11 = .ok (.getfield 9, 3) := by decide +kernel
theorem dX6_countChildren_14 : decode cX6_countChildren 14 = .ok (.getfield 30, 3) := by decide +kernel
theorem dX6_countChildren_17 : decode cX6_countChildren 17 = .ok (.iload_n 3, 1) := by decide +kernel
theorem dX6_countChildren_18 : decode cX6_countChildren 18 = .ok (.invokevirtual 33, 3) := by decide +kernel
theorem dX6_countChildren_21 : decode cX6_countChildren 21 = .ok (.iload_n 1, 1) := by decide +kernel
theorem dX6_countChildren_22 : decode cX6_countChildren 22 = .ok (.if_icmp .ne 6, 3) := by decide +kernel
theorem dX6_countChildren_25 : decode cX6_countChildren 25 = .ok (.iinc 2 1, 3) := by decide +kernel
theorem dX6_countChildren_28 : decode cX6_countChildren 28 = .ok (.iinc 3 1, 3) := by decide +kernel
theorem dX6_countChildren_31 : decode cX6_countChildren 31 = .ok (.goto (-27), 3) := by decide +kernel
theorem dX6_countChildren_34 : decode cX6_countChildren 34 = .ok (.iload_n 2, 1) := by decide +kernel
theorem dX6_countChildren_35 : decode cX6_countChildren 35 = .ok (.ireturn, 1) := by decide +kernel
theorem dX6_countWrittenBy_0 : decode cX6_countWrittenBy 0 = .ok (.iconst 0, 1) := by decide +kernel
theorem dX6_countWrittenBy_1 : decode cX6_countWrittenBy 1 = .ok (.istore_n 2, 1) := by decide +kernel
theorem dX6_countWrittenBy_2 : decode cX6_countWrittenBy 2 = .ok (.iconst 0, 1) := by decide +kernel
theorem dX6_countWrittenBy_3 : decode cX6_countWrittenBy 3 = .ok (.istore_n 3, 1) := by decide +kernel
theorem dX6_countWrittenBy_4 : decode cX6_countWrittenBy 4 = .ok (.iload_n 3, 1) := by decide +kernel
theorem dX6_countWrittenBy_5 : decode cX6_countWrittenBy 5 = .ok (.bipush 16, 2) := by decide +kernel
theorem dX6_countWrittenBy_7 : decode cX6_countWrittenBy 7 = .ok (.if_icmp .ge 27, 3) := by decide +kernel
theorem dX6_countWrittenBy_10 : decode cX6_countWrittenBy 10 = .ok (.aload_n 0, 1) := by decide +kernel
theorem dX6_countWrittenBy_11 : decode cX6_countWrittenBy 11 = .ok (.getfield 9, 3) := by decide +kernel
theorem dX6_countWrittenBy_14 : decode cX6_countWrittenBy 14 = .ok (.getfield 37, 3) := by decide +kernel
theorem dX6_countWrittenBy_17 : decode cX6_countWrittenBy 17 = .ok (.iload_n 3, 1) := by decide +kernel
theorem dX6_countWrittenBy_18 : decode cX6_countWrittenBy 18 = .ok (.invokevirtual 33, 3) := by decide +kernel
theorem dX6_countWrittenBy_21 : decode cX6_countWrittenBy 21 = .ok (.iload_n 1, 1) := by decide +kernel
theorem dX6_countWrittenBy_22 : decode cX6_countWrittenBy 22 = .ok (.if_icmp .ne 6, 3) := by decide +kernel
theorem dX6_countWrittenBy_25 : decode cX6_countWrittenBy 25 = .ok (.iinc 2 1, 3) := by decide +kernel
theorem dX6_countWrittenBy_28 : decode cX6_countWrittenBy 28 = .ok (.iinc 3 1, 3) := by decide +kernel
theorem dX6_countWrittenBy_31 : decode cX6_countWrittenBy 31 = .ok (.goto (-27), 3) := by decide +kernel
theorem dX6_countWrittenBy_34 : decode cX6_countWrittenBy 34 = .ok (.iload_n 2, 1) := by decide +kernel
theorem dX6_countWrittenBy_35 : decode cX6_countWrittenBy 35 = .ok (.ireturn, 1) := by decide +kernel
theorem dX6_heightByWalk_0 : decode cX6_heightByWalk 0 = .ok (.iconst 0, 1) := by decide +kernel
theorem dX6_heightByWalk_1 : decode cX6_heightByWalk 1 = .ok (.istore_n 2, 1) := by decide +kernel
theorem dX6_heightByWalk_2 : decode cX6_heightByWalk 2 = .ok (.aload_n 0, 1) := by decide +kernel
theorem dX6_heightByWalk_3 : decode cX6_heightByWalk 3 = .ok (.getfield 9, 3) := by decide +kernel
theorem dX6_heightByWalk_6 : decode cX6_heightByWalk 6 = .ok (.getfield 30, 3) := by decide +kernel
theorem dX6_heightByWalk_9 : decode cX6_heightByWalk 9 = .ok (.iload_n 1, 1) := by decide +kernel
theorem dX6_heightByWalk_10 : decode cX6_heightByWalk 10 = .ok (.invokevirtual 33, 3) := by decide +kernel
theorem dX6_heightByWalk_13 : decode cX6_heightByWalk 13 = .ok (.istore_n 3, 1) := by decide +kernel
theorem dX6_heightByWalk_14 : decode cX6_heightByWalk 14 = .ok (.iload_n 3, 1) := by decide +kernel
theorem dX6_heightByWalk_15 : decode cX6_heightByWalk 15 = .ok (.iconst (-1), 1) := by decide +kernel
theorem dX6_heightByWalk_16 : decode cX6_heightByWalk 16 = .ok (.if_icmp .eq 27, 3) := by decide +kernel
theorem dX6_heightByWalk_19 : decode cX6_heightByWalk 19 = .ok (.iload_n 2, 1) := by decide +kernel
theorem dX6_heightByWalk_20 : decode cX6_heightByWalk 20 = .ok (.bipush 16, 2) := by decide +kernel
theorem dX6_heightByWalk_22 : decode cX6_heightByWalk 22 = .ok (.if_icmp .ge 21, 3) := by decide +kernel
theorem dX6_heightByWalk_25 : decode cX6_heightByWalk 25 = .ok (.iinc 2 1, 3) := by decide +kernel
theorem dX6_heightByWalk_28 : decode cX6_heightByWalk 28 = .ok (.aload_n 0, 1) := by decide +kernel
theorem dX6_heightByWalk_29 : decode cX6_heightByWalk 29 = .ok (.getfield 9, 3) := by decide +kernel
theorem dX6_heightByWalk_32 : decode cX6_heightByWalk 32 = .ok (.getfield 30, 3) := by decide +kernel
theorem dX6_heightByWalk_35 : decode cX6_heightByWalk 35 = .ok (.iload_n 3, 1) := by decide +kernel
theorem dX6_heightByWalk_36 : decode cX6_heightByWalk 36 = .ok (.invokevirtual 33, 3) := by decide +kernel
theorem dX6_heightByWalk_39 : decode cX6_heightByWalk 39 = .ok (.istore_n 3, 1) := by decide +kernel
theorem dX6_heightByWalk_40 : decode cX6_heightByWalk 40 = .ok (.goto (-26), 3) := by decide +kernel
theorem dX6_heightByWalk_43 : decode cX6_heightByWalk 43 = .ok (.iload_n 2, 1) := by decide +kernel
theorem dX6_heightByWalk_44 : decode cX6_heightByWalk 44 = .ok (.ireturn, 1) := by decide +kernel
theorem dX6_heightBySearch_0 : decode cX6_heightBySearch 0 = .ok (.aload_n 0, 1) := by decide +kernel
theorem dX6_heightBySearch_1 : decode cX6_heightBySearch 1 = .ok (.getfield 9, 3) := by decide +kernel
theorem dX6_heightBySearch_4 : decode cX6_heightBySearch 4 = .ok (.getfield 30, 3) := by decide +kernel
theorem dX6_heightBySearch_7 : decode cX6_heightBySearch 7 = .ok (.iconst 0, 1) := by decide +kernel
theorem dX6_heightBySearch_8 : decode cX6_heightBySearch 8 = .ok (.iload_n 1, 1) := by decide +kernel
theorem dX6_heightBySearch_9 : decode cX6_heightBySearch 9 = .ok (.iconst 0, 1) := by decide +kernel
theorem dX6_heightBySearch_10 : decode cX6_heightBySearch 10 = .ok (.invokestatic 40, 3) := by decide +kernel
theorem dX6_heightBySearch_13 : decode cX6_heightBySearch 13 = .ok (.ireturn, 1) := by decide +kernel
theorem dX6_depthBelow_0 : decode cX6_depthBelow 0 = .ok (.iload_n 1, 1) := by decide +kernel
theorem dX6_depthBelow_1 : decode cX6_depthBelow 1 = .ok (.iload_n 2, 1) := by decide +kernel
theorem dX6_depthBelow_2 : decode cX6_depthBelow 2 = .ok (.if_icmp .ne 5, 3) := by decide +kernel
theorem dX6_depthBelow_5 : decode cX6_depthBelow 5 = .ok (.iload_n 3, 1) := by decide +kernel
theorem dX6_depthBelow_6 : decode cX6_depthBelow 6 = .ok (.ireturn, 1) := by decide +kernel
theorem dX6_depthBelow_7 : decode cX6_depthBelow 7 = .ok (.iload_n 3, 1) := by decide +kernel
theorem dX6_depthBelow_8 : decode cX6_depthBelow 8 = .ok (.bipush 16, 2) := by decide +kernel
theorem dX6_depthBelow_10 : decode cX6_depthBelow 10 = .ok (.if_icmp .lt 5, 3) := by decide +kernel
theorem dX6_depthBelow_13 : decode cX6_depthBelow 13 = .ok (.iconst (-1), 1) := by decide +kernel
theorem dX6_depthBelow_14 : decode cX6_depthBelow 14 = .ok (.ireturn, 1) := by decide +kernel
theorem dX6_depthBelow_15 : decode cX6_depthBelow 15 = .ok (.iconst 0, 1) := by decide +kernel
theorem dX6_depthBelow_16 : decode cX6_depthBelow 16 = .ok (.istore 4, 2) := by decide +kernel
theorem dX6_depthBelow_18 : decode cX6_depthBelow 18 = .ok (.iload 4, 2) := by decide +kernel
theorem dX6_depthBelow_20 : decode cX6_depthBelow 20 = .ok (.bipush 16, 2) := by decide +kernel
theorem dX6_depthBelow_22 : decode cX6_depthBelow 22 = .ok (.if_icmp .ge 40, 3) := by decide +kernel
theorem dX6_depthBelow_25 : decode cX6_depthBelow 25 = .ok (.aload_n 0, 1) := by decide +kernel
theorem dX6_depthBelow_26 : decode cX6_depthBelow 26 = .ok (.iload 4, 2) := by decide +kernel
theorem dX6_depthBelow_28 : decode cX6_depthBelow 28 = .ok (.invokevirtual 33, 3) := by decide +kernel
theorem dX6_depthBelow_31 : decode cX6_depthBelow 31 = .ok (.iload_n 1, 1) := by decide +kernel
theorem dX6_depthBelow_32 : decode cX6_depthBelow 32 = .ok (.if_icmp .ne 24, 3) := by decide +kernel
theorem dX6_depthBelow_35 : decode cX6_depthBelow 35 = .ok (.aload_n 0, 1) := by decide +kernel
theorem dX6_depthBelow_36 : decode cX6_depthBelow 36 = .ok (.iload 4, 2) := by decide +kernel
theorem dX6_depthBelow_38 : decode cX6_depthBelow 38 = .ok (.iload_n 2, 1) := by decide +kernel
theorem dX6_depthBelow_39 : decode cX6_depthBelow 39 = .ok (.iload_n 3, 1) := by decide +kernel
theorem dX6_depthBelow_40 : decode cX6_depthBelow 40 = .ok (.iconst 1, 1) := by decide +kernel
theorem dX6_depthBelow_41 : decode cX6_depthBelow 41 = .ok (.iadd, 1) := by decide +kernel
theorem dX6_depthBelow_42 : decode cX6_depthBelow 42 = .ok (.invokestatic 40, 3) := by decide +kernel
theorem dX6_depthBelow_45 : decode cX6_depthBelow 45 = .ok (.istore 5, 2) := by decide +kernel
theorem dX6_depthBelow_47 : decode cX6_depthBelow 47 = .ok (.iload 5, 2) := by decide +kernel
theorem dX6_depthBelow_49 : decode cX6_depthBelow 49 = .ok (.iconst (-1), 1) := by decide +kernel
theorem dX6_depthBelow_50 : decode cX6_depthBelow 50 = .ok (.if_icmp .eq 6, 3) := by decide +kernel
theorem dX6_depthBelow_53 : decode cX6_depthBelow 53 = .ok (.iload 5, 2) := by decide +kernel
theorem dX6_depthBelow_55 : decode cX6_depthBelow 55 = .ok (.ireturn, 1) := by decide +kernel
theorem dX6_depthBelow_56 : decode cX6_depthBelow 56 = .ok (.iinc 4 1, 3) := by decide +kernel
theorem dX6_depthBelow_59 : decode cX6_depthBelow 59 = .ok (.goto (-41), 3) := by decide +kernel
theorem dX6_depthBelow_62 : decode cX6_depthBelow 62 = .ok (.iconst (-1), 1) := by decide +kernel
theorem dX6_depthBelow_63 : decode cX6_depthBelow 63 = .ok (.ireturn, 1) := by decide +kernel
theorem dX6_countAtHeight_0 : decode cX6_countAtHeight 0 = .ok (.iconst 0, 1) := by decide +kernel
theorem dX6_countAtHeight_1 : decode cX6_countAtHeight 1 = .ok (.istore_n 2, 1) := by decide +kernel
theorem dX6_countAtHeight_2 : decode cX6_countAtHeight 2 = .ok (.iconst 0, 1) := by decide +kernel
theorem dX6_countAtHeight_3 : decode cX6_countAtHeight 3 = .ok (.istore_n 3, 1) := by decide +kernel
theorem dX6_countAtHeight_4 : decode cX6_countAtHeight 4 = .ok (.iload_n 3, 1) := by decide +kernel
theorem dX6_countAtHeight_5 : decode cX6_countAtHeight 5 = .ok (.bipush 16, 2) := by decide +kernel
theorem dX6_countAtHeight_7 : decode cX6_countAtHeight 7 = .ok (.if_icmp .ge 32, 3) := by decide +kernel
theorem dX6_countAtHeight_10 : decode cX6_countAtHeight 10 = .ok (.aload_n 0, 1) := by decide +kernel
theorem dX6_countAtHeight_11 : decode cX6_countAtHeight 11 = .ok (.getfield 9, 3) := by decide +kernel
theorem dX6_countAtHeight_14 : decode cX6_countAtHeight 14 = .ok (.iload_n 3, 1) := by decide +kernel
theorem dX6_countAtHeight_15 : decode cX6_countAtHeight 15 = .ok (.invokevirtual 24, 3) := by decide +kernel
theorem dX6_countAtHeight_18 : decode cX6_countAtHeight 18 = .ok (.ifCond .eq 15, 3) := by decide +kernel
theorem dX6_countAtHeight_21 : decode cX6_countAtHeight 21 = .ok (.aload_n 0, 1) := by decide +kernel
theorem dX6_countAtHeight_22 : decode cX6_countAtHeight 22 = .ok (.iload_n 3, 1) := by decide +kernel
theorem dX6_countAtHeight_23 : decode cX6_countAtHeight 23 = .ok (.invokevirtual 44, 3) := by decide +kernel
theorem dX6_countAtHeight_26 : decode cX6_countAtHeight 26 = .ok (.iload_n 1, 1) := by decide +kernel
theorem dX6_countAtHeight_27 : decode cX6_countAtHeight 27 = .ok (.if_icmp .ne 6, 3) := by decide +kernel
theorem dX6_countAtHeight_30 : decode cX6_countAtHeight 30 = .ok (.iinc 2 1, 3) := by decide +kernel
theorem dX6_countAtHeight_33 : decode cX6_countAtHeight 33 = .ok (.iinc 3 1, 3) := by decide +kernel
theorem dX6_countAtHeight_36 : decode cX6_countAtHeight 36 = .ok (.goto (-32), 3) := by decide +kernel
theorem dX6_countAtHeight_39 : decode cX6_countAtHeight 39 = .ok (.iload_n 2, 1) := by decide +kernel
theorem dX6_countAtHeight_40 : decode cX6_countAtHeight 40 = .ok (.ireturn, 1) := by decide +kernel
theorem dX6_holds_0 : decode cX6_holds 0 = .ok (.iload_n 1, 1) := by decide +kernel
theorem dX6_holds_1 : decode cX6_holds 1 = .ok (.ifCond .ne 5, 3) := by decide +kernel
theorem dX6_holds_4 : decode cX6_holds 4 = .ok (.iconst 1, 1) := by decide +kernel
theorem dX6_holds_5 : decode cX6_holds 5 = .ok (.ireturn, 1) := by decide +kernel
theorem dX6_holds_6 : decode cX6_holds 6 = .ok (.aload_n 0, 1) := by decide +kernel
theorem dX6_holds_7 : decode cX6_holds 7 = .ok (.getfield 9, 3) := by decide +kernel
theorem dX6_holds_10 : decode cX6_holds 10 = .ok (.getfield 47, 3) := by decide +kernel
theorem dX6_holds_13 : decode cX6_holds 13 = .ok (.aload_n 0, 1) := by decide +kernel
theorem dX6_holds_14 : decode cX6_holds 14 = .ok (.getfield 9, 3) := by decide +kernel
theorem dX6_holds_17 : decode cX6_holds 17 = .ok (.getfield 30, 3) := by decide +kernel
theorem dX6_holds_20 : decode cX6_holds 20 = .ok (.iload_n 1, 1) := by decide +kernel
theorem dX6_holds_21 : decode cX6_holds 21 = .ok (.invokevirtual 33, 3) := by decide +kernel
theorem dX6_holds_24 : decode cX6_holds 24 = .ok (.invokevirtual 33, 3) := by decide +kernel
theorem dX6_holds_27 : decode cX6_holds 27 = .ok (.istore_n 2, 1) := by decide +kernel
theorem dX6_holds_28 : decode cX6_holds 28 = .ok (.aload_n 0, 1) := by decide +kernel
theorem dX6_holds_29 : decode cX6_holds 29 = .ok (.getfield 9, 3) := by decide +kernel
theorem dX6_holds_32 : decode cX6_holds 32 = .ok (.getfield 50, 3) := by decide +kernel
theorem dX6_holds_35 : decode cX6_holds 35 = .ok (.iload_n 1, 1) := by decide +kernel
theorem dX6_holds_36 : decode cX6_holds 36 = .ok (.invokevirtual 54, 3) := by decide +kernel
theorem dX6_holds_39 : decode cX6_holds 39 = .ok (.istore_n 3, 1) := by decide +kernel
theorem dX6_holds_40 : decode cX6_holds 40 = .ok (.aload_n 0, 1) := by decide +kernel
theorem dX6_holds_41 : decode cX6_holds 41 = .ok (.getfield 9, 3) := by decide +kernel
theorem dX6_holds_44 : decode cX6_holds 44 = .ok (.getfield 47, 3) := by decide +kernel
theorem dX6_holds_47 : decode cX6_holds 47 = .ok (.iload_n 1, 1) := by decide +kernel
theorem dX6_holds_48 : decode cX6_holds 48 = .ok (.invokevirtual 33, 3) := by decide +kernel
theorem dX6_holds_51 : decode cX6_holds 51 = .ok (.iload_n 2, 1) := by decide +kernel
theorem dX6_holds_52 : decode cX6_holds 52 = .ok (.iload_n 3, 1) := by decide +kernel
theorem dX6_holds_53 : decode cX6_holds 53 = .ok (.aload_n 0, 1) := by decide +kernel
theorem dX6_holds_54 : decode cX6_holds 54 = .ok (.getfield 9, 3) := by decide +kernel
theorem dX6_holds_57 : decode cX6_holds 57 = .ok (.getfield 37, 3) := by decide +kernel
theorem dX6_holds_60 : decode cX6_holds 60 = .ok (.iload_n 1, 1) := by decide +kernel
theorem dX6_holds_61 : decode cX6_holds 61 = .ok (.invokevirtual 33, 3) := by decide +kernel
theorem dX6_holds_64 : decode cX6_holds 64 = .ok (.aload_n 0, 1) := by decide +kernel
theorem dX6_holds_65 : decode cX6_holds 65 = .ok (.getfield 9, 3) := by decide +kernel
theorem dX6_holds_68 : decode cX6_holds 68 = .ok (.getfield 59, 3) := by decide +kernel
theorem dX6_holds_71 : decode cX6_holds 71 = .ok (.iload_n 1, 1) := by decide +kernel
theorem dX6_holds_72 : decode cX6_holds 72 = .ok (.invokevirtual 33, 3) := by decide +kernel
theorem dX6_holds_75 : decode cX6_holds 75 = .ok (.invokestatic 62, 3) := by decide +kernel
theorem dX6_holds_78 : decode cX6_holds 78 = .ok (.if_icmp .ne 7, 3) := by decide +kernel
theorem dX6_holds_81 : decode cX6_holds 81 = .ok (.iconst 1, 1) := by decide +kernel
theorem dX6_holds_82 : decode cX6_holds 82 = .ok (.goto 4, 3) := by decide +kernel
theorem dX6_holds_85 : decode cX6_holds 85 = .ok (.iconst 0, 1) := by decide +kernel
theorem dX6_holds_86 : decode cX6_holds 86 = .ok (.ireturn, 1) := by decide +kernel
theorem dX6_countHolding_0 : decode cX6_countHolding 0 = .ok (.iconst 0, 1) := by decide +kernel
theorem dX6_countHolding_1 : decode cX6_countHolding 1 = .ok (.istore_n 1, 1) := by decide +kernel
theorem dX6_countHolding_2 : decode cX6_countHolding 2 = .ok (.iconst 0, 1) := by decide +kernel
theorem dX6_countHolding_3 : decode cX6_countHolding 3 = .ok (.istore_n 2, 1) := by decide +kernel
theorem dX6_countHolding_4 : decode cX6_countHolding 4 = .ok (.iload_n 2, 1) := by decide +kernel
theorem dX6_countHolding_5 : decode cX6_countHolding 5 = .ok (.bipush 16, 2) := by decide +kernel
theorem dX6_countHolding_7 : decode cX6_countHolding 7 = .ok (.if_icmp .ge 31, 3) := by decide +kernel
theorem dX6_countHolding_10 : decode cX6_countHolding 10 = .ok (.aload_n 0, 1) := by decide +kernel
theorem dX6_countHolding_11 : decode cX6_countHolding 11 = .ok (.getfield 9, 3) := by decide +kernel
theorem dX6_countHolding_14 : decode cX6_countHolding 14 = .ok (.iload_n 2, 1) := by decide +kernel
theorem dX6_countHolding_15 : decode cX6_countHolding 15 = .ok (.invokevirtual 24, 3) := by decide +kernel
theorem dX6_countHolding_18 : decode cX6_countHolding 18 = .ok (.ifCond .eq 14, 3) := by decide +kernel
theorem dX6_countHolding_21 : decode cX6_countHolding 21 = .ok (.aload_n 0, 1) := by decide +kernel
theorem dX6_countHolding_22 : decode cX6_countHolding 22 = .ok (.iload_n 2, 1) := by decide +kernel
theorem dX6_countHolding_23 : decode cX6_countHolding 23 = .ok (.invokevirtual 66, 3) := by decide +kernel
theorem dX6_countHolding_26 : decode cX6_countHolding 26 = .ok (.ifCond .eq 6, 3) := by decide +kernel
theorem dX6_countHolding_29 : decode cX6_countHolding 29 = .ok (.iinc 1 1, 3) := by decide +kernel
theorem dX6_countHolding_32 : decode cX6_countHolding 32 = .ok (.iinc 2 1, 3) := by decide +kernel
theorem dX6_countHolding_35 : decode cX6_countHolding 35 = .ok (.goto (-31), 3) := by decide +kernel
theorem dX6_countHolding_38 : decode cX6_countHolding 38 = .ok (.iload_n 1, 1) := by decide +kernel
theorem dX6_countHolding_39 : decode cX6_countHolding 39 = .ok (.ireturn, 1) := by decide +kernel
theorem dX6_lowestBroken_0 : decode cX6_lowestBroken 0 = .ok (.iconst (-1), 1) := by decide +kernel
theorem dX6_lowestBroken_1 : decode cX6_lowestBroken 1 = .ok (.istore_n 2, 1) := by decide +kernel
theorem dX6_lowestBroken_2 : decode cX6_lowestBroken 2 = .ok (.iload_n 1, 1) := by decide +kernel
theorem dX6_lowestBroken_3 : decode cX6_lowestBroken 3 = .ok (.istore_n 3, 1) := by decide +kernel
theorem dX6_lowestBroken_4 : decode cX6_lowestBroken 4 = .ok (.iconst 0, 1) := by decide +kernel
theorem dX6_lowestBroken_5 : decode cX6_lowestBroken 5 = .ok (.istore 4, 2) := by decide +kernel
theorem dX6_lowestBroken_7 : decode cX6_lowestBroken 7 = .ok (.iload_n 3, 1) := by decide +kernel
theorem dX6_lowestBroken_8 : decode cX6_lowestBroken 8 = .ok (.iconst (-1), 1) := by decide +kernel
theorem dX6_lowestBroken_9 : decode cX6_lowestBroken 9 = .ok (.if_icmp .eq 38, 3) := by decide +kernel
theorem dX6_lowestBroken_12 : decode cX6_lowestBroken 12 = .ok (.iload 4, 2) := by decide +kernel
theorem dX6_lowestBroken_14 : decode cX6_lowestBroken 14 = .ok (.bipush 16, 2) := by decide +kernel
theorem dX6_lowestBroken_16 : decode cX6_lowestBroken 16 = .ok (.if_icmp .ge 31, 3) := by decide +kernel
theorem dX6_lowestBroken_19 : decode cX6_lowestBroken 19 = .ok (.aload_n 0, 1) := by decide +kernel
theorem dX6_lowestBroken_20 : decode cX6_lowestBroken 20 = .ok (.iload_n 3, 1) := by decide +kernel
theorem dX6_lowestBroken_21 : decode cX6_lowestBroken 21 = .ok (.invokevirtual 66, 3) := by decide +kernel
theorem dX6_lowestBroken_24 : decode cX6_lowestBroken 24 = .ok (.ifCond .ne 5, 3) := by decide +kernel
theorem dX6_lowestBroken_27 : decode cX6_lowestBroken 27 = .ok (.iload_n 3, 1) := by decide +kernel
theorem dX6_lowestBroken_28 : decode cX6_lowestBroken 28 = .ok (.istore_n 2, 1) := by decide +kernel
theorem dX6_lowestBroken_29 : decode cX6_lowestBroken 29 = .ok (.aload_n 0, 1) := by decide +kernel
theorem dX6_lowestBroken_30 : decode cX6_lowestBroken 30 = .ok (.getfield 9, 3) := by decide +kernel
theorem dX6_lowestBroken_33 : decode cX6_lowestBroken 33 = .ok (.getfield 30, 3) := by decide +kernel
theorem dX6_lowestBroken_36 : decode cX6_lowestBroken 36 = .ok (.iload_n 3, 1) := by decide +kernel
theorem dX6_lowestBroken_37 : decode cX6_lowestBroken 37 = .ok (.invokevirtual 33, 3) := by decide +kernel
theorem dX6_lowestBroken_40 : decode cX6_lowestBroken 40 = .ok (.istore_n 3, 1) := by decide +kernel
theorem dX6_lowestBroken_41 : decode cX6_lowestBroken 41 = .ok (.iinc 4 1, 3) := by decide +kernel
theorem dX6_lowestBroken_44 : decode cX6_lowestBroken 44 = .ok (.goto (-37), 3) := by decide +kernel
theorem dX6_lowestBroken_47 : decode cX6_lowestBroken 47 = .ok (.iload_n 2, 1) := by decide +kernel
theorem dX6_lowestBroken_48 : decode cX6_lowestBroken 48 = .ok (.ireturn, 1) := by decide +kernel
theorem dX6_countRepairs_0 : decode cX6_countRepairs 0 = .ok (.aload_n 0, 1) := by decide +kernel
theorem dX6_countRepairs_1 : decode cX6_countRepairs 1 = .ok (.iload_n 1, 1) := by decide +kernel
theorem dX6_countRepairs_2 : decode cX6_countRepairs 2 = .ok (.invokevirtual 44, 3) := by decide +kernel
theorem dX6_countRepairs_5 : decode cX6_countRepairs 5 = .ok (.istore_n 2, 1) := by decide +kernel
theorem dX6_countRepairs_6 : decode cX6_countRepairs 6 = .ok (.aload_n 0, 1) := by decide +kernel
theorem dX6_countRepairs_7 : decode cX6_countRepairs 7 = .ok (.getfield 9, 3) := by decide +kernel
theorem dX6_countRepairs_10 : decode cX6_countRepairs 10 = .ok (.getfield 47, 3) := by decide +kernel
theorem dX6_countRepairs_13 : decode cX6_countRepairs 13 = .ok (.iconst 0, 1) := by decide +kernel
theorem dX6_countRepairs_14 : decode cX6_countRepairs 14 = .ok (.invokevirtual 33, 3) := by decide +kernel
theorem dX6_countRepairs_17 : decode cX6_countRepairs 17 = .ok (.istore_n 3, 1) := by decide +kernel
theorem dX6_countRepairs_18 : decode cX6_countRepairs 18 = .ok (.iconst 0, 1) := by decide +kernel
theorem dX6_countRepairs_19 : decode cX6_countRepairs 19 = .ok (.istore 4, 2) := by decide +kernel
theorem dX6_countRepairs_21 : decode cX6_countRepairs 21 = .ok (.iconst 1, 1) := by decide +kernel
theorem dX6_countRepairs_22 : decode cX6_countRepairs 22 = .ok (.istore 5, 2) := by decide +kernel
theorem dX6_countRepairs_24 : decode cX6_countRepairs 24 = .ok (.iload 5, 2) := by decide +kernel
theorem dX6_countRepairs_26 : decode cX6_countRepairs 26 = .ok (.iload_n 2, 1) := by decide +kernel
theorem dX6_countRepairs_27 : decode cX6_countRepairs 27 = .ok (.if_icmp .gt 103, 3) := by decide +kernel
theorem dX6_countRepairs_30 : decode cX6_countRepairs 30 = .ok (.aload_n 0, 1) := by decide +kernel
theorem dX6_countRepairs_31 : decode cX6_countRepairs 31 = .ok (.iload_n 1, 1) := by decide +kernel
theorem dX6_countRepairs_32 : decode cX6_countRepairs 32 = .ok (.iload_n 2, 1) := by decide +kernel
theorem dX6_countRepairs_33 : decode cX6_countRepairs 33 = .ok (.iload 5, 2) := by decide +kernel
theorem dX6_countRepairs_35 : decode cX6_countRepairs 35 = .ok (.isub, 1) := by decide +kernel
theorem dX6_countRepairs_36 : decode cX6_countRepairs 36 = .ok (.invokevirtual 69, 3) := by decide +kernel
theorem dX6_countRepairs_39 : decode cX6_countRepairs 39 = .ok (.istore 6, 2) := by decide +kernel
theorem dX6_countRepairs_41 : decode cX6_countRepairs 41 = .ok (.aload_n 0, 1) := by decide +kernel
theorem dX6_countRepairs_42 : decode cX6_countRepairs 42 = .ok (.getfield 9, 3) := by decide +kernel
theorem dX6_countRepairs_45 : decode cX6_countRepairs 45 = .ok (.getfield 50, 3) := by decide +kernel
theorem dX6_countRepairs_48 : decode cX6_countRepairs 48 = .ok (.iload 6, 2) := by decide +kernel
theorem dX6_countRepairs_50 : decode cX6_countRepairs 50 = .ok (.invokevirtual 54, 3) := by decide +kernel
theorem dX6_countRepairs_53 : decode cX6_countRepairs 53 = .ok (.istore 7, 2) := by decide +kernel
theorem dX6_countRepairs_55 : decode cX6_countRepairs 55 = .ok (.aload_n 0, 1) := by decide +kernel
theorem dX6_countRepairs_56 : decode cX6_countRepairs 56 = .ok (.getfield 9, 3) := by decide +kernel
theorem dX6_countRepairs_59 : decode cX6_countRepairs 59 = .ok (.getfield 37, 3) := by decide +kernel
theorem dX6_countRepairs_62 : decode cX6_countRepairs 62 = .ok (.iload 6, 2) := by decide +kernel
theorem dX6_countRepairs_64 : decode cX6_countRepairs 64 = .ok (.invokevirtual 33, 3) := by decide +kernel
theorem dX6_countRepairs_67 : decode cX6_countRepairs 67 = .ok (.istore 8, 2) := by decide +kernel
theorem dX6_countRepairs_69 : decode cX6_countRepairs 69 = .ok (.aload_n 0, 1) := by decide +kernel
theorem dX6_countRepairs_70 : decode cX6_countRepairs 70 = .ok (.getfield 9, 3) := by decide +kernel
theorem dX6_countRepairs_73 : decode cX6_countRepairs 73 = .ok (.getfield 47, 3) := by decide +kernel
theorem dX6_countRepairs_76 : decode cX6_countRepairs 76 = .ok (.iload 6, 2) := by decide +kernel
theorem dX6_countRepairs_78 : decode cX6_countRepairs 78 = .ok (.invokevirtual 33, 3) := by decide +kernel
theorem dX6_countRepairs_81 : decode cX6_countRepairs 81 = .ok (.istore 9, 2) := by decide +kernel
theorem dX6_countRepairs_83 : decode cX6_countRepairs 83 = .ok (.iload 9, 2) := by decide +kernel
theorem dX6_countRepairs_85 : decode cX6_countRepairs 85 = .ok (.iload_n 3, 1) := by decide +kernel
theorem dX6_countRepairs_86 : decode cX6_countRepairs 86 = .ok (.iload 7, 2) := by decide +kernel
theorem dX6_countRepairs_88 : decode cX6_countRepairs 88 = .ok (.iload 8, 2) := by decide +kernel
theorem dX6_countRepairs_90 : decode cX6_countRepairs 90 = .ok (.aload_n 0, 1) := by decide +kernel
theorem dX6_countRepairs_91 : decode cX6_countRepairs 91 = .ok (.getfield 9, 3) := by decide +kernel
theorem dX6_countRepairs_94 : decode cX6_countRepairs 94 = .ok (.getfield 59, 3) := by decide +kernel
theorem dX6_countRepairs_97 : decode cX6_countRepairs 97 = .ok (.iload 6, 2) := by decide +kernel
theorem dX6_countRepairs_99 : decode cX6_countRepairs 99 = .ok (.invokevirtual 33, 3) := by decide +kernel
theorem dX6_countRepairs_102 : decode cX6_countRepairs 102 = .ok (.invokestatic 62, 3) := by decide +kernel
theorem dX6_countRepairs_105 : decode cX6_countRepairs 105 = .ok (.if_icmp .eq 16, 3) := by decide +kernel
theorem dX6_countRepairs_108 : decode cX6_countRepairs 108 = .ok (.iload_n 3, 1) := by decide +kernel
theorem dX6_countRepairs_109 : decode cX6_countRepairs 109 = .ok (.iload 7, 2) := by decide +kernel
theorem dX6_countRepairs_111 : decode cX6_countRepairs 111 = .ok (.iload 8, 2) := by decide +kernel
theorem dX6_countRepairs_113 : decode cX6_countRepairs 113 = .ok (.invokestatic 73, 3) := by decide +kernel
theorem dX6_countRepairs_116 : decode cX6_countRepairs 116 = .ok (.istore 9, 2) := by decide +kernel
theorem dX6_countRepairs_118 : decode cX6_countRepairs 118 = .ok (.iinc 4 1, 3) := by decide +kernel
theorem dX6_countRepairs_121 : decode cX6_countRepairs 121 = .ok (.iload 9, 2) := by decide +kernel
theorem dX6_countRepairs_123 : decode cX6_countRepairs 123 = .ok (.istore_n 3, 1) := by decide +kernel
theorem dX6_countRepairs_124 : decode cX6_countRepairs 124 = .ok (.iinc 5 1, 3) := by decide +kernel
theorem dX6_countRepairs_127 : decode cX6_countRepairs 127 = .ok (.goto (-103), 3) := by decide +kernel
theorem dX6_countRepairs_130 : decode cX6_countRepairs 130 = .ok (.iload 4, 2) := by decide +kernel
theorem dX6_countRepairs_132 : decode cX6_countRepairs 132 = .ok (.ireturn, 1) := by decide +kernel
theorem dX6_ancestor_0 : decode cX6_ancestor 0 = .ok (.iload_n 1, 1) := by decide +kernel
theorem dX6_ancestor_1 : decode cX6_ancestor 1 = .ok (.istore_n 3, 1) := by decide +kernel
theorem dX6_ancestor_2 : decode cX6_ancestor 2 = .ok (.iconst 0, 1) := by decide +kernel
theorem dX6_ancestor_3 : decode cX6_ancestor 3 = .ok (.istore 4, 2) := by decide +kernel
theorem dX6_ancestor_5 : decode cX6_ancestor 5 = .ok (.iload 4, 2) := by decide +kernel
theorem dX6_ancestor_7 : decode cX6_ancestor 7 = .ok (.iload_n 2, 1) := by decide +kernel
theorem dX6_ancestor_8 : decode cX6_ancestor 8 = .ok (.if_icmp .ge 21, 3) := by decide +kernel
theorem dX6_ancestor_11 : decode cX6_ancestor 11 = .ok (.aload_n 0, 1) := by decide +kernel
theorem dX6_ancestor_12 : decode cX6_ancestor 12 = .ok (.getfield 9, 3) := by decide +kernel
theorem dX6_ancestor_15 : decode cX6_ancestor 15 = .ok (.getfield 30, 3) := by decide +kernel
theorem dX6_ancestor_18 : decode cX6_ancestor 18 = .ok (.iload_n 3, 1) := by decide +kernel
theorem dX6_ancestor_19 : decode cX6_ancestor 19 = .ok (.invokevirtual 33, 3) := by decide +kernel
theorem dX6_ancestor_22 : decode cX6_ancestor 22 = .ok (.istore_n 3, 1) := by decide +kernel
theorem dX6_ancestor_23 : decode cX6_ancestor 23 = .ok (.iinc 4 1, 3) := by decide +kernel
theorem dX6_ancestor_26 : decode cX6_ancestor 26 = .ok (.goto (-21), 3) := by decide +kernel
theorem dX6_ancestor_29 : decode cX6_ancestor 29 = .ok (.iload_n 3, 1) := by decide +kernel
theorem dX6_ancestor_30 : decode cX6_ancestor 30 = .ok (.ireturn, 1) := by decide +kernel
theorem dX6_reaches_0 : decode cX6_reaches 0 = .ok (.iload_n 1, 1) := by decide +kernel
theorem dX6_reaches_1 : decode cX6_reaches 1 = .ok (.istore_n 3, 1) := by decide +kernel
theorem dX6_reaches_2 : decode cX6_reaches 2 = .ok (.iconst 0, 1) := by decide +kernel
theorem dX6_reaches_3 : decode cX6_reaches 3 = .ok (.istore 4, 2) := by decide +kernel
theorem dX6_reaches_5 : decode cX6_reaches 5 = .ok (.iload_n 3, 1) := by decide +kernel
theorem dX6_reaches_6 : decode cX6_reaches 6 = .ok (.iconst (-1), 1) := by decide +kernel
theorem dX6_reaches_7 : decode cX6_reaches 7 = .ok (.if_icmp .eq 35, 3) := by decide +kernel
theorem dX6_reaches_10 : decode cX6_reaches 10 = .ok (.iload 4, 2) := by decide +kernel
theorem dX6_reaches_12 : decode cX6_reaches 12 = .ok (.bipush 16, 2) := by decide +kernel
theorem dX6_reaches_14 : decode cX6_reaches 14 = .ok (.if_icmp .ge 28, 3) := by decide +kernel
theorem dX6_reaches_17 : decode cX6_reaches 17 = .ok (.iload_n 3, 1) := by decide +kernel
theorem dX6_reaches_18 : decode cX6_reaches 18 = .ok (.iload_n 2, 1) := by decide +kernel
theorem dX6_reaches_19 : decode cX6_reaches 19 = .ok (.if_icmp .ne 5, 3) := by decide +kernel
theorem dX6_reaches_22 : decode cX6_reaches 22 = .ok (.iconst 1, 1) := by decide +kernel
theorem dX6_reaches_23 : decode cX6_reaches 23 = .ok (.ireturn, 1) := by decide +kernel
theorem dX6_reaches_24 : decode cX6_reaches 24 = .ok (.aload_n 0, 1) := by decide +kernel
theorem dX6_reaches_25 : decode cX6_reaches 25 = .ok (.getfield 9, 3) := by decide +kernel
theorem dX6_reaches_28 : decode cX6_reaches 28 = .ok (.getfield 30, 3) := by decide +kernel
theorem dX6_reaches_31 : decode cX6_reaches 31 = .ok (.iload_n 3, 1) := by decide +kernel
theorem dX6_reaches_32 : decode cX6_reaches 32 = .ok (.invokevirtual 33, 3) := by decide +kernel
theorem dX6_reaches_35 : decode cX6_reaches 35 = .ok (.istore_n 3, 1) := by decide +kernel
theorem dX6_reaches_36 : decode cX6_reaches 36 = .ok (.iinc 4 1, 3) := by decide +kernel
theorem dX6_reaches_39 : decode cX6_reaches 39 = .ok (.goto (-34), 3) := by decide +kernel
theorem dX6_reaches_42 : decode cX6_reaches 42 = .ok (.iconst 0, 1) := by decide +kernel
theorem dX6_reaches_43 : decode cX6_reaches 43 = .ok (.ireturn, 1) := by decide +kernel
theorem dX6_countReaching_0 : decode cX6_countReaching 0 = .ok (.iconst 0, 1) := by decide +kernel
theorem dX6_countReaching_1 : decode cX6_countReaching 1 = .ok (.istore_n 2, 1) := by decide +kernel
theorem dX6_countReaching_2 : decode cX6_countReaching 2 = .ok (.iconst 0, 1) := by decide +kernel
theorem dX6_countReaching_3 : decode cX6_countReaching 3 = .ok (.istore_n 3, 1) := by decide +kernel
theorem dX6_countReaching_4 : decode cX6_countReaching 4 = .ok (.iload_n 3, 1) := by decide +kernel
theorem dX6_countReaching_5 : decode cX6_countReaching 5 = .ok (.bipush 16, 2) := by decide +kernel
theorem dX6_countReaching_7 : decode cX6_countReaching 7 = .ok (.if_icmp .ge 21, 3) := by decide +kernel
theorem dX6_countReaching_10 : decode cX6_countReaching 10 = .ok (.aload_n 0, 1) := by decide +kernel
theorem dX6_countReaching_11 : decode cX6_countReaching 11 = .ok (.iload_n 3, 1) := by decide +kernel
theorem dX6_countReaching_12 : decode cX6_countReaching 12 = .ok (.iload_n 1, 1) := by decide +kernel
theorem dX6_countReaching_13 : decode cX6_countReaching 13 = .ok (.invokevirtual 77, 3) := by decide +kernel
theorem dX6_countReaching_16 : decode cX6_countReaching 16 = .ok (.ifCond .eq 6, 3) := by decide +kernel
theorem dX6_countReaching_19 : decode cX6_countReaching 19 = .ok (.iinc 2 1, 3) := by decide +kernel
theorem dX6_countReaching_22 : decode cX6_countReaching 22 = .ok (.iinc 3 1, 3) := by decide +kernel
theorem dX6_countReaching_25 : decode cX6_countReaching 25 = .ok (.goto (-21), 3) := by decide +kernel
theorem dX6_countReaching_28 : decode cX6_countReaching 28 = .ok (.iload_n 2, 1) := by decide +kernel
theorem dX6_countReaching_29 : decode cX6_countReaching 29 = .ok (.ireturn, 1) := by decide +kernel
theorem dX6_fork_0 : decode cX6_fork 0 = .ok (.iload_n 1, 1) := by decide +kernel
theorem dX6_fork_1 : decode cX6_fork 1 = .ok (.istore_n 3, 1) := by decide +kernel
theorem dX6_fork_2 : decode cX6_fork 2 = .ok (.iconst 0, 1) := by decide +kernel
theorem dX6_fork_3 : decode cX6_fork 3 = .ok (.istore 4, 2) := by decide +kernel
theorem dX6_fork_5 : decode cX6_fork 5 = .ok (.iload_n 3, 1) := by decide +kernel
theorem dX6_fork_6 : decode cX6_fork 6 = .ok (.iconst (-1), 1) := by decide +kernel
theorem dX6_fork_7 : decode cX6_fork 7 = .ok (.if_icmp .eq 39, 3) := by decide +kernel
theorem dX6_fork_10 : decode cX6_fork 10 = .ok (.iload 4, 2) := by decide +kernel
theorem dX6_fork_12 : decode cX6_fork 12 = .ok (.bipush 16, 2) := by decide +kernel
theorem dX6_fork_14 : decode cX6_fork 14 = .ok (.if_icmp .ge 32, 3) := by decide +kernel
theorem dX6_fork_17 : decode cX6_fork 17 = .ok (.aload_n 0, 1) := by decide +kernel
theorem dX6_fork_18 : decode cX6_fork 18 = .ok (.iload_n 2, 1) := by decide +kernel
theorem dX6_fork_19 : decode cX6_fork 19 = .ok (.iload_n 3, 1) := by decide +kernel
theorem dX6_fork_20 : decode cX6_fork 20 = .ok (.invokevirtual 77, 3) := by decide +kernel
theorem dX6_fork_23 : decode cX6_fork 23 = .ok (.ifCond .eq 5, 3) := by decide +kernel
theorem dX6_fork_26 : decode cX6_fork 26 = .ok (.iload_n 3, 1) := by decide +kernel
theorem dX6_fork_27 : decode cX6_fork 27 = .ok (.ireturn, 1) := by decide +kernel
theorem dX6_fork_28 : decode cX6_fork 28 = .ok (.aload_n 0, 1) := by decide +kernel
theorem dX6_fork_29 : decode cX6_fork 29 = .ok (.getfield 9, 3) := by decide +kernel
theorem dX6_fork_32 : decode cX6_fork 32 = .ok (.getfield 30, 3) := by decide +kernel
theorem dX6_fork_35 : decode cX6_fork 35 = .ok (.iload_n 3, 1) := by decide +kernel
theorem dX6_fork_36 : decode cX6_fork 36 = .ok (.invokevirtual 33, 3) := by decide +kernel
theorem dX6_fork_39 : decode cX6_fork 39 = .ok (.istore_n 3, 1) := by decide +kernel
theorem dX6_fork_40 : decode cX6_fork 40 = .ok (.iinc 4 1, 3) := by decide +kernel
theorem dX6_fork_43 : decode cX6_fork 43 = .ok (.goto (-38), 3) := by decide +kernel
theorem dX6_fork_46 : decode cX6_fork 46 = .ok (.iconst 0, 1) := by decide +kernel
theorem dX6_fork_47 : decode cX6_fork 47 = .ok (.ireturn, 1) := by decide +kernel
theorem dX6_countCommonFlakes_0 : decode cX6_countCommonFlakes 0 = .ok (.aload_n 0, 1) := by decide +kernel
theorem dX6_countCommonFlakes_1 : decode cX6_countCommonFlakes 1 = .ok (.getfield 20, 3) := by decide +kernel
theorem dX6_countCommonFlakes_4 : decode cX6_countCommonFlakes 4 = .ok (.iconst 0, 1) := by decide +kernel
theorem dX6_countCommonFlakes_5 : decode cX6_countCommonFlakes 5 = .ok (.invokevirtual 81, 3) := by decide +kernel
theorem dX6_countCommonFlakes_8 : decode cX6_countCommonFlakes 8 = .ok (.aload_n 0, 1) := by decide +kernel
theorem dX6_countCommonFlakes_9 : decode cX6_countCommonFlakes 9 = .ok (.iload_n 1, 1) := by decide +kernel
theorem dX6_countCommonFlakes_10 : decode cX6_countCommonFlakes 10 = .ok (.iconst 1, 1) := by decide +kernel
theorem dX6_countCommonFlakes_11 : decode cX6_countCommonFlakes 11 = .ok (.invokevirtual 85, 3) := by decide +kernel
theorem dX6_countCommonFlakes_14 : decode cX6_countCommonFlakes 14 = .ok (.aload_n 0, 1) := by decide +kernel
theorem dX6_countCommonFlakes_15 : decode cX6_countCommonFlakes 15 = .ok (.iload_n 2, 1) := by decide +kernel
theorem dX6_countCommonFlakes_16 : decode cX6_countCommonFlakes 16 = .ok (.iconst 2, 1) := by decide +kernel
theorem dX6_countCommonFlakes_17 : decode cX6_countCommonFlakes 17 = .ok (.invokevirtual 85, 3) := by decide +kernel
theorem dX6_countCommonFlakes_20 : decode cX6_countCommonFlakes 20 = .ok (.iconst 0, 1) := by decide +kernel
theorem dX6_countCommonFlakes_21 : decode cX6_countCommonFlakes 21 = .ok (.istore_n 3, 1) := by decide +kernel
theorem dX6_countCommonFlakes_22 : decode cX6_countCommonFlakes 22 = .ok (.iconst 0, 1) := by decide +kernel
theorem dX6_countCommonFlakes_23 : decode cX6_countCommonFlakes 23 = .ok (.istore 4, 2) := by decide +kernel
theorem dX6_countCommonFlakes_25 : decode cX6_countCommonFlakes 25 = .ok (.iload 4, 2) := by decide +kernel
theorem dX6_countCommonFlakes_27 : decode cX6_countCommonFlakes 27 = .ok (.bipush 100, 2) := by decide +kernel
theorem dX6_countCommonFlakes_29 : decode cX6_countCommonFlakes 29 = .ok (.if_icmp .ge 25, 3) := by decide +kernel
theorem dX6_countCommonFlakes_32 : decode cX6_countCommonFlakes 32 = .ok (.aload_n 0, 1) := by decide +kernel
theorem dX6_countCommonFlakes_33 : decode cX6_countCommonFlakes 33 = .ok (.getfield 20, 3) := by decide +kernel
theorem dX6_countCommonFlakes_36 : decode cX6_countCommonFlakes 36 = .ok (.iload 4, 2) := by decide +kernel
theorem dX6_countCommonFlakes_38 : decode cX6_countCommonFlakes 38 = .ok (.invokevirtual 33, 3) := by decide +kernel
theorem dX6_countCommonFlakes_41 : decode cX6_countCommonFlakes 41 = .ok (.iconst 3, 1) := by decide +kernel
theorem dX6_countCommonFlakes_42 : decode cX6_countCommonFlakes 42 = .ok (.if_icmp .ne 6, 3) := by decide +kernel
theorem dX6_countCommonFlakes_45 : decode cX6_countCommonFlakes 45 = .ok (.iinc 3 1, 3) := by decide +kernel
theorem dX6_countCommonFlakes_48 : decode cX6_countCommonFlakes 48 = .ok (.iinc 4 1, 3) := by decide +kernel
theorem dX6_countCommonFlakes_51 : decode cX6_countCommonFlakes 51 = .ok (.goto (-26), 3) := by decide +kernel
theorem dX6_countCommonFlakes_54 : decode cX6_countCommonFlakes 54 = .ok (.iload_n 3, 1) := by decide +kernel
theorem dX6_countCommonFlakes_55 : decode cX6_countCommonFlakes 55 = .ok (.ireturn, 1) := by decide +kernel
theorem dX6_markFlakes_0 : decode cX6_markFlakes 0 = .ok (.iload_n 1, 1) := by decide +kernel
theorem dX6_markFlakes_1 : decode cX6_markFlakes 1 = .ok (.istore_n 3, 1) := by decide +kernel
theorem dX6_markFlakes_2 : decode cX6_markFlakes 2 = .ok (.iconst 0, 1) := by decide +kernel
theorem dX6_markFlakes_3 : decode cX6_markFlakes 3 = .ok (.istore 4, 2) := by decide +kernel
theorem dX6_markFlakes_5 : decode cX6_markFlakes 5 = .ok (.iload_n 3, 1) := by decide +kernel
theorem dX6_markFlakes_6 : decode cX6_markFlakes 6 = .ok (.iconst (-1), 1) := by decide +kernel
theorem dX6_markFlakes_7 : decode cX6_markFlakes 7 = .ok (.if_icmp .eq 92, 3) := by decide +kernel
theorem dX6_markFlakes_10 : decode cX6_markFlakes 10 = .ok (.iload 4, 2) := by decide +kernel
theorem dX6_markFlakes_12 : decode cX6_markFlakes 12 = .ok (.bipush 16, 2) := by decide +kernel
theorem dX6_markFlakes_14 : decode cX6_markFlakes 14 = .ok (.if_icmp .ge 85, 3) := by decide +kernel
theorem dX6_markFlakes_17 : decode cX6_markFlakes 17 = .ok (.aload_n 0, 1) := by decide +kernel
theorem dX6_markFlakes_18 : decode cX6_markFlakes 18 = .ok (.getfield 9, 3) := by decide +kernel
theorem dX6_markFlakes_21 : decode cX6_markFlakes 21 = .ok (.getfield 50, 3) := by decide +kernel
theorem dX6_markFlakes_24 : decode cX6_markFlakes 24 = .ok (.iload_n 3, 1) := by decide +kernel
theorem dX6_markFlakes_25 : decode cX6_markFlakes 25 = .ok (.invokevirtual 88, 3) := by decide +kernel
theorem dX6_markFlakes_28 : decode cX6_markFlakes 28 = .ok (.istore 5, 2) := by decide +kernel
theorem dX6_markFlakes_30 : decode cX6_markFlakes 30 = .ok (.iconst 0, 1) := by decide +kernel
theorem dX6_markFlakes_31 : decode cX6_markFlakes 31 = .ok (.istore 6, 2) := by decide +kernel
theorem dX6_markFlakes_33 : decode cX6_markFlakes 33 = .ok (.iload 6, 2) := by decide +kernel
theorem dX6_markFlakes_35 : decode cX6_markFlakes 35 = .ok (.iload 5, 2) := by decide +kernel
theorem dX6_markFlakes_37 : decode cX6_markFlakes 37 = .ok (.if_icmp .ge 44, 3) := by decide +kernel
theorem dX6_markFlakes_40 : decode cX6_markFlakes 40 = .ok (.aload_n 0, 1) := by decide +kernel
theorem dX6_markFlakes_41 : decode cX6_markFlakes 41 = .ok (.getfield 9, 3) := by decide +kernel
theorem dX6_markFlakes_44 : decode cX6_markFlakes 44 = .ok (.getfield 50, 3) := by decide +kernel
theorem dX6_markFlakes_47 : decode cX6_markFlakes 47 = .ok (.iload_n 3, 1) := by decide +kernel
theorem dX6_markFlakes_48 : decode cX6_markFlakes 48 = .ok (.iload 6, 2) := by decide +kernel
theorem dX6_markFlakes_50 : decode cX6_markFlakes 50 = .ok (.invokevirtual 91, 3) := by decide +kernel
theorem dX6_markFlakes_53 : decode cX6_markFlakes 53 = .ok (.istore 7, 2) := by decide +kernel
theorem dX6_markFlakes_55 : decode cX6_markFlakes 55 = .ok (.aload_n 0, 1) := by decide +kernel
theorem dX6_markFlakes_56 : decode cX6_markFlakes 56 = .ok (.getfield 20, 3) := by decide +kernel
theorem dX6_markFlakes_59 : decode cX6_markFlakes 59 = .ok (.iload 7, 2) := by decide +kernel
theorem dX6_markFlakes_61 : decode cX6_markFlakes 61 = .ok (.aload_n 0, 1) := by decide +kernel
theorem dX6_markFlakes_62 : decode cX6_markFlakes 62 = .ok (.getfield 20, 3) := by decide +kernel
theorem dX6_markFlakes_65 : decode cX6_markFlakes 65 = .ok (.iload 7, 2) := by decide +kernel
theorem dX6_markFlakes_67 : decode cX6_markFlakes 67 = .ok (.invokevirtual 33, 3) := by decide +kernel
theorem dX6_markFlakes_70 : decode cX6_markFlakes 70 = .ok (.iload_n 2, 1) := by decide +kernel
theorem dX6_markFlakes_71 : decode cX6_markFlakes 71 = .ok (.ior, 1) := by decide +kernel
theorem dX6_markFlakes_72 : decode cX6_markFlakes 72 = .ok (.invokevirtual 94, 3) := by decide +kernel
theorem dX6_markFlakes_75 : decode cX6_markFlakes 75 = .ok (.iinc 6 1, 3) := by decide +kernel
theorem dX6_markFlakes_78 : decode cX6_markFlakes 78 = .ok (.goto (-45), 3) := by decide +kernel
theorem dX6_markFlakes_81 : decode cX6_markFlakes 81 = .ok (.aload_n 0, 1) := by decide +kernel
theorem dX6_markFlakes_82 : decode cX6_markFlakes 82 = .ok (.getfield 9, 3) := by decide +kernel
theorem dX6_markFlakes_85 : decode cX6_markFlakes 85 = .ok (.getfield 30, 3) := by decide +kernel
theorem dX6_markFlakes_88 : decode cX6_markFlakes 88 = .ok (.iload_n 3, 1) := by decide +kernel
theorem dX6_markFlakes_89 : decode cX6_markFlakes 89 = .ok (.invokevirtual 33, 3) := by decide +kernel
theorem dX6_markFlakes_92 : decode cX6_markFlakes 92 = .ok (.istore_n 3, 1) := by decide +kernel
theorem dX6_markFlakes_93 : decode cX6_markFlakes 93 = .ok (.iinc 4 1, 3) := by decide +kernel
theorem dX6_markFlakes_96 : decode cX6_markFlakes 96 = .ok (.goto (-91), 3) := by decide +kernel
theorem dX6_markFlakes_99 : decode cX6_markFlakes 99 = .ok (.return_, 1) := by decide +kernel
theorem dX6_isTip_0 : decode cX6_isTip 0 = .ok (.aload_n 0, 1) := by decide +kernel
theorem dX6_isTip_1 : decode cX6_isTip 1 = .ok (.getfield 9, 3) := by decide +kernel
theorem dX6_isTip_4 : decode cX6_isTip 4 = .ok (.iload_n 1, 1) := by decide +kernel
theorem dX6_isTip_5 : decode cX6_isTip 5 = .ok (.invokevirtual 24, 3) := by decide +kernel
theorem dX6_isTip_8 : decode cX6_isTip 8 = .ok (.ifCond .eq 15, 3) := by decide +kernel
theorem dX6_isTip_11 : decode cX6_isTip 11 = .ok (.aload_n 0, 1) := by decide +kernel
theorem dX6_isTip_12 : decode cX6_isTip 12 = .ok (.iload_n 1, 1) := by decide +kernel
theorem dX6_isTip_13 : decode cX6_isTip 13 = .ok (.invokevirtual 106, 3) := by decide +kernel
theorem dX6_isTip_16 : decode cX6_isTip 16 = .ok (.ifCond .ne 7, 3) := by decide +kernel
theorem dX6_isTip_19 : decode cX6_isTip 19 = .ok (.iconst 1, 1) := by decide +kernel
theorem dX6_isTip_20 : decode cX6_isTip 20 = .ok (.goto 4, 3) := by decide +kernel
theorem dX6_isTip_23 : decode cX6_isTip 23 = .ok (.iconst 0, 1) := by decide +kernel
theorem dX6_isTip_24 : decode cX6_isTip 24 = .ok (.ireturn, 1) := by decide +kernel
theorem dX6_countTips_0 : decode cX6_countTips 0 = .ok (.iconst 0, 1) := by decide +kernel
theorem dX6_countTips_1 : decode cX6_countTips 1 = .ok (.istore_n 1, 1) := by decide +kernel
theorem dX6_countTips_2 : decode cX6_countTips 2 = .ok (.iconst 0, 1) := by decide +kernel
theorem dX6_countTips_3 : decode cX6_countTips 3 = .ok (.istore_n 2, 1) := by decide +kernel
theorem dX6_countTips_4 : decode cX6_countTips 4 = .ok (.iload_n 2, 1) := by decide +kernel
theorem dX6_countTips_5 : decode cX6_countTips 5 = .ok (.bipush 16, 2) := by decide +kernel
theorem dX6_countTips_7 : decode cX6_countTips 7 = .ok (.if_icmp .ge 20, 3) := by decide +kernel
theorem dX6_countTips_10 : decode cX6_countTips 10 = .ok (.aload_n 0, 1) := by decide +kernel
theorem dX6_countTips_11 : decode cX6_countTips 11 = .ok (.iload_n 2, 1) := by decide +kernel
theorem dX6_countTips_12 : decode cX6_countTips 12 = .ok (.invokevirtual 109, 3) := by decide +kernel
theorem dX6_countTips_15 : decode cX6_countTips 15 = .ok (.ifCond .eq 6, 3) := by decide +kernel
theorem dX6_countTips_18 : decode cX6_countTips 18 = .ok (.iinc 1 1, 3) := by decide +kernel
theorem dX6_countTips_21 : decode cX6_countTips 21 = .ok (.iinc 2 1, 3) := by decide +kernel
theorem dX6_countTips_24 : decode cX6_countTips 24 = .ok (.goto (-20), 3) := by decide +kernel
theorem dX6_countTips_27 : decode cX6_countTips 27 = .ok (.iload_n 1, 1) := by decide +kernel
theorem dX6_countTips_28 : decode cX6_countTips 28 = .ok (.ireturn, 1) := by decide +kernel
theorem dX6_sumOfTipHeights_0 : decode cX6_sumOfTipHeights 0 = .ok (.iconst 0, 1) := by decide +kernel
theorem dX6_sumOfTipHeights_1 : decode cX6_sumOfTipHeights 1 = .ok (.istore_n 1, 1) := by decide +kernel
theorem dX6_sumOfTipHeights_2 : decode cX6_sumOfTipHeights 2 = .ok (.iconst 0, 1) := by decide +kernel
theorem dX6_sumOfTipHeights_3 : decode cX6_sumOfTipHeights 3 = .ok (.istore_n 2, 1) := by decide +kernel
theorem dX6_sumOfTipHeights_4 : decode cX6_sumOfTipHeights 4 = .ok (.iload_n 2, 1) := by decide +kernel
theorem dX6_sumOfTipHeights_5 : decode cX6_sumOfTipHeights 5 = .ok (.bipush 16, 2) := by decide +kernel
theorem dX6_sumOfTipHeights_7 : decode cX6_sumOfTipHeights 7 = .ok (.if_icmp .ge 25, 3) := by decide +kernel
theorem dX6_sumOfTipHeights_10 : decode cX6_sumOfTipHeights 10 = .ok (.aload_n 0, 1) := by decide +kernel
theorem dX6_sumOfTipHeights_11 : decode cX6_sumOfTipHeights 11 = .ok (.iload_n 2, 1) := by decide +kernel
theorem dX6_sumOfTipHeights_12 : decode cX6_sumOfTipHeights 12 = .ok (.invokevirtual 109, 3) := by decide +kernel
theorem dX6_sumOfTipHeights_15 : decode cX6_sumOfTipHeights 15 = .ok (.ifCond .eq 11, 3) := by decide +kernel
theorem dX6_sumOfTipHeights_18 : decode cX6_sumOfTipHeights 18 = .ok (.iload_n 1, 1) := by decide +kernel
theorem dX6_sumOfTipHeights_19 : decode cX6_sumOfTipHeights 19 = .ok (.aload_n 0, 1) := by decide +kernel
theorem dX6_sumOfTipHeights_20 : decode cX6_sumOfTipHeights 20 = .ok (.iload_n 2, 1) := by decide +kernel
theorem dX6_sumOfTipHeights_21 : decode cX6_sumOfTipHeights 21 = .ok (.invokevirtual 44, 3) := by decide +kernel
theorem dX6_sumOfTipHeights_24 : decode cX6_sumOfTipHeights 24 = .ok (.iadd, 1) := by decide +kernel
theorem dX6_sumOfTipHeights_25 : decode cX6_sumOfTipHeights 25 = .ok (.istore_n 1, 1) := by decide +kernel
theorem dX6_sumOfTipHeights_26 : decode cX6_sumOfTipHeights 26 = .ok (.iinc 2 1, 3) := by decide +kernel
theorem dX6_sumOfTipHeights_29 : decode cX6_sumOfTipHeights 29 = .ok (.goto (-25), 3) := by decide +kernel
theorem dX6_sumOfTipHeights_32 : decode cX6_sumOfTipHeights 32 = .ok (.iload_n 1, 1) := by decide +kernel
theorem dX6_sumOfTipHeights_33 : decode cX6_sumOfTipHeights 33 = .ok (.ireturn, 1) := by decide +kernel
theorem dX6_tipRanked_0 : decode cX6_tipRanked 0 = .ok (.iconst 0, 1) := by decide +kernel
theorem dX6_tipRanked_1 : decode cX6_tipRanked 1 = .ok (.istore_n 2, 1) := by decide +kernel
theorem dX6_tipRanked_2 : decode cX6_tipRanked 2 = .ok (.iload_n 2, 1) := by decide +kernel
theorem dX6_tipRanked_3 : decode cX6_tipRanked 3 = .ok (.bipush 16, 2) := by decide +kernel
theorem dX6_tipRanked_5 : decode cX6_tipRanked 5 = .ok (.if_icmp .ge 28, 3) := by decide +kernel
theorem dX6_tipRanked_8 : decode cX6_tipRanked 8 = .ok (.aload_n 0, 1) := by decide +kernel
theorem dX6_tipRanked_9 : decode cX6_tipRanked 9 = .ok (.iload_n 2, 1) := by decide +kernel
theorem dX6_tipRanked_10 : decode cX6_tipRanked 10 = .ok (.invokevirtual 109, 3) := by decide +kernel
theorem dX6_tipRanked_13 : decode cX6_tipRanked 13 = .ok (.ifCond .eq 14, 3) := by decide +kernel
theorem dX6_tipRanked_16 : decode cX6_tipRanked 16 = .ok (.aload_n 0, 1) := by decide +kernel
theorem dX6_tipRanked_17 : decode cX6_tipRanked 17 = .ok (.iload_n 2, 1) := by decide +kernel
theorem dX6_tipRanked_18 : decode cX6_tipRanked 18 = .ok (.invokevirtual 112, 3) := by decide +kernel
theorem dX6_tipRanked_21 : decode cX6_tipRanked 21 = .ok (.iload_n 1, 1) := by decide +kernel
theorem dX6_tipRanked_22 : decode cX6_tipRanked 22 = .ok (.if_icmp .ne 5, 3) := by decide +kernel
theorem dX6_tipRanked_25 : decode cX6_tipRanked 25 = .ok (.iload_n 2, 1) := by decide +kernel
theorem dX6_tipRanked_26 : decode cX6_tipRanked 26 = .ok (.ireturn, 1) := by decide +kernel
theorem dX6_tipRanked_27 : decode cX6_tipRanked 27 = .ok (.iinc 2 1, 3) := by decide +kernel
theorem dX6_tipRanked_30 : decode cX6_tipRanked 30 = .ok (.goto (-28), 3) := by decide +kernel
theorem dX6_tipRanked_33 : decode cX6_tipRanked 33 = .ok (.iconst (-1), 1) := by decide +kernel
theorem dX6_tipRanked_34 : decode cX6_tipRanked 34 = .ok (.ireturn, 1) := by decide +kernel
theorem dX6_countTipsBefore_0 : decode cX6_countTipsBefore 0 = .ok (.iconst 0, 1) := by decide +kernel
theorem dX6_countTipsBefore_1 : decode cX6_countTipsBefore 1 = .ok (.istore_n 2, 1) := by decide +kernel
theorem dX6_countTipsBefore_2 : decode cX6_countTipsBefore 2 = .ok (.iconst 0, 1) := by decide +kernel
theorem dX6_countTipsBefore_3 : decode cX6_countTipsBefore 3 = .ok (.istore_n 3, 1) := by decide +kernel
theorem dX6_countTipsBefore_4 : decode cX6_countTipsBefore 4 = .ok (.iload_n 3, 1) := by decide +kernel
theorem dX6_countTipsBefore_5 : decode cX6_countTipsBefore 5 = .ok (.bipush 16, 2) := by decide +kernel
theorem dX6_countTipsBefore_7 : decode cX6_countTipsBefore 7 = .ok (.if_icmp .ge 29, 3) := by decide +kernel
theorem dX6_countTipsBefore_10 : decode cX6_countTipsBefore 10 = .ok (.aload_n 0, 1) := by decide +kernel
theorem dX6_countTipsBefore_11 : decode cX6_countTipsBefore 11 = .ok (.iload_n 3, 1) := by decide +kernel
theorem dX6_countTipsBefore_12 : decode cX6_countTipsBefore 12 = .ok (.invokevirtual 109, 3) := by decide +kernel
theorem dX6_countTipsBefore_15 : decode cX6_countTipsBefore 15 = .ok (.ifCond .eq 15, 3) := by decide +kernel
theorem dX6_countTipsBefore_18 : decode cX6_countTipsBefore 18 = .ok (.aload_n 0, 1) := by decide +kernel
theorem dX6_countTipsBefore_19 : decode cX6_countTipsBefore 19 = .ok (.iload_n 3, 1) := by decide +kernel
theorem dX6_countTipsBefore_20 : decode cX6_countTipsBefore 20 = .ok (.iload_n 1, 1) := by decide +kernel
theorem dX6_countTipsBefore_21 : decode cX6_countTipsBefore 21 = .ok (.invokevirtual 115, 3) := by decide +kernel
theorem dX6_countTipsBefore_24 : decode cX6_countTipsBefore 24 = .ok (.ifCond .eq 6, 3) := by decide +kernel
theorem dX6_countTipsBefore_27 : decode cX6_countTipsBefore 27 = .ok (.iinc 2 1, 3) := by decide +kernel
theorem dX6_countTipsBefore_30 : decode cX6_countTipsBefore 30 = .ok (.iinc 3 1, 3) := by decide +kernel
theorem dX6_countTipsBefore_33 : decode cX6_countTipsBefore 33 = .ok (.goto (-29), 3) := by decide +kernel
theorem dX6_countTipsBefore_36 : decode cX6_countTipsBefore 36 = .ok (.iload_n 2, 1) := by decide +kernel
theorem dX6_countTipsBefore_37 : decode cX6_countTipsBefore 37 = .ok (.ireturn, 1) := by decide +kernel
theorem dX6_ranksBefore_0 : decode cX6_ranksBefore 0 = .ok (.aload_n 0, 1) := by decide +kernel
theorem dX6_ranksBefore_1 : decode cX6_ranksBefore 1 = .ok (.iload_n 1, 1) := by decide +kernel
theorem dX6_ranksBefore_2 : decode cX6_ranksBefore 2 = .ok (.invokevirtual 44, 3) := by decide +kernel
theorem dX6_ranksBefore_5 : decode cX6_ranksBefore 5 = .ok (.istore_n 3, 1) := by decide +kernel
theorem dX6_ranksBefore_6 : decode cX6_ranksBefore 6 = .ok (.aload_n 0, 1) := by decide +kernel
theorem dX6_ranksBefore_7 : decode cX6_ranksBefore 7 = .ok (.iload_n 2, 1) := by decide +kernel
theorem dX6_ranksBefore_8 : decode cX6_ranksBefore 8 = .ok (.invokevirtual 44, 3) := by decide +kernel
theorem dX6_ranksBefore_11 : decode cX6_ranksBefore 11 = .ok (.istore 4, 2) := by decide +kernel
theorem dX6_ranksBefore_13 : decode cX6_ranksBefore 13 = .ok (.iload_n 3, 1) := by decide +kernel
theorem dX6_ranksBefore_14 : decode cX6_ranksBefore 14 = .ok (.iload 4, 2) := by decide +kernel
theorem dX6_ranksBefore_16 : decode cX6_ranksBefore 16 = .ok (.if_icmp .eq 15, 3) := by decide +kernel
theorem dX6_ranksBefore_19 : decode cX6_ranksBefore 19 = .ok (.iload_n 3, 1) := by decide +kernel
theorem dX6_ranksBefore_20 : decode cX6_ranksBefore 20 = .ok (.iload 4, 2) := by decide +kernel
theorem dX6_ranksBefore_22 : decode cX6_ranksBefore 22 = .ok (.if_icmp .le 7, 3) := by decide +kernel
theorem dX6_ranksBefore_25 : decode cX6_ranksBefore 25 = .ok (.iconst 1, 1) := by decide +kernel
theorem dX6_ranksBefore_26 : decode cX6_ranksBefore 26 = .ok (.goto 4, 3) := by decide +kernel
theorem dX6_ranksBefore_29 : decode cX6_ranksBefore 29 = .ok (.iconst 0, 1) := by decide +kernel
theorem dX6_ranksBefore_30 : decode cX6_ranksBefore 30 = .ok (.ireturn, 1) := by decide +kernel
theorem dX6_ranksBefore_31 : decode cX6_ranksBefore 31 = .ok (.aload_n 0, 1) := by decide +kernel
theorem dX6_ranksBefore_32 : decode cX6_ranksBefore 32 = .ok (.getfield 9, 3) := by decide +kernel
theorem dX6_ranksBefore_35 : decode cX6_ranksBefore 35 = .ok (.getfield 47, 3) := by decide +kernel
theorem dX6_ranksBefore_38 : decode cX6_ranksBefore 38 = .ok (.iload_n 1, 1) := by decide +kernel
theorem dX6_ranksBefore_39 : decode cX6_ranksBefore 39 = .ok (.invokevirtual 33, 3) := by decide +kernel
theorem dX6_ranksBefore_42 : decode cX6_ranksBefore 42 = .ok (.aload_n 0, 1) := by decide +kernel
theorem dX6_ranksBefore_43 : decode cX6_ranksBefore 43 = .ok (.getfield 9, 3) := by decide +kernel
theorem dX6_ranksBefore_46 : decode cX6_ranksBefore 46 = .ok (.getfield 47, 3) := by decide +kernel
theorem dX6_ranksBefore_49 : decode cX6_ranksBefore 49 = .ok (.iload_n 2, 1) := by decide +kernel
theorem dX6_ranksBefore_50 : decode cX6_ranksBefore 50 = .ok (.invokevirtual 33, 3) := by decide +kernel
theorem dX6_ranksBefore_53 : decode cX6_ranksBefore 53 = .ok (.if_icmp .eq 34, 3) := by decide +kernel
theorem dX6_ranksBefore_56 : decode cX6_ranksBefore 56 = .ok (.aload_n 0, 1) := by decide +kernel
theorem dX6_ranksBefore_57 : decode cX6_ranksBefore 57 = .ok (.getfield 9, 3) := by decide +kernel
theorem dX6_ranksBefore_60 : decode cX6_ranksBefore 60 = .ok (.getfield 47, 3) := by decide +kernel
theorem dX6_ranksBefore_63 : decode cX6_ranksBefore 63 = .ok (.iload_n 1, 1) := by decide +kernel
theorem dX6_ranksBefore_64 : decode cX6_ranksBefore 64 = .ok (.invokevirtual 33, 3) := by decide +kernel
theorem dX6_ranksBefore_67 : decode cX6_ranksBefore 67 = .ok (.aload_n 0, 1) := by decide +kernel
theorem dX6_ranksBefore_68 : decode cX6_ranksBefore 68 = .ok (.getfield 9, 3) := by decide +kernel
theorem dX6_ranksBefore_71 : decode cX6_ranksBefore 71 = .ok (.getfield 47, 3) := by decide +kernel
theorem dX6_ranksBefore_74 : decode cX6_ranksBefore 74 = .ok (.iload_n 2, 1) := by decide +kernel
theorem dX6_ranksBefore_75 : decode cX6_ranksBefore 75 = .ok (.invokevirtual 33, 3) := by decide +kernel
theorem dX6_ranksBefore_78 : decode cX6_ranksBefore 78 = .ok (.if_icmp .ge 7, 3) := by decide +kernel
theorem dX6_ranksBefore_81 : decode cX6_ranksBefore 81 = .ok (.iconst 1, 1) := by decide +kernel
theorem dX6_ranksBefore_82 : decode cX6_ranksBefore 82 = .ok (.goto 4, 3) := by decide +kernel
theorem dX6_ranksBefore_85 : decode cX6_ranksBefore 85 = .ok (.iconst 0, 1) := by decide +kernel
theorem dX6_ranksBefore_86 : decode cX6_ranksBefore 86 = .ok (.ireturn, 1) := by decide +kernel
theorem dX6_ranksBefore_87 : decode cX6_ranksBefore 87 = .ok (.aload_n 0, 1) := by decide +kernel
theorem dX6_ranksBefore_88 : decode cX6_ranksBefore 88 = .ok (.getfield 9, 3) := by decide +kernel
theorem dX6_ranksBefore_91 : decode cX6_ranksBefore 91 = .ok (.getfield 103, 3) := by decide +kernel
theorem dX6_ranksBefore_94 : decode cX6_ranksBefore 94 = .ok (.iload_n 1, 1) := by decide +kernel
theorem dX6_ranksBefore_95 : decode cX6_ranksBefore 95 = .ok (.invokevirtual 33, 3) := by decide +kernel
theorem dX6_ranksBefore_98 : decode cX6_ranksBefore 98 = .ok (.aload_n 0, 1) := by decide +kernel
theorem dX6_ranksBefore_99 : decode cX6_ranksBefore 99 = .ok (.getfield 9, 3) := by decide +kernel
theorem dX6_ranksBefore_102 : decode cX6_ranksBefore 102 = .ok (.getfield 103, 3) := by decide +kernel
theorem dX6_ranksBefore_105 : decode cX6_ranksBefore 105 = .ok (.iload_n 2, 1) := by decide +kernel
theorem dX6_ranksBefore_106 : decode cX6_ranksBefore 106 = .ok (.invokevirtual 33, 3) := by decide +kernel
theorem dX6_ranksBefore_109 : decode cX6_ranksBefore 109 = .ok (.if_icmp .ge 7, 3) := by decide +kernel
theorem dX6_ranksBefore_112 : decode cX6_ranksBefore 112 = .ok (.iconst 1, 1) := by decide +kernel
theorem dX6_ranksBefore_113 : decode cX6_ranksBefore 113 = .ok (.goto 4, 3) := by decide +kernel
theorem dX6_ranksBefore_116 : decode cX6_ranksBefore 116 = .ok (.iconst 0, 1) := by decide +kernel
theorem dX6_ranksBefore_117 : decode cX6_ranksBefore 117 = .ok (.ireturn, 1) := by decide +kernel
theorem dX6_best_0 : decode cX6_best 0 = .ok (.iconst 0, 1) := by decide +kernel
theorem dX6_best_1 : decode cX6_best 1 = .ok (.istore_n 1, 1) := by decide +kernel
theorem dX6_best_2 : decode cX6_best 2 = .ok (.iconst 0, 1) := by decide +kernel
theorem dX6_best_3 : decode cX6_best 3 = .ok (.istore_n 2, 1) := by decide +kernel
theorem dX6_best_4 : decode cX6_best 4 = .ok (.iload_n 2, 1) := by decide +kernel
theorem dX6_best_5 : decode cX6_best 5 = .ok (.bipush 16, 2) := by decide +kernel
theorem dX6_best_7 : decode cX6_best 7 = .ok (.if_icmp .ge 40, 3) := by decide +kernel
theorem dX6_best_10 : decode cX6_best 10 = .ok (.aload_n 0, 1) := by decide +kernel
theorem dX6_best_11 : decode cX6_best 11 = .ok (.getfield 9, 3) := by decide +kernel
theorem dX6_best_14 : decode cX6_best 14 = .ok (.iload_n 2, 1) := by decide +kernel
theorem dX6_best_15 : decode cX6_best 15 = .ok (.invokevirtual 24, 3) := by decide +kernel
theorem dX6_best_18 : decode cX6_best 18 = .ok (.ifCond .eq 23, 3) := by decide +kernel
theorem dX6_best_21 : decode cX6_best 21 = .ok (.aload_n 0, 1) := by decide +kernel
theorem dX6_best_22 : decode cX6_best 22 = .ok (.iload_n 2, 1) := by decide +kernel
theorem dX6_best_23 : decode cX6_best 23 = .ok (.iload_n 1, 1) := by decide +kernel
theorem dX6_best_24 : decode cX6_best 24 = .ok (.invokevirtual 115, 3) := by decide +kernel
theorem dX6_best_27 : decode cX6_best 27 = .ok (.ifCond .eq 14, 3) := by decide +kernel
theorem dX6_best_30 : decode cX6_best 30 = .ok (.aload_n 0, 1) := by decide +kernel
theorem dX6_best_31 : decode cX6_best 31 = .ok (.iload_n 2, 1) := by decide +kernel
theorem dX6_best_32 : decode cX6_best 32 = .ok (.invokevirtual 118, 3) := by decide +kernel
theorem dX6_best_35 : decode cX6_best 35 = .ok (.iconst (-1), 1) := by decide +kernel
theorem dX6_best_36 : decode cX6_best 36 = .ok (.if_icmp .ne 5, 3) := by decide +kernel
theorem dX6_best_39 : decode cX6_best 39 = .ok (.iload_n 2, 1) := by decide +kernel
theorem dX6_best_40 : decode cX6_best 40 = .ok (.istore_n 1, 1) := by decide +kernel
theorem dX6_best_41 : decode cX6_best 41 = .ok (.iinc 2 1, 3) := by decide +kernel
theorem dX6_best_44 : decode cX6_best 44 = .ok (.goto (-40), 3) := by decide +kernel
theorem dX6_best_47 : decode cX6_best 47 = .ok (.iload_n 1, 1) := by decide +kernel
theorem dX6_best_48 : decode cX6_best 48 = .ok (.ireturn, 1) := by decide +kernel
theorem dX6_waysAgree_0 : decode cX6_waysAgree 0 = .ok (.iconst 0, 1) := by decide +kernel
theorem dX6_waysAgree_1 : decode cX6_waysAgree 1 = .ok (.istore_n 1, 1) := by decide +kernel
theorem dX6_waysAgree_2 : decode cX6_waysAgree 2 = .ok (.iload_n 1, 1) := by decide +kernel
theorem dX6_waysAgree_3 : decode cX6_waysAgree 3 = .ok (.bipush 16, 2) := by decide +kernel
theorem dX6_waysAgree_5 : decode cX6_waysAgree 5 = .ok (.if_icmp .ge 60, 3) := by decide +kernel
theorem dX6_waysAgree_8 : decode cX6_waysAgree 8 = .ok (.aload_n 0, 1) := by decide +kernel
theorem dX6_waysAgree_9 : decode cX6_waysAgree 9 = .ok (.getfield 9, 3) := by decide +kernel
theorem dX6_waysAgree_12 : decode cX6_waysAgree 12 = .ok (.iload_n 1, 1) := by decide +kernel
theorem dX6_waysAgree_13 : decode cX6_waysAgree 13 = .ok (.invokevirtual 24, 3) := by decide +kernel
theorem dX6_waysAgree_16 : decode cX6_waysAgree 16 = .ok (.ifCond .eq 43, 3) := by decide +kernel
theorem dX6_waysAgree_19 : decode cX6_waysAgree 19 = .ok (.aload_n 0, 1) := by decide +kernel
theorem dX6_waysAgree_20 : decode cX6_waysAgree 20 = .ok (.iload_n 1, 1) := by decide +kernel
theorem dX6_waysAgree_21 : decode cX6_waysAgree 21 = .ok (.invokevirtual 44, 3) := by decide +kernel
theorem dX6_waysAgree_24 : decode cX6_waysAgree 24 = .ok (.aload_n 0, 1) := by decide +kernel
theorem dX6_waysAgree_25 : decode cX6_waysAgree 25 = .ok (.iload_n 1, 1) := by decide +kernel
theorem dX6_waysAgree_26 : decode cX6_waysAgree 26 = .ok (.invokevirtual 121, 3) := by decide +kernel
theorem dX6_waysAgree_29 : decode cX6_waysAgree 29 = .ok (.if_icmp .ne 28, 3) := by decide +kernel
theorem dX6_waysAgree_32 : decode cX6_waysAgree 32 = .ok (.aload_n 0, 1) := by decide +kernel
theorem dX6_waysAgree_33 : decode cX6_waysAgree 33 = .ok (.getfield 9, 3) := by decide +kernel
theorem dX6_waysAgree_36 : decode cX6_waysAgree 36 = .ok (.getfield 50, 3) := by decide +kernel
theorem dX6_waysAgree_39 : decode cX6_waysAgree 39 = .ok (.iload_n 1, 1) := by decide +kernel
theorem dX6_waysAgree_40 : decode cX6_waysAgree 40 = .ok (.invokevirtual 54, 3) := by decide +kernel
theorem dX6_waysAgree_43 : decode cX6_waysAgree 43 = .ok (.aload_n 0, 1) := by decide +kernel
theorem dX6_waysAgree_44 : decode cX6_waysAgree 44 = .ok (.getfield 9, 3) := by decide +kernel
theorem dX6_waysAgree_47 : decode cX6_waysAgree 47 = .ok (.getfield 50, 3) := by decide +kernel
theorem dX6_waysAgree_50 : decode cX6_waysAgree 50 = .ok (.iload_n 1, 1) := by decide +kernel
theorem dX6_waysAgree_51 : decode cX6_waysAgree 51 = .ok (.invokevirtual 124, 3) := by decide +kernel
theorem dX6_waysAgree_54 : decode cX6_waysAgree 54 = .ok (.if_icmp .eq 5, 3) := by decide +kernel
theorem dX6_waysAgree_57 : decode cX6_waysAgree 57 = .ok (.iconst 0, 1) := by decide +kernel
theorem dX6_waysAgree_58 : decode cX6_waysAgree 58 = .ok (.ireturn, 1) := by decide +kernel
theorem dX6_waysAgree_59 : decode cX6_waysAgree 59 = .ok (.iinc 1 1, 3) := by decide +kernel
theorem dX6_waysAgree_62 : decode cX6_waysAgree 62 = .ok (.goto (-60), 3) := by decide +kernel
theorem dX6_waysAgree_65 : decode cX6_waysAgree 65 = .ok (.iconst 1, 1) := by decide +kernel
theorem dX6_waysAgree_66 : decode cX6_waysAgree 66 = .ok (.ireturn, 1) := by decide +kernel
theorem dX6_hashesAreSteps_0 : decode cX6_hashesAreSteps 0 = .ok (.iconst 0, 1) := by decide +kernel
theorem dX6_hashesAreSteps_1 : decode cX6_hashesAreSteps 1 = .ok (.istore_n 1, 1) := by decide +kernel
theorem dX6_hashesAreSteps_2 : decode cX6_hashesAreSteps 2 = .ok (.iload_n 1, 1) := by decide +kernel
theorem dX6_hashesAreSteps_3 : decode cX6_hashesAreSteps 3 = .ok (.bipush 16, 2) := by decide +kernel
theorem dX6_hashesAreSteps_5 : decode cX6_hashesAreSteps 5 = .ok (.if_icmp .ge 42, 3) := by decide +kernel
theorem dX6_hashesAreSteps_8 : decode cX6_hashesAreSteps 8 = .ok (.iload_n 1, 1) := by decide +kernel
theorem dX6_hashesAreSteps_9 : decode cX6_hashesAreSteps 9 = .ok (.ifCond .eq 32, 3) := by decide +kernel
theorem dX6_hashesAreSteps_12 : decode cX6_hashesAreSteps 12 = .ok (.aload_n 0, 1) := by decide +kernel
theorem dX6_hashesAreSteps_13 : decode cX6_hashesAreSteps 13 = .ok (.getfield 9, 3) := by decide +kernel
theorem dX6_hashesAreSteps_16 : decode cX6_hashesAreSteps 16 = .ok (.iload_n 1, 1) := by decide +kernel
theorem dX6_hashesAreSteps_17 : decode cX6_hashesAreSteps 17 = .ok (.invokevirtual 24, 3) := by decide +kernel
theorem dX6_hashesAreSteps_20 : decode cX6_hashesAreSteps 20 = .ok (.ifCond .eq 21, 3) := by decide +kernel
theorem dX6_hashesAreSteps_23 : decode cX6_hashesAreSteps 23 = .ok (.aload_n 0, 1) := by decide +kernel
theorem dX6_hashesAreSteps_24 : decode cX6_hashesAreSteps 24 = .ok (.getfield 9, 3) := by decide +kernel
theorem dX6_hashesAreSteps_27 : decode cX6_hashesAreSteps 27 = .ok (.getfield 47, 3) := by decide +kernel
theorem dX6_hashesAreSteps_30 : decode cX6_hashesAreSteps 30 = .ok (.iload_n 1, 1) := by decide +kernel
theorem dX6_hashesAreSteps_31 : decode cX6_hashesAreSteps 31 = .ok (.invokevirtual 33, 3) := by decide +kernel
theorem dX6_hashesAreSteps_34 : decode cX6_hashesAreSteps 34 = .ok (.iconst 4, 1) := by decide +kernel
theorem dX6_hashesAreSteps_35 : decode cX6_hashesAreSteps 35 = .ok (.irem, 1) := by decide +kernel
theorem dX6_hashesAreSteps_36 : decode cX6_hashesAreSteps 36 = .ok (.ifCond .eq 5, 3) := by decide +kernel
theorem dX6_hashesAreSteps_39 : decode cX6_hashesAreSteps 39 = .ok (.iconst 0, 1) := by decide +kernel
theorem dX6_hashesAreSteps_40 : decode cX6_hashesAreSteps 40 = .ok (.ireturn, 1) := by decide +kernel
theorem dX6_hashesAreSteps_41 : decode cX6_hashesAreSteps 41 = .ok (.iinc 1 1, 3) := by decide +kernel
theorem dX6_hashesAreSteps_44 : decode cX6_hashesAreSteps 44 = .ok (.goto (-42), 3) := by decide +kernel
theorem dX6_hashesAreSteps_47 : decode cX6_hashesAreSteps 47 = .ok (.iconst 1, 1) := by decide +kernel
theorem dX6_hashesAreSteps_48 : decode cX6_hashesAreSteps 48 = .ok (.ireturn, 1) := by decide +kernel
theorem dX7_init_0 : decode cX7_init 0 = .ok (.aload_n 0, 1) := by decide +kernel
theorem dX7_init_1 : decode cX7_init 1 = .ok (.invokespecial 3, 3) := by decide +kernel
theorem dX7_init_4 : decode cX7_init 4 = .ok (.aload_n 0, 1) := by decide +kernel
theorem dX7_init_5 : decode cX7_init 5 = .ok (.aload_n 1, 1) := by decide +kernel
theorem dX7_init_6 : decode cX7_init 6 = .ok (.putfield 9, 3) := by decide +kernel
theorem dX7_init_9 : decode cX7_init 9 = .ok (.aload_n 0, 1) := by decide +kernel
theorem dX7_init_10 : decode cX7_init 10 = .ok (.aload_n 2, 1) := by decide +kernel
theorem dX7_init_11 : decode cX7_init 11 = .ok (.putfield 15, 3) := by decide +kernel
theorem dX7_init_14 : decode cX7_init 14 = .ok (.aload_n 0, 1) := by decide +kernel
theorem dX7_init_15 : decode cX7_init 15 = .ok (.new 19, 3) := by decide +kernel
theorem dX7_init_18 : decode cX7_init 18 = .ok (.dup, 1) := by decide +kernel
theorem dX7_init_19 : decode cX7_init 19 = .ok (.bipush 16, 2) := by decide +kernel
theorem dX7_init_21 : decode cX7_init 21 = .ok (.iconst 0, 1) := by decide +kernel
theorem dX7_init_22 : decode cX7_init 22 = .ok (.invokespecial 21, 3) := by decide +kernel
theorem dX7_init_25 : decode cX7_init 25 = .ok (.putfield 24, 3) := by decide +kernel
theorem dX7_init_28 : decode cX7_init 28 = .ok (.return_, 1) := by decide +kernel
theorem dX7_refusalOf_0 : decode cX7_refusalOf 0 = .ok (.iload_n 1, 1) := by decide +kernel
theorem dX7_refusalOf_1 : decode cX7_refusalOf 1 = .ok (.tableswitch 79 0 5 #[39, 44, 51, 57, 64, 70], 39) := by decide +kernel
theorem dX7_refusalOf_40 : decode cX7_refusalOf 40 = .ok (.aload_n 0, 1) := by decide +kernel
theorem dX7_refusalOf_41 : decode cX7_refusalOf 41 = .ok (.invokevirtual 28, 3) := by decide +kernel
theorem dX7_refusalOf_44 : decode cX7_refusalOf 44 = .ok (.areturn, 1) := by decide +kernel
theorem dX7_refusalOf_45 : decode cX7_refusalOf 45 = .ok (.aload_n 0, 1) := by decide +kernel
theorem dX7_refusalOf_46 : decode cX7_refusalOf 46 = .ok (.iload_n 2, 1) := by decide +kernel
theorem dX7_refusalOf_47 : decode cX7_refusalOf 47 = .ok (.iload_n 3, 1) := by decide +kernel
theorem dX7_refusalOf_48 : decode cX7_refusalOf 48 = .ok (.invokevirtual 32, 3) := by decide +kernel
theorem dX7_refusalOf_51 : decode cX7_refusalOf 51 = .ok (.areturn, 1) := by decide +kernel
theorem dX7_refusalOf_52 : decode cX7_refusalOf 52 = .ok (.aload_n 0, 1) := by decide +kernel
theorem dX7_refusalOf_53 : decode cX7_refusalOf 53 = .ok (.iload_n 2, 1) := by decide +kernel
theorem dX7_refusalOf_54 : decode cX7_refusalOf 54 = .ok (.invokevirtual 36, 3) := by decide +kernel
theorem dX7_refusalOf_57 : decode cX7_refusalOf 57 = .ok (.areturn, 1) := by decide +kernel
theorem dX7_refusalOf_58 : decode cX7_refusalOf 58 = .ok (.aload_n 0, 1) := by decide +kernel
theorem dX7_refusalOf_59 : decode cX7_refusalOf 59 = .ok (.iload_n 2, 1) := by decide +kernel
theorem dX7_refusalOf_60 : decode cX7_refusalOf 60 = .ok (.iload_n 3, 1) := by decide +kernel
theorem dX7_refusalOf_61 : decode cX7_refusalOf 61 = .ok (.invokevirtual 40, 3) := by decide +kernel
theorem dX7_refusalOf_64 : decode cX7_refusalOf 64 = .ok (.areturn, 1) := by decide +kernel
theorem dX7_refusalOf_65 : decode cX7_refusalOf 65 = .ok (.aload_n 0, 1) := by decide +kernel
theorem dX7_refusalOf_66 : decode cX7_refusalOf 66 = .ok (.iload_n 2, 1) := by decide +kernel
theorem dX7_refusalOf_67 : decode cX7_refusalOf 67 = .ok (.invokevirtual 43, 3) := by decide +kernel
theorem dX7_refusalOf_70 : decode cX7_refusalOf 70 = .ok (.areturn, 1) := by decide +kernel
theorem dX7_refusalOf_71 : decode cX7_refusalOf 71 = .ok (.aload_n 0, 1) := by decide +kernel
theorem dX7_refusalOf_72 : decode cX7_refusalOf 72 = .ok (.iload_n 2, 1) := by decide +kernel
theorem dX7_refusalOf_73 : decode cX7_refusalOf 73 = .ok (.iload_n 3, 1) := by decide +kernel
theorem dX7_refusalOf_74 : decode cX7_refusalOf 74 = .ok (.iload 4, 2) := by decide +kernel
theorem dX7_refusalOf_76 : decode cX7_refusalOf 76 = .ok (.invokevirtual 46, 3) := by decide +kernel
theorem dX7_refusalOf_79 : decode cX7_refusalOf 79 = .ok (.areturn, 1) := by decide +kernel
theorem dX7_refusalOf_80 : decode cX7_refusalOf 80 = .ok (.aload_n 0, 1) := by decide +kernel
theorem dX7_refusalOf_81 : decode cX7_refusalOf 81 = .ok (.iload_n 2, 1) := by decide +kernel
theorem dX7_refusalOf_82 : decode cX7_refusalOf 82 = .ok (.invokevirtual 50, 3) := by decide +kernel
theorem dX7_refusalOf_85 : decode cX7_refusalOf 85 = .ok (.areturn, 1) := by decide +kernel
theorem dX7_carryOut_0 : decode cX7_carryOut 0 = .ok (.iload_n 1, 1) := by decide +kernel
theorem dX7_carryOut_1 : decode cX7_carryOut 1 = .ok (.tableswitch 79 0 5 #[39, 44, 51, 57, 64, 70], 39) := by decide +kernel
theorem dX7_carryOut_40 : decode cX7_carryOut 40 = .ok (.aload_n 0, 1) := by decide +kernel
theorem dX7_carryOut_41 : decode cX7_carryOut 41 = .ok (.invokevirtual 53, 3) := by decide +kernel
theorem dX7_carryOut_44 : decode cX7_carryOut 44 = .ok (.ireturn, 1) := by decide +kernel
theorem dX7_carryOut_45 : decode cX7_carryOut 45 = .ok (.aload_n 0, 1) := by decide +kernel
theorem dX7_carryOut_46 : decode cX7_carryOut 46 = .ok (.iload_n 2, 1) := by decide +kernel
theorem dX7_carryOut_47 : decode cX7_carryOut 47 = .ok (.iload_n 3, 1) := by decide +kernel
theorem dX7_carryOut_48 : decode cX7_carryOut 48 = .ok (.invokevirtual 57, 3) := by decide +kernel
theorem dX7_carryOut_51 : decode cX7_carryOut 51 = .ok (.ireturn, 1) := by decide +kernel
theorem dX7_carryOut_52 : decode cX7_carryOut 52 = .ok (.aload_n 0, 1) := by decide +kernel
theorem dX7_carryOut_53 : decode cX7_carryOut 53 = .ok (.iload_n 2, 1) := by decide +kernel
theorem dX7_carryOut_54 : decode cX7_carryOut 54 = .ok (.invokevirtual 61, 3) := by decide +kernel
theorem dX7_carryOut_57 : decode cX7_carryOut 57 = .ok (.ireturn, 1) := by decide +kernel
theorem dX7_carryOut_58 : decode cX7_carryOut 58 = .ok (.aload_n 0, 1) := by decide +kernel
theorem dX7_carryOut_59 : decode cX7_carryOut 59 = .ok (.iload_n 2, 1) := by decide +kernel
theorem dX7_carryOut_60 : decode cX7_carryOut 60 = .ok (.iload_n 3, 1) := by decide +kernel
theorem dX7_carryOut_61 : decode cX7_carryOut 61 = .ok (.invokevirtual 65, 3) := by decide +kernel
theorem dX7_carryOut_64 : decode cX7_carryOut 64 = .ok (.ireturn, 1) := by decide +kernel
theorem dX7_carryOut_65 : decode cX7_carryOut 65 = .ok (.aload_n 0, 1) := by decide +kernel
theorem dX7_carryOut_66 : decode cX7_carryOut 66 = .ok (.iload_n 2, 1) := by decide +kernel
theorem dX7_carryOut_67 : decode cX7_carryOut 67 = .ok (.invokevirtual 68, 3) := by decide +kernel
theorem dX7_carryOut_70 : decode cX7_carryOut 70 = .ok (.ireturn, 1) := by decide +kernel
theorem dX7_carryOut_71 : decode cX7_carryOut 71 = .ok (.aload_n 0, 1) := by decide +kernel
theorem dX7_carryOut_72 : decode cX7_carryOut 72 = .ok (.iload_n 2, 1) := by decide +kernel
theorem dX7_carryOut_73 : decode cX7_carryOut 73 = .ok (.iload_n 3, 1) := by decide +kernel
theorem dX7_carryOut_74 : decode cX7_carryOut 74 = .ok (.iload 4, 2) := by decide +kernel
theorem dX7_carryOut_76 : decode cX7_carryOut 76 = .ok (.invokevirtual 71, 3) := by decide +kernel
theorem dX7_carryOut_79 : decode cX7_carryOut 79 = .ok (.ireturn, 1) := by decide +kernel
theorem dX7_carryOut_80 : decode cX7_carryOut 80 = .ok (.aload_n 0, 1) := by decide +kernel
theorem dX7_carryOut_81 : decode cX7_carryOut 81 = .ok (.iload_n 2, 1) := by decide +kernel
theorem dX7_carryOut_82 : decode cX7_carryOut 82 = .ok (.invokevirtual 75, 3) := by decide +kernel
theorem dX7_carryOut_85 : decode cX7_carryOut 85 = .ok (.ireturn, 1) := by decide +kernel
theorem dX7_refusalToRaiseHill_0 : decode cX7_refusalToRaiseHill 0 = .ok (.aload_n 0, 1) := by decide +kernel
theorem dX7_refusalToRaiseHill_1 : decode cX7_refusalToRaiseHill 1 = .ok (.getfield 9, 3) := by decide +kernel
theorem dX7_refusalToRaiseHill_4 : decode cX7_refusalToRaiseHill 4 = .ok (.getfield 78, 3) := by decide +kernel
theorem dX7_refusalToRaiseHill_7 : decode cX7_refusalToRaiseHill 7 = .ok (.iconst 4, 1) := by decide +kernel
theorem dX7_refusalToRaiseHill_8 : decode cX7_refusalToRaiseHill 8 = .ok (.if_icmp .ge 9, 3) := by decide +kernel
theorem dX7_refusalToRaiseHill_11 : decode cX7_refusalToRaiseHill 11 = .ok (.getstatic 84, 3) := by decide +kernel
theorem dX7_refusalToRaiseHill_14 : decode cX7_refusalToRaiseHill 14 = .ok (.goto 6, 3) := by decide +kernel
theorem dX7_refusalToRaiseHill_17 : decode cX7_refusalToRaiseHill 17 = .ok (.getstatic 90, 3) := by decide +kernel
theorem dX7_refusalToRaiseHill_20 : decode cX7_refusalToRaiseHill 20 = .ok (.areturn, 1) := by decide +kernel
theorem dX7_raiseHill_0 : decode cX7_raiseHill 0 = .ok (.aload_n 0, 1) := by decide +kernel
theorem dX7_raiseHill_1 : decode cX7_raiseHill 1 = .ok (.getfield 9, 3) := by decide +kernel
theorem dX7_raiseHill_4 : decode cX7_raiseHill 4 = .ok (.getfield 78, 3) := by decide +kernel
theorem dX7_raiseHill_7 : decode cX7_raiseHill 7 = .ok (.istore_n 1, 1) := by decide +kernel
theorem dX7_raiseHill_8 : decode cX7_raiseHill 8 = .ok (.aload_n 0, 1) := by decide +kernel
theorem dX7_raiseHill_9 : decode cX7_raiseHill 9 = .ok (.getfield 9, 3) := by decide +kernel
theorem dX7_raiseHill_12 : decode cX7_raiseHill 12 = .ok (.getfield 93, 3) := by decide +kernel
theorem dX7_raiseHill_15 : decode cX7_raiseHill 15 = .ok (.iload_n 1, 1) := by decide +kernel
theorem dX7_raiseHill_16 : decode cX7_raiseHill 16 = .ok (.iconst 0, 1) := by decide +kernel
theorem dX7_raiseHill_17 : decode cX7_raiseHill 17 = .ok (.invokevirtual 96, 3) := by decide +kernel
theorem dX7_raiseHill_20 : decode cX7_raiseHill 20 = .ok (.aload_n 0, 1) := by decide +kernel
theorem dX7_raiseHill_21 : decode cX7_raiseHill 21 = .ok (.getfield 9, 3) := by decide +kernel
theorem dX7_raiseHill_24 : decode cX7_raiseHill 24 = .ok (.getfield 99, 3) := by decide +kernel
theorem dX7_raiseHill_27 : decode cX7_raiseHill 27 = .ok (.iload_n 1, 1) := by decide +kernel
theorem dX7_raiseHill_28 : decode cX7_raiseHill 28 = .ok (.invokevirtual 103, 3) := by decide +kernel
theorem dX7_raiseHill_31 : decode cX7_raiseHill 31 = .ok (.aload_n 0, 1) := by decide +kernel
theorem dX7_raiseHill_32 : decode cX7_raiseHill 32 = .ok (.getfield 9, 3) := by decide +kernel
theorem dX7_raiseHill_35 : decode cX7_raiseHill 35 = .ok (.dup, 1) := by decide +kernel
theorem dX7_raiseHill_36 : decode cX7_raiseHill 36 = .ok (.getfield 78, 3) := by decide +kernel
theorem dX7_raiseHill_39 : decode cX7_raiseHill 39 = .ok (.iconst 1, 1) := by decide +kernel
theorem dX7_raiseHill_40 : decode cX7_raiseHill 40 = .ok (.iadd, 1) := by decide +kernel
theorem dX7_raiseHill_41 : decode cX7_raiseHill 41 = .ok (.putfield 78, 3) := by decide +kernel
theorem dX7_raiseHill_44 : decode cX7_raiseHill 44 = .ok (.iload_n 1, 1) := by decide +kernel
theorem dX7_raiseHill_45 : decode cX7_raiseHill 45 = .ok (.ireturn, 1) := by decide +kernel
theorem dX7_refusalToHold_0 : decode cX7_refusalToHold 0 = .ok (.aload_n 0, 1) := by decide +kernel
theorem dX7_refusalToHold_1 : decode cX7_refusalToHold 1 = .ok (.getfield 9, 3) := by decide +kernel
theorem dX7_refusalToHold_4 : decode cX7_refusalToHold 4 = .ok (.iload_n 1, 1) := by decide +kernel
theorem dX7_refusalToHold_5 : decode cX7_refusalToHold 5 = .ok (.invokevirtual 109, 3) := by decide +kernel
theorem dX7_refusalToHold_8 : decode cX7_refusalToHold 8 = .ok (.ifCond .ne 7, 3) := by decide +kernel
theorem dX7_refusalToHold_11 : decode cX7_refusalToHold 11 = .ok (.getstatic 113, 3) := by decide +kernel
theorem dX7_refusalToHold_14 : decode cX7_refusalToHold 14 = .ok (.areturn, 1) := by decide +kernel
theorem dX7_refusalToHold_15 : decode cX7_refusalToHold 15 = .ok (.iload_n 2, 1) := by decide +kernel
theorem dX7_refusalToHold_16 : decode cX7_refusalToHold 16 = .ok (.invokestatic 116, 3) := by decide +kernel
theorem dX7_refusalToHold_19 : decode cX7_refusalToHold 19 = .ok (.ifCond .ne 7, 3) := by decide +kernel
theorem dX7_refusalToHold_22 : decode cX7_refusalToHold 22 = .ok (.getstatic 119, 3) := by decide +kernel
theorem dX7_refusalToHold_25 : decode cX7_refusalToHold 25 = .ok (.areturn, 1) := by decide +kernel
theorem dX7_refusalToHold_26 : decode cX7_refusalToHold 26 = .ok (.aload_n 0, 1) := by decide +kernel
theorem dX7_refusalToHold_27 : decode cX7_refusalToHold 27 = .ok (.getfield 9, 3) := by decide +kernel
theorem dX7_refusalToHold_30 : decode cX7_refusalToHold 30 = .ok (.getfield 99, 3) := by decide +kernel
theorem dX7_refusalToHold_33 : decode cX7_refusalToHold 33 = .ok (.iload_n 1, 1) := by decide +kernel
theorem dX7_refusalToHold_34 : decode cX7_refusalToHold 34 = .ok (.invokevirtual 122, 3) := by decide +kernel
theorem dX7_refusalToHold_37 : decode cX7_refusalToHold 37 = .ok (.iconst 4, 1) := by decide +kernel
theorem dX7_refusalToHold_38 : decode cX7_refusalToHold 38 = .ok (.if_icmp .ge 9, 3) := by decide +kernel
theorem dX7_refusalToHold_41 : decode cX7_refusalToHold 41 = .ok (.getstatic 84, 3) := by decide +kernel
theorem dX7_refusalToHold_44 : decode cX7_refusalToHold 44 = .ok (.goto 6, 3) := by decide +kernel
theorem dX7_refusalToHold_47 : decode cX7_refusalToHold 47 = .ok (.getstatic 90, 3) := by decide +kernel
theorem dX7_refusalToHold_50 : decode cX7_refusalToHold 50 = .ok (.areturn, 1) := by decide +kernel
theorem dX7_hold_0 : decode cX7_hold 0 = .ok (.aload_n 0, 1) := by decide +kernel
theorem dX7_hold_1 : decode cX7_hold 1 = .ok (.getfield 9, 3) := by decide +kernel
theorem dX7_hold_4 : decode cX7_hold 4 = .ok (.getfield 99, 3) := by decide +kernel
theorem dX7_hold_7 : decode cX7_hold 7 = .ok (.iload_n 1, 1) := by decide +kernel
theorem dX7_hold_8 : decode cX7_hold 8 = .ok (.iload_n 2, 1) := by decide +kernel
theorem dX7_hold_9 : decode cX7_hold 9 = .ok (.invokevirtual 125, 3) := by decide +kernel
theorem dX7_hold_12 : decode cX7_hold 12 = .ok (.aload_n 0, 1) := by decide +kernel
theorem dX7_hold_13 : decode cX7_hold 13 = .ok (.getfield 9, 3) := by decide +kernel
theorem dX7_hold_16 : decode cX7_hold 16 = .ok (.getfield 99, 3) := by decide +kernel
theorem dX7_hold_19 : decode cX7_hold 19 = .ok (.iload_n 1, 1) := by decide +kernel
theorem dX7_hold_20 : decode cX7_hold 20 = .ok (.invokevirtual 122, 3) := by decide +kernel
theorem dX7_hold_23 : decode cX7_hold 23 = .ok (.ireturn, 1) := by decide +kernel
theorem dX7_refusalToAppend_0 : decode cX7_refusalToAppend 0 = .ok (.aload_n 0, 1) := by decide +kernel
theorem dX7_refusalToAppend_1 : decode cX7_refusalToAppend 1 = .ok (.getfield 9, 3) := by decide +kernel
theorem dX7_refusalToAppend_4 : decode cX7_refusalToAppend 4 = .ok (.iload_n 1, 1) := by decide +kernel
theorem dX7_refusalToAppend_5 : decode cX7_refusalToAppend 5 = .ok (.invokevirtual 109, 3) := by decide +kernel
theorem dX7_refusalToAppend_8 : decode cX7_refusalToAppend 8 = .ok (.ifCond .ne 7, 3) := by decide +kernel
theorem dX7_refusalToAppend_11 : decode cX7_refusalToAppend 11 = .ok (.getstatic 113, 3) := by decide +kernel
theorem dX7_refusalToAppend_14 : decode cX7_refusalToAppend 14 = .ok (.areturn, 1) := by decide +kernel
theorem dX7_refusalToAppend_15 : decode cX7_refusalToAppend 15 = .ok (.aload_n 0, 1) := by decide +kernel
theorem dX7_refusalToAppend_16 : decode cX7_refusalToAppend 16 = .ok (.getfield 9, 3) := by decide +kernel
theorem dX7_refusalToAppend_19 : decode cX7_refusalToAppend 19 = .ok (.invokevirtual 128, 3) := by decide +kernel
theorem dX7_refusalToAppend_22 : decode cX7_refusalToAppend 22 = .ok (.iconst (-1), 1) := by decide +kernel
theorem dX7_refusalToAppend_23 : decode cX7_refusalToAppend 23 = .ok (.if_icmp .ne 7, 3) := by decide +kernel
theorem dX7_refusalToAppend_26 : decode cX7_refusalToAppend 26 = .ok (.getstatic 90, 3) := by decide +kernel
theorem dX7_refusalToAppend_29 : decode cX7_refusalToAppend 29 = .ok (.areturn, 1) := by decide +kernel
theorem dX7_refusalToAppend_30 : decode cX7_refusalToAppend 30 = .ok (.aload_n 0, 1) := by decide +kernel
theorem dX7_refusalToAppend_31 : decode cX7_refusalToAppend 31 = .ok (.getfield 15, 3) := by decide +kernel
theorem dX7_refusalToAppend_34 : decode cX7_refusalToAppend 34 = .ok (.aload_n 0, 1) := by decide +kernel
theorem dX7_refusalToAppend_35 : decode cX7_refusalToAppend 35 = .ok (.getfield 9, 3) := by decide +kernel
theorem dX7_refusalToAppend_38 : decode cX7_refusalToAppend 38 = .ok (.getfield 93, 3) := by decide +kernel
theorem dX7_refusalToAppend_41 : decode cX7_refusalToAppend 41 = .ok (.iload_n 1, 1) := by decide +kernel
theorem dX7_refusalToAppend_42 : decode cX7_refusalToAppend 42 = .ok (.invokevirtual 131, 3) := by decide +kernel
theorem dX7_refusalToAppend_45 : decode cX7_refusalToAppend 45 = .ok (.invokevirtual 134, 3) := by decide +kernel
theorem dX7_refusalToAppend_48 : decode cX7_refusalToAppend 48 = .ok (.iconst (-1), 1) := by decide +kernel
theorem dX7_refusalToAppend_49 : decode cX7_refusalToAppend 49 = .ok (.if_icmp .ne 9, 3) := by decide +kernel
theorem dX7_refusalToAppend_52 : decode cX7_refusalToAppend 52 = .ok (.getstatic 84, 3) := by decide +kernel
theorem dX7_refusalToAppend_55 : decode cX7_refusalToAppend 55 = .ok (.goto 6, 3) := by decide +kernel
theorem dX7_refusalToAppend_58 : decode cX7_refusalToAppend 58 = .ok (.getstatic 139, 3) := by decide +kernel
theorem dX7_refusalToAppend_61 : decode cX7_refusalToAppend 61 = .ok (.areturn, 1) := by decide +kernel
theorem dX7_append_0 : decode cX7_append 0 = .ok (.aload_n 0, 1) := by decide +kernel
theorem dX7_append_1 : decode cX7_append 1 = .ok (.getfield 9, 3) := by decide +kernel
theorem dX7_append_4 : decode cX7_append 4 = .ok (.invokevirtual 128, 3) := by decide +kernel
theorem dX7_append_7 : decode cX7_append 7 = .ok (.istore_n 2, 1) := by decide +kernel
theorem dX7_append_8 : decode cX7_append 8 = .ok (.aload_n 0, 1) := by decide +kernel
theorem dX7_append_9 : decode cX7_append 9 = .ok (.getfield 9, 3) := by decide +kernel
theorem dX7_append_12 : decode cX7_append 12 = .ok (.getfield 142, 3) := by decide +kernel
theorem dX7_append_15 : decode cX7_append 15 = .ok (.istore_n 3, 1) := by decide +kernel
theorem dX7_append_16 : decode cX7_append 16 = .ok (.aload_n 0, 1) := by decide +kernel
theorem dX7_append_17 : decode cX7_append 17 = .ok (.getfield 9, 3) := by decide +kernel
theorem dX7_append_20 : decode cX7_append 20 = .ok (.getfield 145, 3) := by decide +kernel
theorem dX7_append_23 : decode cX7_append 23 = .ok (.iload_n 2, 1) := by decide +kernel
theorem dX7_append_24 : decode cX7_append 24 = .ok (.iload_n 3, 1) := by decide +kernel
theorem dX7_append_25 : decode cX7_append 25 = .ok (.invokevirtual 96, 3) := by decide +kernel
theorem dX7_append_28 : decode cX7_append 28 = .ok (.aload_n 0, 1) := by decide +kernel
theorem dX7_append_29 : decode cX7_append 29 = .ok (.getfield 9, 3) := by decide +kernel
theorem dX7_append_32 : decode cX7_append 32 = .ok (.getfield 148, 3) := by decide +kernel
theorem dX7_append_35 : decode cX7_append 35 = .ok (.iload_n 2, 1) := by decide +kernel
theorem dX7_append_36 : decode cX7_append 36 = .ok (.aload_n 0, 1) := by decide +kernel
theorem dX7_append_37 : decode cX7_append 37 = .ok (.getfield 9, 3) := by decide +kernel
theorem dX7_append_40 : decode cX7_append 40 = .ok (.getfield 93, 3) := by decide +kernel
theorem dX7_append_43 : decode cX7_append 43 = .ok (.iload_n 1, 1) := by decide +kernel
theorem dX7_append_44 : decode cX7_append 44 = .ok (.invokevirtual 131, 3) := by decide +kernel
theorem dX7_append_47 : decode cX7_append 47 = .ok (.invokevirtual 96, 3) := by decide +kernel
theorem dX7_append_50 : decode cX7_append 50 = .ok (.aload_n 0, 1) := by decide +kernel
theorem dX7_append_51 : decode cX7_append 51 = .ok (.getfield 9, 3) := by decide +kernel
theorem dX7_append_54 : decode cX7_append 54 = .ok (.getfield 151, 3) := by decide +kernel
theorem dX7_append_57 : decode cX7_append 57 = .ok (.iload_n 2, 1) := by decide +kernel
theorem dX7_append_58 : decode cX7_append 58 = .ok (.iload_n 1, 1) := by decide +kernel
theorem dX7_append_59 : decode cX7_append 59 = .ok (.invokevirtual 96, 3) := by decide +kernel
theorem dX7_append_62 : decode cX7_append 62 = .ok (.aload_n 0, 1) := by decide +kernel
theorem dX7_append_63 : decode cX7_append 63 = .ok (.getfield 9, 3) := by decide +kernel
theorem dX7_append_66 : decode cX7_append 66 = .ok (.getfield 154, 3) := by decide +kernel
theorem dX7_append_69 : decode cX7_append 69 = .ok (.iload_n 2, 1) := by decide +kernel
theorem dX7_append_70 : decode cX7_append 70 = .ok (.aload_n 0, 1) := by decide +kernel
theorem dX7_append_71 : decode cX7_append 71 = .ok (.getfield 9, 3) := by decide +kernel
theorem dX7_append_74 : decode cX7_append 74 = .ok (.getfield 99, 3) := by decide +kernel
theorem dX7_append_77 : decode cX7_append 77 = .ok (.iload_n 1, 1) := by decide +kernel
theorem dX7_append_78 : decode cX7_append 78 = .ok (.invokevirtual 157, 3) := by decide +kernel
theorem dX7_append_81 : decode cX7_append 81 = .ok (.aload_n 0, 1) := by decide +kernel
theorem dX7_append_82 : decode cX7_append 82 = .ok (.iload_n 2, 1) := by decide +kernel
theorem dX7_append_83 : decode cX7_append 83 = .ok (.invokevirtual 161, 3) := by decide +kernel
theorem dX7_append_86 : decode cX7_append 86 = .ok (.aload_n 0, 1) := by decide +kernel
theorem dX7_append_87 : decode cX7_append 87 = .ok (.getfield 9, 3) := by decide +kernel
theorem dX7_append_90 : decode cX7_append 90 = .ok (.getfield 99, 3) := by decide +kernel
theorem dX7_append_93 : decode cX7_append 93 = .ok (.iload_n 1, 1) := by decide +kernel
theorem dX7_append_94 : decode cX7_append 94 = .ok (.invokevirtual 103, 3) := by decide +kernel
theorem dX7_append_97 : decode cX7_append 97 = .ok (.aload_n 0, 1) := by decide +kernel
theorem dX7_append_98 : decode cX7_append 98 = .ok (.getfield 9, 3) := by decide +kernel
theorem dX7_append_101 : decode cX7_append 101 = .ok (.getfield 93, 3) := by decide +kernel
theorem dX7_append_104 : decode cX7_append 104 = .ok (.iload_n 1, 1) := by decide +kernel
theorem dX7_append_105 : decode cX7_append 105 = .ok (.iload_n 2, 1) := by decide +kernel
theorem dX7_append_106 : decode cX7_append 106 = .ok (.invokevirtual 96, 3) := by decide +kernel
theorem dX7_append_109 : decode cX7_append 109 = .ok (.aload_n 0, 1) := by decide +kernel
theorem dX7_append_110 : decode cX7_append 110 = .ok (.getfield 9, 3) := by decide +kernel
theorem dX7_append_113 : decode cX7_append 113 = .ok (.dup, 1) := by decide +kernel
theorem dX7_append_114 : decode cX7_append 114 = .ok (.getfield 142, 3) := by decide +kernel
theorem dX7_append_117 : decode cX7_append 117 = .ok (.iconst 1, 1) := by decide +kernel
theorem dX7_append_118 : decode cX7_append 118 = .ok (.iadd, 1) := by decide +kernel
theorem dX7_append_119 : decode cX7_append 119 = .ok (.putfield 142, 3) := by decide +kernel
theorem dX7_append_122 : decode cX7_append 122 = .ok (.aload_n 0, 1) := by decide +kernel
theorem dX7_append_123 : decode cX7_append 123 = .ok (.getfield 9, 3) := by decide +kernel
theorem dX7_append_126 : decode cX7_append 126 = .ok (.dup, 1) := by decide +kernel
theorem dX7_append_127 : decode cX7_append 127 = .ok (.getfield 164, 3) := by decide +kernel
theorem dX7_append_130 : decode cX7_append 130 = .ok (.iconst 1, 1) := by decide +kernel
theorem dX7_append_131 : decode cX7_append 131 = .ok (.iadd, 1) := by decide +kernel
theorem dX7_append_132 : decode cX7_append 132 = .ok (.putfield 164, 3) := by decide +kernel
theorem dX7_append_135 : decode cX7_append 135 = .ok (.iload_n 3, 1) := by decide +kernel
theorem dX7_append_136 : decode cX7_append 136 = .ok (.ireturn, 1) := by decide +kernel
theorem dX7_seal_0 : decode cX7_seal 0 = .ok (.aload_n 0, 1) := by decide +kernel
theorem dX7_seal_1 : decode cX7_seal 1 = .ok (.getfield 9, 3) := by decide +kernel
theorem dX7_seal_4 : decode cX7_seal 4 = .ok (.getfield 167, 3) := by decide +kernel
theorem dX7_seal_7 : decode cX7_seal 7 = .ok (.aload_n 0, 1) := by decide +kernel
theorem dX7_seal_8 : decode cX7_seal 8 = .ok (.getfield 9, 3) := by decide +kernel
theorem dX7_seal_11 : decode cX7_seal 11 = .ok (.getfield 148, 3) := by decide +kernel
theorem dX7_seal_14 : decode cX7_seal 14 = .ok (.iload_n 1, 1) := by decide +kernel
theorem dX7_seal_15 : decode cX7_seal 15 = .ok (.invokevirtual 131, 3) := by decide +kernel
theorem dX7_seal_18 : decode cX7_seal 18 = .ok (.invokevirtual 131, 3) := by decide +kernel
theorem dX7_seal_21 : decode cX7_seal 21 = .ok (.istore_n 2, 1) := by decide +kernel
theorem dX7_seal_22 : decode cX7_seal 22 = .ok (.aload_n 0, 1) := by decide +kernel
theorem dX7_seal_23 : decode cX7_seal 23 = .ok (.getfield 9, 3) := by decide +kernel
theorem dX7_seal_26 : decode cX7_seal 26 = .ok (.getfield 154, 3) := by decide +kernel
theorem dX7_seal_29 : decode cX7_seal 29 = .ok (.iload_n 1, 1) := by decide +kernel
theorem dX7_seal_30 : decode cX7_seal 30 = .ok (.invokevirtual 170, 3) := by decide +kernel
theorem dX7_seal_33 : decode cX7_seal 33 = .ok (.istore_n 3, 1) := by decide +kernel
theorem dX7_seal_34 : decode cX7_seal 34 = .ok (.iload_n 2, 1) := by decide +kernel
theorem dX7_seal_35 : decode cX7_seal 35 = .ok (.iload_n 3, 1) := by decide +kernel
theorem dX7_seal_36 : decode cX7_seal 36 = .ok (.aload_n 0, 1) := by decide +kernel
theorem dX7_seal_37 : decode cX7_seal 37 = .ok (.getfield 9, 3) := by decide +kernel
theorem dX7_seal_40 : decode cX7_seal 40 = .ok (.getfield 151, 3) := by decide +kernel
theorem dX7_seal_43 : decode cX7_seal 43 = .ok (.iload_n 1, 1) := by decide +kernel
theorem dX7_seal_44 : decode cX7_seal 44 = .ok (.invokevirtual 131, 3) := by decide +kernel
theorem dX7_seal_47 : decode cX7_seal 47 = .ok (.invokestatic 173, 3) := by decide +kernel
theorem dX7_seal_50 : decode cX7_seal 50 = .ok (.istore 4, 2) := by decide +kernel
theorem dX7_seal_52 : decode cX7_seal 52 = .ok (.aload_n 0, 1) := by decide +kernel
theorem dX7_seal_53 : decode cX7_seal 53 = .ok (.getfield 9, 3) := by decide +kernel
theorem dX7_seal_56 : decode cX7_seal 56 = .ok (.getfield 176, 3) := by decide +kernel
theorem dX7_seal_59 : decode cX7_seal 59 = .ok (.iload_n 1, 1) := by decide +kernel
theorem dX7_seal_60 : decode cX7_seal 60 = .ok (.iload 4, 2) := by decide +kernel
theorem dX7_seal_62 : decode cX7_seal 62 = .ok (.invokevirtual 96, 3) := by decide +kernel
theorem dX7_seal_65 : decode cX7_seal 65 = .ok (.aload_n 0, 1) := by decide +kernel
theorem dX7_seal_66 : decode cX7_seal 66 = .ok (.getfield 9, 3) := by decide +kernel
theorem dX7_seal_69 : decode cX7_seal 69 = .ok (.getfield 167, 3) := by decide +kernel
theorem dX7_seal_72 : decode cX7_seal 72 = .ok (.iload_n 1, 1) := by decide +kernel
theorem dX7_seal_73 : decode cX7_seal 73 = .ok (.iload_n 2, 1) := by decide +kernel
theorem dX7_seal_74 : decode cX7_seal 74 = .ok (.iload_n 3, 1) := by decide +kernel
theorem dX7_seal_75 : decode cX7_seal 75 = .ok (.aload_n 0, 1) := by decide +kernel
theorem dX7_seal_76 : decode cX7_seal 76 = .ok (.getfield 9, 3) := by decide +kernel
theorem dX7_seal_79 : decode cX7_seal 79 = .ok (.getfield 151, 3) := by decide +kernel
theorem dX7_seal_82 : decode cX7_seal 82 = .ok (.iload_n 1, 1) := by decide +kernel
theorem dX7_seal_83 : decode cX7_seal 83 = .ok (.invokevirtual 131, 3) := by decide +kernel
theorem dX7_seal_86 : decode cX7_seal 86 = .ok (.iload 4, 2) := by decide +kernel
theorem dX7_seal_88 : decode cX7_seal 88 = .ok (.invokestatic 179, 3) := by decide +kernel
theorem dX7_seal_91 : decode cX7_seal 91 = .ok (.invokevirtual 96, 3) := by decide +kernel
theorem dX7_seal_94 : decode cX7_seal 94 = .ok (.return_, 1) := by decide +kernel
theorem dX7_refusalToTurn_0 : decode cX7_refusalToTurn 0 = .ok (.aload_n 0, 1) := by decide +kernel
theorem dX7_refusalToTurn_1 : decode cX7_refusalToTurn 1 = .ok (.getfield 9, 3) := by decide +kernel
theorem dX7_refusalToTurn_4 : decode cX7_refusalToTurn 4 = .ok (.iload_n 1, 1) := by decide +kernel
theorem dX7_refusalToTurn_5 : decode cX7_refusalToTurn 5 = .ok (.invokevirtual 109, 3) := by decide +kernel
theorem dX7_refusalToTurn_8 : decode cX7_refusalToTurn 8 = .ok (.ifCond .ne 7, 3) := by decide +kernel
theorem dX7_refusalToTurn_11 : decode cX7_refusalToTurn 11 = .ok (.getstatic 113, 3) := by decide +kernel
theorem dX7_refusalToTurn_14 : decode cX7_refusalToTurn 14 = .ok (.areturn, 1) := by decide +kernel
theorem dX7_refusalToTurn_15 : decode cX7_refusalToTurn 15 = .ok (.aload_n 0, 1) := by decide +kernel
theorem dX7_refusalToTurn_16 : decode cX7_refusalToTurn 16 = .ok (.getfield 9, 3) := by decide +kernel
theorem dX7_refusalToTurn_19 : decode cX7_refusalToTurn 19 = .ok (.iload_n 2, 1) := by decide +kernel
theorem dX7_refusalToTurn_20 : decode cX7_refusalToTurn 20 = .ok (.invokevirtual 183, 3) := by decide +kernel
theorem dX7_refusalToTurn_23 : decode cX7_refusalToTurn 23 = .ok (.iconst (-1), 1) := by decide +kernel
theorem dX7_refusalToTurn_24 : decode cX7_refusalToTurn 24 = .ok (.if_icmp .ne 9, 3) := by decide +kernel
theorem dX7_refusalToTurn_27 : decode cX7_refusalToTurn 27 = .ok (.getstatic 186, 3) := by decide +kernel
theorem dX7_refusalToTurn_30 : decode cX7_refusalToTurn 30 = .ok (.goto 6, 3) := by decide +kernel
theorem dX7_refusalToTurn_33 : decode cX7_refusalToTurn 33 = .ok (.getstatic 84, 3) := by decide +kernel
theorem dX7_refusalToTurn_36 : decode cX7_refusalToTurn 36 = .ok (.areturn, 1) := by decide +kernel
theorem dX7_turn_0 : decode cX7_turn 0 = .ok (.aload_n 0, 1) := by decide +kernel
theorem dX7_turn_1 : decode cX7_turn 1 = .ok (.getfield 9, 3) := by decide +kernel
theorem dX7_turn_4 : decode cX7_turn 4 = .ok (.getfield 145, 3) := by decide +kernel
theorem dX7_turn_7 : decode cX7_turn 7 = .ok (.aload_n 0, 1) := by decide +kernel
theorem dX7_turn_8 : decode cX7_turn 8 = .ok (.getfield 9, 3) := by decide +kernel
theorem dX7_turn_11 : decode cX7_turn 11 = .ok (.getfield 93, 3) := by decide +kernel
theorem dX7_turn_14 : decode cX7_turn 14 = .ok (.iload_n 1, 1) := by decide +kernel
theorem dX7_turn_15 : decode cX7_turn 15 = .ok (.invokevirtual 131, 3) := by decide +kernel
theorem dX7_turn_18 : decode cX7_turn 18 = .ok (.invokevirtual 131, 3) := by decide +kernel
theorem dX7_turn_21 : decode cX7_turn 21 = .ok (.istore_n 3, 1) := by decide +kernel
theorem dX7_turn_22 : decode cX7_turn 22 = .ok (.aload_n 0, 1) := by decide +kernel
theorem dX7_turn_23 : decode cX7_turn 23 = .ok (.getfield 9, 3) := by decide +kernel
theorem dX7_turn_26 : decode cX7_turn 26 = .ok (.getfield 93, 3) := by decide +kernel
theorem dX7_turn_29 : decode cX7_turn 29 = .ok (.iload_n 1, 1) := by decide +kernel
theorem dX7_turn_30 : decode cX7_turn 30 = .ok (.aload_n 0, 1) := by decide +kernel
theorem dX7_turn_31 : decode cX7_turn 31 = .ok (.getfield 9, 3) := by decide +kernel
theorem dX7_turn_34 : decode cX7_turn 34 = .ok (.iload_n 2, 1) := by decide +kernel
theorem dX7_turn_35 : decode cX7_turn 35 = .ok (.invokevirtual 183, 3) := by decide +kernel
theorem dX7_turn_38 : decode cX7_turn 38 = .ok (.invokevirtual 96, 3) := by decide +kernel
theorem dX7_turn_41 : decode cX7_turn 41 = .ok (.iload_n 3, 1) := by decide +kernel
theorem dX7_turn_42 : decode cX7_turn 42 = .ok (.ireturn, 1) := by decide +kernel
theorem dX7_refusalToRemove_0 : decode cX7_refusalToRemove 0 = .ok (.aload_n 0, 1) := by decide +kernel
theorem dX7_refusalToRemove_1 : decode cX7_refusalToRemove 1 = .ok (.getfield 9, 3) := by decide +kernel
theorem dX7_refusalToRemove_4 : decode cX7_refusalToRemove 4 = .ok (.iload_n 1, 1) := by decide +kernel
theorem dX7_refusalToRemove_5 : decode cX7_refusalToRemove 5 = .ok (.invokevirtual 183, 3) := by decide +kernel
theorem dX7_refusalToRemove_8 : decode cX7_refusalToRemove 8 = .ok (.istore_n 2, 1) := by decide +kernel
theorem dX7_refusalToRemove_9 : decode cX7_refusalToRemove 9 = .ok (.iload_n 2, 1) := by decide +kernel
theorem dX7_refusalToRemove_10 : decode cX7_refusalToRemove 10 = .ok (.iconst (-1), 1) := by decide +kernel
theorem dX7_refusalToRemove_11 : decode cX7_refusalToRemove 11 = .ok (.if_icmp .ne 7, 3) := by decide +kernel
theorem dX7_refusalToRemove_14 : decode cX7_refusalToRemove 14 = .ok (.getstatic 186, 3) := by decide +kernel
theorem dX7_refusalToRemove_17 : decode cX7_refusalToRemove 17 = .ok (.areturn, 1) := by decide +kernel
theorem dX7_refusalToRemove_18 : decode cX7_refusalToRemove 18 = .ok (.iload_n 2, 1) := by decide +kernel
theorem dX7_refusalToRemove_19 : decode cX7_refusalToRemove 19 = .ok (.ifCond .ne 9, 3) := by decide +kernel
theorem dX7_refusalToRemove_22 : decode cX7_refusalToRemove 22 = .ok (.getstatic 119, 3) := by decide +kernel
theorem dX7_refusalToRemove_25 : decode cX7_refusalToRemove 25 = .ok (.goto 6, 3) := by decide +kernel
theorem dX7_refusalToRemove_28 : decode cX7_refusalToRemove 28 = .ok (.getstatic 84, 3) := by decide +kernel
theorem dX7_refusalToRemove_31 : decode cX7_refusalToRemove 31 = .ok (.areturn, 1) := by decide +kernel
theorem dX7_remove_0 : decode cX7_remove 0 = .ok (.aload_n 0, 1) := by decide +kernel
theorem dX7_remove_1 : decode cX7_remove 1 = .ok (.getfield 9, 3) := by decide +kernel
theorem dX7_remove_4 : decode cX7_remove 4 = .ok (.iload_n 1, 1) := by decide +kernel
theorem dX7_remove_5 : decode cX7_remove 5 = .ok (.invokevirtual 183, 3) := by decide +kernel
theorem dX7_remove_8 : decode cX7_remove 8 = .ok (.istore_n 2, 1) := by decide +kernel
theorem dX7_remove_9 : decode cX7_remove 9 = .ok (.aload_n 0, 1) := by decide +kernel
theorem dX7_remove_10 : decode cX7_remove 10 = .ok (.getfield 9, 3) := by decide +kernel
theorem dX7_remove_13 : decode cX7_remove 13 = .ok (.getfield 148, 3) := by decide +kernel
theorem dX7_remove_16 : decode cX7_remove 16 = .ok (.iload_n 2, 1) := by decide +kernel
theorem dX7_remove_17 : decode cX7_remove 17 = .ok (.invokevirtual 131, 3) := by decide +kernel
theorem dX7_remove_20 : decode cX7_remove 20 = .ok (.istore_n 3, 1) := by decide +kernel
theorem dX7_remove_21 : decode cX7_remove 21 = .ok (.iconst 0, 1) := by decide +kernel
theorem dX7_remove_22 : decode cX7_remove 22 = .ok (.istore 4, 2) := by decide +kernel
theorem dX7_remove_24 : decode cX7_remove 24 = .ok (.iload 4, 2) := by decide +kernel
theorem dX7_remove_26 : decode cX7_remove 26 = .ok (.bipush 16, 2) := by decide +kernel
theorem dX7_remove_28 : decode cX7_remove 28 = .ok (.if_icmp .ge 36, 3) := by decide +kernel
theorem dX7_remove_31 : decode cX7_remove 31 = .ok (.aload_n 0, 1) := by decide +kernel
theorem dX7_remove_32 : decode cX7_remove 32 = .ok (.getfield 24, 3) := by decide +kernel
theorem dX7_remove_35 : decode cX7_remove 35 = .ok (.iload 4, 2) := by decide +kernel
theorem dX7_remove_37 : decode cX7_remove 37 = .ok (.aload_n 0, 1) := by decide +kernel
theorem dX7_remove_38 : decode cX7_remove 38 = .ok (.getfield 15, 3) := by decide +kernel
theorem dX7_remove_41 : decode cX7_remove 41 = .ok (.iload 4, 2) := by decide +kernel
theorem dX7_remove_43 : decode cX7_remove 43 = .ok (.iload_n 2, 1) := by decide +kernel
theorem dX7_remove_44 : decode cX7_remove 44 = .ok (.invokevirtual 189, 3) := by decide +kernel
theorem dX7_remove_47 : decode cX7_remove 47 = .ok (.ifCond .eq 7, 3) := by decide +kernel
theorem dX7_remove_50 : decode cX7_remove 50 = .ok (.iconst 1, 1) := by decide +kernel
theorem dX7_remove_51 : decode cX7_remove 51 = .ok (.goto 4, 3) := by decide +kernel
theorem dX7_remove_54 : decode cX7_remove 54 = .ok (.iconst 0, 1) := by decide +kernel
theorem dX7_remove_55 : decode cX7_remove 55 = .ok (.invokevirtual 96, 3) := by decide +kernel
theorem dX7_remove_58 : decode cX7_remove 58 = .ok (.iinc 4 1, 3) := by decide +kernel
theorem dX7_remove_61 : decode cX7_remove 61 = .ok (.goto (-37), 3) := by decide +kernel
theorem dX7_remove_64 : decode cX7_remove 64 = .ok (.iconst 0, 1) := by decide +kernel
theorem dX7_remove_65 : decode cX7_remove 65 = .ok (.istore 4, 2) := by decide +kernel
theorem dX7_remove_67 : decode cX7_remove 67 = .ok (.iload 4, 2) := by decide +kernel
theorem dX7_remove_69 : decode cX7_remove 69 = .ok (.aload_n 0, 1) := by decide +kernel
theorem dX7_remove_70 : decode cX7_remove 70 = .ok (.getfield 9, 3) := by decide +kernel
theorem dX7_remove_73 : decode cX7_remove 73 = .ok (.getfield 78, 3) := by decide +kernel
theorem dX7_remove_76 : decode cX7_remove 76 = .ok (.if_icmp .ge 45, 3) := by decide +kernel
theorem dX7_remove_79 : decode cX7_remove 79 = .ok (.aload_n 0, 1) := by decide +kernel
theorem dX7_remove_80 : decode cX7_remove 80 = .ok (.getfield 24, 3) := by decide +kernel
theorem dX7_remove_83 : decode cX7_remove 83 = .ok (.aload_n 0, 1) := by decide +kernel
theorem dX7_remove_84 : decode cX7_remove 84 = .ok (.getfield 9, 3) := by decide +kernel
theorem dX7_remove_87 : decode cX7_remove 87 = .ok (.getfield 93, 3) := by decide +kernel
theorem dX7_remove_90 : decode cX7_remove 90 = .ok (.iload 4, 2) := by decide +kernel
theorem dX7_remove_92 : decode cX7_remove 92 = .ok (.invokevirtual 131, 3) := by decide +kernel
theorem dX7_remove_95 : decode cX7_remove 95 = .ok (.invokevirtual 131, 3) := by decide +kernel
theorem dX7_remove_98 : decode cX7_remove 98 = .ok (.iconst 1, 1) := by decide +kernel
theorem dX7_remove_99 : decode cX7_remove 99 = .ok (.if_icmp .ne 16, 3) := by decide +kernel
theorem dX7_remove_102 : decode cX7_remove 102 = .ok (.aload_n 0, 1) := by decide +kernel
theorem dX7_remove_103 : decode cX7_remove 103 = .ok (.getfield 9, 3) := by decide +kernel
theorem dX7_remove_106 : decode cX7_remove 106 = .ok (.getfield 93, 3) := by decide +kernel
theorem dX7_remove_109 : decode cX7_remove 109 = .ok (.iload 4, 2) := by decide +kernel
theorem dX7_remove_111 : decode cX7_remove 111 = .ok (.iload_n 3, 1) := by decide +kernel
theorem dX7_remove_112 : decode cX7_remove 112 = .ok (.invokevirtual 96, 3) := by decide +kernel
theorem dX7_remove_115 : decode cX7_remove 115 = .ok (.iinc 4 1, 3) := by decide +kernel
theorem dX7_remove_118 : decode cX7_remove 118 = .ok (.goto (-51), 3) := by decide +kernel
theorem dX7_remove_121 : decode cX7_remove 121 = .ok (.iconst 0, 1) := by decide +kernel
theorem dX7_remove_122 : decode cX7_remove 122 = .ok (.istore 4, 2) := by decide +kernel
theorem dX7_remove_124 : decode cX7_remove 124 = .ok (.iconst 0, 1) := by decide +kernel
theorem dX7_remove_125 : decode cX7_remove 125 = .ok (.istore 5, 2) := by decide +kernel
theorem dX7_remove_127 : decode cX7_remove 127 = .ok (.iload 5, 2) := by decide +kernel
theorem dX7_remove_129 : decode cX7_remove 129 = .ok (.bipush 16, 2) := by decide +kernel
theorem dX7_remove_131 : decode cX7_remove 131 = .ok (.if_icmp .ge 34, 3) := by decide +kernel
theorem dX7_remove_134 : decode cX7_remove 134 = .ok (.aload_n 0, 1) := by decide +kernel
theorem dX7_remove_135 : decode cX7_remove 135 = .ok (.getfield 24, 3) := by decide +kernel
theorem dX7_remove_138 : decode cX7_remove 138 = .ok (.iload 5, 2) := by decide +kernel
theorem dX7_remove_140 : decode cX7_remove 140 = .ok (.invokevirtual 131, 3) := by decide +kernel
theorem dX7_remove_143 : decode cX7_remove 143 = .ok (.iconst 1, 1) := by decide +kernel
theorem dX7_remove_144 : decode cX7_remove 144 = .ok (.if_icmp .ne 15, 3) := by decide +kernel
theorem dX7_remove_147 : decode cX7_remove 147 = .ok (.aload_n 0, 1) := by decide +kernel
theorem dX7_remove_148 : decode cX7_remove 148 = .ok (.getfield 9, 3) := by decide +kernel
theorem dX7_remove_151 : decode cX7_remove 151 = .ok (.iload 5, 2) := by decide +kernel
theorem dX7_remove_153 : decode cX7_remove 153 = .ok (.invokevirtual 193, 3) := by decide +kernel
theorem dX7_remove_156 : decode cX7_remove 156 = .ok (.iinc 4 1, 3) := by decide +kernel
theorem dX7_remove_159 : decode cX7_remove 159 = .ok (.iinc 5 1, 3) := by decide +kernel
theorem dX7_remove_162 : decode cX7_remove 162 = .ok (.goto (-35), 3) := by decide +kernel
theorem dX7_remove_165 : decode cX7_remove 165 = .ok (.aload_n 0, 1) := by decide +kernel
theorem dX7_remove_166 : decode cX7_remove 166 = .ok (.getfield 9, 3) := by decide +kernel
theorem dX7_remove_169 : decode cX7_remove 169 = .ok (.dup, 1) := by decide +kernel
theorem dX7_remove_170 : decode cX7_remove 170 = .ok (.getfield 196, 3) := by decide +kernel
theorem dX7_remove_173 : decode cX7_remove 173 = .ok (.iload 4, 2) := by decide +kernel
theorem dX7_remove_175 : decode cX7_remove 175 = .ok (.iadd, 1) := by decide +kernel
theorem dX7_remove_176 : decode cX7_remove 176 = .ok (.putfield 196, 3) := by decide +kernel
theorem dX7_remove_179 : decode cX7_remove 179 = .ok (.iload 4, 2) := by decide +kernel
theorem dX7_remove_181 : decode cX7_remove 181 = .ok (.ireturn, 1) := by decide +kernel
theorem dX7_refusalToSwap_0 : decode cX7_refusalToSwap 0 = .ok (.aload_n 0, 1) := by decide +kernel
theorem dX7_refusalToSwap_1 : decode cX7_refusalToSwap 1 = .ok (.getfield 9, 3) := by decide +kernel
theorem dX7_refusalToSwap_4 : decode cX7_refusalToSwap 4 = .ok (.iload_n 1, 1) := by decide +kernel
theorem dX7_refusalToSwap_5 : decode cX7_refusalToSwap 5 = .ok (.invokevirtual 183, 3) := by decide +kernel
theorem dX7_refusalToSwap_8 : decode cX7_refusalToSwap 8 = .ok (.istore 4, 2) := by decide +kernel
theorem dX7_refusalToSwap_10 : decode cX7_refusalToSwap 10 = .ok (.iload 4, 2) := by decide +kernel
theorem dX7_refusalToSwap_12 : decode cX7_refusalToSwap 12 = .ok (.iconst (-1), 1) := by decide +kernel
theorem dX7_refusalToSwap_13 : decode cX7_refusalToSwap 13 = .ok (.if_icmp .ne 7, 3) := by decide +kernel
theorem dX7_refusalToSwap_16 : decode cX7_refusalToSwap 16 = .ok (.getstatic 186, 3) := by decide +kernel
theorem dX7_refusalToSwap_19 : decode cX7_refusalToSwap 19 = .ok (.areturn, 1) := by decide +kernel
theorem dX7_refusalToSwap_20 : decode cX7_refusalToSwap 20 = .ok (.aload_n 0, 1) := by decide +kernel
theorem dX7_refusalToSwap_21 : decode cX7_refusalToSwap 21 = .ok (.getfield 9, 3) := by decide +kernel
theorem dX7_refusalToSwap_24 : decode cX7_refusalToSwap 24 = .ok (.getfield 154, 3) := by decide +kernel
theorem dX7_refusalToSwap_27 : decode cX7_refusalToSwap 27 = .ok (.iload 4, 2) := by decide +kernel
theorem dX7_refusalToSwap_29 : decode cX7_refusalToSwap 29 = .ok (.iload_n 2, 1) := by decide +kernel
theorem dX7_refusalToSwap_30 : decode cX7_refusalToSwap 30 = .ok (.invokevirtual 199, 3) := by decide +kernel
theorem dX7_refusalToSwap_33 : decode cX7_refusalToSwap 33 = .ok (.ifCond .ne 7, 3) := by decide +kernel
theorem dX7_refusalToSwap_36 : decode cX7_refusalToSwap 36 = .ok (.getstatic 113, 3) := by decide +kernel
theorem dX7_refusalToSwap_39 : decode cX7_refusalToSwap 39 = .ok (.areturn, 1) := by decide +kernel
theorem dX7_refusalToSwap_40 : decode cX7_refusalToSwap 40 = .ok (.iload_n 3, 1) := by decide +kernel
theorem dX7_refusalToSwap_41 : decode cX7_refusalToSwap 41 = .ok (.invokestatic 116, 3) := by decide +kernel
theorem dX7_refusalToSwap_44 : decode cX7_refusalToSwap 44 = .ok (.ifCond .eq 9, 3) := by decide +kernel
theorem dX7_refusalToSwap_47 : decode cX7_refusalToSwap 47 = .ok (.getstatic 84, 3) := by decide +kernel
theorem dX7_refusalToSwap_50 : decode cX7_refusalToSwap 50 = .ok (.goto 6, 3) := by decide +kernel
theorem dX7_refusalToSwap_53 : decode cX7_refusalToSwap 53 = .ok (.getstatic 119, 3) := by decide +kernel
theorem dX7_refusalToSwap_56 : decode cX7_refusalToSwap 56 = .ok (.areturn, 1) := by decide +kernel
theorem dX7_swap_0 : decode cX7_swap 0 = .ok (.aload_n 0, 1) := by decide +kernel
theorem dX7_swap_1 : decode cX7_swap 1 = .ok (.getfield 9, 3) := by decide +kernel
theorem dX7_swap_4 : decode cX7_swap 4 = .ok (.iload_n 1, 1) := by decide +kernel
theorem dX7_swap_5 : decode cX7_swap 5 = .ok (.invokevirtual 183, 3) := by decide +kernel
theorem dX7_swap_8 : decode cX7_swap 8 = .ok (.istore 4, 2) := by decide +kernel
theorem dX7_swap_10 : decode cX7_swap 10 = .ok (.aload_n 0, 1) := by decide +kernel
theorem dX7_swap_11 : decode cX7_swap 11 = .ok (.getfield 9, 3) := by decide +kernel
theorem dX7_swap_14 : decode cX7_swap 14 = .ok (.getfield 154, 3) := by decide +kernel
theorem dX7_swap_17 : decode cX7_swap 17 = .ok (.iload 4, 2) := by decide +kernel
theorem dX7_swap_19 : decode cX7_swap 19 = .ok (.iload_n 2, 1) := by decide +kernel
theorem dX7_swap_20 : decode cX7_swap 20 = .ok (.invokevirtual 202, 3) := by decide +kernel
theorem dX7_swap_23 : decode cX7_swap 23 = .ok (.istore 5, 2) := by decide +kernel
theorem dX7_swap_25 : decode cX7_swap 25 = .ok (.aload_n 0, 1) := by decide +kernel
theorem dX7_swap_26 : decode cX7_swap 26 = .ok (.getfield 9, 3) := by decide +kernel
theorem dX7_swap_29 : decode cX7_swap 29 = .ok (.getfield 154, 3) := by decide +kernel
theorem dX7_swap_32 : decode cX7_swap 32 = .ok (.iload 4, 2) := by decide +kernel
theorem dX7_swap_34 : decode cX7_swap 34 = .ok (.iload_n 2, 1) := by decide +kernel
theorem dX7_swap_35 : decode cX7_swap 35 = .ok (.iload_n 3, 1) := by decide +kernel
theorem dX7_swap_36 : decode cX7_swap 36 = .ok (.invokevirtual 205, 3) := by decide +kernel
theorem dX7_swap_39 : decode cX7_swap 39 = .ok (.iload 5, 2) := by decide +kernel
theorem dX7_swap_41 : decode cX7_swap 41 = .ok (.ireturn, 1) := by decide +kernel
theorem dX7_refusalToMend_0 : decode cX7_refusalToMend 0 = .ok (.aload_n 0, 1) := by decide +kernel
theorem dX7_refusalToMend_1 : decode cX7_refusalToMend 1 = .ok (.iload_n 1, 1) := by decide +kernel
theorem dX7_refusalToMend_2 : decode cX7_refusalToMend 2 = .ok (.invokevirtual 43, 3) := by decide +kernel
theorem dX7_refusalToMend_5 : decode cX7_refusalToMend 5 = .ok (.astore_n 2, 1) := by decide +kernel
theorem dX7_refusalToMend_6 : decode cX7_refusalToMend 6 = .ok (.aload_n 2, 1) := by decide +kernel
theorem dX7_refusalToMend_7 : decode cX7_refusalToMend 7 = .ok (.getstatic 84, 3) := by decide +kernel
theorem dX7_refusalToMend_10 : decode cX7_refusalToMend 10 = .ok (.if_acmp .eq 5, 3) := by decide +kernel
theorem dX7_refusalToMend_13 : decode cX7_refusalToMend 13 = .ok (.aload_n 2, 1) := by decide +kernel
theorem dX7_refusalToMend_14 : decode cX7_refusalToMend 14 = .ok (.areturn, 1) := by decide +kernel
theorem dX7_refusalToMend_15 : decode cX7_refusalToMend 15 = .ok (.aload_n 0, 1) := by decide +kernel
theorem dX7_refusalToMend_16 : decode cX7_refusalToMend 16 = .ok (.getfield 15, 3) := by decide +kernel
theorem dX7_refusalToMend_19 : decode cX7_refusalToMend 19 = .ok (.aload_n 0, 1) := by decide +kernel
theorem dX7_refusalToMend_20 : decode cX7_refusalToMend 20 = .ok (.getfield 9, 3) := by decide +kernel
theorem dX7_refusalToMend_23 : decode cX7_refusalToMend 23 = .ok (.iload_n 1, 1) := by decide +kernel
theorem dX7_refusalToMend_24 : decode cX7_refusalToMend 24 = .ok (.invokevirtual 183, 3) := by decide +kernel
theorem dX7_refusalToMend_27 : decode cX7_refusalToMend 27 = .ok (.invokevirtual 209, 3) := by decide +kernel
theorem dX7_refusalToMend_30 : decode cX7_refusalToMend 30 = .ok (.ifCond .eq 9, 3) := by decide +kernel
theorem dX7_refusalToMend_33 : decode cX7_refusalToMend 33 = .ok (.getstatic 90, 3) := by decide +kernel
theorem dX7_refusalToMend_36 : decode cX7_refusalToMend 36 = .ok (.goto 6, 3) := by decide +kernel
theorem dX7_refusalToMend_39 : decode cX7_refusalToMend 39 = .ok (.getstatic 84, 3) := by decide +kernel
theorem dX7_refusalToMend_42 : decode cX7_refusalToMend 42 = .ok (.areturn, 1) := by decide +kernel
theorem dX7_mend_0 : decode cX7_mend 0 = .ok (.aload_n 0, 1) := by decide +kernel
theorem dX7_mend_1 : decode cX7_mend 1 = .ok (.getfield 9, 3) := by decide +kernel
theorem dX7_mend_4 : decode cX7_mend 4 = .ok (.iload_n 1, 1) := by decide +kernel
theorem dX7_mend_5 : decode cX7_mend 5 = .ok (.invokevirtual 183, 3) := by decide +kernel
theorem dX7_mend_8 : decode cX7_mend 8 = .ok (.istore_n 2, 1) := by decide +kernel
theorem dX7_mend_9 : decode cX7_mend 9 = .ok (.aload_n 0, 1) := by decide +kernel
theorem dX7_mend_10 : decode cX7_mend 10 = .ok (.iload_n 2, 1) := by decide +kernel
theorem dX7_mend_11 : decode cX7_mend 11 = .ok (.invokevirtual 161, 3) := by decide +kernel
theorem dX7_mend_14 : decode cX7_mend 14 = .ok (.aload_n 0, 1) := by decide +kernel
theorem dX7_mend_15 : decode cX7_mend 15 = .ok (.getfield 9, 3) := by decide +kernel
theorem dX7_mend_18 : decode cX7_mend 18 = .ok (.getfield 167, 3) := by decide +kernel
theorem dX7_mend_21 : decode cX7_mend 21 = .ok (.iload_n 2, 1) := by decide +kernel
theorem dX7_mend_22 : decode cX7_mend 22 = .ok (.invokevirtual 131, 3) := by decide +kernel
theorem dX7_mend_25 : decode cX7_mend 25 = .ok (.ireturn, 1) := by decide +kernel
theorem dX8_init_0 : decode cX8_init 0 = .ok (.aload_n 0, 1) := by decide +kernel
theorem dX8_init_1 : decode cX8_init 1 = .ok (.invokespecial 1, 3) := by decide +kernel
theorem dX8_init_4 : decode cX8_init 4 = .ok (.aload_n 0, 1) := by decide +kernel
theorem dX8_init_5 : decode cX8_init 5 = .ok (.new 7, 3) := by decide +kernel
theorem dX8_init_8 : decode cX8_init 8 = .ok (.dup, 1) := by decide +kernel
theorem dX8_init_9 : decode cX8_init 9 = .ok (.invokespecial 9, 3) := by decide +kernel
theorem dX8_init_12 : decode cX8_init 12 = .ok (.putfield 10, 3) := by decide +kernel
theorem dX8_init_15 : decode cX8_init 15 = .ok (.aload_n 0, 1) := by decide +kernel
theorem dX8_init_16 : decode cX8_init 16 = .ok (.new 16, 3) := by decide +kernel
theorem dX8_init_19 : decode cX8_init 19 = .ok (.dup, 1) := by decide +kernel
theorem dX8_init_20 : decode cX8_init 20 = .ok (.aload_n 0, 1) := by decide +kernel
theorem dX8_init_21 : decode cX8_init 21 = .ok (.getfield 10, 3) := by decide +kernel
theorem dX8_init_24 : decode cX8_init 24 = .ok (.invokespecial 18, 3) := by decide +kernel
theorem dX8_init_27 : decode cX8_init 27 = .ok (.putfield 21, 3) := by decide +kernel
theorem dX8_init_30 : decode cX8_init 30 = .ok (.aload_n 0, 1) := by decide +kernel
theorem dX8_init_31 : decode cX8_init 31 = .ok (.new 25, 3) := by decide +kernel
theorem dX8_init_34 : decode cX8_init 34 = .ok (.dup, 1) := by decide +kernel
theorem dX8_init_35 : decode cX8_init 35 = .ok (.aload_n 0, 1) := by decide +kernel
theorem dX8_init_36 : decode cX8_init 36 = .ok (.getfield 10, 3) := by decide +kernel
theorem dX8_init_39 : decode cX8_init 39 = .ok (.aload_n 0, 1) := by decide +kernel
theorem dX8_init_40 : decode cX8_init 40 = .ok (.getfield 21, 3) := by decide +kernel
theorem dX8_init_43 : decode cX8_init 43 = .ok (.invokespecial 27, 3) := by decide +kernel
theorem dX8_init_46 : decode cX8_init 46 = .ok (.putfield 30, 3) := by decide +kernel
theorem dX8_init_49 : decode cX8_init 49 = .ok (.aload_n 0, 1) := by decide +kernel
theorem dX8_init_50 : decode cX8_init 50 = .ok (.new 34, 3) := by decide +kernel
theorem dX8_init_53 : decode cX8_init 53 = .ok (.dup, 1) := by decide +kernel
theorem dX8_init_54 : decode cX8_init 54 = .ok (.invokespecial 36, 3) := by decide +kernel
theorem dX8_init_57 : decode cX8_init 57 = .ok (.putfield 37, 3) := by decide +kernel
theorem dX8_init_60 : decode cX8_init 60 = .ok (.aload_n 0, 1) := by decide +kernel
theorem dX8_init_61 : decode cX8_init 61 = .ok (.new 7, 3) := by decide +kernel
theorem dX8_init_64 : decode cX8_init 64 = .ok (.dup, 1) := by decide +kernel
theorem dX8_init_65 : decode cX8_init 65 = .ok (.invokespecial 9, 3) := by decide +kernel
theorem dX8_init_68 : decode cX8_init 68 = .ok (.putfield 41, 3) := by decide +kernel
theorem dX8_init_71 : decode cX8_init 71 = .ok (.aload_n 0, 1) := by decide +kernel
theorem dX8_init_72 : decode cX8_init 72 = .ok (.new 7, 3) := by decide +kernel
theorem dX8_init_75 : decode cX8_init 75 = .ok (.dup, 1) := by decide +kernel
theorem dX8_init_76 : decode cX8_init 76 = .ok (.invokespecial 9, 3) := by decide +kernel
theorem dX8_init_79 : decode cX8_init 79 = .ok (.putfield 44, 3) := by decide +kernel
theorem dX8_init_82 : decode cX8_init 82 = .ok (.aload_n 0, 1) := by decide +kernel
theorem dX8_init_83 : decode cX8_init 83 = .ok (.new 47, 3) := by decide +kernel
theorem dX8_init_86 : decode cX8_init 86 = .ok (.dup, 1) := by decide +kernel
theorem dX8_init_87 : decode cX8_init 87 = .ok (.invokespecial 49, 3) := by decide +kernel
theorem dX8_init_90 : decode cX8_init 90 = .ok (.putfield 50, 3) := by decide +kernel
theorem dX8_init_93 : decode cX8_init 93 = .ok (.aload_n 0, 1) := by decide +kernel
theorem dX8_init_94 : decode cX8_init 94 = .ok (.new 54, 3) := by decide +kernel
theorem dX8_init_97 : decode cX8_init 97 = .ok (.dup, 1) := by decide +kernel
theorem dX8_init_98 : decode cX8_init 98 = .ok (.invokespecial 56, 3) := by decide +kernel
theorem dX8_init_101 : decode cX8_init 101 = .ok (.putfield 57, 3) := by decide +kernel
theorem dX8_init_104 : decode cX8_init 104 = .ok (.aload_n 0, 1) := by decide +kernel
theorem dX8_init_105 : decode cX8_init 105 = .ok (.iconst (-1), 1) := by decide +kernel
theorem dX8_init_106 : decode cX8_init 106 = .ok (.putfield 61, 3) := by decide +kernel
theorem dX8_init_109 : decode cX8_init 109 = .ok (.aload_n 0, 1) := by decide +kernel
theorem dX8_init_110 : decode cX8_init 110 = .ok (.iconst (-1), 1) := by decide +kernel
theorem dX8_init_111 : decode cX8_init 111 = .ok (.putfield 65, 3) := by decide +kernel
theorem dX8_init_114 : decode cX8_init 114 = .ok (.return_, 1) := by decide +kernel
theorem dX8_addHill_0 : decode cX8_addHill 0 = .ok (.aload_n 0, 1) := by decide +kernel
theorem dX8_addHill_1 : decode cX8_addHill 1 = .ok (.aload_n 0, 1) := by decide +kernel
theorem dX8_addHill_2 : decode cX8_addHill 2 = .ok (.getfield 30, 3) := by decide +kernel
theorem dX8_addHill_5 : decode cX8_addHill 5 = .ok (.invokevirtual 68, 3) := by decide +kernel
theorem dX8_addHill_8 : decode cX8_addHill 8 = .ok (.invokevirtual 72, 3) := by decide +kernel
theorem dX8_addHill_11 : decode cX8_addHill 11 = .ok (.aload_n 0, 1) := by decide +kernel
theorem dX8_addHill_12 : decode cX8_addHill 12 = .ok (.getfield 30, 3) := by decide +kernel
theorem dX8_addHill_15 : decode cX8_addHill 15 = .ok (.invokevirtual 76, 3) := by decide +kernel
theorem dX8_addHill_18 : decode cX8_addHill 18 = .ok (.ireturn, 1) := by decide +kernel
theorem dX8_collect_0 : decode cX8_collect 0 = .ok (.aload_n 0, 1) := by decide +kernel
theorem dX8_collect_1 : decode cX8_collect 1 = .ok (.aload_n 0, 1) := by decide +kernel
theorem dX8_collect_2 : decode cX8_collect 2 = .ok (.getfield 30, 3) := by decide +kernel
theorem dX8_collect_5 : decode cX8_collect 5 = .ok (.iload_n 1, 1) := by decide +kernel
theorem dX8_collect_6 : decode cX8_collect 6 = .ok (.iload_n 2, 1) := by decide +kernel
theorem dX8_collect_7 : decode cX8_collect 7 = .ok (.invokevirtual 80, 3) := by decide +kernel
theorem dX8_collect_10 : decode cX8_collect 10 = .ok (.invokevirtual 72, 3) := by decide +kernel
theorem dX8_collect_13 : decode cX8_collect 13 = .ok (.aload_n 0, 1) := by decide +kernel
theorem dX8_collect_14 : decode cX8_collect 14 = .ok (.getfield 30, 3) := by decide +kernel
theorem dX8_collect_17 : decode cX8_collect 17 = .ok (.iload_n 1, 1) := by decide +kernel
theorem dX8_collect_18 : decode cX8_collect 18 = .ok (.iload_n 2, 1) := by decide +kernel
theorem dX8_collect_19 : decode cX8_collect 19 = .ok (.invokevirtual 84, 3) := by decide +kernel
theorem dX8_collect_22 : decode cX8_collect 22 = .ok (.ireturn, 1) := by decide +kernel
theorem dX8_write_0 : decode cX8_write 0 = .ok (.aload_n 0, 1) := by decide +kernel
theorem dX8_write_1 : decode cX8_write 1 = .ok (.aload_n 0, 1) := by decide +kernel
theorem dX8_write_2 : decode cX8_write 2 = .ok (.getfield 30, 3) := by decide +kernel
theorem dX8_write_5 : decode cX8_write 5 = .ok (.iload_n 1, 1) := by decide +kernel
theorem dX8_write_6 : decode cX8_write 6 = .ok (.invokevirtual 88, 3) := by decide +kernel
theorem dX8_write_9 : decode cX8_write 9 = .ok (.invokevirtual 72, 3) := by decide +kernel
theorem dX8_write_12 : decode cX8_write 12 = .ok (.aload_n 0, 1) := by decide +kernel
theorem dX8_write_13 : decode cX8_write 13 = .ok (.getfield 30, 3) := by decide +kernel
theorem dX8_write_16 : decode cX8_write 16 = .ok (.iload_n 1, 1) := by decide +kernel
theorem dX8_write_17 : decode cX8_write 17 = .ok (.invokevirtual 92, 3) := by decide +kernel
theorem dX8_write_20 : decode cX8_write 20 = .ok (.ireturn, 1) := by decide +kernel
theorem dX8_follow_0 : decode cX8_follow 0 = .ok (.aload_n 0, 1) := by decide +kernel
theorem dX8_follow_1 : decode cX8_follow 1 = .ok (.aload_n 0, 1) := by decide +kernel
theorem dX8_follow_2 : decode cX8_follow 2 = .ok (.getfield 30, 3) := by decide +kernel
theorem dX8_follow_5 : decode cX8_follow 5 = .ok (.iload_n 1, 1) := by decide +kernel
theorem dX8_follow_6 : decode cX8_follow 6 = .ok (.iload_n 2, 1) := by decide +kernel
theorem dX8_follow_7 : decode cX8_follow 7 = .ok (.invokevirtual 96, 3) := by decide +kernel
theorem dX8_follow_10 : decode cX8_follow 10 = .ok (.invokevirtual 72, 3) := by decide +kernel
theorem dX8_follow_13 : decode cX8_follow 13 = .ok (.aload_n 0, 1) := by decide +kernel
theorem dX8_follow_14 : decode cX8_follow 14 = .ok (.getfield 30, 3) := by decide +kernel
theorem dX8_follow_17 : decode cX8_follow 17 = .ok (.iload_n 1, 1) := by decide +kernel
theorem dX8_follow_18 : decode cX8_follow 18 = .ok (.iload_n 2, 1) := by decide +kernel
theorem dX8_follow_19 : decode cX8_follow 19 = .ok (.invokevirtual 99, 3) := by decide +kernel
theorem dX8_follow_22 : decode cX8_follow 22 = .ok (.ireturn, 1) := by decide +kernel
theorem dX8_melt_0 : decode cX8_melt 0 = .ok (.aload_n 0, 1) := by decide +kernel
theorem dX8_melt_1 : decode cX8_melt 1 = .ok (.aload_n 0, 1) := by decide +kernel
theorem dX8_melt_2 : decode cX8_melt 2 = .ok (.getfield 30, 3) := by decide +kernel
theorem dX8_melt_5 : decode cX8_melt 5 = .ok (.iload_n 1, 1) := by decide +kernel
theorem dX8_melt_6 : decode cX8_melt 6 = .ok (.invokevirtual 102, 3) := by decide +kernel
theorem dX8_melt_9 : decode cX8_melt 9 = .ok (.invokevirtual 72, 3) := by decide +kernel
theorem dX8_melt_12 : decode cX8_melt 12 = .ok (.aload_n 0, 1) := by decide +kernel
theorem dX8_melt_13 : decode cX8_melt 13 = .ok (.getfield 30, 3) := by decide +kernel
theorem dX8_melt_16 : decode cX8_melt 16 = .ok (.iload_n 1, 1) := by decide +kernel
theorem dX8_melt_17 : decode cX8_melt 17 = .ok (.invokevirtual 105, 3) := by decide +kernel
theorem dX8_melt_20 : decode cX8_melt 20 = .ok (.ireturn, 1) := by decide +kernel
theorem dX8_replaceFlake_0 : decode cX8_replaceFlake 0 = .ok (.aload_n 0, 1) := by decide +kernel
theorem dX8_replaceFlake_1 : decode cX8_replaceFlake 1 = .ok (.aload_n 0, 1) := by decide +kernel
theorem dX8_replaceFlake_2 : decode cX8_replaceFlake 2 = .ok (.getfield 30, 3) := by decide +kernel
theorem dX8_replaceFlake_5 : decode cX8_replaceFlake 5 = .ok (.iload_n 1, 1) := by decide +kernel
theorem dX8_replaceFlake_6 : decode cX8_replaceFlake 6 = .ok (.iload_n 2, 1) := by decide +kernel
theorem dX8_replaceFlake_7 : decode cX8_replaceFlake 7 = .ok (.iload_n 3, 1) := by decide +kernel
theorem dX8_replaceFlake_8 : decode cX8_replaceFlake 8 = .ok (.invokevirtual 108, 3) := by decide +kernel
theorem dX8_replaceFlake_11 : decode cX8_replaceFlake 11 = .ok (.invokevirtual 72, 3) := by decide +kernel
theorem dX8_replaceFlake_14 : decode cX8_replaceFlake 14 = .ok (.aload_n 0, 1) := by decide +kernel
theorem dX8_replaceFlake_15 : decode cX8_replaceFlake 15 = .ok (.getfield 30, 3) := by decide +kernel
theorem dX8_replaceFlake_18 : decode cX8_replaceFlake 18 = .ok (.iload_n 1, 1) := by decide +kernel
theorem dX8_replaceFlake_19 : decode cX8_replaceFlake 19 = .ok (.iload_n 2, 1) := by decide +kernel
theorem dX8_replaceFlake_20 : decode cX8_replaceFlake 20 = .ok (.iload_n 3, 1) := by decide +kernel
theorem dX8_replaceFlake_21 : decode cX8_replaceFlake 21 = .ok (.invokevirtual 112, 3) := by decide +kernel
theorem dX8_replaceFlake_24 : decode cX8_replaceFlake 24 = .ok (.ireturn, 1) := by decide +kernel
theorem dX8_repair_0 : decode cX8_repair 0 = .ok (.aload_n 0, 1) := by decide +kernel
theorem dX8_repair_1 : decode cX8_repair 1 = .ok (.aload_n 0, 1) := by decide +kernel
theorem dX8_repair_2 : decode cX8_repair 2 = .ok (.getfield 30, 3) := by decide +kernel
theorem dX8_repair_5 : decode cX8_repair 5 = .ok (.iload_n 1, 1) := by decide +kernel
theorem dX8_repair_6 : decode cX8_repair 6 = .ok (.invokevirtual 116, 3) := by decide +kernel
theorem dX8_repair_9 : decode cX8_repair 9 = .ok (.invokevirtual 72, 3) := by decide +kernel
theorem dX8_repair_12 : decode cX8_repair 12 = .ok (.aload_n 0, 1) := by decide +kernel
theorem dX8_repair_13 : decode cX8_repair 13 = .ok (.getfield 30, 3) := by decide +kernel
theorem dX8_repair_16 : decode cX8_repair 16 = .ok (.iload_n 1, 1) := by decide +kernel
theorem dX8_repair_17 : decode cX8_repair 17 = .ok (.invokevirtual 119, 3) := by decide +kernel
theorem dX8_repair_20 : decode cX8_repair 20 = .ok (.ireturn, 1) := by decide +kernel
theorem dX8_blockCount_0 : decode cX8_blockCount 0 = .ok (.aload_n 0, 1) := by decide +kernel
theorem dX8_blockCount_1 : decode cX8_blockCount 1 = .ok (.getfield 21, 3) := by decide +kernel
theorem dX8_blockCount_4 : decode cX8_blockCount 4 = .ok (.invokevirtual 122, 3) := by decide +kernel
theorem dX8_blockCount_7 : decode cX8_blockCount 7 = .ok (.ireturn, 1) := by decide +kernel
theorem dX8_exists_0 : decode cX8_exists 0 = .ok (.aload_n 0, 1) := by decide +kernel
theorem dX8_exists_1 : decode cX8_exists 1 = .ok (.getfield 10, 3) := by decide +kernel
theorem dX8_exists_4 : decode cX8_exists 4 = .ok (.iload_n 1, 1) := by decide +kernel
theorem dX8_exists_5 : decode cX8_exists 5 = .ok (.invokevirtual 125, 3) := by decide +kernel
theorem dX8_exists_8 : decode cX8_exists 8 = .ok (.iconst (-1), 1) := by decide +kernel
theorem dX8_exists_9 : decode cX8_exists 9 = .ok (.if_icmp .eq 7, 3) := by decide +kernel
theorem dX8_exists_12 : decode cX8_exists 12 = .ok (.iconst 1, 1) := by decide +kernel
theorem dX8_exists_13 : decode cX8_exists 13 = .ok (.goto 4, 3) := by decide +kernel
theorem dX8_exists_16 : decode cX8_exists 16 = .ok (.iconst 0, 1) := by decide +kernel
theorem dX8_exists_17 : decode cX8_exists 17 = .ok (.ireturn, 1) := by decide +kernel
theorem dX8_parentOf_0 : decode cX8_parentOf 0 = .ok (.aload_n 0, 1) := by decide +kernel
theorem dX8_parentOf_1 : decode cX8_parentOf 1 = .ok (.getfield 10, 3) := by decide +kernel
theorem dX8_parentOf_4 : decode cX8_parentOf 4 = .ok (.getfield 128, 3) := by decide +kernel
theorem dX8_parentOf_7 : decode cX8_parentOf 7 = .ok (.aload_n 0, 1) := by decide +kernel
theorem dX8_parentOf_8 : decode cX8_parentOf 8 = .ok (.getfield 10, 3) := by decide +kernel
theorem dX8_parentOf_11 : decode cX8_parentOf 11 = .ok (.getfield 132, 3) := by decide +kernel
theorem dX8_parentOf_14 : decode cX8_parentOf 14 = .ok (.aload_n 0, 1) := by decide +kernel
theorem dX8_parentOf_15 : decode cX8_parentOf 15 = .ok (.iload_n 1, 1) := by decide +kernel
theorem dX8_parentOf_16 : decode cX8_parentOf 16 = .ok (.invokevirtual 135, 3) := by decide +kernel
theorem dX8_parentOf_19 : decode cX8_parentOf 19 = .ok (.invokevirtual 138, 3) := by decide +kernel
theorem dX8_parentOf_22 : decode cX8_parentOf 22 = .ok (.invokevirtual 138, 3) := by decide +kernel
theorem dX8_parentOf_25 : decode cX8_parentOf 25 = .ok (.ireturn, 1) := by decide +kernel
theorem dX8_childCount_0 : decode cX8_childCount 0 = .ok (.aload_n 0, 1) := by decide +kernel
theorem dX8_childCount_1 : decode cX8_childCount 1 = .ok (.getfield 21, 3) := by decide +kernel
theorem dX8_childCount_4 : decode cX8_childCount 4 = .ok (.aload_n 0, 1) := by decide +kernel
theorem dX8_childCount_5 : decode cX8_childCount 5 = .ok (.iload_n 1, 1) := by decide +kernel
theorem dX8_childCount_6 : decode cX8_childCount 6 = .ok (.invokevirtual 143, 3) := by decide +kernel
theorem dX8_childCount_9 : decode cX8_childCount 9 = .ok (.invokevirtual 146, 3) := by decide +kernel
theorem dX8_childCount_12 : decode cX8_childCount 12 = .ok (.ireturn, 1) := by decide +kernel
theorem dX8_writerOf_0 : decode cX8_writerOf 0 = .ok (.aload_n 0, 1) := by decide +kernel
theorem dX8_writerOf_1 : decode cX8_writerOf 1 = .ok (.getfield 10, 3) := by decide +kernel
theorem dX8_writerOf_4 : decode cX8_writerOf 4 = .ok (.getfield 149, 3) := by decide +kernel
theorem dX8_writerOf_7 : decode cX8_writerOf 7 = .ok (.aload_n 0, 1) := by decide +kernel
theorem dX8_writerOf_8 : decode cX8_writerOf 8 = .ok (.iload_n 1, 1) := by decide +kernel
theorem dX8_writerOf_9 : decode cX8_writerOf 9 = .ok (.invokevirtual 135, 3) := by decide +kernel
theorem dX8_writerOf_12 : decode cX8_writerOf 12 = .ok (.invokevirtual 138, 3) := by decide +kernel
theorem dX8_writerOf_15 : decode cX8_writerOf 15 = .ok (.ireturn, 1) := by decide +kernel
theorem dX8_flakeCount_0 : decode cX8_flakeCount 0 = .ok (.aload_n 0, 1) := by decide +kernel
theorem dX8_flakeCount_1 : decode cX8_flakeCount 1 = .ok (.getfield 10, 3) := by decide +kernel
theorem dX8_flakeCount_4 : decode cX8_flakeCount 4 = .ok (.getfield 152, 3) := by decide +kernel
theorem dX8_flakeCount_7 : decode cX8_flakeCount 7 = .ok (.aload_n 0, 1) := by decide +kernel
theorem dX8_flakeCount_8 : decode cX8_flakeCount 8 = .ok (.iload_n 1, 1) := by decide +kernel
theorem dX8_flakeCount_9 : decode cX8_flakeCount 9 = .ok (.invokevirtual 143, 3) := by decide +kernel
theorem dX8_flakeCount_12 : decode cX8_flakeCount 12 = .ok (.invokevirtual 156, 3) := by decide +kernel
theorem dX8_flakeCount_15 : decode cX8_flakeCount 15 = .ok (.ireturn, 1) := by decide +kernel
theorem dX8_flakeAt_0 : decode cX8_flakeAt 0 = .ok (.aload_n 0, 1) := by decide +kernel
theorem dX8_flakeAt_1 : decode cX8_flakeAt 1 = .ok (.iload_n 1, 1) := by decide +kernel
theorem dX8_flakeAt_2 : decode cX8_flakeAt 2 = .ok (.invokevirtual 143, 3) := by decide +kernel
theorem dX8_flakeAt_5 : decode cX8_flakeAt 5 = .ok (.istore_n 3, 1) := by decide +kernel
theorem dX8_flakeAt_6 : decode cX8_flakeAt 6 = .ok (.aload_n 0, 1) := by decide +kernel
theorem dX8_flakeAt_7 : decode cX8_flakeAt 7 = .ok (.getfield 10, 3) := by decide +kernel
theorem dX8_flakeAt_10 : decode cX8_flakeAt 10 = .ok (.getfield 152, 3) := by decide +kernel
theorem dX8_flakeAt_13 : decode cX8_flakeAt 13 = .ok (.iload_n 3, 1) := by decide +kernel
theorem dX8_flakeAt_14 : decode cX8_flakeAt 14 = .ok (.iload_n 2, 1) := by decide +kernel
theorem dX8_flakeAt_15 : decode cX8_flakeAt 15 = .ok (.invokevirtual 161, 3) := by decide +kernel
theorem dX8_flakeAt_18 : decode cX8_flakeAt 18 = .ok (.ifCond .ne 13, 3) := by decide +kernel
theorem dX8_flakeAt_21 : decode cX8_flakeAt 21 = .ok (.new 165, 3) := by decide +kernel
theorem dX8_flakeAt_24 : decode cX8_flakeAt 24 = .ok (.dup, 1) := by decide +kernel
theorem dX8_flakeAt_25 : decode cX8_flakeAt 25 = .ok (.ldc 167, 2) := by decide +kernel
theorem dX8_flakeAt_27 : decode cX8_flakeAt 27 = .ok (.invokespecial 169, 3) := by decide +kernel
theorem dX8_flakeAt_30 : decode cX8_flakeAt 30 = .ok (.athrow, 1) := by decide +kernel
theorem dX8_flakeAt_31 : decode cX8_flakeAt 31 = .ok (.aload_n 0, 1) := by decide +kernel
theorem dX8_flakeAt_32 : decode cX8_flakeAt 32 = .ok (.getfield 10, 3) := by decide +kernel
theorem dX8_flakeAt_35 : decode cX8_flakeAt 35 = .ok (.getfield 152, 3) := by decide +kernel
theorem dX8_flakeAt_38 : decode cX8_flakeAt 38 = .ok (.iload_n 3, 1) := by decide +kernel
theorem dX8_flakeAt_39 : decode cX8_flakeAt 39 = .ok (.iload_n 2, 1) := by decide +kernel
theorem dX8_flakeAt_40 : decode cX8_flakeAt 40 = .ok (.invokevirtual 172, 3) := by decide +kernel
theorem dX8_flakeAt_43 : decode cX8_flakeAt 43 = .ok (.ireturn, 1) := by decide +kernel
theorem dX8_hashOf_0 : decode cX8_hashOf 0 = .ok (.aload_n 0, 1) := by decide +kernel
theorem dX8_hashOf_1 : decode cX8_hashOf 1 = .ok (.getfield 10, 3) := by decide +kernel
theorem dX8_hashOf_4 : decode cX8_hashOf 4 = .ok (.getfield 175, 3) := by decide +kernel
theorem dX8_hashOf_7 : decode cX8_hashOf 7 = .ok (.aload_n 0, 1) := by decide +kernel
theorem dX8_hashOf_8 : decode cX8_hashOf 8 = .ok (.iload_n 1, 1) := by decide +kernel
theorem dX8_hashOf_9 : decode cX8_hashOf 9 = .ok (.invokevirtual 143, 3) := by decide +kernel
theorem dX8_hashOf_12 : decode cX8_hashOf 12 = .ok (.invokevirtual 138, 3) := by decide +kernel
theorem dX8_hashOf_15 : decode cX8_hashOf 15 = .ok (.ireturn, 1) := by decide +kernel
theorem dX8_nonceOf_0 : decode cX8_nonceOf 0 = .ok (.aload_n 0, 1) := by decide +kernel
theorem dX8_nonceOf_1 : decode cX8_nonceOf 1 = .ok (.getfield 10, 3) := by decide +kernel
theorem dX8_nonceOf_4 : decode cX8_nonceOf 4 = .ok (.getfield 178, 3) := by decide +kernel
theorem dX8_nonceOf_7 : decode cX8_nonceOf 7 = .ok (.aload_n 0, 1) := by decide +kernel
theorem dX8_nonceOf_8 : decode cX8_nonceOf 8 = .ok (.iload_n 1, 1) := by decide +kernel
theorem dX8_nonceOf_9 : decode cX8_nonceOf 9 = .ok (.invokevirtual 135, 3) := by decide +kernel
theorem dX8_nonceOf_12 : decode cX8_nonceOf 12 = .ok (.invokevirtual 138, 3) := by decide +kernel
theorem dX8_nonceOf_15 : decode cX8_nonceOf 15 = .ok (.ireturn, 1) := by decide +kernel
theorem dX8_rootOfFlakes_0 : decode cX8_rootOfFlakes 0 = .ok (.aload_n 0, 1) := by decide +kernel
theorem dX8_rootOfFlakes_1 : decode cX8_rootOfFlakes 1 = .ok (.getfield 10, 3) := by decide +kernel
theorem dX8_rootOfFlakes_4 : decode cX8_rootOfFlakes 4 = .ok (.getfield 152, 3) := by decide +kernel
theorem dX8_rootOfFlakes_7 : decode cX8_rootOfFlakes 7 = .ok (.aload_n 0, 1) := by decide +kernel
theorem dX8_rootOfFlakes_8 : decode cX8_rootOfFlakes 8 = .ok (.iload_n 1, 1) := by decide +kernel
theorem dX8_rootOfFlakes_9 : decode cX8_rootOfFlakes 9 = .ok (.invokevirtual 143, 3) := by decide +kernel
theorem dX8_rootOfFlakes_12 : decode cX8_rootOfFlakes 12 = .ok (.invokevirtual 181, 3) := by decide +kernel
theorem dX8_rootOfFlakes_15 : decode cX8_rootOfFlakes 15 = .ok (.ireturn, 1) := by decide +kernel
theorem dX8_rootOfFlakesByHalves_0 : decode cX8_rootOfFlakesByHalves 0 = .ok (.aload_n 0, 1) := by decide +kernel
theorem dX8_rootOfFlakesByHalves_1 : decode cX8_rootOfFlakesByHalves 1 = .ok (.getfield 10, 3) := by decide +kernel
theorem dX8_rootOfFlakesByHalves_4 : decode cX8_rootOfFlakesByHalves 4 = .ok (.getfield 152, 3) := by decide +kernel
theorem dX8_rootOfFlakesByHalves_7 : decode cX8_rootOfFlakesByHalves 7 = .ok (.aload_n 0, 1) := by decide +kernel
theorem dX8_rootOfFlakesByHalves_8 : decode cX8_rootOfFlakesByHalves 8 = .ok (.iload_n 1, 1) := by decide +kernel
theorem dX8_rootOfFlakesByHalves_9 : decode cX8_rootOfFlakesByHalves 9 = .ok (.invokevirtual 143, 3) := by decide +kernel
theorem dX8_rootOfFlakesByHalves_12 : decode cX8_rootOfFlakesByHalves 12 = .ok (.invokevirtual 184, 3) := by decide +kernel
theorem dX8_rootOfFlakesByHalves_15 : decode cX8_rootOfFlakesByHalves 15 = .ok (.ireturn, 1) := by decide +kernel
theorem dX8_heightOf_0 : decode cX8_heightOf 0 = .ok (.aload_n 0, 1) := by decide +kernel
theorem dX8_heightOf_1 : decode cX8_heightOf 1 = .ok (.getfield 21, 3) := by decide +kernel
theorem dX8_heightOf_4 : decode cX8_heightOf 4 = .ok (.aload_n 0, 1) := by decide +kernel
theorem dX8_heightOf_5 : decode cX8_heightOf 5 = .ok (.iload_n 1, 1) := by decide +kernel
theorem dX8_heightOf_6 : decode cX8_heightOf 6 = .ok (.invokevirtual 143, 3) := by decide +kernel
theorem dX8_heightOf_9 : decode cX8_heightOf 9 = .ok (.invokevirtual 187, 3) := by decide +kernel
theorem dX8_heightOf_12 : decode cX8_heightOf 12 = .ok (.ireturn, 1) := by decide +kernel
theorem dX8_heightFromRoot_0 : decode cX8_heightFromRoot 0 = .ok (.aload_n 0, 1) := by decide +kernel
theorem dX8_heightFromRoot_1 : decode cX8_heightFromRoot 1 = .ok (.getfield 21, 3) := by decide +kernel
theorem dX8_heightFromRoot_4 : decode cX8_heightFromRoot 4 = .ok (.aload_n 0, 1) := by decide +kernel
theorem dX8_heightFromRoot_5 : decode cX8_heightFromRoot 5 = .ok (.iload_n 1, 1) := by decide +kernel
theorem dX8_heightFromRoot_6 : decode cX8_heightFromRoot 6 = .ok (.invokevirtual 143, 3) := by decide +kernel
theorem dX8_heightFromRoot_9 : decode cX8_heightFromRoot 9 = .ok (.invokevirtual 190, 3) := by decide +kernel
theorem dX8_heightFromRoot_12 : decode cX8_heightFromRoot 12 = .ok (.ireturn, 1) := by decide +kernel
theorem dX8_isValid_0 : decode cX8_isValid 0 = .ok (.aload_n 0, 1) := by decide +kernel
theorem dX8_isValid_1 : decode cX8_isValid 1 = .ok (.getfield 21, 3) := by decide +kernel
theorem dX8_isValid_4 : decode cX8_isValid 4 = .ok (.aload_n 0, 1) := by decide +kernel
theorem dX8_isValid_5 : decode cX8_isValid 5 = .ok (.iload_n 1, 1) := by decide +kernel
theorem dX8_isValid_6 : decode cX8_isValid 6 = .ok (.invokevirtual 143, 3) := by decide +kernel
theorem dX8_isValid_9 : decode cX8_isValid 9 = .ok (.invokevirtual 193, 3) := by decide +kernel
theorem dX8_isValid_12 : decode cX8_isValid 12 = .ok (.ireturn, 1) := by decide +kernel
theorem dX8_isBranchValid_0 : decode cX8_isBranchValid 0 = .ok (.aload_n 0, 1) := by decide +kernel
theorem dX8_isBranchValid_1 : decode cX8_isBranchValid 1 = .ok (.getfield 21, 3) := by decide +kernel
theorem dX8_isBranchValid_4 : decode cX8_isBranchValid 4 = .ok (.aload_n 0, 1) := by decide +kernel
theorem dX8_isBranchValid_5 : decode cX8_isBranchValid 5 = .ok (.iload_n 1, 1) := by decide +kernel
theorem dX8_isBranchValid_6 : decode cX8_isBranchValid 6 = .ok (.invokevirtual 143, 3) := by decide +kernel
theorem dX8_isBranchValid_9 : decode cX8_isBranchValid 9 = .ok (.invokevirtual 197, 3) := by decide +kernel
theorem dX8_isBranchValid_12 : decode cX8_isBranchValid 12 = .ok (.iconst (-1), 1) := by decide +kernel
theorem dX8_isBranchValid_13 : decode cX8_isBranchValid 13 = .ok (.if_icmp .ne 7, 3) := by decide +kernel
theorem dX8_isBranchValid_16 : decode cX8_isBranchValid 16 = .ok (.iconst 1, 1) := by decide +kernel
theorem dX8_isBranchValid_17 : decode cX8_isBranchValid 17 = .ok (.goto 4, 3) := by decide +kernel
theorem dX8_isBranchValid_20 : decode cX8_isBranchValid 20 = .ok (.iconst 0, 1) := by decide +kernel
theorem dX8_isBranchValid_21 : decode cX8_isBranchValid 21 = .ok (.ireturn, 1) := by decide +kernel
theorem dX8_firstInvalid_0 : decode cX8_firstInvalid 0 = .ok (.aload_n 0, 1) := by decide +kernel
theorem dX8_firstInvalid_1 : decode cX8_firstInvalid 1 = .ok (.getfield 21, 3) := by decide +kernel
theorem dX8_firstInvalid_4 : decode cX8_firstInvalid 4 = .ok (.aload_n 0, 1) := by decide +kernel
theorem dX8_firstInvalid_5 : decode cX8_firstInvalid 5 = .ok (.iload_n 1, 1) := by decide +kernel
theorem dX8_firstInvalid_6 : decode cX8_firstInvalid 6 = .ok (.invokevirtual 143, 3) := by decide +kernel
theorem dX8_firstInvalid_9 : decode cX8_firstInvalid 9 = .ok (.invokevirtual 197, 3) := by decide +kernel
theorem dX8_firstInvalid_12 : decode cX8_firstInvalid 12 = .ok (.istore_n 2, 1) := by decide +kernel
theorem dX8_firstInvalid_13 : decode cX8_firstInvalid 13 = .ok (.iload_n 2, 1) := by decide +kernel
theorem dX8_firstInvalid_14 : decode cX8_firstInvalid 14 = .ok (.iconst (-1), 1) := by decide +kernel
theorem dX8_firstInvalid_15 : decode cX8_firstInvalid 15 = .ok (.if_icmp .ne 13, 3) := by decide +kernel
theorem dX8_firstInvalid_18 : decode cX8_firstInvalid 18 = .ok (.new 200, 3) := by decide +kernel
theorem dX8_firstInvalid_21 : decode cX8_firstInvalid 21 = .ok (.dup, 1) := by decide +kernel
theorem dX8_firstInvalid_22 : decode cX8_firstInvalid 22 = .ok (.ldc 202, 2) := by decide +kernel
theorem dX8_firstInvalid_24 : decode cX8_firstInvalid 24 = .ok (.invokespecial 204, 3) := by decide +kernel
theorem dX8_firstInvalid_27 : decode cX8_firstInvalid 27 = .ok (.athrow, 1) := by decide +kernel
theorem dX8_firstInvalid_28 : decode cX8_firstInvalid 28 = .ok (.aload_n 0, 1) := by decide +kernel
theorem dX8_firstInvalid_29 : decode cX8_firstInvalid 29 = .ok (.getfield 10, 3) := by decide +kernel
theorem dX8_firstInvalid_32 : decode cX8_firstInvalid 32 = .ok (.getfield 128, 3) := by decide +kernel
theorem dX8_firstInvalid_35 : decode cX8_firstInvalid 35 = .ok (.iload_n 2, 1) := by decide +kernel
theorem dX8_firstInvalid_36 : decode cX8_firstInvalid 36 = .ok (.invokevirtual 138, 3) := by decide +kernel
theorem dX8_firstInvalid_39 : decode cX8_firstInvalid 39 = .ok (.ireturn, 1) := by decide +kernel
theorem dX8_isInBranch_0 : decode cX8_isInBranch 0 = .ok (.aload_n 0, 1) := by decide +kernel
theorem dX8_isInBranch_1 : decode cX8_isInBranch 1 = .ok (.iload_n 1, 1) := by decide +kernel
theorem dX8_isInBranch_2 : decode cX8_isInBranch 2 = .ok (.invokevirtual 143, 3) := by decide +kernel
theorem dX8_isInBranch_5 : decode cX8_isInBranch 5 = .ok (.istore_n 3, 1) := by decide +kernel
theorem dX8_isInBranch_6 : decode cX8_isInBranch 6 = .ok (.aload_n 0, 1) := by decide +kernel
theorem dX8_isInBranch_7 : decode cX8_isInBranch 7 = .ok (.getfield 21, 3) := by decide +kernel
theorem dX8_isInBranch_10 : decode cX8_isInBranch 10 = .ok (.aload_n 0, 1) := by decide +kernel
theorem dX8_isInBranch_11 : decode cX8_isInBranch 11 = .ok (.iload_n 2, 1) := by decide +kernel
theorem dX8_isInBranch_12 : decode cX8_isInBranch 12 = .ok (.invokevirtual 143, 3) := by decide +kernel
theorem dX8_isInBranch_15 : decode cX8_isInBranch 15 = .ok (.iload_n 3, 1) := by decide +kernel
theorem dX8_isInBranch_16 : decode cX8_isInBranch 16 = .ok (.invokevirtual 205, 3) := by decide +kernel
theorem dX8_isInBranch_19 : decode cX8_isInBranch 19 = .ok (.ireturn, 1) := by decide +kernel
theorem dX8_forkOf_0 : decode cX8_forkOf 0 = .ok (.aload_n 0, 1) := by decide +kernel
theorem dX8_forkOf_1 : decode cX8_forkOf 1 = .ok (.iload_n 1, 1) := by decide +kernel
theorem dX8_forkOf_2 : decode cX8_forkOf 2 = .ok (.invokevirtual 143, 3) := by decide +kernel
theorem dX8_forkOf_5 : decode cX8_forkOf 5 = .ok (.istore_n 3, 1) := by decide +kernel
theorem dX8_forkOf_6 : decode cX8_forkOf 6 = .ok (.aload_n 0, 1) := by decide +kernel
theorem dX8_forkOf_7 : decode cX8_forkOf 7 = .ok (.getfield 10, 3) := by decide +kernel
theorem dX8_forkOf_10 : decode cX8_forkOf 10 = .ok (.getfield 128, 3) := by decide +kernel
theorem dX8_forkOf_13 : decode cX8_forkOf 13 = .ok (.aload_n 0, 1) := by decide +kernel
theorem dX8_forkOf_14 : decode cX8_forkOf 14 = .ok (.getfield 21, 3) := by decide +kernel
theorem dX8_forkOf_17 : decode cX8_forkOf 17 = .ok (.iload_n 3, 1) := by decide +kernel
theorem dX8_forkOf_18 : decode cX8_forkOf 18 = .ok (.aload_n 0, 1) := by decide +kernel
theorem dX8_forkOf_19 : decode cX8_forkOf 19 = .ok (.iload_n 2, 1) := by decide +kernel
theorem dX8_forkOf_20 : decode cX8_forkOf 20 = .ok (.invokevirtual 143, 3) := by decide +kernel
theorem dX8_forkOf_23 : decode cX8_forkOf 23 = .ok (.invokevirtual 208, 3) := by decide +kernel
theorem dX8_forkOf_26 : decode cX8_forkOf 26 = .ok (.invokevirtual 138, 3) := by decide +kernel
theorem dX8_forkOf_29 : decode cX8_forkOf 29 = .ok (.ireturn, 1) := by decide +kernel
theorem dX8_meltSize_0 : decode cX8_meltSize 0 = .ok (.aload_n 0, 1) := by decide +kernel
theorem dX8_meltSize_1 : decode cX8_meltSize 1 = .ok (.getfield 21, 3) := by decide +kernel
theorem dX8_meltSize_4 : decode cX8_meltSize 4 = .ok (.aload_n 0, 1) := by decide +kernel
theorem dX8_meltSize_5 : decode cX8_meltSize 5 = .ok (.iload_n 1, 1) := by decide +kernel
theorem dX8_meltSize_6 : decode cX8_meltSize 6 = .ok (.invokevirtual 143, 3) := by decide +kernel
theorem dX8_meltSize_9 : decode cX8_meltSize 9 = .ok (.invokevirtual 211, 3) := by decide +kernel
theorem dX8_meltSize_12 : decode cX8_meltSize 12 = .ok (.ireturn, 1) := by decide +kernel
theorem dX8_differentFlakes_0 : decode cX8_differentFlakes 0 = .ok (.aload_n 0, 1) := by decide +kernel
theorem dX8_differentFlakes_1 : decode cX8_differentFlakes 1 = .ok (.iload_n 1, 1) := by decide +kernel
theorem dX8_differentFlakes_2 : decode cX8_differentFlakes 2 = .ok (.invokevirtual 143, 3) := by decide +kernel
theorem dX8_differentFlakes_5 : decode cX8_differentFlakes 5 = .ok (.istore_n 2, 1) := by decide +kernel
theorem dX8_differentFlakes_6 : decode cX8_differentFlakes 6 = .ok (.aload_n 0, 1) := by decide +kernel
theorem dX8_differentFlakes_7 : decode cX8_differentFlakes 7 = .ok (.getfield 21, 3) := by decide +kernel
theorem dX8_differentFlakes_10 : decode cX8_differentFlakes 10 = .ok (.iload_n 2, 1) := by decide +kernel
theorem dX8_differentFlakes_11 : decode cX8_differentFlakes 11 = .ok (.iload_n 2, 1) := by decide +kernel
theorem dX8_differentFlakes_12 : decode cX8_differentFlakes 12 = .ok (.invokevirtual 214, 3) := by decide +kernel
theorem dX8_differentFlakes_15 : decode cX8_differentFlakes 15 = .ok (.ireturn, 1) := by decide +kernel
theorem dX8_commonFlakes_0 : decode cX8_commonFlakes 0 = .ok (.aload_n 0, 1) := by decide +kernel
theorem dX8_commonFlakes_1 : decode cX8_commonFlakes 1 = .ok (.iload_n 1, 1) := by decide +kernel
theorem dX8_commonFlakes_2 : decode cX8_commonFlakes 2 = .ok (.invokevirtual 143, 3) := by decide +kernel
theorem dX8_commonFlakes_5 : decode cX8_commonFlakes 5 = .ok (.istore_n 3, 1) := by decide +kernel
theorem dX8_commonFlakes_6 : decode cX8_commonFlakes 6 = .ok (.aload_n 0, 1) := by decide +kernel
theorem dX8_commonFlakes_7 : decode cX8_commonFlakes 7 = .ok (.getfield 21, 3) := by decide +kernel
theorem dX8_commonFlakes_10 : decode cX8_commonFlakes 10 = .ok (.iload_n 3, 1) := by decide +kernel
theorem dX8_commonFlakes_11 : decode cX8_commonFlakes 11 = .ok (.aload_n 0, 1) := by decide +kernel
theorem dX8_commonFlakes_12 : decode cX8_commonFlakes 12 = .ok (.iload_n 2, 1) := by decide +kernel
theorem dX8_commonFlakes_13 : decode cX8_commonFlakes 13 = .ok (.invokevirtual 143, 3) := by decide +kernel
theorem dX8_commonFlakes_16 : decode cX8_commonFlakes 16 = .ok (.invokevirtual 214, 3) := by decide +kernel
theorem dX8_commonFlakes_19 : decode cX8_commonFlakes 19 = .ok (.ireturn, 1) := by decide +kernel
theorem dX8_repairsNeeded_0 : decode cX8_repairsNeeded 0 = .ok (.aload_n 0, 1) := by decide +kernel
theorem dX8_repairsNeeded_1 : decode cX8_repairsNeeded 1 = .ok (.getfield 21, 3) := by decide +kernel
theorem dX8_repairsNeeded_4 : decode cX8_repairsNeeded 4 = .ok (.aload_n 0, 1) := by decide +kernel
theorem dX8_repairsNeeded_5 : decode cX8_repairsNeeded 5 = .ok (.iload_n 1, 1) := by decide +kernel
theorem dX8_repairsNeeded_6 : decode cX8_repairsNeeded 6 = .ok (.invokevirtual 143, 3) := by decide +kernel
theorem dX8_repairsNeeded_9 : decode cX8_repairsNeeded 9 = .ok (.invokevirtual 217, 3) := by decide +kernel
theorem dX8_repairsNeeded_12 : decode cX8_repairsNeeded 12 = .ok (.ireturn, 1) := by decide +kernel
theorem dX8_tipCount_0 : decode cX8_tipCount 0 = .ok (.aload_n 0, 1) := by decide +kernel
theorem dX8_tipCount_1 : decode cX8_tipCount 1 = .ok (.getfield 21, 3) := by decide +kernel
theorem dX8_tipCount_4 : decode cX8_tipCount 4 = .ok (.invokevirtual 220, 3) := by decide +kernel
theorem dX8_tipCount_7 : decode cX8_tipCount 7 = .ok (.ireturn, 1) := by decide +kernel
theorem dX8_tipAtRank_0 : decode cX8_tipAtRank 0 = .ok (.aload_n 0, 1) := by decide +kernel
theorem dX8_tipAtRank_1 : decode cX8_tipAtRank 1 = .ok (.getfield 21, 3) := by decide +kernel
theorem dX8_tipAtRank_4 : decode cX8_tipAtRank 4 = .ok (.iload_n 1, 1) := by decide +kernel
theorem dX8_tipAtRank_5 : decode cX8_tipAtRank 5 = .ok (.invokevirtual 223, 3) := by decide +kernel
theorem dX8_tipAtRank_8 : decode cX8_tipAtRank 8 = .ok (.istore_n 2, 1) := by decide +kernel
theorem dX8_tipAtRank_9 : decode cX8_tipAtRank 9 = .ok (.iload_n 2, 1) := by decide +kernel
theorem dX8_tipAtRank_10 : decode cX8_tipAtRank 10 = .ok (.iconst (-1), 1) := by decide +kernel
theorem dX8_tipAtRank_11 : decode cX8_tipAtRank 11 = .ok (.if_icmp .ne 13, 3) := by decide +kernel
theorem dX8_tipAtRank_14 : decode cX8_tipAtRank 14 = .ok (.new 200, 3) := by decide +kernel
theorem dX8_tipAtRank_17 : decode cX8_tipAtRank 17 = .ok (.dup, 1) := by decide +kernel
theorem dX8_tipAtRank_18 : decode cX8_tipAtRank 18 = .ok (.ldc 226, 2) := by decide +kernel
theorem dX8_tipAtRank_20 : decode cX8_tipAtRank 20 = .ok (.invokespecial 204, 3) := by decide +kernel
theorem dX8_tipAtRank_23 : decode cX8_tipAtRank 23 = .ok (.athrow, 1) := by decide +kernel
theorem dX8_tipAtRank_24 : decode cX8_tipAtRank 24 = .ok (.aload_n 0, 1) := by decide +kernel
theorem dX8_tipAtRank_25 : decode cX8_tipAtRank 25 = .ok (.getfield 10, 3) := by decide +kernel
theorem dX8_tipAtRank_28 : decode cX8_tipAtRank 28 = .ok (.getfield 128, 3) := by decide +kernel
theorem dX8_tipAtRank_31 : decode cX8_tipAtRank 31 = .ok (.iload_n 2, 1) := by decide +kernel
theorem dX8_tipAtRank_32 : decode cX8_tipAtRank 32 = .ok (.invokevirtual 138, 3) := by decide +kernel
theorem dX8_tipAtRank_35 : decode cX8_tipAtRank 35 = .ok (.ireturn, 1) := by decide +kernel
theorem dX8_bestValidBlock_0 : decode cX8_bestValidBlock 0 = .ok (.aload_n 0, 1) := by decide +kernel
theorem dX8_bestValidBlock_1 : decode cX8_bestValidBlock 1 = .ok (.getfield 10, 3) := by decide +kernel
theorem dX8_bestValidBlock_4 : decode cX8_bestValidBlock 4 = .ok (.getfield 128, 3) := by decide +kernel
theorem dX8_bestValidBlock_7 : decode cX8_bestValidBlock 7 = .ok (.aload_n 0, 1) := by decide +kernel
theorem dX8_bestValidBlock_8 : decode cX8_bestValidBlock 8 = .ok (.getfield 21, 3) := by decide +kernel
theorem dX8_bestValidBlock_11 : decode cX8_bestValidBlock 11 = .ok (.invokevirtual 228, 3) := by decide +kernel
theorem dX8_bestValidBlock_14 : decode cX8_bestValidBlock 14 = .ok (.invokevirtual 138, 3) := by decide +kernel
theorem dX8_bestValidBlock_17 : decode cX8_bestValidBlock 17 = .ok (.ireturn, 1) := by decide +kernel
theorem dX8_blocksAtHeight_0 : decode cX8_blocksAtHeight 0 = .ok (.iload_n 1, 1) := by decide +kernel
theorem dX8_blocksAtHeight_1 : decode cX8_blocksAtHeight 1 = .ok (.ifCond .lt 9, 3) := by decide +kernel
theorem dX8_blocksAtHeight_4 : decode cX8_blocksAtHeight 4 = .ok (.iload_n 1, 1) := by decide +kernel
theorem dX8_blocksAtHeight_5 : decode cX8_blocksAtHeight 5 = .ok (.bipush 16, 2) := by decide +kernel
theorem dX8_blocksAtHeight_7 : decode cX8_blocksAtHeight 7 = .ok (.if_icmp .lt 13, 3) := by decide +kernel
theorem dX8_blocksAtHeight_10 : decode cX8_blocksAtHeight 10 = .ok (.new 234, 3) := by decide +kernel
theorem dX8_blocksAtHeight_13 : decode cX8_blocksAtHeight 13 = .ok (.dup, 1) := by decide +kernel
theorem dX8_blocksAtHeight_14 : decode cX8_blocksAtHeight 14 = .ok (.ldc 244, 2) := by decide +kernel
theorem dX8_blocksAtHeight_16 : decode cX8_blocksAtHeight 16 = .ok (.invokespecial 238, 3) := by decide +kernel
theorem dX8_blocksAtHeight_19 : decode cX8_blocksAtHeight 19 = .ok (.athrow, 1) := by decide +kernel
theorem dX8_blocksAtHeight_20 : decode cX8_blocksAtHeight 20 = .ok (.aload_n 0, 1) := by decide +kernel
theorem dX8_blocksAtHeight_21 : decode cX8_blocksAtHeight 21 = .ok (.getfield 21, 3) := by decide +kernel
theorem dX8_blocksAtHeight_24 : decode cX8_blocksAtHeight 24 = .ok (.iload_n 1, 1) := by decide +kernel
theorem dX8_blocksAtHeight_25 : decode cX8_blocksAtHeight 25 = .ok (.invokevirtual 246, 3) := by decide +kernel
theorem dX8_blocksAtHeight_28 : decode cX8_blocksAtHeight 28 = .ok (.ireturn, 1) := by decide +kernel
theorem dX8_writtenTotal_0 : decode cX8_writtenTotal 0 = .ok (.aload_n 0, 1) := by decide +kernel
theorem dX8_writtenTotal_1 : decode cX8_writtenTotal 1 = .ok (.getfield 10, 3) := by decide +kernel
theorem dX8_writtenTotal_4 : decode cX8_writtenTotal 4 = .ok (.getfield 249, 3) := by decide +kernel
theorem dX8_writtenTotal_7 : decode cX8_writtenTotal 7 = .ok (.ireturn, 1) := by decide +kernel
theorem dX8_meltedTotal_0 : decode cX8_meltedTotal 0 = .ok (.aload_n 0, 1) := by decide +kernel
theorem dX8_meltedTotal_1 : decode cX8_meltedTotal 1 = .ok (.getfield 10, 3) := by decide +kernel
theorem dX8_meltedTotal_4 : decode cX8_meltedTotal 4 = .ok (.getfield 252, 3) := by decide +kernel
theorem dX8_meltedTotal_7 : decode cX8_meltedTotal 7 = .ok (.ireturn, 1) := by decide +kernel
theorem dX8_meanTipHeight_0 : decode cX8_meanTipHeight 0 = .ok (.aload_n 0, 1) := by decide +kernel
theorem dX8_meanTipHeight_1 : decode cX8_meanTipHeight 1 = .ok (.getfield 21, 3) := by decide +kernel
theorem dX8_meanTipHeight_4 : decode cX8_meanTipHeight 4 = .ok (.invokevirtual 220, 3) := by decide +kernel
theorem dX8_meanTipHeight_7 : decode cX8_meanTipHeight 7 = .ok (.istore_n 1, 1) := by decide +kernel
theorem dX8_meanTipHeight_8 : decode cX8_meanTipHeight 8 = .ok (.iload_n 1, 1) := by decide +kernel
theorem dX8_meanTipHeight_9 : decode cX8_meanTipHeight 9 = .ok (.ifCond .le 17, 3) := by decide +kernel
theorem dX8_meanTipHeight_12 : decode cX8_meanTipHeight 12 = .ok (.aload_n 0, 1) := by decide +kernel
theorem dX8_meanTipHeight_13 : decode cX8_meanTipHeight 13 = .ok (.getfield 21, 3) := by decide +kernel
theorem dX8_meanTipHeight_16 : decode cX8_meanTipHeight 16 = .ok (.invokevirtual 255, 3) := by decide +kernel
theorem dX8_meanTipHeight_19 : decode cX8_meanTipHeight 19 = .ok (.i2d, 1) := by decide +kernel
theorem dX8_meanTipHeight_20 : decode cX8_meanTipHeight 20 = .ok (.iload_n 1, 1) := by decide +kernel
theorem dX8_meanTipHeight_21 : decode cX8_meanTipHeight 21 = .ok (.i2d, 1) := by decide +kernel
theorem dX8_meanTipHeight_22 : decode cX8_meanTipHeight 22 = .ok (.ddiv, 1) := by decide +kernel
theorem dX8_meanTipHeight_23 : decode cX8_meanTipHeight 23 = .ok (.goto 4, 3) := by decide +kernel
theorem dX8_meanTipHeight_26 : decode cX8_meanTipHeight 26 = .ok (.dconst 0, 1) := by decide +kernel
theorem dX8_meanTipHeight_27 : decode cX8_meanTipHeight 27 = .ok (.dreturn, 1) := by decide +kernel
theorem dX8_validShare_0 : decode cX8_validShare 0 = .ok (.aload_n 0, 1) := by decide +kernel
theorem dX8_validShare_1 : decode cX8_validShare 1 = .ok (.getfield 21, 3) := by decide +kernel
theorem dX8_validShare_4 : decode cX8_validShare 4 = .ok (.invokevirtual 122, 3) := by decide +kernel
theorem dX8_validShare_7 : decode cX8_validShare 7 = .ok (.istore_n 1, 1) := by decide +kernel
theorem dX8_validShare_8 : decode cX8_validShare 8 = .ok (.iload_n 1, 1) := by decide +kernel
theorem dX8_validShare_9 : decode cX8_validShare 9 = .ok (.ifCond .le 17, 3) := by decide +kernel
theorem dX8_validShare_12 : decode cX8_validShare 12 = .ok (.aload_n 0, 1) := by decide +kernel
theorem dX8_validShare_13 : decode cX8_validShare 13 = .ok (.getfield 21, 3) := by decide +kernel
theorem dX8_validShare_16 : decode cX8_validShare 16 = .ok (.invokevirtual 258, 3) := by decide +kernel
theorem dX8_validShare_19 : decode cX8_validShare 19 = .ok (.i2f, 1) := by decide +kernel
theorem dX8_validShare_20 : decode cX8_validShare 20 = .ok (.iload_n 1, 1) := by decide +kernel
theorem dX8_validShare_21 : decode cX8_validShare 21 = .ok (.i2f, 1) := by decide +kernel
theorem dX8_validShare_22 : decode cX8_validShare 22 = .ok (.fdiv, 1) := by decide +kernel
theorem dX8_validShare_23 : decode cX8_validShare 23 = .ok (.goto 4, 3) := by decide +kernel
theorem dX8_validShare_26 : decode cX8_validShare 26 = .ok (.fconst 0, 1) := by decide +kernel
theorem dX8_validShare_27 : decode cX8_validShare 27 = .ok (.freturn, 1) := by decide +kernel
theorem dX8_isConsistent_0 : decode cX8_isConsistent 0 = .ok (.aload_n 0, 1) := by decide +kernel
theorem dX8_isConsistent_1 : decode cX8_isConsistent 1 = .ok (.getfield 21, 3) := by decide +kernel
theorem dX8_isConsistent_4 : decode cX8_isConsistent 4 = .ok (.invokevirtual 261, 3) := by decide +kernel
theorem dX8_isConsistent_7 : decode cX8_isConsistent 7 = .ok (.ifCond .eq 44, 3) := by decide +kernel
theorem dX8_isConsistent_10 : decode cX8_isConsistent 10 = .ok (.aload_n 0, 1) := by decide +kernel
theorem dX8_isConsistent_11 : decode cX8_isConsistent 11 = .ok (.getfield 21, 3) := by decide +kernel
theorem dX8_isConsistent_14 : decode cX8_isConsistent 14 = .ok (.invokevirtual 265, 3) := by decide +kernel
theorem dX8_isConsistent_17 : decode cX8_isConsistent 17 = .ok (.ifCond .eq 34, 3) := by decide +kernel
theorem dX8_isConsistent_20 : decode cX8_isConsistent 20 = .ok (.aload_n 0, 1) := by decide +kernel
theorem dX8_isConsistent_21 : decode cX8_isConsistent 21 = .ok (.getfield 10, 3) := by decide +kernel
theorem dX8_isConsistent_24 : decode cX8_isConsistent 24 = .ok (.getfield 249, 3) := by decide +kernel
theorem dX8_isConsistent_27 : decode cX8_isConsistent 27 = .ok (.aload_n 0, 1) := by decide +kernel
theorem dX8_isConsistent_28 : decode cX8_isConsistent 28 = .ok (.getfield 10, 3) := by decide +kernel
theorem dX8_isConsistent_31 : decode cX8_isConsistent 31 = .ok (.getfield 252, 3) := by decide +kernel
theorem dX8_isConsistent_34 : decode cX8_isConsistent 34 = .ok (.aload_n 0, 1) := by decide +kernel
theorem dX8_isConsistent_35 : decode cX8_isConsistent 35 = .ok (.getfield 21, 3) := by decide +kernel
theorem dX8_isConsistent_38 : decode cX8_isConsistent 38 = .ok (.invokevirtual 122, 3) := by decide +kernel
theorem dX8_isConsistent_41 : decode cX8_isConsistent 41 = .ok (.iadd, 1) := by decide +kernel
theorem dX8_isConsistent_42 : decode cX8_isConsistent 42 = .ok (.iconst 1, 1) := by decide +kernel
theorem dX8_isConsistent_43 : decode cX8_isConsistent 43 = .ok (.isub, 1) := by decide +kernel
theorem dX8_isConsistent_44 : decode cX8_isConsistent 44 = .ok (.if_icmp .ne 7, 3) := by decide +kernel
theorem dX8_isConsistent_47 : decode cX8_isConsistent 47 = .ok (.iconst 1, 1) := by decide +kernel
theorem dX8_isConsistent_48 : decode cX8_isConsistent 48 = .ok (.goto 4, 3) := by decide +kernel
theorem dX8_isConsistent_51 : decode cX8_isConsistent 51 = .ok (.iconst 0, 1) := by decide +kernel
theorem dX8_isConsistent_52 : decode cX8_isConsistent 52 = .ok (.ireturn, 1) := by decide +kernel
theorem dX8_hillCount_0 : decode cX8_hillCount 0 = .ok (.aload_n 0, 1) := by decide +kernel
theorem dX8_hillCount_1 : decode cX8_hillCount 1 = .ok (.getfield 10, 3) := by decide +kernel
theorem dX8_hillCount_4 : decode cX8_hillCount 4 = .ok (.getfield 268, 3) := by decide +kernel
theorem dX8_hillCount_7 : decode cX8_hillCount 7 = .ok (.ireturn, 1) := by decide +kernel
theorem dX8_followed_0 : decode cX8_followed 0 = .ok (.aload_n 0, 1) := by decide +kernel
theorem dX8_followed_1 : decode cX8_followed 1 = .ok (.iload_n 1, 1) := by decide +kernel
theorem dX8_followed_2 : decode cX8_followed 2 = .ok (.invokevirtual 271, 3) := by decide +kernel
theorem dX8_followed_5 : decode cX8_followed 5 = .ok (.aload_n 0, 1) := by decide +kernel
theorem dX8_followed_6 : decode cX8_followed 6 = .ok (.getfield 10, 3) := by decide +kernel
theorem dX8_followed_9 : decode cX8_followed 9 = .ok (.getfield 128, 3) := by decide +kernel
theorem dX8_followed_12 : decode cX8_followed 12 = .ok (.aload_n 0, 1) := by decide +kernel
theorem dX8_followed_13 : decode cX8_followed 13 = .ok (.getfield 10, 3) := by decide +kernel
theorem dX8_followed_16 : decode cX8_followed 16 = .ok (.getfield 275, 3) := by decide +kernel
theorem dX8_followed_19 : decode cX8_followed 19 = .ok (.iload_n 1, 1) := by decide +kernel
theorem dX8_followed_20 : decode cX8_followed 20 = .ok (.invokevirtual 138, 3) := by decide +kernel
theorem dX8_followed_23 : decode cX8_followed 23 = .ok (.invokevirtual 138, 3) := by decide +kernel
theorem dX8_followed_26 : decode cX8_followed 26 = .ok (.ireturn, 1) := by decide +kernel
theorem dX8_collected_0 : decode cX8_collected 0 = .ok (.aload_n 0, 1) := by decide +kernel
theorem dX8_collected_1 : decode cX8_collected 1 = .ok (.iload_n 1, 1) := by decide +kernel
theorem dX8_collected_2 : decode cX8_collected 2 = .ok (.invokevirtual 271, 3) := by decide +kernel
theorem dX8_collected_5 : decode cX8_collected 5 = .ok (.aload_n 0, 1) := by decide +kernel
theorem dX8_collected_6 : decode cX8_collected 6 = .ok (.getfield 10, 3) := by decide +kernel
theorem dX8_collected_9 : decode cX8_collected 9 = .ok (.getfield 278, 3) := by decide +kernel
theorem dX8_collected_12 : decode cX8_collected 12 = .ok (.iload_n 1, 1) := by decide +kernel
theorem dX8_collected_13 : decode cX8_collected 13 = .ok (.invokevirtual 156, 3) := by decide +kernel
theorem dX8_collected_16 : decode cX8_collected 16 = .ok (.ireturn, 1) := by decide +kernel
theorem dX8_blocksBy_0 : decode cX8_blocksBy 0 = .ok (.aload_n 0, 1) := by decide +kernel
theorem dX8_blocksBy_1 : decode cX8_blocksBy 1 = .ok (.iload_n 1, 1) := by decide +kernel
theorem dX8_blocksBy_2 : decode cX8_blocksBy 2 = .ok (.invokevirtual 271, 3) := by decide +kernel
theorem dX8_blocksBy_5 : decode cX8_blocksBy 5 = .ok (.aload_n 0, 1) := by decide +kernel
theorem dX8_blocksBy_6 : decode cX8_blocksBy 6 = .ok (.getfield 21, 3) := by decide +kernel
theorem dX8_blocksBy_9 : decode cX8_blocksBy 9 = .ok (.iload_n 1, 1) := by decide +kernel
theorem dX8_blocksBy_10 : decode cX8_blocksBy 10 = .ok (.invokevirtual 281, 3) := by decide +kernel
theorem dX8_blocksBy_13 : decode cX8_blocksBy 13 = .ok (.ireturn, 1) := by decide +kernel
theorem dX8_nextHash_0 : decode cX8_nextHash 0 = .ok (.aload_n 0, 1) := by decide +kernel
theorem dX8_nextHash_1 : decode cX8_nextHash 1 = .ok (.iload_n 1, 1) := by decide +kernel
theorem dX8_nextHash_2 : decode cX8_nextHash 2 = .ok (.invokevirtual 271, 3) := by decide +kernel
theorem dX8_nextHash_5 : decode cX8_nextHash 5 = .ok (.aload_n 0, 1) := by decide +kernel
theorem dX8_nextHash_6 : decode cX8_nextHash 6 = .ok (.getfield 10, 3) := by decide +kernel
theorem dX8_nextHash_9 : decode cX8_nextHash 9 = .ok (.getfield 175, 3) := by decide +kernel
theorem dX8_nextHash_12 : decode cX8_nextHash 12 = .ok (.aload_n 0, 1) := by decide +kernel
theorem dX8_nextHash_13 : decode cX8_nextHash 13 = .ok (.getfield 10, 3) := by decide +kernel
theorem dX8_nextHash_16 : decode cX8_nextHash 16 = .ok (.getfield 275, 3) := by decide +kernel
theorem dX8_nextHash_19 : decode cX8_nextHash 19 = .ok (.iload_n 1, 1) := by decide +kernel
theorem dX8_nextHash_20 : decode cX8_nextHash 20 = .ok (.invokevirtual 138, 3) := by decide +kernel
theorem dX8_nextHash_23 : decode cX8_nextHash 23 = .ok (.invokevirtual 138, 3) := by decide +kernel
theorem dX8_nextHash_26 : decode cX8_nextHash 26 = .ok (.istore_n 2, 1) := by decide +kernel
theorem dX8_nextHash_27 : decode cX8_nextHash 27 = .ok (.iload_n 2, 1) := by decide +kernel
theorem dX8_nextHash_28 : decode cX8_nextHash 28 = .ok (.aload_n 0, 1) := by decide +kernel
theorem dX8_nextHash_29 : decode cX8_nextHash 29 = .ok (.getfield 10, 3) := by decide +kernel
theorem dX8_nextHash_32 : decode cX8_nextHash 32 = .ok (.getfield 278, 3) := by decide +kernel
theorem dX8_nextHash_35 : decode cX8_nextHash 35 = .ok (.iload_n 1, 1) := by decide +kernel
theorem dX8_nextHash_36 : decode cX8_nextHash 36 = .ok (.invokevirtual 181, 3) := by decide +kernel
theorem dX8_nextHash_39 : decode cX8_nextHash 39 = .ok (.iload_n 1, 1) := by decide +kernel
theorem dX8_nextHash_40 : decode cX8_nextHash 40 = .ok (.invokestatic 284, 3) := by decide +kernel
theorem dX8_nextHash_43 : decode cX8_nextHash 43 = .ok (.ireturn, 1) := by decide +kernel
theorem dX8_renderBlock_0 : decode cX8_renderBlock 0 = .ok (.aload_n 0, 1) := by decide +kernel
theorem dX8_renderBlock_1 : decode cX8_renderBlock 1 = .ok (.iload_n 1, 1) := by decide +kernel
theorem dX8_renderBlock_2 : decode cX8_renderBlock 2 = .ok (.invokevirtual 143, 3) := by decide +kernel
theorem dX8_renderBlock_5 : decode cX8_renderBlock 5 = .ok (.istore_n 2, 1) := by decide +kernel
theorem dX8_renderBlock_6 : decode cX8_renderBlock 6 = .ok (.aload_n 0, 1) := by decide +kernel
theorem dX8_renderBlock_7 : decode cX8_renderBlock 7 = .ok (.getfield 57, 3) := by decide +kernel
theorem dX8_renderBlock_10 : decode cX8_renderBlock 10 = .ok (.iconst 0, 1) := by decide +kernel
theorem dX8_renderBlock_11 : decode cX8_renderBlock 11 = .ok (.invokevirtual 287, 3) := by decide +kernel
theorem dX8_renderBlock_14 : decode cX8_renderBlock 14 = .ok (.aload_n 0, 1) := by decide +kernel
theorem dX8_renderBlock_15 : decode cX8_renderBlock 15 = .ok (.getfield 57, 3) := by decide +kernel
theorem dX8_renderBlock_18 : decode cX8_renderBlock 18 = .ok (.iload_n 1, 1) := by decide +kernel
theorem dX8_renderBlock_19 : decode cX8_renderBlock 19 = .ok (.invokevirtual 290, 3) := by decide +kernel
theorem dX8_renderBlock_22 : decode cX8_renderBlock 22 = .ok (.bipush 35, 2) := by decide +kernel
theorem dX8_renderBlock_24 : decode cX8_renderBlock 24 = .ok (.invokevirtual 293, 3) := by decide +kernel
theorem dX8_renderBlock_27 : decode cX8_renderBlock 27 = .ok (.aload_n 0, 1) := by decide +kernel
theorem dX8_renderBlock_28 : decode cX8_renderBlock 28 = .ok (.getfield 10, 3) := by decide +kernel
theorem dX8_renderBlock_31 : decode cX8_renderBlock 31 = .ok (.getfield 175, 3) := by decide +kernel
theorem dX8_renderBlock_34 : decode cX8_renderBlock 34 = .ok (.iload_n 2, 1) := by decide +kernel
theorem dX8_renderBlock_35 : decode cX8_renderBlock 35 = .ok (.invokevirtual 138, 3) := by decide +kernel
theorem dX8_renderBlock_38 : decode cX8_renderBlock 38 = .ok (.invokevirtual 290, 3) := by decide +kernel
theorem dX8_renderBlock_41 : decode cX8_renderBlock 41 = .ok (.pop, 1) := by decide +kernel
theorem dX8_renderBlock_42 : decode cX8_renderBlock 42 = .ok (.iload_n 2, 1) := by decide +kernel
theorem dX8_renderBlock_43 : decode cX8_renderBlock 43 = .ok (.ifCond .eq 61, 3) := by decide +kernel
theorem dX8_renderBlock_46 : decode cX8_renderBlock 46 = .ok (.aload_n 0, 1) := by decide +kernel
theorem dX8_renderBlock_47 : decode cX8_renderBlock 47 = .ok (.getfield 57, 3) := by decide +kernel
theorem dX8_renderBlock_50 : decode cX8_renderBlock 50 = .ok (.bipush 60, 2) := by decide +kernel
theorem dX8_renderBlock_52 : decode cX8_renderBlock 52 = .ok (.invokevirtual 293, 3) := by decide +kernel
theorem dX8_renderBlock_55 : decode cX8_renderBlock 55 = .ok (.aload_n 0, 1) := by decide +kernel
theorem dX8_renderBlock_56 : decode cX8_renderBlock 56 = .ok (.getfield 10, 3) := by decide +kernel
theorem dX8_renderBlock_59 : decode cX8_renderBlock 59 = .ok (.getfield 128, 3) := by decide +kernel
theorem dX8_renderBlock_62 : decode cX8_renderBlock 62 = .ok (.aload_n 0, 1) := by decide +kernel
theorem dX8_renderBlock_63 : decode cX8_renderBlock 63 = .ok (.getfield 10, 3) := by decide +kernel
theorem dX8_renderBlock_66 : decode cX8_renderBlock 66 = .ok (.getfield 132, 3) := by decide +kernel
theorem dX8_renderBlock_69 : decode cX8_renderBlock 69 = .ok (.iload_n 2, 1) := by decide +kernel
theorem dX8_renderBlock_70 : decode cX8_renderBlock 70 = .ok (.invokevirtual 138, 3) := by decide +kernel
theorem dX8_renderBlock_73 : decode cX8_renderBlock 73 = .ok (.invokevirtual 138, 3) := by decide +kernel
theorem dX8_renderBlock_76 : decode cX8_renderBlock 76 = .ok (.invokevirtual 290, 3) := by decide +kernel
theorem dX8_renderBlock_79 : decode cX8_renderBlock 79 = .ok (.pop, 1) := by decide +kernel
theorem dX8_renderBlock_80 : decode cX8_renderBlock 80 = .ok (.aload_n 0, 1) := by decide +kernel
theorem dX8_renderBlock_81 : decode cX8_renderBlock 81 = .ok (.getfield 57, 3) := by decide +kernel
theorem dX8_renderBlock_84 : decode cX8_renderBlock 84 = .ok (.bipush 104, 2) := by decide +kernel
theorem dX8_renderBlock_86 : decode cX8_renderBlock 86 = .ok (.invokevirtual 293, 3) := by decide +kernel
theorem dX8_renderBlock_89 : decode cX8_renderBlock 89 = .ok (.aload_n 0, 1) := by decide +kernel
theorem dX8_renderBlock_90 : decode cX8_renderBlock 90 = .ok (.getfield 10, 3) := by decide +kernel
theorem dX8_renderBlock_93 : decode cX8_renderBlock 93 = .ok (.getfield 149, 3) := by decide +kernel
theorem dX8_renderBlock_96 : decode cX8_renderBlock 96 = .ok (.iload_n 2, 1) := by decide +kernel
theorem dX8_renderBlock_97 : decode cX8_renderBlock 97 = .ok (.invokevirtual 138, 3) := by decide +kernel
theorem dX8_renderBlock_100 : decode cX8_renderBlock 100 = .ok (.invokevirtual 290, 3) := by decide +kernel
theorem dX8_renderBlock_103 : decode cX8_renderBlock 103 = .ok (.pop, 1) := by decide +kernel
theorem dX8_renderBlock_104 : decode cX8_renderBlock 104 = .ok (.aload_n 0, 1) := by decide +kernel
theorem dX8_renderBlock_105 : decode cX8_renderBlock 105 = .ok (.getfield 10, 3) := by decide +kernel
theorem dX8_renderBlock_108 : decode cX8_renderBlock 108 = .ok (.getfield 152, 3) := by decide +kernel
theorem dX8_renderBlock_111 : decode cX8_renderBlock 111 = .ok (.iload_n 2, 1) := by decide +kernel
theorem dX8_renderBlock_112 : decode cX8_renderBlock 112 = .ok (.invokevirtual 156, 3) := by decide +kernel
theorem dX8_renderBlock_115 : decode cX8_renderBlock 115 = .ok (.istore_n 3, 1) := by decide +kernel
theorem dX8_renderBlock_116 : decode cX8_renderBlock 116 = .ok (.iconst 0, 1) := by decide +kernel
theorem dX8_renderBlock_117 : decode cX8_renderBlock 117 = .ok (.istore 4, 2) := by decide +kernel
theorem dX8_renderBlock_119 : decode cX8_renderBlock 119 = .ok (.iload 4, 2) := by decide +kernel
theorem dX8_renderBlock_121 : decode cX8_renderBlock 121 = .ok (.iload_n 3, 1) := by decide +kernel
theorem dX8_renderBlock_122 : decode cX8_renderBlock 122 = .ok (.if_icmp .ge 35, 3) := by decide +kernel
theorem dX8_renderBlock_125 : decode cX8_renderBlock 125 = .ok (.aload_n 0, 1) := by decide +kernel
theorem dX8_renderBlock_126 : decode cX8_renderBlock 126 = .ok (.getfield 57, 3) := by decide +kernel
theorem dX8_renderBlock_129 : decode cX8_renderBlock 129 = .ok (.bipush 44, 2) := by decide +kernel
theorem dX8_renderBlock_131 : decode cX8_renderBlock 131 = .ok (.invokevirtual 293, 3) := by decide +kernel
theorem dX8_renderBlock_134 : decode cX8_renderBlock 134 = .ok (.aload_n 0, 1) := by decide +kernel
theorem dX8_renderBlock_135 : decode cX8_renderBlock 135 = .ok (.getfield 10, 3) := by decide +kernel
theorem dX8_renderBlock_138 : decode cX8_renderBlock 138 = .ok (.getfield 152, 3) := by decide +kernel
theorem dX8_renderBlock_141 : decode cX8_renderBlock 141 = .ok (.iload_n 2, 1) := by decide +kernel
theorem dX8_renderBlock_142 : decode cX8_renderBlock 142 = .ok (.iload 4, 2) := by decide +kernel
theorem dX8_renderBlock_144 : decode cX8_renderBlock 144 = .ok (.invokevirtual 172, 3) := by decide +kernel
theorem dX8_renderBlock_147 : decode cX8_renderBlock 147 = .ok (.invokevirtual 290, 3) := by decide +kernel
theorem dX8_renderBlock_150 : decode cX8_renderBlock 150 = .ok (.pop, 1) := by decide +kernel
theorem dX8_renderBlock_151 : decode cX8_renderBlock 151 = .ok (.iinc 4 1, 3) := by decide +kernel
theorem dX8_renderBlock_154 : decode cX8_renderBlock 154 = .ok (.goto (-35), 3) := by decide +kernel
theorem dX8_renderBlock_157 : decode cX8_renderBlock 157 = .ok (.aload_n 0, 1) := by decide +kernel
theorem dX8_renderBlock_158 : decode cX8_renderBlock 158 = .ok (.getfield 21, 3) := by decide +kernel
theorem dX8_renderBlock_161 : decode cX8_renderBlock 161 = .ok (.iload_n 2, 1) := by decide +kernel
theorem dX8_renderBlock_162 : decode cX8_renderBlock 162 = .ok (.invokevirtual 193, 3) := by decide +kernel
theorem dX8_renderBlock_165 : decode cX8_renderBlock 165 = .ok (.ifCond .ne 13, 3) := by decide +kernel
theorem dX8_renderBlock_168 : decode cX8_renderBlock 168 = .ok (.aload_n 0, 1) := by decide +kernel
theorem dX8_renderBlock_169 : decode cX8_renderBlock 169 = .ok (.getfield 57, 3) := by decide +kernel
theorem dX8_renderBlock_172 : decode cX8_renderBlock 172 = .ok (.bipush 33, 2) := by decide +kernel
theorem dX8_renderBlock_174 : decode cX8_renderBlock 174 = .ok (.invokevirtual 293, 3) := by decide +kernel
theorem dX8_renderBlock_177 : decode cX8_renderBlock 177 = .ok (.pop, 1) := by decide +kernel
theorem dX8_renderBlock_178 : decode cX8_renderBlock 178 = .ok (.aload_n 0, 1) := by decide +kernel
theorem dX8_renderBlock_179 : decode cX8_renderBlock 179 = .ok (.getfield 57, 3) := by decide +kernel
theorem dX8_renderBlock_182 : decode cX8_renderBlock 182 = .ok (.invokevirtual 296, 3) := by decide +kernel
theorem dX8_renderBlock_185 : decode cX8_renderBlock 185 = .ok (.ireturn, 1) := by decide +kernel
theorem dX8_renderBranch_0 : decode cX8_renderBranch 0 = .ok (.aload_n 0, 1) := by decide +kernel
theorem dX8_renderBranch_1 : decode cX8_renderBranch 1 = .ok (.iload_n 1, 1) := by decide +kernel
theorem dX8_renderBranch_2 : decode cX8_renderBranch 2 = .ok (.invokevirtual 143, 3) := by decide +kernel
theorem dX8_renderBranch_5 : decode cX8_renderBranch 5 = .ok (.istore_n 2, 1) := by decide +kernel
theorem dX8_renderBranch_6 : decode cX8_renderBranch 6 = .ok (.aload_n 0, 1) := by decide +kernel
theorem dX8_renderBranch_7 : decode cX8_renderBranch 7 = .ok (.getfield 57, 3) := by decide +kernel
theorem dX8_renderBranch_10 : decode cX8_renderBranch 10 = .ok (.iconst 0, 1) := by decide +kernel
theorem dX8_renderBranch_11 : decode cX8_renderBranch 11 = .ok (.invokevirtual 287, 3) := by decide +kernel
theorem dX8_renderBranch_14 : decode cX8_renderBranch 14 = .ok (.iload_n 2, 1) := by decide +kernel
theorem dX8_renderBranch_15 : decode cX8_renderBranch 15 = .ok (.istore_n 3, 1) := by decide +kernel
theorem dX8_renderBranch_16 : decode cX8_renderBranch 16 = .ok (.iconst 0, 1) := by decide +kernel
theorem dX8_renderBranch_17 : decode cX8_renderBranch 17 = .ok (.istore 4, 2) := by decide +kernel
theorem dX8_renderBranch_19 : decode cX8_renderBranch 19 = .ok (.iload_n 3, 1) := by decide +kernel
theorem dX8_renderBranch_20 : decode cX8_renderBranch 20 = .ok (.iconst (-1), 1) := by decide +kernel
theorem dX8_renderBranch_21 : decode cX8_renderBranch 21 = .ok (.if_icmp .eq 62, 3) := by decide +kernel
theorem dX8_renderBranch_24 : decode cX8_renderBranch 24 = .ok (.iload 4, 2) := by decide +kernel
theorem dX8_renderBranch_26 : decode cX8_renderBranch 26 = .ok (.bipush 16, 2) := by decide +kernel
theorem dX8_renderBranch_28 : decode cX8_renderBranch 28 = .ok (.if_icmp .ge 55, 3) := by decide +kernel
theorem dX8_renderBranch_31 : decode cX8_renderBranch 31 = .ok (.iload 4, 2) := by decide +kernel
theorem dX8_renderBranch_33 : decode cX8_renderBranch 33 = .ok (.ifCond .le 13, 3) := by decide +kernel
theorem dX8_renderBranch_36 : decode cX8_renderBranch 36 = .ok (.aload_n 0, 1) := by decide +kernel
theorem dX8_renderBranch_37 : decode cX8_renderBranch 37 = .ok (.getfield 57, 3) := by decide +kernel
theorem dX8_renderBranch_40 : decode cX8_renderBranch 40 = .ok (.bipush 45, 2) := by decide +kernel
theorem dX8_renderBranch_42 : decode cX8_renderBranch 42 = .ok (.invokevirtual 293, 3) := by decide +kernel
theorem dX8_renderBranch_45 : decode cX8_renderBranch 45 = .ok (.pop, 1) := by decide +kernel
theorem dX8_renderBranch_46 : decode cX8_renderBranch 46 = .ok (.aload_n 0, 1) := by decide +kernel
theorem dX8_renderBranch_47 : decode cX8_renderBranch 47 = .ok (.getfield 57, 3) := by decide +kernel
theorem dX8_renderBranch_50 : decode cX8_renderBranch 50 = .ok (.aload_n 0, 1) := by decide +kernel
theorem dX8_renderBranch_51 : decode cX8_renderBranch 51 = .ok (.getfield 10, 3) := by decide +kernel
theorem dX8_renderBranch_54 : decode cX8_renderBranch 54 = .ok (.getfield 128, 3) := by decide +kernel
theorem dX8_renderBranch_57 : decode cX8_renderBranch 57 = .ok (.iload_n 3, 1) := by decide +kernel
theorem dX8_renderBranch_58 : decode cX8_renderBranch 58 = .ok (.invokevirtual 138, 3) := by decide +kernel
theorem dX8_renderBranch_61 : decode cX8_renderBranch 61 = .ok (.invokevirtual 290, 3) := by decide +kernel
theorem dX8_renderBranch_64 : decode cX8_renderBranch 64 = .ok (.pop, 1) := by decide +kernel
theorem dX8_renderBranch_65 : decode cX8_renderBranch 65 = .ok (.aload_n 0, 1) := by decide +kernel
theorem dX8_renderBranch_66 : decode cX8_renderBranch 66 = .ok (.getfield 10, 3) := by decide +kernel
theorem dX8_renderBranch_69 : decode cX8_renderBranch 69 = .ok (.getfield 132, 3) := by decide +kernel
theorem dX8_renderBranch_72 : decode cX8_renderBranch 72 = .ok (.iload_n 3, 1) := by decide +kernel
theorem dX8_renderBranch_73 : decode cX8_renderBranch 73 = .ok (.invokevirtual 138, 3) := by decide +kernel
theorem dX8_renderBranch_76 : decode cX8_renderBranch 76 = .ok (.istore_n 3, 1) := by decide +kernel
theorem dX8_renderBranch_77 : decode cX8_renderBranch 77 = .ok (.iinc 4 1, 3) := by decide +kernel
theorem dX8_renderBranch_80 : decode cX8_renderBranch 80 = .ok (.goto (-61), 3) := by decide +kernel
theorem dX8_renderBranch_83 : decode cX8_renderBranch 83 = .ok (.aload_n 0, 1) := by decide +kernel
theorem dX8_renderBranch_84 : decode cX8_renderBranch 84 = .ok (.getfield 57, 3) := by decide +kernel
theorem dX8_renderBranch_87 : decode cX8_renderBranch 87 = .ok (.invokevirtual 296, 3) := by decide +kernel
theorem dX8_renderBranch_90 : decode cX8_renderBranch 90 = .ok (.ireturn, 1) := by decide +kernel
theorem dX8_type_0 : decode cX8_type 0 = .ok (.iload_n 1, 1) := by decide +kernel
theorem dX8_type_1 : decode cX8_type 1 = .ok (.bipush 32, 2) := by decide +kernel
theorem dX8_type_3 : decode cX8_type 3 = .ok (.if_icmp .lt 9, 3) := by decide +kernel
theorem dX8_type_6 : decode cX8_type 6 = .ok (.iload_n 1, 1) := by decide +kernel
theorem dX8_type_7 : decode cX8_type 7 = .ok (.bipush 126, 2) := by decide +kernel
theorem dX8_type_9 : decode cX8_type 9 = .ok (.if_icmp .le 14, 3) := by decide +kernel
theorem dX8_type_12 : decode cX8_type 12 = .ok (.new 234, 3) := by decide +kernel
theorem dX8_type_15 : decode cX8_type 15 = .ok (.dup, 1) := by decide +kernel
theorem dX8_type_16 : decode cX8_type 16 = .ok (.ldc_w 305, 3) := by decide +kernel
theorem dX8_type_19 : decode cX8_type 19 = .ok (.invokespecial 238, 3) := by decide +kernel
theorem dX8_type_22 : decode cX8_type 22 = .ok (.athrow, 1) := by decide +kernel
theorem dX8_type_23 : decode cX8_type 23 = .ok (.aload_n 0, 1) := by decide +kernel
theorem dX8_type_24 : decode cX8_type 24 = .ok (.getfield 50, 3) := by decide +kernel
theorem dX8_type_27 : decode cX8_type 27 = .ok (.invokevirtual 307, 3) := by decide +kernel
theorem dX8_type_30 : decode cX8_type 30 = .ok (.bipush 60, 2) := by decide +kernel
theorem dX8_type_32 : decode cX8_type 32 = .ok (.if_icmp .lt 14, 3) := by decide +kernel
theorem dX8_type_35 : decode cX8_type 35 = .ok (.new 308, 3) := by decide +kernel
theorem dX8_type_38 : decode cX8_type 38 = .ok (.dup, 1) := by decide +kernel
theorem dX8_type_39 : decode cX8_type 39 = .ok (.ldc_w 310, 3) := by decide +kernel
theorem dX8_type_42 : decode cX8_type 42 = .ok (.invokespecial 312, 3) := by decide +kernel
theorem dX8_type_45 : decode cX8_type 45 = .ok (.athrow, 1) := by decide +kernel
theorem dX8_type_46 : decode cX8_type 46 = .ok (.aload_n 0, 1) := by decide +kernel
theorem dX8_type_47 : decode cX8_type 47 = .ok (.getfield 50, 3) := by decide +kernel
theorem dX8_type_50 : decode cX8_type 50 = .ok (.iload_n 1, 1) := by decide +kernel
theorem dX8_type_51 : decode cX8_type 51 = .ok (.invokevirtual 313, 3) := by decide +kernel
theorem dX8_type_54 : decode cX8_type 54 = .ok (.ireturn, 1) := by decide +kernel
theorem dX8_runScript_0 : decode cX8_runScript 0 = .ok (.aload_n 0, 1) := by decide +kernel
theorem dX8_runScript_1 : decode cX8_runScript 1 = .ok (.getfield 50, 3) := by decide +kernel
theorem dX8_runScript_4 : decode cX8_runScript 4 = .ok (.invokevirtual 316, 3) := by decide +kernel
theorem dX8_runScript_7 : decode cX8_runScript 7 = .ok (.istore_n 1, 1) := by decide +kernel
theorem dX8_runScript_8 : decode cX8_runScript 8 = .ok (.aload_n 0, 1) := by decide +kernel
theorem dX8_runScript_9 : decode cX8_runScript 9 = .ok (.getfield 50, 3) := by decide +kernel
theorem dX8_runScript_12 : decode cX8_runScript 12 = .ok (.invokevirtual 319, 3) := by decide +kernel
theorem dX8_runScript_15 : decode cX8_runScript 15 = .ok (.iload_n 1, 1) := by decide +kernel
theorem dX8_runScript_16 : decode cX8_runScript 16 = .ok (.ifCond .ne 25, 3) := by decide +kernel
theorem dX8_runScript_19 : decode cX8_runScript 19 = .ok (.aload_n 0, 1) := by decide +kernel
theorem dX8_runScript_20 : decode cX8_runScript 20 = .ok (.aload_n 0, 1) := by decide +kernel
theorem dX8_runScript_21 : decode cX8_runScript 21 = .ok (.getfield 50, 3) := by decide +kernel
theorem dX8_runScript_24 : decode cX8_runScript 24 = .ok (.getfield 322, 3) := by decide +kernel
theorem dX8_runScript_27 : decode cX8_runScript 27 = .ok (.putfield 61, 3) := by decide +kernel
theorem dX8_runScript_30 : decode cX8_runScript 30 = .ok (.new 234, 3) := by decide +kernel
theorem dX8_runScript_33 : decode cX8_runScript 33 = .ok (.dup, 1) := by decide +kernel
theorem dX8_runScript_34 : decode cX8_runScript 34 = .ok (.ldc_w 325, 3) := by decide +kernel
theorem dX8_runScript_37 : decode cX8_runScript 37 = .ok (.invokespecial 238, 3) := by decide +kernel
theorem dX8_runScript_40 : decode cX8_runScript 40 = .ok (.athrow, 1) := by decide +kernel
theorem dX8_runScript_41 : decode cX8_runScript 41 = .ok (.aload_n 0, 1) := by decide +kernel
theorem dX8_runScript_42 : decode cX8_runScript 42 = .ok (.getfield 44, 3) := by decide +kernel
theorem dX8_runScript_45 : decode cX8_runScript 45 = .ok (.aload_n 0, 1) := by decide +kernel
theorem dX8_runScript_46 : decode cX8_runScript 46 = .ok (.getfield 10, 3) := by decide +kernel
theorem dX8_runScript_49 : decode cX8_runScript 49 = .ok (.invokevirtual 327, 3) := by decide +kernel
theorem dX8_runScript_52 : decode cX8_runScript 52 = .ok (.iconst 0, 1) := by decide +kernel
theorem dX8_runScript_53 : decode cX8_runScript 53 = .ok (.istore_n 2, 1) := by decide +kernel
theorem dX8_runScript_54 : decode cX8_runScript 54 = .ok (.iload_n 2, 1) := by decide +kernel
theorem dX8_runScript_55 : decode cX8_runScript 55 = .ok (.aload_n 0, 1) := by decide +kernel
theorem dX8_runScript_56 : decode cX8_runScript 56 = .ok (.getfield 50, 3) := by decide +kernel
theorem dX8_runScript_59 : decode cX8_runScript 59 = .ok (.getfield 330, 3) := by decide +kernel
theorem dX8_runScript_62 : decode cX8_runScript 62 = .ok (.if_icmp .ge 132, 3) := by decide +kernel
theorem dX8_runScript_65 : decode cX8_runScript 65 = .ok (.aload_n 0, 1) := by decide +kernel
theorem dX8_runScript_66 : decode cX8_runScript 66 = .ok (.getfield 50, 3) := by decide +kernel
theorem dX8_runScript_69 : decode cX8_runScript 69 = .ok (.getfield 333, 3) := by decide +kernel
theorem dX8_runScript_72 : decode cX8_runScript 72 = .ok (.iload_n 2, 1) := by decide +kernel
theorem dX8_runScript_73 : decode cX8_runScript 73 = .ok (.invokevirtual 138, 3) := by decide +kernel
theorem dX8_runScript_76 : decode cX8_runScript 76 = .ok (.istore_n 3, 1) := by decide +kernel
theorem dX8_runScript_77 : decode cX8_runScript 77 = .ok (.aload_n 0, 1) := by decide +kernel
theorem dX8_runScript_78 : decode cX8_runScript 78 = .ok (.getfield 50, 3) := by decide +kernel
theorem dX8_runScript_81 : decode cX8_runScript 81 = .ok (.getfield 336, 3) := by decide +kernel
theorem dX8_runScript_84 : decode cX8_runScript 84 = .ok (.iload_n 2, 1) := by decide +kernel
theorem dX8_runScript_85 : decode cX8_runScript 85 = .ok (.invokevirtual 138, 3) := by decide +kernel
theorem dX8_runScript_88 : decode cX8_runScript 88 = .ok (.istore 4, 2) := by decide +kernel
theorem dX8_runScript_90 : decode cX8_runScript 90 = .ok (.aload_n 0, 1) := by decide +kernel
theorem dX8_runScript_91 : decode cX8_runScript 91 = .ok (.getfield 50, 3) := by decide +kernel
theorem dX8_runScript_94 : decode cX8_runScript 94 = .ok (.getfield 339, 3) := by decide +kernel
theorem dX8_runScript_97 : decode cX8_runScript 97 = .ok (.iload_n 2, 1) := by decide +kernel
theorem dX8_runScript_98 : decode cX8_runScript 98 = .ok (.invokevirtual 138, 3) := by decide +kernel
theorem dX8_runScript_101 : decode cX8_runScript 101 = .ok (.istore 5, 2) := by decide +kernel
theorem dX8_runScript_103 : decode cX8_runScript 103 = .ok (.aload_n 0, 1) := by decide +kernel
theorem dX8_runScript_104 : decode cX8_runScript 104 = .ok (.getfield 50, 3) := by decide +kernel
theorem dX8_runScript_107 : decode cX8_runScript 107 = .ok (.getfield 342, 3) := by decide +kernel
theorem dX8_runScript_110 : decode cX8_runScript 110 = .ok (.iload_n 2, 1) := by decide +kernel
theorem dX8_runScript_111 : decode cX8_runScript 111 = .ok (.invokevirtual 138, 3) := by decide +kernel
theorem dX8_runScript_114 : decode cX8_runScript 114 = .ok (.istore 6, 2) := by decide +kernel
theorem dX8_runScript_116 : decode cX8_runScript 116 = .ok (.aload_n 0, 1) := by decide +kernel
theorem dX8_runScript_117 : decode cX8_runScript 117 = .ok (.getfield 30, 3) := by decide +kernel
theorem dX8_runScript_120 : decode cX8_runScript 120 = .ok (.iload_n 3, 1) := by decide +kernel
theorem dX8_runScript_121 : decode cX8_runScript 121 = .ok (.iload 4, 2) := by decide +kernel
theorem dX8_runScript_123 : decode cX8_runScript 123 = .ok (.iload 5, 2) := by decide +kernel
theorem dX8_runScript_125 : decode cX8_runScript 125 = .ok (.iload 6, 2) := by decide +kernel
theorem dX8_runScript_127 : decode cX8_runScript 127 = .ok (.invokevirtual 345, 3) := by decide +kernel
theorem dX8_runScript_130 : decode cX8_runScript 130 = .ok (.getstatic 349, 3) := by decide +kernel
theorem dX8_runScript_133 : decode cX8_runScript 133 = .ok (.if_acmp .eq 40, 3) := by decide +kernel
theorem dX8_runScript_136 : decode cX8_runScript 136 = .ok (.aload_n 0, 1) := by decide +kernel
theorem dX8_runScript_137 : decode cX8_runScript 137 = .ok (.aload_n 0, 1) := by decide +kernel
theorem dX8_runScript_138 : decode cX8_runScript 138 = .ok (.getfield 50, 3) := by decide +kernel
theorem dX8_runScript_141 : decode cX8_runScript 141 = .ok (.getfield 355, 3) := by decide +kernel
theorem dX8_runScript_144 : decode cX8_runScript 144 = .ok (.iload_n 2, 1) := by decide +kernel
theorem dX8_runScript_145 : decode cX8_runScript 145 = .ok (.invokevirtual 138, 3) := by decide +kernel
theorem dX8_runScript_148 : decode cX8_runScript 148 = .ok (.putfield 65, 3) := by decide +kernel
theorem dX8_runScript_151 : decode cX8_runScript 151 = .ok (.aload_n 0, 1) := by decide +kernel
theorem dX8_runScript_152 : decode cX8_runScript 152 = .ok (.getfield 10, 3) := by decide +kernel
theorem dX8_runScript_155 : decode cX8_runScript 155 = .ok (.aload_n 0, 1) := by decide +kernel
theorem dX8_runScript_156 : decode cX8_runScript 156 = .ok (.getfield 44, 3) := by decide +kernel
theorem dX8_runScript_159 : decode cX8_runScript 159 = .ok (.invokevirtual 327, 3) := by decide +kernel
theorem dX8_runScript_162 : decode cX8_runScript 162 = .ok (.new 308, 3) := by decide +kernel
theorem dX8_runScript_165 : decode cX8_runScript 165 = .ok (.dup, 1) := by decide +kernel
theorem dX8_runScript_166 : decode cX8_runScript 166 = .ok (.ldc_w 358, 3) := by decide +kernel
theorem dX8_runScript_169 : decode cX8_runScript 169 = .ok (.invokespecial 312, 3) := by decide +kernel
theorem dX8_runScript_172 : decode cX8_runScript 172 = .ok (.athrow, 1) := by decide +kernel
theorem dX8_runScript_173 : decode cX8_runScript 173 = .ok (.aload_n 0, 1) := by decide +kernel
theorem dX8_runScript_174 : decode cX8_runScript 174 = .ok (.getfield 30, 3) := by decide +kernel
theorem dX8_runScript_177 : decode cX8_runScript 177 = .ok (.iload_n 3, 1) := by decide +kernel
theorem dX8_runScript_178 : decode cX8_runScript 178 = .ok (.iload 4, 2) := by decide +kernel
theorem dX8_runScript_180 : decode cX8_runScript 180 = .ok (.iload 5, 2) := by decide +kernel
theorem dX8_runScript_182 : decode cX8_runScript 182 = .ok (.iload 6, 2) := by decide +kernel
theorem dX8_runScript_184 : decode cX8_runScript 184 = .ok (.invokevirtual 360, 3) := by decide +kernel
theorem dX8_runScript_187 : decode cX8_runScript 187 = .ok (.pop, 1) := by decide +kernel
theorem dX8_runScript_188 : decode cX8_runScript 188 = .ok (.iinc 2 1, 3) := by decide +kernel
theorem dX8_runScript_191 : decode cX8_runScript 191 = .ok (.goto (-137), 3) := by decide +kernel
theorem dX8_runScript_194 : decode cX8_runScript 194 = .ok (.aload_n 0, 1) := by decide +kernel
theorem dX8_runScript_195 : decode cX8_runScript 195 = .ok (.getfield 37, 3) := by decide +kernel
theorem dX8_runScript_198 : decode cX8_runScript 198 = .ok (.aload_n 0, 1) := by decide +kernel
theorem dX8_runScript_199 : decode cX8_runScript 199 = .ok (.getfield 44, 3) := by decide +kernel
theorem dX8_runScript_202 : decode cX8_runScript 202 = .ok (.invokevirtual 364, 3) := by decide +kernel
theorem dX8_runScript_205 : decode cX8_runScript 205 = .ok (.aload_n 0, 1) := by decide +kernel
theorem dX8_runScript_206 : decode cX8_runScript 206 = .ok (.getfield 50, 3) := by decide +kernel
theorem dX8_runScript_209 : decode cX8_runScript 209 = .ok (.getfield 367, 3) := by decide +kernel
theorem dX8_runScript_212 : decode cX8_runScript 212 = .ok (.ireturn, 1) := by decide +kernel
theorem dX8_failedCommand_0 : decode cX8_failedCommand 0 = .ok (.aload_n 0, 1) := by decide +kernel
theorem dX8_failedCommand_1 : decode cX8_failedCommand 1 = .ok (.getfield 65, 3) := by decide +kernel
theorem dX8_failedCommand_4 : decode cX8_failedCommand 4 = .ok (.iconst (-1), 1) := by decide +kernel
theorem dX8_failedCommand_5 : decode cX8_failedCommand 5 = .ok (.if_icmp .ne 14, 3) := by decide +kernel
theorem dX8_failedCommand_8 : decode cX8_failedCommand 8 = .ok (.new 200, 3) := by decide +kernel
theorem dX8_failedCommand_11 : decode cX8_failedCommand 11 = .ok (.dup, 1) := by decide +kernel
theorem dX8_failedCommand_12 : decode cX8_failedCommand 12 = .ok (.ldc_w 372, 3) := by decide +kernel
theorem dX8_failedCommand_15 : decode cX8_failedCommand 15 = .ok (.invokespecial 204, 3) := by decide +kernel
theorem dX8_failedCommand_18 : decode cX8_failedCommand 18 = .ok (.athrow, 1) := by decide +kernel
theorem dX8_failedCommand_19 : decode cX8_failedCommand 19 = .ok (.aload_n 0, 1) := by decide +kernel
theorem dX8_failedCommand_20 : decode cX8_failedCommand 20 = .ok (.getfield 65, 3) := by decide +kernel
theorem dX8_failedCommand_23 : decode cX8_failedCommand 23 = .ok (.ireturn, 1) := by decide +kernel
theorem dX8_undo_0 : decode cX8_undo 0 = .ok (.aload_n 0, 1) := by decide +kernel
theorem dX8_undo_1 : decode cX8_undo 1 = .ok (.getfield 37, 3) := by decide +kernel
theorem dX8_undo_4 : decode cX8_undo 4 = .ok (.getfield 374, 3) := by decide +kernel
theorem dX8_undo_7 : decode cX8_undo 7 = .ok (.ifCond .ne 14, 3) := by decide +kernel
theorem dX8_undo_10 : decode cX8_undo 10 = .ok (.new 308, 3) := by decide +kernel
theorem dX8_undo_13 : decode cX8_undo 13 = .ok (.dup, 1) := by decide +kernel
theorem dX8_undo_14 : decode cX8_undo 14 = .ok (.ldc_w 376, 3) := by decide +kernel
theorem dX8_undo_17 : decode cX8_undo 17 = .ok (.invokespecial 312, 3) := by decide +kernel
theorem dX8_undo_20 : decode cX8_undo 20 = .ok (.athrow, 1) := by decide +kernel
theorem dX8_undo_21 : decode cX8_undo 21 = .ok (.aload_n 0, 1) := by decide +kernel
theorem dX8_undo_22 : decode cX8_undo 22 = .ok (.getfield 37, 3) := by decide +kernel
theorem dX8_undo_25 : decode cX8_undo 25 = .ok (.aload_n 0, 1) := by decide +kernel
theorem dX8_undo_26 : decode cX8_undo 26 = .ok (.getfield 10, 3) := by decide +kernel
theorem dX8_undo_29 : decode cX8_undo 29 = .ok (.invokevirtual 378, 3) := by decide +kernel
theorem dX8_undo_32 : decode cX8_undo 32 = .ok (.aload_n 0, 1) := by decide +kernel
theorem dX8_undo_33 : decode cX8_undo 33 = .ok (.getfield 37, 3) := by decide +kernel
theorem dX8_undo_36 : decode cX8_undo 36 = .ok (.getfield 374, 3) := by decide +kernel
theorem dX8_undo_39 : decode cX8_undo 39 = .ok (.ireturn, 1) := by decide +kernel
theorem dX8_save_0 : decode cX8_save 0 = .ok (.aload_n 0, 1) := by decide +kernel
theorem dX8_save_1 : decode cX8_save 1 = .ok (.getfield 41, 3) := by decide +kernel
theorem dX8_save_4 : decode cX8_save 4 = .ok (.aload_n 0, 1) := by decide +kernel
theorem dX8_save_5 : decode cX8_save 5 = .ok (.getfield 10, 3) := by decide +kernel
theorem dX8_save_8 : decode cX8_save 8 = .ok (.invokevirtual 327, 3) := by decide +kernel
theorem dX8_save_11 : decode cX8_save 11 = .ok (.aload_n 0, 1) := by decide +kernel
theorem dX8_save_12 : decode cX8_save 12 = .ok (.iconst 1, 1) := by decide +kernel
theorem dX8_save_13 : decode cX8_save 13 = .ok (.putfield 381, 3) := by decide +kernel
theorem dX8_save_16 : decode cX8_save 16 = .ok (.aload_n 0, 1) := by decide +kernel
theorem dX8_save_17 : decode cX8_save 17 = .ok (.getfield 21, 3) := by decide +kernel
theorem dX8_save_20 : decode cX8_save 20 = .ok (.invokevirtual 122, 3) := by decide +kernel
theorem dX8_save_23 : decode cX8_save 23 = .ok (.ireturn, 1) := by decide +kernel
theorem dX8_restore_0 : decode cX8_restore 0 = .ok (.aload_n 0, 1) := by decide +kernel
theorem dX8_restore_1 : decode cX8_restore 1 = .ok (.getfield 381, 3) := by decide +kernel
theorem dX8_restore_4 : decode cX8_restore 4 = .ok (.ifCond .ne 14, 3) := by decide +kernel
theorem dX8_restore_7 : decode cX8_restore 7 = .ok (.new 308, 3) := by decide +kernel
theorem dX8_restore_10 : decode cX8_restore 10 = .ok (.dup, 1) := by decide +kernel
theorem dX8_restore_11 : decode cX8_restore 11 = .ok (.ldc_w 385, 3) := by decide +kernel
theorem dX8_restore_14 : decode cX8_restore 14 = .ok (.invokespecial 312, 3) := by decide +kernel
theorem dX8_restore_17 : decode cX8_restore 17 = .ok (.athrow, 1) := by decide +kernel
theorem dX8_restore_18 : decode cX8_restore 18 = .ok (.aload_n 0, 1) := by decide +kernel
theorem dX8_restore_19 : decode cX8_restore 19 = .ok (.getfield 10, 3) := by decide +kernel
theorem dX8_restore_22 : decode cX8_restore 22 = .ok (.aload_n 0, 1) := by decide +kernel
theorem dX8_restore_23 : decode cX8_restore 23 = .ok (.getfield 41, 3) := by decide +kernel
theorem dX8_restore_26 : decode cX8_restore 26 = .ok (.invokevirtual 327, 3) := by decide +kernel
theorem dX8_restore_29 : decode cX8_restore 29 = .ok (.aload_n 0, 1) := by decide +kernel
theorem dX8_restore_30 : decode cX8_restore 30 = .ok (.getfield 37, 3) := by decide +kernel
theorem dX8_restore_33 : decode cX8_restore 33 = .ok (.invokevirtual 387, 3) := by decide +kernel
theorem dX8_restore_36 : decode cX8_restore 36 = .ok (.aload_n 0, 1) := by decide +kernel
theorem dX8_restore_37 : decode cX8_restore 37 = .ok (.getfield 21, 3) := by decide +kernel
theorem dX8_restore_40 : decode cX8_restore 40 = .ok (.invokevirtual 122, 3) := by decide +kernel
theorem dX8_restore_43 : decode cX8_restore 43 = .ok (.ireturn, 1) := by decide +kernel
theorem dX8_admit_0 : decode cX8_admit 0 = .ok (.aload_n 1, 1) := by decide +kernel
theorem dX8_admit_1 : decode cX8_admit 1 = .ok (.invokestatic 390, 3) := by decide +kernel
theorem dX8_admit_4 : decode cX8_admit 4 = .ok (.aload_n 0, 1) := by decide +kernel
theorem dX8_admit_5 : decode cX8_admit 5 = .ok (.getfield 37, 3) := by decide +kernel
theorem dX8_admit_8 : decode cX8_admit 8 = .ok (.aload_n 0, 1) := by decide +kernel
theorem dX8_admit_9 : decode cX8_admit 9 = .ok (.getfield 10, 3) := by decide +kernel
theorem dX8_admit_12 : decode cX8_admit 12 = .ok (.invokevirtual 364, 3) := by decide +kernel
theorem dX8_admit_15 : decode cX8_admit 15 = .ok (.return_, 1) := by decide +kernel
theorem dX8_throwFor_0 : decode cX8_throwFor 0 = .ok (.aload_n 0, 1) := by decide +kernel
theorem dX8_throwFor_1 : decode cX8_throwFor 1 = .ok (.getstatic 393, 3) := by decide +kernel
theorem dX8_throwFor_4 : decode cX8_throwFor 4 = .ok (.if_acmp .ne 14, 3) := by decide +kernel
theorem dX8_throwFor_7 : decode cX8_throwFor 7 = .ok (.new 165, 3) := by decide +kernel
theorem dX8_throwFor_10 : decode cX8_throwFor 10 = .ok (.dup, 1) := by decide +kernel
theorem dX8_throwFor_11 : decode cX8_throwFor 11 = .ok (.ldc_w 396, 3) := by decide +kernel
theorem dX8_throwFor_14 : decode cX8_throwFor 14 = .ok (.invokespecial 169, 3) := by decide +kernel
theorem dX8_throwFor_17 : decode cX8_throwFor 17 = .ok (.athrow, 1) := by decide +kernel
theorem dX8_throwFor_18 : decode cX8_throwFor 18 = .ok (.aload_n 0, 1) := by decide +kernel
theorem dX8_throwFor_19 : decode cX8_throwFor 19 = .ok (.getstatic 398, 3) := by decide +kernel
theorem dX8_throwFor_22 : decode cX8_throwFor 22 = .ok (.if_acmp .ne 14, 3) := by decide +kernel
theorem dX8_throwFor_25 : decode cX8_throwFor 25 = .ok (.new 200, 3) := by decide +kernel
theorem dX8_throwFor_28 : decode cX8_throwFor 28 = .ok (.dup, 1) := by decide +kernel
theorem dX8_throwFor_29 : decode cX8_throwFor 29 = .ok (.ldc_w 401, 3) := by decide +kernel
theorem dX8_throwFor_32 : decode cX8_throwFor 32 = .ok (.invokespecial 204, 3) := by decide +kernel
theorem dX8_throwFor_35 : decode cX8_throwFor 35 = .ok (.athrow, 1) := by decide +kernel
theorem dX8_throwFor_36 : decode cX8_throwFor 36 = .ok (.aload_n 0, 1) := by decide +kernel
theorem dX8_throwFor_37 : decode cX8_throwFor 37 = .ok (.getstatic 403, 3) := by decide +kernel
theorem dX8_throwFor_40 : decode cX8_throwFor 40 = .ok (.if_acmp .ne 14, 3) := by decide +kernel
theorem dX8_throwFor_43 : decode cX8_throwFor 43 = .ok (.new 234, 3) := by decide +kernel
theorem dX8_throwFor_46 : decode cX8_throwFor 46 = .ok (.dup, 1) := by decide +kernel
theorem dX8_throwFor_47 : decode cX8_throwFor 47 = .ok (.ldc_w 406, 3) := by decide +kernel
theorem dX8_throwFor_50 : decode cX8_throwFor 50 = .ok (.invokespecial 238, 3) := by decide +kernel
theorem dX8_throwFor_53 : decode cX8_throwFor 53 = .ok (.athrow, 1) := by decide +kernel
theorem dX8_throwFor_54 : decode cX8_throwFor 54 = .ok (.aload_n 0, 1) := by decide +kernel
theorem dX8_throwFor_55 : decode cX8_throwFor 55 = .ok (.getstatic 408, 3) := by decide +kernel
theorem dX8_throwFor_58 : decode cX8_throwFor 58 = .ok (.if_acmp .ne 14, 3) := by decide +kernel
theorem dX8_throwFor_61 : decode cX8_throwFor 61 = .ok (.new 308, 3) := by decide +kernel
theorem dX8_throwFor_64 : decode cX8_throwFor 64 = .ok (.dup, 1) := by decide +kernel
theorem dX8_throwFor_65 : decode cX8_throwFor 65 = .ok (.ldc_w 411, 3) := by decide +kernel
theorem dX8_throwFor_68 : decode cX8_throwFor 68 = .ok (.invokespecial 312, 3) := by decide +kernel
theorem dX8_throwFor_71 : decode cX8_throwFor 71 = .ok (.athrow, 1) := by decide +kernel
theorem dX8_throwFor_72 : decode cX8_throwFor 72 = .ok (.aload_n 0, 1) := by decide +kernel
theorem dX8_throwFor_73 : decode cX8_throwFor 73 = .ok (.getstatic 413, 3) := by decide +kernel
theorem dX8_throwFor_76 : decode cX8_throwFor 76 = .ok (.if_acmp .ne 14, 3) := by decide +kernel
theorem dX8_throwFor_79 : decode cX8_throwFor 79 = .ok (.new 416, 3) := by decide +kernel
theorem dX8_throwFor_82 : decode cX8_throwFor 82 = .ok (.dup, 1) := by decide +kernel
theorem dX8_throwFor_83 : decode cX8_throwFor 83 = .ok (.ldc_w 418, 3) := by decide +kernel
theorem dX8_throwFor_86 : decode cX8_throwFor 86 = .ok (.invokespecial 420, 3) := by decide +kernel
theorem dX8_throwFor_89 : decode cX8_throwFor 89 = .ok (.athrow, 1) := by decide +kernel
theorem dX8_throwFor_90 : decode cX8_throwFor 90 = .ok (.return_, 1) := by decide +kernel
theorem dX8_requireBlock_0 : decode cX8_requireBlock 0 = .ok (.aload_n 0, 1) := by decide +kernel
theorem dX8_requireBlock_1 : decode cX8_requireBlock 1 = .ok (.getfield 10, 3) := by decide +kernel
theorem dX8_requireBlock_4 : decode cX8_requireBlock 4 = .ok (.iload_n 1, 1) := by decide +kernel
theorem dX8_requireBlock_5 : decode cX8_requireBlock 5 = .ok (.invokevirtual 125, 3) := by decide +kernel
theorem dX8_requireBlock_8 : decode cX8_requireBlock 8 = .ok (.istore_n 2, 1) := by decide +kernel
theorem dX8_requireBlock_9 : decode cX8_requireBlock 9 = .ok (.iload_n 2, 1) := by decide +kernel
theorem dX8_requireBlock_10 : decode cX8_requireBlock 10 = .ok (.iconst (-1), 1) := by decide +kernel
theorem dX8_requireBlock_11 : decode cX8_requireBlock 11 = .ok (.if_icmp .ne 14, 3) := by decide +kernel
theorem dX8_requireBlock_14 : decode cX8_requireBlock 14 = .ok (.new 200, 3) := by decide +kernel
theorem dX8_requireBlock_17 : decode cX8_requireBlock 17 = .ok (.dup, 1) := by decide +kernel
theorem dX8_requireBlock_18 : decode cX8_requireBlock 18 = .ok (.ldc_w 401, 3) := by decide +kernel
theorem dX8_requireBlock_21 : decode cX8_requireBlock 21 = .ok (.invokespecial 204, 3) := by decide +kernel
theorem dX8_requireBlock_24 : decode cX8_requireBlock 24 = .ok (.athrow, 1) := by decide +kernel
theorem dX8_requireBlock_25 : decode cX8_requireBlock 25 = .ok (.iload_n 2, 1) := by decide +kernel
theorem dX8_requireBlock_26 : decode cX8_requireBlock 26 = .ok (.ireturn, 1) := by decide +kernel
theorem dX8_requireWritten_0 : decode cX8_requireWritten 0 = .ok (.aload_n 0, 1) := by decide +kernel
theorem dX8_requireWritten_1 : decode cX8_requireWritten 1 = .ok (.getfield 10, 3) := by decide +kernel
theorem dX8_requireWritten_4 : decode cX8_requireWritten 4 = .ok (.iload_n 1, 1) := by decide +kernel
theorem dX8_requireWritten_5 : decode cX8_requireWritten 5 = .ok (.invokevirtual 125, 3) := by decide +kernel
theorem dX8_requireWritten_8 : decode cX8_requireWritten 8 = .ok (.istore_n 2, 1) := by decide +kernel
theorem dX8_requireWritten_9 : decode cX8_requireWritten 9 = .ok (.iload_n 2, 1) := by decide +kernel
theorem dX8_requireWritten_10 : decode cX8_requireWritten 10 = .ok (.iconst (-1), 1) := by decide +kernel
theorem dX8_requireWritten_11 : decode cX8_requireWritten 11 = .ok (.if_icmp .eq 7, 3) := by decide +kernel
theorem dX8_requireWritten_14 : decode cX8_requireWritten 14 = .ok (.iload_n 2, 1) := by decide +kernel
theorem dX8_requireWritten_15 : decode cX8_requireWritten 15 = .ok (.ifCond .ne 14, 3) := by decide +kernel
theorem dX8_requireWritten_18 : decode cX8_requireWritten 18 = .ok (.new 200, 3) := by decide +kernel
theorem dX8_requireWritten_21 : decode cX8_requireWritten 21 = .ok (.dup, 1) := by decide +kernel
theorem dX8_requireWritten_22 : decode cX8_requireWritten 22 = .ok (.ldc_w 421, 3) := by decide +kernel
theorem dX8_requireWritten_25 : decode cX8_requireWritten 25 = .ok (.invokespecial 204, 3) := by decide +kernel
theorem dX8_requireWritten_28 : decode cX8_requireWritten 28 = .ok (.athrow, 1) := by decide +kernel
theorem dX8_requireWritten_29 : decode cX8_requireWritten 29 = .ok (.iload_n 2, 1) := by decide +kernel
theorem dX8_requireWritten_30 : decode cX8_requireWritten 30 = .ok (.ireturn, 1) := by decide +kernel
theorem dX8_requireHill_0 : decode cX8_requireHill 0 = .ok (.aload_n 0, 1) := by decide +kernel
theorem dX8_requireHill_1 : decode cX8_requireHill 1 = .ok (.getfield 10, 3) := by decide +kernel
theorem dX8_requireHill_4 : decode cX8_requireHill 4 = .ok (.iload_n 1, 1) := by decide +kernel
theorem dX8_requireHill_5 : decode cX8_requireHill 5 = .ok (.invokevirtual 423, 3) := by decide +kernel
theorem dX8_requireHill_8 : decode cX8_requireHill 8 = .ok (.ifCond .ne 14, 3) := by decide +kernel
theorem dX8_requireHill_11 : decode cX8_requireHill 11 = .ok (.new 165, 3) := by decide +kernel
theorem dX8_requireHill_14 : decode cX8_requireHill 14 = .ok (.dup, 1) := by decide +kernel
theorem dX8_requireHill_15 : decode cX8_requireHill 15 = .ok (.ldc_w 426, 3) := by decide +kernel
theorem dX8_requireHill_18 : decode cX8_requireHill 18 = .ok (.invokespecial 169, 3) := by decide +kernel
theorem dX8_requireHill_21 : decode cX8_requireHill 21 = .ok (.athrow, 1) := by decide +kernel
theorem dX8_requireHill_22 : decode cX8_requireHill 22 = .ok (.return_, 1) := by decide +kernel
theorem dX8_isFlake_0 : decode cX8_isFlake 0 = .ok (.iload_n 0, 1) := by decide +kernel
theorem dX8_isFlake_1 : decode cX8_isFlake 1 = .ok (.ifCond .lt 13, 3) := by decide +kernel
theorem dX8_isFlake_4 : decode cX8_isFlake 4 = .ok (.iload_n 0, 1) := by decide +kernel
theorem dX8_isFlake_5 : decode cX8_isFlake 5 = .ok (.bipush 100, 2) := by decide +kernel
theorem dX8_isFlake_7 : decode cX8_isFlake 7 = .ok (.if_icmp .ge 7, 3) := by decide +kernel
theorem dX8_isFlake_10 : decode cX8_isFlake 10 = .ok (.iconst 1, 1) := by decide +kernel
theorem dX8_isFlake_11 : decode cX8_isFlake 11 = .ok (.goto 4, 3) := by decide +kernel
theorem dX8_isFlake_14 : decode cX8_isFlake 14 = .ok (.iconst 0, 1) := by decide +kernel
theorem dX8_isFlake_15 : decode cX8_isFlake 15 = .ok (.ireturn, 1) := by decide +kernel
theorem dX8_combine_0 : decode cX8_combine 0 = .ok (.bipush 31, 2) := by decide +kernel
theorem dX8_combine_2 : decode cX8_combine 2 = .ok (.iload_n 0, 1) := by decide +kernel
theorem dX8_combine_3 : decode cX8_combine 3 = .ok (.imul, 1) := by decide +kernel
theorem dX8_combine_4 : decode cX8_combine 4 = .ok (.bipush 17, 2) := by decide +kernel
theorem dX8_combine_6 : decode cX8_combine 6 = .ok (.iload_n 1, 1) := by decide +kernel
theorem dX8_combine_7 : decode cX8_combine 7 = .ok (.imul, 1) := by decide +kernel
theorem dX8_combine_8 : decode cX8_combine 8 = .ok (.iadd, 1) := by decide +kernel
theorem dX8_combine_9 : decode cX8_combine 9 = .ok (.bipush 7, 2) := by decide +kernel
theorem dX8_combine_11 : decode cX8_combine 11 = .ok (.iadd, 1) := by decide +kernel
theorem dX8_combine_12 : decode cX8_combine 12 = .ok (.sipush 997, 3) := by decide +kernel
theorem dX8_combine_15 : decode cX8_combine 15 = .ok (.irem, 1) := by decide +kernel
theorem dX8_combine_16 : decode cX8_combine 16 = .ok (.ireturn, 1) := by decide +kernel
theorem dX8_hashWith_0 : decode cX8_hashWith 0 = .ok (.bipush 61, 2) := by decide +kernel
theorem dX8_hashWith_2 : decode cX8_hashWith 2 = .ok (.iload_n 0, 1) := by decide +kernel
theorem dX8_hashWith_3 : decode cX8_hashWith 3 = .ok (.imul, 1) := by decide +kernel
theorem dX8_hashWith_4 : decode cX8_hashWith 4 = .ok (.bipush 29, 2) := by decide +kernel
theorem dX8_hashWith_6 : decode cX8_hashWith 6 = .ok (.iload_n 1, 1) := by decide +kernel
theorem dX8_hashWith_7 : decode cX8_hashWith 7 = .ok (.imul, 1) := by decide +kernel
theorem dX8_hashWith_8 : decode cX8_hashWith 8 = .ok (.iadd, 1) := by decide +kernel
theorem dX8_hashWith_9 : decode cX8_hashWith 9 = .ok (.bipush 13, 2) := by decide +kernel
theorem dX8_hashWith_11 : decode cX8_hashWith 11 = .ok (.iload_n 2, 1) := by decide +kernel
theorem dX8_hashWith_12 : decode cX8_hashWith 12 = .ok (.imul, 1) := by decide +kernel
theorem dX8_hashWith_13 : decode cX8_hashWith 13 = .ok (.iadd, 1) := by decide +kernel
theorem dX8_hashWith_14 : decode cX8_hashWith 14 = .ok (.iload_n 3, 1) := by decide +kernel
theorem dX8_hashWith_15 : decode cX8_hashWith 15 = .ok (.iadd, 1) := by decide +kernel
theorem dX8_hashWith_16 : decode cX8_hashWith 16 = .ok (.sipush 9973, 3) := by decide +kernel
theorem dX8_hashWith_19 : decode cX8_hashWith 19 = .ok (.irem, 1) := by decide +kernel
theorem dX8_hashWith_20 : decode cX8_hashWith 20 = .ok (.ireturn, 1) := by decide +kernel
theorem dX8_leastNonce_0 : decode cX8_leastNonce 0 = .ok (.iconst 0, 1) := by decide +kernel
theorem dX8_leastNonce_1 : decode cX8_leastNonce 1 = .ok (.istore_n 3, 1) := by decide +kernel
theorem dX8_leastNonce_2 : decode cX8_leastNonce 2 = .ok (.iload_n 3, 1) := by decide +kernel
theorem dX8_leastNonce_3 : decode cX8_leastNonce 3 = .ok (.sipush 9973, 3) := by decide +kernel
theorem dX8_leastNonce_6 : decode cX8_leastNonce 6 = .ok (.if_icmp .ge 23, 3) := by decide +kernel
theorem dX8_leastNonce_9 : decode cX8_leastNonce 9 = .ok (.iload_n 0, 1) := by decide +kernel
theorem dX8_leastNonce_10 : decode cX8_leastNonce 10 = .ok (.iload_n 1, 1) := by decide +kernel
theorem dX8_leastNonce_11 : decode cX8_leastNonce 11 = .ok (.iload_n 2, 1) := by decide +kernel
theorem dX8_leastNonce_12 : decode cX8_leastNonce 12 = .ok (.iload_n 3, 1) := by decide +kernel
theorem dX8_leastNonce_13 : decode cX8_leastNonce 13 = .ok (.invokestatic 428, 3) := by decide +kernel
theorem dX8_leastNonce_16 : decode cX8_leastNonce 16 = .ok (.iconst 4, 1) := by decide +kernel
theorem dX8_leastNonce_17 : decode cX8_leastNonce 17 = .ok (.irem, 1) := by decide +kernel
theorem dX8_leastNonce_18 : decode cX8_leastNonce 18 = .ok (.ifCond .ne 5, 3) := by decide +kernel
theorem dX8_leastNonce_21 : decode cX8_leastNonce 21 = .ok (.iload_n 3, 1) := by decide +kernel
theorem dX8_leastNonce_22 : decode cX8_leastNonce 22 = .ok (.ireturn, 1) := by decide +kernel
theorem dX8_leastNonce_23 : decode cX8_leastNonce 23 = .ok (.iinc 3 1, 3) := by decide +kernel
theorem dX8_leastNonce_26 : decode cX8_leastNonce 26 = .ok (.goto (-24), 3) := by decide +kernel
theorem dX8_leastNonce_29 : decode cX8_leastNonce 29 = .ok (.iconst 0, 1) := by decide +kernel
theorem dX8_leastNonce_30 : decode cX8_leastNonce 30 = .ok (.ireturn, 1) := by decide +kernel
theorem dX8_sealedHash_0 : decode cX8_sealedHash 0 = .ok (.iload_n 0, 1) := by decide +kernel
theorem dX8_sealedHash_1 : decode cX8_sealedHash 1 = .ok (.iload_n 1, 1) := by decide +kernel
theorem dX8_sealedHash_2 : decode cX8_sealedHash 2 = .ok (.iload_n 2, 1) := by decide +kernel
theorem dX8_sealedHash_3 : decode cX8_sealedHash 3 = .ok (.iload_n 0, 1) := by decide +kernel
theorem dX8_sealedHash_4 : decode cX8_sealedHash 4 = .ok (.iload_n 1, 1) := by decide +kernel
theorem dX8_sealedHash_5 : decode cX8_sealedHash 5 = .ok (.iload_n 2, 1) := by decide +kernel
theorem dX8_sealedHash_6 : decode cX8_sealedHash 6 = .ok (.invokestatic 431, 3) := by decide +kernel
theorem dX8_sealedHash_9 : decode cX8_sealedHash 9 = .ok (.invokestatic 428, 3) := by decide +kernel
theorem dX8_sealedHash_12 : decode cX8_sealedHash 12 = .ok (.ireturn, 1) := by decide +kernel
theorem dJ5_init_d00df_0 : decode cJ5_init_d00df 0 = .ok (.aload_n 0, 1) := by decide +kernel
theorem dJ5_init_d00df_1 : decode cJ5_init_d00df 1 = .ok (.invokespecial 3, 3) := by decide +kernel
theorem dJ5_init_d00df_4 : decode cJ5_init_d00df 4 = .ok (.getstatic 18, 3) := by decide +kernel
theorem dJ5_init_d00df_7 : decode cJ5_init_d00df 7 = .ok (.ifCond .eq 18, 3) := by decide +kernel
theorem dJ5_init_d00df_10 : decode cJ5_init_d00df 10 = .ok (.aload_n 0, 1) := by decide +kernel
theorem dJ5_init_d00df_11 : decode cJ5_init_d00df 11 = .ok (.iload_n 1, 1) := by decide +kernel
theorem dJ5_init_d00df_12 : decode cJ5_init_d00df 12 = .ok (.newarray .byte, 2) := by decide +kernel
theorem dJ5_init_d00df_14 : decode cJ5_init_d00df 14 = .ok (.putfield 15, 3) := by decide +kernel
theorem dJ5_init_d00df_17 : decode cJ5_init_d00df 17 = .ok (.aload_n 0, 1) := by decide +kernel
theorem dJ5_init_d00df_18 : decode cJ5_init_d00df 18 = .ok (.iconst 0, 1) := by decide +kernel
theorem dJ5_init_d00df_19 : decode cJ5_init_d00df 19 = .ok (.putfield 22, 3) := by decide +kernel
theorem dJ5_init_d00df_22 : decode cJ5_init_d00df 22 = .ok (.goto 16, 3) := by decide +kernel
theorem dJ5_init_d00df_25 : decode cJ5_init_d00df 25 = .ok (.aload_n 0, 1) := by decide +kernel
theorem dJ5_init_d00df_26 : decode cJ5_init_d00df 26 = .ok (.iload_n 1, 1) := by decide +kernel
theorem dJ5_init_d00df_27 : decode cJ5_init_d00df 27 = .ok (.invokestatic 26, 3) := by decide +kernel
theorem dJ5_init_d00df_30 : decode cJ5_init_d00df 30 = .ok (.putfield 15, 3) := by decide +kernel
theorem dJ5_init_d00df_33 : decode cJ5_init_d00df 33 = .ok (.aload_n 0, 1) := by decide +kernel
theorem dJ5_init_d00df_34 : decode cJ5_init_d00df 34 = .ok (.iconst 1, 1) := by decide +kernel
theorem dJ5_init_d00df_35 : decode cJ5_init_d00df 35 = .ok (.putfield 22, 3) := by decide +kernel
theorem dJ5_init_d00df_38 : decode cJ5_init_d00df 38 = .ok (.return_, 1) := by decide +kernel
theorem dJ5_length_8abf5_0 : decode cJ5_length_8abf5 0 = .ok (.aload_n 0, 1) := by decide +kernel
theorem dJ5_length_8abf5_1 : decode cJ5_length_8abf5 1 = .ok (.getfield 79, 3) := by decide +kernel
theorem dJ5_length_8abf5_4 : decode cJ5_length_8abf5 4 = .ok (.ireturn, 1) := by decide +kernel
theorem dJ5_ensureCapacityInternal_d00df_0 : decode cJ5_ensureCapacityInternal_d00df 0 = .ok (.aload_n 0, 1) := by decide +kernel
theorem dJ5_ensureCapacityInternal_d00df_1 : decode cJ5_ensureCapacityInternal_d00df 1 = .ok (.getfield 15, 3) := by decide +kernel
theorem dJ5_ensureCapacityInternal_d00df_4 : decode cJ5_ensureCapacityInternal_d00df 4 = .ok (.arraylength, 1) := by decide +kernel
theorem dJ5_ensureCapacityInternal_d00df_5 : decode cJ5_ensureCapacityInternal_d00df 5 = .ok (.aload_n 0, 1) := by decide +kernel
theorem dJ5_ensureCapacityInternal_d00df_6 : decode cJ5_ensureCapacityInternal_d00df 6 = .ok (.getfield 22, 3) := by decide +kernel
theorem dJ5_ensureCapacityInternal_d00df_9 : decode cJ5_ensureCapacityInternal_d00df 9 = .ok (.ishr, 1) := by decide +kernel
theorem dJ5_ensureCapacityInternal_d00df_10 : decode cJ5_ensureCapacityInternal_d00df 10 = .ok (.istore_n 2, 1) := by decide +kernel
theorem dJ5_ensureCapacityInternal_d00df_11 : decode cJ5_ensureCapacityInternal_d00df 11 = .ok (.iload_n 1, 1) := by decide +kernel
theorem dJ5_ensureCapacityInternal_d00df_12 : decode cJ5_ensureCapacityInternal_d00df 12 = .ok (.iload_n 2, 1) := by decide +kernel
theorem dJ5_ensureCapacityInternal_d00df_13 : decode cJ5_ensureCapacityInternal_d00df 13 = .ok (.isub, 1) := by decide +kernel
theorem dJ5_ensureCapacityInternal_d00df_14 : decode cJ5_ensureCapacityInternal_d00df 14 = .ok (.ifCond .le 24, 3) := by decide +kernel
theorem dJ5_ensureCapacityInternal_d00df_17 : decode cJ5_ensureCapacityInternal_d00df 17 = .ok (.aload_n 0, 1) := by decide +kernel
theorem dJ5_ensureCapacityInternal_d00df_18 : decode cJ5_ensureCapacityInternal_d00df 18 = .ok (.aload_n 0, 1) := by decide +kernel
theorem dJ5_ensureCapacityInternal_d00df_19 : decode cJ5_ensureCapacityInternal_d00df 19 = .ok (.getfield 15, 3) := by decide +kernel
theorem dJ5_ensureCapacityInternal_d00df_22 : decode cJ5_ensureCapacityInternal_d00df 22 = .ok (.aload_n 0, 1) := by decide +kernel
theorem dJ5_ensureCapacityInternal_d00df_23 : decode cJ5_ensureCapacityInternal_d00df 23 = .ok (.iload_n 1, 1) := by decide +kernel
theorem dJ5_ensureCapacityInternal_d00df_24 : decode cJ5_ensureCapacityInternal_d00df 24 = .ok (.invokevirtual 104, 3) := by decide +kernel
theorem dJ5_ensureCapacityInternal_d00df_27 : decode cJ5_ensureCapacityInternal_d00df 27 = .ok (.aload_n 0, 1) := by decide +kernel
theorem dJ5_ensureCapacityInternal_d00df_28 : decode cJ5_ensureCapacityInternal_d00df 28 = .ok (.getfield 22, 3) := by decide +kernel
theorem dJ5_ensureCapacityInternal_d00df_31 : decode cJ5_ensureCapacityInternal_d00df 31 = .ok (.ishl, 1) := by decide +kernel
theorem dJ5_ensureCapacityInternal_d00df_32 : decode cJ5_ensureCapacityInternal_d00df 32 = .ok (.invokestatic 108, 3) := by decide +kernel
theorem dJ5_ensureCapacityInternal_d00df_35 : decode cJ5_ensureCapacityInternal_d00df 35 = .ok (.putfield 15, 3) := by decide +kernel
theorem dJ5_ensureCapacityInternal_d00df_38 : decode cJ5_ensureCapacityInternal_d00df 38 = .ok (.return_, 1) := by decide +kernel
theorem dJ5_newCapacity_0f7a4_0 : decode cJ5_newCapacity_0f7a4 0 = .ok (.aload_n 0, 1) := by decide +kernel
theorem dJ5_newCapacity_0f7a4_1 : decode cJ5_newCapacity_0f7a4 1 = .ok (.getfield 15, 3) := by decide +kernel
theorem dJ5_newCapacity_0f7a4_4 : decode cJ5_newCapacity_0f7a4 4 = .ok (.arraylength, 1) := by decide +kernel
theorem dJ5_newCapacity_0f7a4_5 : decode cJ5_newCapacity_0f7a4 5 = .ok (.istore_n 2, 1) := by decide +kernel
theorem dJ5_newCapacity_0f7a4_6 : decode cJ5_newCapacity_0f7a4 6 = .ok (.iload_n 1, 1) := by decide +kernel
theorem dJ5_newCapacity_0f7a4_7 : decode cJ5_newCapacity_0f7a4 7 = .ok (.aload_n 0, 1) := by decide +kernel
theorem dJ5_newCapacity_0f7a4_8 : decode cJ5_newCapacity_0f7a4 8 = .ok (.getfield 22, 3) := by decide +kernel
theorem dJ5_newCapacity_0f7a4_11 : decode cJ5_newCapacity_0f7a4 11 = .ok (.ishl, 1) := by decide +kernel
theorem dJ5_newCapacity_0f7a4_12 : decode cJ5_newCapacity_0f7a4 12 = .ok (.istore_n 3, 1) := by decide +kernel
theorem dJ5_newCapacity_0f7a4_13 : decode cJ5_newCapacity_0f7a4 13 = .ok (.iload_n 3, 1) := by decide +kernel
theorem dJ5_newCapacity_0f7a4_14 : decode cJ5_newCapacity_0f7a4 14 = .ok (.iload_n 2, 1) := by decide +kernel
theorem dJ5_newCapacity_0f7a4_15 : decode cJ5_newCapacity_0f7a4 15 = .ok (.isub, 1) := by decide +kernel
theorem dJ5_newCapacity_0f7a4_16 : decode cJ5_newCapacity_0f7a4 16 = .ok (.istore 4, 2) := by decide +kernel
theorem dJ5_newCapacity_0f7a4_18 : decode cJ5_newCapacity_0f7a4 18 = .ok (.iload_n 2, 1) := by decide +kernel
theorem dJ5_newCapacity_0f7a4_19 : decode cJ5_newCapacity_0f7a4 19 = .ok (.iload 4, 2) := by decide +kernel
theorem dJ5_newCapacity_0f7a4_21 : decode cJ5_newCapacity_0f7a4 21 = .ok (.iload_n 2, 1) := by decide +kernel
theorem dJ5_newCapacity_0f7a4_22 : decode cJ5_newCapacity_0f7a4 22 = .ok (.iconst 2, 1) := by decide +kernel
theorem dJ5_newCapacity_0f7a4_23 : decode cJ5_newCapacity_0f7a4 23 = .ok (.aload_n 0, 1) := by decide +kernel
theorem dJ5_newCapacity_0f7a4_24 : decode cJ5_newCapacity_0f7a4 24 = .ok (.getfield 22, 3) := by decide +kernel
theorem dJ5_newCapacity_0f7a4_27 : decode cJ5_newCapacity_0f7a4 27 = .ok (.ishl, 1) := by decide +kernel
theorem dJ5_newCapacity_0f7a4_28 : decode cJ5_newCapacity_0f7a4 28 = .ok (.iadd, 1) := by decide +kernel
theorem dJ5_newCapacity_0f7a4_29 : decode cJ5_newCapacity_0f7a4 29 = .ok (.invokestatic 114, 3) := by decide +kernel
theorem dJ5_newCapacity_0f7a4_32 : decode cJ5_newCapacity_0f7a4 32 = .ok (.istore 5, 2) := by decide +kernel
theorem dJ5_newCapacity_0f7a4_34 : decode cJ5_newCapacity_0f7a4 34 = .ok (.iload 5, 2) := by decide +kernel
theorem dJ5_newCapacity_0f7a4_36 : decode cJ5_newCapacity_0f7a4 36 = .ok (.ldc 39, 2) := by decide +kernel
theorem dJ5_newCapacity_0f7a4_38 : decode cJ5_newCapacity_0f7a4 38 = .ok (.if_icmp .ne 13, 3) := by decide +kernel
theorem dJ5_newCapacity_0f7a4_41 : decode cJ5_newCapacity_0f7a4 41 = .ok (.new 120, 3) := by decide +kernel
theorem dJ5_newCapacity_0f7a4_44 : decode cJ5_newCapacity_0f7a4 44 = .ok (.dup, 1) := by decide +kernel
theorem dJ5_newCapacity_0f7a4_45 : decode cJ5_newCapacity_0f7a4 45 = .ok (.ldc 122, 2) := by decide +kernel
theorem dJ5_newCapacity_0f7a4_47 : decode cJ5_newCapacity_0f7a4 47 = .ok (.invokespecial 124, 3) := by decide +kernel
theorem dJ5_newCapacity_0f7a4_50 : decode cJ5_newCapacity_0f7a4 50 = .ok (.athrow, 1) := by decide +kernel
theorem dJ5_newCapacity_0f7a4_51 : decode cJ5_newCapacity_0f7a4 51 = .ok (.iload 5, 2) := by decide +kernel
theorem dJ5_newCapacity_0f7a4_53 : decode cJ5_newCapacity_0f7a4 53 = .ok (.aload_n 0, 1) := by decide +kernel
theorem dJ5_newCapacity_0f7a4_54 : decode cJ5_newCapacity_0f7a4 54 = .ok (.getfield 22, 3) := by decide +kernel
theorem dJ5_newCapacity_0f7a4_57 : decode cJ5_newCapacity_0f7a4 57 = .ok (.ishr, 1) := by decide +kernel
theorem dJ5_newCapacity_0f7a4_58 : decode cJ5_newCapacity_0f7a4 58 = .ok (.ireturn, 1) := by decide +kernel
theorem dJ5_inflate_da8c8_0 : decode cJ5_inflate_da8c8 0 = .ok (.aload_n 0, 1) := by decide +kernel
theorem dJ5_inflate_da8c8_1 : decode cJ5_inflate_da8c8 1 = .ok (.invokevirtual 83, 3) := by decide +kernel
theorem dJ5_inflate_da8c8_4 : decode cJ5_inflate_da8c8 4 = .ok (.ifCond .ne 4, 3) := by decide +kernel
theorem dJ5_inflate_da8c8_7 : decode cJ5_inflate_da8c8 7 = .ok (.return_, 1) := by decide +kernel
theorem dJ5_inflate_da8c8_8 : decode cJ5_inflate_da8c8 8 = .ok (.aload_n 0, 1) := by decide +kernel
theorem dJ5_inflate_da8c8_9 : decode cJ5_inflate_da8c8 9 = .ok (.getfield 15, 3) := by decide +kernel
theorem dJ5_inflate_da8c8_12 : decode cJ5_inflate_da8c8 12 = .ok (.arraylength, 1) := by decide +kernel
theorem dJ5_inflate_da8c8_13 : decode cJ5_inflate_da8c8 13 = .ok (.invokestatic 26, 3) := by decide +kernel
theorem dJ5_inflate_da8c8_16 : decode cJ5_inflate_da8c8 16 = .ok (.astore_n 1, 1) := by decide +kernel
theorem dJ5_inflate_da8c8_17 : decode cJ5_inflate_da8c8 17 = .ok (.aload_n 0, 1) := by decide +kernel
theorem dJ5_inflate_da8c8_18 : decode cJ5_inflate_da8c8 18 = .ok (.getfield 15, 3) := by decide +kernel
theorem dJ5_inflate_da8c8_21 : decode cJ5_inflate_da8c8 21 = .ok (.iconst 0, 1) := by decide +kernel
theorem dJ5_inflate_da8c8_22 : decode cJ5_inflate_da8c8 22 = .ok (.aload_n 1, 1) := by decide +kernel
theorem dJ5_inflate_da8c8_23 : decode cJ5_inflate_da8c8 23 = .ok (.iconst 0, 1) := by decide +kernel
theorem dJ5_inflate_da8c8_24 : decode cJ5_inflate_da8c8 24 = .ok (.aload_n 0, 1) := by decide +kernel
theorem dJ5_inflate_da8c8_25 : decode cJ5_inflate_da8c8 25 = .ok (.getfield 79, 3) := by decide +kernel
theorem dJ5_inflate_da8c8_28 : decode cJ5_inflate_da8c8 28 = .ok (.invokestatic 125, 3) := by decide +kernel
theorem dJ5_inflate_da8c8_31 : decode cJ5_inflate_da8c8 31 = .ok (.aload_n 0, 1) := by decide +kernel
theorem dJ5_inflate_da8c8_32 : decode cJ5_inflate_da8c8 32 = .ok (.aload_n 1, 1) := by decide +kernel
theorem dJ5_inflate_da8c8_33 : decode cJ5_inflate_da8c8 33 = .ok (.putfield 15, 3) := by decide +kernel
theorem dJ5_inflate_da8c8_36 : decode cJ5_inflate_da8c8 36 = .ok (.aload_n 0, 1) := by decide +kernel
theorem dJ5_inflate_da8c8_37 : decode cJ5_inflate_da8c8 37 = .ok (.iconst 1, 1) := by decide +kernel
theorem dJ5_inflate_da8c8_38 : decode cJ5_inflate_da8c8 38 = .ok (.putfield 22, 3) := by decide +kernel
theorem dJ5_inflate_da8c8_41 : decode cJ5_inflate_da8c8 41 = .ok (.return_, 1) := by decide +kernel
theorem dJ5_setLength_d00df_0 : decode cJ5_setLength_d00df 0 = .ok (.iload_n 1, 1) := by decide +kernel
theorem dJ5_setLength_d00df_1 : decode cJ5_setLength_d00df 1 = .ok (.ifCond .ge 12, 3) := by decide +kernel
theorem dJ5_setLength_d00df_4 : decode cJ5_setLength_d00df 4 = .ok (.new 129, 3) := by decide +kernel
theorem dJ5_setLength_d00df_7 : decode cJ5_setLength_d00df 7 = .ok (.dup, 1) := by decide +kernel
theorem dJ5_setLength_d00df_8 : decode cJ5_setLength_d00df 8 = .ok (.iload_n 1, 1) := by decide +kernel
theorem dJ5_setLength_d00df_9 : decode cJ5_setLength_d00df 9 = .ok (.invokespecial 131, 3) := by decide +kernel
theorem dJ5_setLength_d00df_12 : decode cJ5_setLength_d00df 12 = .ok (.athrow, 1) := by decide +kernel
theorem dJ5_setLength_d00df_13 : decode cJ5_setLength_d00df 13 = .ok (.aload_n 0, 1) := by decide +kernel
theorem dJ5_setLength_d00df_14 : decode cJ5_setLength_d00df 14 = .ok (.iload_n 1, 1) := by decide +kernel
theorem dJ5_setLength_d00df_15 : decode cJ5_setLength_d00df 15 = .ok (.invokevirtual 100, 3) := by decide +kernel
theorem dJ5_setLength_d00df_18 : decode cJ5_setLength_d00df 18 = .ok (.aload_n 0, 1) := by decide +kernel
theorem dJ5_setLength_d00df_19 : decode cJ5_setLength_d00df 19 = .ok (.getfield 79, 3) := by decide +kernel
theorem dJ5_setLength_d00df_22 : decode cJ5_setLength_d00df 22 = .ok (.iload_n 1, 1) := by decide +kernel
theorem dJ5_setLength_d00df_23 : decode cJ5_setLength_d00df 23 = .ok (.if_icmp .ge 40, 3) := by decide +kernel
theorem dJ5_setLength_d00df_26 : decode cJ5_setLength_d00df 26 = .ok (.aload_n 0, 1) := by decide +kernel
theorem dJ5_setLength_d00df_27 : decode cJ5_setLength_d00df 27 = .ok (.invokevirtual 83, 3) := by decide +kernel
theorem dJ5_setLength_d00df_30 : decode cJ5_setLength_d00df 30 = .ok (.ifCond .eq 18, 3) := by decide +kernel
theorem dJ5_setLength_d00df_33 : decode cJ5_setLength_d00df 33 = .ok (.aload_n 0, 1) := by decide +kernel
theorem dJ5_setLength_d00df_34 : decode cJ5_setLength_d00df 34 = .ok (.getfield 15, 3) := by decide +kernel
theorem dJ5_setLength_d00df_37 : decode cJ5_setLength_d00df 37 = .ok (.aload_n 0, 1) := by decide +kernel
theorem dJ5_setLength_d00df_38 : decode cJ5_setLength_d00df 38 = .ok (.getfield 79, 3) := by decide +kernel
theorem dJ5_setLength_d00df_41 : decode cJ5_setLength_d00df 41 = .ok (.iload_n 1, 1) := by decide +kernel
theorem dJ5_setLength_d00df_42 : decode cJ5_setLength_d00df 42 = .ok (.invokestatic 133, 3) := by decide +kernel
theorem dJ5_setLength_d00df_45 : decode cJ5_setLength_d00df 45 = .ok (.goto 31, 3) := by decide +kernel
theorem dJ5_setLength_d00df_48 : decode cJ5_setLength_d00df 48 = .ok (.aload_n 0, 1) := by decide +kernel
theorem dJ5_setLength_d00df_49 : decode cJ5_setLength_d00df 49 = .ok (.getfield 15, 3) := by decide +kernel
theorem dJ5_setLength_d00df_52 : decode cJ5_setLength_d00df 52 = .ok (.aload_n 0, 1) := by decide +kernel
theorem dJ5_setLength_d00df_53 : decode cJ5_setLength_d00df 53 = .ok (.getfield 79, 3) := by decide +kernel
theorem dJ5_setLength_d00df_56 : decode cJ5_setLength_d00df 56 = .ok (.iload_n 1, 1) := by decide +kernel
theorem dJ5_setLength_d00df_57 : decode cJ5_setLength_d00df 57 = .ok (.invokestatic 137, 3) := by decide +kernel
theorem dJ5_setLength_d00df_60 : decode cJ5_setLength_d00df 60 = .ok (.goto 16, 3) := by decide +kernel
theorem dJ5_setLength_d00df_63 : decode cJ5_setLength_d00df 63 = .ok (.aload_n 0, 1) := by decide +kernel
theorem dJ5_setLength_d00df_64 : decode cJ5_setLength_d00df 64 = .ok (.getfield 79, 3) := by decide +kernel
theorem dJ5_setLength_d00df_67 : decode cJ5_setLength_d00df 67 = .ok (.iload_n 1, 1) := by decide +kernel
theorem dJ5_setLength_d00df_68 : decode cJ5_setLength_d00df 68 = .ok (.if_icmp .le 8, 3) := by decide +kernel
theorem dJ5_setLength_d00df_71 : decode cJ5_setLength_d00df 71 = .ok (.aload_n 0, 1) := by decide +kernel
theorem dJ5_setLength_d00df_72 : decode cJ5_setLength_d00df 72 = .ok (.iconst 1, 1) := by decide +kernel
theorem dJ5_setLength_d00df_73 : decode cJ5_setLength_d00df 73 = .ok (.putfield 73, 3) := by decide +kernel
theorem dJ5_setLength_d00df_76 : decode cJ5_setLength_d00df 76 = .ok (.aload_n 0, 1) := by decide +kernel
theorem dJ5_setLength_d00df_77 : decode cJ5_setLength_d00df 77 = .ok (.iload_n 1, 1) := by decide +kernel
theorem dJ5_setLength_d00df_78 : decode cJ5_setLength_d00df 78 = .ok (.putfield 79, 3) := by decide +kernel
theorem dJ5_setLength_d00df_81 : decode cJ5_setLength_d00df 81 = .ok (.return_, 1) := by decide +kernel
theorem dJ5_charAt_5068e_0 : decode cJ5_charAt_5068e 0 = .ok (.aload_n 0, 1) := by decide +kernel
theorem dJ5_charAt_5068e_1 : decode cJ5_charAt_5068e 1 = .ok (.getfield 22, 3) := by decide +kernel
theorem dJ5_charAt_5068e_4 : decode cJ5_charAt_5068e 4 = .ok (.istore_n 2, 1) := by decide +kernel
theorem dJ5_charAt_5068e_5 : decode cJ5_charAt_5068e 5 = .ok (.aload_n 0, 1) := by decide +kernel
theorem dJ5_charAt_5068e_6 : decode cJ5_charAt_5068e 6 = .ok (.getfield 15, 3) := by decide +kernel
theorem dJ5_charAt_5068e_9 : decode cJ5_charAt_5068e 9 = .ok (.astore_n 3, 1) := by decide +kernel
theorem dJ5_charAt_5068e_10 : decode cJ5_charAt_5068e 10 = .ok (.aload_n 0, 1) := by decide +kernel
theorem dJ5_charAt_5068e_11 : decode cJ5_charAt_5068e 11 = .ok (.getfield 79, 3) := by decide +kernel
theorem dJ5_charAt_5068e_14 : decode cJ5_charAt_5068e 14 = .ok (.aload_n 3, 1) := by decide +kernel
theorem dJ5_charAt_5068e_15 : decode cJ5_charAt_5068e 15 = .ok (.arraylength, 1) := by decide +kernel
theorem dJ5_charAt_5068e_16 : decode cJ5_charAt_5068e 16 = .ok (.iload_n 2, 1) := by decide +kernel
theorem dJ5_charAt_5068e_17 : decode cJ5_charAt_5068e 17 = .ok (.ishr, 1) := by decide +kernel
theorem dJ5_charAt_5068e_18 : decode cJ5_charAt_5068e 18 = .ok (.invokestatic 138, 3) := by decide +kernel
theorem dJ5_charAt_5068e_21 : decode cJ5_charAt_5068e 21 = .ok (.istore 4, 2) := by decide +kernel
theorem dJ5_charAt_5068e_23 : decode cJ5_charAt_5068e 23 = .ok (.iload_n 1, 1) := by decide +kernel
theorem dJ5_charAt_5068e_24 : decode cJ5_charAt_5068e 24 = .ok (.iload 4, 2) := by decide +kernel
theorem dJ5_charAt_5068e_26 : decode cJ5_charAt_5068e 26 = .ok (.invokestatic 144, 3) := by decide +kernel
theorem dJ5_charAt_5068e_29 : decode cJ5_charAt_5068e 29 = .ok (.iload_n 2, 1) := by decide +kernel
theorem dJ5_charAt_5068e_30 : decode cJ5_charAt_5068e 30 = .ok (.ifCond .ne 12, 3) := by decide +kernel
theorem dJ5_charAt_5068e_33 : decode cJ5_charAt_5068e 33 = .ok (.aload_n 3, 1) := by decide +kernel
theorem dJ5_charAt_5068e_34 : decode cJ5_charAt_5068e 34 = .ok (.iload_n 1, 1) := by decide +kernel
theorem dJ5_charAt_5068e_35 : decode cJ5_charAt_5068e 35 = .ok (.baload, 1) := by decide +kernel
theorem dJ5_charAt_5068e_36 : decode cJ5_charAt_5068e 36 = .ok (.sipush 255, 3) := by decide +kernel
theorem dJ5_charAt_5068e_39 : decode cJ5_charAt_5068e 39 = .ok (.iand, 1) := by decide +kernel
theorem dJ5_charAt_5068e_40 : decode cJ5_charAt_5068e 40 = .ok (.i2c, 1) := by decide +kernel
theorem dJ5_charAt_5068e_41 : decode cJ5_charAt_5068e 41 = .ok (.ireturn, 1) := by decide +kernel
theorem dJ5_charAt_5068e_42 : decode cJ5_charAt_5068e 42 = .ok (.aload_n 3, 1) := by decide +kernel
theorem dJ5_charAt_5068e_43 : decode cJ5_charAt_5068e 43 = .ok (.iload_n 1, 1) := by decide +kernel
theorem dJ5_charAt_5068e_44 : decode cJ5_charAt_5068e 44 = .ok (.invokestatic 148, 3) := by decide +kernel
theorem dJ5_charAt_5068e_47 : decode cJ5_charAt_5068e 47 = .ok (.ireturn, 1) := by decide +kernel
theorem dJ5_append_cf1ce_0 : decode cJ5_append_cf1ce 0 = .ok (.aload_n 1, 1) := by decide +kernel
theorem dJ5_append_cf1ce_1 : decode cJ5_append_cf1ce 1 = .ok (.ifnonnull 8, 3) := by decide +kernel
theorem dJ5_append_cf1ce_4 : decode cJ5_append_cf1ce 4 = .ok (.aload_n 0, 1) := by decide +kernel
theorem dJ5_append_cf1ce_5 : decode cJ5_append_cf1ce 5 = .ok (.invokevirtual 204, 3) := by decide +kernel
theorem dJ5_append_cf1ce_8 : decode cJ5_append_cf1ce 8 = .ok (.areturn, 1) := by decide +kernel
theorem dJ5_append_cf1ce_9 : decode cJ5_append_cf1ce 9 = .ok (.aload_n 1, 1) := by decide +kernel
theorem dJ5_append_cf1ce_10 : decode cJ5_append_cf1ce 10 = .ok (.invokevirtual 32, 3) := by decide +kernel
theorem dJ5_append_cf1ce_13 : decode cJ5_append_cf1ce 13 = .ok (.istore_n 2, 1) := by decide +kernel
theorem dJ5_append_cf1ce_14 : decode cJ5_append_cf1ce 14 = .ok (.aload_n 0, 1) := by decide +kernel
theorem dJ5_append_cf1ce_15 : decode cJ5_append_cf1ce 15 = .ok (.aload_n 0, 1) := by decide +kernel
theorem dJ5_append_cf1ce_16 : decode cJ5_append_cf1ce 16 = .ok (.getfield 79, 3) := by decide +kernel
theorem dJ5_append_cf1ce_19 : decode cJ5_append_cf1ce 19 = .ok (.iload_n 2, 1) := by decide +kernel
theorem dJ5_append_cf1ce_20 : decode cJ5_append_cf1ce 20 = .ok (.iadd, 1) := by decide +kernel
theorem dJ5_append_cf1ce_21 : decode cJ5_append_cf1ce 21 = .ok (.invokevirtual 100, 3) := by decide +kernel
theorem dJ5_append_cf1ce_24 : decode cJ5_append_cf1ce 24 = .ok (.aload_n 0, 1) := by decide +kernel
theorem dJ5_append_cf1ce_25 : decode cJ5_append_cf1ce 25 = .ok (.aload_n 0, 1) := by decide +kernel
theorem dJ5_append_cf1ce_26 : decode cJ5_append_cf1ce 26 = .ok (.getfield 79, 3) := by decide +kernel
theorem dJ5_append_cf1ce_29 : decode cJ5_append_cf1ce 29 = .ok (.aload_n 1, 1) := by decide +kernel
theorem dJ5_append_cf1ce_30 : decode cJ5_append_cf1ce 30 = .ok (.invokevirtual 208, 3) := by decide +kernel
theorem dJ5_append_cf1ce_33 : decode cJ5_append_cf1ce 33 = .ok (.aload_n 0, 1) := by decide +kernel
theorem dJ5_append_cf1ce_34 : decode cJ5_append_cf1ce 34 = .ok (.dup, 1) := by decide +kernel
theorem dJ5_append_cf1ce_35 : decode cJ5_append_cf1ce 35 = .ok (.getfield 79, 3) := by decide +kernel
theorem dJ5_append_cf1ce_38 : decode cJ5_append_cf1ce 38 = .ok (.iload_n 2, 1) := by decide +kernel
theorem dJ5_append_cf1ce_39 : decode cJ5_append_cf1ce 39 = .ok (.iadd, 1) := by decide +kernel
theorem dJ5_append_cf1ce_40 : decode cJ5_append_cf1ce 40 = .ok (.putfield 79, 3) := by decide +kernel
theorem dJ5_append_cf1ce_43 : decode cJ5_append_cf1ce 43 = .ok (.aload_n 0, 1) := by decide +kernel
theorem dJ5_append_cf1ce_44 : decode cJ5_append_cf1ce 44 = .ok (.areturn, 1) := by decide +kernel
theorem dJ5_appendNull_278bc_0 : decode cJ5_appendNull_278bc 0 = .ok (.aload_n 0, 1) := by decide +kernel
theorem dJ5_appendNull_278bc_1 : decode cJ5_appendNull_278bc 1 = .ok (.aload_n 0, 1) := by decide +kernel
theorem dJ5_appendNull_278bc_2 : decode cJ5_appendNull_278bc 2 = .ok (.getfield 79, 3) := by decide +kernel
theorem dJ5_appendNull_278bc_5 : decode cJ5_appendNull_278bc 5 = .ok (.iconst 4, 1) := by decide +kernel
theorem dJ5_appendNull_278bc_6 : decode cJ5_appendNull_278bc 6 = .ok (.iadd, 1) := by decide +kernel
theorem dJ5_appendNull_278bc_7 : decode cJ5_appendNull_278bc 7 = .ok (.invokevirtual 100, 3) := by decide +kernel
theorem dJ5_appendNull_278bc_10 : decode cJ5_appendNull_278bc 10 = .ok (.aload_n 0, 1) := by decide +kernel
theorem dJ5_appendNull_278bc_11 : decode cJ5_appendNull_278bc 11 = .ok (.getfield 79, 3) := by decide +kernel
theorem dJ5_appendNull_278bc_14 : decode cJ5_appendNull_278bc 14 = .ok (.istore_n 1, 1) := by decide +kernel
theorem dJ5_appendNull_278bc_15 : decode cJ5_appendNull_278bc 15 = .ok (.aload_n 0, 1) := by decide +kernel
theorem dJ5_appendNull_278bc_16 : decode cJ5_appendNull_278bc 16 = .ok (.getfield 15, 3) := by decide +kernel
theorem dJ5_appendNull_278bc_19 : decode cJ5_appendNull_278bc 19 = .ok (.astore_n 2, 1) := by decide +kernel
theorem dJ5_appendNull_278bc_20 : decode cJ5_appendNull_278bc 20 = .ok (.aload_n 0, 1) := by decide +kernel
theorem dJ5_appendNull_278bc_21 : decode cJ5_appendNull_278bc 21 = .ok (.invokevirtual 83, 3) := by decide +kernel
theorem dJ5_appendNull_278bc_24 : decode cJ5_appendNull_278bc 24 = .ok (.ifCond .eq 38, 3) := by decide +kernel
theorem dJ5_appendNull_278bc_27 : decode cJ5_appendNull_278bc 27 = .ok (.aload_n 2, 1) := by decide +kernel
theorem dJ5_appendNull_278bc_28 : decode cJ5_appendNull_278bc 28 = .ok (.iload_n 1, 1) := by decide +kernel
theorem dJ5_appendNull_278bc_29 : decode cJ5_appendNull_278bc 29 = .ok (.iinc 1 1, 3) := by decide +kernel
theorem dJ5_appendNull_278bc_32 : decode cJ5_appendNull_278bc 32 = .ok (.bipush 110, 2) := by decide +kernel
theorem dJ5_appendNull_278bc_34 : decode cJ5_appendNull_278bc 34 = .ok (.bastore, 1) := by decide +kernel
theorem dJ5_appendNull_278bc_35 : decode cJ5_appendNull_278bc 35 = .ok (.aload_n 2, 1) := by decide +kernel
theorem dJ5_appendNull_278bc_36 : decode cJ5_appendNull_278bc 36 = .ok (.iload_n 1, 1) := by decide +kernel
theorem dJ5_appendNull_278bc_37 : decode cJ5_appendNull_278bc 37 = .ok (.iinc 1 1, 3) := by decide +kernel
theorem dJ5_appendNull_278bc_40 : decode cJ5_appendNull_278bc 40 = .ok (.bipush 117, 2) := by decide +kernel
theorem dJ5_appendNull_278bc_42 : decode cJ5_appendNull_278bc 42 = .ok (.bastore, 1) := by decide +kernel
theorem dJ5_appendNull_278bc_43 : decode cJ5_appendNull_278bc 43 = .ok (.aload_n 2, 1) := by decide +kernel
theorem dJ5_appendNull_278bc_44 : decode cJ5_appendNull_278bc 44 = .ok (.iload_n 1, 1) := by decide +kernel
theorem dJ5_appendNull_278bc_45 : decode cJ5_appendNull_278bc 45 = .ok (.iinc 1 1, 3) := by decide +kernel
theorem dJ5_appendNull_278bc_48 : decode cJ5_appendNull_278bc 48 = .ok (.bipush 108, 2) := by decide +kernel
theorem dJ5_appendNull_278bc_50 : decode cJ5_appendNull_278bc 50 = .ok (.bastore, 1) := by decide +kernel
theorem dJ5_appendNull_278bc_51 : decode cJ5_appendNull_278bc 51 = .ok (.aload_n 2, 1) := by decide +kernel
theorem dJ5_appendNull_278bc_52 : decode cJ5_appendNull_278bc 52 = .ok (.iload_n 1, 1) := by decide +kernel
theorem dJ5_appendNull_278bc_53 : decode cJ5_appendNull_278bc 53 = .ok (.iinc 1 1, 3) := by decide +kernel
theorem dJ5_appendNull_278bc_56 : decode cJ5_appendNull_278bc 56 = .ok (.bipush 108, 2) := by decide +kernel
theorem dJ5_appendNull_278bc_58 : decode cJ5_appendNull_278bc 58 = .ok (.bastore, 1) := by decide +kernel
theorem dJ5_appendNull_278bc_59 : decode cJ5_appendNull_278bc 59 = .ok (.goto 17, 3) := by decide +kernel
theorem dJ5_appendNull_278bc_62 : decode cJ5_appendNull_278bc 62 = .ok (.aload_n 2, 1) := by decide +kernel
theorem dJ5_appendNull_278bc_63 : decode cJ5_appendNull_278bc 63 = .ok (.iload_n 1, 1) := by decide +kernel
theorem dJ5_appendNull_278bc_64 : decode cJ5_appendNull_278bc 64 = .ok (.bipush 110, 2) := by decide +kernel
theorem dJ5_appendNull_278bc_66 : decode cJ5_appendNull_278bc 66 = .ok (.bipush 117, 2) := by decide +kernel
theorem dJ5_appendNull_278bc_68 : decode cJ5_appendNull_278bc 68 = .ok (.bipush 108, 2) := by decide +kernel
theorem dJ5_appendNull_278bc_70 : decode cJ5_appendNull_278bc 70 = .ok (.bipush 108, 2) := by decide +kernel
theorem dJ5_appendNull_278bc_72 : decode cJ5_appendNull_278bc 72 = .ok (.invokestatic 226, 3) := by decide +kernel
theorem dJ5_appendNull_278bc_75 : decode cJ5_appendNull_278bc 75 = .ok (.istore_n 1, 1) := by decide +kernel
theorem dJ5_appendNull_278bc_76 : decode cJ5_appendNull_278bc 76 = .ok (.aload_n 0, 1) := by decide +kernel
theorem dJ5_appendNull_278bc_77 : decode cJ5_appendNull_278bc 77 = .ok (.iload_n 1, 1) := by decide +kernel
theorem dJ5_appendNull_278bc_78 : decode cJ5_appendNull_278bc 78 = .ok (.putfield 79, 3) := by decide +kernel
theorem dJ5_appendNull_278bc_81 : decode cJ5_appendNull_278bc 81 = .ok (.aload_n 0, 1) := by decide +kernel
theorem dJ5_appendNull_278bc_82 : decode cJ5_appendNull_278bc 82 = .ok (.areturn, 1) := by decide +kernel
theorem dJ5_append_3fe6f_0 : decode cJ5_append_3fe6f 0 = .ok (.aload_n 0, 1) := by decide +kernel
theorem dJ5_append_3fe6f_1 : decode cJ5_append_3fe6f 1 = .ok (.aload_n 0, 1) := by decide +kernel
theorem dJ5_append_3fe6f_2 : decode cJ5_append_3fe6f 2 = .ok (.getfield 79, 3) := by decide +kernel
theorem dJ5_append_3fe6f_5 : decode cJ5_append_3fe6f 5 = .ok (.iconst 1, 1) := by decide +kernel
theorem dJ5_append_3fe6f_6 : decode cJ5_append_3fe6f 6 = .ok (.iadd, 1) := by decide +kernel
theorem dJ5_append_3fe6f_7 : decode cJ5_append_3fe6f 7 = .ok (.invokevirtual 100, 3) := by decide +kernel
theorem dJ5_append_3fe6f_10 : decode cJ5_append_3fe6f 10 = .ok (.aload_n 0, 1) := by decide +kernel
theorem dJ5_append_3fe6f_11 : decode cJ5_append_3fe6f 11 = .ok (.invokevirtual 83, 3) := by decide +kernel
theorem dJ5_append_3fe6f_14 : decode cJ5_append_3fe6f 14 = .ok (.ifCond .eq 31, 3) := by decide +kernel
theorem dJ5_append_3fe6f_17 : decode cJ5_append_3fe6f 17 = .ok (.iload_n 1, 1) := by decide +kernel
theorem dJ5_append_3fe6f_18 : decode cJ5_append_3fe6f 18 = .ok (.invokestatic 191, 3) := by decide +kernel
theorem dJ5_append_3fe6f_21 : decode cJ5_append_3fe6f 21 = .ok (.ifCond .eq 24, 3) := by decide +kernel
theorem dJ5_append_3fe6f_24 : decode cJ5_append_3fe6f 24 = .ok (.aload_n 0, 1) := by decide +kernel
theorem dJ5_append_3fe6f_25 : decode cJ5_append_3fe6f 25 = .ok (.getfield 15, 3) := by decide +kernel
theorem dJ5_append_3fe6f_28 : decode cJ5_append_3fe6f 28 = .ok (.aload_n 0, 1) := by decide +kernel
theorem dJ5_append_3fe6f_29 : decode cJ5_append_3fe6f 29 = .ok (.dup, 1) := by decide +kernel
theorem dJ5_append_3fe6f_30 : decode cJ5_append_3fe6f 30 = .ok (.getfield 79, 3) := by decide +kernel
theorem dJ5_append_3fe6f_33 : decode cJ5_append_3fe6f 33 = .ok (.dup_x1, 1) := by decide +kernel
theorem dJ5_append_3fe6f_34 : decode cJ5_append_3fe6f 34 = .ok (.iconst 1, 1) := by decide +kernel
theorem dJ5_append_3fe6f_35 : decode cJ5_append_3fe6f 35 = .ok (.iadd, 1) := by decide +kernel
theorem dJ5_append_3fe6f_36 : decode cJ5_append_3fe6f 36 = .ok (.putfield 79, 3) := by decide +kernel
theorem dJ5_append_3fe6f_39 : decode cJ5_append_3fe6f 39 = .ok (.iload_n 1, 1) := by decide +kernel
theorem dJ5_append_3fe6f_40 : decode cJ5_append_3fe6f 40 = .ok (.i2b, 1) := by decide +kernel
theorem dJ5_append_3fe6f_41 : decode cJ5_append_3fe6f 41 = .ok (.bastore, 1) := by decide +kernel
theorem dJ5_append_3fe6f_42 : decode cJ5_append_3fe6f 42 = .ok (.goto 33, 3) := by decide +kernel
theorem dJ5_append_3fe6f_45 : decode cJ5_append_3fe6f 45 = .ok (.aload_n 0, 1) := by decide +kernel
theorem dJ5_append_3fe6f_46 : decode cJ5_append_3fe6f 46 = .ok (.invokevirtual 83, 3) := by decide +kernel
theorem dJ5_append_3fe6f_49 : decode cJ5_append_3fe6f 49 = .ok (.ifCond .eq 7, 3) := by decide +kernel
theorem dJ5_append_3fe6f_52 : decode cJ5_append_3fe6f 52 = .ok (.aload_n 0, 1) := by decide +kernel
theorem dJ5_append_3fe6f_53 : decode cJ5_append_3fe6f 53 = .ok (.invokevirtual 195, 3) := by decide +kernel
theorem dJ5_append_3fe6f_56 : decode cJ5_append_3fe6f 56 = .ok (.aload_n 0, 1) := by decide +kernel
theorem dJ5_append_3fe6f_57 : decode cJ5_append_3fe6f 57 = .ok (.getfield 15, 3) := by decide +kernel
theorem dJ5_append_3fe6f_60 : decode cJ5_append_3fe6f 60 = .ok (.aload_n 0, 1) := by decide +kernel
theorem dJ5_append_3fe6f_61 : decode cJ5_append_3fe6f 61 = .ok (.dup, 1) := by decide +kernel
theorem dJ5_append_3fe6f_62 : decode cJ5_append_3fe6f 62 = .ok (.getfield 79, 3) := by decide +kernel
theorem dJ5_append_3fe6f_65 : decode cJ5_append_3fe6f 65 = .ok (.dup_x1, 1) := by decide +kernel
theorem dJ5_append_3fe6f_66 : decode cJ5_append_3fe6f 66 = .ok (.iconst 1, 1) := by decide +kernel
theorem dJ5_append_3fe6f_67 : decode cJ5_append_3fe6f 67 = .ok (.iadd, 1) := by decide +kernel
theorem dJ5_append_3fe6f_68 : decode cJ5_append_3fe6f 68 = .ok (.putfield 79, 3) := by decide +kernel
theorem dJ5_append_3fe6f_71 : decode cJ5_append_3fe6f 71 = .ok (.iload_n 1, 1) := by decide +kernel
theorem dJ5_append_3fe6f_72 : decode cJ5_append_3fe6f 72 = .ok (.invokestatic 197, 3) := by decide +kernel
theorem dJ5_append_3fe6f_75 : decode cJ5_append_3fe6f 75 = .ok (.aload_n 0, 1) := by decide +kernel
theorem dJ5_append_3fe6f_76 : decode cJ5_append_3fe6f 76 = .ok (.areturn, 1) := by decide +kernel
theorem dJ5_append_c97b9_0 : decode cJ5_append_c97b9 0 = .ok (.aload_n 0, 1) := by decide +kernel
theorem dJ5_append_c97b9_1 : decode cJ5_append_c97b9 1 = .ok (.getfield 79, 3) := by decide +kernel
theorem dJ5_append_c97b9_4 : decode cJ5_append_c97b9 4 = .ok (.istore_n 2, 1) := by decide +kernel
theorem dJ5_append_c97b9_5 : decode cJ5_append_c97b9 5 = .ok (.iload_n 2, 1) := by decide +kernel
theorem dJ5_append_c97b9_6 : decode cJ5_append_c97b9 6 = .ok (.iload_n 1, 1) := by decide +kernel
theorem dJ5_append_c97b9_7 : decode cJ5_append_c97b9 7 = .ok (.invokestatic 245, 3) := by decide +kernel
theorem dJ5_append_c97b9_10 : decode cJ5_append_c97b9 10 = .ok (.iadd, 1) := by decide +kernel
theorem dJ5_append_c97b9_11 : decode cJ5_append_c97b9 11 = .ok (.istore_n 3, 1) := by decide +kernel
theorem dJ5_append_c97b9_12 : decode cJ5_append_c97b9 12 = .ok (.aload_n 0, 1) := by decide +kernel
theorem dJ5_append_c97b9_13 : decode cJ5_append_c97b9 13 = .ok (.iload_n 3, 1) := by decide +kernel
theorem dJ5_append_c97b9_14 : decode cJ5_append_c97b9 14 = .ok (.invokevirtual 100, 3) := by decide +kernel
theorem dJ5_append_c97b9_17 : decode cJ5_append_c97b9 17 = .ok (.aload_n 0, 1) := by decide +kernel
theorem dJ5_append_c97b9_18 : decode cJ5_append_c97b9 18 = .ok (.invokevirtual 83, 3) := by decide +kernel
theorem dJ5_append_c97b9_21 : decode cJ5_append_c97b9 21 = .ok (.ifCond .eq 16, 3) := by decide +kernel
theorem dJ5_append_c97b9_24 : decode cJ5_append_c97b9 24 = .ok (.iload_n 1, 1) := by decide +kernel
theorem dJ5_append_c97b9_25 : decode cJ5_append_c97b9 25 = .ok (.iload_n 3, 1) := by decide +kernel
theorem dJ5_append_c97b9_26 : decode cJ5_append_c97b9 26 = .ok (.aload_n 0, 1) := by decide +kernel
theorem dJ5_append_c97b9_27 : decode cJ5_append_c97b9 27 = .ok (.getfield 15, 3) := by decide +kernel
theorem dJ5_append_c97b9_30 : decode cJ5_append_c97b9 30 = .ok (.invokestatic 248, 3) := by decide +kernel
theorem dJ5_append_c97b9_33 : decode cJ5_append_c97b9 33 = .ok (.pop, 1) := by decide +kernel
theorem dJ5_append_c97b9_34 : decode cJ5_append_c97b9 34 = .ok (.goto 14, 3) := by decide +kernel
theorem dJ5_append_c97b9_37 : decode cJ5_append_c97b9 37 = .ok (.iload_n 1, 1) := by decide +kernel
theorem dJ5_append_c97b9_38 : decode cJ5_append_c97b9 38 = .ok (.iload_n 2, 1) := by decide +kernel
theorem dJ5_append_c97b9_39 : decode cJ5_append_c97b9 39 = .ok (.iload_n 3, 1) := by decide +kernel
theorem dJ5_append_c97b9_40 : decode cJ5_append_c97b9 40 = .ok (.aload_n 0, 1) := by decide +kernel
theorem dJ5_append_c97b9_41 : decode cJ5_append_c97b9 41 = .ok (.getfield 15, 3) := by decide +kernel
theorem dJ5_append_c97b9_44 : decode cJ5_append_c97b9 44 = .ok (.invokestatic 251, 3) := by decide +kernel
theorem dJ5_append_c97b9_47 : decode cJ5_append_c97b9 47 = .ok (.pop, 1) := by decide +kernel
theorem dJ5_append_c97b9_48 : decode cJ5_append_c97b9 48 = .ok (.aload_n 0, 1) := by decide +kernel
theorem dJ5_append_c97b9_49 : decode cJ5_append_c97b9 49 = .ok (.iload_n 3, 1) := by decide +kernel
theorem dJ5_append_c97b9_50 : decode cJ5_append_c97b9 50 = .ok (.putfield 79, 3) := by decide +kernel
theorem dJ5_append_c97b9_53 : decode cJ5_append_c97b9 53 = .ok (.aload_n 0, 1) := by decide +kernel
theorem dJ5_append_c97b9_54 : decode cJ5_append_c97b9 54 = .ok (.areturn, 1) := by decide +kernel
theorem dJ5_getValue_6d5f1_0 : decode cJ5_getValue_6d5f1 0 = .ok (.aload_n 0, 1) := by decide +kernel
theorem dJ5_getValue_6d5f1_1 : decode cJ5_getValue_6d5f1 1 = .ok (.getfield 15, 3) := by decide +kernel
theorem dJ5_getValue_6d5f1_4 : decode cJ5_getValue_6d5f1 4 = .ok (.areturn, 1) := by decide +kernel
theorem dJ5_isLatin1_aae02_0 : decode cJ5_isLatin1_aae02 0 = .ok (.getstatic 18, 3) := by decide +kernel
theorem dJ5_isLatin1_aae02_3 : decode cJ5_isLatin1_aae02 3 = .ok (.ifCond .eq 14, 3) := by decide +kernel
theorem dJ5_isLatin1_aae02_6 : decode cJ5_isLatin1_aae02 6 = .ok (.aload_n 0, 1) := by decide +kernel
theorem dJ5_isLatin1_aae02_7 : decode cJ5_isLatin1_aae02 7 = .ok (.getfield 22, 3) := by decide +kernel
theorem dJ5_isLatin1_aae02_10 : decode cJ5_isLatin1_aae02 10 = .ok (.ifCond .ne 7, 3) := by decide +kernel
theorem dJ5_isLatin1_aae02_13 : decode cJ5_isLatin1_aae02 13 = .ok (.iconst 1, 1) := by decide +kernel
theorem dJ5_isLatin1_aae02_14 : decode cJ5_isLatin1_aae02 14 = .ok (.goto 4, 3) := by decide +kernel
theorem dJ5_isLatin1_aae02_17 : decode cJ5_isLatin1_aae02 17 = .ok (.iconst 0, 1) := by decide +kernel
theorem dJ5_isLatin1_aae02_18 : decode cJ5_isLatin1_aae02 18 = .ok (.ireturn, 1) := by decide +kernel
theorem dJ5_inflateIfNeededFor_a7421_0 : decode cJ5_inflateIfNeededFor_a7421 0 = .ok (.getstatic 18, 3) := by decide +kernel
theorem dJ5_inflateIfNeededFor_a7421_3 : decode cJ5_inflateIfNeededFor_a7421 3 = .ok (.ifCond .eq 18, 3) := by decide +kernel
theorem dJ5_inflateIfNeededFor_a7421_6 : decode cJ5_inflateIfNeededFor_a7421 6 = .ok (.aload_n 0, 1) := by decide +kernel
theorem dJ5_inflateIfNeededFor_a7421_7 : decode cJ5_inflateIfNeededFor_a7421 7 = .ok (.getfield 22, 3) := by decide +kernel
theorem dJ5_inflateIfNeededFor_a7421_10 : decode cJ5_inflateIfNeededFor_a7421 10 = .ok (.aload_n 1, 1) := by decide +kernel
theorem dJ5_inflateIfNeededFor_a7421_11 : decode cJ5_inflateIfNeededFor_a7421 11 = .ok (.invokevirtual 40, 3) := by decide +kernel
theorem dJ5_inflateIfNeededFor_a7421_14 : decode cJ5_inflateIfNeededFor_a7421 14 = .ok (.if_icmp .eq 7, 3) := by decide +kernel
theorem dJ5_inflateIfNeededFor_a7421_17 : decode cJ5_inflateIfNeededFor_a7421 17 = .ok (.aload_n 0, 1) := by decide +kernel
theorem dJ5_inflateIfNeededFor_a7421_18 : decode cJ5_inflateIfNeededFor_a7421 18 = .ok (.invokevirtual 195, 3) := by decide +kernel
theorem dJ5_inflateIfNeededFor_a7421_21 : decode cJ5_inflateIfNeededFor_a7421 21 = .ok (.return_, 1) := by decide +kernel
theorem dJ5_putStringAt_47b60_0 : decode cJ5_putStringAt_47b60 0 = .ok (.aload_n 0, 1) := by decide +kernel
theorem dJ5_putStringAt_47b60_1 : decode cJ5_putStringAt_47b60 1 = .ok (.aload_n 2, 1) := by decide +kernel
theorem dJ5_putStringAt_47b60_2 : decode cJ5_putStringAt_47b60 2 = .ok (.invokevirtual 397, 3) := by decide +kernel
theorem dJ5_putStringAt_47b60_5 : decode cJ5_putStringAt_47b60 5 = .ok (.aload_n 2, 1) := by decide +kernel
theorem dJ5_putStringAt_47b60_6 : decode cJ5_putStringAt_47b60 6 = .ok (.aload_n 0, 1) := by decide +kernel
theorem dJ5_putStringAt_47b60_7 : decode cJ5_putStringAt_47b60 7 = .ok (.getfield 15, 3) := by decide +kernel
theorem dJ5_putStringAt_47b60_10 : decode cJ5_putStringAt_47b60 10 = .ok (.iload_n 1, 1) := by decide +kernel
theorem dJ5_putStringAt_47b60_11 : decode cJ5_putStringAt_47b60 11 = .ok (.aload_n 0, 1) := by decide +kernel
theorem dJ5_putStringAt_47b60_12 : decode cJ5_putStringAt_47b60 12 = .ok (.getfield 22, 3) := by decide +kernel
theorem dJ5_putStringAt_47b60_15 : decode cJ5_putStringAt_47b60 15 = .ok (.invokevirtual 399, 3) := by decide +kernel
theorem dJ5_putStringAt_47b60_18 : decode cJ5_putStringAt_47b60 18 = .ok (.return_, 1) := by decide +kernel
theorem dJx00060_init_d00df_0 : decode cJx00060_init_d00df 0 = .ok (.aload_n 0, 1) := by decide +kernel
theorem dJx00060_init_d00df_1 : decode cJx00060_init_d00df 1 = .ok (.new 10, 3) := by decide +kernel
theorem dJx00060_init_d00df_4 : decode cJx00060_init_d00df 4 = .ok (.dup, 1) := by decide +kernel
theorem dJx00060_init_d00df_5 : decode cJx00060_init_d00df 5 = .ok (.invokespecial 12, 3) := by decide +kernel
theorem dJx00060_init_d00df_8 : decode cJx00060_init_d00df 8 = .ok (.ldc 13, 2) := by decide +kernel
theorem dJx00060_init_d00df_10 : decode cJx00060_init_d00df 10 = .ok (.invokevirtual 15, 3) := by decide +kernel
theorem dJx00060_init_d00df_13 : decode cJx00060_init_d00df 13 = .ok (.iload_n 1, 1) := by decide +kernel
theorem dJx00060_init_d00df_14 : decode cJx00060_init_d00df 14 = .ok (.invokevirtual 19, 3) := by decide +kernel
theorem dJx00060_init_d00df_17 : decode cJx00060_init_d00df 17 = .ok (.invokevirtual 22, 3) := by decide +kernel
theorem dJx00060_init_d00df_20 : decode cJx00060_init_d00df 20 = .ok (.invokespecial 7, 3) := by decide +kernel
theorem dJx00060_init_d00df_23 : decode cJx00060_init_d00df 23 = .ok (.return_, 1) := by decide +kernel
theorem dJ6_getChars_ba4f3_0 : decode cJ6_getChars_ba4f3 0 = .ok (.iload_n 1, 1) := by decide +kernel
theorem dJ6_getChars_ba4f3_1 : decode cJ6_getChars_ba4f3 1 = .ok (.istore 5, 2) := by decide +kernel
theorem dJ6_getChars_ba4f3_3 : decode cJ6_getChars_ba4f3 3 = .ok (.iload_n 0, 1) := by decide +kernel
theorem dJ6_getChars_ba4f3_4 : decode cJ6_getChars_ba4f3 4 = .ok (.ifCond .ge 7, 3) := by decide +kernel
theorem dJ6_getChars_ba4f3_7 : decode cJ6_getChars_ba4f3 7 = .ok (.iconst 1, 1) := by decide +kernel
theorem dJ6_getChars_ba4f3_8 : decode cJ6_getChars_ba4f3 8 = .ok (.goto 4, 3) := by decide +kernel
theorem dJ6_getChars_ba4f3_11 : decode cJ6_getChars_ba4f3 11 = .ok (.iconst 0, 1) := by decide +kernel
theorem dJ6_getChars_ba4f3_12 : decode cJ6_getChars_ba4f3 12 = .ok (.istore 6, 2) := by decide +kernel
theorem dJ6_getChars_ba4f3_14 : decode cJ6_getChars_ba4f3 14 = .ok (.iload 6, 2) := by decide +kernel
theorem dJ6_getChars_ba4f3_16 : decode cJ6_getChars_ba4f3 16 = .ok (.ifCond .ne 6, 3) := by decide +kernel
theorem dJ6_getChars_ba4f3_19 : decode cJ6_getChars_ba4f3 19 = .ok (.iload_n 0, 1) := by decide +kernel
theorem dJ6_getChars_ba4f3_20 : decode cJ6_getChars_ba4f3 20 = .ok (.ineg, 1) := by decide +kernel
theorem dJ6_getChars_ba4f3_21 : decode cJ6_getChars_ba4f3 21 = .ok (.istore_n 0, 1) := by decide +kernel
theorem dJ6_getChars_ba4f3_22 : decode cJ6_getChars_ba4f3 22 = .ok (.iload_n 0, 1) := by decide +kernel
theorem dJ6_getChars_ba4f3_23 : decode cJ6_getChars_ba4f3 23 = .ok (.bipush (-100), 2) := by decide +kernel
theorem dJ6_getChars_ba4f3_25 : decode cJ6_getChars_ba4f3 25 = .ok (.if_icmp .gt 47, 3) := by decide +kernel
theorem dJ6_getChars_ba4f3_28 : decode cJ6_getChars_ba4f3 28 = .ok (.iload_n 0, 1) := by decide +kernel
theorem dJ6_getChars_ba4f3_29 : decode cJ6_getChars_ba4f3 29 = .ok (.bipush 100, 2) := by decide +kernel
theorem dJ6_getChars_ba4f3_31 : decode cJ6_getChars_ba4f3 31 = .ok (.idiv, 1) := by decide +kernel
theorem dJ6_getChars_ba4f3_32 : decode cJ6_getChars_ba4f3 32 = .ok (.istore_n 3, 1) := by decide +kernel
theorem dJ6_getChars_ba4f3_33 : decode cJ6_getChars_ba4f3 33 = .ok (.iload_n 3, 1) := by decide +kernel
theorem dJ6_getChars_ba4f3_34 : decode cJ6_getChars_ba4f3 34 = .ok (.bipush 100, 2) := by decide +kernel
theorem dJ6_getChars_ba4f3_36 : decode cJ6_getChars_ba4f3 36 = .ok (.imul, 1) := by decide +kernel
theorem dJ6_getChars_ba4f3_37 : decode cJ6_getChars_ba4f3 37 = .ok (.iload_n 0, 1) := by decide +kernel
theorem dJ6_getChars_ba4f3_38 : decode cJ6_getChars_ba4f3 38 = .ok (.isub, 1) := by decide +kernel
theorem dJ6_getChars_ba4f3_39 : decode cJ6_getChars_ba4f3 39 = .ok (.istore 4, 2) := by decide +kernel
theorem dJ6_getChars_ba4f3_41 : decode cJ6_getChars_ba4f3 41 = .ok (.iload_n 3, 1) := by decide +kernel
theorem dJ6_getChars_ba4f3_42 : decode cJ6_getChars_ba4f3 42 = .ok (.istore_n 0, 1) := by decide +kernel
theorem dJ6_getChars_ba4f3_43 : decode cJ6_getChars_ba4f3 43 = .ok (.aload_n 2, 1) := by decide +kernel
theorem dJ6_getChars_ba4f3_44 : decode cJ6_getChars_ba4f3 44 = .ok (.iinc 5 (-1), 3) := by decide +kernel
theorem dJ6_getChars_ba4f3_47 : decode cJ6_getChars_ba4f3 47 = .ok (.iload 5, 2) := by decide +kernel
theorem dJ6_getChars_ba4f3_49 : decode cJ6_getChars_ba4f3 49 = .ok (.getstatic 83, 3) := by decide +kernel
theorem dJ6_getChars_ba4f3_52 : decode cJ6_getChars_ba4f3 52 = .ok (.iload 4, 2) := by decide +kernel
theorem dJ6_getChars_ba4f3_54 : decode cJ6_getChars_ba4f3 54 = .ok (.baload, 1) := by decide +kernel
theorem dJ6_getChars_ba4f3_55 : decode cJ6_getChars_ba4f3 55 = .ok (.bastore, 1) := by decide +kernel
theorem dJ6_getChars_ba4f3_56 : decode cJ6_getChars_ba4f3 56 = .ok (.aload_n 2, 1) := by decide +kernel
theorem dJ6_getChars_ba4f3_57 : decode cJ6_getChars_ba4f3 57 = .ok (.iinc 5 (-1), 3) := by decide +kernel
theorem dJ6_getChars_ba4f3_60 : decode cJ6_getChars_ba4f3 60 = .ok (.iload 5, 2) := by decide +kernel
theorem dJ6_getChars_ba4f3_62 : decode cJ6_getChars_ba4f3 62 = .ok (.getstatic 87, 3) := by decide +kernel
theorem dJ6_getChars_ba4f3_65 : decode cJ6_getChars_ba4f3 65 = .ok (.iload 4, 2) := by decide +kernel
theorem dJ6_getChars_ba4f3_67 : decode cJ6_getChars_ba4f3 67 = .ok (.baload, 1) := by decide +kernel
theorem dJ6_getChars_ba4f3_68 : decode cJ6_getChars_ba4f3 68 = .ok (.bastore, 1) := by decide +kernel
theorem dJ6_getChars_ba4f3_69 : decode cJ6_getChars_ba4f3 69 = .ok (.goto (-47), 3) := by decide +kernel
theorem dJ6_getChars_ba4f3_72 : decode cJ6_getChars_ba4f3 72 = .ok (.aload_n 2, 1) := by decide +kernel
theorem dJ6_getChars_ba4f3_73 : decode cJ6_getChars_ba4f3 73 = .ok (.iinc 5 (-1), 3) := by decide +kernel
theorem dJ6_getChars_ba4f3_76 : decode cJ6_getChars_ba4f3 76 = .ok (.iload 5, 2) := by decide +kernel
theorem dJ6_getChars_ba4f3_78 : decode cJ6_getChars_ba4f3 78 = .ok (.getstatic 83, 3) := by decide +kernel
theorem dJ6_getChars_ba4f3_81 : decode cJ6_getChars_ba4f3 81 = .ok (.iload_n 0, 1) := by decide +kernel
theorem dJ6_getChars_ba4f3_82 : decode cJ6_getChars_ba4f3 82 = .ok (.ineg, 1) := by decide +kernel
theorem dJ6_getChars_ba4f3_83 : decode cJ6_getChars_ba4f3 83 = .ok (.baload, 1) := by decide +kernel
theorem dJ6_getChars_ba4f3_84 : decode cJ6_getChars_ba4f3 84 = .ok (.bastore, 1) := by decide +kernel
theorem dJ6_getChars_ba4f3_85 : decode cJ6_getChars_ba4f3 85 = .ok (.iload_n 0, 1) := by decide +kernel
theorem dJ6_getChars_ba4f3_86 : decode cJ6_getChars_ba4f3 86 = .ok (.bipush (-9), 2) := by decide +kernel
theorem dJ6_getChars_ba4f3_88 : decode cJ6_getChars_ba4f3 88 = .ok (.if_icmp .ge 16, 3) := by decide +kernel
theorem dJ6_getChars_ba4f3_91 : decode cJ6_getChars_ba4f3 91 = .ok (.aload_n 2, 1) := by decide +kernel
theorem dJ6_getChars_ba4f3_92 : decode cJ6_getChars_ba4f3 92 = .ok (.iinc 5 (-1), 3) := by decide +kernel
theorem dJ6_getChars_ba4f3_95 : decode cJ6_getChars_ba4f3 95 = .ok (.iload 5, 2) := by decide +kernel
theorem dJ6_getChars_ba4f3_97 : decode cJ6_getChars_ba4f3 97 = .ok (.getstatic 87, 3) := by decide +kernel
theorem dJ6_getChars_ba4f3_100 : decode cJ6_getChars_ba4f3 100 = .ok (.iload_n 0, 1) := by decide +kernel
theorem dJ6_getChars_ba4f3_101 : decode cJ6_getChars_ba4f3 101 = .ok (.ineg, 1) := by decide +kernel
theorem dJ6_getChars_ba4f3_102 : decode cJ6_getChars_ba4f3 102 = .ok (.baload, 1) := by decide +kernel
theorem dJ6_getChars_ba4f3_103 : decode cJ6_getChars_ba4f3 103 = .ok (.bastore, 1) := by decide +kernel
theorem dJ6_getChars_ba4f3_104 : decode cJ6_getChars_ba4f3 104 = .ok (.iload 6, 2) := by decide +kernel
theorem dJ6_getChars_ba4f3_106 : decode cJ6_getChars_ba4f3 106 = .ok (.ifCond .eq 12, 3) := by decide +kernel
theorem dJ6_getChars_ba4f3_109 : decode cJ6_getChars_ba4f3 109 = .ok (.aload_n 2, 1) := by decide +kernel
theorem dJ6_getChars_ba4f3_110 : decode cJ6_getChars_ba4f3 110 = .ok (.iinc 5 (-1), 3) := by decide +kernel
theorem dJ6_getChars_ba4f3_113 : decode cJ6_getChars_ba4f3 113 = .ok (.iload 5, 2) := by decide +kernel
theorem dJ6_getChars_ba4f3_115 : decode cJ6_getChars_ba4f3 115 = .ok (.bipush 45, 2) := by decide +kernel
theorem dJ6_getChars_ba4f3_117 : decode cJ6_getChars_ba4f3 117 = .ok (.bastore, 1) := by decide +kernel
theorem dJ6_getChars_ba4f3_118 : decode cJ6_getChars_ba4f3 118 = .ok (.iload 5, 2) := by decide +kernel
theorem dJ6_getChars_ba4f3_120 : decode cJ6_getChars_ba4f3 120 = .ok (.ireturn, 1) := by decide +kernel
theorem dJ6_stringSize_0f7a4_0 : decode cJ6_stringSize_0f7a4 0 = .ok (.iconst 1, 1) := by decide +kernel
theorem dJ6_stringSize_0f7a4_1 : decode cJ6_stringSize_0f7a4 1 = .ok (.istore_n 1, 1) := by decide +kernel
theorem dJ6_stringSize_0f7a4_2 : decode cJ6_stringSize_0f7a4 2 = .ok (.iload_n 0, 1) := by decide +kernel
theorem dJ6_stringSize_0f7a4_3 : decode cJ6_stringSize_0f7a4 3 = .ok (.ifCond .lt 8, 3) := by decide +kernel
theorem dJ6_stringSize_0f7a4_6 : decode cJ6_stringSize_0f7a4 6 = .ok (.iconst 0, 1) := by decide +kernel
theorem dJ6_stringSize_0f7a4_7 : decode cJ6_stringSize_0f7a4 7 = .ok (.istore_n 1, 1) := by decide +kernel
theorem dJ6_stringSize_0f7a4_8 : decode cJ6_stringSize_0f7a4 8 = .ok (.iload_n 0, 1) := by decide +kernel
theorem dJ6_stringSize_0f7a4_9 : decode cJ6_stringSize_0f7a4 9 = .ok (.ineg, 1) := by decide +kernel
theorem dJ6_stringSize_0f7a4_10 : decode cJ6_stringSize_0f7a4 10 = .ok (.istore_n 0, 1) := by decide +kernel
theorem dJ6_stringSize_0f7a4_11 : decode cJ6_stringSize_0f7a4 11 = .ok (.bipush (-10), 2) := by decide +kernel
theorem dJ6_stringSize_0f7a4_13 : decode cJ6_stringSize_0f7a4 13 = .ok (.istore_n 2, 1) := by decide +kernel
theorem dJ6_stringSize_0f7a4_14 : decode cJ6_stringSize_0f7a4 14 = .ok (.iconst 1, 1) := by decide +kernel
theorem dJ6_stringSize_0f7a4_15 : decode cJ6_stringSize_0f7a4 15 = .ok (.istore_n 3, 1) := by decide +kernel
theorem dJ6_stringSize_0f7a4_16 : decode cJ6_stringSize_0f7a4 16 = .ok (.iload_n 3, 1) := by decide +kernel
theorem dJ6_stringSize_0f7a4_17 : decode cJ6_stringSize_0f7a4 17 = .ok (.bipush 10, 2) := by decide +kernel
theorem dJ6_stringSize_0f7a4_19 : decode cJ6_stringSize_0f7a4 19 = .ok (.if_icmp .ge 23, 3) := by decide +kernel
theorem dJ6_stringSize_0f7a4_22 : decode cJ6_stringSize_0f7a4 22 = .ok (.iload_n 0, 1) := by decide +kernel
theorem dJ6_stringSize_0f7a4_23 : decode cJ6_stringSize_0f7a4 23 = .ok (.iload_n 2, 1) := by decide +kernel
theorem dJ6_stringSize_0f7a4_24 : decode cJ6_stringSize_0f7a4 24 = .ok (.if_icmp .le 7, 3) := by decide +kernel
theorem dJ6_stringSize_0f7a4_27 : decode cJ6_stringSize_0f7a4 27 = .ok (.iload_n 3, 1) := by decide +kernel
theorem dJ6_stringSize_0f7a4_28 : decode cJ6_stringSize_0f7a4 28 = .ok (.iload_n 1, 1) := by decide +kernel
theorem dJ6_stringSize_0f7a4_29 : decode cJ6_stringSize_0f7a4 29 = .ok (.iadd, 1) := by decide +kernel
theorem dJ6_stringSize_0f7a4_30 : decode cJ6_stringSize_0f7a4 30 = .ok (.ireturn, 1) := by decide +kernel
theorem dJ6_stringSize_0f7a4_31 : decode cJ6_stringSize_0f7a4 31 = .ok (.bipush 10, 2) := by decide +kernel
theorem dJ6_stringSize_0f7a4_33 : decode cJ6_stringSize_0f7a4 33 = .ok (.iload_n 2, 1) := by decide +kernel
theorem dJ6_stringSize_0f7a4_34 : decode cJ6_stringSize_0f7a4 34 = .ok (.imul, 1) := by decide +kernel
theorem dJ6_stringSize_0f7a4_35 : decode cJ6_stringSize_0f7a4 35 = .ok (.istore_n 2, 1) := by decide +kernel
theorem dJ6_stringSize_0f7a4_36 : decode cJ6_stringSize_0f7a4 36 = .ok (.iinc 3 1, 3) := by decide +kernel
theorem dJ6_stringSize_0f7a4_39 : decode cJ6_stringSize_0f7a4 39 = .ok (.goto (-23), 3) := by decide +kernel
theorem dJ6_stringSize_0f7a4_42 : decode cJ6_stringSize_0f7a4 42 = .ok (.bipush 10, 2) := by decide +kernel
theorem dJ6_stringSize_0f7a4_44 : decode cJ6_stringSize_0f7a4 44 = .ok (.iload_n 1, 1) := by decide +kernel
theorem dJ6_stringSize_0f7a4_45 : decode cJ6_stringSize_0f7a4 45 = .ok (.iadd, 1) := by decide +kernel
theorem dJ6_stringSize_0f7a4_46 : decode cJ6_stringSize_0f7a4 46 = .ok (.ireturn, 1) := by decide +kernel
theorem dJ9_max_7cf53_0 : decode cJ9_max_7cf53 0 = .ok (.iload_n 0, 1) := by decide +kernel
theorem dJ9_max_7cf53_1 : decode cJ9_max_7cf53 1 = .ok (.iload_n 1, 1) := by decide +kernel
theorem dJ9_max_7cf53_2 : decode cJ9_max_7cf53 2 = .ok (.if_icmp .lt 7, 3) := by decide +kernel
theorem dJ9_max_7cf53_5 : decode cJ9_max_7cf53 5 = .ok (.iload_n 0, 1) := by decide +kernel
theorem dJ9_max_7cf53_6 : decode cJ9_max_7cf53 6 = .ok (.goto 4, 3) := by decide +kernel
theorem dJ9_max_7cf53_9 : decode cJ9_max_7cf53 9 = .ok (.iload_n 1, 1) := by decide +kernel
theorem dJ9_max_7cf53_10 : decode cJ9_max_7cf53 10 = .ok (.ireturn, 1) := by decide +kernel
theorem dJ9_min_7cf53_0 : decode cJ9_min_7cf53 0 = .ok (.iload_n 0, 1) := by decide +kernel
theorem dJ9_min_7cf53_1 : decode cJ9_min_7cf53 1 = .ok (.iload_n 1, 1) := by decide +kernel
theorem dJ9_min_7cf53_2 : decode cJ9_min_7cf53 2 = .ok (.if_icmp .gt 7, 3) := by decide +kernel
theorem dJ9_min_7cf53_5 : decode cJ9_min_7cf53 5 = .ok (.iload_n 0, 1) := by decide +kernel
theorem dJ9_min_7cf53_6 : decode cJ9_min_7cf53 6 = .ok (.goto 4, 3) := by decide +kernel
theorem dJ9_min_7cf53_9 : decode cJ9_min_7cf53 9 = .ok (.iload_n 1, 1) := by decide +kernel
theorem dJ9_min_7cf53_10 : decode cJ9_min_7cf53 10 = .ok (.ireturn, 1) := by decide +kernel
theorem dJ0_init_81219_0 : decode cJ0_init_81219 0 = .ok (.aload_n 0, 1) := by decide +kernel
theorem dJ0_init_81219_1 : decode cJ0_init_81219 1 = .ok (.aload_n 1, 1) := by decide +kernel
theorem dJ0_init_81219_2 : decode cJ0_init_81219 2 = .ok (.aconst_null, 1) := by decide +kernel
theorem dJ0_init_81219_3 : decode cJ0_init_81219 3 = .ok (.invokespecial 489, 3) := by decide +kernel
theorem dJ0_init_81219_6 : decode cJ0_init_81219 6 = .ok (.return_, 1) := by decide +kernel
theorem dJ0_length_8abf5_0 : decode cJ0_length_8abf5 0 = .ok (.aload_n 0, 1) := by decide +kernel
theorem dJ0_length_8abf5_1 : decode cJ0_length_8abf5 1 = .ok (.getfield 9, 3) := by decide +kernel
theorem dJ0_length_8abf5_4 : decode cJ0_length_8abf5 4 = .ok (.arraylength, 1) := by decide +kernel
theorem dJ0_length_8abf5_5 : decode cJ0_length_8abf5 5 = .ok (.aload_n 0, 1) := by decide +kernel
theorem dJ0_length_8abf5_6 : decode cJ0_length_8abf5 6 = .ok (.invokevirtual 335, 3) := by decide +kernel
theorem dJ0_length_8abf5_9 : decode cJ0_length_8abf5 9 = .ok (.ishr, 1) := by decide +kernel
theorem dJ0_length_8abf5_10 : decode cJ0_length_8abf5 10 = .ok (.ireturn, 1) := by decide +kernel
theorem dJ0_charAt_5068e_0 : decode cJ0_charAt_5068e 0 = .ok (.aload_n 0, 1) := by decide +kernel
theorem dJ0_charAt_5068e_1 : decode cJ0_charAt_5068e 1 = .ok (.invokevirtual 492, 3) := by decide +kernel
theorem dJ0_charAt_5068e_4 : decode cJ0_charAt_5068e 4 = .ok (.ifCond .eq 12, 3) := by decide +kernel
theorem dJ0_charAt_5068e_7 : decode cJ0_charAt_5068e 7 = .ok (.aload_n 0, 1) := by decide +kernel
theorem dJ0_charAt_5068e_8 : decode cJ0_charAt_5068e 8 = .ok (.getfield 9, 3) := by decide +kernel
theorem dJ0_charAt_5068e_11 : decode cJ0_charAt_5068e 11 = .ok (.iload_n 1, 1) := by decide +kernel
theorem dJ0_charAt_5068e_12 : decode cJ0_charAt_5068e 12 = .ok (.invokestatic 495, 3) := by decide +kernel
theorem dJ0_charAt_5068e_15 : decode cJ0_charAt_5068e 15 = .ok (.ireturn, 1) := by decide +kernel
theorem dJ0_charAt_5068e_16 : decode cJ0_charAt_5068e 16 = .ok (.aload_n 0, 1) := by decide +kernel
theorem dJ0_charAt_5068e_17 : decode cJ0_charAt_5068e 17 = .ok (.getfield 9, 3) := by decide +kernel
theorem dJ0_charAt_5068e_20 : decode cJ0_charAt_5068e 20 = .ok (.iload_n 1, 1) := by decide +kernel
theorem dJ0_charAt_5068e_21 : decode cJ0_charAt_5068e 21 = .ok (.invokestatic 498, 3) := by decide +kernel
theorem dJ0_charAt_5068e_24 : decode cJ0_charAt_5068e 24 = .ok (.ireturn, 1) := by decide +kernel
theorem dJ0_getBytes_840e7_0 : decode cJ0_getBytes_840e7 0 = .ok (.aload_n 0, 1) := by decide +kernel
theorem dJ0_getBytes_840e7_1 : decode cJ0_getBytes_840e7 1 = .ok (.invokevirtual 335, 3) := by decide +kernel
theorem dJ0_getBytes_840e7_4 : decode cJ0_getBytes_840e7 4 = .ok (.iload_n 3, 1) := by decide +kernel
theorem dJ0_getBytes_840e7_5 : decode cJ0_getBytes_840e7 5 = .ok (.if_icmp .ne 23, 3) := by decide +kernel
theorem dJ0_getBytes_840e7_8 : decode cJ0_getBytes_840e7 8 = .ok (.aload_n 0, 1) := by decide +kernel
theorem dJ0_getBytes_840e7_9 : decode cJ0_getBytes_840e7 9 = .ok (.getfield 9, 3) := by decide +kernel
theorem dJ0_getBytes_840e7_12 : decode cJ0_getBytes_840e7 12 = .ok (.iconst 0, 1) := by decide +kernel
theorem dJ0_getBytes_840e7_13 : decode cJ0_getBytes_840e7 13 = .ok (.aload_n 1, 1) := by decide +kernel
theorem dJ0_getBytes_840e7_14 : decode cJ0_getBytes_840e7 14 = .ok (.iload_n 2, 1) := by decide +kernel
theorem dJ0_getBytes_840e7_15 : decode cJ0_getBytes_840e7 15 = .ok (.iload_n 3, 1) := by decide +kernel
theorem dJ0_getBytes_840e7_16 : decode cJ0_getBytes_840e7 16 = .ok (.ishl, 1) := by decide +kernel
theorem dJ0_getBytes_840e7_17 : decode cJ0_getBytes_840e7 17 = .ok (.aload_n 0, 1) := by decide +kernel
theorem dJ0_getBytes_840e7_18 : decode cJ0_getBytes_840e7 18 = .ok (.getfield 9, 3) := by decide +kernel
theorem dJ0_getBytes_840e7_21 : decode cJ0_getBytes_840e7 21 = .ok (.arraylength, 1) := by decide +kernel
theorem dJ0_getBytes_840e7_22 : decode cJ0_getBytes_840e7 22 = .ok (.invokestatic 212, 3) := by decide +kernel
theorem dJ0_getBytes_840e7_25 : decode cJ0_getBytes_840e7 25 = .ok (.goto 18, 3) := by decide +kernel
theorem dJ0_getBytes_840e7_28 : decode cJ0_getBytes_840e7 28 = .ok (.aload_n 0, 1) := by decide +kernel
theorem dJ0_getBytes_840e7_29 : decode cJ0_getBytes_840e7 29 = .ok (.getfield 9, 3) := by decide +kernel
theorem dJ0_getBytes_840e7_32 : decode cJ0_getBytes_840e7 32 = .ok (.iconst 0, 1) := by decide +kernel
theorem dJ0_getBytes_840e7_33 : decode cJ0_getBytes_840e7 33 = .ok (.aload_n 1, 1) := by decide +kernel
theorem dJ0_getBytes_840e7_34 : decode cJ0_getBytes_840e7 34 = .ok (.iload_n 2, 1) := by decide +kernel
theorem dJ0_getBytes_840e7_35 : decode cJ0_getBytes_840e7 35 = .ok (.aload_n 0, 1) := by decide +kernel
theorem dJ0_getBytes_840e7_36 : decode cJ0_getBytes_840e7 36 = .ok (.getfield 9, 3) := by decide +kernel
theorem dJ0_getBytes_840e7_39 : decode cJ0_getBytes_840e7 39 = .ok (.arraylength, 1) := by decide +kernel
theorem dJ0_getBytes_840e7_40 : decode cJ0_getBytes_840e7 40 = .ok (.invokestatic 106, 3) := by decide +kernel
theorem dJ0_getBytes_840e7_43 : decode cJ0_getBytes_840e7 43 = .ok (.return_, 1) := by decide +kernel
theorem dJ0_init_db425_0 : decode cJ0_init_db425 0 = .ok (.aload_n 0, 1) := by decide +kernel
theorem dJ0_init_db425_1 : decode cJ0_init_db425 1 = .ok (.invokespecial 1, 3) := by decide +kernel
theorem dJ0_init_db425_4 : decode cJ0_init_db425 4 = .ok (.aload_n 1, 1) := by decide +kernel
theorem dJ0_init_db425_5 : decode cJ0_init_db425 5 = .ok (.invokevirtual 552, 3) := by decide +kernel
theorem dJ0_init_db425_8 : decode cJ0_init_db425 8 = .ok (.astore_n 3, 1) := by decide +kernel
theorem dJ0_init_db425_9 : decode cJ0_init_db425 9 = .ok (.aload_n 1, 1) := by decide +kernel
theorem dJ0_init_db425_10 : decode cJ0_init_db425 10 = .ok (.invokevirtual 549, 3) := by decide +kernel
theorem dJ0_init_db425_13 : decode cJ0_init_db425 13 = .ok (.istore 4, 2) := by decide +kernel
theorem dJ0_init_db425_15 : decode cJ0_init_db425 15 = .ok (.aload_n 1, 1) := by decide +kernel
theorem dJ0_init_db425_16 : decode cJ0_init_db425 16 = .ok (.invokevirtual 1047, 3) := by decide +kernel
theorem dJ0_init_db425_19 : decode cJ0_init_db425 19 = .ok (.ifCond .eq 22, 3) := by decide +kernel
theorem dJ0_init_db425_22 : decode cJ0_init_db425 22 = .ok (.aload_n 0, 1) := by decide +kernel
theorem dJ0_init_db425_23 : decode cJ0_init_db425 23 = .ok (.iconst 0, 1) := by decide +kernel
theorem dJ0_init_db425_24 : decode cJ0_init_db425 24 = .ok (.putfield 15, 3) := by decide +kernel
theorem dJ0_init_db425_27 : decode cJ0_init_db425 27 = .ok (.aload_n 0, 1) := by decide +kernel
theorem dJ0_init_db425_28 : decode cJ0_init_db425 28 = .ok (.aload_n 3, 1) := by decide +kernel
theorem dJ0_init_db425_29 : decode cJ0_init_db425 29 = .ok (.iconst 0, 1) := by decide +kernel
theorem dJ0_init_db425_30 : decode cJ0_init_db425 30 = .ok (.iload 4, 2) := by decide +kernel
theorem dJ0_init_db425_32 : decode cJ0_init_db425 32 = .ok (.invokestatic 54, 3) := by decide +kernel
theorem dJ0_init_db425_35 : decode cJ0_init_db425 35 = .ok (.putfield 9, 3) := by decide +kernel
theorem dJ0_init_db425_38 : decode cJ0_init_db425 38 = .ok (.goto 59, 3) := by decide +kernel
theorem dJ0_init_db425_41 : decode cJ0_init_db425 41 = .ok (.getstatic 38, 3) := by decide +kernel
theorem dJ0_init_db425_44 : decode cJ0_init_db425 44 = .ok (.ifCond .eq 35, 3) := by decide +kernel
theorem dJ0_init_db425_47 : decode cJ0_init_db425 47 = .ok (.aload_n 1, 1) := by decide +kernel
theorem dJ0_init_db425_48 : decode cJ0_init_db425 48 = .ok (.getfield 1048, 3) := by decide +kernel
theorem dJ0_init_db425_51 : decode cJ0_init_db425 51 = .ok (.ifCond .eq 28, 3) := by decide +kernel
theorem dJ0_init_db425_54 : decode cJ0_init_db425 54 = .ok (.aload_n 0, 1) := by decide +kernel
theorem dJ0_init_db425_55 : decode cJ0_init_db425 55 = .ok (.aload_n 3, 1) := by decide +kernel
theorem dJ0_init_db425_56 : decode cJ0_init_db425 56 = .ok (.iconst 0, 1) := by decide +kernel
theorem dJ0_init_db425_57 : decode cJ0_init_db425 57 = .ok (.iload 4, 2) := by decide +kernel
theorem dJ0_init_db425_59 : decode cJ0_init_db425 59 = .ok (.invokestatic 1051, 3) := by decide +kernel
theorem dJ0_init_db425_62 : decode cJ0_init_db425 62 = .ok (.putfield 9, 3) := by decide +kernel
theorem dJ0_init_db425_65 : decode cJ0_init_db425 65 = .ok (.aload_n 0, 1) := by decide +kernel
theorem dJ0_init_db425_66 : decode cJ0_init_db425 66 = .ok (.aload_n 0, 1) := by decide +kernel
theorem dJ0_init_db425_67 : decode cJ0_init_db425 67 = .ok (.getfield 9, 3) := by decide +kernel
theorem dJ0_init_db425_70 : decode cJ0_init_db425 70 = .ok (.iload 4, 2) := by decide +kernel
theorem dJ0_init_db425_72 : decode cJ0_init_db425 72 = .ok (.invokestatic 47, 3) := by decide +kernel
theorem dJ0_init_db425_75 : decode cJ0_init_db425 75 = .ok (.putfield 15, 3) := by decide +kernel
theorem dJ0_init_db425_78 : decode cJ0_init_db425 78 = .ok (.return_, 1) := by decide +kernel
theorem dJ0_init_db425_79 : decode cJ0_init_db425 79 = .ok (.aload_n 0, 1) := by decide +kernel
theorem dJ0_init_db425_80 : decode cJ0_init_db425 80 = .ok (.iconst 1, 1) := by decide +kernel
theorem dJ0_init_db425_81 : decode cJ0_init_db425 81 = .ok (.putfield 15, 3) := by decide +kernel
theorem dJ0_init_db425_84 : decode cJ0_init_db425 84 = .ok (.aload_n 0, 1) := by decide +kernel
theorem dJ0_init_db425_85 : decode cJ0_init_db425 85 = .ok (.aload_n 3, 1) := by decide +kernel
theorem dJ0_init_db425_86 : decode cJ0_init_db425 86 = .ok (.iconst 0, 1) := by decide +kernel
theorem dJ0_init_db425_87 : decode cJ0_init_db425 87 = .ok (.iload 4, 2) := by decide +kernel
theorem dJ0_init_db425_89 : decode cJ0_init_db425 89 = .ok (.iconst 1, 1) := by decide +kernel
theorem dJ0_init_db425_90 : decode cJ0_init_db425 90 = .ok (.ishl, 1) := by decide +kernel
theorem dJ0_init_db425_91 : decode cJ0_init_db425 91 = .ok (.invokestatic 54, 3) := by decide +kernel
theorem dJ0_init_db425_94 : decode cJ0_init_db425 94 = .ok (.putfield 9, 3) := by decide +kernel
theorem dJ0_init_db425_97 : decode cJ0_init_db425 97 = .ok (.return_, 1) := by decide +kernel
theorem dJ0_coder_7d493_0 : decode cJ0_coder_7d493 0 = .ok (.getstatic 38, 3) := by decide +kernel
theorem dJ0_coder_7d493_3 : decode cJ0_coder_7d493 3 = .ok (.ifCond .eq 10, 3) := by decide +kernel
theorem dJ0_coder_7d493_6 : decode cJ0_coder_7d493 6 = .ok (.aload_n 0, 1) := by decide +kernel
theorem dJ0_coder_7d493_7 : decode cJ0_coder_7d493 7 = .ok (.getfield 15, 3) := by decide +kernel
theorem dJ0_coder_7d493_10 : decode cJ0_coder_7d493 10 = .ok (.goto 4, 3) := by decide +kernel
theorem dJ0_coder_7d493_13 : decode cJ0_coder_7d493 13 = .ok (.iconst 1, 1) := by decide +kernel
theorem dJ0_coder_7d493_14 : decode cJ0_coder_7d493 14 = .ok (.ireturn, 1) := by decide +kernel
theorem dJ0_isLatin1_aae02_0 : decode cJ0_isLatin1_aae02 0 = .ok (.getstatic 38, 3) := by decide +kernel
theorem dJ0_isLatin1_aae02_3 : decode cJ0_isLatin1_aae02 3 = .ok (.ifCond .eq 14, 3) := by decide +kernel
theorem dJ0_isLatin1_aae02_6 : decode cJ0_isLatin1_aae02 6 = .ok (.aload_n 0, 1) := by decide +kernel
theorem dJ0_isLatin1_aae02_7 : decode cJ0_isLatin1_aae02 7 = .ok (.getfield 15, 3) := by decide +kernel
theorem dJ0_isLatin1_aae02_10 : decode cJ0_isLatin1_aae02 10 = .ok (.ifCond .ne 7, 3) := by decide +kernel
theorem dJ0_isLatin1_aae02_13 : decode cJ0_isLatin1_aae02 13 = .ok (.iconst 1, 1) := by decide +kernel
theorem dJ0_isLatin1_aae02_14 : decode cJ0_isLatin1_aae02 14 = .ok (.goto 4, 3) := by decide +kernel
theorem dJ0_isLatin1_aae02_17 : decode cJ0_isLatin1_aae02 17 = .ok (.iconst 0, 1) := by decide +kernel
theorem dJ0_isLatin1_aae02_18 : decode cJ0_isLatin1_aae02 18 = .ok (.ireturn, 1) := by decide +kernel
theorem dJ0_checkIndex_df160_0 : decode cJ0_checkIndex_df160 0 = .ok (.iload_n 0, 1) := by decide +kernel
theorem dJ0_checkIndex_df160_1 : decode cJ0_checkIndex_df160 1 = .ok (.iload_n 1, 1) := by decide +kernel
theorem dJ0_checkIndex_df160_2 : decode cJ0_checkIndex_df160 2 = .ok (.getstatic 1053, 3) := by decide +kernel
theorem dJ0_checkIndex_df160_5 : decode cJ0_checkIndex_df160 5 = .ok (.invokestatic 1059, 3) := by decide +kernel
theorem dJ0_checkIndex_df160_8 : decode cJ0_checkIndex_df160 8 = .ok (.pop, 1) := by decide +kernel
theorem dJ0_checkIndex_df160_9 : decode cJ0_checkIndex_df160 9 = .ok (.return_, 1) := by decide +kernel
theorem dJ0_checkBoundsOffCount_cabcc_0 : decode cJ0_checkBoundsOffCount_cabcc 0 = .ok (.iload_n 0, 1) := by decide +kernel
theorem dJ0_checkBoundsOffCount_cabcc_1 : decode cJ0_checkBoundsOffCount_cabcc 1 = .ok (.iload_n 1, 1) := by decide +kernel
theorem dJ0_checkBoundsOffCount_cabcc_2 : decode cJ0_checkBoundsOffCount_cabcc 2 = .ok (.iload_n 2, 1) := by decide +kernel
theorem dJ0_checkBoundsOffCount_cabcc_3 : decode cJ0_checkBoundsOffCount_cabcc 3 = .ok (.getstatic 1053, 3) := by decide +kernel
theorem dJ0_checkBoundsOffCount_cabcc_6 : decode cJ0_checkBoundsOffCount_cabcc 6 = .ok (.invokestatic 1065, 3) := by decide +kernel
theorem dJ0_checkBoundsOffCount_cabcc_9 : decode cJ0_checkBoundsOffCount_cabcc 9 = .ok (.ireturn, 1) := by decide +kernel
theorem dJ0_checkBoundsBeginEnd_23922_0 : decode cJ0_checkBoundsBeginEnd_23922 0 = .ok (.iload_n 0, 1) := by decide +kernel
theorem dJ0_checkBoundsBeginEnd_23922_1 : decode cJ0_checkBoundsBeginEnd_23922 1 = .ok (.iload_n 1, 1) := by decide +kernel
theorem dJ0_checkBoundsBeginEnd_23922_2 : decode cJ0_checkBoundsBeginEnd_23922 2 = .ok (.iload_n 2, 1) := by decide +kernel
theorem dJ0_checkBoundsBeginEnd_23922_3 : decode cJ0_checkBoundsBeginEnd_23922 3 = .ok (.getstatic 1053, 3) := by decide +kernel
theorem dJ0_checkBoundsBeginEnd_23922_6 : decode cJ0_checkBoundsBeginEnd_23922 6 = .ok (.invokestatic 1062, 3) := by decide +kernel
theorem dJ0_checkBoundsBeginEnd_23922_9 : decode cJ0_checkBoundsBeginEnd_23922 9 = .ok (.pop, 1) := by decide +kernel
theorem dJ0_checkBoundsBeginEnd_23922_10 : decode cJ0_checkBoundsBeginEnd_23922 10 = .ok (.return_, 1) := by decide +kernel
theorem dJ4_init_da8c8_0 : decode cJ4_init_da8c8 0 = .ok (.aload_n 0, 1) := by decide +kernel
theorem dJ4_init_da8c8_1 : decode cJ4_init_da8c8 1 = .ok (.bipush 16, 2) := by decide +kernel
theorem dJ4_init_da8c8_3 : decode cJ4_init_da8c8 3 = .ok (.invokespecial 1, 3) := by decide +kernel
theorem dJ4_init_da8c8_6 : decode cJ4_init_da8c8 6 = .ok (.return_, 1) := by decide +kernel
theorem dJ4_append_15ec4_0 : decode cJ4_append_15ec4 0 = .ok (.aload_n 0, 1) := by decide +kernel
theorem dJ4_append_15ec4_1 : decode cJ4_append_15ec4 1 = .ok (.aload_n 1, 1) := by decide +kernel
theorem dJ4_append_15ec4_2 : decode cJ4_append_15ec4 2 = .ok (.invokespecial 29, 3) := by decide +kernel
theorem dJ4_append_15ec4_5 : decode cJ4_append_15ec4 5 = .ok (.pop, 1) := by decide +kernel
theorem dJ4_append_15ec4_6 : decode cJ4_append_15ec4 6 = .ok (.aload_n 0, 1) := by decide +kernel
theorem dJ4_append_15ec4_7 : decode cJ4_append_15ec4 7 = .ok (.areturn, 1) := by decide +kernel
theorem dJ4_append_cf468_0 : decode cJ4_append_cf468 0 = .ok (.aload_n 0, 1) := by decide +kernel
theorem dJ4_append_cf468_1 : decode cJ4_append_cf468 1 = .ok (.iload_n 1, 1) := by decide +kernel
theorem dJ4_append_cf468_2 : decode cJ4_append_cf468 2 = .ok (.invokespecial 50, 3) := by decide +kernel
theorem dJ4_append_cf468_5 : decode cJ4_append_cf468 5 = .ok (.pop, 1) := by decide +kernel
theorem dJ4_append_cf468_6 : decode cJ4_append_cf468 6 = .ok (.aload_n 0, 1) := by decide +kernel
theorem dJ4_append_cf468_7 : decode cJ4_append_cf468 7 = .ok (.areturn, 1) := by decide +kernel
theorem dJ4_append_bf812_0 : decode cJ4_append_bf812 0 = .ok (.aload_n 0, 1) := by decide +kernel
theorem dJ4_append_bf812_1 : decode cJ4_append_bf812 1 = .ok (.iload_n 1, 1) := by decide +kernel
theorem dJ4_append_bf812_2 : decode cJ4_append_bf812 2 = .ok (.invokespecial 53, 3) := by decide +kernel
theorem dJ4_append_bf812_5 : decode cJ4_append_bf812 5 = .ok (.pop, 1) := by decide +kernel
theorem dJ4_append_bf812_6 : decode cJ4_append_bf812 6 = .ok (.aload_n 0, 1) := by decide +kernel
theorem dJ4_append_bf812_7 : decode cJ4_append_bf812 7 = .ok (.areturn, 1) := by decide +kernel
theorem dJ4_toString_0e30d_0 : decode cJ4_toString_0e30d 0 = .ok (.new 18, 3) := by decide +kernel
theorem dJ4_toString_0e30d_3 : decode cJ4_toString_0e30d 3 = .ok (.dup, 1) := by decide +kernel
theorem dJ4_toString_0e30d_4 : decode cJ4_toString_0e30d 4 = .ok (.aload_n 0, 1) := by decide +kernel
theorem dJ4_toString_0e30d_5 : decode cJ4_toString_0e30d 5 = .ok (.invokespecial 137, 3) := by decide +kernel
theorem dJ4_toString_0e30d_8 : decode cJ4_toString_0e30d 8 = .ok (.areturn, 1) := by decide +kernel
theorem dJ4_charAt_5068e_0 : decode cJ4_charAt_5068e 0 = .ok (.aload_n 0, 1) := by decide +kernel
theorem dJ4_charAt_5068e_1 : decode cJ4_charAt_5068e 1 = .ok (.iload_n 1, 1) := by decide +kernel
theorem dJ4_charAt_5068e_2 : decode cJ4_charAt_5068e 2 = .ok (.invokespecial 329, 3) := by decide +kernel
theorem dJ4_charAt_5068e_5 : decode cJ4_charAt_5068e 5 = .ok (.ireturn, 1) := by decide +kernel
theorem dJ4_setLength_d00df_0 : decode cJ4_setLength_d00df 0 = .ok (.aload_n 0, 1) := by decide +kernel
theorem dJ4_setLength_d00df_1 : decode cJ4_setLength_d00df 1 = .ok (.iload_n 1, 1) := by decide +kernel
theorem dJ4_setLength_d00df_2 : decode cJ4_setLength_d00df 2 = .ok (.invokespecial 333, 3) := by decide +kernel
theorem dJ4_setLength_d00df_5 : decode cJ4_setLength_d00df 5 = .ok (.return_, 1) := by decide +kernel
theorem dJ4_length_8abf5_0 : decode cJ4_length_8abf5 0 = .ok (.aload_n 0, 1) := by decide +kernel
theorem dJ4_length_8abf5_1 : decode cJ4_length_8abf5 1 = .ok (.invokespecial 343, 3) := by decide +kernel
theorem dJ4_length_8abf5_4 : decode cJ4_length_8abf5 4 = .ok (.ireturn, 1) := by decide +kernel
theorem dJx7c733_init_d00df_0 : decode cJx7c733_init_d00df 0 = .ok (.aload_n 0, 1) := by decide +kernel
theorem dJx7c733_init_d00df_1 : decode cJx7c733_init_d00df 1 = .ok (.new 10, 3) := by decide +kernel
theorem dJx7c733_init_d00df_4 : decode cJx7c733_init_d00df 4 = .ok (.dup, 1) := by decide +kernel
theorem dJx7c733_init_d00df_5 : decode cJx7c733_init_d00df 5 = .ok (.invokespecial 12, 3) := by decide +kernel
theorem dJx7c733_init_d00df_8 : decode cJx7c733_init_d00df 8 = .ok (.ldc 13, 2) := by decide +kernel
theorem dJx7c733_init_d00df_10 : decode cJx7c733_init_d00df 10 = .ok (.invokevirtual 15, 3) := by decide +kernel
theorem dJx7c733_init_d00df_13 : decode cJx7c733_init_d00df 13 = .ok (.iload_n 1, 1) := by decide +kernel
theorem dJx7c733_init_d00df_14 : decode cJx7c733_init_d00df 14 = .ok (.invokevirtual 19, 3) := by decide +kernel
theorem dJx7c733_init_d00df_17 : decode cJx7c733_init_d00df 17 = .ok (.invokevirtual 22, 3) := by decide +kernel
theorem dJx7c733_init_d00df_20 : decode cJx7c733_init_d00df 20 = .ok (.invokespecial 7, 3) := by decide +kernel
theorem dJx7c733_init_d00df_23 : decode cJx7c733_init_d00df 23 = .ok (.return_, 1) := by decide +kernel
theorem dJ1_charAt_3b067_0 : decode cJ1_charAt_3b067 0 = .ok (.iload_n 1, 1) := by decide +kernel
theorem dJ1_charAt_3b067_1 : decode cJ1_charAt_3b067 1 = .ok (.aload_n 0, 1) := by decide +kernel
theorem dJ1_charAt_3b067_2 : decode cJ1_charAt_3b067 2 = .ok (.arraylength, 1) := by decide +kernel
theorem dJ1_charAt_3b067_3 : decode cJ1_charAt_3b067 3 = .ok (.invokestatic 9, 3) := by decide +kernel
theorem dJ1_charAt_3b067_6 : decode cJ1_charAt_3b067 6 = .ok (.aload_n 0, 1) := by decide +kernel
theorem dJ1_charAt_3b067_7 : decode cJ1_charAt_3b067 7 = .ok (.iload_n 1, 1) := by decide +kernel
theorem dJ1_charAt_3b067_8 : decode cJ1_charAt_3b067 8 = .ok (.baload, 1) := by decide +kernel
theorem dJ1_charAt_3b067_9 : decode cJ1_charAt_3b067 9 = .ok (.sipush 255, 3) := by decide +kernel
theorem dJ1_charAt_3b067_12 : decode cJ1_charAt_3b067 12 = .ok (.iand, 1) := by decide +kernel
theorem dJ1_charAt_3b067_13 : decode cJ1_charAt_3b067 13 = .ok (.i2c, 1) := by decide +kernel
theorem dJ1_charAt_3b067_14 : decode cJ1_charAt_3b067 14 = .ok (.ireturn, 1) := by decide +kernel
theorem dJ1_canEncode_fc78d_0 : decode cJ1_canEncode_fc78d 0 = .ok (.iload_n 0, 1) := by decide +kernel
theorem dJ1_canEncode_fc78d_1 : decode cJ1_canEncode_fc78d 1 = .ok (.sipush 255, 3) := by decide +kernel
theorem dJ1_canEncode_fc78d_4 : decode cJ1_canEncode_fc78d 4 = .ok (.if_icmp .gt 7, 3) := by decide +kernel
theorem dJ1_canEncode_fc78d_7 : decode cJ1_canEncode_fc78d 7 = .ok (.iconst 1, 1) := by decide +kernel
theorem dJ1_canEncode_fc78d_8 : decode cJ1_canEncode_fc78d 8 = .ok (.goto 4, 3) := by decide +kernel
theorem dJ1_canEncode_fc78d_11 : decode cJ1_canEncode_fc78d 11 = .ok (.iconst 0, 1) := by decide +kernel
theorem dJ1_canEncode_fc78d_12 : decode cJ1_canEncode_fc78d 12 = .ok (.ireturn, 1) := by decide +kernel
theorem dJ1_fillNull_b72d1_0 : decode cJ1_fillNull_b72d1 0 = .ok (.aload_n 0, 1) := by decide +kernel
theorem dJ1_fillNull_b72d1_1 : decode cJ1_fillNull_b72d1 1 = .ok (.iload_n 1, 1) := by decide +kernel
theorem dJ1_fillNull_b72d1_2 : decode cJ1_fillNull_b72d1 2 = .ok (.iload_n 2, 1) := by decide +kernel
theorem dJ1_fillNull_b72d1_3 : decode cJ1_fillNull_b72d1 3 = .ok (.iconst 0, 1) := by decide +kernel
theorem dJ1_fillNull_b72d1_4 : decode cJ1_fillNull_b72d1 4 = .ok (.invokestatic 236, 3) := by decide +kernel
theorem dJ1_fillNull_b72d1_7 : decode cJ1_fillNull_b72d1 7 = .ok (.return_, 1) := by decide +kernel
theorem dJ1_inflate_0e8fd_0 : decode cJ1_inflate_0e8fd 0 = .ok (.aload_n 0, 1) := by decide +kernel
theorem dJ1_inflate_0e8fd_1 : decode cJ1_inflate_0e8fd 1 = .ok (.iload_n 1, 1) := by decide +kernel
theorem dJ1_inflate_0e8fd_2 : decode cJ1_inflate_0e8fd 2 = .ok (.aload_n 2, 1) := by decide +kernel
theorem dJ1_inflate_0e8fd_3 : decode cJ1_inflate_0e8fd 3 = .ok (.iload_n 3, 1) := by decide +kernel
theorem dJ1_inflate_0e8fd_4 : decode cJ1_inflate_0e8fd 4 = .ok (.iload 4, 2) := by decide +kernel
theorem dJ1_inflate_0e8fd_6 : decode cJ1_inflate_0e8fd 6 = .ok (.invokestatic 240, 3) := by decide +kernel
theorem dJ1_inflate_0e8fd_9 : decode cJ1_inflate_0e8fd 9 = .ok (.return_, 1) := by decide +kernel
theorem dJ2_newBytesFor_77867_0 : decode cJ2_newBytesFor_77867 0 = .ok (.iload_n 0, 1) := by decide +kernel
theorem dJ2_newBytesFor_77867_1 : decode cJ2_newBytesFor_77867 1 = .ok (.invokestatic 11, 3) := by decide +kernel
theorem dJ2_newBytesFor_77867_4 : decode cJ2_newBytesFor_77867 4 = .ok (.newarray .byte, 2) := by decide +kernel
theorem dJ2_newBytesFor_77867_6 : decode cJ2_newBytesFor_77867 6 = .ok (.areturn, 1) := by decide +kernel
theorem dJ2_newBytesLength_0f7a4_0 : decode cJ2_newBytesLength_0f7a4 0 = .ok (.iload_n 0, 1) := by decide +kernel
theorem dJ2_newBytesLength_0f7a4_1 : decode cJ2_newBytesLength_0f7a4 1 = .ok (.ifCond .ge 11, 3) := by decide +kernel
theorem dJ2_newBytesLength_0f7a4_4 : decode cJ2_newBytesLength_0f7a4 4 = .ok (.new 17, 3) := by decide +kernel
theorem dJ2_newBytesLength_0f7a4_7 : decode cJ2_newBytesLength_0f7a4 7 = .ok (.dup, 1) := by decide +kernel
theorem dJ2_newBytesLength_0f7a4_8 : decode cJ2_newBytesLength_0f7a4 8 = .ok (.invokespecial 19, 3) := by decide +kernel
theorem dJ2_newBytesLength_0f7a4_11 : decode cJ2_newBytesLength_0f7a4 11 = .ok (.athrow, 1) := by decide +kernel
theorem dJ2_newBytesLength_0f7a4_12 : decode cJ2_newBytesLength_0f7a4 12 = .ok (.iload_n 0, 1) := by decide +kernel
theorem dJ2_newBytesLength_0f7a4_13 : decode cJ2_newBytesLength_0f7a4 13 = .ok (.ldc 20, 2) := by decide +kernel
theorem dJ2_newBytesLength_0f7a4_15 : decode cJ2_newBytesLength_0f7a4 15 = .ok (.if_icmp .lt 40, 3) := by decide +kernel
theorem dJ2_newBytesLength_0f7a4_18 : decode cJ2_newBytesLength_0f7a4 18 = .ok (.new 21, 3) := by decide +kernel
theorem dJ2_newBytesLength_0f7a4_21 : decode cJ2_newBytesLength_0f7a4 21 = .ok (.dup, 1) := by decide +kernel
theorem dJ2_newBytesLength_0f7a4_22 : decode cJ2_newBytesLength_0f7a4 22 = .ok (.new 23, 3) := by decide +kernel
theorem dJ2_newBytesLength_0f7a4_25 : decode cJ2_newBytesLength_0f7a4 25 = .ok (.dup, 1) := by decide +kernel
theorem dJ2_newBytesLength_0f7a4_26 : decode cJ2_newBytesLength_0f7a4 26 = .ok (.invokespecial 25, 3) := by decide +kernel
theorem dJ2_newBytesLength_0f7a4_29 : decode cJ2_newBytesLength_0f7a4 29 = .ok (.ldc 26, 2) := by decide +kernel
theorem dJ2_newBytesLength_0f7a4_31 : decode cJ2_newBytesLength_0f7a4 31 = .ok (.invokevirtual 28, 3) := by decide +kernel
theorem dJ2_newBytesLength_0f7a4_34 : decode cJ2_newBytesLength_0f7a4 34 = .ok (.iload_n 0, 1) := by decide +kernel
theorem dJ2_newBytesLength_0f7a4_35 : decode cJ2_newBytesLength_0f7a4 35 = .ok (.invokevirtual 32, 3) := by decide +kernel
theorem dJ2_newBytesLength_0f7a4_38 : decode cJ2_newBytesLength_0f7a4 38 = .ok (.ldc 35, 2) := by decide +kernel
theorem dJ2_newBytesLength_0f7a4_40 : decode cJ2_newBytesLength_0f7a4 40 = .ok (.invokevirtual 28, 3) := by decide +kernel
theorem dJ2_newBytesLength_0f7a4_43 : decode cJ2_newBytesLength_0f7a4 43 = .ok (.ldc 20, 2) := by decide +kernel
theorem dJ2_newBytesLength_0f7a4_45 : decode cJ2_newBytesLength_0f7a4 45 = .ok (.invokevirtual 32, 3) := by decide +kernel
theorem dJ2_newBytesLength_0f7a4_48 : decode cJ2_newBytesLength_0f7a4 48 = .ok (.invokevirtual 37, 3) := by decide +kernel
theorem dJ2_newBytesLength_0f7a4_51 : decode cJ2_newBytesLength_0f7a4 51 = .ok (.invokespecial 41, 3) := by decide +kernel
theorem dJ2_newBytesLength_0f7a4_54 : decode cJ2_newBytesLength_0f7a4 54 = .ok (.athrow, 1) := by decide +kernel
theorem dJ2_newBytesLength_0f7a4_55 : decode cJ2_newBytesLength_0f7a4 55 = .ok (.iload_n 0, 1) := by decide +kernel
theorem dJ2_newBytesLength_0f7a4_56 : decode cJ2_newBytesLength_0f7a4 56 = .ok (.iconst 1, 1) := by decide +kernel
theorem dJ2_newBytesLength_0f7a4_57 : decode cJ2_newBytesLength_0f7a4 57 = .ok (.ishl, 1) := by decide +kernel
theorem dJ2_newBytesLength_0f7a4_58 : decode cJ2_newBytesLength_0f7a4 58 = .ok (.ireturn, 1) := by decide +kernel
theorem dJ2_putChar_b72d1_0 : decode cJ2_putChar_b72d1 0 = .ok (.getstatic 44, 3) := by decide +kernel
theorem dJ2_putChar_b72d1_3 : decode cJ2_putChar_b72d1 3 = .ok (.ifCond .ne 25, 3) := by decide +kernel
theorem dJ2_putChar_b72d1_6 : decode cJ2_putChar_b72d1 6 = .ok (.iload_n 1, 1) := by decide +kernel
theorem dJ2_putChar_b72d1_7 : decode cJ2_putChar_b72d1 7 = .ok (.ifCond .lt 11, 3) := by decide +kernel
theorem dJ2_putChar_b72d1_10 : decode cJ2_putChar_b72d1 10 = .ok (.iload_n 1, 1) := by decide +kernel
theorem dJ2_putChar_b72d1_11 : decode cJ2_putChar_b72d1 11 = .ok (.aload_n 0, 1) := by decide +kernel
theorem dJ2_putChar_b72d1_12 : decode cJ2_putChar_b72d1 12 = .ok (.invokestatic 48, 3) := by decide +kernel
theorem dJ2_putChar_b72d1_15 : decode cJ2_putChar_b72d1 15 = .ok (.if_icmp .lt 13, 3) := by decide +kernel
theorem dJ2_putChar_b72d1_18 : decode cJ2_putChar_b72d1 18 = .ok (.new 52, 3) := by decide +kernel
theorem dJ2_putChar_b72d1_21 : decode cJ2_putChar_b72d1 21 = .ok (.dup, 1) := by decide +kernel
theorem dJ2_putChar_b72d1_22 : decode cJ2_putChar_b72d1 22 = .ok (.ldc 54, 2) := by decide +kernel
theorem dJ2_putChar_b72d1_24 : decode cJ2_putChar_b72d1 24 = .ok (.invokespecial 56, 3) := by decide +kernel
theorem dJ2_putChar_b72d1_27 : decode cJ2_putChar_b72d1 27 = .ok (.athrow, 1) := by decide +kernel
theorem dJ2_putChar_b72d1_28 : decode cJ2_putChar_b72d1 28 = .ok (.iload_n 1, 1) := by decide +kernel
theorem dJ2_putChar_b72d1_29 : decode cJ2_putChar_b72d1 29 = .ok (.iconst 1, 1) := by decide +kernel
theorem dJ2_putChar_b72d1_30 : decode cJ2_putChar_b72d1 30 = .ok (.ishl, 1) := by decide +kernel
theorem dJ2_putChar_b72d1_31 : decode cJ2_putChar_b72d1 31 = .ok (.istore_n 1, 1) := by decide +kernel
theorem dJ2_putChar_b72d1_32 : decode cJ2_putChar_b72d1 32 = .ok (.aload_n 0, 1) := by decide +kernel
theorem dJ2_putChar_b72d1_33 : decode cJ2_putChar_b72d1 33 = .ok (.iload_n 1, 1) := by decide +kernel
theorem dJ2_putChar_b72d1_34 : decode cJ2_putChar_b72d1 34 = .ok (.iinc 1 1, 3) := by decide +kernel
theorem dJ2_putChar_b72d1_37 : decode cJ2_putChar_b72d1 37 = .ok (.iload_n 2, 1) := by decide +kernel
theorem dJ2_putChar_b72d1_38 : decode cJ2_putChar_b72d1 38 = .ok (.getstatic 59, 3) := by decide +kernel
theorem dJ2_putChar_b72d1_41 : decode cJ2_putChar_b72d1 41 = .ok (.ishr, 1) := by decide +kernel
theorem dJ2_putChar_b72d1_42 : decode cJ2_putChar_b72d1 42 = .ok (.i2b, 1) := by decide +kernel
theorem dJ2_putChar_b72d1_43 : decode cJ2_putChar_b72d1 43 = .ok (.bastore, 1) := by decide +kernel
theorem dJ2_putChar_b72d1_44 : decode cJ2_putChar_b72d1 44 = .ok (.aload_n 0, 1) := by decide +kernel
theorem dJ2_putChar_b72d1_45 : decode cJ2_putChar_b72d1 45 = .ok (.iload_n 1, 1) := by decide +kernel
theorem dJ2_putChar_b72d1_46 : decode cJ2_putChar_b72d1 46 = .ok (.iload_n 2, 1) := by decide +kernel
theorem dJ2_putChar_b72d1_47 : decode cJ2_putChar_b72d1 47 = .ok (.getstatic 63, 3) := by decide +kernel
theorem dJ2_putChar_b72d1_50 : decode cJ2_putChar_b72d1 50 = .ok (.ishr, 1) := by decide +kernel
theorem dJ2_putChar_b72d1_51 : decode cJ2_putChar_b72d1 51 = .ok (.i2b, 1) := by decide +kernel
theorem dJ2_putChar_b72d1_52 : decode cJ2_putChar_b72d1 52 = .ok (.bastore, 1) := by decide +kernel
theorem dJ2_putChar_b72d1_53 : decode cJ2_putChar_b72d1 53 = .ok (.return_, 1) := by decide +kernel
theorem dJ2_getChar_3b067_0 : decode cJ2_getChar_3b067 0 = .ok (.getstatic 44, 3) := by decide +kernel
theorem dJ2_getChar_3b067_3 : decode cJ2_getChar_3b067 3 = .ok (.ifCond .ne 25, 3) := by decide +kernel
theorem dJ2_getChar_3b067_6 : decode cJ2_getChar_3b067 6 = .ok (.iload_n 1, 1) := by decide +kernel
theorem dJ2_getChar_3b067_7 : decode cJ2_getChar_3b067 7 = .ok (.ifCond .lt 11, 3) := by decide +kernel
theorem dJ2_getChar_3b067_10 : decode cJ2_getChar_3b067 10 = .ok (.iload_n 1, 1) := by decide +kernel
theorem dJ2_getChar_3b067_11 : decode cJ2_getChar_3b067 11 = .ok (.aload_n 0, 1) := by decide +kernel
theorem dJ2_getChar_3b067_12 : decode cJ2_getChar_3b067 12 = .ok (.invokestatic 48, 3) := by decide +kernel
theorem dJ2_getChar_3b067_15 : decode cJ2_getChar_3b067 15 = .ok (.if_icmp .lt 13, 3) := by decide +kernel
theorem dJ2_getChar_3b067_18 : decode cJ2_getChar_3b067 18 = .ok (.new 52, 3) := by decide +kernel
theorem dJ2_getChar_3b067_21 : decode cJ2_getChar_3b067 21 = .ok (.dup, 1) := by decide +kernel
theorem dJ2_getChar_3b067_22 : decode cJ2_getChar_3b067 22 = .ok (.ldc 54, 2) := by decide +kernel
theorem dJ2_getChar_3b067_24 : decode cJ2_getChar_3b067 24 = .ok (.invokespecial 56, 3) := by decide +kernel
theorem dJ2_getChar_3b067_27 : decode cJ2_getChar_3b067 27 = .ok (.athrow, 1) := by decide +kernel
theorem dJ2_getChar_3b067_28 : decode cJ2_getChar_3b067 28 = .ok (.iload_n 1, 1) := by decide +kernel
theorem dJ2_getChar_3b067_29 : decode cJ2_getChar_3b067 29 = .ok (.iconst 1, 1) := by decide +kernel
theorem dJ2_getChar_3b067_30 : decode cJ2_getChar_3b067 30 = .ok (.ishl, 1) := by decide +kernel
theorem dJ2_getChar_3b067_31 : decode cJ2_getChar_3b067 31 = .ok (.istore_n 1, 1) := by decide +kernel
theorem dJ2_getChar_3b067_32 : decode cJ2_getChar_3b067 32 = .ok (.aload_n 0, 1) := by decide +kernel
theorem dJ2_getChar_3b067_33 : decode cJ2_getChar_3b067 33 = .ok (.iload_n 1, 1) := by decide +kernel
theorem dJ2_getChar_3b067_34 : decode cJ2_getChar_3b067 34 = .ok (.iinc 1 1, 3) := by decide +kernel
theorem dJ2_getChar_3b067_37 : decode cJ2_getChar_3b067 37 = .ok (.baload, 1) := by decide +kernel
theorem dJ2_getChar_3b067_38 : decode cJ2_getChar_3b067 38 = .ok (.sipush 255, 3) := by decide +kernel
theorem dJ2_getChar_3b067_41 : decode cJ2_getChar_3b067 41 = .ok (.iand, 1) := by decide +kernel
theorem dJ2_getChar_3b067_42 : decode cJ2_getChar_3b067 42 = .ok (.getstatic 59, 3) := by decide +kernel
theorem dJ2_getChar_3b067_45 : decode cJ2_getChar_3b067 45 = .ok (.ishl, 1) := by decide +kernel
theorem dJ2_getChar_3b067_46 : decode cJ2_getChar_3b067 46 = .ok (.aload_n 0, 1) := by decide +kernel
theorem dJ2_getChar_3b067_47 : decode cJ2_getChar_3b067 47 = .ok (.iload_n 1, 1) := by decide +kernel
theorem dJ2_getChar_3b067_48 : decode cJ2_getChar_3b067 48 = .ok (.baload, 1) := by decide +kernel
theorem dJ2_getChar_3b067_49 : decode cJ2_getChar_3b067 49 = .ok (.sipush 255, 3) := by decide +kernel
theorem dJ2_getChar_3b067_52 : decode cJ2_getChar_3b067 52 = .ok (.iand, 1) := by decide +kernel
theorem dJ2_getChar_3b067_53 : decode cJ2_getChar_3b067 53 = .ok (.getstatic 63, 3) := by decide +kernel
theorem dJ2_getChar_3b067_56 : decode cJ2_getChar_3b067 56 = .ok (.ishl, 1) := by decide +kernel
theorem dJ2_getChar_3b067_57 : decode cJ2_getChar_3b067 57 = .ok (.ior, 1) := by decide +kernel
theorem dJ2_getChar_3b067_58 : decode cJ2_getChar_3b067 58 = .ok (.i2c, 1) := by decide +kernel
theorem dJ2_getChar_3b067_59 : decode cJ2_getChar_3b067 59 = .ok (.ireturn, 1) := by decide +kernel
theorem dJ2_length_9d52b_0 : decode cJ2_length_9d52b 0 = .ok (.aload_n 0, 1) := by decide +kernel
theorem dJ2_length_9d52b_1 : decode cJ2_length_9d52b 1 = .ok (.arraylength, 1) := by decide +kernel
theorem dJ2_length_9d52b_2 : decode cJ2_length_9d52b 2 = .ok (.iconst 1, 1) := by decide +kernel
theorem dJ2_length_9d52b_3 : decode cJ2_length_9d52b 3 = .ok (.ishr, 1) := by decide +kernel
theorem dJ2_length_9d52b_4 : decode cJ2_length_9d52b 4 = .ok (.ireturn, 1) := by decide +kernel
theorem dJ2_coderFromArrayLen_85cad_0 : decode cJ2_coderFromArrayLen_85cad 0 = .ok (.iload_n 1, 1) := by decide +kernel
theorem dJ2_coderFromArrayLen_85cad_1 : decode cJ2_coderFromArrayLen_85cad 1 = .ok (.aload_n 0, 1) := by decide +kernel
theorem dJ2_coderFromArrayLen_85cad_2 : decode cJ2_coderFromArrayLen_85cad 2 = .ok (.arraylength, 1) := by decide +kernel
theorem dJ2_coderFromArrayLen_85cad_3 : decode cJ2_coderFromArrayLen_85cad 3 = .ok (.isub, 1) := by decide +kernel
theorem dJ2_coderFromArrayLen_85cad_4 : decode cJ2_coderFromArrayLen_85cad 4 = .ok (.bipush 31, 2) := by decide +kernel
theorem dJ2_coderFromArrayLen_85cad_6 : decode cJ2_coderFromArrayLen_85cad 6 = .ok (.iushr, 1) := by decide +kernel
theorem dJ2_coderFromArrayLen_85cad_7 : decode cJ2_coderFromArrayLen_85cad 7 = .ok (.i2b, 1) := by decide +kernel
theorem dJ2_coderFromArrayLen_85cad_8 : decode cJ2_coderFromArrayLen_85cad 8 = .ok (.ireturn, 1) := by decide +kernel
theorem dJ2_compress_39247_0 : decode cJ2_compress_39247 0 = .ok (.iload_n 2, 1) := by decide +kernel
theorem dJ2_compress_39247_1 : decode cJ2_compress_39247 1 = .ok (.newarray .byte, 2) := by decide +kernel
theorem dJ2_compress_39247_3 : decode cJ2_compress_39247 3 = .ok (.astore_n 3, 1) := by decide +kernel
theorem dJ2_compress_39247_4 : decode cJ2_compress_39247 4 = .ok (.aload_n 0, 1) := by decide +kernel
theorem dJ2_compress_39247_5 : decode cJ2_compress_39247 5 = .ok (.iload_n 1, 1) := by decide +kernel
theorem dJ2_compress_39247_6 : decode cJ2_compress_39247 6 = .ok (.aload_n 3, 1) := by decide +kernel
theorem dJ2_compress_39247_7 : decode cJ2_compress_39247 7 = .ok (.iconst 0, 1) := by decide +kernel
theorem dJ2_compress_39247_8 : decode cJ2_compress_39247 8 = .ok (.iload_n 2, 1) := by decide +kernel
theorem dJ2_compress_39247_9 : decode cJ2_compress_39247 9 = .ok (.invokestatic 123, 3) := by decide +kernel
theorem dJ2_compress_39247_12 : decode cJ2_compress_39247 12 = .ok (.istore 4, 2) := by decide +kernel
theorem dJ2_compress_39247_14 : decode cJ2_compress_39247 14 = .ok (.iload 4, 2) := by decide +kernel
theorem dJ2_compress_39247_16 : decode cJ2_compress_39247 16 = .ok (.iload_n 2, 1) := by decide +kernel
theorem dJ2_compress_39247_17 : decode cJ2_compress_39247 17 = .ok (.if_icmp .eq 47, 3) := by decide +kernel
theorem dJ2_compress_39247_20 : decode cJ2_compress_39247 20 = .ok (.aload_n 0, 1) := by decide +kernel
theorem dJ2_compress_39247_21 : decode cJ2_compress_39247 21 = .ok (.iload_n 1, 1) := by decide +kernel
theorem dJ2_compress_39247_22 : decode cJ2_compress_39247 22 = .ok (.iconst 1, 1) := by decide +kernel
theorem dJ2_compress_39247_23 : decode cJ2_compress_39247 23 = .ok (.ishl, 1) := by decide +kernel
theorem dJ2_compress_39247_24 : decode cJ2_compress_39247 24 = .ok (.iload_n 1, 1) := by decide +kernel
theorem dJ2_compress_39247_25 : decode cJ2_compress_39247 25 = .ok (.iload_n 2, 1) := by decide +kernel
theorem dJ2_compress_39247_26 : decode cJ2_compress_39247 26 = .ok (.iadd, 1) := by decide +kernel
theorem dJ2_compress_39247_27 : decode cJ2_compress_39247 27 = .ok (.invokestatic 11, 3) := by decide +kernel
theorem dJ2_compress_39247_30 : decode cJ2_compress_39247 30 = .ok (.invokestatic 126, 3) := by decide +kernel
theorem dJ2_compress_39247_33 : decode cJ2_compress_39247 33 = .ok (.astore 5, 2) := by decide +kernel
theorem dJ2_compress_39247_35 : decode cJ2_compress_39247 35 = .ok (.aload 5, 2) := by decide +kernel
theorem dJ2_compress_39247_37 : decode cJ2_compress_39247 37 = .ok (.iload 4, 2) := by decide +kernel
theorem dJ2_compress_39247_39 : decode cJ2_compress_39247 39 = .ok (.invokestatic 71, 3) := by decide +kernel
theorem dJ2_compress_39247_42 : decode cJ2_compress_39247 42 = .ok (.sipush 255, 3) := by decide +kernel
theorem dJ2_compress_39247_45 : decode cJ2_compress_39247 45 = .ok (.if_icmp .gt 16, 3) := by decide +kernel
theorem dJ2_compress_39247_48 : decode cJ2_compress_39247 48 = .ok (.aload 5, 2) := by decide +kernel
theorem dJ2_compress_39247_50 : decode cJ2_compress_39247 50 = .ok (.iconst 0, 1) := by decide +kernel
theorem dJ2_compress_39247_51 : decode cJ2_compress_39247 51 = .ok (.aload_n 3, 1) := by decide +kernel
theorem dJ2_compress_39247_52 : decode cJ2_compress_39247 52 = .ok (.iconst 0, 1) := by decide +kernel
theorem dJ2_compress_39247_53 : decode cJ2_compress_39247 53 = .ok (.iload_n 2, 1) := by decide +kernel
theorem dJ2_compress_39247_54 : decode cJ2_compress_39247 54 = .ok (.invokestatic 123, 3) := by decide +kernel
theorem dJ2_compress_39247_57 : decode cJ2_compress_39247 57 = .ok (.iload_n 2, 1) := by decide +kernel
theorem dJ2_compress_39247_58 : decode cJ2_compress_39247 58 = .ok (.if_icmp .eq 6, 3) := by decide +kernel
theorem dJ2_compress_39247_61 : decode cJ2_compress_39247 61 = .ok (.aload 5, 2) := by decide +kernel
theorem dJ2_compress_39247_63 : decode cJ2_compress_39247 63 = .ok (.areturn, 1) := by decide +kernel
theorem dJ2_compress_39247_64 : decode cJ2_compress_39247 64 = .ok (.aload_n 3, 1) := by decide +kernel
theorem dJ2_compress_39247_65 : decode cJ2_compress_39247 65 = .ok (.areturn, 1) := by decide +kernel
theorem dJ2_compress_5af95_0 : decode cJ2_compress_5af95 0 = .ok (.iload_n 1, 1) := by decide +kernel
theorem dJ2_compress_5af95_1 : decode cJ2_compress_5af95 1 = .ok (.iload 4, 2) := by decide +kernel
theorem dJ2_compress_5af95_3 : decode cJ2_compress_5af95 3 = .ok (.aload_n 0, 1) := by decide +kernel
theorem dJ2_compress_5af95_4 : decode cJ2_compress_5af95 4 = .ok (.invokestatic 173, 3) := by decide +kernel
theorem dJ2_compress_5af95_7 : decode cJ2_compress_5af95 7 = .ok (.iconst 0, 1) := by decide +kernel
theorem dJ2_compress_5af95_8 : decode cJ2_compress_5af95 8 = .ok (.istore 5, 2) := by decide +kernel
theorem dJ2_compress_5af95_10 : decode cJ2_compress_5af95 10 = .ok (.iload 5, 2) := by decide +kernel
theorem dJ2_compress_5af95_12 : decode cJ2_compress_5af95 12 = .ok (.iload 4, 2) := by decide +kernel
theorem dJ2_compress_5af95_14 : decode cJ2_compress_5af95 14 = .ok (.if_icmp .ge 39, 3) := by decide +kernel
theorem dJ2_compress_5af95_17 : decode cJ2_compress_5af95 17 = .ok (.aload_n 0, 1) := by decide +kernel
theorem dJ2_compress_5af95_18 : decode cJ2_compress_5af95 18 = .ok (.iload_n 1, 1) := by decide +kernel
theorem dJ2_compress_5af95_19 : decode cJ2_compress_5af95 19 = .ok (.invokestatic 71, 3) := by decide +kernel
theorem dJ2_compress_5af95_22 : decode cJ2_compress_5af95 22 = .ok (.istore 6, 2) := by decide +kernel
theorem dJ2_compress_5af95_24 : decode cJ2_compress_5af95 24 = .ok (.iload 6, 2) := by decide +kernel
theorem dJ2_compress_5af95_26 : decode cJ2_compress_5af95 26 = .ok (.sipush 255, 3) := by decide +kernel
theorem dJ2_compress_5af95_29 : decode cJ2_compress_5af95 29 = .ok (.if_icmp .le 6, 3) := by decide +kernel
theorem dJ2_compress_5af95_32 : decode cJ2_compress_5af95 32 = .ok (.iload 5, 2) := by decide +kernel
theorem dJ2_compress_5af95_34 : decode cJ2_compress_5af95 34 = .ok (.ireturn, 1) := by decide +kernel
theorem dJ2_compress_5af95_35 : decode cJ2_compress_5af95 35 = .ok (.aload_n 2, 1) := by decide +kernel
theorem dJ2_compress_5af95_36 : decode cJ2_compress_5af95 36 = .ok (.iload_n 3, 1) := by decide +kernel
theorem dJ2_compress_5af95_37 : decode cJ2_compress_5af95 37 = .ok (.iload 6, 2) := by decide +kernel
theorem dJ2_compress_5af95_39 : decode cJ2_compress_5af95 39 = .ok (.i2b, 1) := by decide +kernel
theorem dJ2_compress_5af95_40 : decode cJ2_compress_5af95 40 = .ok (.bastore, 1) := by decide +kernel
theorem dJ2_compress_5af95_41 : decode cJ2_compress_5af95 41 = .ok (.iinc 1 1, 3) := by decide +kernel
theorem dJ2_compress_5af95_44 : decode cJ2_compress_5af95 44 = .ok (.iinc 3 1, 3) := by decide +kernel
theorem dJ2_compress_5af95_47 : decode cJ2_compress_5af95 47 = .ok (.iinc 5 1, 3) := by decide +kernel
theorem dJ2_compress_5af95_50 : decode cJ2_compress_5af95 50 = .ok (.goto (-40), 3) := by decide +kernel
theorem dJ2_compress_5af95_53 : decode cJ2_compress_5af95 53 = .ok (.iload 4, 2) := by decide +kernel
theorem dJ2_compress_5af95_55 : decode cJ2_compress_5af95 55 = .ok (.ireturn, 1) := by decide +kernel
theorem dJ2_fillNull_b72d1_0 : decode cJ2_fillNull_b72d1 0 = .ok (.aload_n 0, 1) := by decide +kernel
theorem dJ2_fillNull_b72d1_1 : decode cJ2_fillNull_b72d1 1 = .ok (.iload_n 1, 1) := by decide +kernel
theorem dJ2_fillNull_b72d1_2 : decode cJ2_fillNull_b72d1 2 = .ok (.iconst 1, 1) := by decide +kernel
theorem dJ2_fillNull_b72d1_3 : decode cJ2_fillNull_b72d1 3 = .ok (.ishl, 1) := by decide +kernel
theorem dJ2_fillNull_b72d1_4 : decode cJ2_fillNull_b72d1 4 = .ok (.iload_n 2, 1) := by decide +kernel
theorem dJ2_fillNull_b72d1_5 : decode cJ2_fillNull_b72d1 5 = .ok (.iconst 1, 1) := by decide +kernel
theorem dJ2_fillNull_b72d1_6 : decode cJ2_fillNull_b72d1 6 = .ok (.ishl, 1) := by decide +kernel
theorem dJ2_fillNull_b72d1_7 : decode cJ2_fillNull_b72d1 7 = .ok (.iconst 0, 1) := by decide +kernel
theorem dJ2_fillNull_b72d1_8 : decode cJ2_fillNull_b72d1 8 = .ok (.invokestatic 380, 3) := by decide +kernel
theorem dJ2_fillNull_b72d1_11 : decode cJ2_fillNull_b72d1 11 = .ok (.return_, 1) := by decide +kernel
theorem dJ2_putCharSB_b72d1_0 : decode cJ2_putCharSB_b72d1 0 = .ok (.iload_n 1, 1) := by decide +kernel
theorem dJ2_putCharSB_b72d1_1 : decode cJ2_putCharSB_b72d1 1 = .ok (.aload_n 0, 1) := by decide +kernel
theorem dJ2_putCharSB_b72d1_2 : decode cJ2_putCharSB_b72d1 2 = .ok (.invokestatic 67, 3) := by decide +kernel
theorem dJ2_putCharSB_b72d1_5 : decode cJ2_putCharSB_b72d1 5 = .ok (.aload_n 0, 1) := by decide +kernel
theorem dJ2_putCharSB_b72d1_6 : decode cJ2_putCharSB_b72d1 6 = .ok (.iload_n 1, 1) := by decide +kernel
theorem dJ2_putCharSB_b72d1_7 : decode cJ2_putCharSB_b72d1 7 = .ok (.iload_n 2, 1) := by decide +kernel
theorem dJ2_putCharSB_b72d1_8 : decode cJ2_putCharSB_b72d1 8 = .ok (.invokestatic 111, 3) := by decide +kernel
theorem dJ2_putCharSB_b72d1_11 : decode cJ2_putCharSB_b72d1 11 = .ok (.return_, 1) := by decide +kernel
theorem dJ2_getChars_46870_0 : decode cJ2_getChars_46870 0 = .ok (.iload_n 1, 1) := by decide +kernel
theorem dJ2_getChars_46870_1 : decode cJ2_getChars_46870 1 = .ok (.iload_n 2, 1) := by decide +kernel
theorem dJ2_getChars_46870_2 : decode cJ2_getChars_46870 2 = .ok (.aload_n 3, 1) := by decide +kernel
theorem dJ2_getChars_46870_3 : decode cJ2_getChars_46870 3 = .ok (.invokestatic 96, 3) := by decide +kernel
theorem dJ2_getChars_46870_6 : decode cJ2_getChars_46870 6 = .ok (.iload_n 0, 1) := by decide +kernel
theorem dJ2_getChars_46870_7 : decode cJ2_getChars_46870 7 = .ok (.iload_n 2, 1) := by decide +kernel
theorem dJ2_getChars_46870_8 : decode cJ2_getChars_46870 8 = .ok (.aload_n 3, 1) := by decide +kernel
theorem dJ2_getChars_46870_9 : decode cJ2_getChars_46870 9 = .ok (.invokestatic 393, 3) := by decide +kernel
theorem dJ2_getChars_46870_12 : decode cJ2_getChars_46870 12 = .ok (.istore 4, 2) := by decide +kernel
theorem dJ2_getChars_46870_14 : decode cJ2_getChars_46870 14 = .ok (.getstatic 44, 3) := by decide +kernel
theorem dJ2_getChars_46870_17 : decode cJ2_getChars_46870 17 = .ok (.ifCond .ne 17, 3) := by decide +kernel
theorem dJ2_getChars_46870_20 : decode cJ2_getChars_46870 20 = .ok (.iload_n 1, 1) := by decide +kernel
theorem dJ2_getChars_46870_21 : decode cJ2_getChars_46870 21 = .ok (.iload 4, 2) := by decide +kernel
theorem dJ2_getChars_46870_23 : decode cJ2_getChars_46870 23 = .ok (.if_icmp .eq 11, 3) := by decide +kernel
theorem dJ2_getChars_46870_26 : decode cJ2_getChars_46870 26 = .ok (.new 52, 3) := by decide +kernel
theorem dJ2_getChars_46870_29 : decode cJ2_getChars_46870 29 = .ok (.dup, 1) := by decide +kernel
theorem dJ2_getChars_46870_30 : decode cJ2_getChars_46870 30 = .ok (.invokespecial 66, 3) := by decide +kernel
theorem dJ2_getChars_46870_33 : decode cJ2_getChars_46870 33 = .ok (.athrow, 1) := by decide +kernel
theorem dJ2_getChars_46870_34 : decode cJ2_getChars_46870 34 = .ok (.iload 4, 2) := by decide +kernel
theorem dJ2_getChars_46870_36 : decode cJ2_getChars_46870 36 = .ok (.ireturn, 1) := by decide +kernel
theorem dJ2_putCharsAt_cd4e5_0 : decode cJ2_putCharsAt_cd4e5 0 = .ok (.iload_n 1, 1) := by decide +kernel
theorem dJ2_putCharsAt_cd4e5_1 : decode cJ2_putCharsAt_cd4e5 1 = .ok (.iconst 4, 1) := by decide +kernel
theorem dJ2_putCharsAt_cd4e5_2 : decode cJ2_putCharsAt_cd4e5 2 = .ok (.iadd, 1) := by decide +kernel
theorem dJ2_putCharsAt_cd4e5_3 : decode cJ2_putCharsAt_cd4e5 3 = .ok (.istore 6, 2) := by decide +kernel
theorem dJ2_putCharsAt_cd4e5_5 : decode cJ2_putCharsAt_cd4e5 5 = .ok (.iload_n 1, 1) := by decide +kernel
theorem dJ2_putCharsAt_cd4e5_6 : decode cJ2_putCharsAt_cd4e5 6 = .ok (.iload 6, 2) := by decide +kernel
theorem dJ2_putCharsAt_cd4e5_8 : decode cJ2_putCharsAt_cd4e5 8 = .ok (.aload_n 0, 1) := by decide +kernel
theorem dJ2_putCharsAt_cd4e5_9 : decode cJ2_putCharsAt_cd4e5 9 = .ok (.invokestatic 96, 3) := by decide +kernel
theorem dJ2_putCharsAt_cd4e5_12 : decode cJ2_putCharsAt_cd4e5 12 = .ok (.aload_n 0, 1) := by decide +kernel
theorem dJ2_putCharsAt_cd4e5_13 : decode cJ2_putCharsAt_cd4e5 13 = .ok (.iload_n 1, 1) := by decide +kernel
theorem dJ2_putCharsAt_cd4e5_14 : decode cJ2_putCharsAt_cd4e5 14 = .ok (.iinc 1 1, 3) := by decide +kernel
theorem dJ2_putCharsAt_cd4e5_17 : decode cJ2_putCharsAt_cd4e5 17 = .ok (.iload_n 2, 1) := by decide +kernel
theorem dJ2_putCharsAt_cd4e5_18 : decode cJ2_putCharsAt_cd4e5 18 = .ok (.invokestatic 111, 3) := by decide +kernel
theorem dJ2_putCharsAt_cd4e5_21 : decode cJ2_putCharsAt_cd4e5 21 = .ok (.aload_n 0, 1) := by decide +kernel
theorem dJ2_putCharsAt_cd4e5_22 : decode cJ2_putCharsAt_cd4e5 22 = .ok (.iload_n 1, 1) := by decide +kernel
theorem dJ2_putCharsAt_cd4e5_23 : decode cJ2_putCharsAt_cd4e5 23 = .ok (.iinc 1 1, 3) := by decide +kernel
theorem dJ2_putCharsAt_cd4e5_26 : decode cJ2_putCharsAt_cd4e5 26 = .ok (.iload_n 3, 1) := by decide +kernel
theorem dJ2_putCharsAt_cd4e5_27 : decode cJ2_putCharsAt_cd4e5 27 = .ok (.invokestatic 111, 3) := by decide +kernel
theorem dJ2_putCharsAt_cd4e5_30 : decode cJ2_putCharsAt_cd4e5 30 = .ok (.aload_n 0, 1) := by decide +kernel
theorem dJ2_putCharsAt_cd4e5_31 : decode cJ2_putCharsAt_cd4e5 31 = .ok (.iload_n 1, 1) := by decide +kernel
theorem dJ2_putCharsAt_cd4e5_32 : decode cJ2_putCharsAt_cd4e5 32 = .ok (.iinc 1 1, 3) := by decide +kernel
theorem dJ2_putCharsAt_cd4e5_35 : decode cJ2_putCharsAt_cd4e5 35 = .ok (.iload 4, 2) := by decide +kernel
theorem dJ2_putCharsAt_cd4e5_37 : decode cJ2_putCharsAt_cd4e5 37 = .ok (.invokestatic 111, 3) := by decide +kernel
theorem dJ2_putCharsAt_cd4e5_40 : decode cJ2_putCharsAt_cd4e5 40 = .ok (.aload_n 0, 1) := by decide +kernel
theorem dJ2_putCharsAt_cd4e5_41 : decode cJ2_putCharsAt_cd4e5 41 = .ok (.iload_n 1, 1) := by decide +kernel
theorem dJ2_putCharsAt_cd4e5_42 : decode cJ2_putCharsAt_cd4e5 42 = .ok (.iinc 1 1, 3) := by decide +kernel
theorem dJ2_putCharsAt_cd4e5_45 : decode cJ2_putCharsAt_cd4e5 45 = .ok (.iload 5, 2) := by decide +kernel
theorem dJ2_putCharsAt_cd4e5_47 : decode cJ2_putCharsAt_cd4e5 47 = .ok (.invokestatic 111, 3) := by decide +kernel
theorem dJ2_putCharsAt_cd4e5_50 : decode cJ2_putCharsAt_cd4e5 50 = .ok (.getstatic 44, 3) := by decide +kernel
theorem dJ2_putCharsAt_cd4e5_53 : decode cJ2_putCharsAt_cd4e5 53 = .ok (.ifCond .ne 17, 3) := by decide +kernel
theorem dJ2_putCharsAt_cd4e5_56 : decode cJ2_putCharsAt_cd4e5 56 = .ok (.iload_n 1, 1) := by decide +kernel
theorem dJ2_putCharsAt_cd4e5_57 : decode cJ2_putCharsAt_cd4e5 57 = .ok (.iload 6, 2) := by decide +kernel
theorem dJ2_putCharsAt_cd4e5_59 : decode cJ2_putCharsAt_cd4e5 59 = .ok (.if_icmp .eq 11, 3) := by decide +kernel
theorem dJ2_putCharsAt_cd4e5_62 : decode cJ2_putCharsAt_cd4e5 62 = .ok (.new 52, 3) := by decide +kernel
theorem dJ2_putCharsAt_cd4e5_65 : decode cJ2_putCharsAt_cd4e5 65 = .ok (.dup, 1) := by decide +kernel
theorem dJ2_putCharsAt_cd4e5_66 : decode cJ2_putCharsAt_cd4e5 66 = .ok (.invokespecial 66, 3) := by decide +kernel
theorem dJ2_putCharsAt_cd4e5_69 : decode cJ2_putCharsAt_cd4e5 69 = .ok (.athrow, 1) := by decide +kernel
theorem dJ2_putCharsAt_cd4e5_70 : decode cJ2_putCharsAt_cd4e5 70 = .ok (.iload 6, 2) := by decide +kernel
theorem dJ2_putCharsAt_cd4e5_72 : decode cJ2_putCharsAt_cd4e5 72 = .ok (.ireturn, 1) := by decide +kernel
theorem dJ2_charAt_3b067_0 : decode cJ2_charAt_3b067 0 = .ok (.iload_n 1, 1) := by decide +kernel
theorem dJ2_charAt_3b067_1 : decode cJ2_charAt_3b067 1 = .ok (.aload_n 0, 1) := by decide +kernel
theorem dJ2_charAt_3b067_2 : decode cJ2_charAt_3b067 2 = .ok (.invokestatic 67, 3) := by decide +kernel
theorem dJ2_charAt_3b067_5 : decode cJ2_charAt_3b067 5 = .ok (.aload_n 0, 1) := by decide +kernel
theorem dJ2_charAt_3b067_6 : decode cJ2_charAt_3b067 6 = .ok (.iload_n 1, 1) := by decide +kernel
theorem dJ2_charAt_3b067_7 : decode cJ2_charAt_3b067 7 = .ok (.invokestatic 71, 3) := by decide +kernel
theorem dJ2_charAt_3b067_10 : decode cJ2_charAt_3b067 10 = .ok (.ireturn, 1) := by decide +kernel
theorem dJ2_inflate_0e8fd_0 : decode cJ2_inflate_0e8fd 0 = .ok (.iload_n 3, 1) := by decide +kernel
theorem dJ2_inflate_0e8fd_1 : decode cJ2_inflate_0e8fd 1 = .ok (.iload 4, 2) := by decide +kernel
theorem dJ2_inflate_0e8fd_3 : decode cJ2_inflate_0e8fd 3 = .ok (.aload_n 2, 1) := by decide +kernel
theorem dJ2_inflate_0e8fd_4 : decode cJ2_inflate_0e8fd 4 = .ok (.invokestatic 173, 3) := by decide +kernel
theorem dJ2_inflate_0e8fd_7 : decode cJ2_inflate_0e8fd 7 = .ok (.iconst 0, 1) := by decide +kernel
theorem dJ2_inflate_0e8fd_8 : decode cJ2_inflate_0e8fd 8 = .ok (.istore 5, 2) := by decide +kernel
theorem dJ2_inflate_0e8fd_10 : decode cJ2_inflate_0e8fd 10 = .ok (.iload 5, 2) := by decide +kernel
theorem dJ2_inflate_0e8fd_12 : decode cJ2_inflate_0e8fd 12 = .ok (.iload 4, 2) := by decide +kernel
theorem dJ2_inflate_0e8fd_14 : decode cJ2_inflate_0e8fd 14 = .ok (.if_icmp .ge 27, 3) := by decide +kernel
theorem dJ2_inflate_0e8fd_17 : decode cJ2_inflate_0e8fd 17 = .ok (.aload_n 2, 1) := by decide +kernel
theorem dJ2_inflate_0e8fd_18 : decode cJ2_inflate_0e8fd 18 = .ok (.iload_n 3, 1) := by decide +kernel
theorem dJ2_inflate_0e8fd_19 : decode cJ2_inflate_0e8fd 19 = .ok (.iinc 3 1, 3) := by decide +kernel
theorem dJ2_inflate_0e8fd_22 : decode cJ2_inflate_0e8fd 22 = .ok (.aload_n 0, 1) := by decide +kernel
theorem dJ2_inflate_0e8fd_23 : decode cJ2_inflate_0e8fd 23 = .ok (.iload_n 1, 1) := by decide +kernel
theorem dJ2_inflate_0e8fd_24 : decode cJ2_inflate_0e8fd 24 = .ok (.iinc 1 1, 3) := by decide +kernel
theorem dJ2_inflate_0e8fd_27 : decode cJ2_inflate_0e8fd 27 = .ok (.baload, 1) := by decide +kernel
theorem dJ2_inflate_0e8fd_28 : decode cJ2_inflate_0e8fd 28 = .ok (.sipush 255, 3) := by decide +kernel
theorem dJ2_inflate_0e8fd_31 : decode cJ2_inflate_0e8fd 31 = .ok (.iand, 1) := by decide +kernel
theorem dJ2_inflate_0e8fd_32 : decode cJ2_inflate_0e8fd 32 = .ok (.invokestatic 111, 3) := by decide +kernel
theorem dJ2_inflate_0e8fd_35 : decode cJ2_inflate_0e8fd 35 = .ok (.iinc 5 1, 3) := by decide +kernel
theorem dJ2_inflate_0e8fd_38 : decode cJ2_inflate_0e8fd 38 = .ok (.goto (-28), 3) := by decide +kernel
theorem dJ2_inflate_0e8fd_41 : decode cJ2_inflate_0e8fd 41 = .ok (.return_, 1) := by decide +kernel
theorem dJ2_getChars_ba4f3_0 : decode cJ2_getChars_ba4f3 0 = .ok (.iload_n 1, 1) := by decide +kernel
theorem dJ2_getChars_ba4f3_1 : decode cJ2_getChars_ba4f3 1 = .ok (.istore 5, 2) := by decide +kernel
theorem dJ2_getChars_ba4f3_3 : decode cJ2_getChars_ba4f3 3 = .ok (.iload_n 0, 1) := by decide +kernel
theorem dJ2_getChars_ba4f3_4 : decode cJ2_getChars_ba4f3 4 = .ok (.ifCond .ge 7, 3) := by decide +kernel
theorem dJ2_getChars_ba4f3_7 : decode cJ2_getChars_ba4f3 7 = .ok (.iconst 1, 1) := by decide +kernel
theorem dJ2_getChars_ba4f3_8 : decode cJ2_getChars_ba4f3 8 = .ok (.goto 4, 3) := by decide +kernel
theorem dJ2_getChars_ba4f3_11 : decode cJ2_getChars_ba4f3 11 = .ok (.iconst 0, 1) := by decide +kernel
theorem dJ2_getChars_ba4f3_12 : decode cJ2_getChars_ba4f3 12 = .ok (.istore 6, 2) := by decide +kernel
theorem dJ2_getChars_ba4f3_14 : decode cJ2_getChars_ba4f3 14 = .ok (.iload 6, 2) := by decide +kernel
theorem dJ2_getChars_ba4f3_16 : decode cJ2_getChars_ba4f3 16 = .ok (.ifCond .ne 6, 3) := by decide +kernel
theorem dJ2_getChars_ba4f3_19 : decode cJ2_getChars_ba4f3 19 = .ok (.iload_n 0, 1) := by decide +kernel
theorem dJ2_getChars_ba4f3_20 : decode cJ2_getChars_ba4f3 20 = .ok (.ineg, 1) := by decide +kernel
theorem dJ2_getChars_ba4f3_21 : decode cJ2_getChars_ba4f3 21 = .ok (.istore_n 0, 1) := by decide +kernel
theorem dJ2_getChars_ba4f3_22 : decode cJ2_getChars_ba4f3 22 = .ok (.iload_n 0, 1) := by decide +kernel
theorem dJ2_getChars_ba4f3_23 : decode cJ2_getChars_ba4f3 23 = .ok (.bipush (-100), 2) := by decide +kernel
theorem dJ2_getChars_ba4f3_25 : decode cJ2_getChars_ba4f3 25 = .ok (.if_icmp .gt 51, 3) := by decide +kernel
theorem dJ2_getChars_ba4f3_28 : decode cJ2_getChars_ba4f3 28 = .ok (.iload_n 0, 1) := by decide +kernel
theorem dJ2_getChars_ba4f3_29 : decode cJ2_getChars_ba4f3 29 = .ok (.bipush 100, 2) := by decide +kernel
theorem dJ2_getChars_ba4f3_31 : decode cJ2_getChars_ba4f3 31 = .ok (.idiv, 1) := by decide +kernel
theorem dJ2_getChars_ba4f3_32 : decode cJ2_getChars_ba4f3 32 = .ok (.istore_n 3, 1) := by decide +kernel
theorem dJ2_getChars_ba4f3_33 : decode cJ2_getChars_ba4f3 33 = .ok (.iload_n 3, 1) := by decide +kernel
theorem dJ2_getChars_ba4f3_34 : decode cJ2_getChars_ba4f3 34 = .ok (.bipush 100, 2) := by decide +kernel
theorem dJ2_getChars_ba4f3_36 : decode cJ2_getChars_ba4f3 36 = .ok (.imul, 1) := by decide +kernel
theorem dJ2_getChars_ba4f3_37 : decode cJ2_getChars_ba4f3 37 = .ok (.iload_n 0, 1) := by decide +kernel
theorem dJ2_getChars_ba4f3_38 : decode cJ2_getChars_ba4f3 38 = .ok (.isub, 1) := by decide +kernel
theorem dJ2_getChars_ba4f3_39 : decode cJ2_getChars_ba4f3 39 = .ok (.istore 4, 2) := by decide +kernel
theorem dJ2_getChars_ba4f3_41 : decode cJ2_getChars_ba4f3 41 = .ok (.iload_n 3, 1) := by decide +kernel
theorem dJ2_getChars_ba4f3_42 : decode cJ2_getChars_ba4f3 42 = .ok (.istore_n 0, 1) := by decide +kernel
theorem dJ2_getChars_ba4f3_43 : decode cJ2_getChars_ba4f3 43 = .ok (.aload_n 2, 1) := by decide +kernel
theorem dJ2_getChars_ba4f3_44 : decode cJ2_getChars_ba4f3 44 = .ok (.iinc 5 (-1), 3) := by decide +kernel
theorem dJ2_getChars_ba4f3_47 : decode cJ2_getChars_ba4f3 47 = .ok (.iload 5, 2) := by decide +kernel
theorem dJ2_getChars_ba4f3_49 : decode cJ2_getChars_ba4f3 49 = .ok (.getstatic 403, 3) := by decide +kernel
theorem dJ2_getChars_ba4f3_52 : decode cJ2_getChars_ba4f3 52 = .ok (.iload 4, 2) := by decide +kernel
theorem dJ2_getChars_ba4f3_54 : decode cJ2_getChars_ba4f3 54 = .ok (.baload, 1) := by decide +kernel
theorem dJ2_getChars_ba4f3_55 : decode cJ2_getChars_ba4f3 55 = .ok (.invokestatic 111, 3) := by decide +kernel
theorem dJ2_getChars_ba4f3_58 : decode cJ2_getChars_ba4f3 58 = .ok (.aload_n 2, 1) := by decide +kernel
theorem dJ2_getChars_ba4f3_59 : decode cJ2_getChars_ba4f3 59 = .ok (.iinc 5 (-1), 3) := by decide +kernel
theorem dJ2_getChars_ba4f3_62 : decode cJ2_getChars_ba4f3 62 = .ok (.iload 5, 2) := by decide +kernel
theorem dJ2_getChars_ba4f3_64 : decode cJ2_getChars_ba4f3 64 = .ok (.getstatic 407, 3) := by decide +kernel
theorem dJ2_getChars_ba4f3_67 : decode cJ2_getChars_ba4f3 67 = .ok (.iload 4, 2) := by decide +kernel
theorem dJ2_getChars_ba4f3_69 : decode cJ2_getChars_ba4f3 69 = .ok (.baload, 1) := by decide +kernel
theorem dJ2_getChars_ba4f3_70 : decode cJ2_getChars_ba4f3 70 = .ok (.invokestatic 111, 3) := by decide +kernel
theorem dJ2_getChars_ba4f3_73 : decode cJ2_getChars_ba4f3 73 = .ok (.goto (-51), 3) := by decide +kernel
theorem dJ2_getChars_ba4f3_76 : decode cJ2_getChars_ba4f3 76 = .ok (.aload_n 2, 1) := by decide +kernel
theorem dJ2_getChars_ba4f3_77 : decode cJ2_getChars_ba4f3 77 = .ok (.iinc 5 (-1), 3) := by decide +kernel
theorem dJ2_getChars_ba4f3_80 : decode cJ2_getChars_ba4f3 80 = .ok (.iload 5, 2) := by decide +kernel
theorem dJ2_getChars_ba4f3_82 : decode cJ2_getChars_ba4f3 82 = .ok (.getstatic 403, 3) := by decide +kernel
theorem dJ2_getChars_ba4f3_85 : decode cJ2_getChars_ba4f3 85 = .ok (.iload_n 0, 1) := by decide +kernel
theorem dJ2_getChars_ba4f3_86 : decode cJ2_getChars_ba4f3 86 = .ok (.ineg, 1) := by decide +kernel
theorem dJ2_getChars_ba4f3_87 : decode cJ2_getChars_ba4f3 87 = .ok (.baload, 1) := by decide +kernel
theorem dJ2_getChars_ba4f3_88 : decode cJ2_getChars_ba4f3 88 = .ok (.invokestatic 111, 3) := by decide +kernel
theorem dJ2_getChars_ba4f3_91 : decode cJ2_getChars_ba4f3 91 = .ok (.iload_n 0, 1) := by decide +kernel
theorem dJ2_getChars_ba4f3_92 : decode cJ2_getChars_ba4f3 92 = .ok (.bipush (-9), 2) := by decide +kernel
theorem dJ2_getChars_ba4f3_94 : decode cJ2_getChars_ba4f3 94 = .ok (.if_icmp .ge 18, 3) := by decide +kernel
theorem dJ2_getChars_ba4f3_97 : decode cJ2_getChars_ba4f3 97 = .ok (.aload_n 2, 1) := by decide +kernel
theorem dJ2_getChars_ba4f3_98 : decode cJ2_getChars_ba4f3 98 = .ok (.iinc 5 (-1), 3) := by decide +kernel
theorem dJ2_getChars_ba4f3_101 : decode cJ2_getChars_ba4f3 101 = .ok (.iload 5, 2) := by decide +kernel
theorem dJ2_getChars_ba4f3_103 : decode cJ2_getChars_ba4f3 103 = .ok (.getstatic 407, 3) := by decide +kernel
theorem dJ2_getChars_ba4f3_106 : decode cJ2_getChars_ba4f3 106 = .ok (.iload_n 0, 1) := by decide +kernel
theorem dJ2_getChars_ba4f3_107 : decode cJ2_getChars_ba4f3 107 = .ok (.ineg, 1) := by decide +kernel
theorem dJ2_getChars_ba4f3_108 : decode cJ2_getChars_ba4f3 108 = .ok (.baload, 1) := by decide +kernel
theorem dJ2_getChars_ba4f3_109 : decode cJ2_getChars_ba4f3 109 = .ok (.invokestatic 111, 3) := by decide +kernel
theorem dJ2_getChars_ba4f3_112 : decode cJ2_getChars_ba4f3 112 = .ok (.iload 6, 2) := by decide +kernel
theorem dJ2_getChars_ba4f3_114 : decode cJ2_getChars_ba4f3 114 = .ok (.ifCond .eq 14, 3) := by decide +kernel
theorem dJ2_getChars_ba4f3_117 : decode cJ2_getChars_ba4f3 117 = .ok (.aload_n 2, 1) := by decide +kernel
theorem dJ2_getChars_ba4f3_118 : decode cJ2_getChars_ba4f3 118 = .ok (.iinc 5 (-1), 3) := by decide +kernel
theorem dJ2_getChars_ba4f3_121 : decode cJ2_getChars_ba4f3 121 = .ok (.iload 5, 2) := by decide +kernel
theorem dJ2_getChars_ba4f3_123 : decode cJ2_getChars_ba4f3 123 = .ok (.bipush 45, 2) := by decide +kernel
theorem dJ2_getChars_ba4f3_125 : decode cJ2_getChars_ba4f3 125 = .ok (.invokestatic 111, 3) := by decide +kernel
theorem dJ2_getChars_ba4f3_128 : decode cJ2_getChars_ba4f3 128 = .ok (.iload 5, 2) := by decide +kernel
theorem dJ2_getChars_ba4f3_130 : decode cJ2_getChars_ba4f3 130 = .ok (.ireturn, 1) := by decide +kernel
theorem dJ2_checkIndex_2214a_0 : decode cJ2_checkIndex_2214a 0 = .ok (.iload_n 0, 1) := by decide +kernel
theorem dJ2_checkIndex_2214a_1 : decode cJ2_checkIndex_2214a 1 = .ok (.aload_n 1, 1) := by decide +kernel
theorem dJ2_checkIndex_2214a_2 : decode cJ2_checkIndex_2214a 2 = .ok (.invokestatic 48, 3) := by decide +kernel
theorem dJ2_checkIndex_2214a_5 : decode cJ2_checkIndex_2214a 5 = .ok (.invokestatic 414, 3) := by decide +kernel
theorem dJ2_checkIndex_2214a_8 : decode cJ2_checkIndex_2214a 8 = .ok (.return_, 1) := by decide +kernel
theorem dJ2_checkBoundsBeginEnd_d044e_0 : decode cJ2_checkBoundsBeginEnd_d044e 0 = .ok (.iload_n 0, 1) := by decide +kernel
theorem dJ2_checkBoundsBeginEnd_d044e_1 : decode cJ2_checkBoundsBeginEnd_d044e 1 = .ok (.iload_n 1, 1) := by decide +kernel
theorem dJ2_checkBoundsBeginEnd_d044e_2 : decode cJ2_checkBoundsBeginEnd_d044e 2 = .ok (.aload_n 2, 1) := by decide +kernel
theorem dJ2_checkBoundsBeginEnd_d044e_3 : decode cJ2_checkBoundsBeginEnd_d044e 3 = .ok (.invokestatic 48, 3) := by decide +kernel
theorem dJ2_checkBoundsBeginEnd_d044e_6 : decode cJ2_checkBoundsBeginEnd_d044e 6 = .ok (.invokestatic 241, 3) := by decide +kernel
theorem dJ2_checkBoundsBeginEnd_d044e_9 : decode cJ2_checkBoundsBeginEnd_d044e 9 = .ok (.return_, 1) := by decide +kernel
theorem dJ2_checkBoundsOffCount_d044e_0 : decode cJ2_checkBoundsOffCount_d044e 0 = .ok (.iload_n 0, 1) := by decide +kernel
theorem dJ2_checkBoundsOffCount_d044e_1 : decode cJ2_checkBoundsOffCount_d044e 1 = .ok (.iload_n 1, 1) := by decide +kernel
theorem dJ2_checkBoundsOffCount_d044e_2 : decode cJ2_checkBoundsOffCount_d044e 2 = .ok (.aload_n 2, 1) := by decide +kernel
theorem dJ2_checkBoundsOffCount_d044e_3 : decode cJ2_checkBoundsOffCount_d044e 3 = .ok (.invokestatic 48, 3) := by decide +kernel
theorem dJ2_checkBoundsOffCount_d044e_6 : decode cJ2_checkBoundsOffCount_d044e 6 = .ok (.invokestatic 419, 3) := by decide +kernel
theorem dJ2_checkBoundsOffCount_d044e_9 : decode cJ2_checkBoundsOffCount_d044e 9 = .ok (.pop, 1) := by decide +kernel
theorem dJ2_checkBoundsOffCount_d044e_10 : decode cJ2_checkBoundsOffCount_d044e 10 = .ok (.return_, 1) := by decide +kernel
theorem dJ7_rangeCheck_23922_0 : decode cJ7_rangeCheck_23922 0 = .ok (.iload_n 1, 1) := by decide +kernel
theorem dJ7_rangeCheck_23922_1 : decode cJ7_rangeCheck_23922 1 = .ok (.iload_n 2, 1) := by decide +kernel
theorem dJ7_rangeCheck_23922_2 : decode cJ7_rangeCheck_23922 2 = .ok (.if_icmp .le 44, 3) := by decide +kernel
theorem dJ7_rangeCheck_23922_5 : decode cJ7_rangeCheck_23922 5 = .ok (.new 43, 3) := by decide +kernel
theorem dJ7_rangeCheck_23922_8 : decode cJ7_rangeCheck_23922 8 = .ok (.dup, 1) := by decide +kernel
theorem dJ7_rangeCheck_23922_9 : decode cJ7_rangeCheck_23922 9 = .ok (.new 45, 3) := by decide +kernel
theorem dJ7_rangeCheck_23922_12 : decode cJ7_rangeCheck_23922 12 = .ok (.dup, 1) := by decide +kernel
theorem dJ7_rangeCheck_23922_13 : decode cJ7_rangeCheck_23922 13 = .ok (.invokespecial 47, 3) := by decide +kernel
theorem dJ7_rangeCheck_23922_16 : decode cJ7_rangeCheck_23922 16 = .ok (.ldc 48, 2) := by decide +kernel
theorem dJ7_rangeCheck_23922_18 : decode cJ7_rangeCheck_23922 18 = .ok (.invokevirtual 50, 3) := by decide +kernel
theorem dJ7_rangeCheck_23922_21 : decode cJ7_rangeCheck_23922 21 = .ok (.iload_n 1, 1) := by decide +kernel
theorem dJ7_rangeCheck_23922_22 : decode cJ7_rangeCheck_23922 22 = .ok (.invokevirtual 54, 3) := by decide +kernel
theorem dJ7_rangeCheck_23922_25 : decode cJ7_rangeCheck_23922 25 = .ok (.ldc 57, 2) := by decide +kernel
theorem dJ7_rangeCheck_23922_27 : decode cJ7_rangeCheck_23922 27 = .ok (.invokevirtual 50, 3) := by decide +kernel
theorem dJ7_rangeCheck_23922_30 : decode cJ7_rangeCheck_23922 30 = .ok (.iload_n 2, 1) := by decide +kernel
theorem dJ7_rangeCheck_23922_31 : decode cJ7_rangeCheck_23922 31 = .ok (.invokevirtual 54, 3) := by decide +kernel
theorem dJ7_rangeCheck_23922_34 : decode cJ7_rangeCheck_23922 34 = .ok (.ldc 59, 2) := by decide +kernel
theorem dJ7_rangeCheck_23922_36 : decode cJ7_rangeCheck_23922 36 = .ok (.invokevirtual 50, 3) := by decide +kernel
theorem dJ7_rangeCheck_23922_39 : decode cJ7_rangeCheck_23922 39 = .ok (.invokevirtual 61, 3) := by decide +kernel
theorem dJ7_rangeCheck_23922_42 : decode cJ7_rangeCheck_23922 42 = .ok (.invokespecial 65, 3) := by decide +kernel
theorem dJ7_rangeCheck_23922_45 : decode cJ7_rangeCheck_23922 45 = .ok (.athrow, 1) := by decide +kernel
theorem dJ7_rangeCheck_23922_46 : decode cJ7_rangeCheck_23922 46 = .ok (.iload_n 1, 1) := by decide +kernel
theorem dJ7_rangeCheck_23922_47 : decode cJ7_rangeCheck_23922 47 = .ok (.ifCond .ge 12, 3) := by decide +kernel
theorem dJ7_rangeCheck_23922_50 : decode cJ7_rangeCheck_23922 50 = .ok (.new 68, 3) := by decide +kernel
theorem dJ7_rangeCheck_23922_53 : decode cJ7_rangeCheck_23922 53 = .ok (.dup, 1) := by decide +kernel
theorem dJ7_rangeCheck_23922_54 : decode cJ7_rangeCheck_23922 54 = .ok (.iload_n 1, 1) := by decide +kernel
theorem dJ7_rangeCheck_23922_55 : decode cJ7_rangeCheck_23922 55 = .ok (.invokespecial 70, 3) := by decide +kernel
theorem dJ7_rangeCheck_23922_58 : decode cJ7_rangeCheck_23922 58 = .ok (.athrow, 1) := by decide +kernel
theorem dJ7_rangeCheck_23922_59 : decode cJ7_rangeCheck_23922 59 = .ok (.iload_n 2, 1) := by decide +kernel
theorem dJ7_rangeCheck_23922_60 : decode cJ7_rangeCheck_23922 60 = .ok (.iload_n 0, 1) := by decide +kernel
theorem dJ7_rangeCheck_23922_61 : decode cJ7_rangeCheck_23922 61 = .ok (.if_icmp .le 12, 3) := by decide +kernel
theorem dJ7_rangeCheck_23922_64 : decode cJ7_rangeCheck_23922 64 = .ok (.new 68, 3) := by decide +kernel
theorem dJ7_rangeCheck_23922_67 : decode cJ7_rangeCheck_23922 67 = .ok (.dup, 1) := by decide +kernel
theorem dJ7_rangeCheck_23922_68 : decode cJ7_rangeCheck_23922 68 = .ok (.iload_n 2, 1) := by decide +kernel
theorem dJ7_rangeCheck_23922_69 : decode cJ7_rangeCheck_23922 69 = .ok (.invokespecial 70, 3) := by decide +kernel
theorem dJ7_rangeCheck_23922_72 : decode cJ7_rangeCheck_23922 72 = .ok (.athrow, 1) := by decide +kernel
theorem dJ7_rangeCheck_23922_73 : decode cJ7_rangeCheck_23922 73 = .ok (.return_, 1) := by decide +kernel
theorem dJ7_fill_53178_0 : decode cJ7_fill_53178 0 = .ok (.iconst 0, 1) := by decide +kernel
theorem dJ7_fill_53178_1 : decode cJ7_fill_53178 1 = .ok (.istore_n 2, 1) := by decide +kernel
theorem dJ7_fill_53178_2 : decode cJ7_fill_53178 2 = .ok (.aload_n 0, 1) := by decide +kernel
theorem dJ7_fill_53178_3 : decode cJ7_fill_53178 3 = .ok (.arraylength, 1) := by decide +kernel
theorem dJ7_fill_53178_4 : decode cJ7_fill_53178 4 = .ok (.istore_n 3, 1) := by decide +kernel
theorem dJ7_fill_53178_5 : decode cJ7_fill_53178 5 = .ok (.iload_n 2, 1) := by decide +kernel
theorem dJ7_fill_53178_6 : decode cJ7_fill_53178 6 = .ok (.iload_n 3, 1) := by decide +kernel
theorem dJ7_fill_53178_7 : decode cJ7_fill_53178 7 = .ok (.if_icmp .ge 13, 3) := by decide +kernel
theorem dJ7_fill_53178_10 : decode cJ7_fill_53178 10 = .ok (.aload_n 0, 1) := by decide +kernel
theorem dJ7_fill_53178_11 : decode cJ7_fill_53178 11 = .ok (.iload_n 2, 1) := by decide +kernel
theorem dJ7_fill_53178_12 : decode cJ7_fill_53178 12 = .ok (.iload_n 1, 1) := by decide +kernel
theorem dJ7_fill_53178_13 : decode cJ7_fill_53178 13 = .ok (.iastore, 1) := by decide +kernel
theorem dJ7_fill_53178_14 : decode cJ7_fill_53178 14 = .ok (.iinc 2 1, 3) := by decide +kernel
theorem dJ7_fill_53178_17 : decode cJ7_fill_53178 17 = .ok (.goto (-12), 3) := by decide +kernel
theorem dJ7_fill_53178_20 : decode cJ7_fill_53178 20 = .ok (.return_, 1) := by decide +kernel
theorem dJ7_fill_eb02e_0 : decode cJ7_fill_eb02e 0 = .ok (.aload_n 0, 1) := by decide +kernel
theorem dJ7_fill_eb02e_1 : decode cJ7_fill_eb02e 1 = .ok (.arraylength, 1) := by decide +kernel
theorem dJ7_fill_eb02e_2 : decode cJ7_fill_eb02e 2 = .ok (.iload_n 1, 1) := by decide +kernel
theorem dJ7_fill_eb02e_3 : decode cJ7_fill_eb02e 3 = .ok (.iload_n 2, 1) := by decide +kernel
theorem dJ7_fill_eb02e_4 : decode cJ7_fill_eb02e 4 = .ok (.invokestatic 13, 3) := by decide +kernel
theorem dJ7_fill_eb02e_7 : decode cJ7_fill_eb02e 7 = .ok (.iload_n 1, 1) := by decide +kernel
theorem dJ7_fill_eb02e_8 : decode cJ7_fill_eb02e 8 = .ok (.istore 4, 2) := by decide +kernel
theorem dJ7_fill_eb02e_10 : decode cJ7_fill_eb02e 10 = .ok (.iload 4, 2) := by decide +kernel
theorem dJ7_fill_eb02e_12 : decode cJ7_fill_eb02e 12 = .ok (.iload_n 2, 1) := by decide +kernel
theorem dJ7_fill_eb02e_13 : decode cJ7_fill_eb02e 13 = .ok (.if_icmp .ge 14, 3) := by decide +kernel
theorem dJ7_fill_eb02e_16 : decode cJ7_fill_eb02e 16 = .ok (.aload_n 0, 1) := by decide +kernel
theorem dJ7_fill_eb02e_17 : decode cJ7_fill_eb02e 17 = .ok (.iload 4, 2) := by decide +kernel
theorem dJ7_fill_eb02e_19 : decode cJ7_fill_eb02e 19 = .ok (.iload_n 3, 1) := by decide +kernel
theorem dJ7_fill_eb02e_20 : decode cJ7_fill_eb02e 20 = .ok (.bastore, 1) := by decide +kernel
theorem dJ7_fill_eb02e_21 : decode cJ7_fill_eb02e 21 = .ok (.iinc 4 1, 3) := by decide +kernel
theorem dJ7_fill_eb02e_24 : decode cJ7_fill_eb02e 24 = .ok (.goto (-14), 3) := by decide +kernel
theorem dJ7_fill_eb02e_27 : decode cJ7_fill_eb02e 27 = .ok (.return_, 1) := by decide +kernel
theorem dJ7_copyOf_9075b_0 : decode cJ7_copyOf_9075b 0 = .ok (.iload_n 1, 1) := by decide +kernel
theorem dJ7_copyOf_9075b_1 : decode cJ7_copyOf_9075b 1 = .ok (.aload_n 0, 1) := by decide +kernel
theorem dJ7_copyOf_9075b_2 : decode cJ7_copyOf_9075b 2 = .ok (.arraylength, 1) := by decide +kernel
theorem dJ7_copyOf_9075b_3 : decode cJ7_copyOf_9075b 3 = .ok (.if_icmp .ne 11, 3) := by decide +kernel
theorem dJ7_copyOf_9075b_6 : decode cJ7_copyOf_9075b 6 = .ok (.aload_n 0, 1) := by decide +kernel
theorem dJ7_copyOf_9075b_7 : decode cJ7_copyOf_9075b 7 = .ok (.invokevirtual 310, 3) := by decide +kernel
theorem dJ7_copyOf_9075b_10 : decode cJ7_copyOf_9075b 10 = .ok (.checkcast 311, 3) := by decide +kernel
theorem dJ7_copyOf_9075b_13 : decode cJ7_copyOf_9075b 13 = .ok (.areturn, 1) := by decide +kernel
theorem dJ7_copyOf_9075b_14 : decode cJ7_copyOf_9075b 14 = .ok (.iload_n 1, 1) := by decide +kernel
theorem dJ7_copyOf_9075b_15 : decode cJ7_copyOf_9075b 15 = .ok (.newarray .byte, 2) := by decide +kernel
theorem dJ7_copyOf_9075b_17 : decode cJ7_copyOf_9075b 17 = .ok (.astore_n 2, 1) := by decide +kernel
theorem dJ7_copyOf_9075b_18 : decode cJ7_copyOf_9075b 18 = .ok (.aload_n 0, 1) := by decide +kernel
theorem dJ7_copyOf_9075b_19 : decode cJ7_copyOf_9075b 19 = .ok (.iconst 0, 1) := by decide +kernel
theorem dJ7_copyOf_9075b_20 : decode cJ7_copyOf_9075b 20 = .ok (.aload_n 2, 1) := by decide +kernel
theorem dJ7_copyOf_9075b_21 : decode cJ7_copyOf_9075b 21 = .ok (.iconst 0, 1) := by decide +kernel
theorem dJ7_copyOf_9075b_22 : decode cJ7_copyOf_9075b 22 = .ok (.aload_n 0, 1) := by decide +kernel
theorem dJ7_copyOf_9075b_23 : decode cJ7_copyOf_9075b 23 = .ok (.arraylength, 1) := by decide +kernel
theorem dJ7_copyOf_9075b_24 : decode cJ7_copyOf_9075b 24 = .ok (.iload_n 1, 1) := by decide +kernel
theorem dJ7_copyOf_9075b_25 : decode cJ7_copyOf_9075b 25 = .ok (.invokestatic 304, 3) := by decide +kernel
theorem dJ7_copyOf_9075b_28 : decode cJ7_copyOf_9075b 28 = .ok (.invokestatic 150, 3) := by decide +kernel
theorem dJ7_copyOf_9075b_31 : decode cJ7_copyOf_9075b 31 = .ok (.aload_n 2, 1) := by decide +kernel
theorem dJ7_copyOf_9075b_32 : decode cJ7_copyOf_9075b 32 = .ok (.areturn, 1) := by decide +kernel
theorem dJ7_checkLength_df160_0 : decode cJ7_checkLength_df160 0 = .ok (.iload_n 1, 1) := by decide +kernel
theorem dJ7_checkLength_df160_1 : decode cJ7_checkLength_df160 1 = .ok (.iload_n 0, 1) := by decide +kernel
theorem dJ7_checkLength_df160_2 : decode cJ7_checkLength_df160 2 = .ok (.if_icmp .ge 35, 3) := by decide +kernel
theorem dJ7_checkLength_df160_5 : decode cJ7_checkLength_df160 5 = .ok (.new 43, 3) := by decide +kernel
theorem dJ7_checkLength_df160_8 : decode cJ7_checkLength_df160 8 = .ok (.dup, 1) := by decide +kernel
theorem dJ7_checkLength_df160_9 : decode cJ7_checkLength_df160 9 = .ok (.new 45, 3) := by decide +kernel
theorem dJ7_checkLength_df160_12 : decode cJ7_checkLength_df160 12 = .ok (.dup, 1) := by decide +kernel
theorem dJ7_checkLength_df160_13 : decode cJ7_checkLength_df160 13 = .ok (.invokespecial 47, 3) := by decide +kernel
theorem dJ7_checkLength_df160_16 : decode cJ7_checkLength_df160 16 = .ok (.iload_n 0, 1) := by decide +kernel
theorem dJ7_checkLength_df160_17 : decode cJ7_checkLength_df160 17 = .ok (.invokevirtual 54, 3) := by decide +kernel
theorem dJ7_checkLength_df160_20 : decode cJ7_checkLength_df160 20 = .ok (.ldc_w 337, 3) := by decide +kernel
theorem dJ7_checkLength_df160_23 : decode cJ7_checkLength_df160 23 = .ok (.invokevirtual 50, 3) := by decide +kernel
theorem dJ7_checkLength_df160_26 : decode cJ7_checkLength_df160 26 = .ok (.iload_n 1, 1) := by decide +kernel
theorem dJ7_checkLength_df160_27 : decode cJ7_checkLength_df160 27 = .ok (.invokevirtual 54, 3) := by decide +kernel
theorem dJ7_checkLength_df160_30 : decode cJ7_checkLength_df160 30 = .ok (.invokevirtual 61, 3) := by decide +kernel
theorem dJ7_checkLength_df160_33 : decode cJ7_checkLength_df160 33 = .ok (.invokespecial 65, 3) := by decide +kernel
theorem dJ7_checkLength_df160_36 : decode cJ7_checkLength_df160 36 = .ok (.athrow, 1) := by decide +kernel
theorem dJ7_checkLength_df160_37 : decode cJ7_checkLength_df160 37 = .ok (.return_, 1) := by decide +kernel
theorem dJ7_copyOfRange_39247_0 : decode cJ7_copyOfRange_39247 0 = .ok (.iload_n 1, 1) := by decide +kernel
theorem dJ7_copyOfRange_39247_1 : decode cJ7_copyOfRange_39247 1 = .ok (.ifCond .ne 9, 3) := by decide +kernel
theorem dJ7_copyOfRange_39247_4 : decode cJ7_copyOfRange_39247 4 = .ok (.iload_n 2, 1) := by decide +kernel
theorem dJ7_copyOfRange_39247_5 : decode cJ7_copyOfRange_39247 5 = .ok (.aload_n 0, 1) := by decide +kernel
theorem dJ7_copyOfRange_39247_6 : decode cJ7_copyOfRange_39247 6 = .ok (.arraylength, 1) := by decide +kernel
theorem dJ7_copyOfRange_39247_7 : decode cJ7_copyOfRange_39247 7 = .ok (.if_icmp .eq 10, 3) := by decide +kernel
theorem dJ7_copyOfRange_39247_10 : decode cJ7_copyOfRange_39247 10 = .ok (.aload_n 0, 1) := by decide +kernel
theorem dJ7_copyOfRange_39247_11 : decode cJ7_copyOfRange_39247 11 = .ok (.iload_n 1, 1) := by decide +kernel
theorem dJ7_copyOfRange_39247_12 : decode cJ7_copyOfRange_39247 12 = .ok (.iload_n 2, 1) := by decide +kernel
theorem dJ7_copyOfRange_39247_13 : decode cJ7_copyOfRange_39247 13 = .ok (.invokestatic 339, 3) := by decide +kernel
theorem dJ7_copyOfRange_39247_16 : decode cJ7_copyOfRange_39247 16 = .ok (.areturn, 1) := by decide +kernel
theorem dJ7_copyOfRange_39247_17 : decode cJ7_copyOfRange_39247 17 = .ok (.aload_n 0, 1) := by decide +kernel
theorem dJ7_copyOfRange_39247_18 : decode cJ7_copyOfRange_39247 18 = .ok (.invokevirtual 310, 3) := by decide +kernel
theorem dJ7_copyOfRange_39247_21 : decode cJ7_copyOfRange_39247 21 = .ok (.checkcast 311, 3) := by decide +kernel
theorem dJ7_copyOfRange_39247_24 : decode cJ7_copyOfRange_39247 24 = .ok (.areturn, 1) := by decide +kernel
theorem dJ7_copyOfRangeByte_39247_0 : decode cJ7_copyOfRangeByte_39247 0 = .ok (.iload_n 1, 1) := by decide +kernel
theorem dJ7_copyOfRangeByte_39247_1 : decode cJ7_copyOfRangeByte_39247 1 = .ok (.iload_n 2, 1) := by decide +kernel
theorem dJ7_copyOfRangeByte_39247_2 : decode cJ7_copyOfRangeByte_39247 2 = .ok (.invokestatic 343, 3) := by decide +kernel
theorem dJ7_copyOfRangeByte_39247_5 : decode cJ7_copyOfRangeByte_39247 5 = .ok (.iload_n 2, 1) := by decide +kernel
theorem dJ7_copyOfRangeByte_39247_6 : decode cJ7_copyOfRangeByte_39247 6 = .ok (.iload_n 1, 1) := by decide +kernel
theorem dJ7_copyOfRangeByte_39247_7 : decode cJ7_copyOfRangeByte_39247 7 = .ok (.isub, 1) := by decide +kernel
theorem dJ7_copyOfRangeByte_39247_8 : decode cJ7_copyOfRangeByte_39247 8 = .ok (.istore_n 3, 1) := by decide +kernel
theorem dJ7_copyOfRangeByte_39247_9 : decode cJ7_copyOfRangeByte_39247 9 = .ok (.iload_n 3, 1) := by decide +kernel
theorem dJ7_copyOfRangeByte_39247_10 : decode cJ7_copyOfRangeByte_39247 10 = .ok (.newarray .byte, 2) := by decide +kernel
theorem dJ7_copyOfRangeByte_39247_12 : decode cJ7_copyOfRangeByte_39247 12 = .ok (.astore 4, 2) := by decide +kernel
theorem dJ7_copyOfRangeByte_39247_14 : decode cJ7_copyOfRangeByte_39247 14 = .ok (.aload_n 0, 1) := by decide +kernel
theorem dJ7_copyOfRangeByte_39247_15 : decode cJ7_copyOfRangeByte_39247 15 = .ok (.iload_n 1, 1) := by decide +kernel
theorem dJ7_copyOfRangeByte_39247_16 : decode cJ7_copyOfRangeByte_39247 16 = .ok (.aload 4, 2) := by decide +kernel
theorem dJ7_copyOfRangeByte_39247_18 : decode cJ7_copyOfRangeByte_39247 18 = .ok (.iconst 0, 1) := by decide +kernel
theorem dJ7_copyOfRangeByte_39247_19 : decode cJ7_copyOfRangeByte_39247 19 = .ok (.aload_n 0, 1) := by decide +kernel
theorem dJ7_copyOfRangeByte_39247_20 : decode cJ7_copyOfRangeByte_39247 20 = .ok (.arraylength, 1) := by decide +kernel
theorem dJ7_copyOfRangeByte_39247_21 : decode cJ7_copyOfRangeByte_39247 21 = .ok (.iload_n 1, 1) := by decide +kernel
theorem dJ7_copyOfRangeByte_39247_22 : decode cJ7_copyOfRangeByte_39247 22 = .ok (.isub, 1) := by decide +kernel
theorem dJ7_copyOfRangeByte_39247_23 : decode cJ7_copyOfRangeByte_39247 23 = .ok (.iload_n 3, 1) := by decide +kernel
theorem dJ7_copyOfRangeByte_39247_24 : decode cJ7_copyOfRangeByte_39247 24 = .ok (.invokestatic 304, 3) := by decide +kernel
theorem dJ7_copyOfRangeByte_39247_27 : decode cJ7_copyOfRangeByte_39247 27 = .ok (.invokestatic 150, 3) := by decide +kernel
theorem dJ7_copyOfRangeByte_39247_30 : decode cJ7_copyOfRangeByte_39247 30 = .ok (.aload 4, 2) := by decide +kernel
theorem dJ7_copyOfRangeByte_39247_32 : decode cJ7_copyOfRangeByte_39247 32 = .ok (.areturn, 1) := by decide +kernel
theorem dJ8_newLength_cabcc_0 : decode cJ8_newLength_cabcc 0 = .ok (.iload_n 0, 1) := by decide +kernel
theorem dJ8_newLength_cabcc_1 : decode cJ8_newLength_cabcc 1 = .ok (.iload_n 1, 1) := by decide +kernel
theorem dJ8_newLength_cabcc_2 : decode cJ8_newLength_cabcc 2 = .ok (.iload_n 2, 1) := by decide +kernel
theorem dJ8_newLength_cabcc_3 : decode cJ8_newLength_cabcc 3 = .ok (.invokestatic 194, 3) := by decide +kernel
theorem dJ8_newLength_cabcc_6 : decode cJ8_newLength_cabcc 6 = .ok (.iadd, 1) := by decide +kernel
theorem dJ8_newLength_cabcc_7 : decode cJ8_newLength_cabcc 7 = .ok (.istore_n 3, 1) := by decide +kernel
theorem dJ8_newLength_cabcc_8 : decode cJ8_newLength_cabcc 8 = .ok (.iconst 0, 1) := by decide +kernel
theorem dJ8_newLength_cabcc_9 : decode cJ8_newLength_cabcc 9 = .ok (.iload_n 3, 1) := by decide +kernel
theorem dJ8_newLength_cabcc_10 : decode cJ8_newLength_cabcc 10 = .ok (.if_icmp .ge 11, 3) := by decide +kernel
theorem dJ8_newLength_cabcc_13 : decode cJ8_newLength_cabcc 13 = .ok (.iload_n 3, 1) := by decide +kernel
theorem dJ8_newLength_cabcc_14 : decode cJ8_newLength_cabcc 14 = .ok (.ldc 200, 2) := by decide +kernel
theorem dJ8_newLength_cabcc_16 : decode cJ8_newLength_cabcc 16 = .ok (.if_icmp .gt 5, 3) := by decide +kernel
theorem dJ8_newLength_cabcc_19 : decode cJ8_newLength_cabcc 19 = .ok (.iload_n 3, 1) := by decide +kernel
theorem dJ8_newLength_cabcc_20 : decode cJ8_newLength_cabcc 20 = .ok (.ireturn, 1) := by decide +kernel
theorem dJ8_newLength_cabcc_21 : decode cJ8_newLength_cabcc 21 = .ok (.iload_n 0, 1) := by decide +kernel
theorem dJ8_newLength_cabcc_22 : decode cJ8_newLength_cabcc 22 = .ok (.iload_n 1, 1) := by decide +kernel
theorem dJ8_newLength_cabcc_23 : decode cJ8_newLength_cabcc 23 = .ok (.invokestatic 201, 3) := by decide +kernel
theorem dJ8_newLength_cabcc_26 : decode cJ8_newLength_cabcc 26 = .ok (.ireturn, 1) := by decide +kernel
theorem dJ8_hugeLength_7cf53_0 : decode cJ8_hugeLength_7cf53 0 = .ok (.iload_n 0, 1) := by decide +kernel
theorem dJ8_hugeLength_7cf53_1 : decode cJ8_hugeLength_7cf53 1 = .ok (.iload_n 1, 1) := by decide +kernel
theorem dJ8_hugeLength_7cf53_2 : decode cJ8_hugeLength_7cf53 2 = .ok (.iadd, 1) := by decide +kernel
theorem dJ8_hugeLength_7cf53_3 : decode cJ8_hugeLength_7cf53 3 = .ok (.istore_n 2, 1) := by decide +kernel
theorem dJ8_hugeLength_7cf53_4 : decode cJ8_hugeLength_7cf53 4 = .ok (.iload_n 2, 1) := by decide +kernel
theorem dJ8_hugeLength_7cf53_5 : decode cJ8_hugeLength_7cf53 5 = .ok (.ifCond .ge 44, 3) := by decide +kernel
theorem dJ8_hugeLength_7cf53_8 : decode cJ8_hugeLength_7cf53 8 = .ok (.new 204, 3) := by decide +kernel
theorem dJ8_hugeLength_7cf53_11 : decode cJ8_hugeLength_7cf53 11 = .ok (.dup, 1) := by decide +kernel
theorem dJ8_hugeLength_7cf53_12 : decode cJ8_hugeLength_7cf53 12 = .ok (.new 89, 3) := by decide +kernel
theorem dJ8_hugeLength_7cf53_15 : decode cJ8_hugeLength_7cf53 15 = .ok (.dup, 1) := by decide +kernel
theorem dJ8_hugeLength_7cf53_16 : decode cJ8_hugeLength_7cf53 16 = .ok (.invokespecial 91, 3) := by decide +kernel
theorem dJ8_hugeLength_7cf53_19 : decode cJ8_hugeLength_7cf53 19 = .ok (.ldc 206, 2) := by decide +kernel
theorem dJ8_hugeLength_7cf53_21 : decode cJ8_hugeLength_7cf53 21 = .ok (.invokevirtual 94, 3) := by decide +kernel
theorem dJ8_hugeLength_7cf53_24 : decode cJ8_hugeLength_7cf53 24 = .ok (.iload_n 0, 1) := by decide +kernel
theorem dJ8_hugeLength_7cf53_25 : decode cJ8_hugeLength_7cf53 25 = .ok (.invokevirtual 98, 3) := by decide +kernel
theorem dJ8_hugeLength_7cf53_28 : decode cJ8_hugeLength_7cf53 28 = .ok (.ldc 208, 2) := by decide +kernel
theorem dJ8_hugeLength_7cf53_30 : decode cJ8_hugeLength_7cf53 30 = .ok (.invokevirtual 94, 3) := by decide +kernel
theorem dJ8_hugeLength_7cf53_33 : decode cJ8_hugeLength_7cf53 33 = .ok (.iload_n 1, 1) := by decide +kernel
theorem dJ8_hugeLength_7cf53_34 : decode cJ8_hugeLength_7cf53 34 = .ok (.invokevirtual 98, 3) := by decide +kernel
theorem dJ8_hugeLength_7cf53_37 : decode cJ8_hugeLength_7cf53 37 = .ok (.ldc 210, 2) := by decide +kernel
theorem dJ8_hugeLength_7cf53_39 : decode cJ8_hugeLength_7cf53 39 = .ok (.invokevirtual 94, 3) := by decide +kernel
theorem dJ8_hugeLength_7cf53_42 : decode cJ8_hugeLength_7cf53 42 = .ok (.invokevirtual 101, 3) := by decide +kernel
theorem dJ8_hugeLength_7cf53_45 : decode cJ8_hugeLength_7cf53 45 = .ok (.invokespecial 212, 3) := by decide +kernel
theorem dJ8_hugeLength_7cf53_48 : decode cJ8_hugeLength_7cf53 48 = .ok (.athrow, 1) := by decide +kernel
theorem dJ8_hugeLength_7cf53_49 : decode cJ8_hugeLength_7cf53 49 = .ok (.iload_n 2, 1) := by decide +kernel
theorem dJ8_hugeLength_7cf53_50 : decode cJ8_hugeLength_7cf53 50 = .ok (.ldc 200, 2) := by decide +kernel
theorem dJ8_hugeLength_7cf53_52 : decode cJ8_hugeLength_7cf53 52 = .ok (.if_icmp .gt 6, 3) := by decide +kernel
theorem dJ8_hugeLength_7cf53_55 : decode cJ8_hugeLength_7cf53 55 = .ok (.ldc 200, 2) := by decide +kernel
theorem dJ8_hugeLength_7cf53_57 : decode cJ8_hugeLength_7cf53 57 = .ok (.ireturn, 1) := by decide +kernel
theorem dJ8_hugeLength_7cf53_58 : decode cJ8_hugeLength_7cf53 58 = .ok (.iload_n 2, 1) := by decide +kernel
theorem dJ8_hugeLength_7cf53_59 : decode cJ8_hugeLength_7cf53 59 = .ok (.ireturn, 1) := by decide +kernel
theorem dJ3_checkIndex_8e157_0 : decode cJ3_checkIndex_8e157 0 = .ok (.iload_n 0, 1) := by decide +kernel
theorem dJ3_checkIndex_8e157_1 : decode cJ3_checkIndex_8e157 1 = .ok (.ifCond .lt 8, 3) := by decide +kernel
theorem dJ3_checkIndex_8e157_4 : decode cJ3_checkIndex_8e157 4 = .ok (.iload_n 0, 1) := by decide +kernel
theorem dJ3_checkIndex_8e157_5 : decode cJ3_checkIndex_8e157 5 = .ok (.iload_n 1, 1) := by decide +kernel
theorem dJ3_checkIndex_8e157_6 : decode cJ3_checkIndex_8e157 6 = .ok (.if_icmp .lt 10, 3) := by decide +kernel
theorem dJ3_checkIndex_8e157_9 : decode cJ3_checkIndex_8e157 9 = .ok (.aload_n 2, 1) := by decide +kernel
theorem dJ3_checkIndex_8e157_10 : decode cJ3_checkIndex_8e157 10 = .ok (.iload_n 0, 1) := by decide +kernel
theorem dJ3_checkIndex_8e157_11 : decode cJ3_checkIndex_8e157 11 = .ok (.iload_n 1, 1) := by decide +kernel
theorem dJ3_checkIndex_8e157_12 : decode cJ3_checkIndex_8e157 12 = .ok (.invokestatic 95, 3) := by decide +kernel
theorem dJ3_checkIndex_8e157_15 : decode cJ3_checkIndex_8e157 15 = .ok (.athrow, 1) := by decide +kernel
theorem dJ3_checkIndex_8e157_16 : decode cJ3_checkIndex_8e157 16 = .ok (.iload_n 0, 1) := by decide +kernel
theorem dJ3_checkIndex_8e157_17 : decode cJ3_checkIndex_8e157 17 = .ok (.ireturn, 1) := by decide +kernel
theorem dJ3_checkFromToIndex_8c36e_0 : decode cJ3_checkFromToIndex_8c36e 0 = .ok (.iload_n 0, 1) := by decide +kernel
theorem dJ3_checkFromToIndex_8c36e_1 : decode cJ3_checkFromToIndex_8c36e 1 = .ok (.ifCond .lt 13, 3) := by decide +kernel
theorem dJ3_checkFromToIndex_8c36e_4 : decode cJ3_checkFromToIndex_8c36e 4 = .ok (.iload_n 0, 1) := by decide +kernel
theorem dJ3_checkFromToIndex_8c36e_5 : decode cJ3_checkFromToIndex_8c36e 5 = .ok (.iload_n 1, 1) := by decide +kernel
theorem dJ3_checkFromToIndex_8c36e_6 : decode cJ3_checkFromToIndex_8c36e 6 = .ok (.if_icmp .gt 8, 3) := by decide +kernel
theorem dJ3_checkFromToIndex_8c36e_9 : decode cJ3_checkFromToIndex_8c36e 9 = .ok (.iload_n 1, 1) := by decide +kernel
theorem dJ3_checkFromToIndex_8c36e_10 : decode cJ3_checkFromToIndex_8c36e 10 = .ok (.iload_n 2, 1) := by decide +kernel
theorem dJ3_checkFromToIndex_8c36e_11 : decode cJ3_checkFromToIndex_8c36e 11 = .ok (.if_icmp .le 11, 3) := by decide +kernel
theorem dJ3_checkFromToIndex_8c36e_14 : decode cJ3_checkFromToIndex_8c36e 14 = .ok (.aload_n 3, 1) := by decide +kernel
theorem dJ3_checkFromToIndex_8c36e_15 : decode cJ3_checkFromToIndex_8c36e 15 = .ok (.iload_n 0, 1) := by decide +kernel
theorem dJ3_checkFromToIndex_8c36e_16 : decode cJ3_checkFromToIndex_8c36e 16 = .ok (.iload_n 1, 1) := by decide +kernel
theorem dJ3_checkFromToIndex_8c36e_17 : decode cJ3_checkFromToIndex_8c36e 17 = .ok (.iload_n 2, 1) := by decide +kernel
theorem dJ3_checkFromToIndex_8c36e_18 : decode cJ3_checkFromToIndex_8c36e 18 = .ok (.invokestatic 99, 3) := by decide +kernel
theorem dJ3_checkFromToIndex_8c36e_21 : decode cJ3_checkFromToIndex_8c36e 21 = .ok (.athrow, 1) := by decide +kernel
theorem dJ3_checkFromToIndex_8c36e_22 : decode cJ3_checkFromToIndex_8c36e 22 = .ok (.iload_n 0, 1) := by decide +kernel
theorem dJ3_checkFromToIndex_8c36e_23 : decode cJ3_checkFromToIndex_8c36e 23 = .ok (.ireturn, 1) := by decide +kernel
theorem dJ3_checkFromIndexSize_8c36e_0 : decode cJ3_checkFromIndexSize_8c36e 0 = .ok (.iload_n 2, 1) := by decide +kernel
theorem dJ3_checkFromIndexSize_8c36e_1 : decode cJ3_checkFromIndexSize_8c36e 1 = .ok (.iload_n 0, 1) := by decide +kernel
theorem dJ3_checkFromIndexSize_8c36e_2 : decode cJ3_checkFromIndexSize_8c36e 2 = .ok (.ior, 1) := by decide +kernel
theorem dJ3_checkFromIndexSize_8c36e_3 : decode cJ3_checkFromIndexSize_8c36e 3 = .ok (.iload_n 1, 1) := by decide +kernel
theorem dJ3_checkFromIndexSize_8c36e_4 : decode cJ3_checkFromIndexSize_8c36e 4 = .ok (.ior, 1) := by decide +kernel
theorem dJ3_checkFromIndexSize_8c36e_5 : decode cJ3_checkFromIndexSize_8c36e 5 = .ok (.ifCond .lt 10, 3) := by decide +kernel
theorem dJ3_checkFromIndexSize_8c36e_8 : decode cJ3_checkFromIndexSize_8c36e 8 = .ok (.iload_n 1, 1) := by decide +kernel
theorem dJ3_checkFromIndexSize_8c36e_9 : decode cJ3_checkFromIndexSize_8c36e 9 = .ok (.iload_n 2, 1) := by decide +kernel
theorem dJ3_checkFromIndexSize_8c36e_10 : decode cJ3_checkFromIndexSize_8c36e 10 = .ok (.iload_n 0, 1) := by decide +kernel
theorem dJ3_checkFromIndexSize_8c36e_11 : decode cJ3_checkFromIndexSize_8c36e 11 = .ok (.isub, 1) := by decide +kernel
theorem dJ3_checkFromIndexSize_8c36e_12 : decode cJ3_checkFromIndexSize_8c36e 12 = .ok (.if_icmp .le 11, 3) := by decide +kernel
theorem dJ3_checkFromIndexSize_8c36e_15 : decode cJ3_checkFromIndexSize_8c36e 15 = .ok (.aload_n 3, 1) := by decide +kernel
theorem dJ3_checkFromIndexSize_8c36e_16 : decode cJ3_checkFromIndexSize_8c36e 16 = .ok (.iload_n 0, 1) := by decide +kernel
theorem dJ3_checkFromIndexSize_8c36e_17 : decode cJ3_checkFromIndexSize_8c36e 17 = .ok (.iload_n 1, 1) := by decide +kernel
theorem dJ3_checkFromIndexSize_8c36e_18 : decode cJ3_checkFromIndexSize_8c36e 18 = .ok (.iload_n 2, 1) := by decide +kernel
theorem dJ3_checkFromIndexSize_8c36e_19 : decode cJ3_checkFromIndexSize_8c36e 19 = .ok (.invokestatic 103, 3) := by decide +kernel
theorem dJ3_checkFromIndexSize_8c36e_22 : decode cJ3_checkFromIndexSize_8c36e 22 = .ok (.athrow, 1) := by decide +kernel
theorem dJ3_checkFromIndexSize_8c36e_23 : decode cJ3_checkFromIndexSize_8c36e 23 = .ok (.iload_n 0, 1) := by decide +kernel
theorem dJ3_checkFromIndexSize_8c36e_24 : decode cJ3_checkFromIndexSize_8c36e 24 = .ok (.ireturn, 1) := by decide +kernel
theorem dL_cell_0 : decode cL_cell 0 = .ok (.aload_n 0, 1) := by decide +kernel
theorem dL_cell_1 : decode cL_cell 1 = .ok (.arraylength, 1) := by decide +kernel
theorem dL_cell_2 : decode cL_cell 2 = .ok (.ifCond .ne 11, 3) := by decide +kernel
theorem dL_cell_5 : decode cL_cell 5 = .ok (.sipush 577, 3) := by decide +kernel
theorem dL_cell_8 : decode cL_cell 8 = .ok (.iload_n 1, 1) := by decide +kernel
theorem dL_cell_9 : decode cL_cell 9 = .ok (.imul, 1) := by decide +kernel
theorem dL_cell_10 : decode cL_cell 10 = .ok (.goto 12, 3) := by decide +kernel
theorem dL_cell_13 : decode cL_cell 13 = .ok (.aload_n 0, 1) := by decide +kernel
theorem dL_cell_14 : decode cL_cell 14 = .ok (.iload_n 1, 1) := by decide +kernel
theorem dL_cell_15 : decode cL_cell 15 = .ok (.ldc 7, 2) := by decide +kernel
theorem dL_cell_17 : decode cL_cell 17 = .ok (.iand, 1) := by decide +kernel
theorem dL_cell_18 : decode cL_cell 18 = .ok (.aload_n 0, 1) := by decide +kernel
theorem dL_cell_19 : decode cL_cell 19 = .ok (.arraylength, 1) := by decide +kernel
theorem dL_cell_20 : decode cL_cell 20 = .ok (.irem, 1) := by decide +kernel
theorem dL_cell_21 : decode cL_cell 21 = .ok (.iaload, 1) := by decide +kernel
theorem dL_cell_22 : decode cL_cell 22 = .ok (.ireturn, 1) := by decide +kernel
theorem dL_addHill_0 : decode cL_addHill 0 = .ok (.ldc 10, 2) := by decide +kernel
theorem dL_addHill_2 : decode cL_addHill 2 = .ok (.istore_n 1, 1) := by decide +kernel
theorem dL_addHill_3 : decode cL_addHill 3 = .ok (.aload_n 0, 1) := by decide +kernel
theorem dL_addHill_4 : decode cL_addHill 4 = .ok (.invokevirtual 11, 3) := by decide +kernel
theorem dL_addHill_7 : decode cL_addHill 7 = .ok (.istore_n 1, 1) := by decide +kernel
theorem dL_addHill_8 : decode cL_addHill 8 = .ok (.goto 7, 3) := by decide +kernel
theorem dL_addHill_11 : decode cL_addHill 11 = .ok (.astore_n 2, 1) := by decide +kernel
theorem dL_addHill_12 : decode cL_addHill 12 = .ok (.ldc 10, 2) := by decide +kernel
theorem dL_addHill_14 : decode cL_addHill 14 = .ok (.ireturn, 1) := by decide +kernel
theorem dL_addHill_15 : decode cL_addHill 15 = .ok (.iload_n 1, 1) := by decide +kernel
theorem dL_addHill_16 : decode cL_addHill 16 = .ok (.ireturn, 1) := by decide +kernel
theorem dL_collect_0 : decode cL_collect 0 = .ok (.ldc 10, 2) := by decide +kernel
theorem dL_collect_2 : decode cL_collect 2 = .ok (.istore_n 3, 1) := by decide +kernel
theorem dL_collect_3 : decode cL_collect 3 = .ok (.aload_n 0, 1) := by decide +kernel
theorem dL_collect_4 : decode cL_collect 4 = .ok (.iload_n 1, 1) := by decide +kernel
theorem dL_collect_5 : decode cL_collect 5 = .ok (.iload_n 2, 1) := by decide +kernel
theorem dL_collect_6 : decode cL_collect 6 = .ok (.invokevirtual 19, 3) := by decide +kernel
theorem dL_collect_9 : decode cL_collect 9 = .ok (.istore_n 3, 1) := by decide +kernel
theorem dL_collect_10 : decode cL_collect 10 = .ok (.goto 18, 3) := by decide +kernel
theorem dL_collect_13 : decode cL_collect 13 = .ok (.astore 4, 2) := by decide +kernel
theorem dL_collect_15 : decode cL_collect 15 = .ok (.ldc 10, 2) := by decide +kernel
theorem dL_collect_17 : decode cL_collect 17 = .ok (.ireturn, 1) := by decide +kernel
theorem dL_collect_18 : decode cL_collect 18 = .ok (.astore 4, 2) := by decide +kernel
theorem dL_collect_20 : decode cL_collect 20 = .ok (.ldc 10, 2) := by decide +kernel
theorem dL_collect_22 : decode cL_collect 22 = .ok (.ireturn, 1) := by decide +kernel
theorem dL_collect_23 : decode cL_collect 23 = .ok (.astore 4, 2) := by decide +kernel
theorem dL_collect_25 : decode cL_collect 25 = .ok (.ldc 10, 2) := by decide +kernel
theorem dL_collect_27 : decode cL_collect 27 = .ok (.ireturn, 1) := by decide +kernel
theorem dL_collect_28 : decode cL_collect 28 = .ok (.iload_n 3, 1) := by decide +kernel
theorem dL_collect_29 : decode cL_collect 29 = .ok (.ireturn, 1) := by decide +kernel
theorem dL_writeBlock_0 : decode cL_writeBlock 0 = .ok (.ldc 10, 2) := by decide +kernel
theorem dL_writeBlock_2 : decode cL_writeBlock 2 = .ok (.istore_n 2, 1) := by decide +kernel
theorem dL_writeBlock_3 : decode cL_writeBlock 3 = .ok (.aload_n 0, 1) := by decide +kernel
theorem dL_writeBlock_4 : decode cL_writeBlock 4 = .ok (.iload_n 1, 1) := by decide +kernel
theorem dL_writeBlock_5 : decode cL_writeBlock 5 = .ok (.invokevirtual 27, 3) := by decide +kernel
theorem dL_writeBlock_8 : decode cL_writeBlock 8 = .ok (.istore_n 2, 1) := by decide +kernel
theorem dL_writeBlock_9 : decode cL_writeBlock 9 = .ok (.goto 15, 3) := by decide +kernel
theorem dL_writeBlock_12 : decode cL_writeBlock 12 = .ok (.astore_n 3, 1) := by decide +kernel
theorem dL_writeBlock_13 : decode cL_writeBlock 13 = .ok (.ldc 10, 2) := by decide +kernel
theorem dL_writeBlock_15 : decode cL_writeBlock 15 = .ok (.ireturn, 1) := by decide +kernel
theorem dL_writeBlock_16 : decode cL_writeBlock 16 = .ok (.astore_n 3, 1) := by decide +kernel
theorem dL_writeBlock_17 : decode cL_writeBlock 17 = .ok (.ldc 10, 2) := by decide +kernel
theorem dL_writeBlock_19 : decode cL_writeBlock 19 = .ok (.ireturn, 1) := by decide +kernel
theorem dL_writeBlock_20 : decode cL_writeBlock 20 = .ok (.astore_n 3, 1) := by decide +kernel
theorem dL_writeBlock_21 : decode cL_writeBlock 21 = .ok (.ldc 10, 2) := by decide +kernel
theorem dL_writeBlock_23 : decode cL_writeBlock 23 = .ok (.ireturn, 1) := by decide +kernel
theorem dL_writeBlock_24 : decode cL_writeBlock 24 = .ok (.iload_n 2, 1) := by decide +kernel
theorem dL_writeBlock_25 : decode cL_writeBlock 25 = .ok (.ireturn, 1) := by decide +kernel
theorem dL_follow_0 : decode cL_follow 0 = .ok (.ldc 10, 2) := by decide +kernel
theorem dL_follow_2 : decode cL_follow 2 = .ok (.istore_n 3, 1) := by decide +kernel
theorem dL_follow_3 : decode cL_follow 3 = .ok (.aload_n 0, 1) := by decide +kernel
theorem dL_follow_4 : decode cL_follow 4 = .ok (.iload_n 1, 1) := by decide +kernel
theorem dL_follow_5 : decode cL_follow 5 = .ok (.iload_n 2, 1) := by decide +kernel
theorem dL_follow_6 : decode cL_follow 6 = .ok (.invokevirtual 33, 3) := by decide +kernel
theorem dL_follow_9 : decode cL_follow 9 = .ok (.istore_n 3, 1) := by decide +kernel
theorem dL_follow_10 : decode cL_follow 10 = .ok (.goto 13, 3) := by decide +kernel
theorem dL_follow_13 : decode cL_follow 13 = .ok (.astore 4, 2) := by decide +kernel
theorem dL_follow_15 : decode cL_follow 15 = .ok (.ldc 10, 2) := by decide +kernel
theorem dL_follow_17 : decode cL_follow 17 = .ok (.ireturn, 1) := by decide +kernel
theorem dL_follow_18 : decode cL_follow 18 = .ok (.astore 4, 2) := by decide +kernel
theorem dL_follow_20 : decode cL_follow 20 = .ok (.ldc 10, 2) := by decide +kernel
theorem dL_follow_22 : decode cL_follow 22 = .ok (.ireturn, 1) := by decide +kernel
theorem dL_follow_23 : decode cL_follow 23 = .ok (.iload_n 3, 1) := by decide +kernel
theorem dL_follow_24 : decode cL_follow 24 = .ok (.ireturn, 1) := by decide +kernel
theorem dL_melt_0 : decode cL_melt 0 = .ok (.ldc 10, 2) := by decide +kernel
theorem dL_melt_2 : decode cL_melt 2 = .ok (.istore_n 2, 1) := by decide +kernel
theorem dL_melt_3 : decode cL_melt 3 = .ok (.aload_n 0, 1) := by decide +kernel
theorem dL_melt_4 : decode cL_melt 4 = .ok (.iload_n 1, 1) := by decide +kernel
theorem dL_melt_5 : decode cL_melt 5 = .ok (.invokevirtual 38, 3) := by decide +kernel
theorem dL_melt_8 : decode cL_melt 8 = .ok (.istore_n 2, 1) := by decide +kernel
theorem dL_melt_9 : decode cL_melt 9 = .ok (.goto 11, 3) := by decide +kernel
theorem dL_melt_12 : decode cL_melt 12 = .ok (.astore_n 3, 1) := by decide +kernel
theorem dL_melt_13 : decode cL_melt 13 = .ok (.ldc 10, 2) := by decide +kernel
theorem dL_melt_15 : decode cL_melt 15 = .ok (.ireturn, 1) := by decide +kernel
theorem dL_melt_16 : decode cL_melt 16 = .ok (.astore_n 3, 1) := by decide +kernel
theorem dL_melt_17 : decode cL_melt 17 = .ok (.ldc 10, 2) := by decide +kernel
theorem dL_melt_19 : decode cL_melt 19 = .ok (.ireturn, 1) := by decide +kernel
theorem dL_melt_20 : decode cL_melt 20 = .ok (.iload_n 2, 1) := by decide +kernel
theorem dL_melt_21 : decode cL_melt 21 = .ok (.ireturn, 1) := by decide +kernel
theorem dL_replaceFlake_0 : decode cL_replaceFlake 0 = .ok (.ldc 10, 2) := by decide +kernel
theorem dL_replaceFlake_2 : decode cL_replaceFlake 2 = .ok (.istore 4, 2) := by decide +kernel
theorem dL_replaceFlake_4 : decode cL_replaceFlake 4 = .ok (.aload_n 0, 1) := by decide +kernel
theorem dL_replaceFlake_5 : decode cL_replaceFlake 5 = .ok (.iload_n 1, 1) := by decide +kernel
theorem dL_replaceFlake_6 : decode cL_replaceFlake 6 = .ok (.iload_n 2, 1) := by decide +kernel
theorem dL_replaceFlake_7 : decode cL_replaceFlake 7 = .ok (.iload_n 3, 1) := by decide +kernel
theorem dL_replaceFlake_8 : decode cL_replaceFlake 8 = .ok (.invokevirtual 41, 3) := by decide +kernel
theorem dL_replaceFlake_11 : decode cL_replaceFlake 11 = .ok (.istore 4, 2) := by decide +kernel
theorem dL_replaceFlake_13 : decode cL_replaceFlake 13 = .ok (.goto 18, 3) := by decide +kernel
theorem dL_replaceFlake_16 : decode cL_replaceFlake 16 = .ok (.astore 5, 2) := by decide +kernel
theorem dL_replaceFlake_18 : decode cL_replaceFlake 18 = .ok (.ldc 10, 2) := by decide +kernel
theorem dL_replaceFlake_20 : decode cL_replaceFlake 20 = .ok (.ireturn, 1) := by decide +kernel
theorem dL_replaceFlake_21 : decode cL_replaceFlake 21 = .ok (.astore 5, 2) := by decide +kernel
theorem dL_replaceFlake_23 : decode cL_replaceFlake 23 = .ok (.ldc 10, 2) := by decide +kernel
theorem dL_replaceFlake_25 : decode cL_replaceFlake 25 = .ok (.ireturn, 1) := by decide +kernel
theorem dL_replaceFlake_26 : decode cL_replaceFlake 26 = .ok (.astore 5, 2) := by decide +kernel
theorem dL_replaceFlake_28 : decode cL_replaceFlake 28 = .ok (.ldc 10, 2) := by decide +kernel
theorem dL_replaceFlake_30 : decode cL_replaceFlake 30 = .ok (.ireturn, 1) := by decide +kernel
theorem dL_replaceFlake_31 : decode cL_replaceFlake 31 = .ok (.iload 4, 2) := by decide +kernel
theorem dL_replaceFlake_33 : decode cL_replaceFlake 33 = .ok (.ireturn, 1) := by decide +kernel
theorem dL_repair_0 : decode cL_repair 0 = .ok (.ldc 10, 2) := by decide +kernel
theorem dL_repair_2 : decode cL_repair 2 = .ok (.istore_n 2, 1) := by decide +kernel
theorem dL_repair_3 : decode cL_repair 3 = .ok (.aload_n 0, 1) := by decide +kernel
theorem dL_repair_4 : decode cL_repair 4 = .ok (.iload_n 1, 1) := by decide +kernel
theorem dL_repair_5 : decode cL_repair 5 = .ok (.invokevirtual 45, 3) := by decide +kernel
theorem dL_repair_8 : decode cL_repair 8 = .ok (.istore_n 2, 1) := by decide +kernel
theorem dL_repair_9 : decode cL_repair 9 = .ok (.goto 15, 3) := by decide +kernel
theorem dL_repair_12 : decode cL_repair 12 = .ok (.astore_n 3, 1) := by decide +kernel
theorem dL_repair_13 : decode cL_repair 13 = .ok (.ldc 10, 2) := by decide +kernel
theorem dL_repair_15 : decode cL_repair 15 = .ok (.ireturn, 1) := by decide +kernel
theorem dL_repair_16 : decode cL_repair 16 = .ok (.astore_n 3, 1) := by decide +kernel
theorem dL_repair_17 : decode cL_repair 17 = .ok (.ldc 10, 2) := by decide +kernel
theorem dL_repair_19 : decode cL_repair 19 = .ok (.ireturn, 1) := by decide +kernel
theorem dL_repair_20 : decode cL_repair 20 = .ok (.astore_n 3, 1) := by decide +kernel
theorem dL_repair_21 : decode cL_repair 21 = .ok (.ldc 10, 2) := by decide +kernel
theorem dL_repair_23 : decode cL_repair 23 = .ok (.ireturn, 1) := by decide +kernel
theorem dL_repair_24 : decode cL_repair 24 = .ok (.iload_n 2, 1) := by decide +kernel
theorem dL_repair_25 : decode cL_repair 25 = .ok (.ireturn, 1) := by decide +kernel
theorem dL_parentOf_0 : decode cL_parentOf 0 = .ok (.sipush (-1000), 3) := by decide +kernel
theorem dL_parentOf_3 : decode cL_parentOf 3 = .ok (.istore_n 2, 1) := by decide +kernel
theorem dL_parentOf_4 : decode cL_parentOf 4 = .ok (.aload_n 0, 1) := by decide +kernel
theorem dL_parentOf_5 : decode cL_parentOf 5 = .ok (.iload_n 1, 1) := by decide +kernel
theorem dL_parentOf_6 : decode cL_parentOf 6 = .ok (.invokevirtual 48, 3) := by decide +kernel
theorem dL_parentOf_9 : decode cL_parentOf 9 = .ok (.istore_n 2, 1) := by decide +kernel
theorem dL_parentOf_10 : decode cL_parentOf 10 = .ok (.goto 8, 3) := by decide +kernel
theorem dL_parentOf_13 : decode cL_parentOf 13 = .ok (.astore_n 3, 1) := by decide +kernel
theorem dL_parentOf_14 : decode cL_parentOf 14 = .ok (.sipush (-1000), 3) := by decide +kernel
theorem dL_parentOf_17 : decode cL_parentOf 17 = .ok (.ireturn, 1) := by decide +kernel
theorem dL_parentOf_18 : decode cL_parentOf 18 = .ok (.iload_n 2, 1) := by decide +kernel
theorem dL_parentOf_19 : decode cL_parentOf 19 = .ok (.ireturn, 1) := by decide +kernel
theorem dL_nonceOf_0 : decode cL_nonceOf 0 = .ok (.sipush (-1000), 3) := by decide +kernel
theorem dL_nonceOf_3 : decode cL_nonceOf 3 = .ok (.istore_n 2, 1) := by decide +kernel
theorem dL_nonceOf_4 : decode cL_nonceOf 4 = .ok (.aload_n 0, 1) := by decide +kernel
theorem dL_nonceOf_5 : decode cL_nonceOf 5 = .ok (.iload_n 1, 1) := by decide +kernel
theorem dL_nonceOf_6 : decode cL_nonceOf 6 = .ok (.invokevirtual 51, 3) := by decide +kernel
theorem dL_nonceOf_9 : decode cL_nonceOf 9 = .ok (.istore_n 2, 1) := by decide +kernel
theorem dL_nonceOf_10 : decode cL_nonceOf 10 = .ok (.goto 8, 3) := by decide +kernel
theorem dL_nonceOf_13 : decode cL_nonceOf 13 = .ok (.astore_n 3, 1) := by decide +kernel
theorem dL_nonceOf_14 : decode cL_nonceOf 14 = .ok (.sipush (-1000), 3) := by decide +kernel
theorem dL_nonceOf_17 : decode cL_nonceOf 17 = .ok (.ireturn, 1) := by decide +kernel
theorem dL_nonceOf_18 : decode cL_nonceOf 18 = .ok (.iload_n 2, 1) := by decide +kernel
theorem dL_nonceOf_19 : decode cL_nonceOf 19 = .ok (.ireturn, 1) := by decide +kernel
theorem dL_firstInvalid_0 : decode cL_firstInvalid 0 = .ok (.sipush (-1000), 3) := by decide +kernel
theorem dL_firstInvalid_3 : decode cL_firstInvalid 3 = .ok (.istore_n 2, 1) := by decide +kernel
theorem dL_firstInvalid_4 : decode cL_firstInvalid 4 = .ok (.aload_n 0, 1) := by decide +kernel
theorem dL_firstInvalid_5 : decode cL_firstInvalid 5 = .ok (.iload_n 1, 1) := by decide +kernel
theorem dL_firstInvalid_6 : decode cL_firstInvalid 6 = .ok (.invokevirtual 54, 3) := by decide +kernel
theorem dL_firstInvalid_9 : decode cL_firstInvalid 9 = .ok (.istore_n 2, 1) := by decide +kernel
theorem dL_firstInvalid_10 : decode cL_firstInvalid 10 = .ok (.goto 8, 3) := by decide +kernel
theorem dL_firstInvalid_13 : decode cL_firstInvalid 13 = .ok (.astore_n 3, 1) := by decide +kernel
theorem dL_firstInvalid_14 : decode cL_firstInvalid 14 = .ok (.sipush (-1000), 3) := by decide +kernel
theorem dL_firstInvalid_17 : decode cL_firstInvalid 17 = .ok (.ireturn, 1) := by decide +kernel
theorem dL_firstInvalid_18 : decode cL_firstInvalid 18 = .ok (.iload_n 2, 1) := by decide +kernel
theorem dL_firstInvalid_19 : decode cL_firstInvalid 19 = .ok (.ireturn, 1) := by decide +kernel
theorem dL_tipAtRank_0 : decode cL_tipAtRank 0 = .ok (.sipush (-1000), 3) := by decide +kernel
theorem dL_tipAtRank_3 : decode cL_tipAtRank 3 = .ok (.istore_n 2, 1) := by decide +kernel
theorem dL_tipAtRank_4 : decode cL_tipAtRank 4 = .ok (.aload_n 0, 1) := by decide +kernel
theorem dL_tipAtRank_5 : decode cL_tipAtRank 5 = .ok (.iload_n 1, 1) := by decide +kernel
theorem dL_tipAtRank_6 : decode cL_tipAtRank 6 = .ok (.invokevirtual 57, 3) := by decide +kernel
theorem dL_tipAtRank_9 : decode cL_tipAtRank 9 = .ok (.istore_n 2, 1) := by decide +kernel
theorem dL_tipAtRank_10 : decode cL_tipAtRank 10 = .ok (.goto 8, 3) := by decide +kernel
theorem dL_tipAtRank_13 : decode cL_tipAtRank 13 = .ok (.astore_n 3, 1) := by decide +kernel
theorem dL_tipAtRank_14 : decode cL_tipAtRank 14 = .ok (.sipush (-1000), 3) := by decide +kernel
theorem dL_tipAtRank_17 : decode cL_tipAtRank 17 = .ok (.ireturn, 1) := by decide +kernel
theorem dL_tipAtRank_18 : decode cL_tipAtRank 18 = .ok (.iload_n 2, 1) := by decide +kernel
theorem dL_tipAtRank_19 : decode cL_tipAtRank 19 = .ok (.ireturn, 1) := by decide +kernel
theorem dL_runScript_0 : decode cL_runScript 0 = .ok (.ldc 10, 2) := by decide +kernel
theorem dL_runScript_2 : decode cL_runScript 2 = .ok (.istore_n 1, 1) := by decide +kernel
theorem dL_runScript_3 : decode cL_runScript 3 = .ok (.aload_n 0, 1) := by decide +kernel
theorem dL_runScript_4 : decode cL_runScript 4 = .ok (.invokevirtual 63, 3) := by decide +kernel
theorem dL_runScript_7 : decode cL_runScript 7 = .ok (.istore_n 1, 1) := by decide +kernel
theorem dL_runScript_8 : decode cL_runScript 8 = .ok (.goto 11, 3) := by decide +kernel
theorem dL_runScript_11 : decode cL_runScript 11 = .ok (.astore_n 2, 1) := by decide +kernel
theorem dL_runScript_12 : decode cL_runScript 12 = .ok (.ldc 10, 2) := by decide +kernel
theorem dL_runScript_14 : decode cL_runScript 14 = .ok (.ireturn, 1) := by decide +kernel
theorem dL_runScript_15 : decode cL_runScript 15 = .ok (.astore_n 2, 1) := by decide +kernel
theorem dL_runScript_16 : decode cL_runScript 16 = .ok (.ldc 10, 2) := by decide +kernel
theorem dL_runScript_18 : decode cL_runScript 18 = .ok (.ireturn, 1) := by decide +kernel
theorem dL_runScript_19 : decode cL_runScript 19 = .ok (.iload_n 1, 1) := by decide +kernel
theorem dL_runScript_20 : decode cL_runScript 20 = .ok (.ireturn, 1) := by decide +kernel
theorem dL_failedCommand_0 : decode cL_failedCommand 0 = .ok (.sipush (-1000), 3) := by decide +kernel
theorem dL_failedCommand_3 : decode cL_failedCommand 3 = .ok (.istore_n 1, 1) := by decide +kernel
theorem dL_failedCommand_4 : decode cL_failedCommand 4 = .ok (.aload_n 0, 1) := by decide +kernel
theorem dL_failedCommand_5 : decode cL_failedCommand 5 = .ok (.invokevirtual 66, 3) := by decide +kernel
theorem dL_failedCommand_8 : decode cL_failedCommand 8 = .ok (.istore_n 1, 1) := by decide +kernel
theorem dL_failedCommand_9 : decode cL_failedCommand 9 = .ok (.goto 8, 3) := by decide +kernel
theorem dL_failedCommand_12 : decode cL_failedCommand 12 = .ok (.astore_n 2, 1) := by decide +kernel
theorem dL_failedCommand_13 : decode cL_failedCommand 13 = .ok (.sipush (-1000), 3) := by decide +kernel
theorem dL_failedCommand_16 : decode cL_failedCommand 16 = .ok (.ireturn, 1) := by decide +kernel
theorem dL_failedCommand_17 : decode cL_failedCommand 17 = .ok (.iload_n 1, 1) := by decide +kernel
theorem dL_failedCommand_18 : decode cL_failedCommand 18 = .ok (.ireturn, 1) := by decide +kernel
theorem dL_undo_0 : decode cL_undo 0 = .ok (.ldc 10, 2) := by decide +kernel
theorem dL_undo_2 : decode cL_undo 2 = .ok (.istore_n 1, 1) := by decide +kernel
theorem dL_undo_3 : decode cL_undo 3 = .ok (.aload_n 0, 1) := by decide +kernel
theorem dL_undo_4 : decode cL_undo 4 = .ok (.invokevirtual 69, 3) := by decide +kernel
theorem dL_undo_7 : decode cL_undo 7 = .ok (.istore_n 1, 1) := by decide +kernel
theorem dL_undo_8 : decode cL_undo 8 = .ok (.goto 7, 3) := by decide +kernel
theorem dL_undo_11 : decode cL_undo 11 = .ok (.astore_n 2, 1) := by decide +kernel
theorem dL_undo_12 : decode cL_undo 12 = .ok (.ldc 10, 2) := by decide +kernel
theorem dL_undo_14 : decode cL_undo 14 = .ok (.ireturn, 1) := by decide +kernel
theorem dL_undo_15 : decode cL_undo 15 = .ok (.iload_n 1, 1) := by decide +kernel
theorem dL_undo_16 : decode cL_undo 16 = .ok (.ireturn, 1) := by decide +kernel
theorem dL_restore_0 : decode cL_restore 0 = .ok (.ldc 10, 2) := by decide +kernel
theorem dL_restore_2 : decode cL_restore 2 = .ok (.istore_n 1, 1) := by decide +kernel
theorem dL_restore_3 : decode cL_restore 3 = .ok (.aload_n 0, 1) := by decide +kernel
theorem dL_restore_4 : decode cL_restore 4 = .ok (.invokevirtual 72, 3) := by decide +kernel
theorem dL_restore_7 : decode cL_restore 7 = .ok (.istore_n 1, 1) := by decide +kernel
theorem dL_restore_8 : decode cL_restore 8 = .ok (.goto 7, 3) := by decide +kernel
theorem dL_restore_11 : decode cL_restore 11 = .ok (.astore_n 2, 1) := by decide +kernel
theorem dL_restore_12 : decode cL_restore 12 = .ok (.ldc 10, 2) := by decide +kernel
theorem dL_restore_14 : decode cL_restore 14 = .ok (.ireturn, 1) := by decide +kernel
theorem dL_restore_15 : decode cL_restore 15 = .ok (.iload_n 1, 1) := by decide +kernel
theorem dL_restore_16 : decode cL_restore 16 = .ok (.ireturn, 1) := by decide +kernel
theorem dL_put_0 : decode cL_put 0 = .ok (.aload_n 0, 1) := by decide +kernel
theorem dL_put_1 : decode cL_put 1 = .ok (.iload_n 1, 1) := by decide +kernel
theorem dL_put_2 : decode cL_put 2 = .ok (.invokevirtual 75, 3) := by decide +kernel
theorem dL_put_5 : decode cL_put 5 = .ok (.pop, 1) := by decide +kernel
theorem dL_put_6 : decode cL_put 6 = .ok (.goto 6, 3) := by decide +kernel
theorem dL_put_9 : decode cL_put 9 = .ok (.astore_n 2, 1) := by decide +kernel
theorem dL_put_10 : decode cL_put 10 = .ok (.iconst 0, 1) := by decide +kernel
theorem dL_put_11 : decode cL_put 11 = .ok (.ireturn, 1) := by decide +kernel
theorem dL_put_12 : decode cL_put 12 = .ok (.iconst 1, 1) := by decide +kernel
theorem dL_put_13 : decode cL_put 13 = .ok (.ireturn, 1) := by decide +kernel
theorem dL_typed_0 : decode cL_typed 0 = .ok (.iconst 0, 1) := by decide +kernel
theorem dL_typed_1 : decode cL_typed 1 = .ok (.istore_n 2, 1) := by decide +kernel
theorem dL_typed_2 : decode cL_typed 2 = .ok (.iload_n 2, 1) := by decide +kernel
theorem dL_typed_3 : decode cL_typed 3 = .ok (.aload_n 1, 1) := by decide +kernel
theorem dL_typed_4 : decode cL_typed 4 = .ok (.invokevirtual 79, 3) := by decide +kernel
theorem dL_typed_7 : decode cL_typed 7 = .ok (.if_icmp .ge 19, 3) := by decide +kernel
theorem dL_typed_10 : decode cL_typed 10 = .ok (.aload_n 0, 1) := by decide +kernel
theorem dL_typed_11 : decode cL_typed 11 = .ok (.aload_n 1, 1) := by decide +kernel
theorem dL_typed_12 : decode cL_typed 12 = .ok (.iload_n 2, 1) := by decide +kernel
theorem dL_typed_13 : decode cL_typed 13 = .ok (.invokevirtual 84, 3) := by decide +kernel
theorem dL_typed_16 : decode cL_typed 16 = .ok (.invokestatic 88, 3) := by decide +kernel
theorem dL_typed_19 : decode cL_typed 19 = .ok (.pop, 1) := by decide +kernel
theorem dL_typed_20 : decode cL_typed 20 = .ok (.iinc 2 1, 3) := by decide +kernel
theorem dL_typed_23 : decode cL_typed 23 = .ok (.goto (-21), 3) := by decide +kernel
theorem dL_typed_26 : decode cL_typed 26 = .ok (.aload_n 0, 1) := by decide +kernel
theorem dL_typed_27 : decode cL_typed 27 = .ok (.areturn, 1) := by decide +kernel
theorem dL_act_0 : decode cL_act 0 = .ok (.iload_n 1, 1) := by decide +kernel
theorem dL_act_1 : decode cL_act 1 = .ok (.iconst 4, 1) := by decide +kernel
theorem dL_act_2 : decode cL_act 2 = .ok (.ishr, 1) := by decide +kernel
theorem dL_act_3 : decode cL_act 3 = .ok (.ldc 7, 2) := by decide +kernel
theorem dL_act_5 : decode cL_act 5 = .ok (.iand, 1) := by decide +kernel
theorem dL_act_6 : decode cL_act 6 = .ok (.istore_n 2, 1) := by decide +kernel
theorem dL_act_7 : decode cL_act 7 = .ok (.iload_n 2, 1) := by decide +kernel
theorem dL_act_8 : decode cL_act 8 = .ok (.iconst 3, 1) := by decide +kernel
theorem dL_act_9 : decode cL_act 9 = .ok (.irem, 1) := by decide +kernel
theorem dL_act_10 : decode cL_act 10 = .ok (.istore_n 3, 1) := by decide +kernel
theorem dL_act_11 : decode cL_act 11 = .ok (.iload_n 2, 1) := by decide +kernel
theorem dL_act_12 : decode cL_act 12 = .ok (.iconst 2, 1) := by decide +kernel
theorem dL_act_13 : decode cL_act 13 = .ok (.ishr, 1) := by decide +kernel
theorem dL_act_14 : decode cL_act 14 = .ok (.aload_n 0, 1) := by decide +kernel
theorem dL_act_15 : decode cL_act 15 = .ok (.invokevirtual 92, 3) := by decide +kernel
theorem dL_act_18 : decode cL_act 18 = .ok (.iconst 2, 1) := by decide +kernel
theorem dL_act_19 : decode cL_act 19 = .ok (.iadd, 1) := by decide +kernel
theorem dL_act_20 : decode cL_act 20 = .ok (.irem, 1) := by decide +kernel
theorem dL_act_21 : decode cL_act 21 = .ok (.istore 4, 2) := by decide +kernel
theorem dL_act_23 : decode cL_act 23 = .ok (.iload_n 1, 1) := by decide +kernel
theorem dL_act_24 : decode cL_act 24 = .ok (.bipush 15, 2) := by decide +kernel
theorem dL_act_26 : decode cL_act 26 = .ok (.iand, 1) := by decide +kernel
theorem dL_act_27 : decode cL_act 27 = .ok (.tableswitch 179 0 14 #[73, 94, 94, 94, 106, 106, 106, 106, 112, 112, 120, 154, 161, 161, 161], 73) := by decide +kernel
theorem dL_act_100 : decode cL_act 100 = .ok (.iload_n 2, 1) := by decide +kernel
theorem dL_act_101 : decode cL_act 101 = .ok (.bipush 64, 2) := by decide +kernel
theorem dL_act_103 : decode cL_act 103 = .ok (.iand, 1) := by decide +kernel
theorem dL_act_104 : decode cL_act 104 = .ok (.ifCond .ne 10, 3) := by decide +kernel
theorem dL_act_107 : decode cL_act 107 = .ok (.aload_n 0, 1) := by decide +kernel
theorem dL_act_108 : decode cL_act 108 = .ok (.invokestatic 95, 3) := by decide +kernel
theorem dL_act_111 : decode cL_act 111 = .ok (.goto 9, 3) := by decide +kernel
theorem dL_act_114 : decode cL_act 114 = .ok (.aload_n 0, 1) := by decide +kernel
theorem dL_act_115 : decode cL_act 115 = .ok (.iload 4, 2) := by decide +kernel
theorem dL_act_117 : decode cL_act 117 = .ok (.invokestatic 98, 3) := by decide +kernel
theorem dL_act_120 : decode cL_act 120 = .ok (.ireturn, 1) := by decide +kernel
theorem dL_act_121 : decode cL_act 121 = .ok (.aload_n 0, 1) := by decide +kernel
theorem dL_act_122 : decode cL_act 122 = .ok (.iload_n 3, 1) := by decide +kernel
theorem dL_act_123 : decode cL_act 123 = .ok (.iload_n 2, 1) := by decide +kernel
theorem dL_act_124 : decode cL_act 124 = .ok (.iconst 3, 1) := by decide +kernel
theorem dL_act_125 : decode cL_act 125 = .ok (.ishr, 1) := by decide +kernel
theorem dL_act_126 : decode cL_act 126 = .ok (.bipush 101, 2) := by decide +kernel
theorem dL_act_128 : decode cL_act 128 = .ok (.irem, 1) := by decide +kernel
theorem dL_act_129 : decode cL_act 129 = .ok (.invokestatic 101, 3) := by decide +kernel
theorem dL_act_132 : decode cL_act 132 = .ok (.ireturn, 1) := by decide +kernel
theorem dL_act_133 : decode cL_act 133 = .ok (.aload_n 0, 1) := by decide +kernel
theorem dL_act_134 : decode cL_act 134 = .ok (.iload_n 3, 1) := by decide +kernel
theorem dL_act_135 : decode cL_act 135 = .ok (.invokestatic 104, 3) := by decide +kernel
theorem dL_act_138 : decode cL_act 138 = .ok (.ireturn, 1) := by decide +kernel
theorem dL_act_139 : decode cL_act 139 = .ok (.aload_n 0, 1) := by decide +kernel
theorem dL_act_140 : decode cL_act 140 = .ok (.iload_n 3, 1) := by decide +kernel
theorem dL_act_141 : decode cL_act 141 = .ok (.iload 4, 2) := by decide +kernel
theorem dL_act_143 : decode cL_act 143 = .ok (.invokestatic 107, 3) := by decide +kernel
theorem dL_act_146 : decode cL_act 146 = .ok (.ireturn, 1) := by decide +kernel
theorem dL_act_147 : decode cL_act 147 = .ok (.iload_n 2, 1) := by decide +kernel
theorem dL_act_148 : decode cL_act 148 = .ok (.bipush 96, 2) := by decide +kernel
theorem dL_act_150 : decode cL_act 150 = .ok (.iand, 1) := by decide +kernel
theorem dL_act_151 : decode cL_act 151 = .ok (.ifCond .ne 12, 3) := by decide +kernel
theorem dL_act_154 : decode cL_act 154 = .ok (.aload_n 0, 1) := by decide +kernel
theorem dL_act_155 : decode cL_act 155 = .ok (.iload 4, 2) := by decide +kernel
theorem dL_act_157 : decode cL_act 157 = .ok (.invokestatic 109, 3) := by decide +kernel
theorem dL_act_160 : decode cL_act 160 = .ok (.goto 20, 3) := by decide +kernel
theorem dL_act_163 : decode cL_act 163 = .ok (.aload_n 0, 1) := by decide +kernel
theorem dL_act_164 : decode cL_act 164 = .ok (.iload 4, 2) := by decide +kernel
theorem dL_act_166 : decode cL_act 166 = .ok (.iload_n 2, 1) := by decide +kernel
theorem dL_act_167 : decode cL_act 167 = .ok (.iconst 5, 1) := by decide +kernel
theorem dL_act_168 : decode cL_act 168 = .ok (.ishr, 1) := by decide +kernel
theorem dL_act_169 : decode cL_act 169 = .ok (.iconst 3, 1) := by decide +kernel
theorem dL_act_170 : decode cL_act 170 = .ok (.irem, 1) := by decide +kernel
theorem dL_act_171 : decode cL_act 171 = .ok (.iload_n 2, 1) := by decide +kernel
theorem dL_act_172 : decode cL_act 172 = .ok (.iconst 4, 1) := by decide +kernel
theorem dL_act_173 : decode cL_act 173 = .ok (.ishr, 1) := by decide +kernel
theorem dL_act_174 : decode cL_act 174 = .ok (.bipush 100, 2) := by decide +kernel
theorem dL_act_176 : decode cL_act 176 = .ok (.irem, 1) := by decide +kernel
theorem dL_act_177 : decode cL_act 177 = .ok (.invokestatic 111, 3) := by decide +kernel
theorem dL_act_180 : decode cL_act 180 = .ok (.ireturn, 1) := by decide +kernel
theorem dL_act_181 : decode cL_act 181 = .ok (.aload_n 0, 1) := by decide +kernel
theorem dL_act_182 : decode cL_act 182 = .ok (.iload 4, 2) := by decide +kernel
theorem dL_act_184 : decode cL_act 184 = .ok (.invokestatic 98, 3) := by decide +kernel
theorem dL_act_187 : decode cL_act 187 = .ok (.ireturn, 1) := by decide +kernel
theorem dL_act_188 : decode cL_act 188 = .ok (.aload_n 0, 1) := by decide +kernel
theorem dL_act_189 : decode cL_act 189 = .ok (.getstatic 114, 3) := by decide +kernel
theorem dL_act_192 : decode cL_act 192 = .ok (.iload_n 2, 1) := by decide +kernel
theorem dL_act_193 : decode cL_act 193 = .ok (.getstatic 114, 3) := by decide +kernel
theorem dL_act_196 : decode cL_act 196 = .ok (.arraylength, 1) := by decide +kernel
theorem dL_act_197 : decode cL_act 197 = .ok (.irem, 1) := by decide +kernel
theorem dL_act_198 : decode cL_act 198 = .ok (.aaload, 1) := by decide +kernel
theorem dL_act_199 : decode cL_act 199 = .ok (.invokestatic 118, 3) := by decide +kernel
theorem dL_act_202 : decode cL_act 202 = .ok (.invokestatic 122, 3) := by decide +kernel
theorem dL_act_205 : decode cL_act 205 = .ok (.ireturn, 1) := by decide +kernel
theorem dL_act_206 : decode cL_act 206 = .ok (.iload_n 2, 1) := by decide +kernel
theorem dL_act_207 : decode cL_act 207 = .ok (.iconst 3, 1) := by decide +kernel
theorem dL_act_208 : decode cL_act 208 = .ok (.iand, 1) := by decide +kernel
theorem dL_act_209 : decode cL_act 209 = .ok (.ifCond .ne 10, 3) := by decide +kernel
theorem dL_act_212 : decode cL_act 212 = .ok (.aload_n 0, 1) := by decide +kernel
theorem dL_act_213 : decode cL_act 213 = .ok (.invokevirtual 124, 3) := by decide +kernel
theorem dL_act_216 : decode cL_act 216 = .ok (.goto 21, 3) := by decide +kernel
theorem dL_act_219 : decode cL_act 219 = .ok (.iload_n 2, 1) := by decide +kernel
theorem dL_act_220 : decode cL_act 220 = .ok (.iconst 3, 1) := by decide +kernel
theorem dL_act_221 : decode cL_act 221 = .ok (.iand, 1) := by decide +kernel
theorem dL_act_222 : decode cL_act 222 = .ok (.iconst 1, 1) := by decide +kernel
theorem dL_act_223 : decode cL_act 223 = .ok (.if_icmp .ne 10, 3) := by decide +kernel
theorem dL_act_226 : decode cL_act 226 = .ok (.aload_n 0, 1) := by decide +kernel
theorem dL_act_227 : decode cL_act 227 = .ok (.invokestatic 127, 3) := by decide +kernel
theorem dL_act_230 : decode cL_act 230 = .ok (.goto 7, 3) := by decide +kernel
theorem dL_act_233 : decode cL_act 233 = .ok (.aload_n 0, 1) := by decide +kernel
theorem dL_act_234 : decode cL_act 234 = .ok (.invokestatic 129, 3) := by decide +kernel
theorem dL_act_237 : decode cL_act 237 = .ok (.ireturn, 1) := by decide +kernel
theorem dL_blockAt_0 : decode cL_blockAt 0 = .ok (.iload_n 1, 1) := by decide +kernel
theorem dL_blockAt_1 : decode cL_blockAt 1 = .ok (.istore_n 2, 1) := by decide +kernel
theorem dL_blockAt_2 : decode cL_blockAt 2 = .ok (.iconst 0, 1) := by decide +kernel
theorem dL_blockAt_3 : decode cL_blockAt 3 = .ok (.istore_n 3, 1) := by decide +kernel
theorem dL_blockAt_4 : decode cL_blockAt 4 = .ok (.iload_n 2, 1) := by decide +kernel
theorem dL_blockAt_5 : decode cL_blockAt 5 = .ok (.ifCond .gt 11, 3) := by decide +kernel
theorem dL_blockAt_8 : decode cL_blockAt 8 = .ok (.aload_n 0, 1) := by decide +kernel
theorem dL_blockAt_9 : decode cL_blockAt 9 = .ok (.iload_n 3, 1) := by decide +kernel
theorem dL_blockAt_10 : decode cL_blockAt 10 = .ok (.invokevirtual 131, 3) := by decide +kernel
theorem dL_blockAt_13 : decode cL_blockAt 13 = .ok (.ifCond .ne 25, 3) := by decide +kernel
theorem dL_blockAt_16 : decode cL_blockAt 16 = .ok (.iload_n 2, 1) := by decide +kernel
theorem dL_blockAt_17 : decode cL_blockAt 17 = .ok (.aload_n 0, 1) := by decide +kernel
theorem dL_blockAt_18 : decode cL_blockAt 18 = .ok (.iload_n 3, 1) := by decide +kernel
theorem dL_blockAt_19 : decode cL_blockAt 19 = .ok (.invokevirtual 131, 3) := by decide +kernel
theorem dL_blockAt_22 : decode cL_blockAt 22 = .ok (.ifCond .eq 7, 3) := by decide +kernel
theorem dL_blockAt_25 : decode cL_blockAt 25 = .ok (.iconst 1, 1) := by decide +kernel
theorem dL_blockAt_26 : decode cL_blockAt 26 = .ok (.goto 4, 3) := by decide +kernel
theorem dL_blockAt_29 : decode cL_blockAt 29 = .ok (.iconst 0, 1) := by decide +kernel
theorem dL_blockAt_30 : decode cL_blockAt 30 = .ok (.isub, 1) := by decide +kernel
theorem dL_blockAt_31 : decode cL_blockAt 31 = .ok (.istore_n 2, 1) := by decide +kernel
theorem dL_blockAt_32 : decode cL_blockAt 32 = .ok (.iinc 3 1, 3) := by decide +kernel
theorem dL_blockAt_35 : decode cL_blockAt 35 = .ok (.goto (-31), 3) := by decide +kernel
theorem dL_blockAt_38 : decode cL_blockAt 38 = .ok (.iload_n 3, 1) := by decide +kernel
theorem dL_blockAt_39 : decode cL_blockAt 39 = .ok (.ireturn, 1) := by decide +kernel
theorem dL_digest_0 : decode cL_digest 0 = .ok (.ldc2_w 135, 3) := by decide +kernel
theorem dL_digest_3 : decode cL_digest 3 = .ok (.aload_n 0, 1) := by decide +kernel
theorem dL_digest_4 : decode cL_digest 4 = .ok (.invokevirtual 92, 3) := by decide +kernel
theorem dL_digest_7 : decode cL_digest 7 = .ok (.i2l, 1) := by decide +kernel
theorem dL_digest_8 : decode cL_digest 8 = .ok (.lmul, 1) := by decide +kernel
theorem dL_digest_9 : decode cL_digest 9 = .ok (.ldc2_w 137, 3) := by decide +kernel
theorem dL_digest_12 : decode cL_digest 12 = .ok (.aload_n 0, 1) := by decide +kernel
theorem dL_digest_13 : decode cL_digest 13 = .ok (.invokevirtual 139, 3) := by decide +kernel
theorem dL_digest_16 : decode cL_digest 16 = .ok (.i2l, 1) := by decide +kernel
theorem dL_digest_17 : decode cL_digest 17 = .ok (.lmul, 1) := by decide +kernel
theorem dL_digest_18 : decode cL_digest 18 = .ok (.ladd, 1) := by decide +kernel
theorem dL_digest_19 : decode cL_digest 19 = .ok (.aload_n 0, 1) := by decide +kernel
theorem dL_digest_20 : decode cL_digest 20 = .ok (.invokevirtual 142, 3) := by decide +kernel
theorem dL_digest_23 : decode cL_digest 23 = .ok (.i2l, 1) := by decide +kernel
theorem dL_digest_24 : decode cL_digest 24 = .ok (.ladd, 1) := by decide +kernel
theorem dL_digest_25 : decode cL_digest 25 = .ok (.lstore_n 1, 1) := by decide +kernel
theorem dL_digest_26 : decode cL_digest 26 = .ok (.iconst 0, 1) := by decide +kernel
theorem dL_digest_27 : decode cL_digest 27 = .ok (.istore_n 3, 1) := by decide +kernel
theorem dL_digest_28 : decode cL_digest 28 = .ok (.iload_n 3, 1) := by decide +kernel
theorem dL_digest_29 : decode cL_digest 29 = .ok (.aload_n 0, 1) := by decide +kernel
theorem dL_digest_30 : decode cL_digest 30 = .ok (.invokevirtual 142, 3) := by decide +kernel
theorem dL_digest_33 : decode cL_digest 33 = .ok (.if_icmp .ge 44, 3) := by decide +kernel
theorem dL_digest_36 : decode cL_digest 36 = .ok (.ldc2_w 145, 3) := by decide +kernel
theorem dL_digest_39 : decode cL_digest 39 = .ok (.ldc2_w 145, 3) := by decide +kernel
theorem dL_digest_42 : decode cL_digest 42 = .ok (.ldc2_w 145, 3) := by decide +kernel
theorem dL_digest_45 : decode cL_digest 45 = .ok (.lload_n 1, 1) := by decide +kernel
theorem dL_digest_46 : decode cL_digest 46 = .ok (.lmul, 1) := by decide +kernel
theorem dL_digest_47 : decode cL_digest 47 = .ok (.aload_n 0, 1) := by decide +kernel
theorem dL_digest_48 : decode cL_digest 48 = .ok (.iload_n 3, 1) := by decide +kernel
theorem dL_digest_49 : decode cL_digest 49 = .ok (.invokevirtual 147, 3) := by decide +kernel
theorem dL_digest_52 : decode cL_digest 52 = .ok (.i2l, 1) := by decide +kernel
theorem dL_digest_53 : decode cL_digest 53 = .ok (.ladd, 1) := by decide +kernel
theorem dL_digest_54 : decode cL_digest 54 = .ok (.lmul, 1) := by decide +kernel
theorem dL_digest_55 : decode cL_digest 55 = .ok (.aload_n 0, 1) := by decide +kernel
theorem dL_digest_56 : decode cL_digest 56 = .ok (.iload_n 3, 1) := by decide +kernel
theorem dL_digest_57 : decode cL_digest 57 = .ok (.invokevirtual 150, 3) := by decide +kernel
theorem dL_digest_60 : decode cL_digest 60 = .ok (.i2l, 1) := by decide +kernel
theorem dL_digest_61 : decode cL_digest 61 = .ok (.ladd, 1) := by decide +kernel
theorem dL_digest_62 : decode cL_digest 62 = .ok (.lmul, 1) := by decide +kernel
theorem dL_digest_63 : decode cL_digest 63 = .ok (.aload_n 0, 1) := by decide +kernel
theorem dL_digest_64 : decode cL_digest 64 = .ok (.iload_n 3, 1) := by decide +kernel
theorem dL_digest_65 : decode cL_digest 65 = .ok (.invokevirtual 153, 3) := by decide +kernel
theorem dL_digest_68 : decode cL_digest 68 = .ok (.i2l, 1) := by decide +kernel
theorem dL_digest_69 : decode cL_digest 69 = .ok (.ladd, 1) := by decide +kernel
theorem dL_digest_70 : decode cL_digest 70 = .ok (.lstore_n 1, 1) := by decide +kernel
theorem dL_digest_71 : decode cL_digest 71 = .ok (.iinc 3 1, 3) := by decide +kernel
theorem dL_digest_74 : decode cL_digest 74 = .ok (.goto (-46), 3) := by decide +kernel
theorem dL_digest_77 : decode cL_digest 77 = .ok (.iconst 0, 1) := by decide +kernel
theorem dL_digest_78 : decode cL_digest 78 = .ok (.istore_n 3, 1) := by decide +kernel
theorem dL_digest_79 : decode cL_digest 79 = .ok (.iload_n 3, 1) := by decide +kernel
theorem dL_digest_80 : decode cL_digest 80 = .ok (.aload_n 0, 1) := by decide +kernel
theorem dL_digest_81 : decode cL_digest 81 = .ok (.invokevirtual 156, 3) := by decide +kernel
theorem dL_digest_84 : decode cL_digest 84 = .ok (.if_icmp .ge 98, 3) := by decide +kernel
theorem dL_digest_87 : decode cL_digest 87 = .ok (.aload_n 0, 1) := by decide +kernel
theorem dL_digest_88 : decode cL_digest 88 = .ok (.iload_n 3, 1) := by decide +kernel
theorem dL_digest_89 : decode cL_digest 89 = .ok (.invokestatic 159, 3) := by decide +kernel
theorem dL_digest_92 : decode cL_digest 92 = .ok (.istore 4, 2) := by decide +kernel
theorem dL_digest_94 : decode cL_digest 94 = .ok (.ldc2_w 145, 3) := by decide +kernel
theorem dL_digest_97 : decode cL_digest 97 = .ok (.ldc2_w 145, 3) := by decide +kernel
theorem dL_digest_100 : decode cL_digest 100 = .ok (.ldc2_w 145, 3) := by decide +kernel
theorem dL_digest_103 : decode cL_digest 103 = .ok (.ldc2_w 145, 3) := by decide +kernel
theorem dL_digest_106 : decode cL_digest 106 = .ok (.lload_n 1, 1) := by decide +kernel
theorem dL_digest_107 : decode cL_digest 107 = .ok (.lmul, 1) := by decide +kernel
theorem dL_digest_108 : decode cL_digest 108 = .ok (.iload 4, 2) := by decide +kernel
theorem dL_digest_110 : decode cL_digest 110 = .ok (.i2l, 1) := by decide +kernel
theorem dL_digest_111 : decode cL_digest 111 = .ok (.ladd, 1) := by decide +kernel
theorem dL_digest_112 : decode cL_digest 112 = .ok (.lmul, 1) := by decide +kernel
theorem dL_digest_113 : decode cL_digest 113 = .ok (.aload_n 0, 1) := by decide +kernel
theorem dL_digest_114 : decode cL_digest 114 = .ok (.iload 4, 2) := by decide +kernel
theorem dL_digest_116 : decode cL_digest 116 = .ok (.invokestatic 162, 3) := by decide +kernel
theorem dL_digest_119 : decode cL_digest 119 = .ok (.i2l, 1) := by decide +kernel
theorem dL_digest_120 : decode cL_digest 120 = .ok (.ladd, 1) := by decide +kernel
theorem dL_digest_121 : decode cL_digest 121 = .ok (.lmul, 1) := by decide +kernel
theorem dL_digest_122 : decode cL_digest 122 = .ok (.aload_n 0, 1) := by decide +kernel
theorem dL_digest_123 : decode cL_digest 123 = .ok (.iload 4, 2) := by decide +kernel
theorem dL_digest_125 : decode cL_digest 125 = .ok (.invokevirtual 164, 3) := by decide +kernel
theorem dL_digest_128 : decode cL_digest 128 = .ok (.i2l, 1) := by decide +kernel
theorem dL_digest_129 : decode cL_digest 129 = .ok (.ladd, 1) := by decide +kernel
theorem dL_digest_130 : decode cL_digest 130 = .ok (.lmul, 1) := by decide +kernel
theorem dL_digest_131 : decode cL_digest 131 = .ok (.aload_n 0, 1) := by decide +kernel
theorem dL_digest_132 : decode cL_digest 132 = .ok (.iload 4, 2) := by decide +kernel
theorem dL_digest_134 : decode cL_digest 134 = .ok (.invokestatic 167, 3) := by decide +kernel
theorem dL_digest_137 : decode cL_digest 137 = .ok (.i2l, 1) := by decide +kernel
theorem dL_digest_138 : decode cL_digest 138 = .ok (.ladd, 1) := by decide +kernel
theorem dL_digest_139 : decode cL_digest 139 = .ok (.lstore_n 1, 1) := by decide +kernel
theorem dL_digest_140 : decode cL_digest 140 = .ok (.iconst 0, 1) := by decide +kernel
theorem dL_digest_141 : decode cL_digest 141 = .ok (.istore 5, 2) := by decide +kernel
theorem dL_digest_143 : decode cL_digest 143 = .ok (.iload 5, 2) := by decide +kernel
theorem dL_digest_145 : decode cL_digest 145 = .ok (.aload_n 0, 1) := by decide +kernel
theorem dL_digest_146 : decode cL_digest 146 = .ok (.iload 4, 2) := by decide +kernel
theorem dL_digest_148 : decode cL_digest 148 = .ok (.invokevirtual 169, 3) := by decide +kernel
theorem dL_digest_151 : decode cL_digest 151 = .ok (.if_icmp .ge 25, 3) := by decide +kernel
theorem dL_digest_154 : decode cL_digest 154 = .ok (.ldc2_w 145, 3) := by decide +kernel
theorem dL_digest_157 : decode cL_digest 157 = .ok (.lload_n 1, 1) := by decide +kernel
theorem dL_digest_158 : decode cL_digest 158 = .ok (.lmul, 1) := by decide +kernel
theorem dL_digest_159 : decode cL_digest 159 = .ok (.aload_n 0, 1) := by decide +kernel
theorem dL_digest_160 : decode cL_digest 160 = .ok (.iload 4, 2) := by decide +kernel
theorem dL_digest_162 : decode cL_digest 162 = .ok (.iload 5, 2) := by decide +kernel
theorem dL_digest_164 : decode cL_digest 164 = .ok (.invokevirtual 172, 3) := by decide +kernel
theorem dL_digest_167 : decode cL_digest 167 = .ok (.i2l, 1) := by decide +kernel
theorem dL_digest_168 : decode cL_digest 168 = .ok (.ladd, 1) := by decide +kernel
theorem dL_digest_169 : decode cL_digest 169 = .ok (.lstore_n 1, 1) := by decide +kernel
theorem dL_digest_170 : decode cL_digest 170 = .ok (.iinc 5 1, 3) := by decide +kernel
theorem dL_digest_173 : decode cL_digest 173 = .ok (.goto (-30), 3) := by decide +kernel
theorem dL_digest_176 : decode cL_digest 176 = .ok (.iinc 3 1, 3) := by decide +kernel
theorem dL_digest_179 : decode cL_digest 179 = .ok (.goto (-100), 3) := by decide +kernel
theorem dL_digest_182 : decode cL_digest 182 = .ok (.lload_n 1, 1) := by decide +kernel
theorem dL_digest_183 : decode cL_digest 183 = .ok (.lreturn, 1) := by decide +kernel
theorem dL_combine_0 : decode cL_combine 0 = .ok (.bipush 31, 2) := by decide +kernel
theorem dL_combine_2 : decode cL_combine 2 = .ok (.iload_n 0, 1) := by decide +kernel
theorem dL_combine_3 : decode cL_combine 3 = .ok (.imul, 1) := by decide +kernel
theorem dL_combine_4 : decode cL_combine 4 = .ok (.bipush 17, 2) := by decide +kernel
theorem dL_combine_6 : decode cL_combine 6 = .ok (.iload_n 1, 1) := by decide +kernel
theorem dL_combine_7 : decode cL_combine 7 = .ok (.imul, 1) := by decide +kernel
theorem dL_combine_8 : decode cL_combine 8 = .ok (.iadd, 1) := by decide +kernel
theorem dL_combine_9 : decode cL_combine 9 = .ok (.bipush 7, 2) := by decide +kernel
theorem dL_combine_11 : decode cL_combine 11 = .ok (.iadd, 1) := by decide +kernel
theorem dL_combine_12 : decode cL_combine 12 = .ok (.sipush 997, 3) := by decide +kernel
theorem dL_combine_15 : decode cL_combine 15 = .ok (.irem, 1) := by decide +kernel
theorem dL_combine_16 : decode cL_combine 16 = .ok (.ireturn, 1) := by decide +kernel
theorem dL_root_0 : decode cL_root 0 = .ok (.aload_n 0, 1) := by decide +kernel
theorem dL_root_1 : decode cL_root 1 = .ok (.iload_n 1, 1) := by decide +kernel
theorem dL_root_2 : decode cL_root 2 = .ok (.invokevirtual 169, 3) := by decide +kernel
theorem dL_root_5 : decode cL_root 5 = .ok (.istore_n 2, 1) := by decide +kernel
theorem dL_root_6 : decode cL_root 6 = .ok (.iconst 4, 1) := by decide +kernel
theorem dL_root_7 : decode cL_root 7 = .ok (.newarray .int, 2) := by decide +kernel
theorem dL_root_9 : decode cL_root 9 = .ok (.astore_n 3, 1) := by decide +kernel
theorem dL_root_10 : decode cL_root 10 = .ok (.iconst 0, 1) := by decide +kernel
theorem dL_root_11 : decode cL_root 11 = .ok (.istore 4, 2) := by decide +kernel
theorem dL_root_13 : decode cL_root 13 = .ok (.iload 4, 2) := by decide +kernel
theorem dL_root_15 : decode cL_root 15 = .ok (.iload_n 2, 1) := by decide +kernel
theorem dL_root_16 : decode cL_root 16 = .ok (.if_icmp .ge 20, 3) := by decide +kernel
theorem dL_root_19 : decode cL_root 19 = .ok (.aload_n 3, 1) := by decide +kernel
theorem dL_root_20 : decode cL_root 20 = .ok (.iload 4, 2) := by decide +kernel
theorem dL_root_22 : decode cL_root 22 = .ok (.aload_n 0, 1) := by decide +kernel
theorem dL_root_23 : decode cL_root 23 = .ok (.iload_n 1, 1) := by decide +kernel
theorem dL_root_24 : decode cL_root 24 = .ok (.iload 4, 2) := by decide +kernel
theorem dL_root_26 : decode cL_root 26 = .ok (.invokevirtual 172, 3) := by decide +kernel
theorem dL_root_29 : decode cL_root 29 = .ok (.iastore, 1) := by decide +kernel
theorem dL_root_30 : decode cL_root 30 = .ok (.iinc 4 1, 3) := by decide +kernel
theorem dL_root_33 : decode cL_root 33 = .ok (.goto (-20), 3) := by decide +kernel
theorem dL_root_36 : decode cL_root 36 = .ok (.iload_n 2, 1) := by decide +kernel
theorem dL_root_37 : decode cL_root 37 = .ok (.tableswitch 69 0 3 #[31, 33, 37, 47], 31) := by decide +kernel
theorem dL_root_68 : decode cL_root 68 = .ok (.iconst 0, 1) := by decide +kernel
theorem dL_root_69 : decode cL_root 69 = .ok (.ireturn, 1) := by decide +kernel
theorem dL_root_70 : decode cL_root 70 = .ok (.aload_n 3, 1) := by decide +kernel
theorem dL_root_71 : decode cL_root 71 = .ok (.iconst 0, 1) := by decide +kernel
theorem dL_root_72 : decode cL_root 72 = .ok (.iaload, 1) := by decide +kernel
theorem dL_root_73 : decode cL_root 73 = .ok (.ireturn, 1) := by decide +kernel
theorem dL_root_74 : decode cL_root 74 = .ok (.aload_n 3, 1) := by decide +kernel
theorem dL_root_75 : decode cL_root 75 = .ok (.iconst 0, 1) := by decide +kernel
theorem dL_root_76 : decode cL_root 76 = .ok (.iaload, 1) := by decide +kernel
theorem dL_root_77 : decode cL_root 77 = .ok (.aload_n 3, 1) := by decide +kernel
theorem dL_root_78 : decode cL_root 78 = .ok (.iconst 1, 1) := by decide +kernel
theorem dL_root_79 : decode cL_root 79 = .ok (.iaload, 1) := by decide +kernel
theorem dL_root_80 : decode cL_root 80 = .ok (.invokestatic 175, 3) := by decide +kernel
theorem dL_root_83 : decode cL_root 83 = .ok (.ireturn, 1) := by decide +kernel
theorem dL_root_84 : decode cL_root 84 = .ok (.aload_n 3, 1) := by decide +kernel
theorem dL_root_85 : decode cL_root 85 = .ok (.iconst 0, 1) := by decide +kernel
theorem dL_root_86 : decode cL_root 86 = .ok (.iaload, 1) := by decide +kernel
theorem dL_root_87 : decode cL_root 87 = .ok (.aload_n 3, 1) := by decide +kernel
theorem dL_root_88 : decode cL_root 88 = .ok (.iconst 1, 1) := by decide +kernel
theorem dL_root_89 : decode cL_root 89 = .ok (.iaload, 1) := by decide +kernel
theorem dL_root_90 : decode cL_root 90 = .ok (.invokestatic 175, 3) := by decide +kernel
theorem dL_root_93 : decode cL_root 93 = .ok (.aload_n 3, 1) := by decide +kernel
theorem dL_root_94 : decode cL_root 94 = .ok (.iconst 2, 1) := by decide +kernel
theorem dL_root_95 : decode cL_root 95 = .ok (.iaload, 1) := by decide +kernel
theorem dL_root_96 : decode cL_root 96 = .ok (.aload_n 3, 1) := by decide +kernel
theorem dL_root_97 : decode cL_root 97 = .ok (.iconst 2, 1) := by decide +kernel
theorem dL_root_98 : decode cL_root 98 = .ok (.iaload, 1) := by decide +kernel
theorem dL_root_99 : decode cL_root 99 = .ok (.invokestatic 175, 3) := by decide +kernel
theorem dL_root_102 : decode cL_root 102 = .ok (.invokestatic 175, 3) := by decide +kernel
theorem dL_root_105 : decode cL_root 105 = .ok (.ireturn, 1) := by decide +kernel
theorem dL_root_106 : decode cL_root 106 = .ok (.aload_n 3, 1) := by decide +kernel
theorem dL_root_107 : decode cL_root 107 = .ok (.iconst 0, 1) := by decide +kernel
theorem dL_root_108 : decode cL_root 108 = .ok (.iaload, 1) := by decide +kernel
theorem dL_root_109 : decode cL_root 109 = .ok (.aload_n 3, 1) := by decide +kernel
theorem dL_root_110 : decode cL_root 110 = .ok (.iconst 1, 1) := by decide +kernel
theorem dL_root_111 : decode cL_root 111 = .ok (.iaload, 1) := by decide +kernel
theorem dL_root_112 : decode cL_root 112 = .ok (.invokestatic 175, 3) := by decide +kernel
theorem dL_root_115 : decode cL_root 115 = .ok (.aload_n 3, 1) := by decide +kernel
theorem dL_root_116 : decode cL_root 116 = .ok (.iconst 2, 1) := by decide +kernel
theorem dL_root_117 : decode cL_root 117 = .ok (.iaload, 1) := by decide +kernel
theorem dL_root_118 : decode cL_root 118 = .ok (.aload_n 3, 1) := by decide +kernel
theorem dL_root_119 : decode cL_root 119 = .ok (.iconst 3, 1) := by decide +kernel
theorem dL_root_120 : decode cL_root 120 = .ok (.iaload, 1) := by decide +kernel
theorem dL_root_121 : decode cL_root 121 = .ok (.invokestatic 175, 3) := by decide +kernel
theorem dL_root_124 : decode cL_root 124 = .ok (.invokestatic 175, 3) := by decide +kernel
theorem dL_root_127 : decode cL_root 127 = .ok (.ireturn, 1) := by decide +kernel
theorem dL_isBlock_0 : decode cL_isBlock 0 = .ok (.aload_n 0, 1) := by decide +kernel
theorem dL_isBlock_1 : decode cL_isBlock 1 = .ok (.iload_n 1, 1) := by decide +kernel
theorem dL_isBlock_2 : decode cL_isBlock 2 = .ok (.invokestatic 162, 3) := by decide +kernel
theorem dL_isBlock_5 : decode cL_isBlock 5 = .ok (.istore_n 2, 1) := by decide +kernel
theorem dL_isBlock_6 : decode cL_isBlock 6 = .ok (.aload_n 0, 1) := by decide +kernel
theorem dL_isBlock_7 : decode cL_isBlock 7 = .ok (.iload_n 1, 1) := by decide +kernel
theorem dL_isBlock_8 : decode cL_isBlock 8 = .ok (.invokestatic 178, 3) := by decide +kernel
theorem dL_isBlock_11 : decode cL_isBlock 11 = .ok (.istore_n 3, 1) := by decide +kernel
theorem dL_isBlock_12 : decode cL_isBlock 12 = .ok (.iload_n 1, 1) := by decide +kernel
theorem dL_isBlock_13 : decode cL_isBlock 13 = .ok (.ifCond .ne 7, 3) := by decide +kernel
theorem dL_isBlock_16 : decode cL_isBlock 16 = .ok (.iconst 1, 1) := by decide +kernel
theorem dL_isBlock_17 : decode cL_isBlock 17 = .ok (.goto 4, 3) := by decide +kernel
theorem dL_isBlock_20 : decode cL_isBlock 20 = .ok (.iconst 0, 1) := by decide +kernel
theorem dL_isBlock_21 : decode cL_isBlock 21 = .ok (.istore 4, 2) := by decide +kernel
theorem dL_isBlock_23 : decode cL_isBlock 23 = .ok (.iload 4, 2) := by decide +kernel
theorem dL_isBlock_25 : decode cL_isBlock 25 = .ok (.ifCond .eq 7, 3) := by decide +kernel
theorem dL_isBlock_28 : decode cL_isBlock 28 = .ok (.iconst 0, 1) := by decide +kernel
theorem dL_isBlock_29 : decode cL_isBlock 29 = .ok (.goto 10, 3) := by decide +kernel
theorem dL_isBlock_32 : decode cL_isBlock 32 = .ok (.aload_n 0, 1) := by decide +kernel
theorem dL_isBlock_33 : decode cL_isBlock 33 = .ok (.iload_n 2, 1) := by decide +kernel
theorem dL_isBlock_34 : decode cL_isBlock 34 = .ok (.invokevirtual 181, 3) := by decide +kernel
theorem dL_isBlock_37 : decode cL_isBlock 37 = .ok (.iconst 1, 1) := by decide +kernel
theorem dL_isBlock_38 : decode cL_isBlock 38 = .ok (.iadd, 1) := by decide +kernel
theorem dL_isBlock_39 : decode cL_isBlock 39 = .ok (.istore 5, 2) := by decide +kernel
theorem dL_isBlock_41 : decode cL_isBlock 41 = .ok (.iload 4, 2) := by decide +kernel
theorem dL_isBlock_43 : decode cL_isBlock 43 = .ok (.ifCond .ne 43, 3) := by decide +kernel
theorem dL_isBlock_46 : decode cL_isBlock 46 = .ok (.aload_n 0, 1) := by decide +kernel
theorem dL_isBlock_47 : decode cL_isBlock 47 = .ok (.iload_n 1, 1) := by decide +kernel
theorem dL_isBlock_48 : decode cL_isBlock 48 = .ok (.invokevirtual 164, 3) := by decide +kernel
theorem dL_isBlock_51 : decode cL_isBlock 51 = .ok (.bipush 61, 2) := by decide +kernel
theorem dL_isBlock_53 : decode cL_isBlock 53 = .ok (.aload_n 0, 1) := by decide +kernel
theorem dL_isBlock_54 : decode cL_isBlock 54 = .ok (.iload_n 2, 1) := by decide +kernel
theorem dL_isBlock_55 : decode cL_isBlock 55 = .ok (.invokevirtual 164, 3) := by decide +kernel
theorem dL_isBlock_58 : decode cL_isBlock 58 = .ok (.imul, 1) := by decide +kernel
theorem dL_isBlock_59 : decode cL_isBlock 59 = .ok (.bipush 29, 2) := by decide +kernel
theorem dL_isBlock_61 : decode cL_isBlock 61 = .ok (.iload_n 3, 1) := by decide +kernel
theorem dL_isBlock_62 : decode cL_isBlock 62 = .ok (.imul, 1) := by decide +kernel
theorem dL_isBlock_63 : decode cL_isBlock 63 = .ok (.iadd, 1) := by decide +kernel
theorem dL_isBlock_64 : decode cL_isBlock 64 = .ok (.bipush 13, 2) := by decide +kernel
theorem dL_isBlock_66 : decode cL_isBlock 66 = .ok (.aload_n 0, 1) := by decide +kernel
theorem dL_isBlock_67 : decode cL_isBlock 67 = .ok (.iload_n 1, 1) := by decide +kernel
theorem dL_isBlock_68 : decode cL_isBlock 68 = .ok (.invokevirtual 184, 3) := by decide +kernel
theorem dL_isBlock_71 : decode cL_isBlock 71 = .ok (.imul, 1) := by decide +kernel
theorem dL_isBlock_72 : decode cL_isBlock 72 = .ok (.iadd, 1) := by decide +kernel
theorem dL_isBlock_73 : decode cL_isBlock 73 = .ok (.aload_n 0, 1) := by decide +kernel
theorem dL_isBlock_74 : decode cL_isBlock 74 = .ok (.iload_n 1, 1) := by decide +kernel
theorem dL_isBlock_75 : decode cL_isBlock 75 = .ok (.invokevirtual 51, 3) := by decide +kernel
theorem dL_isBlock_78 : decode cL_isBlock 78 = .ok (.iadd, 1) := by decide +kernel
theorem dL_isBlock_79 : decode cL_isBlock 79 = .ok (.sipush 9973, 3) := by decide +kernel
theorem dL_isBlock_82 : decode cL_isBlock 82 = .ok (.irem, 1) := by decide +kernel
theorem dL_isBlock_83 : decode cL_isBlock 83 = .ok (.if_icmp .ne 7, 3) := by decide +kernel
theorem dL_isBlock_86 : decode cL_isBlock 86 = .ok (.iconst 1, 1) := by decide +kernel
theorem dL_isBlock_87 : decode cL_isBlock 87 = .ok (.goto 4, 3) := by decide +kernel
theorem dL_isBlock_90 : decode cL_isBlock 90 = .ok (.iconst 0, 1) := by decide +kernel
theorem dL_isBlock_91 : decode cL_isBlock 91 = .ok (.istore 6, 2) := by decide +kernel
theorem dL_isBlock_93 : decode cL_isBlock 93 = .ok (.iload 4, 2) := by decide +kernel
theorem dL_isBlock_95 : decode cL_isBlock 95 = .ok (.ifCond .eq 9, 3) := by decide +kernel
theorem dL_isBlock_98 : decode cL_isBlock 98 = .ok (.sipush (-1000), 3) := by decide +kernel
theorem dL_isBlock_101 : decode cL_isBlock 101 = .ok (.goto 34, 3) := by decide +kernel
theorem dL_isBlock_104 : decode cL_isBlock 104 = .ok (.aload_n 0, 1) := by decide +kernel
theorem dL_isBlock_105 : decode cL_isBlock 105 = .ok (.iload_n 2, 1) := by decide +kernel
theorem dL_isBlock_106 : decode cL_isBlock 106 = .ok (.invokestatic 187, 3) := by decide +kernel
theorem dL_isBlock_109 : decode cL_isBlock 109 = .ok (.sipush (-1000), 3) := by decide +kernel
theorem dL_isBlock_112 : decode cL_isBlock 112 = .ok (.if_icmp .ne 18, 3) := by decide +kernel
theorem dL_isBlock_115 : decode cL_isBlock 115 = .ok (.iload 6, 2) := by decide +kernel
theorem dL_isBlock_117 : decode cL_isBlock 117 = .ok (.ifCond .eq 9, 3) := by decide +kernel
theorem dL_isBlock_120 : decode cL_isBlock 120 = .ok (.sipush (-1000), 3) := by decide +kernel
theorem dL_isBlock_123 : decode cL_isBlock 123 = .ok (.goto 12, 3) := by decide +kernel
theorem dL_isBlock_126 : decode cL_isBlock 126 = .ok (.iload_n 1, 1) := by decide +kernel
theorem dL_isBlock_127 : decode cL_isBlock 127 = .ok (.goto 8, 3) := by decide +kernel
theorem dL_isBlock_130 : decode cL_isBlock 130 = .ok (.aload_n 0, 1) := by decide +kernel
theorem dL_isBlock_131 : decode cL_isBlock 131 = .ok (.iload_n 2, 1) := by decide +kernel
theorem dL_isBlock_132 : decode cL_isBlock 132 = .ok (.invokestatic 187, 3) := by decide +kernel
theorem dL_isBlock_135 : decode cL_isBlock 135 = .ok (.istore 7, 2) := by decide +kernel
theorem dL_isBlock_137 : decode cL_isBlock 137 = .ok (.iconst 0, 1) := by decide +kernel
theorem dL_isBlock_138 : decode cL_isBlock 138 = .ok (.istore 8, 2) := by decide +kernel
theorem dL_isBlock_140 : decode cL_isBlock 140 = .ok (.iconst 0, 1) := by decide +kernel
theorem dL_isBlock_141 : decode cL_isBlock 141 = .ok (.istore 9, 2) := by decide +kernel
theorem dL_isBlock_143 : decode cL_isBlock 143 = .ok (.iconst 0, 1) := by decide +kernel
theorem dL_isBlock_144 : decode cL_isBlock 144 = .ok (.istore 10, 2) := by decide +kernel
theorem dL_isBlock_146 : decode cL_isBlock 146 = .ok (.iload 10, 2) := by decide +kernel
theorem dL_isBlock_148 : decode cL_isBlock 148 = .ok (.aload_n 0, 1) := by decide +kernel
theorem dL_isBlock_149 : decode cL_isBlock 149 = .ok (.invokevirtual 156, 3) := by decide +kernel
theorem dL_isBlock_152 : decode cL_isBlock 152 = .ok (.if_icmp .ge 57, 3) := by decide +kernel
theorem dL_isBlock_155 : decode cL_isBlock 155 = .ok (.aload_n 0, 1) := by decide +kernel
theorem dL_isBlock_156 : decode cL_isBlock 156 = .ok (.iload 10, 2) := by decide +kernel
theorem dL_isBlock_158 : decode cL_isBlock 158 = .ok (.invokestatic 159, 3) := by decide +kernel
theorem dL_isBlock_161 : decode cL_isBlock 161 = .ok (.istore 11, 2) := by decide +kernel
theorem dL_isBlock_163 : decode cL_isBlock 163 = .ok (.iload 8, 2) := by decide +kernel
theorem dL_isBlock_165 : decode cL_isBlock 165 = .ok (.aload_n 0, 1) := by decide +kernel
theorem dL_isBlock_166 : decode cL_isBlock 166 = .ok (.iload 11, 2) := by decide +kernel
theorem dL_isBlock_168 : decode cL_isBlock 168 = .ok (.invokestatic 162, 3) := by decide +kernel
theorem dL_isBlock_171 : decode cL_isBlock 171 = .ok (.iload_n 1, 1) := by decide +kernel
theorem dL_isBlock_172 : decode cL_isBlock 172 = .ok (.if_icmp .ne 7, 3) := by decide +kernel
theorem dL_isBlock_175 : decode cL_isBlock 175 = .ok (.iconst 1, 1) := by decide +kernel
theorem dL_isBlock_176 : decode cL_isBlock 176 = .ok (.goto 4, 3) := by decide +kernel
theorem dL_isBlock_179 : decode cL_isBlock 179 = .ok (.iconst 0, 1) := by decide +kernel
theorem dL_isBlock_180 : decode cL_isBlock 180 = .ok (.iadd, 1) := by decide +kernel
theorem dL_isBlock_181 : decode cL_isBlock 181 = .ok (.istore 8, 2) := by decide +kernel
theorem dL_isBlock_183 : decode cL_isBlock 183 = .ok (.iload 9, 2) := by decide +kernel
theorem dL_isBlock_185 : decode cL_isBlock 185 = .ok (.aload_n 0, 1) := by decide +kernel
theorem dL_isBlock_186 : decode cL_isBlock 186 = .ok (.iload_n 1, 1) := by decide +kernel
theorem dL_isBlock_187 : decode cL_isBlock 187 = .ok (.iload 11, 2) := by decide +kernel
theorem dL_isBlock_189 : decode cL_isBlock 189 = .ok (.invokevirtual 189, 3) := by decide +kernel
theorem dL_isBlock_192 : decode cL_isBlock 192 = .ok (.ifCond .eq 7, 3) := by decide +kernel
theorem dL_isBlock_195 : decode cL_isBlock 195 = .ok (.iconst 1, 1) := by decide +kernel
theorem dL_isBlock_196 : decode cL_isBlock 196 = .ok (.goto 4, 3) := by decide +kernel
theorem dL_isBlock_199 : decode cL_isBlock 199 = .ok (.iconst 0, 1) := by decide +kernel
theorem dL_isBlock_200 : decode cL_isBlock 200 = .ok (.iadd, 1) := by decide +kernel
theorem dL_isBlock_201 : decode cL_isBlock 201 = .ok (.istore 9, 2) := by decide +kernel
theorem dL_isBlock_203 : decode cL_isBlock 203 = .ok (.iinc 10 1, 3) := by decide +kernel
theorem dL_isBlock_206 : decode cL_isBlock 206 = .ok (.goto (-60), 3) := by decide +kernel
theorem dL_isBlock_209 : decode cL_isBlock 209 = .ok (.iload_n 2, 1) := by decide +kernel
theorem dL_isBlock_210 : decode cL_isBlock 210 = .ok (.sipush (-1000), 3) := by decide +kernel
theorem dL_isBlock_213 : decode cL_isBlock 213 = .ok (.if_icmp .ne 7, 3) := by decide +kernel
theorem dL_isBlock_216 : decode cL_isBlock 216 = .ok (.iconst 1, 1) := by decide +kernel
theorem dL_isBlock_217 : decode cL_isBlock 217 = .ok (.goto 4, 3) := by decide +kernel
theorem dL_isBlock_220 : decode cL_isBlock 220 = .ok (.iconst 0, 1) := by decide +kernel
theorem dL_isBlock_221 : decode cL_isBlock 221 = .ok (.iload 4, 2) := by decide +kernel
theorem dL_isBlock_223 : decode cL_isBlock 223 = .ok (.if_icmp .ne 86, 3) := by decide +kernel
theorem dL_isBlock_226 : decode cL_isBlock 226 = .ok (.aload_n 0, 1) := by decide +kernel
theorem dL_isBlock_227 : decode cL_isBlock 227 = .ok (.iload_n 1, 1) := by decide +kernel
theorem dL_isBlock_228 : decode cL_isBlock 228 = .ok (.invokevirtual 193, 3) := by decide +kernel
theorem dL_isBlock_231 : decode cL_isBlock 231 = .ok (.iload_n 3, 1) := by decide +kernel
theorem dL_isBlock_232 : decode cL_isBlock 232 = .ok (.if_icmp .ne 77, 3) := by decide +kernel
theorem dL_isBlock_235 : decode cL_isBlock 235 = .ok (.aload_n 0, 1) := by decide +kernel
theorem dL_isBlock_236 : decode cL_isBlock 236 = .ok (.iload_n 1, 1) := by decide +kernel
theorem dL_isBlock_237 : decode cL_isBlock 237 = .ok (.invokevirtual 196, 3) := by decide +kernel
theorem dL_isBlock_240 : decode cL_isBlock 240 = .ok (.iload_n 3, 1) := by decide +kernel
theorem dL_isBlock_241 : decode cL_isBlock 241 = .ok (.if_icmp .ne 68, 3) := by decide +kernel
theorem dL_isBlock_244 : decode cL_isBlock 244 = .ok (.aload_n 0, 1) := by decide +kernel
theorem dL_isBlock_245 : decode cL_isBlock 245 = .ok (.iload_n 1, 1) := by decide +kernel
theorem dL_isBlock_246 : decode cL_isBlock 246 = .ok (.invokevirtual 181, 3) := by decide +kernel
theorem dL_isBlock_249 : decode cL_isBlock 249 = .ok (.iload 5, 2) := by decide +kernel
theorem dL_isBlock_251 : decode cL_isBlock 251 = .ok (.if_icmp .ne 58, 3) := by decide +kernel
theorem dL_isBlock_254 : decode cL_isBlock 254 = .ok (.aload_n 0, 1) := by decide +kernel
theorem dL_isBlock_255 : decode cL_isBlock 255 = .ok (.iload_n 1, 1) := by decide +kernel
theorem dL_isBlock_256 : decode cL_isBlock 256 = .ok (.invokevirtual 199, 3) := by decide +kernel
theorem dL_isBlock_259 : decode cL_isBlock 259 = .ok (.iload 5, 2) := by decide +kernel
theorem dL_isBlock_261 : decode cL_isBlock 261 = .ok (.if_icmp .ne 48, 3) := by decide +kernel
theorem dL_isBlock_264 : decode cL_isBlock 264 = .ok (.aload_n 0, 1) := by decide +kernel
theorem dL_isBlock_265 : decode cL_isBlock 265 = .ok (.iload_n 1, 1) := by decide +kernel
theorem dL_isBlock_266 : decode cL_isBlock 266 = .ok (.invokevirtual 202, 3) := by decide +kernel
theorem dL_isBlock_269 : decode cL_isBlock 269 = .ok (.iload 6, 2) := by decide +kernel
theorem dL_isBlock_271 : decode cL_isBlock 271 = .ok (.if_icmp .ne 38, 3) := by decide +kernel
theorem dL_isBlock_274 : decode cL_isBlock 274 = .ok (.aload_n 0, 1) := by decide +kernel
theorem dL_isBlock_275 : decode cL_isBlock 275 = .ok (.iload_n 1, 1) := by decide +kernel
theorem dL_isBlock_276 : decode cL_isBlock 276 = .ok (.invokestatic 187, 3) := by decide +kernel
theorem dL_isBlock_279 : decode cL_isBlock 279 = .ok (.iload 7, 2) := by decide +kernel
theorem dL_isBlock_281 : decode cL_isBlock 281 = .ok (.if_icmp .ne 28, 3) := by decide +kernel
theorem dL_isBlock_284 : decode cL_isBlock 284 = .ok (.aload_n 0, 1) := by decide +kernel
theorem dL_isBlock_285 : decode cL_isBlock 285 = .ok (.iload_n 1, 1) := by decide +kernel
theorem dL_isBlock_286 : decode cL_isBlock 286 = .ok (.invokevirtual 205, 3) := by decide +kernel
theorem dL_isBlock_289 : decode cL_isBlock 289 = .ok (.iload 7, 2) := by decide +kernel
theorem dL_isBlock_291 : decode cL_isBlock 291 = .ok (.sipush (-1000), 3) := by decide +kernel
theorem dL_isBlock_294 : decode cL_isBlock 294 = .ok (.if_icmp .ne 7, 3) := by decide +kernel
theorem dL_isBlock_297 : decode cL_isBlock 297 = .ok (.iconst 1, 1) := by decide +kernel
theorem dL_isBlock_298 : decode cL_isBlock 298 = .ok (.goto 4, 3) := by decide +kernel
theorem dL_isBlock_301 : decode cL_isBlock 301 = .ok (.iconst 0, 1) := by decide +kernel
theorem dL_isBlock_302 : decode cL_isBlock 302 = .ok (.if_icmp .ne 7, 3) := by decide +kernel
theorem dL_isBlock_305 : decode cL_isBlock 305 = .ok (.iconst 1, 1) := by decide +kernel
theorem dL_isBlock_306 : decode cL_isBlock 306 = .ok (.goto 4, 3) := by decide +kernel
theorem dL_isBlock_309 : decode cL_isBlock 309 = .ok (.iconst 0, 1) := by decide +kernel
theorem dL_isBlock_310 : decode cL_isBlock 310 = .ok (.istore 10, 2) := by decide +kernel
theorem dL_isBlock_312 : decode cL_isBlock 312 = .ok (.iload 10, 2) := by decide +kernel
theorem dL_isBlock_314 : decode cL_isBlock 314 = .ok (.ifCond .eq 86, 3) := by decide +kernel
theorem dL_isBlock_317 : decode cL_isBlock 317 = .ok (.aload_n 0, 1) := by decide +kernel
theorem dL_isBlock_318 : decode cL_isBlock 318 = .ok (.iload_n 1, 1) := by decide +kernel
theorem dL_isBlock_319 : decode cL_isBlock 319 = .ok (.invokevirtual 208, 3) := by decide +kernel
theorem dL_isBlock_322 : decode cL_isBlock 322 = .ok (.iload 8, 2) := by decide +kernel
theorem dL_isBlock_324 : decode cL_isBlock 324 = .ok (.if_icmp .ne 76, 3) := by decide +kernel
theorem dL_isBlock_327 : decode cL_isBlock 327 = .ok (.aload_n 0, 1) := by decide +kernel
theorem dL_isBlock_328 : decode cL_isBlock 328 = .ok (.iload_n 1, 1) := by decide +kernel
theorem dL_isBlock_329 : decode cL_isBlock 329 = .ok (.invokevirtual 211, 3) := by decide +kernel
theorem dL_isBlock_332 : decode cL_isBlock 332 = .ok (.iload 9, 2) := by decide +kernel
theorem dL_isBlock_334 : decode cL_isBlock 334 = .ok (.if_icmp .ne 66, 3) := by decide +kernel
theorem dL_isBlock_337 : decode cL_isBlock 337 = .ok (.iload 4, 2) := by decide +kernel
theorem dL_isBlock_339 : decode cL_isBlock 339 = .ok (.ifCond .ne 18, 3) := by decide +kernel
theorem dL_isBlock_342 : decode cL_isBlock 342 = .ok (.aload_n 0, 1) := by decide +kernel
theorem dL_isBlock_343 : decode cL_isBlock 343 = .ok (.iload_n 1, 1) := by decide +kernel
theorem dL_isBlock_344 : decode cL_isBlock 344 = .ok (.invokevirtual 164, 3) := by decide +kernel
theorem dL_isBlock_347 : decode cL_isBlock 347 = .ok (.iconst 4, 1) := by decide +kernel
theorem dL_isBlock_348 : decode cL_isBlock 348 = .ok (.irem, 1) := by decide +kernel
theorem dL_isBlock_349 : decode cL_isBlock 349 = .ok (.ifCond .ne 51, 3) := by decide +kernel
theorem dL_isBlock_352 : decode cL_isBlock 352 = .ok (.iload_n 2, 1) := by decide +kernel
theorem dL_isBlock_353 : decode cL_isBlock 353 = .ok (.iload_n 1, 1) := by decide +kernel
theorem dL_isBlock_354 : decode cL_isBlock 354 = .ok (.if_icmp .ge 46, 3) := by decide +kernel
theorem dL_isBlock_357 : decode cL_isBlock 357 = .ok (.aload_n 0, 1) := by decide +kernel
theorem dL_isBlock_358 : decode cL_isBlock 358 = .ok (.iload_n 1, 1) := by decide +kernel
theorem dL_isBlock_359 : decode cL_isBlock 359 = .ok (.invokevirtual 214, 3) := by decide +kernel
theorem dL_isBlock_362 : decode cL_isBlock 362 = .ok (.ifCond .le 7, 3) := by decide +kernel
theorem dL_isBlock_365 : decode cL_isBlock 365 = .ok (.iconst 1, 1) := by decide +kernel
theorem dL_isBlock_366 : decode cL_isBlock 366 = .ok (.goto 4, 3) := by decide +kernel
theorem dL_isBlock_369 : decode cL_isBlock 369 = .ok (.iconst 0, 1) := by decide +kernel
theorem dL_isBlock_370 : decode cL_isBlock 370 = .ok (.iload 7, 2) := by decide +kernel
theorem dL_isBlock_372 : decode cL_isBlock 372 = .ok (.sipush (-1000), 3) := by decide +kernel
theorem dL_isBlock_375 : decode cL_isBlock 375 = .ok (.if_icmp .eq 7, 3) := by decide +kernel
theorem dL_isBlock_378 : decode cL_isBlock 378 = .ok (.iconst 1, 1) := by decide +kernel
theorem dL_isBlock_379 : decode cL_isBlock 379 = .ok (.goto 4, 3) := by decide +kernel
theorem dL_isBlock_382 : decode cL_isBlock 382 = .ok (.iconst 0, 1) := by decide +kernel
theorem dL_isBlock_383 : decode cL_isBlock 383 = .ok (.if_icmp .ne 17, 3) := by decide +kernel
theorem dL_isBlock_386 : decode cL_isBlock 386 = .ok (.aload_n 0, 1) := by decide +kernel
theorem dL_isBlock_387 : decode cL_isBlock 387 = .ok (.iload_n 1, 1) := by decide +kernel
theorem dL_isBlock_388 : decode cL_isBlock 388 = .ok (.invokevirtual 214, 3) := by decide +kernel
theorem dL_isBlock_391 : decode cL_isBlock 391 = .ok (.iload 5, 2) := by decide +kernel
theorem dL_isBlock_393 : decode cL_isBlock 393 = .ok (.if_icmp .gt 7, 3) := by decide +kernel
theorem dL_isBlock_396 : decode cL_isBlock 396 = .ok (.iconst 1, 1) := by decide +kernel
theorem dL_isBlock_397 : decode cL_isBlock 397 = .ok (.goto 4, 3) := by decide +kernel
theorem dL_isBlock_400 : decode cL_isBlock 400 = .ok (.iconst 0, 1) := by decide +kernel
theorem dL_isBlock_401 : decode cL_isBlock 401 = .ok (.istore 10, 2) := by decide +kernel
theorem dL_isBlock_403 : decode cL_isBlock 403 = .ok (.iload 10, 2) := by decide +kernel
theorem dL_isBlock_405 : decode cL_isBlock 405 = .ok (.ifCond .eq 75, 3) := by decide +kernel
theorem dL_isBlock_408 : decode cL_isBlock 408 = .ok (.aload_n 0, 1) := by decide +kernel
theorem dL_isBlock_409 : decode cL_isBlock 409 = .ok (.iload_n 1, 1) := by decide +kernel
theorem dL_isBlock_410 : decode cL_isBlock 410 = .ok (.invokevirtual 217, 3) := by decide +kernel
theorem dL_isBlock_413 : decode cL_isBlock 413 = .ok (.aload_n 0, 1) := by decide +kernel
theorem dL_isBlock_414 : decode cL_isBlock 414 = .ok (.iload_n 1, 1) := by decide +kernel
theorem dL_isBlock_415 : decode cL_isBlock 415 = .ok (.iload_n 1, 1) := by decide +kernel
theorem dL_isBlock_416 : decode cL_isBlock 416 = .ok (.invokevirtual 220, 3) := by decide +kernel
theorem dL_isBlock_419 : decode cL_isBlock 419 = .ok (.if_icmp .ne 61, 3) := by decide +kernel
theorem dL_isBlock_422 : decode cL_isBlock 422 = .ok (.aload_n 0, 1) := by decide +kernel
theorem dL_isBlock_423 : decode cL_isBlock 423 = .ok (.iload_n 1, 1) := by decide +kernel
theorem dL_isBlock_424 : decode cL_isBlock 424 = .ok (.invokevirtual 217, 3) := by decide +kernel
theorem dL_isBlock_427 : decode cL_isBlock 427 = .ok (.iconst 4, 1) := by decide +kernel
theorem dL_isBlock_428 : decode cL_isBlock 428 = .ok (.iload 5, 2) := by decide +kernel
theorem dL_isBlock_430 : decode cL_isBlock 430 = .ok (.imul, 1) := by decide +kernel
theorem dL_isBlock_431 : decode cL_isBlock 431 = .ok (.if_icmp .gt 49, 3) := by decide +kernel
theorem dL_isBlock_434 : decode cL_isBlock 434 = .ok (.aload_n 0, 1) := by decide +kernel
theorem dL_isBlock_435 : decode cL_isBlock 435 = .ok (.iload_n 1, 1) := by decide +kernel
theorem dL_isBlock_436 : decode cL_isBlock 436 = .ok (.iload_n 1, 1) := by decide +kernel
theorem dL_isBlock_437 : decode cL_isBlock 437 = .ok (.invokevirtual 223, 3) := by decide +kernel
theorem dL_isBlock_440 : decode cL_isBlock 440 = .ok (.iload_n 1, 1) := by decide +kernel
theorem dL_isBlock_441 : decode cL_isBlock 441 = .ok (.if_icmp .ne 39, 3) := by decide +kernel
theorem dL_isBlock_444 : decode cL_isBlock 444 = .ok (.aload_n 0, 1) := by decide +kernel
theorem dL_isBlock_445 : decode cL_isBlock 445 = .ok (.iconst 0, 1) := by decide +kernel
theorem dL_isBlock_446 : decode cL_isBlock 446 = .ok (.iload_n 1, 1) := by decide +kernel
theorem dL_isBlock_447 : decode cL_isBlock 447 = .ok (.invokevirtual 223, 3) := by decide +kernel
theorem dL_isBlock_450 : decode cL_isBlock 450 = .ok (.ifCond .ne 30, 3) := by decide +kernel
theorem dL_isBlock_453 : decode cL_isBlock 453 = .ok (.aload_n 0, 1) := by decide +kernel
theorem dL_isBlock_454 : decode cL_isBlock 454 = .ok (.iload_n 1, 1) := by decide +kernel
theorem dL_isBlock_455 : decode cL_isBlock 455 = .ok (.invokevirtual 226, 3) := by decide +kernel
theorem dL_isBlock_458 : decode cL_isBlock 458 = .ok (.iconst 2, 1) := by decide +kernel
theorem dL_isBlock_459 : decode cL_isBlock 459 = .ok (.iload 5, 2) := by decide +kernel
theorem dL_isBlock_461 : decode cL_isBlock 461 = .ok (.imul, 1) := by decide +kernel
theorem dL_isBlock_462 : decode cL_isBlock 462 = .ok (.iconst 1, 1) := by decide +kernel
theorem dL_isBlock_463 : decode cL_isBlock 463 = .ok (.iadd, 1) := by decide +kernel
theorem dL_isBlock_464 : decode cL_isBlock 464 = .ok (.if_icmp .lt 16, 3) := by decide +kernel
theorem dL_isBlock_467 : decode cL_isBlock 467 = .ok (.aload_n 0, 1) := by decide +kernel
theorem dL_isBlock_468 : decode cL_isBlock 468 = .ok (.iload_n 1, 1) := by decide +kernel
theorem dL_isBlock_469 : decode cL_isBlock 469 = .ok (.invokevirtual 229, 3) := by decide +kernel
theorem dL_isBlock_472 : decode cL_isBlock 472 = .ok (.iconst 3, 1) := by decide +kernel
theorem dL_isBlock_473 : decode cL_isBlock 473 = .ok (.if_icmp .lt 7, 3) := by decide +kernel
theorem dL_isBlock_476 : decode cL_isBlock 476 = .ok (.iconst 1, 1) := by decide +kernel
theorem dL_isBlock_477 : decode cL_isBlock 477 = .ok (.goto 4, 3) := by decide +kernel
theorem dL_isBlock_480 : decode cL_isBlock 480 = .ok (.iconst 0, 1) := by decide +kernel
theorem dL_isBlock_481 : decode cL_isBlock 481 = .ok (.ireturn, 1) := by decide +kernel
theorem dL_areBlocks_0 : decode cL_areBlocks 0 = .ok (.iconst 0, 1) := by decide +kernel
theorem dL_areBlocks_1 : decode cL_areBlocks 1 = .ok (.istore_n 1, 1) := by decide +kernel
theorem dL_areBlocks_2 : decode cL_areBlocks 2 = .ok (.iconst 0, 1) := by decide +kernel
theorem dL_areBlocks_3 : decode cL_areBlocks 3 = .ok (.istore_n 2, 1) := by decide +kernel
theorem dL_areBlocks_4 : decode cL_areBlocks 4 = .ok (.aload_n 0, 1) := by decide +kernel
theorem dL_areBlocks_5 : decode cL_areBlocks 5 = .ok (.invokevirtual 156, 3) := by decide +kernel
theorem dL_areBlocks_8 : decode cL_areBlocks 8 = .ok (.istore_n 3, 1) := by decide +kernel
theorem dL_areBlocks_9 : decode cL_areBlocks 9 = .ok (.aload_n 0, 1) := by decide +kernel
theorem dL_areBlocks_10 : decode cL_areBlocks 10 = .ok (.invokevirtual 232, 3) := by decide +kernel
theorem dL_areBlocks_13 : decode cL_areBlocks 13 = .ok (.istore 4, 2) := by decide +kernel
theorem dL_areBlocks_15 : decode cL_areBlocks 15 = .ok (.aload_n 0, 1) := by decide +kernel
theorem dL_areBlocks_16 : decode cL_areBlocks 16 = .ok (.invokevirtual 235, 3) := by decide +kernel
theorem dL_areBlocks_19 : decode cL_areBlocks 19 = .ok (.ifCond .eq 31, 3) := by decide +kernel
theorem dL_areBlocks_22 : decode cL_areBlocks 22 = .ok (.aload_n 0, 1) := by decide +kernel
theorem dL_areBlocks_23 : decode cL_areBlocks 23 = .ok (.iload 4, 2) := by decide +kernel
theorem dL_areBlocks_25 : decode cL_areBlocks 25 = .ok (.invokevirtual 205, 3) := by decide +kernel
theorem dL_areBlocks_28 : decode cL_areBlocks 28 = .ok (.ifCond .eq 22, 3) := by decide +kernel
theorem dL_areBlocks_31 : decode cL_areBlocks 31 = .ok (.aload_n 0, 1) := by decide +kernel
theorem dL_areBlocks_32 : decode cL_areBlocks 32 = .ok (.invokevirtual 92, 3) := by decide +kernel
theorem dL_areBlocks_35 : decode cL_areBlocks 35 = .ok (.aload_n 0, 1) := by decide +kernel
theorem dL_areBlocks_36 : decode cL_areBlocks 36 = .ok (.invokevirtual 139, 3) := by decide +kernel
theorem dL_areBlocks_39 : decode cL_areBlocks 39 = .ok (.iload_n 3, 1) := by decide +kernel
theorem dL_areBlocks_40 : decode cL_areBlocks 40 = .ok (.iadd, 1) := by decide +kernel
theorem dL_areBlocks_41 : decode cL_areBlocks 41 = .ok (.iconst 1, 1) := by decide +kernel
theorem dL_areBlocks_42 : decode cL_areBlocks 42 = .ok (.isub, 1) := by decide +kernel
theorem dL_areBlocks_43 : decode cL_areBlocks 43 = .ok (.if_icmp .ne 7, 3) := by decide +kernel
theorem dL_areBlocks_46 : decode cL_areBlocks 46 = .ok (.iconst 1, 1) := by decide +kernel
theorem dL_areBlocks_47 : decode cL_areBlocks 47 = .ok (.goto 4, 3) := by decide +kernel
theorem dL_areBlocks_50 : decode cL_areBlocks 50 = .ok (.iconst 0, 1) := by decide +kernel
theorem dL_areBlocks_51 : decode cL_areBlocks 51 = .ok (.istore 5, 2) := by decide +kernel
theorem dL_areBlocks_53 : decode cL_areBlocks 53 = .ok (.iconst 0, 1) := by decide +kernel
theorem dL_areBlocks_54 : decode cL_areBlocks 54 = .ok (.istore 6, 2) := by decide +kernel
theorem dL_areBlocks_56 : decode cL_areBlocks 56 = .ok (.iload 5, 2) := by decide +kernel
theorem dL_areBlocks_58 : decode cL_areBlocks 58 = .ok (.ifCond .eq 97, 3) := by decide +kernel
theorem dL_areBlocks_61 : decode cL_areBlocks 61 = .ok (.iload 6, 2) := by decide +kernel
theorem dL_areBlocks_63 : decode cL_areBlocks 63 = .ok (.iload_n 3, 1) := by decide +kernel
theorem dL_areBlocks_64 : decode cL_areBlocks 64 = .ok (.if_icmp .ge 91, 3) := by decide +kernel
theorem dL_areBlocks_67 : decode cL_areBlocks 67 = .ok (.aload_n 0, 1) := by decide +kernel
theorem dL_areBlocks_68 : decode cL_areBlocks 68 = .ok (.iload 6, 2) := by decide +kernel
theorem dL_areBlocks_70 : decode cL_areBlocks 70 = .ok (.invokestatic 159, 3) := by decide +kernel
theorem dL_areBlocks_73 : decode cL_areBlocks 73 = .ok (.istore 7, 2) := by decide +kernel
theorem dL_areBlocks_75 : decode cL_areBlocks 75 = .ok (.iload_n 1, 1) := by decide +kernel
theorem dL_areBlocks_76 : decode cL_areBlocks 76 = .ok (.aload_n 0, 1) := by decide +kernel
theorem dL_areBlocks_77 : decode cL_areBlocks 77 = .ok (.iload 7, 2) := by decide +kernel
theorem dL_areBlocks_79 : decode cL_areBlocks 79 = .ok (.invokevirtual 208, 3) := by decide +kernel
theorem dL_areBlocks_82 : decode cL_areBlocks 82 = .ok (.ifCond .ne 7, 3) := by decide +kernel
theorem dL_areBlocks_85 : decode cL_areBlocks 85 = .ok (.iconst 1, 1) := by decide +kernel
theorem dL_areBlocks_86 : decode cL_areBlocks 86 = .ok (.goto 4, 3) := by decide +kernel
theorem dL_areBlocks_89 : decode cL_areBlocks 89 = .ok (.iconst 0, 1) := by decide +kernel
theorem dL_areBlocks_90 : decode cL_areBlocks 90 = .ok (.iadd, 1) := by decide +kernel
theorem dL_areBlocks_91 : decode cL_areBlocks 91 = .ok (.istore_n 1, 1) := by decide +kernel
theorem dL_areBlocks_92 : decode cL_areBlocks 92 = .ok (.iload_n 2, 1) := by decide +kernel
theorem dL_areBlocks_93 : decode cL_areBlocks 93 = .ok (.aload_n 0, 1) := by decide +kernel
theorem dL_areBlocks_94 : decode cL_areBlocks 94 = .ok (.iload 7, 2) := by decide +kernel
theorem dL_areBlocks_96 : decode cL_areBlocks 96 = .ok (.invokevirtual 202, 3) := by decide +kernel
theorem dL_areBlocks_99 : decode cL_areBlocks 99 = .ok (.ifCond .eq 7, 3) := by decide +kernel
theorem dL_areBlocks_102 : decode cL_areBlocks 102 = .ok (.iconst 1, 1) := by decide +kernel
theorem dL_areBlocks_103 : decode cL_areBlocks 103 = .ok (.goto 4, 3) := by decide +kernel
theorem dL_areBlocks_106 : decode cL_areBlocks 106 = .ok (.iconst 0, 1) := by decide +kernel
theorem dL_areBlocks_107 : decode cL_areBlocks 107 = .ok (.iadd, 1) := by decide +kernel
theorem dL_areBlocks_108 : decode cL_areBlocks 108 = .ok (.istore_n 2, 1) := by decide +kernel
theorem dL_areBlocks_109 : decode cL_areBlocks 109 = .ok (.aload_n 0, 1) := by decide +kernel
theorem dL_areBlocks_110 : decode cL_areBlocks 110 = .ok (.iload 7, 2) := by decide +kernel
theorem dL_areBlocks_112 : decode cL_areBlocks 112 = .ok (.invokestatic 239, 3) := by decide +kernel
theorem dL_areBlocks_115 : decode cL_areBlocks 115 = .ok (.ifCond .eq 31, 3) := by decide +kernel
theorem dL_areBlocks_118 : decode cL_areBlocks 118 = .ok (.aload_n 0, 1) := by decide +kernel
theorem dL_areBlocks_119 : decode cL_areBlocks 119 = .ok (.iload 7, 2) := by decide +kernel
theorem dL_areBlocks_121 : decode cL_areBlocks 121 = .ok (.invokevirtual 205, 3) := by decide +kernel
theorem dL_areBlocks_124 : decode cL_areBlocks 124 = .ok (.ifCond .eq 18, 3) := by decide +kernel
theorem dL_areBlocks_127 : decode cL_areBlocks 127 = .ok (.aload_n 0, 1) := by decide +kernel
theorem dL_areBlocks_128 : decode cL_areBlocks 128 = .ok (.iload 7, 2) := by decide +kernel
theorem dL_areBlocks_130 : decode cL_areBlocks 130 = .ok (.invokevirtual 181, 3) := by decide +kernel
theorem dL_areBlocks_133 : decode cL_areBlocks 133 = .ok (.aload_n 0, 1) := by decide +kernel
theorem dL_areBlocks_134 : decode cL_areBlocks 134 = .ok (.iload 4, 2) := by decide +kernel
theorem dL_areBlocks_136 : decode cL_areBlocks 136 = .ok (.invokevirtual 181, 3) := by decide +kernel
theorem dL_areBlocks_139 : decode cL_areBlocks 139 = .ok (.if_icmp .gt 7, 3) := by decide +kernel
theorem dL_areBlocks_142 : decode cL_areBlocks 142 = .ok (.iconst 1, 1) := by decide +kernel
theorem dL_areBlocks_143 : decode cL_areBlocks 143 = .ok (.goto 4, 3) := by decide +kernel
theorem dL_areBlocks_146 : decode cL_areBlocks 146 = .ok (.iconst 0, 1) := by decide +kernel
theorem dL_areBlocks_147 : decode cL_areBlocks 147 = .ok (.istore 5, 2) := by decide +kernel
theorem dL_areBlocks_149 : decode cL_areBlocks 149 = .ok (.iinc 6 1, 3) := by decide +kernel
theorem dL_areBlocks_152 : decode cL_areBlocks 152 = .ok (.goto (-96), 3) := by decide +kernel
theorem dL_areBlocks_155 : decode cL_areBlocks 155 = .ok (.iconst 0, 1) := by decide +kernel
theorem dL_areBlocks_156 : decode cL_areBlocks 156 = .ok (.istore 6, 2) := by decide +kernel
theorem dL_areBlocks_158 : decode cL_areBlocks 158 = .ok (.iconst 0, 1) := by decide +kernel
theorem dL_areBlocks_159 : decode cL_areBlocks 159 = .ok (.istore 7, 2) := by decide +kernel
theorem dL_areBlocks_161 : decode cL_areBlocks 161 = .ok (.iload 7, 2) := by decide +kernel
theorem dL_areBlocks_163 : decode cL_areBlocks 163 = .ok (.bipush 16, 2) := by decide +kernel
theorem dL_areBlocks_165 : decode cL_areBlocks 165 = .ok (.if_icmp .ge 20, 3) := by decide +kernel
theorem dL_areBlocks_168 : decode cL_areBlocks 168 = .ok (.iload 6, 2) := by decide +kernel
theorem dL_areBlocks_170 : decode cL_areBlocks 170 = .ok (.aload_n 0, 1) := by decide +kernel
theorem dL_areBlocks_171 : decode cL_areBlocks 171 = .ok (.iload 7, 2) := by decide +kernel
theorem dL_areBlocks_173 : decode cL_areBlocks 173 = .ok (.invokevirtual 243, 3) := by decide +kernel
theorem dL_areBlocks_176 : decode cL_areBlocks 176 = .ok (.iadd, 1) := by decide +kernel
theorem dL_areBlocks_177 : decode cL_areBlocks 177 = .ok (.istore 6, 2) := by decide +kernel
theorem dL_areBlocks_179 : decode cL_areBlocks 179 = .ok (.iinc 7 1, 3) := by decide +kernel
theorem dL_areBlocks_182 : decode cL_areBlocks 182 = .ok (.goto (-21), 3) := by decide +kernel
theorem dL_areBlocks_185 : decode cL_areBlocks 185 = .ok (.iload 5, 2) := by decide +kernel
theorem dL_areBlocks_187 : decode cL_areBlocks 187 = .ok (.ifCond .eq 53, 3) := by decide +kernel
theorem dL_areBlocks_190 : decode cL_areBlocks 190 = .ok (.iload 6, 2) := by decide +kernel
theorem dL_areBlocks_192 : decode cL_areBlocks 192 = .ok (.iload_n 3, 1) := by decide +kernel
theorem dL_areBlocks_193 : decode cL_areBlocks 193 = .ok (.if_icmp .ne 47, 3) := by decide +kernel
theorem dL_areBlocks_196 : decode cL_areBlocks 196 = .ok (.aload_n 0, 1) := by decide +kernel
theorem dL_areBlocks_197 : decode cL_areBlocks 197 = .ok (.invokevirtual 246, 3) := by decide +kernel
theorem dL_areBlocks_200 : decode cL_areBlocks 200 = .ok (.iload_n 1, 1) := by decide +kernel
theorem dL_areBlocks_201 : decode cL_areBlocks 201 = .ok (.if_icmp .ne 39, 3) := by decide +kernel
theorem dL_areBlocks_204 : decode cL_areBlocks 204 = .ok (.aload_n 0, 1) := by decide +kernel
theorem dL_areBlocks_205 : decode cL_areBlocks 205 = .ok (.iload_n 1, 1) := by decide +kernel
theorem dL_areBlocks_206 : decode cL_areBlocks 206 = .ok (.invokestatic 249, 3) := by decide +kernel
theorem dL_areBlocks_209 : decode cL_areBlocks 209 = .ok (.sipush (-1000), 3) := by decide +kernel
theorem dL_areBlocks_212 : decode cL_areBlocks 212 = .ok (.if_icmp .ne 28, 3) := by decide +kernel
theorem dL_areBlocks_215 : decode cL_areBlocks 215 = .ok (.aload_n 0, 1) := by decide +kernel
theorem dL_areBlocks_216 : decode cL_areBlocks 216 = .ok (.invokevirtual 251, 3) := by decide +kernel
theorem dL_areBlocks_219 : decode cL_areBlocks 219 = .ok (.iload_n 2, 1) := by decide +kernel
theorem dL_areBlocks_220 : decode cL_areBlocks 220 = .ok (.i2f, 1) := by decide +kernel
theorem dL_areBlocks_221 : decode cL_areBlocks 221 = .ok (.iload_n 3, 1) := by decide +kernel
theorem dL_areBlocks_222 : decode cL_areBlocks 222 = .ok (.i2f, 1) := by decide +kernel
theorem dL_areBlocks_223 : decode cL_areBlocks 223 = .ok (.fdiv, 1) := by decide +kernel
theorem dL_areBlocks_224 : decode cL_areBlocks 224 = .ok (.fcmp .l, 1) := by decide +kernel
theorem dL_areBlocks_225 : decode cL_areBlocks 225 = .ok (.ifCond .ne 15, 3) := by decide +kernel
theorem dL_areBlocks_228 : decode cL_areBlocks 228 = .ok (.aload_n 0, 1) := by decide +kernel
theorem dL_areBlocks_229 : decode cL_areBlocks 229 = .ok (.iload_n 1, 1) := by decide +kernel
theorem dL_areBlocks_230 : decode cL_areBlocks 230 = .ok (.invokestatic 255, 3) := by decide +kernel
theorem dL_areBlocks_233 : decode cL_areBlocks 233 = .ok (.ifCond .eq 7, 3) := by decide +kernel
theorem dL_areBlocks_236 : decode cL_areBlocks 236 = .ok (.iconst 1, 1) := by decide +kernel
theorem dL_areBlocks_237 : decode cL_areBlocks 237 = .ok (.goto 4, 3) := by decide +kernel
theorem dL_areBlocks_240 : decode cL_areBlocks 240 = .ok (.iconst 0, 1) := by decide +kernel
theorem dL_areBlocks_241 : decode cL_areBlocks 241 = .ok (.ireturn, 1) := by decide +kernel
theorem dL_areTips_0 : decode cL_areTips 0 = .ok (.aload_n 0, 1) := by decide +kernel
theorem dL_areTips_1 : decode cL_areTips 1 = .ok (.aload_n 0, 1) := by decide +kernel
theorem dL_areTips_2 : decode cL_areTips 2 = .ok (.iconst 0, 1) := by decide +kernel
theorem dL_areTips_3 : decode cL_areTips 3 = .ok (.invokestatic 249, 3) := by decide +kernel
theorem dL_areTips_6 : decode cL_areTips 6 = .ok (.invokevirtual 181, 3) := by decide +kernel
theorem dL_areTips_9 : decode cL_areTips 9 = .ok (.istore_n 2, 1) := by decide +kernel
theorem dL_areTips_10 : decode cL_areTips 10 = .ok (.aload_n 0, 1) := by decide +kernel
theorem dL_areTips_11 : decode cL_areTips 11 = .ok (.aload_n 0, 1) := by decide +kernel
theorem dL_areTips_12 : decode cL_areTips 12 = .ok (.iconst 0, 1) := by decide +kernel
theorem dL_areTips_13 : decode cL_areTips 13 = .ok (.invokestatic 249, 3) := by decide +kernel
theorem dL_areTips_16 : decode cL_areTips 16 = .ok (.invokevirtual 208, 3) := by decide +kernel
theorem dL_areTips_19 : decode cL_areTips 19 = .ok (.ifCond .ne 7, 3) := by decide +kernel
theorem dL_areTips_22 : decode cL_areTips 22 = .ok (.iconst 1, 1) := by decide +kernel
theorem dL_areTips_23 : decode cL_areTips 23 = .ok (.goto 4, 3) := by decide +kernel
theorem dL_areTips_26 : decode cL_areTips 26 = .ok (.iconst 0, 1) := by decide +kernel
theorem dL_areTips_27 : decode cL_areTips 27 = .ok (.istore_n 3, 1) := by decide +kernel
theorem dL_areTips_28 : decode cL_areTips 28 = .ok (.iconst 1, 1) := by decide +kernel
theorem dL_areTips_29 : decode cL_areTips 29 = .ok (.istore 4, 2) := by decide +kernel
theorem dL_areTips_31 : decode cL_areTips 31 = .ok (.iload_n 3, 1) := by decide +kernel
theorem dL_areTips_32 : decode cL_areTips 32 = .ok (.ifCond .eq 114, 3) := by decide +kernel
theorem dL_areTips_35 : decode cL_areTips 35 = .ok (.iload 4, 2) := by decide +kernel
theorem dL_areTips_37 : decode cL_areTips 37 = .ok (.iload_n 1, 1) := by decide +kernel
theorem dL_areTips_38 : decode cL_areTips 38 = .ok (.if_icmp .ge 108, 3) := by decide +kernel
theorem dL_areTips_41 : decode cL_areTips 41 = .ok (.aload_n 0, 1) := by decide +kernel
theorem dL_areTips_42 : decode cL_areTips 42 = .ok (.iload 4, 2) := by decide +kernel
theorem dL_areTips_44 : decode cL_areTips 44 = .ok (.iconst 1, 1) := by decide +kernel
theorem dL_areTips_45 : decode cL_areTips 45 = .ok (.isub, 1) := by decide +kernel
theorem dL_areTips_46 : decode cL_areTips 46 = .ok (.invokestatic 249, 3) := by decide +kernel
theorem dL_areTips_49 : decode cL_areTips 49 = .ok (.istore 5, 2) := by decide +kernel
theorem dL_areTips_51 : decode cL_areTips 51 = .ok (.aload_n 0, 1) := by decide +kernel
theorem dL_areTips_52 : decode cL_areTips 52 = .ok (.iload 4, 2) := by decide +kernel
theorem dL_areTips_54 : decode cL_areTips 54 = .ok (.invokestatic 249, 3) := by decide +kernel
theorem dL_areTips_57 : decode cL_areTips 57 = .ok (.istore 6, 2) := by decide +kernel
theorem dL_areTips_59 : decode cL_areTips 59 = .ok (.aload_n 0, 1) := by decide +kernel
theorem dL_areTips_60 : decode cL_areTips 60 = .ok (.iload 5, 2) := by decide +kernel
theorem dL_areTips_62 : decode cL_areTips 62 = .ok (.invokevirtual 181, 3) := by decide +kernel
theorem dL_areTips_65 : decode cL_areTips 65 = .ok (.aload_n 0, 1) := by decide +kernel
theorem dL_areTips_66 : decode cL_areTips 66 = .ok (.iload 6, 2) := by decide +kernel
theorem dL_areTips_68 : decode cL_areTips 68 = .ok (.invokevirtual 181, 3) := by decide +kernel
theorem dL_areTips_71 : decode cL_areTips 71 = .ok (.isub, 1) := by decide +kernel
theorem dL_areTips_72 : decode cL_areTips 72 = .ok (.istore 7, 2) := by decide +kernel
theorem dL_areTips_74 : decode cL_areTips 74 = .ok (.aload_n 0, 1) := by decide +kernel
theorem dL_areTips_75 : decode cL_areTips 75 = .ok (.iload 6, 2) := by decide +kernel
theorem dL_areTips_77 : decode cL_areTips 77 = .ok (.invokevirtual 164, 3) := by decide +kernel
theorem dL_areTips_80 : decode cL_areTips 80 = .ok (.aload_n 0, 1) := by decide +kernel
theorem dL_areTips_81 : decode cL_areTips 81 = .ok (.iload 5, 2) := by decide +kernel
theorem dL_areTips_83 : decode cL_areTips 83 = .ok (.invokevirtual 164, 3) := by decide +kernel
theorem dL_areTips_86 : decode cL_areTips 86 = .ok (.isub, 1) := by decide +kernel
theorem dL_areTips_87 : decode cL_areTips 87 = .ok (.istore 8, 2) := by decide +kernel
theorem dL_areTips_89 : decode cL_areTips 89 = .ok (.iload_n 2, 1) := by decide +kernel
theorem dL_areTips_90 : decode cL_areTips 90 = .ok (.aload_n 0, 1) := by decide +kernel
theorem dL_areTips_91 : decode cL_areTips 91 = .ok (.iload 6, 2) := by decide +kernel
theorem dL_areTips_93 : decode cL_areTips 93 = .ok (.invokevirtual 181, 3) := by decide +kernel
theorem dL_areTips_96 : decode cL_areTips 96 = .ok (.iadd, 1) := by decide +kernel
theorem dL_areTips_97 : decode cL_areTips 97 = .ok (.istore_n 2, 1) := by decide +kernel
theorem dL_areTips_98 : decode cL_areTips 98 = .ok (.aload_n 0, 1) := by decide +kernel
theorem dL_areTips_99 : decode cL_areTips 99 = .ok (.iload 6, 2) := by decide +kernel
theorem dL_areTips_101 : decode cL_areTips 101 = .ok (.invokevirtual 208, 3) := by decide +kernel
theorem dL_areTips_104 : decode cL_areTips 104 = .ok (.ifCond .ne 34, 3) := by decide +kernel
theorem dL_areTips_107 : decode cL_areTips 107 = .ok (.iload 7, 2) := by decide +kernel
theorem dL_areTips_109 : decode cL_areTips 109 = .ok (.ifCond .gt 25, 3) := by decide +kernel
theorem dL_areTips_112 : decode cL_areTips 112 = .ok (.iload 7, 2) := by decide +kernel
theorem dL_areTips_114 : decode cL_areTips 114 = .ok (.ifCond .ne 24, 3) := by decide +kernel
theorem dL_areTips_117 : decode cL_areTips 117 = .ok (.iload 8, 2) := by decide +kernel
theorem dL_areTips_119 : decode cL_areTips 119 = .ok (.ifCond .gt 15, 3) := by decide +kernel
theorem dL_areTips_122 : decode cL_areTips 122 = .ok (.iload 8, 2) := by decide +kernel
theorem dL_areTips_124 : decode cL_areTips 124 = .ok (.ifCond .ne 14, 3) := by decide +kernel
theorem dL_areTips_127 : decode cL_areTips 127 = .ok (.iload 5, 2) := by decide +kernel
theorem dL_areTips_129 : decode cL_areTips 129 = .ok (.iload 6, 2) := by decide +kernel
theorem dL_areTips_131 : decode cL_areTips 131 = .ok (.if_icmp .ge 7, 3) := by decide +kernel
theorem dL_areTips_134 : decode cL_areTips 134 = .ok (.iconst 1, 1) := by decide +kernel
theorem dL_areTips_135 : decode cL_areTips 135 = .ok (.goto 4, 3) := by decide +kernel
theorem dL_areTips_138 : decode cL_areTips 138 = .ok (.iconst 0, 1) := by decide +kernel
theorem dL_areTips_139 : decode cL_areTips 139 = .ok (.istore_n 3, 1) := by decide +kernel
theorem dL_areTips_140 : decode cL_areTips 140 = .ok (.iinc 4 1, 3) := by decide +kernel
theorem dL_areTips_143 : decode cL_areTips 143 = .ok (.goto (-112), 3) := by decide +kernel
theorem dL_areTips_146 : decode cL_areTips 146 = .ok (.iload_n 3, 1) := by decide +kernel
theorem dL_areTips_147 : decode cL_areTips 147 = .ok (.ifCond .eq 20, 3) := by decide +kernel
theorem dL_areTips_150 : decode cL_areTips 150 = .ok (.aload_n 0, 1) := by decide +kernel
theorem dL_areTips_151 : decode cL_areTips 151 = .ok (.invokevirtual 258, 3) := by decide +kernel
theorem dL_areTips_154 : decode cL_areTips 154 = .ok (.iload_n 2, 1) := by decide +kernel
theorem dL_areTips_155 : decode cL_areTips 155 = .ok (.i2d, 1) := by decide +kernel
theorem dL_areTips_156 : decode cL_areTips 156 = .ok (.iload_n 1, 1) := by decide +kernel
theorem dL_areTips_157 : decode cL_areTips 157 = .ok (.i2d, 1) := by decide +kernel
theorem dL_areTips_158 : decode cL_areTips 158 = .ok (.ddiv, 1) := by decide +kernel
theorem dL_areTips_159 : decode cL_areTips 159 = .ok (.dcmp .l, 1) := by decide +kernel
theorem dL_areTips_160 : decode cL_areTips 160 = .ok (.ifCond .ne 7, 3) := by decide +kernel
theorem dL_areTips_163 : decode cL_areTips 163 = .ok (.iconst 1, 1) := by decide +kernel
theorem dL_areTips_164 : decode cL_areTips 164 = .ok (.goto 4, 3) := by decide +kernel
theorem dL_areTips_167 : decode cL_areTips 167 = .ok (.iconst 0, 1) := by decide +kernel
theorem dL_areTips_168 : decode cL_areTips 168 = .ok (.ireturn, 1) := by decide +kernel
theorem dL_isWritten_0 : decode cL_isWritten 0 = .ok (.aload_n 0, 1) := by decide +kernel
theorem dL_isWritten_1 : decode cL_isWritten 1 = .ok (.invokestatic 262, 3) := by decide +kernel
theorem dL_isWritten_4 : decode cL_isWritten 4 = .ok (.lstore_n 2, 1) := by decide +kernel
theorem dL_isWritten_5 : decode cL_isWritten 5 = .ok (.aload_n 0, 1) := by decide +kernel
theorem dL_isWritten_6 : decode cL_isWritten 6 = .ok (.iload_n 1, 1) := by decide +kernel
theorem dL_isWritten_7 : decode cL_isWritten 7 = .ok (.invokevirtual 147, 3) := by decide +kernel
theorem dL_isWritten_10 : decode cL_isWritten 10 = .ok (.istore 4, 2) := by decide +kernel
theorem dL_isWritten_12 : decode cL_isWritten 12 = .ok (.aload_n 0, 1) := by decide +kernel
theorem dL_isWritten_13 : decode cL_isWritten 13 = .ok (.iload_n 1, 1) := by decide +kernel
theorem dL_isWritten_14 : decode cL_isWritten 14 = .ok (.invokevirtual 153, 3) := by decide +kernel
theorem dL_isWritten_17 : decode cL_isWritten 17 = .ok (.istore 5, 2) := by decide +kernel
theorem dL_isWritten_19 : decode cL_isWritten 19 = .ok (.aload_n 0, 1) := by decide +kernel
theorem dL_isWritten_20 : decode cL_isWritten 20 = .ok (.iload_n 1, 1) := by decide +kernel
theorem dL_isWritten_21 : decode cL_isWritten 21 = .ok (.invokevirtual 150, 3) := by decide +kernel
theorem dL_isWritten_24 : decode cL_isWritten 24 = .ok (.istore 6, 2) := by decide +kernel
theorem dL_isWritten_26 : decode cL_isWritten 26 = .ok (.aload_n 0, 1) := by decide +kernel
theorem dL_isWritten_27 : decode cL_isWritten 27 = .ok (.iload_n 1, 1) := by decide +kernel
theorem dL_isWritten_28 : decode cL_isWritten 28 = .ok (.invokevirtual 266, 3) := by decide +kernel
theorem dL_isWritten_31 : decode cL_isWritten 31 = .ok (.istore 7, 2) := by decide +kernel
theorem dL_isWritten_33 : decode cL_isWritten 33 = .ok (.aload_n 0, 1) := by decide +kernel
theorem dL_isWritten_34 : decode cL_isWritten 34 = .ok (.invokevirtual 156, 3) := by decide +kernel
theorem dL_isWritten_37 : decode cL_isWritten 37 = .ok (.bipush 16, 2) := by decide +kernel
theorem dL_isWritten_39 : decode cL_isWritten 39 = .ok (.if_icmp .ge 16, 3) := by decide +kernel
theorem dL_isWritten_42 : decode cL_isWritten 42 = .ok (.aload_n 0, 1) := by decide +kernel
theorem dL_isWritten_43 : decode cL_isWritten 43 = .ok (.iload 4, 2) := by decide +kernel
theorem dL_isWritten_45 : decode cL_isWritten 45 = .ok (.invokevirtual 205, 3) := by decide +kernel
theorem dL_isWritten_48 : decode cL_isWritten 48 = .ok (.ifCond .eq 7, 3) := by decide +kernel
theorem dL_isWritten_51 : decode cL_isWritten 51 = .ok (.iconst 1, 1) := by decide +kernel
theorem dL_isWritten_52 : decode cL_isWritten 52 = .ok (.goto 4, 3) := by decide +kernel
theorem dL_isWritten_55 : decode cL_isWritten 55 = .ok (.iconst 0, 1) := by decide +kernel
theorem dL_isWritten_56 : decode cL_isWritten 56 = .ok (.istore 8, 2) := by decide +kernel
theorem dL_isWritten_58 : decode cL_isWritten 58 = .ok (.aload_n 0, 1) := by decide +kernel
theorem dL_isWritten_59 : decode cL_isWritten 59 = .ok (.iload_n 1, 1) := by decide +kernel
theorem dL_isWritten_60 : decode cL_isWritten 60 = .ok (.invokestatic 104, 3) := by decide +kernel
theorem dL_isWritten_63 : decode cL_isWritten 63 = .ok (.istore 9, 2) := by decide +kernel
theorem dL_isWritten_65 : decode cL_isWritten 65 = .ok (.iload 9, 2) := by decide +kernel
theorem dL_isWritten_67 : decode cL_isWritten 67 = .ok (.ldc 10, 2) := by decide +kernel
theorem dL_isWritten_69 : decode cL_isWritten 69 = .ok (.if_icmp .ne 23, 3) := by decide +kernel
theorem dL_isWritten_72 : decode cL_isWritten 72 = .ok (.iload 8, 2) := by decide +kernel
theorem dL_isWritten_74 : decode cL_isWritten 74 = .ok (.ifCond .ne 16, 3) := by decide +kernel
theorem dL_isWritten_77 : decode cL_isWritten 77 = .ok (.aload_n 0, 1) := by decide +kernel
theorem dL_isWritten_78 : decode cL_isWritten 78 = .ok (.invokestatic 262, 3) := by decide +kernel
theorem dL_isWritten_81 : decode cL_isWritten 81 = .ok (.lload_n 2, 1) := by decide +kernel
theorem dL_isWritten_82 : decode cL_isWritten 82 = .ok (.lcmp, 1) := by decide +kernel
theorem dL_isWritten_83 : decode cL_isWritten 83 = .ok (.ifCond .ne 7, 3) := by decide +kernel
theorem dL_isWritten_86 : decode cL_isWritten 86 = .ok (.iconst 1, 1) := by decide +kernel
theorem dL_isWritten_87 : decode cL_isWritten 87 = .ok (.goto 4, 3) := by decide +kernel
theorem dL_isWritten_90 : decode cL_isWritten 90 = .ok (.iconst 0, 1) := by decide +kernel
theorem dL_isWritten_91 : decode cL_isWritten 91 = .ok (.ireturn, 1) := by decide +kernel
theorem dL_isWritten_92 : decode cL_isWritten 92 = .ok (.iload 8, 2) := by decide +kernel
theorem dL_isWritten_94 : decode cL_isWritten 94 = .ok (.ifCond .eq 98, 3) := by decide +kernel
theorem dL_isWritten_97 : decode cL_isWritten 97 = .ok (.aload_n 0, 1) := by decide +kernel
theorem dL_isWritten_98 : decode cL_isWritten 98 = .ok (.iload 9, 2) := by decide +kernel
theorem dL_isWritten_100 : decode cL_isWritten 100 = .ok (.invokevirtual 164, 3) := by decide +kernel
theorem dL_isWritten_103 : decode cL_isWritten 103 = .ok (.iload 5, 2) := by decide +kernel
theorem dL_isWritten_105 : decode cL_isWritten 105 = .ok (.if_icmp .ne 87, 3) := by decide +kernel
theorem dL_isWritten_108 : decode cL_isWritten 108 = .ok (.aload_n 0, 1) := by decide +kernel
theorem dL_isWritten_109 : decode cL_isWritten 109 = .ok (.iload 9, 2) := by decide +kernel
theorem dL_isWritten_111 : decode cL_isWritten 111 = .ok (.invokevirtual 48, 3) := by decide +kernel
theorem dL_isWritten_114 : decode cL_isWritten 114 = .ok (.iload 4, 2) := by decide +kernel
theorem dL_isWritten_116 : decode cL_isWritten 116 = .ok (.if_icmp .ne 76, 3) := by decide +kernel
theorem dL_isWritten_119 : decode cL_isWritten 119 = .ok (.aload_n 0, 1) := by decide +kernel
theorem dL_isWritten_120 : decode cL_isWritten 120 = .ok (.iload 9, 2) := by decide +kernel
theorem dL_isWritten_122 : decode cL_isWritten 122 = .ok (.invokevirtual 184, 3) := by decide +kernel
theorem dL_isWritten_125 : decode cL_isWritten 125 = .ok (.iload_n 1, 1) := by decide +kernel
theorem dL_isWritten_126 : decode cL_isWritten 126 = .ok (.if_icmp .ne 66, 3) := by decide +kernel
theorem dL_isWritten_129 : decode cL_isWritten 129 = .ok (.aload_n 0, 1) := by decide +kernel
theorem dL_isWritten_130 : decode cL_isWritten 130 = .ok (.iload 9, 2) := by decide +kernel
theorem dL_isWritten_132 : decode cL_isWritten 132 = .ok (.invokevirtual 169, 3) := by decide +kernel
theorem dL_isWritten_135 : decode cL_isWritten 135 = .ok (.iload 6, 2) := by decide +kernel
theorem dL_isWritten_137 : decode cL_isWritten 137 = .ok (.if_icmp .ne 55, 3) := by decide +kernel
theorem dL_isWritten_140 : decode cL_isWritten 140 = .ok (.aload_n 0, 1) := by decide +kernel
theorem dL_isWritten_141 : decode cL_isWritten 141 = .ok (.iload_n 1, 1) := by decide +kernel
theorem dL_isWritten_142 : decode cL_isWritten 142 = .ok (.invokevirtual 147, 3) := by decide +kernel
theorem dL_isWritten_145 : decode cL_isWritten 145 = .ok (.iload 9, 2) := by decide +kernel
theorem dL_isWritten_147 : decode cL_isWritten 147 = .ok (.if_icmp .ne 45, 3) := by decide +kernel
theorem dL_isWritten_150 : decode cL_isWritten 150 = .ok (.aload_n 0, 1) := by decide +kernel
theorem dL_isWritten_151 : decode cL_isWritten 151 = .ok (.iload_n 1, 1) := by decide +kernel
theorem dL_isWritten_152 : decode cL_isWritten 152 = .ok (.invokevirtual 150, 3) := by decide +kernel
theorem dL_isWritten_155 : decode cL_isWritten 155 = .ok (.ifCond .ne 37, 3) := by decide +kernel
theorem dL_isWritten_158 : decode cL_isWritten 158 = .ok (.aload_n 0, 1) := by decide +kernel
theorem dL_isWritten_159 : decode cL_isWritten 159 = .ok (.iload_n 1, 1) := by decide +kernel
theorem dL_isWritten_160 : decode cL_isWritten 160 = .ok (.invokevirtual 266, 3) := by decide +kernel
theorem dL_isWritten_163 : decode cL_isWritten 163 = .ok (.iload 7, 2) := by decide +kernel
theorem dL_isWritten_165 : decode cL_isWritten 165 = .ok (.iconst 1, 1) := by decide +kernel
theorem dL_isWritten_166 : decode cL_isWritten 166 = .ok (.iadd, 1) := by decide +kernel
theorem dL_isWritten_167 : decode cL_isWritten 167 = .ok (.if_icmp .ne 25, 3) := by decide +kernel
theorem dL_isWritten_170 : decode cL_isWritten 170 = .ok (.aload_n 0, 1) := by decide +kernel
theorem dL_isWritten_171 : decode cL_isWritten 171 = .ok (.iload 9, 2) := by decide +kernel
theorem dL_isWritten_173 : decode cL_isWritten 173 = .ok (.invokevirtual 205, 3) := by decide +kernel
theorem dL_isWritten_176 : decode cL_isWritten 176 = .ok (.ifCond .eq 16, 3) := by decide +kernel
theorem dL_isWritten_179 : decode cL_isWritten 179 = .ok (.aload_n 0, 1) := by decide +kernel
theorem dL_isWritten_180 : decode cL_isWritten 180 = .ok (.iload 9, 2) := by decide +kernel
theorem dL_isWritten_182 : decode cL_isWritten 182 = .ok (.invokestatic 239, 3) := by decide +kernel
theorem dL_isWritten_185 : decode cL_isWritten 185 = .ok (.ifCond .eq 7, 3) := by decide +kernel
theorem dL_isWritten_188 : decode cL_isWritten 188 = .ok (.iconst 1, 1) := by decide +kernel
theorem dL_isWritten_189 : decode cL_isWritten 189 = .ok (.goto 4, 3) := by decide +kernel
theorem dL_isWritten_192 : decode cL_isWritten 192 = .ok (.iconst 0, 1) := by decide +kernel
theorem dL_isWritten_193 : decode cL_isWritten 193 = .ok (.istore 10, 2) := by decide +kernel
theorem dL_isWritten_195 : decode cL_isWritten 195 = .ok (.iload 10, 2) := by decide +kernel
theorem dL_isWritten_197 : decode cL_isWritten 197 = .ok (.ifCond .eq 23, 3) := by decide +kernel
theorem dL_isWritten_200 : decode cL_isWritten 200 = .ok (.aload_n 0, 1) := by decide +kernel
theorem dL_isWritten_201 : decode cL_isWritten 201 = .ok (.invokestatic 129, 3) := by decide +kernel
theorem dL_isWritten_204 : decode cL_isWritten 204 = .ok (.ifCond .lt 16, 3) := by decide +kernel
theorem dL_isWritten_207 : decode cL_isWritten 207 = .ok (.aload_n 0, 1) := by decide +kernel
theorem dL_isWritten_208 : decode cL_isWritten 208 = .ok (.invokestatic 262, 3) := by decide +kernel
theorem dL_isWritten_211 : decode cL_isWritten 211 = .ok (.lload_n 2, 1) := by decide +kernel
theorem dL_isWritten_212 : decode cL_isWritten 212 = .ok (.lcmp, 1) := by decide +kernel
theorem dL_isWritten_213 : decode cL_isWritten 213 = .ok (.ifCond .ne 7, 3) := by decide +kernel
theorem dL_isWritten_216 : decode cL_isWritten 216 = .ok (.iconst 1, 1) := by decide +kernel
theorem dL_isWritten_217 : decode cL_isWritten 217 = .ok (.goto 4, 3) := by decide +kernel
theorem dL_isWritten_220 : decode cL_isWritten 220 = .ok (.iconst 0, 1) := by decide +kernel
theorem dL_isWritten_221 : decode cL_isWritten 221 = .ok (.ireturn, 1) := by decide +kernel
theorem dL_isMelted_0 : decode cL_isMelted 0 = .ok (.aload_n 0, 1) := by decide +kernel
theorem dL_isMelted_1 : decode cL_isMelted 1 = .ok (.invokestatic 262, 3) := by decide +kernel
theorem dL_isMelted_4 : decode cL_isMelted 4 = .ok (.lstore_n 2, 1) := by decide +kernel
theorem dL_isMelted_5 : decode cL_isMelted 5 = .ok (.aload_n 0, 1) := by decide +kernel
theorem dL_isMelted_6 : decode cL_isMelted 6 = .ok (.iload_n 1, 1) := by decide +kernel
theorem dL_isMelted_7 : decode cL_isMelted 7 = .ok (.invokevirtual 211, 3) := by decide +kernel
theorem dL_isMelted_10 : decode cL_isMelted 10 = .ok (.istore 4, 2) := by decide +kernel
theorem dL_isMelted_12 : decode cL_isMelted 12 = .ok (.aload_n 0, 1) := by decide +kernel
theorem dL_isMelted_13 : decode cL_isMelted 13 = .ok (.invokevirtual 156, 3) := by decide +kernel
theorem dL_isMelted_16 : decode cL_isMelted 16 = .ok (.istore 5, 2) := by decide +kernel
theorem dL_isMelted_18 : decode cL_isMelted 18 = .ok (.aload_n 0, 1) := by decide +kernel
theorem dL_isMelted_19 : decode cL_isMelted 19 = .ok (.invokevirtual 139, 3) := by decide +kernel
theorem dL_isMelted_22 : decode cL_isMelted 22 = .ok (.istore 6, 2) := by decide +kernel
theorem dL_isMelted_24 : decode cL_isMelted 24 = .ok (.aload_n 0, 1) := by decide +kernel
theorem dL_isMelted_25 : decode cL_isMelted 25 = .ok (.iload_n 1, 1) := by decide +kernel
theorem dL_isMelted_26 : decode cL_isMelted 26 = .ok (.invokestatic 162, 3) := by decide +kernel
theorem dL_isMelted_29 : decode cL_isMelted 29 = .ok (.istore 7, 2) := by decide +kernel
theorem dL_isMelted_31 : decode cL_isMelted 31 = .ok (.iconst 4, 1) := by decide +kernel
theorem dL_isMelted_32 : decode cL_isMelted 32 = .ok (.newarray .int, 2) := by decide +kernel
theorem dL_isMelted_34 : decode cL_isMelted 34 = .ok (.astore 8, 2) := by decide +kernel
theorem dL_isMelted_36 : decode cL_isMelted 36 = .ok (.iconst 0, 1) := by decide +kernel
theorem dL_isMelted_37 : decode cL_isMelted 37 = .ok (.istore 9, 2) := by decide +kernel
theorem dL_isMelted_39 : decode cL_isMelted 39 = .ok (.iload 9, 2) := by decide +kernel
theorem dL_isMelted_41 : decode cL_isMelted 41 = .ok (.aload_n 0, 1) := by decide +kernel
theorem dL_isMelted_42 : decode cL_isMelted 42 = .ok (.invokevirtual 142, 3) := by decide +kernel
theorem dL_isMelted_45 : decode cL_isMelted 45 = .ok (.if_icmp .ge 39, 3) := by decide +kernel
theorem dL_isMelted_48 : decode cL_isMelted 48 = .ok (.aload 8, 2) := by decide +kernel
theorem dL_isMelted_50 : decode cL_isMelted 50 = .ok (.iload 9, 2) := by decide +kernel
theorem dL_isMelted_52 : decode cL_isMelted 52 = .ok (.aload_n 0, 1) := by decide +kernel
theorem dL_isMelted_53 : decode cL_isMelted 53 = .ok (.iload_n 1, 1) := by decide +kernel
theorem dL_isMelted_54 : decode cL_isMelted 54 = .ok (.aload_n 0, 1) := by decide +kernel
theorem dL_isMelted_55 : decode cL_isMelted 55 = .ok (.iload 9, 2) := by decide +kernel
theorem dL_isMelted_57 : decode cL_isMelted 57 = .ok (.invokevirtual 147, 3) := by decide +kernel
theorem dL_isMelted_60 : decode cL_isMelted 60 = .ok (.invokevirtual 189, 3) := by decide +kernel
theorem dL_isMelted_63 : decode cL_isMelted 63 = .ok (.ifCond .eq 8, 3) := by decide +kernel
theorem dL_isMelted_66 : decode cL_isMelted 66 = .ok (.iload 7, 2) := by decide +kernel
theorem dL_isMelted_68 : decode cL_isMelted 68 = .ok (.goto 9, 3) := by decide +kernel
theorem dL_isMelted_71 : decode cL_isMelted 71 = .ok (.aload_n 0, 1) := by decide +kernel
theorem dL_isMelted_72 : decode cL_isMelted 72 = .ok (.iload 9, 2) := by decide +kernel
theorem dL_isMelted_74 : decode cL_isMelted 74 = .ok (.invokevirtual 147, 3) := by decide +kernel
theorem dL_isMelted_77 : decode cL_isMelted 77 = .ok (.iastore, 1) := by decide +kernel
theorem dL_isMelted_78 : decode cL_isMelted 78 = .ok (.iinc 9 1, 3) := by decide +kernel
theorem dL_isMelted_81 : decode cL_isMelted 81 = .ok (.goto (-42), 3) := by decide +kernel
theorem dL_isMelted_84 : decode cL_isMelted 84 = .ok (.aload_n 0, 1) := by decide +kernel
theorem dL_isMelted_85 : decode cL_isMelted 85 = .ok (.iload_n 1, 1) := by decide +kernel
theorem dL_isMelted_86 : decode cL_isMelted 86 = .ok (.invokestatic 109, 3) := by decide +kernel
theorem dL_isMelted_89 : decode cL_isMelted 89 = .ok (.istore 9, 2) := by decide +kernel
theorem dL_isMelted_91 : decode cL_isMelted 91 = .ok (.iload 9, 2) := by decide +kernel
theorem dL_isMelted_93 : decode cL_isMelted 93 = .ok (.ldc 10, 2) := by decide +kernel
theorem dL_isMelted_95 : decode cL_isMelted 95 = .ok (.if_icmp .ne 22, 3) := by decide +kernel
theorem dL_isMelted_98 : decode cL_isMelted 98 = .ok (.iload_n 1, 1) := by decide +kernel
theorem dL_isMelted_99 : decode cL_isMelted 99 = .ok (.ifCond .ne 16, 3) := by decide +kernel
theorem dL_isMelted_102 : decode cL_isMelted 102 = .ok (.aload_n 0, 1) := by decide +kernel
theorem dL_isMelted_103 : decode cL_isMelted 103 = .ok (.invokestatic 262, 3) := by decide +kernel
theorem dL_isMelted_106 : decode cL_isMelted 106 = .ok (.lload_n 2, 1) := by decide +kernel
theorem dL_isMelted_107 : decode cL_isMelted 107 = .ok (.lcmp, 1) := by decide +kernel
theorem dL_isMelted_108 : decode cL_isMelted 108 = .ok (.ifCond .ne 7, 3) := by decide +kernel
theorem dL_isMelted_111 : decode cL_isMelted 111 = .ok (.iconst 1, 1) := by decide +kernel
theorem dL_isMelted_112 : decode cL_isMelted 112 = .ok (.goto 4, 3) := by decide +kernel
theorem dL_isMelted_115 : decode cL_isMelted 115 = .ok (.iconst 0, 1) := by decide +kernel
theorem dL_isMelted_116 : decode cL_isMelted 116 = .ok (.ireturn, 1) := by decide +kernel
theorem dL_isMelted_117 : decode cL_isMelted 117 = .ok (.iload 9, 2) := by decide +kernel
theorem dL_isMelted_119 : decode cL_isMelted 119 = .ok (.iload 4, 2) := by decide +kernel
theorem dL_isMelted_121 : decode cL_isMelted 121 = .ok (.if_icmp .ne 39, 3) := by decide +kernel
theorem dL_isMelted_124 : decode cL_isMelted 124 = .ok (.aload_n 0, 1) := by decide +kernel
theorem dL_isMelted_125 : decode cL_isMelted 125 = .ok (.invokevirtual 156, 3) := by decide +kernel
theorem dL_isMelted_128 : decode cL_isMelted 128 = .ok (.iload 5, 2) := by decide +kernel
theorem dL_isMelted_130 : decode cL_isMelted 130 = .ok (.iload 4, 2) := by decide +kernel
theorem dL_isMelted_132 : decode cL_isMelted 132 = .ok (.isub, 1) := by decide +kernel
theorem dL_isMelted_133 : decode cL_isMelted 133 = .ok (.if_icmp .ne 27, 3) := by decide +kernel
theorem dL_isMelted_136 : decode cL_isMelted 136 = .ok (.aload_n 0, 1) := by decide +kernel
theorem dL_isMelted_137 : decode cL_isMelted 137 = .ok (.invokevirtual 139, 3) := by decide +kernel
theorem dL_isMelted_140 : decode cL_isMelted 140 = .ok (.iload 6, 2) := by decide +kernel
theorem dL_isMelted_142 : decode cL_isMelted 142 = .ok (.iload 4, 2) := by decide +kernel
theorem dL_isMelted_144 : decode cL_isMelted 144 = .ok (.iadd, 1) := by decide +kernel
theorem dL_isMelted_145 : decode cL_isMelted 145 = .ok (.if_icmp .ne 15, 3) := by decide +kernel
theorem dL_isMelted_148 : decode cL_isMelted 148 = .ok (.aload_n 0, 1) := by decide +kernel
theorem dL_isMelted_149 : decode cL_isMelted 149 = .ok (.iload_n 1, 1) := by decide +kernel
theorem dL_isMelted_150 : decode cL_isMelted 150 = .ok (.invokevirtual 131, 3) := by decide +kernel
theorem dL_isMelted_153 : decode cL_isMelted 153 = .ok (.ifCond .ne 7, 3) := by decide +kernel
theorem dL_isMelted_156 : decode cL_isMelted 156 = .ok (.iconst 1, 1) := by decide +kernel
theorem dL_isMelted_157 : decode cL_isMelted 157 = .ok (.goto 4, 3) := by decide +kernel
theorem dL_isMelted_160 : decode cL_isMelted 160 = .ok (.iconst 0, 1) := by decide +kernel
theorem dL_isMelted_161 : decode cL_isMelted 161 = .ok (.istore 10, 2) := by decide +kernel
theorem dL_isMelted_163 : decode cL_isMelted 163 = .ok (.iconst 0, 1) := by decide +kernel
theorem dL_isMelted_164 : decode cL_isMelted 164 = .ok (.istore 11, 2) := by decide +kernel
theorem dL_isMelted_166 : decode cL_isMelted 166 = .ok (.iload 10, 2) := by decide +kernel
theorem dL_isMelted_168 : decode cL_isMelted 168 = .ok (.ifCond .eq 39, 3) := by decide +kernel
theorem dL_isMelted_171 : decode cL_isMelted 171 = .ok (.iload 11, 2) := by decide +kernel
theorem dL_isMelted_173 : decode cL_isMelted 173 = .ok (.aload_n 0, 1) := by decide +kernel
theorem dL_isMelted_174 : decode cL_isMelted 174 = .ok (.invokevirtual 142, 3) := by decide +kernel
theorem dL_isMelted_177 : decode cL_isMelted 177 = .ok (.if_icmp .ge 30, 3) := by decide +kernel
theorem dL_isMelted_180 : decode cL_isMelted 180 = .ok (.aload_n 0, 1) := by decide +kernel
theorem dL_isMelted_181 : decode cL_isMelted 181 = .ok (.iload 11, 2) := by decide +kernel
theorem dL_isMelted_183 : decode cL_isMelted 183 = .ok (.invokevirtual 147, 3) := by decide +kernel
theorem dL_isMelted_186 : decode cL_isMelted 186 = .ok (.aload 8, 2) := by decide +kernel
theorem dL_isMelted_188 : decode cL_isMelted 188 = .ok (.iload 11, 2) := by decide +kernel
theorem dL_isMelted_190 : decode cL_isMelted 190 = .ok (.iaload, 1) := by decide +kernel
theorem dL_isMelted_191 : decode cL_isMelted 191 = .ok (.if_icmp .ne 7, 3) := by decide +kernel
theorem dL_isMelted_194 : decode cL_isMelted 194 = .ok (.iconst 1, 1) := by decide +kernel
theorem dL_isMelted_195 : decode cL_isMelted 195 = .ok (.goto 4, 3) := by decide +kernel
theorem dL_isMelted_198 : decode cL_isMelted 198 = .ok (.iconst 0, 1) := by decide +kernel
theorem dL_isMelted_199 : decode cL_isMelted 199 = .ok (.istore 10, 2) := by decide +kernel
theorem dL_isMelted_201 : decode cL_isMelted 201 = .ok (.iinc 11 1, 3) := by decide +kernel
theorem dL_isMelted_204 : decode cL_isMelted 204 = .ok (.goto (-38), 3) := by decide +kernel
theorem dL_isMelted_207 : decode cL_isMelted 207 = .ok (.iload 10, 2) := by decide +kernel
theorem dL_isMelted_209 : decode cL_isMelted 209 = .ok (.ifCond .eq 23, 3) := by decide +kernel
theorem dL_isMelted_212 : decode cL_isMelted 212 = .ok (.aload_n 0, 1) := by decide +kernel
theorem dL_isMelted_213 : decode cL_isMelted 213 = .ok (.invokestatic 129, 3) := by decide +kernel
theorem dL_isMelted_216 : decode cL_isMelted 216 = .ok (.ifCond .lt 16, 3) := by decide +kernel
theorem dL_isMelted_219 : decode cL_isMelted 219 = .ok (.aload_n 0, 1) := by decide +kernel
theorem dL_isMelted_220 : decode cL_isMelted 220 = .ok (.invokestatic 262, 3) := by decide +kernel
theorem dL_isMelted_223 : decode cL_isMelted 223 = .ok (.lload_n 2, 1) := by decide +kernel
theorem dL_isMelted_224 : decode cL_isMelted 224 = .ok (.lcmp, 1) := by decide +kernel
theorem dL_isMelted_225 : decode cL_isMelted 225 = .ok (.ifCond .ne 7, 3) := by decide +kernel
theorem dL_isMelted_228 : decode cL_isMelted 228 = .ok (.iconst 1, 1) := by decide +kernel
theorem dL_isMelted_229 : decode cL_isMelted 229 = .ok (.goto 4, 3) := by decide +kernel
theorem dL_isMelted_232 : decode cL_isMelted 232 = .ok (.iconst 0, 1) := by decide +kernel
theorem dL_isMelted_233 : decode cL_isMelted 233 = .ok (.ireturn, 1) := by decide +kernel
theorem dL_isRepaired_0 : decode cL_isRepaired 0 = .ok (.aload_n 0, 1) := by decide +kernel
theorem dL_isRepaired_1 : decode cL_isRepaired 1 = .ok (.invokestatic 262, 3) := by decide +kernel
theorem dL_isRepaired_4 : decode cL_isRepaired 4 = .ok (.lstore_n 2, 1) := by decide +kernel
theorem dL_isRepaired_5 : decode cL_isRepaired 5 = .ok (.aload_n 0, 1) := by decide +kernel
theorem dL_isRepaired_6 : decode cL_isRepaired 6 = .ok (.iload_n 1, 1) := by decide +kernel
theorem dL_isRepaired_7 : decode cL_isRepaired 7 = .ok (.invokevirtual 214, 3) := by decide +kernel
theorem dL_isRepaired_10 : decode cL_isRepaired 10 = .ok (.istore 4, 2) := by decide +kernel
theorem dL_isRepaired_12 : decode cL_isRepaired 12 = .ok (.iconst 0, 1) := by decide +kernel
theorem dL_isRepaired_13 : decode cL_isRepaired 13 = .ok (.istore 5, 2) := by decide +kernel
theorem dL_isRepaired_15 : decode cL_isRepaired 15 = .ok (.iload 4, 2) := by decide +kernel
theorem dL_isRepaired_17 : decode cL_isRepaired 17 = .ok (.bipush 8, 2) := by decide +kernel
theorem dL_isRepaired_19 : decode cL_isRepaired 19 = .ok (.if_icmp .gt 7, 3) := by decide +kernel
theorem dL_isRepaired_22 : decode cL_isRepaired 22 = .ok (.iconst 1, 1) := by decide +kernel
theorem dL_isRepaired_23 : decode cL_isRepaired 23 = .ok (.goto 4, 3) := by decide +kernel
theorem dL_isRepaired_26 : decode cL_isRepaired 26 = .ok (.iconst 0, 1) := by decide +kernel
theorem dL_isRepaired_27 : decode cL_isRepaired 27 = .ok (.istore 6, 2) := by decide +kernel
theorem dL_isRepaired_29 : decode cL_isRepaired 29 = .ok (.iload 4, 2) := by decide +kernel
theorem dL_isRepaired_31 : decode cL_isRepaired 31 = .ok (.bipush 8, 2) := by decide +kernel
theorem dL_isRepaired_33 : decode cL_isRepaired 33 = .ok (.if_icmp .gt 70, 3) := by decide +kernel
theorem dL_isRepaired_36 : decode cL_isRepaired 36 = .ok (.iload 6, 2) := by decide +kernel
theorem dL_isRepaired_38 : decode cL_isRepaired 38 = .ok (.ifCond .eq 65, 3) := by decide +kernel
theorem dL_isRepaired_41 : decode cL_isRepaired 41 = .ok (.aload_n 0, 1) := by decide +kernel
theorem dL_isRepaired_42 : decode cL_isRepaired 42 = .ok (.iload_n 1, 1) := by decide +kernel
theorem dL_isRepaired_43 : decode cL_isRepaired 43 = .ok (.invokestatic 187, 3) := by decide +kernel
theorem dL_isRepaired_46 : decode cL_isRepaired 46 = .ok (.sipush (-1000), 3) := by decide +kernel
theorem dL_isRepaired_49 : decode cL_isRepaired 49 = .ok (.if_icmp .eq 54, 3) := by decide +kernel
theorem dL_isRepaired_52 : decode cL_isRepaired 52 = .ok (.aload_n 0, 1) := by decide +kernel
theorem dL_isRepaired_53 : decode cL_isRepaired 53 = .ok (.iload_n 1, 1) := by decide +kernel
theorem dL_isRepaired_54 : decode cL_isRepaired 54 = .ok (.invokestatic 187, 3) := by decide +kernel
theorem dL_isRepaired_57 : decode cL_isRepaired 57 = .ok (.istore 7, 2) := by decide +kernel
theorem dL_isRepaired_59 : decode cL_isRepaired 59 = .ok (.iload 5, 2) := by decide +kernel
theorem dL_isRepaired_61 : decode cL_isRepaired 61 = .ok (.iload 4, 2) := by decide +kernel
theorem dL_isRepaired_63 : decode cL_isRepaired 63 = .ok (.if_icmp .ge 31, 3) := by decide +kernel
theorem dL_isRepaired_66 : decode cL_isRepaired 66 = .ok (.aload_n 0, 1) := by decide +kernel
theorem dL_isRepaired_67 : decode cL_isRepaired 67 = .ok (.iload 7, 2) := by decide +kernel
theorem dL_isRepaired_69 : decode cL_isRepaired 69 = .ok (.invokestatic 98, 3) := by decide +kernel
theorem dL_isRepaired_72 : decode cL_isRepaired 72 = .ok (.aload_n 0, 1) := by decide +kernel
theorem dL_isRepaired_73 : decode cL_isRepaired 73 = .ok (.iload 7, 2) := by decide +kernel
theorem dL_isRepaired_75 : decode cL_isRepaired 75 = .ok (.invokevirtual 164, 3) := by decide +kernel
theorem dL_isRepaired_78 : decode cL_isRepaired 78 = .ok (.if_icmp .ne 16, 3) := by decide +kernel
theorem dL_isRepaired_81 : decode cL_isRepaired 81 = .ok (.aload_n 0, 1) := by decide +kernel
theorem dL_isRepaired_82 : decode cL_isRepaired 82 = .ok (.iload 7, 2) := by decide +kernel
theorem dL_isRepaired_84 : decode cL_isRepaired 84 = .ok (.invokevirtual 202, 3) := by decide +kernel
theorem dL_isRepaired_87 : decode cL_isRepaired 87 = .ok (.ifCond .eq 7, 3) := by decide +kernel
theorem dL_isRepaired_90 : decode cL_isRepaired 90 = .ok (.iconst 1, 1) := by decide +kernel
theorem dL_isRepaired_91 : decode cL_isRepaired 91 = .ok (.goto 4, 3) := by decide +kernel
theorem dL_isRepaired_94 : decode cL_isRepaired 94 = .ok (.iconst 0, 1) := by decide +kernel
theorem dL_isRepaired_95 : decode cL_isRepaired 95 = .ok (.istore 6, 2) := by decide +kernel
theorem dL_isRepaired_97 : decode cL_isRepaired 97 = .ok (.iinc 5 1, 3) := by decide +kernel
theorem dL_isRepaired_100 : decode cL_isRepaired 100 = .ok (.goto (-71), 3) := by decide +kernel
theorem dL_isRepaired_103 : decode cL_isRepaired 103 = .ok (.iload 4, 2) := by decide +kernel
theorem dL_isRepaired_105 : decode cL_isRepaired 105 = .ok (.bipush 8, 2) := by decide +kernel
theorem dL_isRepaired_107 : decode cL_isRepaired 107 = .ok (.if_icmp .gt 23, 3) := by decide +kernel
theorem dL_isRepaired_110 : decode cL_isRepaired 110 = .ok (.iload 6, 2) := by decide +kernel
theorem dL_isRepaired_112 : decode cL_isRepaired 112 = .ok (.ifCond .eq 22, 3) := by decide +kernel
theorem dL_isRepaired_115 : decode cL_isRepaired 115 = .ok (.iload 5, 2) := by decide +kernel
theorem dL_isRepaired_117 : decode cL_isRepaired 117 = .ok (.iload 4, 2) := by decide +kernel
theorem dL_isRepaired_119 : decode cL_isRepaired 119 = .ok (.if_icmp .ne 15, 3) := by decide +kernel
theorem dL_isRepaired_122 : decode cL_isRepaired 122 = .ok (.aload_n 0, 1) := by decide +kernel
theorem dL_isRepaired_123 : decode cL_isRepaired 123 = .ok (.iload_n 1, 1) := by decide +kernel
theorem dL_isRepaired_124 : decode cL_isRepaired 124 = .ok (.invokevirtual 205, 3) := by decide +kernel
theorem dL_isRepaired_127 : decode cL_isRepaired 127 = .ok (.ifCond .eq 7, 3) := by decide +kernel
theorem dL_isRepaired_130 : decode cL_isRepaired 130 = .ok (.iconst 1, 1) := by decide +kernel
theorem dL_isRepaired_131 : decode cL_isRepaired 131 = .ok (.goto 4, 3) := by decide +kernel
theorem dL_isRepaired_134 : decode cL_isRepaired 134 = .ok (.iconst 0, 1) := by decide +kernel
theorem dL_isRepaired_135 : decode cL_isRepaired 135 = .ok (.istore 6, 2) := by decide +kernel
theorem dL_isRepaired_137 : decode cL_isRepaired 137 = .ok (.iconst 0, 1) := by decide +kernel
theorem dL_isRepaired_138 : decode cL_isRepaired 138 = .ok (.istore 7, 2) := by decide +kernel
theorem dL_isRepaired_140 : decode cL_isRepaired 140 = .ok (.iload 7, 2) := by decide +kernel
theorem dL_isRepaired_142 : decode cL_isRepaired 142 = .ok (.iload 5, 2) := by decide +kernel
theorem dL_isRepaired_144 : decode cL_isRepaired 144 = .ok (.if_icmp .ge 28, 3) := by decide +kernel
theorem dL_isRepaired_147 : decode cL_isRepaired 147 = .ok (.iload 6, 2) := by decide +kernel
theorem dL_isRepaired_149 : decode cL_isRepaired 149 = .ok (.ifCond .eq 14, 3) := by decide +kernel
theorem dL_isRepaired_152 : decode cL_isRepaired 152 = .ok (.aload_n 0, 1) := by decide +kernel
theorem dL_isRepaired_153 : decode cL_isRepaired 153 = .ok (.invokestatic 129, 3) := by decide +kernel
theorem dL_isRepaired_156 : decode cL_isRepaired 156 = .ok (.ifCond .lt 7, 3) := by decide +kernel
theorem dL_isRepaired_159 : decode cL_isRepaired 159 = .ok (.iconst 1, 1) := by decide +kernel
theorem dL_isRepaired_160 : decode cL_isRepaired 160 = .ok (.goto 4, 3) := by decide +kernel
theorem dL_isRepaired_163 : decode cL_isRepaired 163 = .ok (.iconst 0, 1) := by decide +kernel
theorem dL_isRepaired_164 : decode cL_isRepaired 164 = .ok (.istore 6, 2) := by decide +kernel
theorem dL_isRepaired_166 : decode cL_isRepaired 166 = .ok (.iinc 7 1, 3) := by decide +kernel
theorem dL_isRepaired_169 : decode cL_isRepaired 169 = .ok (.goto (-29), 3) := by decide +kernel
theorem dL_isRepaired_172 : decode cL_isRepaired 172 = .ok (.iload 6, 2) := by decide +kernel
theorem dL_isRepaired_174 : decode cL_isRepaired 174 = .ok (.ifCond .eq 16, 3) := by decide +kernel
theorem dL_isRepaired_177 : decode cL_isRepaired 177 = .ok (.aload_n 0, 1) := by decide +kernel
theorem dL_isRepaired_178 : decode cL_isRepaired 178 = .ok (.invokestatic 262, 3) := by decide +kernel
theorem dL_isRepaired_181 : decode cL_isRepaired 181 = .ok (.lload_n 2, 1) := by decide +kernel
theorem dL_isRepaired_182 : decode cL_isRepaired 182 = .ok (.lcmp, 1) := by decide +kernel
theorem dL_isRepaired_183 : decode cL_isRepaired 183 = .ok (.ifCond .ne 7, 3) := by decide +kernel
theorem dL_isRepaired_186 : decode cL_isRepaired 186 = .ok (.iconst 1, 1) := by decide +kernel
theorem dL_isRepaired_187 : decode cL_isRepaired 187 = .ok (.goto 4, 3) := by decide +kernel
theorem dL_isRepaired_190 : decode cL_isRepaired 190 = .ok (.iconst 0, 1) := by decide +kernel
theorem dL_isRepaired_191 : decode cL_isRepaired 191 = .ok (.ireturn, 1) := by decide +kernel
theorem dL_isFit_0 : decode cL_isFit 0 = .ok (.aload_n 0, 1) := by decide +kernel
theorem dL_isFit_1 : decode cL_isFit 1 = .ok (.invokestatic 269, 3) := by decide +kernel
theorem dL_isFit_4 : decode cL_isFit 4 = .ok (.istore_n 1, 1) := by decide +kernel
theorem dL_isFit_5 : decode cL_isFit 5 = .ok (.iconst 0, 1) := by decide +kernel
theorem dL_isFit_6 : decode cL_isFit 6 = .ok (.istore_n 2, 1) := by decide +kernel
theorem dL_isFit_7 : decode cL_isFit 7 = .ok (.iload_n 1, 1) := by decide +kernel
theorem dL_isFit_8 : decode cL_isFit 8 = .ok (.ifCond .eq 23, 3) := by decide +kernel
theorem dL_isFit_11 : decode cL_isFit 11 = .ok (.iload_n 2, 1) := by decide +kernel
theorem dL_isFit_12 : decode cL_isFit 12 = .ok (.aload_n 0, 1) := by decide +kernel
theorem dL_isFit_13 : decode cL_isFit 13 = .ok (.invokevirtual 142, 3) := by decide +kernel
theorem dL_isFit_16 : decode cL_isFit 16 = .ok (.if_icmp .ge 15, 3) := by decide +kernel
theorem dL_isFit_19 : decode cL_isFit 19 = .ok (.aload_n 0, 1) := by decide +kernel
theorem dL_isFit_20 : decode cL_isFit 20 = .ok (.iload_n 2, 1) := by decide +kernel
theorem dL_isFit_21 : decode cL_isFit 21 = .ok (.invokestatic 273, 3) := by decide +kernel
theorem dL_isFit_24 : decode cL_isFit 24 = .ok (.istore_n 1, 1) := by decide +kernel
theorem dL_isFit_25 : decode cL_isFit 25 = .ok (.iinc 2 1, 3) := by decide +kernel
theorem dL_isFit_28 : decode cL_isFit 28 = .ok (.goto (-21), 3) := by decide +kernel
theorem dL_isFit_31 : decode cL_isFit 31 = .ok (.iconst 0, 1) := by decide +kernel
theorem dL_isFit_32 : decode cL_isFit 32 = .ok (.istore_n 2, 1) := by decide +kernel
theorem dL_isFit_33 : decode cL_isFit 33 = .ok (.iload_n 1, 1) := by decide +kernel
theorem dL_isFit_34 : decode cL_isFit 34 = .ok (.ifCond .eq 47, 3) := by decide +kernel
theorem dL_isFit_37 : decode cL_isFit 37 = .ok (.iload_n 2, 1) := by decide +kernel
theorem dL_isFit_38 : decode cL_isFit 38 = .ok (.aload_n 0, 1) := by decide +kernel
theorem dL_isFit_39 : decode cL_isFit 39 = .ok (.invokevirtual 156, 3) := by decide +kernel
theorem dL_isFit_42 : decode cL_isFit 42 = .ok (.if_icmp .ge 39, 3) := by decide +kernel
theorem dL_isFit_45 : decode cL_isFit 45 = .ok (.aload_n 0, 1) := by decide +kernel
theorem dL_isFit_46 : decode cL_isFit 46 = .ok (.aload_n 0, 1) := by decide +kernel
theorem dL_isFit_47 : decode cL_isFit 47 = .ok (.iload_n 2, 1) := by decide +kernel
theorem dL_isFit_48 : decode cL_isFit 48 = .ok (.invokestatic 159, 3) := by decide +kernel
theorem dL_isFit_51 : decode cL_isFit 51 = .ok (.invokestatic 276, 3) := by decide +kernel
theorem dL_isFit_54 : decode cL_isFit 54 = .ok (.ifCond .eq 19, 3) := by decide +kernel
theorem dL_isFit_57 : decode cL_isFit 57 = .ok (.aload_n 0, 1) := by decide +kernel
theorem dL_isFit_58 : decode cL_isFit 58 = .ok (.aload_n 0, 1) := by decide +kernel
theorem dL_isFit_59 : decode cL_isFit 59 = .ok (.iload_n 2, 1) := by decide +kernel
theorem dL_isFit_60 : decode cL_isFit 60 = .ok (.invokestatic 159, 3) := by decide +kernel
theorem dL_isFit_63 : decode cL_isFit 63 = .ok (.invokestatic 279, 3) := by decide +kernel
theorem dL_isFit_66 : decode cL_isFit 66 = .ok (.ifCond .eq 7, 3) := by decide +kernel
theorem dL_isFit_69 : decode cL_isFit 69 = .ok (.iconst 1, 1) := by decide +kernel
theorem dL_isFit_70 : decode cL_isFit 70 = .ok (.goto 4, 3) := by decide +kernel
theorem dL_isFit_73 : decode cL_isFit 73 = .ok (.iconst 0, 1) := by decide +kernel
theorem dL_isFit_74 : decode cL_isFit 74 = .ok (.istore_n 1, 1) := by decide +kernel
theorem dL_isFit_75 : decode cL_isFit 75 = .ok (.iinc 2 2, 3) := by decide +kernel
theorem dL_isFit_78 : decode cL_isFit 78 = .ok (.goto (-45), 3) := by decide +kernel
theorem dL_isFit_81 : decode cL_isFit 81 = .ok (.iload_n 1, 1) := by decide +kernel
theorem dL_isFit_82 : decode cL_isFit 82 = .ok (.ireturn, 1) := by decide +kernel
theorem dL_law_0 : decode cL_law 0 = .ok (.new 12, 3) := by decide +kernel
theorem dL_law_3 : decode cL_law 3 = .ok (.dup, 1) := by decide +kernel
theorem dL_law_4 : decode cL_law 4 = .ok (.invokespecial 282, 3) := by decide +kernel
theorem dL_law_7 : decode cL_law 7 = .ok (.astore_n 1, 1) := by decide +kernel
theorem dL_law_8 : decode cL_law 8 = .ok (.iconst 0, 1) := by decide +kernel
theorem dL_law_9 : decode cL_law 9 = .ok (.istore_n 2, 1) := by decide +kernel
theorem dL_law_10 : decode cL_law 10 = .ok (.iload_n 2, 1) := by decide +kernel
theorem dL_law_11 : decode cL_law 11 = .ok (.iconst 3, 1) := by decide +kernel
theorem dL_law_12 : decode cL_law 12 = .ok (.if_icmp .ge 77, 3) := by decide +kernel
theorem dL_law_15 : decode cL_law 15 = .ok (.aload_n 1, 1) := by decide +kernel
theorem dL_law_16 : decode cL_law 16 = .ok (.invokestatic 95, 3) := by decide +kernel
theorem dL_law_19 : decode cL_law 19 = .ok (.pop, 1) := by decide +kernel
theorem dL_law_20 : decode cL_law 20 = .ok (.aload_n 1, 1) := by decide +kernel
theorem dL_law_21 : decode cL_law 21 = .ok (.iload_n 2, 1) := by decide +kernel
theorem dL_law_22 : decode cL_law 22 = .ok (.aload_n 0, 1) := by decide +kernel
theorem dL_law_23 : decode cL_law 23 = .ok (.iload_n 2, 1) := by decide +kernel
theorem dL_law_24 : decode cL_law 24 = .ok (.invokestatic 283, 3) := by decide +kernel
theorem dL_law_27 : decode cL_law 27 = .ok (.iconst 4, 1) := by decide +kernel
theorem dL_law_28 : decode cL_law 28 = .ok (.ishr, 1) := by decide +kernel
theorem dL_law_29 : decode cL_law 29 = .ok (.bipush 63, 2) := by decide +kernel
theorem dL_law_31 : decode cL_law 31 = .ok (.iand, 1) := by decide +kernel
theorem dL_law_32 : decode cL_law 32 = .ok (.invokestatic 101, 3) := by decide +kernel
theorem dL_law_35 : decode cL_law 35 = .ok (.pop, 1) := by decide +kernel
theorem dL_law_36 : decode cL_law 36 = .ok (.aload_n 1, 1) := by decide +kernel
theorem dL_law_37 : decode cL_law 37 = .ok (.iload_n 2, 1) := by decide +kernel
theorem dL_law_38 : decode cL_law 38 = .ok (.aload_n 0, 1) := by decide +kernel
theorem dL_law_39 : decode cL_law 39 = .ok (.iload_n 2, 1) := by decide +kernel
theorem dL_law_40 : decode cL_law 40 = .ok (.invokestatic 283, 3) := by decide +kernel
theorem dL_law_43 : decode cL_law 43 = .ok (.bipush 6, 2) := by decide +kernel
theorem dL_law_45 : decode cL_law 45 = .ok (.ishr, 1) := by decide +kernel
theorem dL_law_46 : decode cL_law 46 = .ok (.bipush 63, 2) := by decide +kernel
theorem dL_law_48 : decode cL_law 48 = .ok (.iand, 1) := by decide +kernel
theorem dL_law_49 : decode cL_law 49 = .ok (.invokestatic 101, 3) := by decide +kernel
theorem dL_law_52 : decode cL_law 52 = .ok (.pop, 1) := by decide +kernel
theorem dL_law_53 : decode cL_law 53 = .ok (.aload_n 1, 1) := by decide +kernel
theorem dL_law_54 : decode cL_law 54 = .ok (.iload_n 2, 1) := by decide +kernel
theorem dL_law_55 : decode cL_law 55 = .ok (.invokestatic 104, 3) := by decide +kernel
theorem dL_law_58 : decode cL_law 58 = .ok (.pop, 1) := by decide +kernel
theorem dL_law_59 : decode cL_law 59 = .ok (.aload_n 1, 1) := by decide +kernel
theorem dL_law_60 : decode cL_law 60 = .ok (.iload_n 2, 1) := by decide +kernel
theorem dL_law_61 : decode cL_law 61 = .ok (.aload_n 0, 1) := by decide +kernel
theorem dL_law_62 : decode cL_law 62 = .ok (.iload_n 2, 1) := by decide +kernel
theorem dL_law_63 : decode cL_law 63 = .ok (.iconst 1, 1) := by decide +kernel
theorem dL_law_64 : decode cL_law 64 = .ok (.iadd, 1) := by decide +kernel
theorem dL_law_65 : decode cL_law 65 = .ok (.invokestatic 283, 3) := by decide +kernel
theorem dL_law_68 : decode cL_law 68 = .ok (.iconst 3, 1) := by decide +kernel
theorem dL_law_69 : decode cL_law 69 = .ok (.ishr, 1) := by decide +kernel
theorem dL_law_70 : decode cL_law 70 = .ok (.bipush 63, 2) := by decide +kernel
theorem dL_law_72 : decode cL_law 72 = .ok (.iand, 1) := by decide +kernel
theorem dL_law_73 : decode cL_law 73 = .ok (.invokestatic 101, 3) := by decide +kernel
theorem dL_law_76 : decode cL_law 76 = .ok (.pop, 1) := by decide +kernel
theorem dL_law_77 : decode cL_law 77 = .ok (.aload_n 1, 1) := by decide +kernel
theorem dL_law_78 : decode cL_law 78 = .ok (.iload_n 2, 1) := by decide +kernel
theorem dL_law_79 : decode cL_law 79 = .ok (.invokestatic 104, 3) := by decide +kernel
theorem dL_law_82 : decode cL_law 82 = .ok (.pop, 1) := by decide +kernel
theorem dL_law_83 : decode cL_law 83 = .ok (.iinc 2 1, 3) := by decide +kernel
theorem dL_law_86 : decode cL_law 86 = .ok (.goto (-76), 3) := by decide +kernel
theorem dL_law_89 : decode cL_law 89 = .ok (.aload_n 1, 1) := by decide +kernel
theorem dL_law_90 : decode cL_law 90 = .ok (.iconst 1, 1) := by decide +kernel
theorem dL_law_91 : decode cL_law 91 = .ok (.iconst 2, 1) := by decide +kernel
theorem dL_law_92 : decode cL_law 92 = .ok (.invokestatic 107, 3) := by decide +kernel
theorem dL_law_95 : decode cL_law 95 = .ok (.pop, 1) := by decide +kernel
theorem dL_law_96 : decode cL_law 96 = .ok (.aload_n 0, 1) := by decide +kernel
theorem dL_law_97 : decode cL_law 97 = .ok (.arraylength, 1) := by decide +kernel
theorem dL_law_98 : decode cL_law 98 = .ok (.bipush 30, 2) := by decide +kernel
theorem dL_law_100 : decode cL_law 100 = .ok (.if_icmp .ge 8, 3) := by decide +kernel
theorem dL_law_103 : decode cL_law 103 = .ok (.aload_n 0, 1) := by decide +kernel
theorem dL_law_104 : decode cL_law 104 = .ok (.arraylength, 1) := by decide +kernel
theorem dL_law_105 : decode cL_law 105 = .ok (.goto 5, 3) := by decide +kernel
theorem dL_law_108 : decode cL_law 108 = .ok (.bipush 30, 2) := by decide +kernel
theorem dL_law_110 : decode cL_law 110 = .ok (.istore_n 2, 1) := by decide +kernel
theorem dL_law_111 : decode cL_law 111 = .ok (.iconst 0, 1) := by decide +kernel
theorem dL_law_112 : decode cL_law 112 = .ok (.istore_n 3, 1) := by decide +kernel
theorem dL_law_113 : decode cL_law 113 = .ok (.iload_n 3, 1) := by decide +kernel
theorem dL_law_114 : decode cL_law 114 = .ok (.iload_n 2, 1) := by decide +kernel
theorem dL_law_115 : decode cL_law 115 = .ok (.if_icmp .ge 41, 3) := by decide +kernel
theorem dL_law_118 : decode cL_law 118 = .ok (.aload_n 1, 1) := by decide +kernel
theorem dL_law_119 : decode cL_law 119 = .ok (.invokestatic 262, 3) := by decide +kernel
theorem dL_law_122 : decode cL_law 122 = .ok (.lstore 4, 2) := by decide +kernel
theorem dL_law_124 : decode cL_law 124 = .ok (.aload_n 1, 1) := by decide +kernel
theorem dL_law_125 : decode cL_law 125 = .ok (.aload_n 0, 1) := by decide +kernel
theorem dL_law_126 : decode cL_law 126 = .ok (.iload_n 3, 1) := by decide +kernel
theorem dL_law_127 : decode cL_law 127 = .ok (.invokestatic 283, 3) := by decide +kernel
theorem dL_law_130 : decode cL_law 130 = .ok (.invokestatic 287, 3) := by decide +kernel
theorem dL_law_133 : decode cL_law 133 = .ok (.ldc 10, 2) := by decide +kernel
theorem dL_law_135 : decode cL_law 135 = .ok (.if_icmp .ne 15, 3) := by decide +kernel
theorem dL_law_138 : decode cL_law 138 = .ok (.aload_n 1, 1) := by decide +kernel
theorem dL_law_139 : decode cL_law 139 = .ok (.invokestatic 262, 3) := by decide +kernel
theorem dL_law_142 : decode cL_law 142 = .ok (.lload 4, 2) := by decide +kernel
theorem dL_law_144 : decode cL_law 144 = .ok (.lcmp, 1) := by decide +kernel
theorem dL_law_145 : decode cL_law 145 = .ok (.ifCond .eq 5, 3) := by decide +kernel
theorem dL_law_148 : decode cL_law 148 = .ok (.iconst 0, 1) := by decide +kernel
theorem dL_law_149 : decode cL_law 149 = .ok (.ireturn, 1) := by decide +kernel
theorem dL_law_150 : decode cL_law 150 = .ok (.iinc 3 1, 3) := by decide +kernel
theorem dL_law_153 : decode cL_law 153 = .ok (.goto (-40), 3) := by decide +kernel
theorem dL_law_156 : decode cL_law 156 = .ok (.aload_n 1, 1) := by decide +kernel
theorem dL_law_157 : decode cL_law 157 = .ok (.invokestatic 290, 3) := by decide +kernel
theorem dL_law_160 : decode cL_law 160 = .ok (.istore_n 3, 1) := by decide +kernel
theorem dL_law_161 : decode cL_law 161 = .ok (.aload_n 1, 1) := by decide +kernel
theorem dL_law_162 : decode cL_law 162 = .ok (.invokestatic 122, 3) := by decide +kernel
theorem dL_law_165 : decode cL_law 165 = .ok (.pop, 1) := by decide +kernel
theorem dL_law_166 : decode cL_law 166 = .ok (.aload_n 1, 1) := by decide +kernel
theorem dL_law_167 : decode cL_law 167 = .ok (.invokestatic 262, 3) := by decide +kernel
theorem dL_law_170 : decode cL_law 170 = .ok (.lstore 4, 2) := by decide +kernel
theorem dL_law_172 : decode cL_law 172 = .ok (.aload_n 1, 1) := by decide +kernel
theorem dL_law_173 : decode cL_law 173 = .ok (.invokevirtual 124, 3) := by decide +kernel
theorem dL_law_176 : decode cL_law 176 = .ok (.istore 6, 2) := by decide +kernel
theorem dL_law_178 : decode cL_law 178 = .ok (.iconst 0, 1) := by decide +kernel
theorem dL_law_179 : decode cL_law 179 = .ok (.istore 7, 2) := by decide +kernel
theorem dL_law_181 : decode cL_law 181 = .ok (.iload_n 3, 1) := by decide +kernel
theorem dL_law_182 : decode cL_law 182 = .ok (.ifCond .eq 73, 3) := by decide +kernel
theorem dL_law_185 : decode cL_law 185 = .ok (.iload 7, 2) := by decide +kernel
theorem dL_law_187 : decode cL_law 187 = .ok (.getstatic 114, 3) := by decide +kernel
theorem dL_law_190 : decode cL_law 190 = .ok (.arraylength, 1) := by decide +kernel
theorem dL_law_191 : decode cL_law 191 = .ok (.if_icmp .ge 64, 3) := by decide +kernel
theorem dL_law_194 : decode cL_law 194 = .ok (.aload_n 1, 1) := by decide +kernel
theorem dL_law_195 : decode cL_law 195 = .ok (.getstatic 114, 3) := by decide +kernel
theorem dL_law_198 : decode cL_law 198 = .ok (.iload 7, 2) := by decide +kernel
theorem dL_law_200 : decode cL_law 200 = .ok (.aaload, 1) := by decide +kernel
theorem dL_law_201 : decode cL_law 201 = .ok (.invokestatic 118, 3) := by decide +kernel
theorem dL_law_204 : decode cL_law 204 = .ok (.invokestatic 122, 3) := by decide +kernel
theorem dL_law_207 : decode cL_law 207 = .ok (.istore 8, 2) := by decide +kernel
theorem dL_law_209 : decode cL_law 209 = .ok (.iload 8, 2) := by decide +kernel
theorem dL_law_211 : decode cL_law 211 = .ok (.ldc 10, 2) := by decide +kernel
theorem dL_law_213 : decode cL_law 213 = .ok (.if_icmp .ne 13, 3) := by decide +kernel
theorem dL_law_216 : decode cL_law 216 = .ok (.aload_n 1, 1) := by decide +kernel
theorem dL_law_217 : decode cL_law 217 = .ok (.invokestatic 293, 3) := by decide +kernel
theorem dL_law_220 : decode cL_law 220 = .ok (.ifCond .lt 27, 3) := by decide +kernel
theorem dL_law_223 : decode cL_law 223 = .ok (.goto 10, 3) := by decide +kernel
theorem dL_law_226 : decode cL_law 226 = .ok (.aload_n 1, 1) := by decide +kernel
theorem dL_law_227 : decode cL_law 227 = .ok (.invokestatic 129, 3) := by decide +kernel
theorem dL_law_230 : decode cL_law 230 = .ok (.ifCond .lt 17, 3) := by decide +kernel
theorem dL_law_233 : decode cL_law 233 = .ok (.aload_n 1, 1) := by decide +kernel
theorem dL_law_234 : decode cL_law 234 = .ok (.invokestatic 262, 3) := by decide +kernel
theorem dL_law_237 : decode cL_law 237 = .ok (.lload 4, 2) := by decide +kernel
theorem dL_law_239 : decode cL_law 239 = .ok (.lcmp, 1) := by decide +kernel
theorem dL_law_240 : decode cL_law 240 = .ok (.ifCond .ne 7, 3) := by decide +kernel
theorem dL_law_243 : decode cL_law 243 = .ok (.iconst 1, 1) := by decide +kernel
theorem dL_law_244 : decode cL_law 244 = .ok (.goto 4, 3) := by decide +kernel
theorem dL_law_247 : decode cL_law 247 = .ok (.iconst 0, 1) := by decide +kernel
theorem dL_law_248 : decode cL_law 248 = .ok (.istore_n 3, 1) := by decide +kernel
theorem dL_law_249 : decode cL_law 249 = .ok (.iinc 7 1, 3) := by decide +kernel
theorem dL_law_252 : decode cL_law 252 = .ok (.goto (-71), 3) := by decide +kernel
theorem dL_law_255 : decode cL_law 255 = .ok (.aload_n 1, 1) := by decide +kernel
theorem dL_law_256 : decode cL_law 256 = .ok (.iconst 0, 1) := by decide +kernel
theorem dL_law_257 : decode cL_law 257 = .ok (.bipush 42, 2) := by decide +kernel
theorem dL_law_259 : decode cL_law 259 = .ok (.invokestatic 101, 3) := by decide +kernel
theorem dL_law_262 : decode cL_law 262 = .ok (.pop, 1) := by decide +kernel
theorem dL_law_263 : decode cL_law 263 = .ok (.aload_n 1, 1) := by decide +kernel
theorem dL_law_264 : decode cL_law 264 = .ok (.iconst 0, 1) := by decide +kernel
theorem dL_law_265 : decode cL_law 265 = .ok (.invokestatic 104, 3) := by decide +kernel
theorem dL_law_268 : decode cL_law 268 = .ok (.istore 7, 2) := by decide +kernel
theorem dL_law_270 : decode cL_law 270 = .ok (.iload_n 3, 1) := by decide +kernel
theorem dL_law_271 : decode cL_law 271 = .ok (.ifCond .eq 42, 3) := by decide +kernel
theorem dL_law_274 : decode cL_law 274 = .ok (.iload 7, 2) := by decide +kernel
theorem dL_law_276 : decode cL_law 276 = .ok (.ldc 10, 2) := by decide +kernel
theorem dL_law_278 : decode cL_law 278 = .ok (.if_icmp .eq 31, 3) := by decide +kernel
theorem dL_law_281 : decode cL_law 281 = .ok (.aload_n 1, 1) := by decide +kernel
theorem dL_law_282 : decode cL_law 282 = .ok (.iload 7, 2) := by decide +kernel
theorem dL_law_284 : decode cL_law 284 = .ok (.iconst 0, 1) := by decide +kernel
theorem dL_law_285 : decode cL_law 285 = .ok (.bipush 43, 2) := by decide +kernel
theorem dL_law_287 : decode cL_law 287 = .ok (.invokestatic 111, 3) := by decide +kernel
theorem dL_law_290 : decode cL_law 290 = .ok (.ifCond .lt 23, 3) := by decide +kernel
theorem dL_law_293 : decode cL_law 293 = .ok (.aload_n 1, 1) := by decide +kernel
theorem dL_law_294 : decode cL_law 294 = .ok (.invokestatic 269, 3) := by decide +kernel
theorem dL_law_297 : decode cL_law 297 = .ok (.ifCond .eq 16, 3) := by decide +kernel
theorem dL_law_300 : decode cL_law 300 = .ok (.aload_n 1, 1) := by decide +kernel
theorem dL_law_301 : decode cL_law 301 = .ok (.iload 7, 2) := by decide +kernel
theorem dL_law_303 : decode cL_law 303 = .ok (.invokestatic 279, 3) := by decide +kernel
theorem dL_law_306 : decode cL_law 306 = .ok (.ifCond .eq 7, 3) := by decide +kernel
theorem dL_law_309 : decode cL_law 309 = .ok (.iconst 1, 1) := by decide +kernel
theorem dL_law_310 : decode cL_law 310 = .ok (.goto 4, 3) := by decide +kernel
theorem dL_law_313 : decode cL_law 313 = .ok (.iconst 0, 1) := by decide +kernel
theorem dL_law_314 : decode cL_law 314 = .ok (.istore_n 3, 1) := by decide +kernel
theorem dL_law_315 : decode cL_law 315 = .ok (.iload_n 3, 1) := by decide +kernel
theorem dL_law_316 : decode cL_law 316 = .ok (.ifCond .eq 35, 3) := by decide +kernel
theorem dL_law_319 : decode cL_law 319 = .ok (.aload_n 1, 1) := by decide +kernel
theorem dL_law_320 : decode cL_law 320 = .ok (.invokestatic 127, 3) := by decide +kernel
theorem dL_law_323 : decode cL_law 323 = .ok (.iload 6, 2) := by decide +kernel
theorem dL_law_325 : decode cL_law 325 = .ok (.if_icmp .ne 26, 3) := by decide +kernel
theorem dL_law_328 : decode cL_law 328 = .ok (.aload_n 1, 1) := by decide +kernel
theorem dL_law_329 : decode cL_law 329 = .ok (.invokestatic 262, 3) := by decide +kernel
theorem dL_law_332 : decode cL_law 332 = .ok (.lload 4, 2) := by decide +kernel
theorem dL_law_334 : decode cL_law 334 = .ok (.lcmp, 1) := by decide +kernel
theorem dL_law_335 : decode cL_law 335 = .ok (.ifCond .ne 16, 3) := by decide +kernel
theorem dL_law_338 : decode cL_law 338 = .ok (.aload_n 1, 1) := by decide +kernel
theorem dL_law_339 : decode cL_law 339 = .ok (.invokestatic 129, 3) := by decide +kernel
theorem dL_law_342 : decode cL_law 342 = .ok (.ldc 10, 2) := by decide +kernel
theorem dL_law_344 : decode cL_law 344 = .ok (.if_icmp .ne 7, 3) := by decide +kernel
theorem dL_law_347 : decode cL_law 347 = .ok (.iconst 1, 1) := by decide +kernel
theorem dL_law_348 : decode cL_law 348 = .ok (.goto 4, 3) := by decide +kernel
theorem dL_law_351 : decode cL_law 351 = .ok (.iconst 0, 1) := by decide +kernel
theorem dL_law_352 : decode cL_law 352 = .ok (.ireturn, 1) := by decide +kernel
end
section
/-! ===== the store: cells by their addresses, arrays told by tags; lookups and writes ===== -/
def jTy : Nat → FieldType := fun k => match k with
  | 0 => .int
  | 1 => .byte
  | _ => .object "SnowLedger$State"
def jty (cy : Nat → ClassId) : List (ClassId × FieldType) := [(cy 0, jTy 0), (cy 1, jTy 1), (cy 2, jTy 2)]
def jce (cy : Nat → ClassId) (e : va_E) : va_E := match e with
  | .inl a => .inl (cy a.1, a.2)
  | .inr o => .inr o
def jcv (cy : Nat → ClassId) (w : va_W) : va_W := w.map fun q => (q.1, jce cy q.2)
def jlk : va_W → Nat → Option va_E
  | [], _ => none
  | q :: t, a => if q.1 = a then some q.2 else jlk t a
def jst : va_W → Nat → va_E → va_W
  | [], _, _ => []
  | q :: t, a, x => if q.1 = a then (a, x) :: t else q :: jst t a x
theorem jlk_at {w : va_W} {a : Nat} {e : va_E} (h : jlk w a = some e) : ∃ k : Nat, w[k]? = some (a, e) ∧ ∀ x, jst w a x = w.set k (a, x) := by
  induction w with
  | nil => simp [jlk] at h
  | cons q t ih =>
    obtain ⟨b, y⟩ := q
    by_cases hb : b = a
    · subst hb
      simp [jlk] at h
      subst h
      exact ⟨0, rfl, fun x => by simp [jst]⟩
    · simp [jlk, hb] at h
      obtain ⟨k, h1, h2⟩ := ih h
      exact ⟨k + 1, by simpa using h1, fun x => by simp [jst, hb, h2]⟩
theorem jst_self {w : va_W} {a : Nat} {e x : va_E} (h : jlk w a = some e) : jlk (jst w a x) a = some x := by
  induction w with
  | nil => simp [jlk] at h
  | cons q t ih =>
    by_cases hb : q.1 = a
    · simp [jst, jlk, hb]
    · simp [jlk, hb] at h
      simp [jst, jlk, hb, ih h]
theorem jst_ne {w : va_W} {a b : Nat} {x : va_E} (hb : b ≠ a) : jlk (jst w a x) b = jlk w b := by
  induction w with
  | nil => rfl
  | cons q t ih =>
    by_cases h : q.1 = a
    · simp [jst, jlk, h, Ne.symm hb]
    · by_cases h2 : q.1 = b
      · simp only [jst, if_neg h, jlk, if_pos h2]
      · simp only [jst, if_neg h, jlk, if_neg h2, ih]
theorem jcv_at {cy : Nat → ClassId} {w : va_W} {k a : Nat} {e : va_E} (h : w[k]? = some (a, e)) : (jcv cy w)[k]? = some (a, jce cy e) := by simp [jcv, h]
theorem jcv_set {cy : Nat → ClassId} {w : va_W} {k a : Nat} {x : va_E} : (jcv cy w).set k (a, jce cy x) = jcv cy (w.set k (a, x)) := by simp [jcv, List.map_set]
theorem jcv_push {cy : Nat → ClassId} {w : va_W} {a : Nat} {x : va_E} : jcv cy w ++ [(a, jce cy x)] = jcv cy (w ++ [(a, x)]) := by simp [jcv]
/-! ===== what the run takes as given, and what stands about it ===== -/
def jB : List Cond := lw_tbl.filter goodWord
def jOt (w : Cond) : Bool := match w with
  | .fieldLinkNest .. => true
  | .methodLinkNest .. => true
  | .castable .. => true
  | _ => false
def jN : List Cond := lw_tbl.filter jOt
theorem jB_in {w : Cond} (h : w ∈ lw_tbl) (hg : goodWord w = true) : w ∈ jB := List.mem_filter.mpr ⟨h, hg⟩
theorem jN_in {w : Cond} (h : w ∈ lw_tbl) (hg : jOt w = true) : w ∈ jN := List.mem_filter.mpr ⟨h, hg⟩
theorem jB_good : ∀ w ∈ jB, (w.onTables && w.keeps) = true ∨ ∃ ty, w = .arrayClass ty := fun _ h => good_of_word (List.mem_filter.mp h).2
theorem jN_warm {s U : State} (hW : s.WarmedH U.vm) (h : ∀ w ∈ jN, va_Nw w s) : ∀ w ∈ jN, va_Nw w U := by
  intro w hw
  have h1 := h w hw
  have h2 := (List.mem_filter.mp hw).2
  cases w <;> first | exact va_Nw.warmF hW h1 | exact va_Nw.warmM hW h1 | exact va_Nw.warmC hW h1 | simp [jOt] at h2
/-- the constants' names of the enum, in the order of their places -/
def jEnum : List String := ["NOTHING", "INDEX", "ELEMENT", "ARGUMENT", "STATE", "OPERATION"]
/-- what holds of the cells that nobody writes: κ tells their addresses -/
def jSF (κ : Nat → Nat) (A : Nat → Prop) (U : State) (H : Heap) : Prop :=
  va_Z "java/lang/String" "COMPACT_STRINGS" "Z" (.int 1) A U H ∧
  (va_Z "java/lang/Integer" "DigitOnes" "[B" (.ref (κ 0)) A U H ∧ va_Z "java/lang/Integer" "DigitTens" "[B" (.ref (κ 1)) A U H) ∧
  (va_T .byte (κ 0) 100 (fun j => .int (nI (48 + j % 10))) A U H ∧ va_T .byte (κ 1) 100 (fun j => .int (nI (48 + j / 10))) A U H) ∧
  (vx_Zq Bundle.tN "UNASSIGNED_STACK" Bundle.steD A U H ∧ vx_Zq Bundle.tN "SUPPRESSED_SENTINEL" Bundle.listD A U H) ∧
  va_En RX2 "LSnowLedger$Refusal;" jEnum [] (fun i => κ (2 + i)) A U H ∧
  ∀ w ∈ jN, va_Nw w U
theorem jSF.call {κ : Nat → Nat} {A B : Nat → Prop} {s U : State} {H : Heap} {locs : List Loc} (h : jSF κ A s s.heap) (hW : s.WarmedH U.vm) (hS : va_S A s.heap H locs) (hAB : ∀ q, B q → A q) : jSF κ B U H := by
  obtain ⟨h1, ⟨h2, h3⟩, ⟨h4, h5⟩, ⟨h6, h7⟩, h8, h9⟩ := h
  have hm := hW.alike
  have hk := hS.2.1
  exact ⟨((va_Z.moved hm h1).kept hk).narrow hAB, ⟨((va_Z.moved hm h2).kept hk).narrow hAB, ((va_Z.moved hm h3).kept hk).narrow hAB⟩, ⟨((va_T.moved hm h4).kept hk).narrow hAB, ((va_T.moved hm h5).kept hk).narrow hAB⟩, ⟨((vx_Zq.moved hm h6).kept hk).narrow hAB, ((vx_Zq.moved hm h7).kept hk).narrow hAB⟩, ((va_En.moved hm h8).kept hk).narrow hAB, jN_warm hW h9⟩
theorem jN_same {s U : State} (hv : s.vm = U.vm) (h : ∀ w ∈ jN, va_Nw w s) : ∀ w ∈ jN, va_Nw w U := by
  intro w hw
  have h1 := h w hw
  have h2 := (List.mem_filter.mp hw).2
  cases w <;> first | exact va_Nw.same rfl hv h1 | simp [jOt] at h2
theorem jSF.same {κ : Nat → Nat} {A : Nat → Prop} {s U : State} {H : Heap} (hv : s.vm = U.vm) (h : jSF κ A s H) : jSF κ A U H := by
  obtain ⟨h1, ⟨h2, h3⟩, ⟨h4, h5⟩, ⟨h6, h7⟩, h8, h9⟩ := h
  have hm : s.vm.Alike U.vm := by rw [hv]; exact Vm.Alike.refl _
  exact ⟨va_Z.moved hm h1, ⟨va_Z.moved hm h2, va_Z.moved hm h3⟩, ⟨va_T.moved hm h4, va_T.moved hm h5⟩, ⟨vx_Zq.moved hm h6, vx_Zq.moved hm h7⟩, va_En.moved hm h8, jN_same hv h9⟩
/-! ===== the judgement over a store ===== -/
abbrev jE : Type := Launch × va_G × (Nat → ClassId) × (Nat → Nat)
abbrev jG : Type := Program × jE × Env × Room × State × MethodId × Array Value × List Frame × Method × Code × (Nat → Prop) × (State → Prop)
def J (Γ : jG) (nL : Nat) (w : va_W) (kc ks pc : Nat) (lo : List (Nat × Value)) (st : List Value) : Prop :=
  match Γ with
  | (p, (l, D, cy, κ), e, R, s, m, args, below, meth, c, A, Q) => ∀ (H : Heap) (locs : List Loc) (ls : Array Slot), va_P D vwCl (jcv cy w) H → va_D A (jcv cy w) → va_S A s.heap H locs → lv_has ls nL lo → W p l e R s m args below meth c H locs kc ks Q (F0 m pc ls st)
def jX (Γ : jG) (cc : ByteArray) (nL : Nat) (own : String) : Prop :=
  match Γ with
  | (p, (l, D, cy, κ), e, R, s, m, args, below, meth, c, A, Q) => p.tables.exec = Jvm.exec ∧ c.code = cc ∧ c.maxLocals = nL ∧ s.vm.findClass own = some m.cls ∧ (∀ w ∈ jB, w.before args s = true) ∧ va_K D vwCl (jty cy) s ∧ (∀ q, s.heap.size ≤ q → A q) ∧ jSF κ A s s.heap ∧ meth.locks = false ∧ l.stackTraces = false
section JR
variable {Γ : jG} {cc : ByteArray} {nL : Nat} {own : String} {w : va_W} {kc ks pc : Nat} {lo : List (Nat × Value)} {st : List Value}
theorem j_iload_n (X : jX Γ cc nL own) {k : Fin 4} {x : Int32} (d : decode cc pc = .ok (.iload_n k, 1)) (j : Nat) (hj : lo[j]? = some ((k : Nat), .int x)) (kk : J Γ nL w kc ks (pc + 1) lo (.int x :: st)) : J Γ nL w kc ks pc lo st := by
  obtain ⟨p, ⟨l, D, cy, κ⟩, e, R, s, m, args, below, meth, c, A, Q⟩ := Γ
  obtain ⟨hx, hb, -⟩ := X
  intro H locs ls hP hD hS hl
  exact lv_iload_n hx hb d rfl (lv_at hl j hj) (kk H locs ls hP hD hS hl)
theorem j_iload (X : jX Γ cc nL own) {i : Nat} {x : Int32} (d : decode cc pc = .ok (.iload i, 2)) (j : Nat) (hj : lo[j]? = some (i, .int x)) (kk : J Γ nL w kc ks (pc + 2) lo (.int x :: st)) : J Γ nL w kc ks pc lo st := by
  obtain ⟨p, ⟨l, D, cy, κ⟩, e, R, s, m, args, below, meth, c, A, Q⟩ := Γ
  obtain ⟨hx, hb, -⟩ := X
  intro H locs ls hP hD hS hl
  exact lv_iload hx hb d (lv_at hl j hj) (kk H locs ls hP hD hS hl)
theorem j_aload_n (X : jX Γ cc nL own) {k : Fin 4} {x : Nat} (d : decode cc pc = .ok (.aload_n k, 1)) (j : Nat) (hj : lo[j]? = some ((k : Nat), .ref x)) (kk : J Γ nL w kc ks (pc + 1) lo (.ref x :: st)) : J Γ nL w kc ks pc lo st := by
  obtain ⟨p, ⟨l, D, cy, κ⟩, e, R, s, m, args, below, meth, c, A, Q⟩ := Γ
  obtain ⟨hx, hb, -⟩ := X
  intro H locs ls hP hD hS hl
  exact lv_aload_n hx hb d rfl (lv_at hl j hj) (kk H locs ls hP hD hS hl)
theorem j_istore_n (X : jX Γ cc nL own) {k : Fin 4} {x : Int32} (lo' : List (Nat × Value)) (d : decode cc pc = .ok (.istore_n k, 1)) (hn : (k : Nat) < nL) (hl' : ((k : Nat), Value.int x) :: lo.filter (fun q => !(q.1 == (k : Nat)) && !(q.1 + 1 == (k : Nat) && q.2.category == 2)) = lo') (kk : J Γ nL w kc ks (pc + 1) lo' st) : J Γ nL w kc ks pc lo (.int x :: st) := by
  obtain ⟨p, ⟨l, D, cy, κ⟩, e, R, s, m, args, below, meth, c, A, Q⟩ := Γ
  obtain ⟨hx, hb, -⟩ := X
  intro H locs ls hP hD hS hl
  exact lv_istore_n hx hb d rfl hl hn hl' (fun ls' h' => kk H locs ls' hP hD hS h')
theorem j_istore (X : jX Γ cc nL own) {k : Nat} {x : Int32} (lo' : List (Nat × Value)) (d : decode cc pc = .ok (.istore k, 2)) (hn : k < nL) (hl' : (k, Value.int x) :: lo.filter (fun q => !(q.1 == k) && !(q.1 + 1 == k && q.2.category == 2)) = lo') (kk : J Γ nL w kc ks (pc + 2) lo' st) : J Γ nL w kc ks pc lo (.int x :: st) := by
  obtain ⟨p, ⟨l, D, cy, κ⟩, e, R, s, m, args, below, meth, c, A, Q⟩ := Γ
  obtain ⟨hx, hb, -⟩ := X
  intro H locs ls hP hD hS hl
  exact lv_istore hx hb d hl hn hl' (fun ls' h' => kk H locs ls' hP hD hS h')
theorem j_iinc (X : jX Γ cc nL own) {i : Nat} {n : Int} {x : Int32} (v : Int32) (lo' : List (Nat × Value)) (d : decode cc pc = .ok (.iinc i n, 3)) (j : Nat) (hj : lo[j]? = some (i, .int x)) (hv : x + Int32.ofInt n = v) (hn : i < nL) (hl' : (i, Value.int v) :: lo.filter (fun q => !(q.1 == i) && !(q.1 + 1 == i && q.2.category == 2)) = lo') (kk : J Γ nL w kc ks (pc + 3) lo' st) : J Γ nL w kc ks pc lo st := by
  obtain ⟨p, ⟨l, D, cy, κ⟩, e, R, s, m, args, below, meth, c, A, Q⟩ := Γ
  obtain ⟨hx, hb, -⟩ := X
  intro H locs ls hP hD hS hl
  exact lv_iinc hx hb d hl hj hv hn hl' (fun ls' h' => kk H locs ls' hP hD hS h')
theorem j_iconst (X : jX Γ cc nL own) {n : Int} (v : Int32) (d : decode cc pc = .ok (.iconst n, 1)) (hv : Int32.ofInt n = v) (kk : J Γ nL w kc ks (pc + 1) lo (.int v :: st)) : J Γ nL w kc ks pc lo st := by
  obtain ⟨p, ⟨l, D, cy, κ⟩, e, R, s, m, args, below, meth, c, A, Q⟩ := Γ
  obtain ⟨hx, hb, -⟩ := X
  intro H locs ls hP hD hS hl
  exact lv_iconst hx hb d hv (kk H locs ls hP hD hS hl)
theorem j_bipush (X : jX Γ cc nL own) {n : Int} (v : Int32) (d : decode cc pc = .ok (.bipush n, 2)) (hv : (Int8.ofInt n).toInt32 = v) (kk : J Γ nL w kc ks (pc + 2) lo (.int v :: st)) : J Γ nL w kc ks pc lo st := by
  obtain ⟨p, ⟨l, D, cy, κ⟩, e, R, s, m, args, below, meth, c, A, Q⟩ := Γ
  obtain ⟨hx, hb, -⟩ := X
  intro H locs ls hP hD hS hl
  exact lv_bipush hx hb d hv (kk H locs ls hP hD hS hl)
theorem j_goto (X : jX Γ cc nL own) {off : Int} (tgt : Nat) (d : decode cc pc = .ok (.goto off, 3)) (ht : (pc : Int) + off = (tgt : Int)) (kk : J Γ nL w kc ks tgt lo st) : J Γ nL w kc ks pc lo st := by
  obtain ⟨p, ⟨l, D, cy, κ⟩, e, R, s, m, args, below, meth, c, A, Q⟩ := Γ
  obtain ⟨hx, hb, -⟩ := X
  intro H locs ls hP hD hS hl
  exact lv_goto hx hb d ht (kk H locs ls hP hD hS hl)
theorem j_if_lt (X : jX Γ cc nL own) {x : Int32} {off : Int} (tgt : Nat) (d : decode cc pc = .ok (.ifCond .lt off, 3)) (ht : (pc : Int) + off = (tgt : Int)) (kt : x < 0 → J Γ nL w kc ks tgt lo st) (kf : ¬ x < 0 → J Γ nL w kc ks (pc + 3) lo st) : J Γ nL w kc ks pc lo (.int x :: st) := by
  obtain ⟨p, ⟨l, D, cy, κ⟩, e, R, s, m, args, below, meth, c, A, Q⟩ := Γ
  obtain ⟨hx, hb, -⟩ := X
  intro H locs ls hP hD hS hl
  exact lv_if_lt hx hb d ht (fun q => kt q H locs ls hP hD hS hl) (fun q => kf q H locs ls hP hD hS hl)
theorem j_icmp_ge (X : jX Γ cc nL own) {x y : Int32} {off : Int} (tgt : Nat) (d : decode cc pc = .ok (.if_icmp .ge off, 3)) (ht : (pc : Int) + off = (tgt : Int)) (kt : y ≤ x → J Γ nL w kc ks tgt lo st) (kf : ¬ y ≤ x → J Γ nL w kc ks (pc + 3) lo st) : J Γ nL w kc ks pc lo (.int y :: .int x :: st) := by
  obtain ⟨p, ⟨l, D, cy, κ⟩, e, R, s, m, args, below, meth, c, A, Q⟩ := Γ
  obtain ⟨hx, hb, -⟩ := X
  intro H locs ls hP hD hS hl
  exact lv_icmp_ge hx hb d ht (fun q => kt q H locs ls hP hD hS hl) (fun q => kf q H locs ls hP hD hS hl)
theorem j_alen (X : jX Γ cc nL own) {a t n : Nat} {r : (Nat → Int32) ⊕ (Nat → Int64) ⊕ (Nat → UInt32) ⊕ (Nat → UInt64) ⊕ (Nat → Option Nat)} (ht : t < 3) (ha : jlk w a = some (.inl (t, n, r))) (d : decode cc pc = .ok (.arraylength, 1)) (kk : J Γ nL w kc ks (pc + 1) lo (.int (Int32.ofNat n) :: st)) : J Γ nL w kc ks pc lo (.ref a :: st) := by
  obtain ⟨p, ⟨l, D, cy, κ⟩, e, R, s, m, args, below, meth, c, A, Q⟩ := Γ
  obtain ⟨hx, hb, hml, hown, hts, hK, -⟩ := X
  intro H locs ls hP hD hS hl
  obtain ⟨k, h1, -⟩ := jlk_at ha
  have hty : (jty cy)[t]? = some (cy t, jTy t) := by
    rcases (show t = 0 ∨ t = 1 ∨ t = 2 by omega) with rfl | rfl | rfl <;> rfl
  exact va_alen hx hb hK hP k t (jcv_at (cy := cy) h1) hty rfl d (kk H locs ls hP hD hS hl)
theorem j_iald (X : jX Γ cc nL own) {a n : Nat} {f : Nat → Int32} {i : Int32} (ha : jlk w a = some (.inl (0, n, .inl f))) (hi : vp_in i n) (d : decode cc pc = .ok (.iaload, 1)) (kk : J Γ nL w kc ks (pc + 1) lo (.int (f i.toNatClampNeg) :: st)) : J Γ nL w kc ks pc lo (.int i :: .ref a :: st) := by
  obtain ⟨p, ⟨l, D, cy, κ⟩, e, R, s, m, args, below, meth, c, A, Q⟩ := Γ
  obtain ⟨hx, hb, hml, hown, hts, hK, -⟩ := X
  intro H locs ls hP hD hS hl
  obtain ⟨k, h1, -⟩ := jlk_at ha
  exact va_iald hx hb hK hP k 0 (jcv_at (cy := cy) h1) rfl hi d (kk H locs ls hP hD hS hl)
theorem j_iast (X : jX Γ cc nL own) {a n : Nat} {f : Nat → Int32} {i x : Int32} (ha : jlk w a = some (.inl (0, n, .inl f))) (hi : vp_in i n) (d : decode cc pc = .ok (.iastore, 1)) (kk : J Γ nL (jst w a (.inl (0, n, .inl (upd f i.toNatClampNeg x)))) kc ks (pc + 1) lo st) : J Γ nL w kc ks pc lo (.int x :: .int i :: .ref a :: st) := by
  obtain ⟨p, ⟨l, D, cy, κ⟩, e, R, s, m, args, below, meth, c, A, Q⟩ := Γ
  obtain ⟨hx, hb, hml, hown, hts, hK, -⟩ := X
  intro H locs ls hP hD hS hl
  obtain ⟨k, h1, h2⟩ := jlk_at ha
  have h3 : ∀ x, jcv cy (jst w a x) = (jcv cy w).set k (a, jce cy x) := fun x => by rw [h2, jcv_set]
  exact va_iast hx hb hK hP hD hS k 0 (jcv_at (cy := cy) h1) rfl hi d (fun H1 locs1 q1 q2 q3 => kk H1 locs1 ls (by rw [h3]; exact q1) (by rw [h3]; exact q2) q3 hl)
theorem j_get (X : jX Γ cc nL own) {a ci index : Nat} {ref C : String} {T : u_T} {N : Nat} (hc : vwCl[ci]? = some (C, T, N)) (hin : ∀ w ∈ u_ws C T N, w ∈ jB) {fs : List Value} {v : Value} (k : Nat) (hk : k < N) (ha : jlk w a = some (.inr (ci, fs))) (hv : fs[k]? = some v) (hl : (Cond.fieldLink own index ref (T k).2.1 (T k).2.2.1) ∈ jB) (hsame : (T k).1 = ref) (d : decode cc pc = .ok (.getfield index, 3)) (kk : J Γ nL w kc ks (pc + 3) lo (v :: st)) : J Γ nL w kc ks pc lo (.ref a :: st) := by
  obtain ⟨p, ⟨l, D, cy, κ⟩, e, R, s, m, args, below, meth, c, A, Q⟩ := Γ
  obtain ⟨hx, hb, hml, hown, hts, hK, -⟩ := X
  intro H locs ls hP hD hS hl9
  obtain ⟨j, h1, -⟩ := jlk_at ha
  exact va_get hx hb hts hin hown hK hP j (jcv_at (cy := cy) h1) hc k hk (hts _ hl) (fun x hx => by rw [← hsame]; exact hx) hv d (kk H locs ls hP hD hS hl9)
theorem j_getN (X : jX Γ cc nL own) {a ci index : Nat} {ref C host : String} {T : u_T} {N : Nat} (hc : vwCl[ci]? = some (C, T, N)) (hin : ∀ w ∈ u_ws C T N, w ∈ jB) {fs : List Value} {v : Value} (k : Nat) (hk : k < N) (ha : jlk w a = some (.inr (ci, fs))) (hv : fs[k]? = some v) (hl : (Cond.fieldLinkNest own index ref (T k).2.1 (T k).2.2.1 host) ∈ jN) (hsame : (T k).1 = ref) (d : decode cc pc = .ok (.getfield index, 3)) (kk : J Γ nL w kc ks (pc + 3) lo (v :: st)) : J Γ nL w kc ks pc lo (.ref a :: st) := by
  obtain ⟨p, ⟨l, D, cy, κ⟩, e, R, s, m, args, below, meth, c, A, Q⟩ := Γ
  obtain ⟨hx, hb, hml, hown, hts, hK, hA, hF, -⟩ := X
  intro H locs ls hP hD hS hl9
  obtain ⟨j, h1, -⟩ := jlk_at ha
  exact va_getN hx hb hts hin hown hK hP j (jcv_at (cy := cy) h1) hc k hk (va_Nw.use rfl (hF.2.2.2.2.2 _ hl)) (fun x hx => by rw [← hsame]; exact hx) hv d (kk H locs ls hP hD hS hl9)
end JR
end
section
/-! ===== contracts over a store ===== -/
abbrev jgE (Γ : jG) : jE := Γ.2.1
abbrev jgR (Γ : jG) : Room := Γ.2.2.2.1
def jPre (E : jE) (w : va_W) (sz : Nat) (U : State) : Prop := U.heap.size = sz ∧ va_P E.2.1 vwCl (jcv E.2.2.1 w) U.heap ∧ va_K E.2.1 vwCl (jty E.2.2.1) U ∧ va_D (fun _ => True) (jcv E.2.2.1 w) ∧ jSF E.2.2.2 (va_A (jcv E.2.2.1 w) sz) U U.heap
def jQ (E : jE) (w : va_W) (sz : Nat) (Post : Option Value → va_W → Prop) : Array Value → State → Outcome → State → Prop := fun _ st oc t => (∃ (v : Option Value) (u : va_W), oc = .returned v ∧ Post v u ∧ va_P E.2.1 vwCl (jcv E.2.2.1 u) t.heap ∧ va_D (va_A (jcv E.2.2.1 w) sz) (jcv E.2.2.1 u)) ∧ va_F (va_A (jcv E.2.2.1 w) sz) st t
def jC (E : jE) (y : MethodName) (cc : ByteArray) (maxL : Nat) (rt : Option FieldType) (rm : Room) (As : List Value) (w : va_W) (mc ms : Nat) (Post : Option Value → va_W → Prop) : Prop := E.1.stackTraces = false → ∀ sz : Nat, Met E.1 y (Cond.code y cc maxL rt :: jB) rm (va_Pc As (jPre E w sz)) (jQ E w sz Post) mc ms (va_A (jcv E.2.2.1 w) sz)
/-- a return at pc, with v -/
def jOk (cc : ByteArray) (pc : Nat) (rt : Option FieldType) (v : Option Value) (st : List Value) : Prop :=
  (decode cc pc = .ok (.return_, 1) ∧ rt = none ∧ v = none ∧ st = []) ∨
  (decode cc pc = .ok (.ireturn, 1) ∧ ∃ (ty : FieldType) (r : Int32), rt = some ty ∧ narrow ty (.int r) = .int r ∧ v = some (.int r) ∧ st = [.int r]) ∨
  (decode cc pc = .ok (.areturn, 1) ∧ ∃ (ty : FieldType) (r : Nat), rt = some ty ∧ ((∃ n, ty = .object n) ∨ ∃ t, ty = .array t) ∧ v = some (.ref r) ∧ st = [.ref r]) ∨
  (decode cc pc = .ok (.lreturn, 1) ∧ ∃ r : Int64, rt = some .long ∧ v = some (.long r) ∧ st = [.long r]) ∨
  (decode cc pc = .ok (.dreturn, 1) ∧ ∃ r : UInt64, rt = some .double ∧ v = some (.double r) ∧ st = [.double r]) ∨
  (decode cc pc = .ok (.freturn, 1) ∧ ∃ r : UInt32, rt = some .float ∧ v = some (.float r) ∧ st = [.float r])
def jRt (Γ : jG) (cc : ByteArray) (nL mc ms : Nat) (rt : Option FieldType) (Post : Option Value → va_W → Prop) : Prop :=
  ∀ (u : va_W) (kc ks pc : Nat) (lo : List (Nat × Value)) (v : Option Value) (st : List Value), kc ≤ mc → ks ≤ ms → jOk cc pc rt v st → Post v u → J Γ nL u kc ks pc lo st
theorem jC_of {E : jE} {y : MethodName} {cc : ByteArray} {maxL : Nat} {rt : Option FieldType} {rm : Room} {As : List Value} {w : va_W} {mc ms : Nat} {Post : Option Value → va_W → Prop} (hy : plainName y.cls = true) (hsz : (lg_sl As).length ≤ maxL)
    (body : ∀ Γ : jG, jX Γ cc maxL y.cls → jgE Γ = E → jgR Γ = rm → jRt Γ cc maxL mc ms rt Post → J Γ maxL w 0 0 0 (lv_args 0 As) []) : jC E y cc maxL rt rm As w mc ms Post := by
  obtain ⟨l, D, cy, κ⟩ := E
  intro hst sz
  refine Met.ofW (cc := cc) (maxL := maxL) (ret := rt) hy rfl ?_
  intro p e s m args below meth c s₁ B hml hv
  obtain ⟨rfl, hsz9, hP, hK, hD0, hF⟩ := hv
  have hx := B.exec
  have hb := B.bytes
  have hr := B.returns
  have hts := atoms_spec (ws := Cond.code y cc maxL rt :: jB) B.pre
  have hown : s.vm.findClass y.cls = some m.cls := findClass_of_methodNamed B.named
  have hlocks := B.notSynchronized
  subst hsz9
  have hD := hD0.self (sz := s.heap.size)
  rw [lg_entry_eq]
  have hl := lv_entry As (n := maxL) hsz
  have hA : ∀ q : Nat, s.heap.size ≤ q → va_A (jcv cy w) s.heap.size q := fun q h => Or.inr h
  have key := body (p, (l, D, cy, κ), e, rm, s, m, As.toArray, below, meth, c, va_A (jcv cy w) s.heap.size, MQ below (jQ (l, D, cy, κ) w s.heap.size Post) As.toArray s mc ms (va_A (jcv cy w) s.heap.size))
    ⟨hx, hb, hml, hown, fun w hw => hts w (List.mem_cons_of_mem _ hw), hK, hA, hF, hlocks, hst⟩ rfl rfl ?_
  · exact key s.heap [] _ hP hD va_S.rf hl
  · intro u kc ks pc lo v st hkc hks hok hpost H locs ls hP hD hS hl
    have hq : ∀ t : State, t.heap = H → s.WarmedH t.vm → jQ (l, D, cy, κ) w s.heap.size Post As.toArray s (.returned v) t := fun t ht hW => ⟨⟨v, u, rfl, hpost, by rw [ht]; exact hP, hD⟩, hS.F ht⟩
    refine W.widen hkc hks ?_
    rcases hok with ⟨d, h1, h2, h3⟩ | ⟨d, ty, r, h1, h0, h2, h3⟩ | ⟨d, ty, r, h1, h0, h2, h3⟩ | ⟨d, r, h1, h2, h3⟩ | ⟨d, r, h1, h2, h3⟩ | ⟨d, r, h1, h2, h3⟩
    · subst h2; subst h3
      exact W.vret hx hb (by rw [hr]; exact h1) hq hS.2.2 d
    · subst h2; subst h3
      exact W.zret hx hb (by rw [hr]; exact h1) h0 hq hS.2.2 d
    · subst h2; subst h3
      exact W.aret hx hb (by rw [hr]; exact h1) h0 (Or.inr ⟨r, rfl⟩) hq hS.2.2 d
    · subst h2; subst h3
      exact W.lret hx hb (by rw [hr]; exact h1) hq hS.2.2 d
    · subst h2; subst h3
      exact W.dret hx hb (by rw [hr]; exact h1) hq hS.2.2 d
    · subst h2; subst h3
      exact W.fret hx hb (by rw [hr]; exact h1) hq hS.2.2 d
theorem jRt.v {Γ : jG} {cc : ByteArray} {nL mc ms : Nat} {Post : Option Value → va_W → Prop} (h : jRt Γ cc nL mc ms none Post) {u : va_W} {kc ks pc : Nat} {lo : List (Nat × Value)} (d : decode cc pc = .ok (.return_, 1)) (hp : Post none u) (h1 : kc ≤ mc) (h2 : ks ≤ ms) : J Γ nL u kc ks pc lo [] := h u kc ks pc lo none [] h1 h2 (Or.inl ⟨d, rfl, rfl, rfl⟩) hp
theorem jRt.z {Γ : jG} {cc : ByteArray} {nL mc ms : Nat} {ty : FieldType} {Post : Option Value → va_W → Prop} (h : jRt Γ cc nL mc ms (some ty) Post) {u : va_W} {kc ks pc : Nat} {lo : List (Nat × Value)} {r : Int32} (d : decode cc pc = .ok (.ireturn, 1)) (hn : narrow ty (.int r) = .int r) (hp : Post (some (.int r)) u) (h1 : kc ≤ mc) (h2 : ks ≤ ms) : J Γ nL u kc ks pc lo [.int r] := h u kc ks pc lo (some (.int r)) [.int r] h1 h2 (Or.inr (Or.inl ⟨d, ty, r, rfl, hn, rfl, rfl⟩)) hp
theorem jRt.i {Γ : jG} {cc : ByteArray} {nL mc ms : Nat} {Post : Option Value → va_W → Prop} (h : jRt Γ cc nL mc ms (some .int) Post) {u : va_W} {kc ks pc : Nat} {lo : List (Nat × Value)} {r : Int32} (d : decode cc pc = .ok (.ireturn, 1)) (hp : Post (some (.int r)) u) (h1 : kc ≤ mc) (h2 : ks ≤ ms) : J Γ nL u kc ks pc lo [.int r] := h.z d (vp_nar_int r) hp h1 h2
theorem jRt.a {Γ : jG} {cc : ByteArray} {nL mc ms : Nat} {ty : FieldType} {Post : Option Value → va_W → Prop} (h : jRt Γ cc nL mc ms (some ty) Post) (hty : (∃ n, ty = .object n) ∨ ∃ t, ty = .array t) {u : va_W} {kc ks pc : Nat} {lo : List (Nat × Value)} {r : Nat} (d : decode cc pc = .ok (.areturn, 1)) (hp : Post (some (.ref r)) u) (h1 : kc ≤ mc) (h2 : ks ≤ ms) : J Γ nL u kc ks pc lo [.ref r] := h u kc ks pc lo (some (.ref r)) [.ref r] h1 h2 (Or.inr (Or.inr (Or.inl ⟨d, ty, r, rfl, hty, rfl, rfl⟩))) hp
/-! ===== calls ===== -/
def jMv (y : MethodName) (cc : ByteArray) (maxL : Nat) (rt : Option FieldType) (n : Nat) : Prop := Cond.instanceMethod y ∈ jB ∧ Cond.selects y.cls y y ∈ jB ∧ Cond.initialized y.cls ∈ jB ∧ Cond.code y cc maxL rt ∈ jB ∧ (y.cls ≠ "java/lang/invoke/MethodHandle" ∧ y.cls ≠ "java/lang/invoke/VarHandle") ∧ (parseMethodDescriptor y.desc).map (fun d => d.parameters.length) = some n
def jMs (y : MethodName) (cc : ByteArray) (maxL : Nat) (rt : Option FieldType) (n : Nat) : Prop := Cond.static y ∈ jB ∧ Cond.initialized y.cls ∈ jB ∧ Cond.code y cc maxL rt ∈ jB ∧ (y.cls ≠ "java/lang/invoke/MethodHandle" ∧ y.cls ≠ "java/lang/invoke/VarHandle") ∧ (parseMethodDescriptor y.desc).map (fun d => d.parameters.length) = some n
theorem jG_c {w : Cond} (hc : w ∈ jB) : GoodIn jB (w :: jB) := fun z hz => by
  rcases List.mem_cons.mp hz with rfl | h
  · exact ⟨hc, jB_good _ hc⟩
  · exact ⟨h, jB_good _ h⟩
section JCalls
variable {p : Program} {l : Launch} {e : Env} {R : Room} {s : State} {m : MethodId} {args : Array Value} {below : List Frame} {meth : Method} {c : Code} {H : Heap} {locs : List Loc} {cells slots : Nat} {Q : State → Prop}
theorem jW_run {Qa : State → Outcome → State → Prop} {free : Addr → Prop} {pc mc ms : Nat} {ls : Array Slot} {st0 rest : List Value} {A0 : Nat → Prop} {H0 : Heap} (hr : va_Run p l e R s m args below meth c H locs cells slots mc ms (F0 m pc ls st0) rest Qa free) (hS : va_S A0 H0 H locs) (hf : ∀ q, free q → A0 q)
    (kk : ∀ (v : Option Value) (st₀ t : State) (H1 : Heap) (locs1 : List Loc), st₀.heap = H → t.heap = H1 → s.vm.Alike t.vm → Qa st₀ (.returned v) t → (∀ L : List Loc, (∀ q ∈ L, free q.base) → locs1 = locs ++ L → W p l e R s m args below meth c H1 locs1 (cells + mc) (slots + ms) Q (F0 m (pc + 3) ls (v.toList ++ rest)))) : W p l e R s m args below meth c H locs cells slots Q (F0 m pc ls st0) := by
  intro T hT X
  obtain ⟨v, st₀, t, T', L, h0, X', hL, e1, e2, hq, st⟩ := hr T hT X
  obtain ⟨t2, a1, b1⟩ := kk v st₀ t T'.heap (locs ++ L) h0 e1.symm (by rw [← e2]; exact X'.warmed.alike) hq L hL rfl T' rfl X'
  exact ⟨t2, st t2 a1, b1⟩
end JCalls
section JR2
variable {Γ : jG} {cc : ByteArray} {nL : Nat} {own : String} {w : va_W} {kc ks pc : Nat} {lo : List (Nat × Value)} {st : List Value}
/-- the world behind a call -/
theorem j_back {D : va_G} {cy : Nat → ClassId} {A : Nat → Prop} {H0 H H1 : Heap} {locs L : List Loc} {st₀ t : State} {w u : va_W} (hP : va_P D vwCl (jcv cy w) H) (hD : va_D A (jcv cy w)) (hS : va_S A H0 H locs) (hA : ∀ q, H0.size ≤ q → A q) (h0 : st₀.heap = H) (h1 : t.heap = H1) (hF : va_F (va_A (jcv cy w) H.size) st₀ t) (hD1 : va_D (va_A (jcv cy w) H.size) (jcv cy u)) (hL : ∀ q ∈ L, va_A (jcv cy w) H.size q.base) : va_D A (jcv cy u) ∧ va_S A H0 H1 (locs ++ L) := by
  have hAA : ∀ q, va_A (jcv cy w) H.size q → A q := by
    intro q hq
    rcases hq with ⟨k, e, h⟩ | h
    · exact hD.2 k (q, e) h
    · exact hA q (Nat.le_trans hS.1 h)
  refine ⟨hD1.weaken (fun _ _ _ h => hAA _ h), ?_, ?_, ?_⟩
  · rw [← h1]; exact Nat.le_trans hS.1 (by rw [← h0]; exact hF.1)
  · intro q hq1 hq2
    have hqH : q < H.size := Nat.lt_of_lt_of_le hq1 hS.1
    rw [← h1, hF.2 q (by rw [h0]; exact hqH) (fun z => hq2 (hAA q z)), h0]
    exact hS.2.1 q hq1 hq2
  · intro q hq
    rcases List.mem_append.mp hq with h | h
    · exact hS.2.2 q h
    · exact hAA _ (hL q h)
theorem j_pre {l : Launch} {D : va_G} {cy : Nat → ClassId} {κ : Nat → Nat} {A : Nat → Prop} {s U : State} {H : Heap} {locs : List Loc} {w : va_W} (hK : va_K D vwCl (jty cy) s) (hF : jSF κ A s s.heap) (hP : va_P D vwCl (jcv cy w) H) (hD : va_D A (jcv cy w)) (hS : va_S A s.heap H locs) (hA : ∀ q, s.heap.size ≤ q → A q) (hU : U.heap = H) (hW : s.WarmedH U.vm) : jPre (l, D, cy, κ) w H.size U := by
  have hAA : ∀ q, va_A (jcv cy w) H.size q → A q := by
    intro q hq
    rcases hq with ⟨k, e, h⟩ | h
    · exact hD.2 k (q, e) h
    · exact hA q (Nat.le_trans hS.1 h)
  refine ⟨by rw [hU], by rw [hU]; exact hP, va_K.moved hW.alike hK, hD.weaken (fun _ _ _ _ => trivial), ?_⟩
  show jSF κ (va_A (jcv cy w) H.size) U U.heap
  rw [hU]
  exact hF.call hW hS hAA
theorem j_blind {E : jE} {As : List Value} {w : va_W} {sz : Nat} : FrameBlind (va_Pc As (jPre E w sz)) := by
  intro a U g mk h
  obtain ⟨h1, h2, h3, h4, h5, h6⟩ := h
  refine ⟨h1, h2, h3, va_K.moved (u := U) (U := U.calling g mk a) (Vm.Alike.refl U.vm) h4, h5, ?_⟩
  exact jSF.same (s := U) (U := U.calling g mk a) rfl h6
theorem j_callV (X : jX Γ cc nL own) {y : MethodName} {cy : ByteArray} {maxL n : Nat} {rt : Option FieldType} {rm : Room} {b : Nat} (As rest : List Value) {mc ms : Nat} {Post : Option Value → va_W → Prop} (hM : jC (jgE Γ) y cy maxL rt rm (.ref b :: As) w mc ms Post) {ci index : Nat} {T : u_T} {N : Nat} {fs : List Value} (hb : jlk w b = some (.inr (ci, fs))) (hci : vwCl[ci]? = some (y.cls, T, N)) (hm : jMv y cy maxL rt n) (hl : Cond.methodLink own index y ∈ jB) (hn : As.length = n) (hrm : rm.cells = mc ∧ rm.slots = ms) (hR : (rm.frames + 1 ≤ (jgR Γ).frames ∧ 8 + (maxL + 11) + rm.locals ≤ (jgR Γ).locals) ∧ kc + mc ≤ (jgR Γ).cells ∧ ks + ms ≤ (jgR Γ).slots) (hst : st = As.reverse ++ .ref b :: rest) (hcat : (rest.map fun v => v.category).sum ≤ 8) (d : decode cc pc = .ok (.invokevirtual index, 3))
    (kk : ∀ (v : Option Value) (u : va_W), Post v u → J Γ nL u (kc + mc) (ks + ms) (pc + 3) lo (v.toList ++ rest)) : J Γ nL w kc ks pc lo st := by
  obtain ⟨p, ⟨l, D, cyy, κ⟩, e, R, s, m, args, below, meth, c, A, Q⟩ := Γ
  obtain ⟨hx, hbc, hml, hown, hts, hK, hA, hF, hlk, hst9⟩ := X
  intro H locs ls hP hD hS hl9
  obtain ⟨j, h1, -⟩ := jlk_at hb
  obtain ⟨m1, m2, m3, m4, m5, m6⟩ := hm
  refine jW_run (va_runV (As := As) (rest := rest) (C := y.cls) ⟨hx, hbc, hml, hown, hts⟩ (hM hst9 H.size) (cwV n hts ?_ rfl hrm.1 hrm.2 ⟨rfl, m5.1, m5.2, m6⟩ hR.1) ⟨j_blind, va_recv hK hP hci (jcv_at (cy := cyy) h1), fun U hU hW => ⟨rfl, j_pre hK hF hP hD hS hA hU hW⟩⟩ rfl hn hl9.1 hst (lv_room hcat) d hR.2) hS ?_ ?_
  · intro z hz
    unfold wsV at hz
    rcases List.mem_append.mp hz with h | h
    · have : z ∈ jB := by
        simp only [List.mem_cons, List.not_mem_nil, or_false] at h
        rcases h with rfl | rfl | rfl | rfl
        · exact hl
        · exact m1
        · exact m2
        · exact m3
      exact ⟨this, jB_good _ this⟩
    · exact jG_c m4 z h
  · intro q hq
    rcases hq with ⟨k, e9, h⟩ | h
    · exact hD.2 k (q, e9) h
    · exact hA q (Nat.le_trans hS.1 h)
  · intro v st₀ t H1 locs1 h0 ht hvm hq L hL hlocs
    obtain ⟨⟨v9, u, hv, hpost, hP1, hD1⟩, hF1⟩ := hq
    cases hv
    obtain ⟨hD2, hS2⟩ := j_back hP hD hS hA h0 ht hF1 hD1 hL
    rw [hlocs]
    exact kk _ u hpost H1 _ ls (by rw [← ht]; exact hP1) hD2 hS2 hl9
end JR2
end
