/-! ===== the store: cells by their addresses, arrays told by tags; lookups and writes ===== -/
def jTy : Nat → FieldType := fun k => match k with
  | 0 => .int
  | 1 => .byte
  | _ => .object "SnowLedger$State"
def jty (cy : Nat → ClassId) : List (ClassId × FieldType) := [(cy 0, jTy 0), (cy 1, jTy 1), (cy 2, jTy 2)]
def jce (cy : Nat → ClassId) (e : va_E) : va_E := match e with
  | .inl a => .inl (cy a.1, a.2)
  | .inr o => .inr o
def jcv (cy : Nat → ClassId) (w : va_W) : va_W := w.map fun q => (q.1, jce cy q.2)
def jlk : va_W → Nat → Option va_E
  | [], _ => none
  | q :: t, a => if q.1 = a then some q.2 else jlk t a
def jst : va_W → Nat → va_E → va_W
  | [], _, _ => []
  | q :: t, a, x => if q.1 = a then (a, x) :: t else q :: jst t a x
theorem jlk_at {w : va_W} {a : Nat} {e : va_E} (h : jlk w a = some e) : ∃ k : Nat, w[k]? = some (a, e) ∧ ∀ x, jst w a x = w.set k (a, x) := by
  induction w with
  | nil => simp [jlk] at h
  | cons q t ih =>
    obtain ⟨b, y⟩ := q
    by_cases hb : b = a
    · subst hb
      simp [jlk] at h
      subst h
      exact ⟨0, rfl, fun x => by simp [jst]⟩
    · simp [jlk, hb] at h
      obtain ⟨k, h1, h2⟩ := ih h
      exact ⟨k + 1, by simpa using h1, fun x => by simp [jst, hb, h2]⟩
theorem jst_self {w : va_W} {a : Nat} {e x : va_E} (h : jlk w a = some e) : jlk (jst w a x) a = some x := by
  induction w with
  | nil => simp [jlk] at h
  | cons q t ih =>
    by_cases hb : q.1 = a
    · simp [jst, jlk, hb]
    · simp [jlk, hb] at h
      simp [jst, jlk, hb, ih h]
theorem jst_ne {w : va_W} {a b : Nat} {x : va_E} (hb : b ≠ a) : jlk (jst w a x) b = jlk w b := by
  induction w with
  | nil => rfl
  | cons q t ih =>
    by_cases h : q.1 = a
    · simp [jst, jlk, h, Ne.symm hb]
    · by_cases h2 : q.1 = b
      · simp only [jst, if_neg h, jlk, if_pos h2]
      · simp only [jst, if_neg h, jlk, if_neg h2, ih]
theorem jcv_at {cy : Nat → ClassId} {w : va_W} {k a : Nat} {e : va_E} (h : w[k]? = some (a, e)) : (jcv cy w)[k]? = some (a, jce cy e) := by simp [jcv, h]
theorem jcv_set {cy : Nat → ClassId} {w : va_W} {k a : Nat} {x : va_E} : (jcv cy w).set k (a, jce cy x) = jcv cy (w.set k (a, x)) := by simp [jcv, List.map_set]
theorem jcv_push {cy : Nat → ClassId} {w : va_W} {a : Nat} {x : va_E} : jcv cy w ++ [(a, jce cy x)] = jcv cy (w ++ [(a, x)]) := by simp [jcv]
/-! ===== what the run takes as given, and what stands about it ===== -/
def jSel : List Cond := [Cond.selects RJ4 yJ5_ensureCapacityInternal_d00df yJ5_ensureCapacityInternal_d00df, Cond.selects RJ4 yJ5_newCapacity_0f7a4 yJ5_newCapacity_0f7a4]
def jB : List Cond := lw_tbl.filter goodWord ++ jSel
def jOt (w : Cond) : Bool := match w with
  | .fieldLinkNest .. => true
  | .methodLinkNest .. => true
  | .castable .. => true
  | .declares .. => true
  | _ => false
def jN : List Cond := lw_tbl.filter jOt
theorem jB_in {w : Cond} (h : w ∈ lw_tbl) (hg : goodWord w = true) : w ∈ jB := List.mem_append_left _ (List.mem_filter.mpr ⟨h, hg⟩)
theorem jN_in {w : Cond} (h : w ∈ lw_tbl) (hg : jOt w = true) : w ∈ jN := List.mem_filter.mpr ⟨h, hg⟩
theorem jB_gw : ∀ w ∈ jB, goodWord w = true := fun w h => (List.mem_append.mp h).elim (fun h => (List.mem_filter.mp h).2) (fun h => by
  simp only [jSel, List.mem_cons, List.not_mem_nil, or_false] at h
  rcases h with rfl | rfl <;> rfl)
theorem jB_good : ∀ w ∈ jB, (w.onTables && w.keeps) = true ∨ ∃ ty, w = .arrayClass ty := fun w h => good_of_word (jB_gw w h)
theorem jN_warm {s U : State} (hW : s.WarmedH U.vm) (h : ∀ w ∈ jN, va_Nw w s) : ∀ w ∈ jN, va_Nw w U := by
  intro w hw
  have h1 := h w hw
  have h2 := (List.mem_filter.mp hw).2
  cases w <;> first | exact va_Nw.warmF hW h1 | exact va_Nw.warmM hW h1 | exact va_Nw.warmC hW h1 | exact va_Nw.warmD hW h1 | simp [jOt] at h2
/-- the constants' names of the enum, in the order of their places -/
def jEnum : List String := ["NOTHING", "INDEX", "ELEMENT", "ARGUMENT", "STATE", "OPERATION"]
/-- the texts' places: class, entry, text, number -/
def jStr : List (String × Nat × String × Nat) := [("SnowLedger$Script", 72, "hill", 0), ("SnowLedger$Script", 82, "write ", 1), ("SnowLedger$Script", 87, "follow ", 2), ("SnowLedger$Script", 92, "swap ", 3), ("SnowLedger$Script", 97, "me", 4), ("SnowLedger$Script", 108, "lt ", 5), ("SnowLedger$Script", 110, "nd ", 6), ("SnowLedgerLaw", 295, "hill", 7), ("SnowLedgerLaw", 297, "hill;hill", 8), ("SnowLedgerLaw", 299, "write 0", 9), ("SnowLedgerLaw", 301, "write 0,12,7", 10), ("SnowLedgerLaw", 303, "write 1,5;write 1,5,5,99,0", 11), ("SnowLedgerLaw", 305, "write 0,1,2,3,4,5", 12), ("SnowLedgerLaw", 307, "follow 0 0", 13), ("SnowLedgerLaw", 309, "follow 1 2;write 1", 14), ("SnowLedgerLaw", 311, "melt 1", 15), ("SnowLedgerLaw", 313, "melt 2;melt 2", 16), ("SnowLedgerLaw", 315, "swap 1 0 5", 17), ("SnowLedgerLaw", 317, "swap 2 1 09;mend 2", 18), ("SnowLedgerLaw", 319, "mend 1", 19), ("SnowLedgerLaw", 321, "mend 1;mend 1", 20), ("SnowLedgerLaw", 323, "follow 0 99", 21), ("SnowLedgerLaw", 325, "melt 0", 22), ("SnowLedgerLaw", 327, "mend 0", 23), ("SnowLedgerLaw", 329, "swap 0 0 1", 24), ("SnowLedgerLaw", 331, "write 9", 25), ("SnowLedgerLaw", 333, "write 0;write 0;melt 1", 26), ("SnowLedger", 396, "there is no such hill or position", 27), ("SnowLedger", 401, "there is no such block in the tree", 28), ("SnowLedger", 406, "the flake is out of range, or the block is the root", 29), ("SnowLedger", 411, "there is no room for more, or nothing to repair", 30), ("SnowLedger", 418, "the followed branch is not valid", 31), ("SnowLedger", 325, "the script does not have the required form", 32), ("SnowLedger", 358, "a command of the script failed", 33), ("SnowLedger", 372, "no script had a failed command", 34), ("SnowLedger", 376, "there is nothing to undo", 35), ("SnowLedger", 385, "there is no snapshot", 36), ("SnowLedger", 305, "a character code is between 32 and 126", 37), ("SnowLedger", 310, "the script buffer is full", 38), ("SnowLedger", 426, "there is no such hill", 39), ("SnowLedger", 421, "there is no such block besides the root", 40), ("SnowLedger", 167, "the block has no such position", 41), ("SnowLedger", 202, "the branch is valid", 42), ("SnowLedger", 244, "a height is between 0 and 15", 43), ("SnowLedger", 226, "there is no such rank", 44)]
/-- what the first texts hold, by their numbers -/
def jTxt : List (List Nat) := [[104, 105, 108, 108], [119, 114, 105, 116, 101, 32], [102, 111, 108, 108, 111, 119, 32], [115, 119, 97, 112, 32], [109, 101], [108, 116, 32], [110, 100, 32], [104, 105, 108, 108], [104, 105, 108, 108, 59, 104, 105, 108, 108], [119, 114, 105, 116, 101, 32, 48], [119, 114, 105, 116, 101, 32, 48, 44, 49, 50, 44, 55], [119, 114, 105, 116, 101, 32, 49, 44, 53, 59, 119, 114, 105, 116, 101, 32, 49, 44, 53, 44, 53, 44, 57, 57, 44, 48], [119, 114, 105, 116, 101, 32, 48, 44, 49, 44, 50, 44, 51, 44, 52, 44, 53], [102, 111, 108, 108, 111, 119, 32, 48, 32, 48], [102, 111, 108, 108, 111, 119, 32, 49, 32, 50, 59, 119, 114, 105, 116, 101, 32, 49], [109, 101, 108, 116, 32, 49], [109, 101, 108, 116, 32, 50, 59, 109, 101, 108, 116, 32, 50], [115, 119, 97, 112, 32, 49, 32, 48, 32, 53], [115, 119, 97, 112, 32, 50, 32, 49, 32, 48, 57, 59, 109, 101, 110, 100, 32, 50], [109, 101, 110, 100, 32, 49], [109, 101, 110, 100, 32, 49, 59, 109, 101, 110, 100, 32, 49], [102, 111, 108, 108, 111, 119, 32, 48, 32, 57, 57], [109, 101, 108, 116, 32, 48], [109, 101, 110, 100, 32, 48], [115, 119, 97, 112, 32, 48, 32, 48, 32, 49], [119, 114, 105, 116, 101, 32, 57], [119, 114, 105, 116, 101, 32, 48, 59, 119, 114, 105, 116, 101, 32, 48, 59, 109, 101, 108, 116, 32, 49]]
def jLen (i : Nat) : Nat := (jTxt.getD i []).length
def jByt (i j : Nat) : Nat := (jTxt.getD i []).getD j 0
/-- the classes that are thrown: none is another's -/
def jXcs : List (String × String) := (["java/lang/IndexOutOfBoundsException", "java/util/NoSuchElementException", "java/lang/IllegalArgumentException", "java/lang/IllegalStateException", "java/lang/UnsupportedOperationException"].flatMap fun a => ["java/lang/IndexOutOfBoundsException", "java/util/NoSuchElementException", "java/lang/IllegalArgumentException", "java/lang/IllegalStateException", "java/lang/UnsupportedOperationException"].map fun b => (a, b)).filter fun q => decide (q.1 ≠ q.2)
/-- the script's ints, told by κ -/
def jXs (κ : Nat → Nat) (j : Nat) : Int32 := Int32.ofNat (κ (201 + j))
/-- what holds of the cells that nobody writes: κ tells their addresses -/
def jSF (κ : Nat → Nat) (A : Nat → Prop) (U : State) (H : Heap) : Prop :=
  va_Z "java/lang/String" "COMPACT_STRINGS" "Z" (.int 1) A U H ∧
  (va_Z "java/lang/Integer" "DigitOnes" "[B" (.ref (κ 0)) A U H ∧ va_Z "java/lang/Integer" "DigitTens" "[B" (.ref (κ 1)) A U H) ∧
  (va_T .byte (κ 0) 100 (fun j => .int (nI (48 + j % 10))) A U H ∧ va_T .byte (κ 1) 100 (fun j => .int (nI (48 + j / 10))) A U H) ∧
  (vx_Zq Bundle.tN "UNASSIGNED_STACK" Bundle.steD A U H ∧ vx_Zq Bundle.tN "SUPPRESSED_SENTINEL" Bundle.listD A U H) ∧
  va_En RX2 "LSnowLedger$Refusal;" jEnum [] (fun i => κ (2 + i)) A U H ∧
  (∀ w ∈ jN, va_Nw w U) ∧
  (∀ q ∈ jStr, vk_R q.1 q.2.1 q.2.2.1 (κ (10 + q.2.2.2)) U) ∧
  (∀ i, i < 27 → va_O "java/lang/String" (κ (10 + i)) A U H ∧ va_OF "java/lang/String" "coder" "B" (.int 0) (κ (10 + i)) A U H ∧ va_OF "java/lang/String" "value" "[B" (.ref (κ (100 + i))) (κ (10 + i)) A U H ∧ va_T .byte (κ (100 + i)) (jLen i) (fun j => .int (nI (jByt i j))) A U H) ∧
  (va_Zq "jdk/internal/util/Preconditions" "SIOOBE_FORMATTER" "Ljava/util/function/BiFunction;" A U H ∧ va_Z "SnowLedgerLaw" "SCRIPTS" "[Ljava/lang/String;" (.ref (κ 8)) A U H ∧ va_T (.object "java/lang/String") (κ 8) 20 (fun j => .ref (κ (17 + j))) A U H ∧ va_AO "SnowLedger$State" U ∧ va_T .int (κ 9) (κ 200) (fun j => .int (jXs κ j)) A U H ∧ ∀ q ∈ jXcs, va_Nc q.1 q.2 U)
theorem jSF.call {κ : Nat → Nat} {A B : Nat → Prop} {s U : State} {H : Heap} {locs : List Loc} (h : jSF κ A s s.heap) (hW : s.WarmedH U.vm) (hS : va_S A s.heap H locs) (hAB : ∀ q, B q → A q) : jSF κ B U H := by
  obtain ⟨h1, ⟨h2, h3⟩, ⟨h4, h5⟩, ⟨h6, h7⟩, h8, h9, h10, h11, h12, h13, h14, h15, h16, h17⟩ := h
  have hm := hW.alike
  have hk := hS.2.1
  exact ⟨((va_Z.moved hm h1).kept hk).narrow hAB, ⟨((va_Z.moved hm h2).kept hk).narrow hAB, ((va_Z.moved hm h3).kept hk).narrow hAB⟩, ⟨((va_T.moved hm h4).kept hk).narrow hAB, ((va_T.moved hm h5).kept hk).narrow hAB⟩, ⟨((vx_Zq.moved hm h6).kept hk).narrow hAB, ((vx_Zq.moved hm h7).kept hk).narrow hAB⟩, ((va_En.moved hm h8).kept hk).narrow hAB, jN_warm hW h9, fun q hq => vk_R.warm hW (h10 q hq), fun i hi => ⟨((va_O.moved hm (h11 i hi).1).kept hk).narrow hAB, ((va_OF.moved hm (h11 i hi).2.1).kept hk).narrow hAB, ((va_OF.moved hm (h11 i hi).2.2.1).kept hk).narrow hAB, ((va_T.moved hm (h11 i hi).2.2.2).kept hk).narrow hAB⟩, ((va_Zq.moved hm h12).kept hk).narrow hAB, ((va_Z.moved hm h13).kept hk).narrow hAB, ((va_T.moved hm h14).kept hk).narrow hAB, va_AO.moved hm h15, ((va_T.moved hm h16).kept hk).narrow hAB, fun q hq => va_Nc.moved hm (h17 q hq)⟩
theorem jN_same {s U : State} (hv : s.vm = U.vm) (h : ∀ w ∈ jN, va_Nw w s) : ∀ w ∈ jN, va_Nw w U := by
  intro w hw
  have h1 := h w hw
  have h2 := (List.mem_filter.mp hw).2
  cases w <;> first | exact va_Nw.same rfl hv h1 | simp [jOt] at h2
theorem jSF.same {κ : Nat → Nat} {A : Nat → Prop} {s U : State} {H : Heap} (hv : s.vm = U.vm) (h : jSF κ A s H) : jSF κ A U H := by
  obtain ⟨h1, ⟨h2, h3⟩, ⟨h4, h5⟩, ⟨h6, h7⟩, h8, h9, h10, h11, h12, h13, h14, h15, h16, h17⟩ := h
  have hm : s.vm.Alike U.vm := by rw [hv]; exact Vm.Alike.refl _
  exact ⟨va_Z.moved hm h1, ⟨va_Z.moved hm h2, va_Z.moved hm h3⟩, ⟨va_T.moved hm h4, va_T.moved hm h5⟩, ⟨vx_Zq.moved hm h6, vx_Zq.moved hm h7⟩, va_En.moved hm h8, jN_same hv h9, fun q hq => vk_R.same hv.symm (h10 q hq), fun i hi => ⟨va_O.moved hm (h11 i hi).1, va_OF.moved hm (h11 i hi).2.1, va_OF.moved hm (h11 i hi).2.2.1, va_T.moved hm (h11 i hi).2.2.2⟩, va_Zq.moved hm h12, va_Z.moved hm h13, va_T.moved hm h14, va_AO.moved hm h15, va_T.moved hm h16, fun q hq => va_Nc.moved hm (h17 q hq)⟩
/-! ===== the judgement over a store ===== -/
abbrev jE : Type := Launch × va_G × (Nat → ClassId) × (Nat → Nat)
abbrev jG : Type := Program × jE × Env × Room × State × MethodId × Array Value × List Frame × Method × Code × (Nat → Prop) × (State → Prop)
def J (Γ : jG) (nL : Nat) (w : va_W) (kc ks pc : Nat) (lo : List (Nat × Value)) (st : List Value) : Prop :=
  match Γ with
  | (p, (l, D, cy, κ), e, R, s, m, args, below, meth, c, A, Q) => ∀ (H : Heap) (locs : List Loc) (ls : Array Slot), va_P D vwCl (jcv cy w) H → va_D A (jcv cy w) → va_S A s.heap H locs → lv_has ls nL lo → W p l e R s m args below meth c H locs kc ks Q (F0 m pc ls st)
def jX (Γ : jG) (cc : ByteArray) (nL : Nat) (own : String) : Prop :=
  match Γ with
  | (p, (l, D, cy, κ), e, R, s, m, args, below, meth, c, A, Q) => p.tables.exec = Jvm.exec ∧ c.code = cc ∧ c.maxLocals = nL ∧ s.vm.findClass own = some m.cls ∧ (∀ w ∈ jB, w.before args s = true) ∧ va_K D vwCl (jty cy) s ∧ (∀ q, s.heap.size ≤ q → A q) ∧ jSF κ A s s.heap ∧ meth.locks = false ∧ l.stackTraces = false
section JR
variable {Γ : jG} {cc : ByteArray} {nL : Nat} {own : String} {w : va_W} {kc ks pc : Nat} {lo : List (Nat × Value)} {st : List Value}
theorem j_iload_n (X : jX Γ cc nL own) {k : Fin 4} {x : Int32} (d : decode cc pc = .ok (.iload_n k, 1)) (j : Nat) (hj : lo[j]? = some ((k : Nat), .int x)) (kk : J Γ nL w kc ks (pc + 1) lo (.int x :: st)) : J Γ nL w kc ks pc lo st := by
  obtain ⟨p, ⟨l, D, cy, κ⟩, e, R, s, m, args, below, meth, c, A, Q⟩ := Γ
  obtain ⟨hx, hb, -⟩ := X
  intro H locs ls hP hD hS hl
  exact lv_iload_n hx hb d rfl (lv_at hl j hj) (kk H locs ls hP hD hS hl)
theorem j_iload (X : jX Γ cc nL own) {i : Nat} {x : Int32} (d : decode cc pc = .ok (.iload i, 2)) (j : Nat) (hj : lo[j]? = some (i, .int x)) (kk : J Γ nL w kc ks (pc + 2) lo (.int x :: st)) : J Γ nL w kc ks pc lo st := by
  obtain ⟨p, ⟨l, D, cy, κ⟩, e, R, s, m, args, below, meth, c, A, Q⟩ := Γ
  obtain ⟨hx, hb, -⟩ := X
  intro H locs ls hP hD hS hl
  exact lv_iload hx hb d (lv_at hl j hj) (kk H locs ls hP hD hS hl)
theorem j_aload_n (X : jX Γ cc nL own) {k : Fin 4} {x : Nat} (d : decode cc pc = .ok (.aload_n k, 1)) (j : Nat) (hj : lo[j]? = some ((k : Nat), .ref x)) (kk : J Γ nL w kc ks (pc + 1) lo (.ref x :: st)) : J Γ nL w kc ks pc lo st := by
  obtain ⟨p, ⟨l, D, cy, κ⟩, e, R, s, m, args, below, meth, c, A, Q⟩ := Γ
  obtain ⟨hx, hb, -⟩ := X
  intro H locs ls hP hD hS hl
  exact lv_aload_n hx hb d rfl (lv_at hl j hj) (kk H locs ls hP hD hS hl)
theorem j_istore_n (X : jX Γ cc nL own) {k : Fin 4} {x : Int32} (lo' : List (Nat × Value)) (d : decode cc pc = .ok (.istore_n k, 1)) (hn : (k : Nat) < nL) (hl' : ((k : Nat), Value.int x) :: lo.filter (fun q => !(q.1 == (k : Nat)) && !(q.1 + 1 == (k : Nat) && q.2.category == 2)) = lo') (kk : J Γ nL w kc ks (pc + 1) lo' st) : J Γ nL w kc ks pc lo (.int x :: st) := by
  obtain ⟨p, ⟨l, D, cy, κ⟩, e, R, s, m, args, below, meth, c, A, Q⟩ := Γ
  obtain ⟨hx, hb, -⟩ := X
  intro H locs ls hP hD hS hl
  exact lv_istore_n hx hb d rfl hl hn hl' (fun ls' h' => kk H locs ls' hP hD hS h')
theorem j_istore (X : jX Γ cc nL own) {k : Nat} {x : Int32} (lo' : List (Nat × Value)) (d : decode cc pc = .ok (.istore k, 2)) (hn : k < nL) (hl' : (k, Value.int x) :: lo.filter (fun q => !(q.1 == k) && !(q.1 + 1 == k && q.2.category == 2)) = lo') (kk : J Γ nL w kc ks (pc + 2) lo' st) : J Γ nL w kc ks pc lo (.int x :: st) := by
  obtain ⟨p, ⟨l, D, cy, κ⟩, e, R, s, m, args, below, meth, c, A, Q⟩ := Γ
  obtain ⟨hx, hb, -⟩ := X
  intro H locs ls hP hD hS hl
  exact lv_istore hx hb d hl hn hl' (fun ls' h' => kk H locs ls' hP hD hS h')
theorem j_iinc (X : jX Γ cc nL own) {i : Nat} {n : Int} {x : Int32} (v : Int32) (lo' : List (Nat × Value)) (d : decode cc pc = .ok (.iinc i n, 3)) (j : Nat) (hj : lo[j]? = some (i, .int x)) (hv : x + Int32.ofInt n = v) (hn : i < nL) (hl' : (i, Value.int v) :: lo.filter (fun q => !(q.1 == i) && !(q.1 + 1 == i && q.2.category == 2)) = lo') (kk : J Γ nL w kc ks (pc + 3) lo' st) : J Γ nL w kc ks pc lo st := by
  obtain ⟨p, ⟨l, D, cy, κ⟩, e, R, s, m, args, below, meth, c, A, Q⟩ := Γ
  obtain ⟨hx, hb, -⟩ := X
  intro H locs ls hP hD hS hl
  exact lv_iinc hx hb d hl hj hv hn hl' (fun ls' h' => kk H locs ls' hP hD hS h')
theorem j_iconst (X : jX Γ cc nL own) {n : Int} (v : Int32) (d : decode cc pc = .ok (.iconst n, 1)) (hv : Int32.ofInt n = v) (kk : J Γ nL w kc ks (pc + 1) lo (.int v :: st)) : J Γ nL w kc ks pc lo st := by
  obtain ⟨p, ⟨l, D, cy, κ⟩, e, R, s, m, args, below, meth, c, A, Q⟩ := Γ
  obtain ⟨hx, hb, -⟩ := X
  intro H locs ls hP hD hS hl
  exact lv_iconst hx hb d hv (kk H locs ls hP hD hS hl)
theorem j_bipush (X : jX Γ cc nL own) {n : Int} (v : Int32) (d : decode cc pc = .ok (.bipush n, 2)) (hv : (Int8.ofInt n).toInt32 = v) (kk : J Γ nL w kc ks (pc + 2) lo (.int v :: st)) : J Γ nL w kc ks pc lo st := by
  obtain ⟨p, ⟨l, D, cy, κ⟩, e, R, s, m, args, below, meth, c, A, Q⟩ := Γ
  obtain ⟨hx, hb, -⟩ := X
  intro H locs ls hP hD hS hl
  exact lv_bipush hx hb d hv (kk H locs ls hP hD hS hl)
theorem j_goto (X : jX Γ cc nL own) {off : Int} (tgt : Nat) (d : decode cc pc = .ok (.goto off, 3)) (ht : (pc : Int) + off = (tgt : Int)) (kk : J Γ nL w kc ks tgt lo st) : J Γ nL w kc ks pc lo st := by
  obtain ⟨p, ⟨l, D, cy, κ⟩, e, R, s, m, args, below, meth, c, A, Q⟩ := Γ
  obtain ⟨hx, hb, -⟩ := X
  intro H locs ls hP hD hS hl
  exact lv_goto hx hb d ht (kk H locs ls hP hD hS hl)
theorem j_if_lt (X : jX Γ cc nL own) {x : Int32} {off : Int} (tgt : Nat) (d : decode cc pc = .ok (.ifCond .lt off, 3)) (ht : (pc : Int) + off = (tgt : Int)) (kt : x < 0 → J Γ nL w kc ks tgt lo st) (kf : ¬ x < 0 → J Γ nL w kc ks (pc + 3) lo st) : J Γ nL w kc ks pc lo (.int x :: st) := by
  obtain ⟨p, ⟨l, D, cy, κ⟩, e, R, s, m, args, below, meth, c, A, Q⟩ := Γ
  obtain ⟨hx, hb, -⟩ := X
  intro H locs ls hP hD hS hl
  exact lv_if_lt hx hb d ht (fun q => kt q H locs ls hP hD hS hl) (fun q => kf q H locs ls hP hD hS hl)
theorem j_icmp_ge (X : jX Γ cc nL own) {x y : Int32} {off : Int} (tgt : Nat) (d : decode cc pc = .ok (.if_icmp .ge off, 3)) (ht : (pc : Int) + off = (tgt : Int)) (kt : y ≤ x → J Γ nL w kc ks tgt lo st) (kf : ¬ y ≤ x → J Γ nL w kc ks (pc + 3) lo st) : J Γ nL w kc ks pc lo (.int y :: .int x :: st) := by
  obtain ⟨p, ⟨l, D, cy, κ⟩, e, R, s, m, args, below, meth, c, A, Q⟩ := Γ
  obtain ⟨hx, hb, -⟩ := X
  intro H locs ls hP hD hS hl
  exact lv_icmp_ge hx hb d ht (fun q => kt q H locs ls hP hD hS hl) (fun q => kf q H locs ls hP hD hS hl)
theorem j_alen (X : jX Γ cc nL own) {a t n : Nat} {r : (Nat → Int32) ⊕ (Nat → Int64) ⊕ (Nat → UInt32) ⊕ (Nat → UInt64) ⊕ (Nat → Option Nat)} (ht : t < 3) (ha : jlk w a = some (.inl (t, n, r))) (d : decode cc pc = .ok (.arraylength, 1)) (kk : J Γ nL w kc ks (pc + 1) lo (.int (Int32.ofNat n) :: st)) : J Γ nL w kc ks pc lo (.ref a :: st) := by
  obtain ⟨p, ⟨l, D, cy, κ⟩, e, R, s, m, args, below, meth, c, A, Q⟩ := Γ
  obtain ⟨hx, hb, hml, hown, hts, hK, -⟩ := X
  intro H locs ls hP hD hS hl
  obtain ⟨k, h1, -⟩ := jlk_at ha
  have hty : (jty cy)[t]? = some (cy t, jTy t) := by
    rcases (show t = 0 ∨ t = 1 ∨ t = 2 by omega) with rfl | rfl | rfl <;> rfl
  exact va_alen hx hb hK hP k t (jcv_at (cy := cy) h1) hty rfl d (kk H locs ls hP hD hS hl)
theorem j_iald (X : jX Γ cc nL own) {a n : Nat} {f : Nat → Int32} {i : Int32} (ha : jlk w a = some (.inl (0, n, .inl f))) (hi : vp_in i n) (d : decode cc pc = .ok (.iaload, 1)) (kk : J Γ nL w kc ks (pc + 1) lo (.int (f i.toNatClampNeg) :: st)) : J Γ nL w kc ks pc lo (.int i :: .ref a :: st) := by
  obtain ⟨p, ⟨l, D, cy, κ⟩, e, R, s, m, args, below, meth, c, A, Q⟩ := Γ
  obtain ⟨hx, hb, hml, hown, hts, hK, -⟩ := X
  intro H locs ls hP hD hS hl
  obtain ⟨k, h1, -⟩ := jlk_at ha
  exact va_iald hx hb hK hP k 0 (jcv_at (cy := cy) h1) rfl hi d (kk H locs ls hP hD hS hl)
theorem j_iast (X : jX Γ cc nL own) {a n : Nat} {f : Nat → Int32} {i x : Int32} (ha : jlk w a = some (.inl (0, n, .inl f))) (hi : vp_in i n) (d : decode cc pc = .ok (.iastore, 1)) (kk : J Γ nL (jst w a (.inl (0, n, .inl (upd f i.toNatClampNeg x)))) kc ks (pc + 1) lo st) : J Γ nL w kc ks pc lo (.int x :: .int i :: .ref a :: st) := by
  obtain ⟨p, ⟨l, D, cy, κ⟩, e, R, s, m, args, below, meth, c, A, Q⟩ := Γ
  obtain ⟨hx, hb, hml, hown, hts, hK, -⟩ := X
  intro H locs ls hP hD hS hl
  obtain ⟨k, h1, h2⟩ := jlk_at ha
  have h3 : ∀ x, jcv cy (jst w a x) = (jcv cy w).set k (a, jce cy x) := fun x => by rw [h2, jcv_set]
  exact va_iast hx hb hK hP hD hS k 0 (jcv_at (cy := cy) h1) rfl hi d (fun H1 locs1 q1 q2 q3 => kk H1 locs1 ls (by rw [h3]; exact q1) (by rw [h3]; exact q2) q3 hl)
theorem j_get (X : jX Γ cc nL own) {a ci index : Nat} {ref C : String} {T : u_T} {N : Nat} (hc : vwCl[ci]? = some (C, T, N)) (hin : ∀ w ∈ u_ws C T N, w ∈ jB) {fs : List Value} {v : Value} (k : Nat) (hk : k < N) (ha : jlk w a = some (.inr (ci, fs))) (hv : fs[k]? = some v) (hl : (Cond.fieldLink own index ref (T k).2.1 (T k).2.2.1) ∈ jB) (hsame : (T k).1 = ref) (d : decode cc pc = .ok (.getfield index, 3)) (kk : J Γ nL w kc ks (pc + 3) lo (v :: st)) : J Γ nL w kc ks pc lo (.ref a :: st) := by
  obtain ⟨p, ⟨l, D, cy, κ⟩, e, R, s, m, args, below, meth, c, A, Q⟩ := Γ
  obtain ⟨hx, hb, hml, hown, hts, hK, -⟩ := X
  intro H locs ls hP hD hS hl9
  obtain ⟨j, h1, -⟩ := jlk_at ha
  exact va_get hx hb hts hin hown hK hP j (jcv_at (cy := cy) h1) hc k hk (hts _ hl) (fun x hx => by rw [← hsame]; exact hx) hv d (kk H locs ls hP hD hS hl9)
theorem j_getN (X : jX Γ cc nL own) {a ci index : Nat} {ref C host : String} {T : u_T} {N : Nat} (hc : vwCl[ci]? = some (C, T, N)) (hin : ∀ w ∈ u_ws C T N, w ∈ jB) {fs : List Value} {v : Value} (k : Nat) (hk : k < N) (ha : jlk w a = some (.inr (ci, fs))) (hv : fs[k]? = some v) (hl : (Cond.fieldLinkNest own index ref (T k).2.1 (T k).2.2.1 host) ∈ jN) (hsame : (T k).1 = ref) (d : decode cc pc = .ok (.getfield index, 3)) (kk : J Γ nL w kc ks (pc + 3) lo (v :: st)) : J Γ nL w kc ks pc lo (.ref a :: st) := by
  obtain ⟨p, ⟨l, D, cy, κ⟩, e, R, s, m, args, below, meth, c, A, Q⟩ := Γ
  obtain ⟨hx, hb, hml, hown, hts, hK, hA, hF, -⟩ := X
  intro H locs ls hP hD hS hl9
  obtain ⟨j, h1, -⟩ := jlk_at ha
  exact va_getN hx hb hts hin hown hK hP j (jcv_at (cy := cy) h1) hc k hk (va_Nw.use rfl (hF.2.2.2.2.2.1 _ hl)) (fun x hx => by rw [← hsame]; exact hx) hv d (kk H locs ls hP hD hS hl9)
end JR
