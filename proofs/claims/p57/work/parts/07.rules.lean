/-! ===== more rules over a store: laid by wip/p57/mkrules.py ===== -/
def jrem (x y : Int32) : Int32 := x - x / y * y
def jshl (x y : Int32) : Int32 := x <<< (y &&& 31)
def jshr (x y : Int32) : Int32 := x >>> (y &&& 31)
def ji2c (x : Int32) : Int32 := (x.toUInt32 % 65536).toInt32
def ji2b (x : Int32) : Int32 := x.toInt8.toInt32
theorem jif_t {c : Prop} {ic : Decidable c} {P Q : Prop} (hc : c) (h : @ite _ c ic P Q) : P := by rwa [if_pos hc] at h
theorem jif_f {c : Prop} {ic : Decidable c} {P Q : Prop} (hc : ¬ c) (h : @ite _ c ic P Q) : Q := by rwa [if_neg hc] at h
section JR3
variable {Γ : jG} {cc : ByteArray} {nL : Nat} {own : String} {w : va_W} {kc ks pc : Nat} {lo : List (Nat × Value)} {st : List Value}
theorem j_iadd (X : jX Γ cc nL own) {x y : Int32} (d : decode cc pc = .ok (.iadd, 1))  (kk : J Γ nL w kc ks (pc + 1) lo (.int (x + y) :: st)) : J Γ nL w kc ks pc lo (.int y :: .int x :: st) := by
  obtain ⟨p, ⟨l, D, cy, κ⟩, e, R, s, m, args, below, meth, c, A, Q⟩ := Γ
  obtain ⟨hx, hb, hml, hown, hts, hK, hA, hF, hlk, hst9⟩ := X
  intro H locs ls hP hD hS hl
  exact lv_iadd hx hb d (kk H locs ls hP hD hS hl)
theorem j_isub (X : jX Γ cc nL own) {x y : Int32} (d : decode cc pc = .ok (.isub, 1))  (kk : J Γ nL w kc ks (pc + 1) lo (.int (x - y) :: st)) : J Γ nL w kc ks pc lo (.int y :: .int x :: st) := by
  obtain ⟨p, ⟨l, D, cy, κ⟩, e, R, s, m, args, below, meth, c, A, Q⟩ := Γ
  obtain ⟨hx, hb, hml, hown, hts, hK, hA, hF, hlk, hst9⟩ := X
  intro H locs ls hP hD hS hl
  exact lv_isub hx hb d (kk H locs ls hP hD hS hl)
theorem j_imul (X : jX Γ cc nL own) {x y : Int32} (d : decode cc pc = .ok (.imul, 1))  (kk : J Γ nL w kc ks (pc + 1) lo (.int (x * y) :: st)) : J Γ nL w kc ks pc lo (.int y :: .int x :: st) := by
  obtain ⟨p, ⟨l, D, cy, κ⟩, e, R, s, m, args, below, meth, c, A, Q⟩ := Γ
  obtain ⟨hx, hb, hml, hown, hts, hK, hA, hF, hlk, hst9⟩ := X
  intro H locs ls hP hD hS hl
  exact lv_imul hx hb d (kk H locs ls hP hD hS hl)
theorem j_iand (X : jX Γ cc nL own) {x y : Int32} (d : decode cc pc = .ok (.iand, 1))  (kk : J Γ nL w kc ks (pc + 1) lo (.int (x &&& y) :: st)) : J Γ nL w kc ks pc lo (.int y :: .int x :: st) := by
  obtain ⟨p, ⟨l, D, cy, κ⟩, e, R, s, m, args, below, meth, c, A, Q⟩ := Γ
  obtain ⟨hx, hb, hml, hown, hts, hK, hA, hF, hlk, hst9⟩ := X
  intro H locs ls hP hD hS hl
  exact lv_iand hx hb d (kk H locs ls hP hD hS hl)
theorem j_ior (X : jX Γ cc nL own) {x y : Int32} (d : decode cc pc = .ok (.ior, 1))  (kk : J Γ nL w kc ks (pc + 1) lo (.int (x ||| y) :: st)) : J Γ nL w kc ks pc lo (.int y :: .int x :: st) := by
  obtain ⟨p, ⟨l, D, cy, κ⟩, e, R, s, m, args, below, meth, c, A, Q⟩ := Γ
  obtain ⟨hx, hb, hml, hown, hts, hK, hA, hF, hlk, hst9⟩ := X
  intro H locs ls hP hD hS hl
  exact lv_ior hx hb d (kk H locs ls hP hD hS hl)
theorem j_ixor (X : jX Γ cc nL own) {x y : Int32} (d : decode cc pc = .ok (.ixor, 1))  (kk : J Γ nL w kc ks (pc + 1) lo (.int (x ^^^ y) :: st)) : J Γ nL w kc ks pc lo (.int y :: .int x :: st) := by
  obtain ⟨p, ⟨l, D, cy, κ⟩, e, R, s, m, args, below, meth, c, A, Q⟩ := Γ
  obtain ⟨hx, hb, hml, hown, hts, hK, hA, hF, hlk, hst9⟩ := X
  intro H locs ls hP hD hS hl
  exact lv_ixor hx hb d (kk H locs ls hP hD hS hl)
theorem j_ishl (X : jX Γ cc nL own) {x y : Int32} (d : decode cc pc = .ok (.ishl, 1))  (kk : J Γ nL w kc ks (pc + 1) lo (.int (jshl x y) :: st)) : J Γ nL w kc ks pc lo (.int y :: .int x :: st) := by
  obtain ⟨p, ⟨l, D, cy, κ⟩, e, R, s, m, args, below, meth, c, A, Q⟩ := Γ
  obtain ⟨hx, hb, hml, hown, hts, hK, hA, hF, hlk, hst9⟩ := X
  intro H locs ls hP hD hS hl
  exact lv_ishl hx hb d (kk H locs ls hP hD hS hl)
theorem j_ishr (X : jX Γ cc nL own) {x y : Int32} (d : decode cc pc = .ok (.ishr, 1))  (kk : J Γ nL w kc ks (pc + 1) lo (.int (jshr x y) :: st)) : J Γ nL w kc ks pc lo (.int y :: .int x :: st) := by
  obtain ⟨p, ⟨l, D, cy, κ⟩, e, R, s, m, args, below, meth, c, A, Q⟩ := Γ
  obtain ⟨hx, hb, hml, hown, hts, hK, hA, hF, hlk, hst9⟩ := X
  intro H locs ls hP hD hS hl
  exact lv_ishr hx hb d (kk H locs ls hP hD hS hl)
theorem j_idiv (X : jX Γ cc nL own) {x y : Int32} (d : decode cc pc = .ok (.idiv, 1)) (hne : ¬ y = 0) (kk : J Γ nL w kc ks (pc + 1) lo (.int (x / y) :: st)) : J Γ nL w kc ks pc lo (.int y :: .int x :: st) := by
  obtain ⟨p, ⟨l, D, cy, κ⟩, e, R, s, m, args, below, meth, c, A, Q⟩ := Γ
  obtain ⟨hx, hb, hml, hown, hts, hK, hA, hF, hlk, hst9⟩ := X
  intro H locs ls hP hD hS hl
  exact lv_idiv hx hb d hne (kk H locs ls hP hD hS hl)
theorem j_irem (X : jX Γ cc nL own) {x y : Int32} (d : decode cc pc = .ok (.irem, 1)) (hne : ¬ y = 0) (kk : J Γ nL w kc ks (pc + 1) lo (.int (jrem x y) :: st)) : J Γ nL w kc ks pc lo (.int y :: .int x :: st) := by
  obtain ⟨p, ⟨l, D, cy, κ⟩, e, R, s, m, args, below, meth, c, A, Q⟩ := Γ
  obtain ⟨hx, hb, hml, hown, hts, hK, hA, hF, hlk, hst9⟩ := X
  intro H locs ls hP hD hS hl
  exact lv_irem hx hb d hne (kk H locs ls hP hD hS hl)
theorem j_ineg (X : jX Γ cc nL own) {x : Int32} (d : decode cc pc = .ok (.ineg, 1))  (kk : J Γ nL w kc ks (pc + 1) lo (.int (-x) :: st)) : J Γ nL w kc ks pc lo (.int x :: st) := by
  obtain ⟨p, ⟨l, D, cy, κ⟩, e, R, s, m, args, below, meth, c, A, Q⟩ := Γ
  obtain ⟨hx, hb, hml, hown, hts, hK, hA, hF, hlk, hst9⟩ := X
  intro H locs ls hP hD hS hl
  exact lv_ineg hx hb d (kk H locs ls hP hD hS hl)
theorem j_i2c (X : jX Γ cc nL own) {x : Int32} (d : decode cc pc = .ok (.i2c, 1))  (kk : J Γ nL w kc ks (pc + 1) lo (.int (ji2c x) :: st)) : J Γ nL w kc ks pc lo (.int x :: st) := by
  obtain ⟨p, ⟨l, D, cy, κ⟩, e, R, s, m, args, below, meth, c, A, Q⟩ := Γ
  obtain ⟨hx, hb, hml, hown, hts, hK, hA, hF, hlk, hst9⟩ := X
  intro H locs ls hP hD hS hl
  exact lv_i2c hx hb d rfl (kk H locs ls hP hD hS hl)
theorem j_i2b (X : jX Γ cc nL own) {x : Int32} (d : decode cc pc = .ok (.i2b, 1))  (kk : J Γ nL w kc ks (pc + 1) lo (.int (ji2b x) :: st)) : J Γ nL w kc ks pc lo (.int x :: st) := by
  obtain ⟨p, ⟨l, D, cy, κ⟩, e, R, s, m, args, below, meth, c, A, Q⟩ := Γ
  obtain ⟨hx, hb, hml, hown, hts, hK, hA, hF, hlk, hst9⟩ := X
  intro H locs ls hP hD hS hl
  exact lv_i2b hx hb d rfl (kk H locs ls hP hD hS hl)
theorem j_i2l (X : jX Γ cc nL own) {x : Int32} (d : decode cc pc = .ok (.i2l, 1))  (kk : J Γ nL w kc ks (pc + 1) lo (.long x.toInt64 :: st)) : J Γ nL w kc ks pc lo (.int x :: st) := by
  obtain ⟨p, ⟨l, D, cy, κ⟩, e, R, s, m, args, below, meth, c, A, Q⟩ := Γ
  obtain ⟨hx, hb, hml, hown, hts, hK, hA, hF, hlk, hst9⟩ := X
  intro H locs ls hP hD hS hl
  exact lv_i2l hx hb d rfl (kk H locs ls hP hD hS hl)
theorem j_i2d (X : jX Γ cc nL own) {x : Int32} (d : decode cc pc = .ok (.i2d, 1))  (kk : J Γ nL w kc ks (pc + 1) lo (.double (FP.i2d x) :: st)) : J Γ nL w kc ks pc lo (.int x :: st) := by
  obtain ⟨p, ⟨l, D, cy, κ⟩, e, R, s, m, args, below, meth, c, A, Q⟩ := Γ
  obtain ⟨hx, hb, hml, hown, hts, hK, hA, hF, hlk, hst9⟩ := X
  intro H locs ls hP hD hS hl
  exact lv_i2d hx hb d (kk H locs ls hP hD hS hl)
theorem j_i2f (X : jX Γ cc nL own) {x : Int32} (d : decode cc pc = .ok (.i2f, 1))  (kk : J Γ nL w kc ks (pc + 1) lo (.float (FP.i2f x) :: st)) : J Γ nL w kc ks pc lo (.int x :: st) := by
  obtain ⟨p, ⟨l, D, cy, κ⟩, e, R, s, m, args, below, meth, c, A, Q⟩ := Γ
  obtain ⟨hx, hb, hml, hown, hts, hK, hA, hF, hlk, hst9⟩ := X
  intro H locs ls hP hD hS hl
  exact lv_i2f hx hb d (kk H locs ls hP hD hS hl)
theorem j_ladd (X : jX Γ cc nL own) {x y : Int64} (d : decode cc pc = .ok (.ladd, 1))  (kk : J Γ nL w kc ks (pc + 1) lo (.long (x + y) :: st)) : J Γ nL w kc ks pc lo (.long y :: .long x :: st) := by
  obtain ⟨p, ⟨l, D, cy, κ⟩, e, R, s, m, args, below, meth, c, A, Q⟩ := Γ
  obtain ⟨hx, hb, hml, hown, hts, hK, hA, hF, hlk, hst9⟩ := X
  intro H locs ls hP hD hS hl
  exact lv_ladd hx hb d (kk H locs ls hP hD hS hl)
theorem j_lmul (X : jX Γ cc nL own) {x y : Int64} (d : decode cc pc = .ok (.lmul, 1))  (kk : J Γ nL w kc ks (pc + 1) lo (.long (x * y) :: st)) : J Γ nL w kc ks pc lo (.long y :: .long x :: st) := by
  obtain ⟨p, ⟨l, D, cy, κ⟩, e, R, s, m, args, below, meth, c, A, Q⟩ := Γ
  obtain ⟨hx, hb, hml, hown, hts, hK, hA, hF, hlk, hst9⟩ := X
  intro H locs ls hP hD hS hl
  exact lv_lmul hx hb d (kk H locs ls hP hD hS hl)
theorem j_lcmp (X : jX Γ cc nL own) {x y : Int64} (d : decode cc pc = .ok (.lcmp, 1))  (kk : J Γ nL w kc ks (pc + 1) lo (.int (lg_cmp x y) :: st)) : J Γ nL w kc ks pc lo (.long y :: .long x :: st) := by
  obtain ⟨p, ⟨l, D, cy, κ⟩, e, R, s, m, args, below, meth, c, A, Q⟩ := Γ
  obtain ⟨hx, hb, hml, hown, hts, hK, hA, hF, hlk, hst9⟩ := X
  intro H locs ls hP hD hS hl
  exact W.lcmp hx hb d (kk H locs ls hP hD hS hl)
theorem j_ddiv (X : jX Γ cc nL own) {x y : UInt64} (d : decode cc pc = .ok (.ddiv, 1)) (hne : vf_n64 (FP.ddiv x y)) (kk : J Γ nL w kc ks (pc + 1) lo (.double (FP.ddiv x y) :: st)) : J Γ nL w kc ks pc lo (.double y :: .double x :: st) := by
  obtain ⟨p, ⟨l, D, cy, κ⟩, e, R, s, m, args, below, meth, c, A, Q⟩ := Γ
  obtain ⟨hx, hb, hml, hown, hts, hK, hA, hF, hlk, hst9⟩ := X
  intro H locs ls hP hD hS hl
  exact lv_ddiv hx hb d hne (kk H locs ls hP hD hS hl)
theorem j_fdiv (X : jX Γ cc nL own) {x y : UInt32} (d : decode cc pc = .ok (.fdiv, 1)) (hne : vf_n32 (FP.fdiv x y)) (kk : J Γ nL w kc ks (pc + 1) lo (.float (FP.fdiv x y) :: st)) : J Γ nL w kc ks pc lo (.float y :: .float x :: st) := by
  obtain ⟨p, ⟨l, D, cy, κ⟩, e, R, s, m, args, below, meth, c, A, Q⟩ := Γ
  obtain ⟨hx, hb, hml, hown, hts, hK, hA, hF, hlk, hst9⟩ := X
  intro H locs ls hP hD hS hl
  exact lv_fdiv hx hb d hne (kk H locs ls hP hD hS hl)
theorem j_dcmp (X : jX Γ cc nL own) {x y : UInt64} {op : CmpOp} (d : decode cc pc = .ok (.dcmp op, 1))  (kk : J Γ nL w kc ks (pc + 1) lo (.int (Op.cmpValue (FP.dcmp x y) op) :: st)) : J Γ nL w kc ks pc lo (.double y :: .double x :: st) := by
  obtain ⟨p, ⟨l, D, cy, κ⟩, e, R, s, m, args, below, meth, c, A, Q⟩ := Γ
  obtain ⟨hx, hb, hml, hown, hts, hK, hA, hF, hlk, hst9⟩ := X
  intro H locs ls hP hD hS hl
  exact lv_dcmp hx hb d (kk H locs ls hP hD hS hl)
theorem j_fcmp (X : jX Γ cc nL own) {x y : UInt32} {op : CmpOp} (d : decode cc pc = .ok (.fcmp op, 1))  (kk : J Γ nL w kc ks (pc + 1) lo (.int (Op.cmpValue (FP.fcmp x y) op) :: st)) : J Γ nL w kc ks pc lo (.float y :: .float x :: st) := by
  obtain ⟨p, ⟨l, D, cy, κ⟩, e, R, s, m, args, below, meth, c, A, Q⟩ := Γ
  obtain ⟨hx, hb, hml, hown, hts, hK, hA, hF, hlk, hst9⟩ := X
  intro H locs ls hP hD hS hl
  exact lv_fcmp hx hb d (kk H locs ls hP hD hS hl)
theorem j_dconst (X : jX Γ cc nL own)  (d : decode cc pc = .ok (.dconst 0, 1))  (kk : J Γ nL w kc ks (pc + 1) lo (.double FP.dconst0 :: st)) : J Γ nL w kc ks pc lo st := by
  obtain ⟨p, ⟨l, D, cy, κ⟩, e, R, s, m, args, below, meth, c, A, Q⟩ := Γ
  obtain ⟨hx, hb, hml, hown, hts, hK, hA, hF, hlk, hst9⟩ := X
  intro H locs ls hP hD hS hl
  exact lv_dconst0 hx hb d (kk H locs ls hP hD hS hl)
theorem j_fconst (X : jX Γ cc nL own)  (d : decode cc pc = .ok (.fconst 0, 1))  (kk : J Γ nL w kc ks (pc + 1) lo (.float FP.fconst0 :: st)) : J Γ nL w kc ks pc lo st := by
  obtain ⟨p, ⟨l, D, cy, κ⟩, e, R, s, m, args, below, meth, c, A, Q⟩ := Γ
  obtain ⟨hx, hb, hml, hown, hts, hK, hA, hF, hlk, hst9⟩ := X
  intro H locs ls hP hD hS hl
  exact lv_fconst0 hx hb d (kk H locs ls hP hD hS hl)
theorem j_dup (X : jX Γ cc nL own) {va : Value} (d : decode cc pc = .ok (.dup, 1)) (hva : va.category = 1) (kk : J Γ nL w kc ks (pc + 1) lo (va :: va :: st)) : J Γ nL w kc ks pc lo (va :: st) := by
  obtain ⟨p, ⟨l, D, cy, κ⟩, e, R, s, m, args, below, meth, c, A, Q⟩ := Γ
  obtain ⟨hx, hb, hml, hown, hts, hK, hA, hF, hlk, hst9⟩ := X
  intro H locs ls hP hD hS hl
  exact lv_dup hx hb d hva (kk H locs ls hP hD hS hl)
theorem j_pop (X : jX Γ cc nL own) {va : Value} (d : decode cc pc = .ok (.pop, 1)) (hva : va.category = 1) (kk : J Γ nL w kc ks (pc + 1) lo st) : J Γ nL w kc ks pc lo (va :: st) := by
  obtain ⟨p, ⟨l, D, cy, κ⟩, e, R, s, m, args, below, meth, c, A, Q⟩ := Γ
  obtain ⟨hx, hb, hml, hown, hts, hK, hA, hF, hlk, hst9⟩ := X
  intro H locs ls hP hD hS hl
  exact lv_pop hx hb d hva (kk H locs ls hP hD hS hl)
theorem j_dup_x1 (X : jX Γ cc nL own) {va vb : Value} (d : decode cc pc = .ok (.dup_x1, 1)) (hva : va.category = 1) (hvb : vb.category = 1) (kk : J Γ nL w kc ks (pc + 1) lo (va :: vb :: va :: st)) : J Γ nL w kc ks pc lo (va :: vb :: st) := by
  obtain ⟨p, ⟨l, D, cy, κ⟩, e, R, s, m, args, below, meth, c, A, Q⟩ := Γ
  obtain ⟨hx, hb, hml, hown, hts, hK, hA, hF, hlk, hst9⟩ := X
  intro H locs ls hP hD hS hl
  exact lv_dup_x1 hx hb d hva hvb (kk H locs ls hP hD hS hl)
theorem j_sipush (X : jX Γ cc nL own) {n : Int} (v : Int32) (d : decode cc pc = .ok (.sipush n, 3)) (hv : (Int16.ofInt n).toInt32 = v) (kk : J Γ nL w kc ks (pc + 3) lo (.int v :: st)) : J Γ nL w kc ks pc lo st := by
  obtain ⟨p, ⟨l, D, cy, κ⟩, e, R, s, m, args, below, meth, c, A, Q⟩ := Γ
  obtain ⟨hx, hb, hml, hown, hts, hK, hA, hF, hlk, hst9⟩ := X
  intro H locs ls hP hD hS hl
  exact lv_sipush hx hb d hv (kk H locs ls hP hD hS hl)
theorem j_ldc (X : jX Γ cc nL own) {index : Nat} {v : Int32} (d : decode cc pc = .ok (.ldc index, 2)) (hc : Cond.constant own index v ∈ jB) (kk : J Γ nL w kc ks (pc + 2) lo (.int v :: st)) : J Γ nL w kc ks pc lo st := by
  obtain ⟨p, ⟨l, D, cy, κ⟩, e, R, s, m, args, below, meth, c, A, Q⟩ := Γ
  obtain ⟨hx, hb, hml, hown, hts, hK, hA, hF, hlk, hst9⟩ := X
  intro H locs ls hP hD hS hl
  exact lv_ldc hx hb hown (hts _ hc) d (kk H locs ls hP hD hS hl)
theorem j_ldc2 (X : jX Γ cc nL own) {index : Nat} {v : Int64} (d : decode cc pc = .ok (.ldc2_w index, 3)) (hc : Cond.constantLong own index v ∈ jB) (kk : J Γ nL w kc ks (pc + 3) lo (.long v :: st)) : J Γ nL w kc ks pc lo st := by
  obtain ⟨p, ⟨l, D, cy, κ⟩, e, R, s, m, args, below, meth, c, A, Q⟩ := Γ
  obtain ⟨hx, hb, hml, hown, hts, hK, hA, hF, hlk, hst9⟩ := X
  intro H locs ls hP hD hS hl
  exact lv_ldc2 hx hb hown (hts _ hc) d (kk H locs ls hP hD hS hl)
theorem j_null (X : jX Γ cc nL own)  (d : decode cc pc = .ok (.aconst_null, 1))  (kk : J Γ nL w kc ks (pc + 1) lo (.null :: st)) : J Γ nL w kc ks pc lo st := by
  obtain ⟨p, ⟨l, D, cy, κ⟩, e, R, s, m, args, below, meth, c, A, Q⟩ := Γ
  obtain ⟨hx, hb, hml, hown, hts, hK, hA, hF, hlk, hst9⟩ := X
  intro H locs ls hP hD hS hl
  exact lv_null hx hb d (kk H locs ls hP hD hS hl)
theorem j_lload (X : jX Γ cc nL own) {i : Nat} {x : Int64} (d : decode cc pc = .ok (.lload i, 2)) (j : Nat) (hj : lo[j]? = some (i, .long x)) (kk : J Γ nL w kc ks (pc + 2) lo (.long x :: st)) : J Γ nL w kc ks pc lo st := by
  obtain ⟨p, ⟨l, D, cy, κ⟩, e, R, s, m, args, below, meth, c, A, Q⟩ := Γ
  obtain ⟨hx, hb, hml, hown, hts, hK, hA, hF, hlk, hst9⟩ := X
  intro H locs ls hP hD hS hl
  exact lv_lload hx hb d (lv_at hl j hj) (kk H locs ls hP hD hS hl)
theorem j_lload_n (X : jX Γ cc nL own) {k : Fin 4} {x : Int64} (d : decode cc pc = .ok (.lload_n k, 1)) (j : Nat) (hj : lo[j]? = some ((k : Nat), .long x)) (kk : J Γ nL w kc ks (pc + 1) lo (.long x :: st)) : J Γ nL w kc ks pc lo st := by
  obtain ⟨p, ⟨l, D, cy, κ⟩, e, R, s, m, args, below, meth, c, A, Q⟩ := Γ
  obtain ⟨hx, hb, hml, hown, hts, hK, hA, hF, hlk, hst9⟩ := X
  intro H locs ls hP hD hS hl
  exact lv_lload_n hx hb d rfl (lv_at hl j hj) (kk H locs ls hP hD hS hl)
theorem j_dload (X : jX Γ cc nL own) {i : Nat} {x : UInt64} (d : decode cc pc = .ok (.dload i, 2)) (j : Nat) (hj : lo[j]? = some (i, .double x)) (kk : J Γ nL w kc ks (pc + 2) lo (.double x :: st)) : J Γ nL w kc ks pc lo st := by
  obtain ⟨p, ⟨l, D, cy, κ⟩, e, R, s, m, args, below, meth, c, A, Q⟩ := Γ
  obtain ⟨hx, hb, hml, hown, hts, hK, hA, hF, hlk, hst9⟩ := X
  intro H locs ls hP hD hS hl
  exact lv_dload hx hb d (lv_at hl j hj) (kk H locs ls hP hD hS hl)
theorem j_dload_n (X : jX Γ cc nL own) {k : Fin 4} {x : UInt64} (d : decode cc pc = .ok (.dload_n k, 1)) (j : Nat) (hj : lo[j]? = some ((k : Nat), .double x)) (kk : J Γ nL w kc ks (pc + 1) lo (.double x :: st)) : J Γ nL w kc ks pc lo st := by
  obtain ⟨p, ⟨l, D, cy, κ⟩, e, R, s, m, args, below, meth, c, A, Q⟩ := Γ
  obtain ⟨hx, hb, hml, hown, hts, hK, hA, hF, hlk, hst9⟩ := X
  intro H locs ls hP hD hS hl
  exact lv_dload_n hx hb d rfl (lv_at hl j hj) (kk H locs ls hP hD hS hl)
theorem j_aload (X : jX Γ cc nL own) {i : Nat} {x : Nat} (d : decode cc pc = .ok (.aload i, 2)) (j : Nat) (hj : lo[j]? = some (i, .ref x)) (kk : J Γ nL w kc ks (pc + 2) lo (.ref x :: st)) : J Γ nL w kc ks pc lo st := by
  obtain ⟨p, ⟨l, D, cy, κ⟩, e, R, s, m, args, below, meth, c, A, Q⟩ := Γ
  obtain ⟨hx, hb, hml, hown, hts, hK, hA, hF, hlk, hst9⟩ := X
  intro H locs ls hP hD hS hl
  exact lv_aload hx hb d (lv_at hl j hj) (kk H locs ls hP hD hS hl)
theorem j_astore_n (X : jX Γ cc nL own) {k : Fin 4} {x : Nat} (lo' : List (Nat × Value)) (d : decode cc pc = .ok (.astore_n k, 1)) (hn : (k : Nat) < nL) (hl' : ((k : Nat), Value.ref x) :: lo.filter (fun q => !(q.1 == (k : Nat)) && !(q.1 + 1 == (k : Nat) && q.2.category == 2)) = lo') (kk : J Γ nL w kc ks (pc + 1) lo' st) : J Γ nL w kc ks pc lo (.ref x :: st) := by
  obtain ⟨p, ⟨l, D, cy, κ⟩, e, R, s, m, args, below, meth, c, A, Q⟩ := Γ
  obtain ⟨hx, hb, hml, hown, hts, hK, hA, hF, hlk, hst9⟩ := X
  intro H locs ls hP hD hS hl
  exact lv_astore_n hx hb d rfl hl hn hl' (fun ls' h' => kk H locs ls' hP hD hS h')
theorem j_astore (X : jX Γ cc nL own) {k : Nat} {x : Nat} (lo' : List (Nat × Value)) (d : decode cc pc = .ok (.astore k, 2)) (hn : k < nL) (hl' : (k, Value.ref x) :: lo.filter (fun q => !(q.1 == k) && !(q.1 + 1 == k && q.2.category == 2)) = lo') (kk : J Γ nL w kc ks (pc + 2) lo' st) : J Γ nL w kc ks pc lo (.ref x :: st) := by
  obtain ⟨p, ⟨l, D, cy, κ⟩, e, R, s, m, args, below, meth, c, A, Q⟩ := Γ
  obtain ⟨hx, hb, hml, hown, hts, hK, hA, hF, hlk, hst9⟩ := X
  intro H locs ls hP hD hS hl
  exact lv_astore hx hb d hl hn hl' (fun ls' h' => kk H locs ls' hP hD hS h')
theorem j_lstore_n (X : jX Γ cc nL own) {k : Fin 4} {x : Int64} (lo' : List (Nat × Value)) (d : decode cc pc = .ok (.lstore_n k, 1)) (hn : (k : Nat) + 1 < nL) (hl' : ((k : Nat), Value.long x) :: lo.filter (fun q => !(q.1 == (k : Nat)) && (!(q.1 == (k : Nat) + 1) && !(q.1 + 1 == (k : Nat) && q.2.category == 2))) = lo') (kk : J Γ nL w kc ks (pc + 1) lo' st) : J Γ nL w kc ks pc lo (.long x :: st) := by
  obtain ⟨p, ⟨l, D, cy, κ⟩, e, R, s, m, args, below, meth, c, A, Q⟩ := Γ
  obtain ⟨hx, hb, hml, hown, hts, hK, hA, hF, hlk, hst9⟩ := X
  intro H locs ls hP hD hS hl
  exact lv_lstore_n hx hb d rfl hl hn hl' (fun ls' h' => kk H locs ls' hP hD hS h')
theorem j_lstore (X : jX Γ cc nL own) {k : Nat} {x : Int64} (lo' : List (Nat × Value)) (d : decode cc pc = .ok (.lstore k, 2)) (hn : k + 1 < nL) (hl' : (k, Value.long x) :: lo.filter (fun q => !(q.1 == k) && (!(q.1 == k + 1) && !(q.1 + 1 == k && q.2.category == 2))) = lo') (kk : J Γ nL w kc ks (pc + 2) lo' st) : J Γ nL w kc ks pc lo (.long x :: st) := by
  obtain ⟨p, ⟨l, D, cy, κ⟩, e, R, s, m, args, below, meth, c, A, Q⟩ := Γ
  obtain ⟨hx, hb, hml, hown, hts, hK, hA, hF, hlk, hst9⟩ := X
  intro H locs ls hP hD hS hl
  exact lv_lstore hx hb d hl hn hl' (fun ls' h' => kk H locs ls' hP hD hS h')
theorem j_if_eq (X : jX Γ cc nL own) {x : Int32} {off : Int} (tgt : Nat) (d : decode cc pc = .ok (.ifCond .eq off, 3)) (ht : (pc : Int) + off = (tgt : Int)) (kt : x = 0 → J Γ nL w kc ks tgt lo st) (kf : ¬ x = 0 → J Γ nL w kc ks (pc + 3) lo st) : J Γ nL w kc ks pc lo (.int x :: st) := by
  obtain ⟨p, ⟨l, D, cy, κ⟩, e, R, s, m, args, below, meth, c, A, Q⟩ := Γ
  obtain ⟨hx, hb, hml, hown, hts, hK, hA, hF, hlk, hst9⟩ := X
  intro H locs ls hP hD hS hl
  exact lv_if_eq hx hb d ht (fun q => kt q H locs ls hP hD hS hl) (fun q => kf q H locs ls hP hD hS hl)
theorem j_icmp_eq (X : jX Γ cc nL own) {x y : Int32} {off : Int} (tgt : Nat) (d : decode cc pc = .ok (.if_icmp .eq off, 3)) (ht : (pc : Int) + off = (tgt : Int)) (kt : x = y → J Γ nL w kc ks tgt lo st) (kf : ¬ x = y → J Γ nL w kc ks (pc + 3) lo st) : J Γ nL w kc ks pc lo (.int y :: .int x :: st) := by
  obtain ⟨p, ⟨l, D, cy, κ⟩, e, R, s, m, args, below, meth, c, A, Q⟩ := Γ
  obtain ⟨hx, hb, hml, hown, hts, hK, hA, hF, hlk, hst9⟩ := X
  intro H locs ls hP hD hS hl
  exact lv_icmp_eq hx hb d ht (fun q => kt q H locs ls hP hD hS hl) (fun q => kf q H locs ls hP hD hS hl)
theorem j_if_ne (X : jX Γ cc nL own) {x : Int32} {off : Int} (tgt : Nat) (d : decode cc pc = .ok (.ifCond .ne off, 3)) (ht : (pc : Int) + off = (tgt : Int)) (kt : ¬ x = 0 → J Γ nL w kc ks tgt lo st) (kf : x = 0 → J Γ nL w kc ks (pc + 3) lo st) : J Γ nL w kc ks pc lo (.int x :: st) := by
  obtain ⟨p, ⟨l, D, cy, κ⟩, e, R, s, m, args, below, meth, c, A, Q⟩ := Γ
  obtain ⟨hx, hb, hml, hown, hts, hK, hA, hF, hlk, hst9⟩ := X
  intro H locs ls hP hD hS hl
  exact lv_if_ne hx hb d ht (fun q => kt q H locs ls hP hD hS hl) (fun q => kf q H locs ls hP hD hS hl)
theorem j_icmp_ne (X : jX Γ cc nL own) {x y : Int32} {off : Int} (tgt : Nat) (d : decode cc pc = .ok (.if_icmp .ne off, 3)) (ht : (pc : Int) + off = (tgt : Int)) (kt : ¬ x = y → J Γ nL w kc ks tgt lo st) (kf : x = y → J Γ nL w kc ks (pc + 3) lo st) : J Γ nL w kc ks pc lo (.int y :: .int x :: st) := by
  obtain ⟨p, ⟨l, D, cy, κ⟩, e, R, s, m, args, below, meth, c, A, Q⟩ := Γ
  obtain ⟨hx, hb, hml, hown, hts, hK, hA, hF, hlk, hst9⟩ := X
  intro H locs ls hP hD hS hl
  exact lv_icmp_ne hx hb d ht (fun q => kt q H locs ls hP hD hS hl) (fun q => kf q H locs ls hP hD hS hl)
theorem j_icmp_lt (X : jX Γ cc nL own) {x y : Int32} {off : Int} (tgt : Nat) (d : decode cc pc = .ok (.if_icmp .lt off, 3)) (ht : (pc : Int) + off = (tgt : Int)) (kt : x < y → J Γ nL w kc ks tgt lo st) (kf : ¬ x < y → J Γ nL w kc ks (pc + 3) lo st) : J Γ nL w kc ks pc lo (.int y :: .int x :: st) := by
  obtain ⟨p, ⟨l, D, cy, κ⟩, e, R, s, m, args, below, meth, c, A, Q⟩ := Γ
  obtain ⟨hx, hb, hml, hown, hts, hK, hA, hF, hlk, hst9⟩ := X
  intro H locs ls hP hD hS hl
  exact lv_icmp_lt hx hb d ht (fun q => kt q H locs ls hP hD hS hl) (fun q => kf q H locs ls hP hD hS hl)
theorem j_if_ge (X : jX Γ cc nL own) {x : Int32} {off : Int} (tgt : Nat) (d : decode cc pc = .ok (.ifCond .ge off, 3)) (ht : (pc : Int) + off = (tgt : Int)) (kt : 0 ≤ x → J Γ nL w kc ks tgt lo st) (kf : ¬ 0 ≤ x → J Γ nL w kc ks (pc + 3) lo st) : J Γ nL w kc ks pc lo (.int x :: st) := by
  obtain ⟨p, ⟨l, D, cy, κ⟩, e, R, s, m, args, below, meth, c, A, Q⟩ := Γ
  obtain ⟨hx, hb, hml, hown, hts, hK, hA, hF, hlk, hst9⟩ := X
  intro H locs ls hP hD hS hl
  exact lv_if_ge hx hb d ht (fun q => kt q H locs ls hP hD hS hl) (fun q => kf q H locs ls hP hD hS hl)
theorem j_if_gt (X : jX Γ cc nL own) {x : Int32} {off : Int} (tgt : Nat) (d : decode cc pc = .ok (.ifCond .gt off, 3)) (ht : (pc : Int) + off = (tgt : Int)) (kt : 0 < x → J Γ nL w kc ks tgt lo st) (kf : ¬ 0 < x → J Γ nL w kc ks (pc + 3) lo st) : J Γ nL w kc ks pc lo (.int x :: st) := by
  obtain ⟨p, ⟨l, D, cy, κ⟩, e, R, s, m, args, below, meth, c, A, Q⟩ := Γ
  obtain ⟨hx, hb, hml, hown, hts, hK, hA, hF, hlk, hst9⟩ := X
  intro H locs ls hP hD hS hl
  exact lv_if_gt hx hb d ht (fun q => kt q H locs ls hP hD hS hl) (fun q => kf q H locs ls hP hD hS hl)
theorem j_icmp_gt (X : jX Γ cc nL own) {x y : Int32} {off : Int} (tgt : Nat) (d : decode cc pc = .ok (.if_icmp .gt off, 3)) (ht : (pc : Int) + off = (tgt : Int)) (kt : y < x → J Γ nL w kc ks tgt lo st) (kf : ¬ y < x → J Γ nL w kc ks (pc + 3) lo st) : J Γ nL w kc ks pc lo (.int y :: .int x :: st) := by
  obtain ⟨p, ⟨l, D, cy, κ⟩, e, R, s, m, args, below, meth, c, A, Q⟩ := Γ
  obtain ⟨hx, hb, hml, hown, hts, hK, hA, hF, hlk, hst9⟩ := X
  intro H locs ls hP hD hS hl
  exact lv_icmp_gt hx hb d ht (fun q => kt q H locs ls hP hD hS hl) (fun q => kf q H locs ls hP hD hS hl)
theorem j_if_le (X : jX Γ cc nL own) {x : Int32} {off : Int} (tgt : Nat) (d : decode cc pc = .ok (.ifCond .le off, 3)) (ht : (pc : Int) + off = (tgt : Int)) (kt : x ≤ 0 → J Γ nL w kc ks tgt lo st) (kf : ¬ x ≤ 0 → J Γ nL w kc ks (pc + 3) lo st) : J Γ nL w kc ks pc lo (.int x :: st) := by
  obtain ⟨p, ⟨l, D, cy, κ⟩, e, R, s, m, args, below, meth, c, A, Q⟩ := Γ
  obtain ⟨hx, hb, hml, hown, hts, hK, hA, hF, hlk, hst9⟩ := X
  intro H locs ls hP hD hS hl
  exact lv_if_le hx hb d ht (fun q => kt q H locs ls hP hD hS hl) (fun q => kf q H locs ls hP hD hS hl)
theorem j_icmp_le (X : jX Γ cc nL own) {x y : Int32} {off : Int} (tgt : Nat) (d : decode cc pc = .ok (.if_icmp .le off, 3)) (ht : (pc : Int) + off = (tgt : Int)) (kt : x ≤ y → J Γ nL w kc ks tgt lo st) (kf : ¬ x ≤ y → J Γ nL w kc ks (pc + 3) lo st) : J Γ nL w kc ks pc lo (.int y :: .int x :: st) := by
  obtain ⟨p, ⟨l, D, cy, κ⟩, e, R, s, m, args, below, meth, c, A, Q⟩ := Γ
  obtain ⟨hx, hb, hml, hown, hts, hK, hA, hF, hlk, hst9⟩ := X
  intro H locs ls hP hD hS hl
  exact lv_icmp_le hx hb d ht (fun q => kt q H locs ls hP hD hS hl) (fun q => kf q H locs ls hP hD hS hl)
theorem j_acmp_eq (X : jX Γ cc nL own) {x y : Nat} {off : Int} (tgt : Nat) (d : decode cc pc = .ok (.if_acmp .eq off, 3)) (ht : (pc : Int) + off = (tgt : Int)) (kt : x = y → J Γ nL w kc ks tgt lo st) (kf : ¬ x = y → J Γ nL w kc ks (pc + 3) lo st) : J Γ nL w kc ks pc lo (.ref y :: .ref x :: st) := by
  obtain ⟨p, ⟨l, D, cy, κ⟩, e, R, s, m, args, below, meth, c, A, Q⟩ := Γ
  obtain ⟨hx, hb, hml, hown, hts, hK, hA, hF, hlk, hst9⟩ := X
  intro H locs ls hP hD hS hl
  exact lv_acmp_eq (rx := some x) (ry := some y) hx hb d ht (fun q => kt (Option.some.inj q) H locs ls hP hD hS hl) (fun q => kf (fun z => q (congrArg some z)) H locs ls hP hD hS hl)
theorem j_acmp_ne (X : jX Γ cc nL own) {x y : Nat} {off : Int} (tgt : Nat) (d : decode cc pc = .ok (.if_acmp .ne off, 3)) (ht : (pc : Int) + off = (tgt : Int)) (kt : ¬ x = y → J Γ nL w kc ks tgt lo st) (kf : x = y → J Γ nL w kc ks (pc + 3) lo st) : J Γ nL w kc ks pc lo (.ref y :: .ref x :: st) := by
  obtain ⟨p, ⟨l, D, cy, κ⟩, e, R, s, m, args, below, meth, c, A, Q⟩ := Γ
  obtain ⟨hx, hb, hml, hown, hts, hK, hA, hF, hlk, hst9⟩ := X
  intro H locs ls hP hD hS hl
  exact lv_acmp_ne (rx := some x) (ry := some y) hx hb d ht (fun q => kt (fun z => q (congrArg some z)) H locs ls hP hD hS hl) (fun q => kf (Option.some.inj q) H locs ls hP hD hS hl)
theorem j_ifnull (X : jX Γ cc nL own) {x : Nat} {off : Int} (d : decode cc pc = .ok (.ifnull off, 3)) (kk : J Γ nL w kc ks (pc + 3) lo st) : J Γ nL w kc ks pc lo (.ref x :: st) := by
  obtain ⟨p, ⟨l, D, cy, κ⟩, e, R, s, m, args, below, meth, c, A, Q⟩ := Γ
  obtain ⟨hx, hb, hml, hown, hts, hK, hA, hF, hlk, hst9⟩ := X
  intro H locs ls hP hD hS hl
  exact lv_ifnull hx hb d (kk H locs ls hP hD hS hl)
theorem j_ifnonnull (X : jX Γ cc nL own) {x : Nat} {off : Int} (tgt : Nat) (d : decode cc pc = .ok (.ifnonnull off, 3)) (ht : (pc : Int) + off = (tgt : Int)) (kk : J Γ nL w kc ks tgt lo st) : J Γ nL w kc ks pc lo (.ref x :: st) := by
  obtain ⟨p, ⟨l, D, cy, κ⟩, e, R, s, m, args, below, meth, c, A, Q⟩ := Γ
  obtain ⟨hx, hb, hml, hown, hts, hK, hA, hF, hlk, hst9⟩ := X
  intro H locs ls hP hD hS hl
  exact lv_ifnonnull hx hb d ht (kk H locs ls hP hD hS hl)
theorem j_tableOut (X : jX Γ cc nL own) {dflt lo9 hi : Int} {offs : Array Int} {len : Nat} {x : Int32} (tgt : Nat) (d : decode cc pc = .ok (.tableswitch dflt lo9 hi offs, len)) (h : x.toInt < lo9 ∨ hi < x.toInt) (ht : (pc : Int) + dflt = (tgt : Int)) (kk : J Γ nL w kc ks tgt lo st) : J Γ nL w kc ks pc lo (.int x :: st) := by
  obtain ⟨p, ⟨l, D, cy, κ⟩, e, R, s, m, args, below, meth, c, A, Q⟩ := Γ
  obtain ⟨hx, hb, hml, hown, hts, hK, hA, hF, hlk, hst9⟩ := X
  intro H locs ls hP hD hS hl
  exact lv_tableOut hx hb d h ht (kk H locs ls hP hD hS hl)
theorem j_tableIn (X : jX Γ cc nL own) {dflt lo9 hi : Int} {offs : Array Int} {len : Nat} {x : Int32} {off : Int} (tgt : Nat) (d : decode cc pc = .ok (.tableswitch dflt lo9 hi offs, len)) (h1 : ¬ x.toInt < lo9) (h2 : ¬ hi < x.toInt) (ho : offs[(x.toInt - lo9).toNat]? = some off) (ht : (pc : Int) + off = (tgt : Int)) (kk : J Γ nL w kc ks tgt lo st) : J Γ nL w kc ks pc lo (.int x :: st) := by
  obtain ⟨p, ⟨l, D, cy, κ⟩, e, R, s, m, args, below, meth, c, A, Q⟩ := Γ
  obtain ⟨hx, hb, hml, hown, hts, hK, hA, hF, hlk, hst9⟩ := X
  intro H locs ls hP hD hS hl
  exact lv_tableIn hx hb d h1 h2 ho ht (kk H locs ls hP hD hS hl)
theorem j_lookup (X : jX Γ cc nL own) {dflt : Int} {ps : Array (Int × Int)} {len : Nat} {x : Int32} {off : Int} (tgt : Nat) (d : decode cc pc = .ok (.lookupswitch dflt ps, len)) (hp : (ps.toList.zip (ps.toList.drop 1)).all (fun (a, next) => a.1 < next.1) = true) (ho : Op.lookupswitch.offset ps.toList dflt x.toInt = off) (ht : (pc : Int) + off = (tgt : Int)) (kk : J Γ nL w kc ks tgt lo st) : J Γ nL w kc ks pc lo (.int x :: st) := by
  obtain ⟨p, ⟨l, D, cy, κ⟩, e, R, s, m, args, below, meth, c, A, Q⟩ := Γ
  obtain ⟨hx, hb, hml, hown, hts, hK, hA, hF, hlk, hst9⟩ := X
  intro H locs ls hP hD hS hl
  exact lv_lookup hx hb d hp ho ht (kk H locs ls hP hD hS hl)
theorem j_sub {lo' : List (Nat × Value)} (is : List Nat) (h : lv_pick lo is = lo') (kk : J Γ nL w kc ks pc lo' st) : J Γ nL w kc ks pc lo st := by
  obtain ⟨p, ⟨l, D, cy, κ⟩, e, R, s, m, args, below, meth, c, A, Q⟩ := Γ
  intro H locs ls hP hD hS hl
  exact kk H locs ls hP hD hS (lv_sub hl is h)
theorem j_widen {k n : Nat} (h1 : kc ≤ k) (h2 : ks ≤ n) (kk : J Γ nL w k n pc lo st) : J Γ nL w kc ks pc lo st := by
  obtain ⟨p, ⟨l, D, cy, κ⟩, e, R, s, m, args, below, meth, c, A, Q⟩ := Γ
  intro H locs ls hP hD hS hl
  exact W.widen h1 h2 (kk H locs ls hP hD hS hl)
theorem j_bald (X : jX Γ cc nL own) {a n : Nat} {f : Nat → Int32} {i : Int32} (ha : jlk w a = some (.inl (1, n, .inl f))) (hi : vp_in i n) (d : decode cc pc = .ok (.baload, 1)) (kk : J Γ nL w kc ks (pc + 1) lo (.int (f i.toNatClampNeg) :: st)) : J Γ nL w kc ks pc lo (.int i :: .ref a :: st) := by
  obtain ⟨p, ⟨l, D, cy, κ⟩, e, R, s, m, args, below, meth, c, A, Q⟩ := Γ
  obtain ⟨hx, hb, hml, hown, hts, hK, hA, hF, hlk, hst9⟩ := X
  intro H locs ls hP hD hS hl
  obtain ⟨k, h1, -⟩ := jlk_at ha
  exact va_bald hx hb hK hP k 1 (jcv_at (cy := cy) h1) rfl hi d (kk H locs ls hP hD hS hl)
theorem j_bast (X : jX Γ cc nL own) {a n : Nat} {f : Nat → Int32} {i x : Int32} (ha : jlk w a = some (.inl (1, n, .inl f))) (hi : vp_in i n) (d : decode cc pc = .ok (.bastore, 1)) (kk : J Γ nL (jst w a (.inl (1, n, .inl (upd f i.toNatClampNeg (vp_nar .byte x))))) kc ks (pc + 1) lo st) : J Γ nL w kc ks pc lo (.int x :: .int i :: .ref a :: st) := by
  obtain ⟨p, ⟨l, D, cy, κ⟩, e, R, s, m, args, below, meth, c, A, Q⟩ := Γ
  obtain ⟨hx, hb, hml, hown, hts, hK, hA, hF, hlk, hst9⟩ := X
  intro H locs ls hP hD hS hl
  obtain ⟨k, h1, h2⟩ := jlk_at ha
  have h3 : ∀ x, jcv cy (jst w a x) = (jcv cy w).set k (a, jce cy x) := fun x => by rw [h2, jcv_set]
  exact va_bast hx hb hK hP hD hS k 1 (jcv_at (cy := cy) h1) rfl hi d (fun H1 locs1 q1 q2 q3 => kk H1 locs1 ls (by rw [h3]; exact q1) (by rw [h3]; exact q2) q3 hl)
theorem j_aald (X : jX Γ cc nL own) {a n r : Nat} {f : Nat → Option Nat} {i : Int32} (ha : jlk w a = some (.inl (2, n, .inr (.inr (.inr (.inr f)))))) (hi : vp_in i n) (hr : f i.toNatClampNeg = some r) (d : decode cc pc = .ok (.aaload, 1)) (kk : J Γ nL w kc ks (pc + 1) lo (.ref r :: st)) : J Γ nL w kc ks pc lo (.int i :: .ref a :: st) := by
  obtain ⟨p, ⟨l, D, cy, κ⟩, e, R, s, m, args, below, meth, c, A, Q⟩ := Γ
  obtain ⟨hx, hb, hml, hown, hts, hK, hA, hF, hlk, hst9⟩ := X
  intro H locs ls hP hD hS hl
  obtain ⟨k, h1, -⟩ := jlk_at ha
  refine va_aldq hx hb hK hP k 2 (jcv_at (cy := cy) h1) rfl hi d ?_
  rw [hr]
  exact kk H locs ls hP hD hS hl
theorem j_put (X : jX Γ cc nL own) {a ci index : Nat} {ref C : String} {T : u_T} {N : Nat} (hc : vwCl[ci]? = some (C, T, N)) (hin : ∀ w ∈ u_ws C T N, w ∈ jB) (tyf : Nat → FieldType) (hty : ∀ k, k < N → parseFieldDescriptor (T k).2.2.1 = some (tyf k)) (hnm : ∀ a, a < N → ∀ b, b < N → a ≠ b → (T a).2.1 ≠ (T b).2.1) {fs : List Value} {v : Value} (k : Nat) (hk : k < N) (ha : jlk w a = some (.inr (ci, fs))) (hl9 : (Cond.fieldLink own index ref (T k).2.1 (T k).2.2.1) ∈ jB) (hsame : (T k).1 = ref) (hfin : (T k).2.2.2 = false) (hn : narrow (tyf k) v = v) (hfit : fits (tyf k) v = true) (hlen : k < fs.length) (d : decode cc pc = .ok (.putfield index, 3)) (kk : J Γ nL (jst w a (.inr (ci, fs.set k v))) kc ks (pc + 3) lo st) : J Γ nL w kc ks pc lo (v :: .ref a :: st) := by
  obtain ⟨p, ⟨l, D, cy, κ⟩, e, R, s, m, args, below, meth, c, A, Q⟩ := Γ
  obtain ⟨hx, hb, hml, hown, hts, hK, hA, hF, hlk, hst9⟩ := X
  intro H locs ls hP hD hS hl
  obtain ⟨j, h1, h2⟩ := jlk_at ha
  have h3 : ∀ x, jcv cy (jst w a x) = (jcv cy w).set j (a, jce cy x) := fun x => by rw [h2, jcv_set]
  exact va_put hx hb hts hin tyf hty hnm hown hK hP hD hS j (jcv_at (cy := cy) h1) hc k hk (hts _ hl9) (fun x hx => by rw [← hsame]; exact hx) hfin (hty k hk) hn hfit hlen d (fun H1 locs1 q1 q2 q3 => kk H1 locs1 ls (by rw [h3]; exact q1) (by rw [h3]; exact q2) q3 hl)
theorem j_putN (X : jX Γ cc nL own) {a ci index : Nat} {ref C host : String} {T : u_T} {N : Nat} (hc : vwCl[ci]? = some (C, T, N)) (hin : ∀ w ∈ u_ws C T N, w ∈ jB) (tyf : Nat → FieldType) (hty : ∀ k, k < N → parseFieldDescriptor (T k).2.2.1 = some (tyf k)) (hnm : ∀ a, a < N → ∀ b, b < N → a ≠ b → (T a).2.1 ≠ (T b).2.1) {fs : List Value} {v : Value} (k : Nat) (hk : k < N) (ha : jlk w a = some (.inr (ci, fs))) (hl9 : (Cond.fieldLinkNest own index ref (T k).2.1 (T k).2.2.1 host) ∈ jN) (hsame : (T k).1 = ref) (hfin : (T k).2.2.2 = false) (hn : narrow (tyf k) v = v) (hfit : fits (tyf k) v = true) (hlen : k < fs.length) (d : decode cc pc = .ok (.putfield index, 3)) (kk : J Γ nL (jst w a (.inr (ci, fs.set k v))) kc ks (pc + 3) lo st) : J Γ nL w kc ks pc lo (v :: .ref a :: st) := by
  obtain ⟨p, ⟨l, D, cy, κ⟩, e, R, s, m, args, below, meth, c, A, Q⟩ := Γ
  obtain ⟨hx, hb, hml, hown, hts, hK, hA, hF, hlk, hst9⟩ := X
  intro H locs ls hP hD hS hl
  obtain ⟨j, h1, h2⟩ := jlk_at ha
  have h3 : ∀ x, jcv cy (jst w a x) = (jcv cy w).set j (a, jce cy x) := fun x => by rw [h2, jcv_set]
  exact va_putN hx hb hts hin tyf hty hnm hown hK hP hD hS j (jcv_at (cy := cy) h1) hc k hk (va_Nw.use rfl (hF.2.2.2.2.2.1 _ hl9)) (fun x hx => by rw [← hsame]; exact hx) hfin (hty k hk) hn hfit hlen d (fun H1 locs1 q1 q2 q3 => kk H1 locs1 ls (by rw [h3]; exact q1) (by rw [h3]; exact q2) q3 hl)
theorem j_getsE (X : jX Γ cc nL own) {index : Nat} {nm : String} (i : Nat) (hi : i < 6) (hnm : jEnum.getD i "" = nm) (hfl : Cond.fieldLink own index RX2 nm "LSnowLedger$Refusal;" ∈ jB) (d : decode cc pc = .ok (.getstatic index, 3)) (kk : J Γ nL w kc ks (pc + 3) lo (.ref ((jgE Γ).2.2.2 (2 + i)) :: st)) : J Γ nL w kc ks pc lo st := by
  obtain ⟨p, ⟨l, D, cy, κ⟩, e, R, s, m, args, below, meth, c, A, Q⟩ := Γ
  obtain ⟨hx, hb, hml, hown, hts, hK, hA, hF, hlk, hst9⟩ := X
  intro H locs ls hP hD hS hl
  have hE := (hF.2.2.2.2.1.1 i hi).1
  rw [show jEnum.getD i "" = nm from hnm] at hE
  exact va_gets hx hb hE hS hown (hts _ hfl) (fun x hx => hx) d (kk H locs ls hP hD hS hl)
theorem j_getsC (X : jX Γ cc nL own) {index : Nat} (hfl : Cond.fieldLink own index RJ0 "COMPACT_STRINGS" "Z" ∈ jB) (d : decode cc pc = .ok (.getstatic index, 3)) (kk : J Γ nL w kc ks (pc + 3) lo (.int 1 :: st)) : J Γ nL w kc ks pc lo st := by
  obtain ⟨p, ⟨l, D, cy, κ⟩, e, R, s, m, args, below, meth, c, A, Q⟩ := Γ
  obtain ⟨hx, hb, hml, hown, hts, hK, hA, hF, hlk, hst9⟩ := X
  intro H locs ls hP hD hS hl
  exact va_gets hx hb hF.1 hS hown (hts _ hfl) (fun x hx => hx) d (kk H locs ls hP hD hS hl)
theorem j_ldcS (X : jX Γ cc nL own) {index n : Nat} {tx : String} (hq : (own, index, tx, n) ∈ jStr) (d : decode cc pc = .ok (.ldc index, 2)) (kk : J Γ nL w kc ks (pc + 2) lo (.ref ((jgE Γ).2.2.2 (10 + n)) :: st)) : J Γ nL w kc ks pc lo st := by
  obtain ⟨p, ⟨l, D, cy, κ⟩, e, R, s, m, args, below, meth, c, A, Q⟩ := Γ
  obtain ⟨hx, hb, hml, hown, hts, hK, hA, hF, hlk, hst9⟩ := X
  intro H locs ls hP hD hS hl
  exact va_ldcS hx hb hown (hF.2.2.2.2.2.2.1 _ hq) d (kk H locs ls hP hD hS hl)
def jmin (x y : Int32) : Int32 := if y < x then y else x
def jmax (x y : Int32) : Int32 := if x < y then y else x
theorem j_mmin (X : jX Γ cc nL own) {index : Nat} {x y : Int32} (hl9 : Cond.methodLink own index Lib.Math.min.name ∈ jB) (h1 : Cond.static Lib.Math.min.name ∈ jB) (h2 : Cond.initialized "java/lang/Math" ∈ jB) (h3 : Cond.code Lib.Math.min.name Lib.Math.min.code 2 (some .int) ∈ jB) (hR : (1 ≤ (jgR Γ).frames ∧ (st.map fun v => v.category).sum + 13 ≤ (jgR Γ).locals) ∧ kc ≤ (jgR Γ).cells ∧ ks ≤ (jgR Γ).slots) (d : decode cc pc = .ok (.invokestatic index, 3)) (kk : J Γ nL w kc ks (pc + 3) lo (.int (jmin x y) :: st)) : J Γ nL w kc ks pc lo (.int y :: .int x :: st) := by
  obtain ⟨p, ⟨l, D, cy, κ⟩, e, R, s, m, args, below, meth, c, A, Q⟩ := Γ
  obtain ⟨hx, hb, hml, hown, hts, hK, hA, hF, hlk, hst9⟩ := X
  intro H locs ls hP hD hS hl
  exact va_mmin hx hb (hml.trans hl.1.symm) hown (hts _ hl9) (hts _ h1) (hts _ h2) (hts _ h3) hR.1.1 hR.1.2 hR.2.1 hR.2.2 d (kk H locs ls hP hD hS hl)
theorem j_acopy (X : jX Γ cc nL own) {index a b n0 n1 t : Nat} {f g : Nat → Int32} {sp dp n : Int32} (hl9 : Cond.methodLink own index arraycopyName ∈ jB) (h1 : Cond.static arraycopyName ∈ jB) (h2 : Cond.initialized "java/lang/System" ∈ jB) (h3 : Cond.native arraycopyName ∈ jB) (ht : t < 2) (ha : jlk w a = some (.inl (t, n0, .inl f))) (hb9 : jlk w b = some (.inl (t, n1, .inl g))) (hc : ¬ sp < 0 ∧ ¬ dp < 0 ∧ ¬ n < 0 ∧ sp.toNatClampNeg + n.toNatClampNeg ≤ n0 ∧ dp.toNatClampNeg + n.toNatClampNeg ≤ n1) (hfit : ∀ i, i < n.toNatClampNeg → fits (jTy t) (.int (f (sp.toNatClampNeg + i))) = true) (hR : 1 ≤ (jgR Γ).frames ∧ (st.map fun v => v.category).sum + 100 ≤ (jgR Γ).locals) (d : decode cc pc = .ok (.invokestatic index, 3)) (kk : J Γ nL (jst w b (.inl (t, n1, .inl (va_cpy f g sp.toNatClampNeg dp.toNatClampNeg n.toNatClampNeg)))) kc ks (pc + 3) lo st) : J Γ nL w kc ks pc lo (.int n :: .int dp :: .ref b :: .int sp :: .ref a :: st) := by
  obtain ⟨p, ⟨l, D, cy, κ⟩, e, R, s, m, args, below, meth, c, A, Q⟩ := Γ
  obtain ⟨hx, hb, hml, hown, hts, hK, hA, hF, hlk, hst9⟩ := X
  intro H locs ls hP hD hS hl
  obtain ⟨k, g1, -⟩ := jlk_at ha
  obtain ⟨k2, g2, g3⟩ := jlk_at hb9
  have h4 : ∀ x, jcv cy (jst w b x) = (jcv cy w).set k2 (b, jce cy x) := fun x => by rw [g3, jcv_set]
  have hty : (jty cy)[t]? = some (cy t, jTy t) := by
    rcases (show t = 0 ∨ t = 1 by omega) with rfl | rfl <;> rfl
  have hpr : refKind (jTy t) = false := by
    rcases (show t = 0 ∨ t = 1 by omega) with rfl | rfl <;> rfl
  have hw : nativeFrameWords "java/lang/System" "arraycopy" 5 + 11 ≤ 100 := by decide +kernel
  exact va_copyi hx hb (hml.trans hl.1.symm) hown (hts _ hl9) (hts _ h3) (hts _ h1) (hts _ h2) hK hP hD hS k k2 t t (jcv_at (cy := cy) g1) (jcv_at (cy := cy) g2) hty hty hpr hc.1 hc.2.1 hc.2.2.1 hc.2.2.2.1 hc.2.2.2.2 hfit hR.1 (Nat.le_trans (Nat.add_le_add_left hw _) hR.2) d (fun H1 locs1 q1 q2 q3 => kk H1 locs1 ls (by rw [h4]; exact q1) (by rw [h4]; exact q2) q3 hl)
theorem j_newa (X : jX Γ cc nL own) {atype : ArrayType} {n : Int32} {N : Nat} (t : Nat) (ht : t < 2) (hty : newarray.typeOf atype = jTy t) (hcls : Cond.arrayClass (newarray.typeOf atype) ∈ jB) (hn : ¬ n < 0) (hN : n.toNatClampNeg = N) (hby : N ≤ 100000) (hR : kc + 1 ≤ (jgR Γ).cells ∧ ks + N ≤ (jgR Γ).slots) (d : decode cc pc = .ok (.newarray atype, 2)) (kk : ∀ q : Nat, jlk w q = none → J Γ nL (w ++ [(q, .inl (t, N, .inl (fun _ => 0)))]) (kc + 1) (ks + N) (pc + 2) lo (.ref q :: st)) : J Γ nL w kc ks pc lo (.int n :: st) := by
  obtain ⟨p, ⟨l, D, cy, κ⟩, e, R, s, m, args, below, meth, c, A, Q⟩ := Γ
  obtain ⟨hx, hb, hml, hown, hts, hK, hA, hF, hlk, hst9⟩ := X
  intro H locs ls hP hD hS hl
  have hdv : defaultValue (jTy t) = .int 0 := by
    rcases (show t = 0 ∨ t = 1 by omega) with rfl | rfl <;> rfl
  have hcb : N * componentBytes (jTy t) ≤ 536870912 := by
    have : componentBytes (jTy t) ≤ 4 := by
      rcases (show t = 0 ∨ t = 1 by omega) with rfl | rfl <;> decide
    calc N * componentBytes (jTy t) ≤ N * 4 := Nat.mul_le_mul_left _ this
      _ ≤ 536870912 := by omega
  refine va_newa hx hb (hts _ hcls) hty hK hP hD hS hA (a0 := (N, .inl (fun _ => 0))) (fun cA => by rw [vp_cell_i, hdv]) hn hN hcb hR.1 hR.2 d (fun q cA H1 hK1 hP1 hD1 hS1 => ?_)
  have hcA : cA = cy t := by
    have h1 := (hK1.2 3 (cA, jTy t) rfl).2
    rcases (show t = 0 ∨ t = 1 by omega) with rfl | rfl
    · have h2 := (hK.2 0 (cy 0, jTy 0) rfl).2
      exact Option.some.inj (h1.symm.trans h2)
    · have h2 := (hK.2 1 (cy 1, jTy 1) rfl).2
      exact Option.some.inj (h1.symm.trans h2)
  subst hcA
  have hq : jlk w q = none := by
    cases hz : jlk w q with
    | none => rfl
    | some e9 =>
      obtain ⟨k, g1, -⟩ := jlk_at hz
      have g2 := jcv_at (cy := cy) g1
      have hlt := (List.getElem?_eq_some_iff.mp g2).1
      have := hD1.1 k (jcv cy w).length (q, jce cy e9) (q, .inl (cy t, N, .inl (fun _ => 0))) (by rw [List.getElem?_append_left hlt]; exact g2) (by rw [List.getElem?_append_right (Nat.le_refl _), Nat.sub_self]; rfl) rfl
      omega
  refine kk q hq H1 locs ls ?_ ?_ hS1 hl
  · rw [← jcv_push]; exact hP1
  · rw [← jcv_push]; exact hD1
theorem j_mmax (X : jX Γ cc nL own) {index : Nat} {x y : Int32} (hl9 : Cond.methodLink own index Lib.Math.max.name ∈ jB) (h1 : Cond.static Lib.Math.max.name ∈ jB) (h2 : Cond.initialized "java/lang/Math" ∈ jB) (h3 : Cond.code Lib.Math.max.name Lib.Math.max.code 2 (some .int) ∈ jB) (hR : (1 ≤ (jgR Γ).frames ∧ (st.map fun v => v.category).sum + 13 ≤ (jgR Γ).locals) ∧ kc ≤ (jgR Γ).cells ∧ ks ≤ (jgR Γ).slots) (d : decode cc pc = .ok (.invokestatic index, 3)) (kk : J Γ nL w kc ks (pc + 3) lo (.int (jmax x y) :: st)) : J Γ nL w kc ks pc lo (.int y :: .int x :: st) := by
  obtain ⟨p, ⟨l, D, cy, κ⟩, e, R, s, m, args, below, meth, c, A, Q⟩ := Γ
  obtain ⟨hx, hb, hml, hown, hts, hK, hA, hF, hlk, hst9⟩ := X
  intro H locs ls hP hD hS hl
  exact va_mmax hx hb (hml.trans hl.1.symm) hown (hts _ hl9) (hts _ h1) (hts _ h2) (hts _ h3) hR.1.1 hR.1.2 hR.2.1 hR.2.2 d (kk H locs ls hP hD hS hl)
theorem j_sval (X : jX Γ cc nL own) {index i : Nat} (hi : i < 27) (hfl : Cond.fieldLink own index RJ0 "value" "[B" ∈ jB) (d : decode cc pc = .ok (.getfield index, 3)) (kk : J Γ nL w kc ks (pc + 3) lo (.ref ((jgE Γ).2.2.2 (100 + i)) :: st)) : J Γ nL w kc ks pc lo (.ref ((jgE Γ).2.2.2 (10 + i)) :: st) := by
  obtain ⟨p, ⟨l, D, cy, κ⟩, e, R, s, m, args, below, meth, c, A, Q⟩ := Γ
  obtain ⟨hx, hb, hml, hown, hts, hK, hA, hF, hlk, hst9⟩ := X
  intro H locs ls hP hD hS hl
  exact vk_getf hx hb (hF.2.2.2.2.2.2.2.1 i hi).2.2.1 hS hown (hts _ hfl) (fun x hx => hx) d (kk H locs ls hP hD hS hl)
theorem j_scod (X : jX Γ cc nL own) {index i : Nat} (hi : i < 27) (hfl : Cond.fieldLink own index RJ0 "coder" "B" ∈ jB) (d : decode cc pc = .ok (.getfield index, 3)) (kk : J Γ nL w kc ks (pc + 3) lo (.int 0 :: st)) : J Γ nL w kc ks pc lo (.ref ((jgE Γ).2.2.2 (10 + i)) :: st) := by
  obtain ⟨p, ⟨l, D, cy, κ⟩, e, R, s, m, args, below, meth, c, A, Q⟩ := Γ
  obtain ⟨hx, hb, hml, hown, hts, hK, hA, hF, hlk, hst9⟩ := X
  intro H locs ls hP hD hS hl
  exact vk_getf hx hb (hF.2.2.2.2.2.2.2.1 i hi).2.1 hS hown (hts _ hfl) (fun x hx => hx) d (kk H locs ls hP hD hS hl)
theorem j_slen (X : jX Γ cc nL own) {i : Nat} (hi : i < 27) (d : decode cc pc = .ok (.arraylength, 1)) (kk : J Γ nL w kc ks (pc + 1) lo (.int (nI (jLen i)) :: st)) : J Γ nL w kc ks pc lo (.ref ((jgE Γ).2.2.2 (100 + i)) :: st) := by
  obtain ⟨p, ⟨l, D, cy, κ⟩, e, R, s, m, args, below, meth, c, A, Q⟩ := Γ
  obtain ⟨hx, hb, hml, hown, hts, hK, hA, hF, hlk, hst9⟩ := X
  intro H locs ls hP hD hS hl
  exact va_tlen hx hb (hF.2.2.2.2.2.2.2.1 i hi).2.2.2 hS rfl d (kk H locs ls hP hD hS hl)
theorem j_sbyt (X : jX Γ cc nL own) {i : Nat} {x : Int32} (hi : i < 27) (hin : vp_in x (jLen i)) (d : decode cc pc = .ok (.baload, 1)) (kk : J Γ nL w kc ks (pc + 1) lo (.int (nI (jByt i x.toNatClampNeg)) :: st)) : J Γ nL w kc ks pc lo (.int x :: .ref ((jgE Γ).2.2.2 (100 + i)) :: st) := by
  obtain ⟨p, ⟨l, D, cy, κ⟩, e, R, s, m, args, below, meth, c, A, Q⟩ := Γ
  obtain ⟨hx, hb, hml, hown, hts, hK, hA, hF, hlk, hst9⟩ := X
  intro H locs ls hP hD hS hl
  exact va_tb hx hb (hF.2.2.2.2.2.2.2.1 i hi).2.2.2 hS hin rfl d (kk H locs ls hP hD hS hl)
theorem j_getsT (X : jX Γ cc nL own) {index : Nat} {nm : String} (t : Nat) (ht : (t = 0 ∧ nm = "DigitOnes") ∨ (t = 1 ∧ nm = "DigitTens")) (hfl : Cond.fieldLink own index RJ6 nm "[B" ∈ jB) (d : decode cc pc = .ok (.getstatic index, 3)) (kk : J Γ nL w kc ks (pc + 3) lo (.ref ((jgE Γ).2.2.2 t) :: st)) : J Γ nL w kc ks pc lo st := by
  obtain ⟨p, ⟨l, D, cy, κ⟩, e, R, s, m, args, below, meth, c, A, Q⟩ := Γ
  obtain ⟨hx, hb, hml, hown, hts, hK, hA, hF, hlk, hst9⟩ := X
  intro H locs ls hP hD hS hl
  rcases ht with ⟨rfl, rfl⟩ | ⟨rfl, rfl⟩
  · exact va_gets hx hb hF.2.1.1 hS hown (hts _ hfl) (fun x hx => hx) d (kk H locs ls hP hD hS hl)
  · exact va_gets hx hb hF.2.1.2 hS hown (hts _ hfl) (fun x hx => hx) d (kk H locs ls hP hD hS hl)
def jDig (t : Nat) (x : Int32) : Int32 := if t = 0 then nI (48 + x.toNatClampNeg % 10) else nI (48 + x.toNatClampNeg / 10)
theorem j_tbyt (X : jX Γ cc nL own) (t : Nat) (ht : t < 2) {x : Int32} (hin : vp_in x 100) (d : decode cc pc = .ok (.baload, 1)) (kk : J Γ nL w kc ks (pc + 1) lo (.int (jDig t x) :: st)) : J Γ nL w kc ks pc lo (.int x :: .ref ((jgE Γ).2.2.2 t) :: st) := by
  obtain ⟨p, ⟨l, D, cy, κ⟩, e, R, s, m, args, below, meth, c, A, Q⟩ := Γ
  obtain ⟨hx, hb, hml, hown, hts, hK, hA, hF, hlk, hst9⟩ := X
  intro H locs ls hP hD hS hl
  rcases (show t = 0 ∨ t = 1 by omega) with rfl | rfl
  · exact va_tb hx hb hF.2.2.1.1 hS hin rfl d (kk H locs ls hP hD hS hl)
  · exact va_tb hx hb hF.2.2.1.2 hS hin rfl d (kk H locs ls hP hD hS hl)
theorem j_getsQ (X : jX Γ cc nL own) {index : Nat} (hfl : Cond.fieldLink own index "jdk/internal/util/Preconditions" "SIOOBE_FORMATTER" "Ljava/util/function/BiFunction;" ∈ jB) (d : decode cc pc = .ok (.getstatic index, 3)) (k1 : J Γ nL w kc ks (pc + 3) lo (.null :: st)) (k2 : ∀ t : Nat, J Γ nL w kc ks (pc + 3) lo (.ref t :: st)) : J Γ nL w kc ks pc lo st := by
  obtain ⟨p, ⟨l, D, cy, κ⟩, e, R, s, m, args, below, meth, c, A, Q⟩ := Γ
  obtain ⟨hx, hb, hml, hown, hts, hK, hA, hF, hlk, hst9⟩ := X
  intro H locs ls hP hD hS hl
  rcases hF.2.2.2.2.2.2.2.2.1 with hZ | ⟨t, hZ⟩
  · exact va_gets hx hb hZ hS hown (hts _ hfl) (fun x hx => hx) d (k1 H locs ls hP hD hS hl)
  · exact va_gets hx hb hZ hS hown (hts _ hfl) (fun x hx => hx) d (k2 t H locs ls hP hD hS hl)
theorem j_getsR (X : jX Γ cc nL own) {index : Nat} (hfl : Cond.fieldLink own index "SnowLedgerLaw" "SCRIPTS" "[Ljava/lang/String;" ∈ jB) (d : decode cc pc = .ok (.getstatic index, 3)) (kk : J Γ nL w kc ks (pc + 3) lo (.ref ((jgE Γ).2.2.2 8) :: st)) : J Γ nL w kc ks pc lo st := by
  obtain ⟨p, ⟨l, D, cy, κ⟩, e, R, s, m, args, below, meth, c, A, Q⟩ := Γ
  obtain ⟨hx, hb, hml, hown, hts, hK, hA, hF, hlk, hst9⟩ := X
  intro H locs ls hP hD hS hl
  exact va_gets hx hb hF.2.2.2.2.2.2.2.2.2.1 hS hown (hts _ hfl) (fun x hx => hx) d (kk H locs ls hP hD hS hl)
theorem j_rlen (X : jX Γ cc nL own) (d : decode cc pc = .ok (.arraylength, 1)) (kk : J Γ nL w kc ks (pc + 1) lo (.int 20 :: st)) : J Γ nL w kc ks pc lo (.ref ((jgE Γ).2.2.2 8) :: st) := by
  obtain ⟨p, ⟨l, D, cy, κ⟩, e, R, s, m, args, below, meth, c, A, Q⟩ := Γ
  obtain ⟨hx, hb, hml, hown, hts, hK, hA, hF, hlk, hst9⟩ := X
  intro H locs ls hP hD hS hl
  exact va_tlen hx hb hF.2.2.2.2.2.2.2.2.2.2.1 hS rfl d (kk H locs ls hP hD hS hl)
theorem jtabOut {x : Int32} {n : Nat} (hn : n < 2 ^ 31) (h : ∀ k, k ≤ n → ¬ x = nI k) : x.toInt < 0 ∨ (n : Int) < x.toInt := by
  rcases Int.lt_or_le x.toInt 0 with h0 | h0
  · exact Or.inl h0
  · refine Or.inr (Int.lt_of_not_ge (fun h1 => ?_))
    obtain ⟨k, hk⟩ : ∃ k : Nat, x.toInt = k := ⟨x.toInt.toNat, by omega⟩
    exact h k (by omega) (Int32.toInt_inj.mp (by rw [nI_toInt (by omega)]; exact hk))
end JR3
