/-! The printed premises ask a machine that holds the array class of StackTraceElement: a state that has none doesn't meet them. -/
def wl_pick (b : Bool) : Jvm.Cond → Jvm.Cond
  | .and x y => if b then x else y
  | z => z
def wl_at : List Bool → Jvm.Cond → Jvm.Cond
  | [], c => c
  | b :: r, c => wl_at r (wl_pick b c)
theorem wl_step {args : Array Value} {s : State} (b : Bool) (c : Jvm.Cond) (h : c.before args s = true) : (wl_pick b c).before args s = true := by
  unfold wl_pick
  split
  · rw [Cond.before_and, Bool.and_eq_true] at h
    cases b
    · exact h.2
    · exact h.1
  · exact h
theorem wl_true {args : Array Value} {s : State} : ∀ (p : List Bool) (c : Jvm.Cond), c.before args s = true → (wl_at p c).before args s = true
  | [], _, h => h
  | b :: r, c, h => wl_true r _ (wl_step b c h)
theorem wl_pair {args : Array Value} {s : State} {C T : String} (h : s.vm.findClass C = none) : (Jvm.Cond.not (.castable C T)).before args s = false := by
  simp [Cond.before, Cond.holds, Cond.value, h]
theorem wl_place : wl_at [false, false, false, false, true, false, true, false, true] narrow_1_1 = Jvm.Cond.not (.castable "[Ljava/lang/StackTraceElement;" "[B") := rfl
theorem wl_wall {args : Array Value} {s : State} (h : s.vm.findClass "[Ljava/lang/StackTraceElement;" = none) : narrow_1_1.before args s = false := by
  cases hq : narrow_1_1.before args s with
  | false => rfl
  | true =>
    have h1 := wl_true [false, false, false, false, true, false, true, false, true] _ hq
    rw [wl_place, wl_pair h] at h1
    exact h1.symm
theorem wl_pre {args : Array Value} {s : State} (h : s.vm.findClass "[Ljava/lang/StackTraceElement;" = none) : narrow_1.before args s = false := by
  cases hq : narrow_1.before args s with
  | false => rfl
  | true =>
    unfold narrow_1 at hq
    simp only [Cond.before_and, Bool.and_eq_true, wl_wall h, Bool.false_eq_true, false_and, and_false] at hq
