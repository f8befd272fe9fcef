/-! Why the printed start can't meet the premises: one of them asks that the class of rows of StackTraceElement be there. -/
theorem zz_needs {args : Array Value} {s : State} (h : (Jvm.Cond.and given_1 narrow_1).before args s = true) : s.vm.findClass "[Ljava/lang/StackTraceElement;" ≠ none := by
  have h1 : (Cond.not (Cond.castable "[Ljava/lang/StackTraceElement;" "java/lang/String")).before args s = true := flat_of_before _ h _ (by decide +kernel)
  intro h2
  simp [Cond.before, Cond.holds, Cond.value, h2] at h1
