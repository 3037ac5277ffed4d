/-! what the start's premises ask of the table of classes: the array class of stack trace elements stands in it -/
theorem ww_asked {args : Array Value} {s : State} (h : (Jvm.Cond.and given_1 narrow_1).before args s = true) : s.vm.findClass "[Ljava/lang/StackTraceElement;" ≠ none := by
  have h1 := flat_of_before _ h (Jvm.Cond.not (Jvm.Cond.castable "[Ljava/lang/StackTraceElement;" "java/lang/Integer")) (by decide +kernel)
  intro e
  simp [Cond.before, Cond.holds, Cond.value, e] at h1
/-- so a start without that class meets no premise, whatever else it holds -/
theorem ww_lacking {args : Array Value} {s : State} (e : s.vm.findClass "[Ljava/lang/StackTraceElement;" = none) : (Jvm.Cond.and given_1 narrow_1).before args s = false := by
  cases h : (Jvm.Cond.and given_1 narrow_1).before args s with
  | false => rfl
  | true => exact absurd e (ww_asked h)
