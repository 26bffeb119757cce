section
/-- where the table of classes lacks the arrays of StackTraceElement, the claim's premises don't hold: 'not castable' has no value there -/
theorem zz_premise_needs {args : Array Value} {s : State} (h : s.vm.findClass "[Ljava/lang/StackTraceElement;" = none) : ¬ (Jvm.Cond.and given_1 narrow_1).before args s = true := by
  intro hb
  have hs := flat_of_before _ hb
  have hc : (Cond.not (.castable "[Ljava/lang/StackTraceElement;" "java/lang/Integer")).before args s = true := hs _ (by decide +kernel)
  simp [Cond.before, Cond.holds, Cond.value, h] at hc
end
