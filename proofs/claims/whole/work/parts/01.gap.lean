/-- what the Statement's own premise asks of every start: the class of arrays of StackTraceElement is among the machine's classes -/
theorem gp_needs {args : Array Value} {s : State} (h : (Jvm.Cond.and given_1 narrow_1).before args s = true) : s.vm.findClass "[Ljava/lang/StackTraceElement;" ≠ none := by
  have hs := flat_of_before _ h
  have hc : (Cond.not (Cond.castable "[Ljava/lang/StackTraceElement;" "LoneWire$Thermometer")).before args s = true := hs _ (by decide +kernel)
  intro h0
  simp [Cond.before, Cond.holds, Cond.value, h0] at hc
/-- so a start without that class is no start of the Statement -/
theorem gp_none {args : Array Value} {s : State} (h0 : s.vm.findClass "[Ljava/lang/StackTraceElement;" = none) : (Jvm.Cond.and given_1 narrow_1).before args s = false := by
  cases hv : (Jvm.Cond.and given_1 narrow_1).before args s with
  | false => rfl
  | true => exact absurd h0 (gp_needs hv)
/-- by names alone: where no class of the machine bears that name, it is no start of the Statement -/
theorem gp_unnamed {args : Array Value} {s : State} (h : ∀ k ∈ s.vm.classes, k.name ≠ "[Ljava/lang/StackTraceElement;") : (Jvm.Cond.and given_1 narrow_1).before args s = false := by
  apply gp_none
  unfold Vm.findClass
  rw [Array.findIdx?_eq_none_iff]
  intro k hk
  have h1 := h k hk
  simp [h1]
