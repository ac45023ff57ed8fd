section
/-- what the premises of the claim ask of a start, and its printed start doesn't meet: a class of that name stands among the loaded ones -/
theorem why_prepare_falls {args : Array Value} {s : State} (h : (Jvm.Cond.and given_1 narrow_1).before args s = true) : ∃ c, s.vm.findClass "[Ljava/lang/StackTraceElement;" = some c := by
  have hs := flat_of_before _ h
  have h1 : (Cond.not (.castable "[Ljava/lang/StackTraceElement;" "KitchenBell$Row")).before args s = true := hs _ (by decide +kernel)
  simp only [Cond.before, Cond.holds, Cond.value] at h1
  cases ha : s.vm.findClass "[Ljava/lang/StackTraceElement;" with
  | none => simp [ha] at h1
  | some x => exact ⟨x, rfl⟩
theorem i_vc : Claimed_1_1 ∧ Claimed_1_2 := sorry
end
