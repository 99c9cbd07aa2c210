/-! ===== the whole library is wanted: two rows of it make new long[n][k] (part 999951) ===== -/
theorem wide_wanted : True := by
  have := @Jvm.Free.Multi.fill_facts
  trivial
