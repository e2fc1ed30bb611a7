/-! the whole library is wanted (parts 38 and on): this name is of its rest, so that a round reads it from the first part on -/
theorem wide_1 : True := by
  have _h := @Jvm.Stand.outThrough
  trivial
