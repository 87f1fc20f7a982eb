/-! the claim's parts use a row of the library's rest (part 82: a throw that goes through a frame); named here so that the first round reads over the whole library -/
theorem xw_wide : True := by
  have _h := @Jvm.Stand.thenCaughtThrough
  trivial
