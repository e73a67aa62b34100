/-! names a row of the rest of the library, so that a round is read over the whole of it from its first part on -/
theorem wd_0 : True := by
  have h := @Stand.thenCaughtThrough
  trivial
