/-! the rows that catch a throw stand in the rest of the library: the whole of it is read -/
theorem wide_0 : True := by
  have _ := @Jvm.Stand.thenCaughtThrough
  trivial
