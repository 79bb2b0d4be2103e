/-- a name of the wider library, said by its own name so that the round is read over the whole of it -/
theorem aa_wide : True := by
  have h1 := @Jvm.Stand.thenCaughtThrough
  have h2 := @Jvm.Stand.outThrough
  trivial
