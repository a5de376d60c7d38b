/-- a name outside the narrow library, first: so a round goes over the whole library at once -/
theorem zwd0 : True := by
  have := @Jvm.Free.Multi.fill_facts
  trivial
