-- a name of the library's last shelf, which part 13 needs: a round on a new machine goes over the whole library from its first part
theorem wd_1 : True := by
  have _h := @Jvm.Stand.thenCaughtThrough
  trivial
