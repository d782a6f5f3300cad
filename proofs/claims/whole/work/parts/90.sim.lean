def Sm (n : Nat) (S : WireS) (M : ModelS) : Prop := True
theorem ok_all : OKall Sm := sorry
theorem sm_0 : Sm 0 wireI modelI := sorry
