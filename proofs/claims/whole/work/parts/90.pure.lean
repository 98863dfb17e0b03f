/-- what holds between the class and the reference at each call -/
def InvX (u : USt) (b : BSt) (v : MSt) : Prop := True
theorem pure_ok : PureOK InvX := sorry
theorem inv_0 : InvX u0X none v0M := trivial
