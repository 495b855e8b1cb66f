def Iv (_ : Wd) : Prop := True
theorem ops_ok : OpsOK Iv := sorry
