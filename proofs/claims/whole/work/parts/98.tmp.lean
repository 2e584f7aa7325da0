def InvT (_n : Nat) (_S _M : MS) : Prop := True
theorem ops_ok : opsOk InvT := sorry
theorem inv_0 : InvT 0 S0 M0 := trivial
