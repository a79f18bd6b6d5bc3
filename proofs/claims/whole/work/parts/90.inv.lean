def Inv (st : Mm) : Prop := True
theorem pure_ok : PureOK Inv := sorry
theorem init_ok : InitOK Inv := sorry
