theorem pure_all : ∃ Inv : Mem → Prop, AllSteps Inv ∧ Inv mem0 := sorry
