def x_oddF : List (String × Nat × String × String × String) := [("StepRows$Nodes", 48, "StepRows", "WANTED", "[I"), ("StepRows$Walker", 261, "StepRows", "TABLE", "[I")]
def x_oddM : List (String × Nat × MethodName) := [("StepRows", 11, ⟨"StepRows$Nodes", "<init>", "()V"⟩)]
