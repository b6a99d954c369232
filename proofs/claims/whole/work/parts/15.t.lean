abbrev z_T (e : z_E) (d y pc : Nat) (ls : List (Option z_V)) (σ : z_M) (Q : Int → z_M → Prop) : Prop := z_X e true d y z_NT z_NT pc ls [] z_NT σ Q
abbrev z_C (e : z_E) (d y : Nat) (args : List z_V) (σ : z_M) (Q : Int → z_M → Prop) : Prop := z_Y e true d y args z_NT z_NT σ Q
