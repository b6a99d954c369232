def z_Inv (_ : Nat) (σ : z_M) : Prop := z_rM σ
theorem z_Inv0 : ∀ σ, z_q 740 σ (fun _ _ => False) → z_rM σ → z_Inv 0 σ := sorry
theorem z_Invm : ∀ n σ, z_Inv n σ → z_Inv (n + 1) σ := sorry
theorem z_Invo : z_ops z_Inv := sorry
