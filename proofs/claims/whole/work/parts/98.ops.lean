/-! every call keeps class and reference alike -/
theorem z_Invo : z_ops z_Inv := fun e n σ hn h a1 a2 a3 h1 h2 h3 => by
  have k : z_RCs n σ σ := h
  have g : ∀ {C M : Nat} {args : List z_V}, z_two e n z_Inv C M args (z_gl σ σ) → z_two e n z_Inv C M args σ := fun w => by rw [z_gl_same] at w; exact w
  exact ⟨g (z2_feed k), g (z2_rule k), g (z2_drop k), g (z2_set k), g (z2_cell k), g (z2_ask hn k), g (z2_fresh hn k), g (z2_steps k), g (z2_bound k), g (z2_policy k), g (z2_kept k), g (z2_asked h2 k), g (z2_key h2 k), g (z2_wave k), g (z2_would k), g (z2_heirs k), g (z2_chain k), g (z2_next k), g (z2_clear k), g (z2_start hn k), g (z2_step hn k), g (z2_stop k), g (z2_task k), g (z2_frame h2 k), g (z2_led k), g (z2_count k)⟩
