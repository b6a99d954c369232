/-! helpers of the pure part -/
theorem z_ckI {b : Bool} {P : Prop} (h : b = true) (hp : P) : z_ck b P := by subst h; exact hp
theorem z_ckT (P : Prop) : z_ck true P = P := rfl
theorem z_C_mono {e : z_E} {d y : Nat} {args : List z_V} {σ : z_M} {Q1 Q2 : Int → z_M → Prop} (h : z_C e d y args σ Q1) (hq : ∀ r σ', Q1 r σ' → Q2 r σ') : z_C e d y args σ Q2 := z_Y_mono hq h
theorem z_upd (σ : z_M) (a i v b j : Int) : z_up σ a i v b j = if b = a ∧ j = i then v else σ b j := rfl
theorem z_up_ne {σ : z_M} {a i v b j : Int} (h : b ≠ a ∨ j ≠ i) : z_up σ a i v b j = σ b j := by
  unfold z_up; rw [if_neg (by omega)]
theorem z_up_eq {σ : z_M} {a i v : Int} : z_up σ a i v a i = v := by unfold z_up; rw [if_pos ⟨rfl, rfl⟩]
