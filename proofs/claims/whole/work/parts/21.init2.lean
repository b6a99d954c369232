section ZI2
variable {e : z_E} {d : Nat}
theorem z_k_kept : ∀ j : Nat, j < 101 → z_knd ((11 + 2 * j : Nat) : Int) = 2 ∧ z_knd ((11 + 2 * j + 1 : Nat) : Int) = 100025 := by decide +kernel
theorem s_S_loop {Ni : Nat} (hd : 2 ≤ d) (P : Int → Int → Prop) :
    ∀ (n j : Nat) (σ : z_M), n + j = 101 → z_q (11 + 2 * j) σ (fun k i => (P k i ∧ k < 7) ∨ (k = 8 ∧ (j : Int) ≤ i)) → z_X e false d m_S_init Ni 213 39 [some (z_R 7), some (z_I (j : Int))] [] (11 + 2 * j) σ (fun _ σ' => z_q 213 σ' (fun k i => P k i ∧ k < 7)) := by
  have k0 : z_knd 7 = 5 := by decide +kernel
  have k1 : z_knd 8 = 600101 := by decide +kernel
  intro n
  induction n with
  | zero =>
    intro j σ hj h
    obtain rfl : j = 101 := by omega
    refine b_S_init_39 ⟨fun _ => z_ckI (z_eqN (by omega)) ?_, fun w => by omega⟩
    refine z_q_w h (fun k i a1 a2 a3 a4 => ⟨fun w => Or.inl w, fun w w2 => ?_⟩)
    rcases w with w | ⟨w3, w4⟩
    · exact absurd w w2
    · subst w3
      rw [k1] at a4
      have a4 : i < 101 := a4
      omega
  | succ n ih =>
    intro j σ hj h
    obtain ⟨d', rfl⟩ : ∃ d', d = d' + 1 := ⟨d - 1, by omega⟩
    obtain ⟨f0, f1⟩ := z_k_kept j (by omega)
    have hσ : σ 7 0 = 8 := by
      refine ((h 7 0 (by omega) (by omega) (by omega) (by rw [k0]; show (0 : Int) < 11; omega)).2 (by omega)).trans ?_
      unfold z_m0; rw [k0]; rfl
    refine b_S_init_39 ⟨fun w => by omega, fun _ => z_ckI (z_oki (by omega) (by omega) k0) (z_ckI (z_alO f0 (by omega)) ⟨by omega, z_ckI (by simp; omega) ?_⟩)⟩
    refine z_Y_mono ?_ (s_K_init (by omega) (by omega) (by omega) (by omega) f0 f1 (fun k i => (P k i ∧ k < 7) ∨ (k = 8 ∧ (j : Int) ≤ i)) (z_q_w (z_q_nu h f0) (fun k i a1 a2 a3 a4 => ⟨fun w => w, fun w w2 => absurd w w2⟩)))
    intro r σ1 g1
    rw [hσ]
    refine z_ckI (z_arI (z_oki (by omega) (by omega) k1) (Or.inr trivial)) ⟨⟨by omega, by omega⟩, Or.inr (z_oki (by omega) (by omega) f0), by unfold z_ir; omega, ?_⟩
    rw [z_wr_id (by omega) (by omega), show ((j : Int) + 1) = ((j + 1 : Nat) : Int) by omega, show 11 + 2 * j + 1 + 1 = 11 + 2 * (j + 1) by omega]
    refine ih (j + 1) _ (by omega) ?_
    rw [show 11 + 2 * (j + 1) = 11 + 2 * j + 1 + 1 by omega]
    refine z_q_w (z_q_up g1 (by unfold z_m0; rw [k1]; show _ = 11 + 2 * (j : Int); omega)) (fun k i a1 a2 a3 a4 => ⟨fun w => ?_, fun w w2 => absurd ?_ w2⟩)
    · by_cases hP : P k i <;> simp only [hP, true_and, false_and, false_or] at w ⊢ <;> omega
    · by_cases hP : P k i <;> simp only [hP, true_and, false_and, false_or] at w ⊢ <;> omega
theorem s_S_init {σ : z_M} (hd : 2 ≤ d) (P : Int → Int → Prop) (h : z_q 8 σ (fun k i => (P k i ∧ k < 7) ∨ k = 7)) :
    z_Y e false (d + 1) m_S_init [z_R 7] 8 213 σ (fun _ σ' => z_q 213 σ' (fun k i => P k i ∧ k < 7)) := by
  have k0 : z_knd 7 = 5 := by decide +kernel
  have k1 : z_knd ((8 : Nat) : Int) = 600101 := by decide +kernel
  have k2 : z_knd ((8 + 1 : Nat) : Int) = 100101 := by decide +kernel
  have k3 : z_knd ((8 + 1 + 1 : Nat) : Int) = 601212 := by decide +kernel
  refine b_S_init_0 (by omega) ⟨by omega, by omega, rfl, z_ckI (z_alI k1 (by omega) rfl) (z_ckI (z_oki (by omega) (by omega) k0) ⟨rfl, by unfold z_ir; omega, rfl, z_ckI (z_alI k2 (by omega) rfl) (z_ckI (z_oki (by omega) (by omega) k0) ⟨rfl, by unfold z_ir; omega, z_ckI (z_oki (by omega) (by omega) k0) ⟨rfl, z_ckI (z_alI k3 (by omega) rfl) (z_ckI (z_oki (by omega) (by omega) k0) ⟨rfl, by unfold z_ir; omega, ?_⟩)⟩⟩)⟩)⟩
  refine s_S_loop hd P 101 0 _ rfl ?_
  refine z_q_w (z_q_up (z_q_nu (z_q_up (z_q_up (z_q_nu (z_q_up (z_q_nu h k1) (by unfold z_m0; rw [k0]; rfl)) k2) (by unfold z_m0; rw [k0]; rfl)) (by unfold z_m0; rw [k0]; rfl)) k3) (by unfold z_m0; rw [k0]; rfl)) (fun k i a1 a2 a3 a4 => ⟨fun w => ?_, fun w w2 => ?_⟩)
  · by_cases hP : P k i <;> simp only [hP, true_and, false_and, false_or] at w ⊢ <;> omega
  · by_cases hk : k = 7
    · subst hk
      unfold z_m0
      rw [k0] at a4 ⊢
      have a4 : i < 11 := a4
      have : ¬ i = 0 ∧ ¬ i = 1 ∧ ¬ i = 5 ∧ ¬ i = 10 := by
        by_cases hP : P 7 i <;> simp only [hP, true_and, false_and, false_or] at w <;> omega
      rcases (show i = 2 ∨ i = 3 ∨ i = 4 ∨ i = 6 ∨ i = 7 ∨ i = 8 ∨ i = 9 by omega) with rfl | rfl | rfl | rfl | rfl | rfl | rfl <;> rfl
    · unfold z_m0
      have : k = 9 ∨ k = 10 := by
        by_cases hP : P k i <;> simp only [hP, true_and, false_and, false_or] at w w2 <;> omega
      rcases this with rfl | rfl
      · rw [show z_knd 9 = 100101 from k2]; exact z_dm_arr (by omega) (by omega)
      · rw [show z_knd 10 = 601212 from k3]; rfl
end ZI2
