section ZI3
variable {e : z_E} {d : Nat}
theorem z_k_text : ∀ j : Nat, j < 12 → z_knd ((309 + 2 * j : Nat) : Int) = 6 ∧ z_knd ((309 + 2 * j + 1 : Nat) : Int) = 100100 := by decide +kernel
theorem z_k_task : ∀ t : Nat, t < 4 → z_knd ((333 + 92 * t : Nat) : Int) = 4 ∧ z_knd ((333 + 92 * t + 1 : Nat) : Int) = 500030 ∧ ∀ j : Nat, j < 30 → z_knd ((333 + 92 * t + 1 + 1 + 3 * j : Nat) : Int) = 1 ∧ z_knd ((333 + 92 * t + 1 + 1 + 3 * j + 1 : Nat) : Int) = 100025 ∧ z_knd ((333 + 92 * t + 1 + 1 + 3 * j + 2 : Nat) : Int) = 100019 := by decide +kernel
theorem z_k_ask : ∀ j : Nat, j < 30 → z_knd ((217 + 1 + 3 * j : Nat) : Int) = 1 ∧ z_knd ((217 + 1 + 3 * j + 1 : Nat) : Int) = 100025 ∧ z_knd ((217 + 1 + 3 * j + 2 : Nat) : Int) = 100019 := by decide +kernel
theorem s_C_loop2 {Ni : Nat} (hd : 3 ≤ d) :
    ∀ (n j : Nat) (σ : z_M), n + j = 4 → z_q (333 + 92 * j) σ (fun k i => k = 308 ∧ (j : Int) ≤ i) → z_X e false d m_C_init Ni 701 102 [some (z_R 0), some (z_I (j : Int))] [] (333 + 92 * j) σ (fun _ σ' => z_q 701 σ' (fun _ _ => False)) := by
  have k0 : z_knd 0 = 8 := by decide +kernel
  have k1 : z_knd 308 = 400004 := by decide +kernel
  intro n
  induction n with
  | zero =>
    intro j σ hj h
    obtain rfl : j = 4 := by omega
    refine b_C_init_102 ⟨fun _ => z_ckI (z_eqN (by omega)) ?_, fun w => by omega⟩
    refine z_q_w h (fun k i a1 a2 a3 a4 => ⟨fun w => w.elim, fun w w2 => ?_⟩)
    obtain ⟨w3, w4⟩ := w
    subst w3
    rw [k1] at a4
    have a4 : i < 4 := a4
    omega
  | succ n ih =>
    intro j σ hj h
    obtain ⟨d', rfl⟩ : ∃ d', d = d' + 1 := ⟨d - 1, by omega⟩
    obtain ⟨f0, f1, f2⟩ := z_k_task j (by omega)
    have hσ : σ 0 6 = 308 := by
      refine ((h 0 6 (by omega) (by omega) (by omega) (by rw [k0]; show (6 : Int) < 13; omega)).2 (by omega)).trans ?_
      unfold z_m0; rw [k0]; rfl
    refine b_C_init_102 ⟨fun w => by omega, fun _ => z_ckI (z_oki (by omega) (by omega) k0) (z_ckI (z_alO f0 (by omega)) ⟨by omega, z_ckI (by simp; omega) ?_⟩)⟩
    refine z_Y_mono ?_ (s_U_init (by omega) (by omega) (by omega) (by omega) f0 f1 f2 (fun k i => k = 308 ∧ (j : Int) ≤ i) (z_q_w (z_q_nu h f0) (fun k i a1 a2 a3 a4 => ⟨fun w => by omega, fun w w2 => absurd (by omega) w2⟩)))
    intro r σ1 g1
    rw [hσ]
    refine z_ckI (z_arI (z_oki (by omega) (by omega) k1) (Or.inr trivial)) ⟨⟨by omega, by omega⟩, Or.inr (z_oki (by omega) (by omega) f0), by unfold z_ir; omega, ?_⟩
    rw [z_wr_id (by omega) (by omega), show ((j : Int) + 1) = ((j + 1 : Nat) : Int) by omega, show 333 + 92 * j + 1 + 91 = 333 + 92 * (j + 1) by omega]
    refine ih (j + 1) _ (by omega) ?_
    rw [show 333 + 92 * (j + 1) = 333 + 92 * j + 1 + 91 by omega]
    refine z_q_w (z_q_up g1 (by unfold z_m0; rw [k1]; show _ = 333 + 92 * (j : Int); omega)) (fun k i a1 a2 a3 a4 => ⟨fun w => by omega, fun w w2 => absurd (by omega) w2⟩)
theorem s_C_loop1 {Ni : Nat} (hd : 3 ≤ d) :
    ∀ (n j : Nat) (σ : z_M), n + j = 12 → z_q (309 + 2 * j) σ (fun k i => (k = 2 ∧ (j : Int) ≤ i) ∨ k = 308) → z_X e false d m_C_init Ni 701 75 [some (z_R 0), some (z_I (j : Int))] [] (309 + 2 * j) σ (fun _ σ' => z_q 701 σ' (fun _ _ => False)) := by
  have k0 : z_knd 0 = 8 := by decide +kernel
  have k1 : z_knd 2 = 300012 := by decide +kernel
  intro n
  induction n with
  | zero =>
    intro j σ hj h
    obtain rfl : j = 12 := by omega
    refine b_C_init_75 ⟨fun _ => ?_, fun w => by omega⟩
    refine s_C_loop2 hd 4 0 σ rfl (z_q_w h (fun k i a1 a2 a3 a4 => ⟨fun w => by omega, fun w w2 => ?_⟩))
    rcases w with ⟨w3, w4⟩ | w
    · subst w3
      rw [k1] at a4
      have a4 : i < 12 := a4
      omega
    · omega
  | succ n ih =>
    intro j σ hj h
    obtain ⟨d', rfl⟩ : ∃ d', d = d' + 1 := ⟨d - 1, by omega⟩
    obtain ⟨f0, f1⟩ := z_k_text j (by omega)
    have hσ : σ 0 1 = 2 := by
      refine ((h 0 1 (by omega) (by omega) (by omega) (by rw [k0]; show (1 : Int) < 13; omega)).2 (by omega)).trans ?_
      unfold z_m0; rw [k0]; rfl
    refine b_C_init_75 ⟨fun w => by omega, fun _ => z_ckI (z_oki (by omega) (by omega) k0) (z_ckI (z_alO f0 (by omega)) ⟨by omega, z_ckI (by simp; omega) ?_⟩)⟩
    refine z_Y_mono ?_ (s_T_init (by omega) (by omega) (by omega) (by omega) f0 f1 (fun k i => (k = 2 ∧ (j : Int) ≤ i) ∨ k = 308) (z_q_w (z_q_nu h f0) (fun k i a1 a2 a3 a4 => ⟨fun w => by omega, fun w w2 => absurd (by omega) w2⟩)))
    intro r σ1 g1
    rw [hσ]
    refine z_ckI (z_arI (z_oki (by omega) (by omega) k1) (Or.inr trivial)) ⟨⟨by omega, by omega⟩, Or.inr (z_oki (by omega) (by omega) f0), by unfold z_ir; omega, ?_⟩
    rw [z_wr_id (by omega) (by omega), show ((j : Int) + 1) = ((j + 1 : Nat) : Int) by omega, show 309 + 2 * j + 1 + 1 = 309 + 2 * (j + 1) by omega]
    refine ih (j + 1) _ (by omega) ?_
    rw [show 309 + 2 * (j + 1) = 309 + 2 * j + 1 + 1 by omega]
    refine z_q_w (z_q_up g1 (by unfold z_m0; rw [k1]; show _ = 309 + 2 * (j : Int); omega)) (fun k i a1 a2 a3 a4 => ⟨fun w => by omega, fun w w2 => absurd (by omega) w2⟩)
theorem s_C_init {σ : z_M} (hd : 4 ≤ d) (h : z_q 1 σ (fun k _ => k = 0)) :
    z_Y e false (d + 1) m_C_init [z_R 0] 1 701 σ (fun _ σ' => z_q 701 σ' (fun _ _ => False)) := by
  have k0 : z_knd 0 = 8 := by decide +kernel
  have k1 : z_knd ((1 : Nat) : Int) = 100012 := by decide +kernel
  have k2 : z_knd ((1 + 1 : Nat) : Int) = 300012 := by decide +kernel
  have k3 : z_knd ((1 + 1 + 1 : Nat) : Int) = 3 := by decide +kernel
  have k7 : z_knd ((1 + 1 + 1 + 1 + 3 : Nat) : Int) = 5 := by decide +kernel
  have k213 : z_knd ((1 + 1 + 1 + 1 + 3 + 1 + 205 : Nat) : Int) = 7 := by decide +kernel
  have k216 : z_knd ((1 + 1 + 1 + 1 + 3 + 1 + 205 + 1 + 2 : Nat) : Int) = 4 := by decide +kernel
  have k217 : z_knd ((217 : Nat) : Int) = 500030 := by decide +kernel
  have k308 : z_knd ((1 + 1 + 1 + 1 + 3 + 1 + 205 + 1 + 2 + 1 + 91 : Nat) : Int) = 400004 := by decide +kernel
  obtain ⟨d', rfl⟩ : ∃ d', d = d' + 1 := ⟨d - 1, by omega⟩
  refine b_C_init_0 (by omega) ⟨by omega, by omega, rfl, z_ckI (z_alI k1 (by omega) rfl) (z_ckI (z_oki (by omega) (by omega) k0) ⟨rfl, by unfold z_ir; omega, rfl, z_ckI (z_alI k2 (by omega) rfl) (z_ckI (z_oki (by omega) (by omega) k0) ⟨rfl, by unfold z_ir; omega, z_ckI (z_alO k3 (by omega)) ⟨by omega, z_ckI (by simp) ?_⟩⟩)⟩)⟩
  refine z_Y_mono ?_ (s_R_init (by omega) (fun k i => (k = 0 ∧ ¬ i = 0 ∧ ¬ i = 1) ∨ k = 2) (z_q_w (z_q_nu (z_q_up (z_q_nu (z_q_up (z_q_nu h k1) (by unfold z_m0; rw [k0]; rfl)) k2) (by unfold z_m0; rw [k0]; rfl)) k3) (fun k i a1 a2 a3 a4 => ⟨fun w => by omega, fun w w2 => ?_⟩)))
  · intro r σ1 g1
    refine z_ckI (z_oki (by omega) (by omega) k0) ⟨rfl, by unfold z_ir; omega, z_ckI (z_alO k7 (by omega)) ⟨by omega, z_ckI (by simp) ?_⟩⟩
    refine z_Y_mono ?_ (s_S_init (by omega) (fun k i => (k = 0 ∧ ¬ i = 0 ∧ ¬ i = 1 ∧ ¬ i = 2) ∨ k = 2) (z_q_w (z_q_nu (z_q_up g1 (by unfold z_m0; rw [k0]; rfl)) k7) (fun k i a1 a2 a3 a4 => ⟨fun w => by omega, fun w w2 => absurd (by omega) w2⟩)))
    intro r σ2 g2
    refine z_ckI (z_oki (by omega) (by omega) k0) ⟨rfl, by unfold z_ir; omega, z_ckI (z_alO k213 (by omega)) ⟨by omega, z_ckI (by simp) ?_⟩⟩
    refine z_Y_mono ?_ (s_H_init (by omega) (fun k i => (k = 0 ∧ ¬ i = 0 ∧ ¬ i = 1 ∧ ¬ i = 2 ∧ ¬ i = 3) ∨ k = 2) (z_q_w (z_q_nu (z_q_up g2 (by unfold z_m0; rw [k0]; rfl)) k213) (fun k i a1 a2 a3 a4 => ⟨fun w => by omega, fun w w2 => absurd (by omega) w2⟩)))
    intro r σ3 g3
    refine z_ckI (z_oki (by omega) (by omega) k0) ⟨rfl, by unfold z_ir; omega, z_ckI (z_alO k216 (by omega)) ⟨by omega, z_ckI (by simp) ?_⟩⟩
    refine z_Y_mono ?_ (s_U_init (N := 217) (by omega) (by omega) (by omega) (by omega) k216 k217 z_k_ask (fun k i => (k = 0 ∧ ¬ i = 0 ∧ ¬ i = 1 ∧ ¬ i = 2 ∧ ¬ i = 3 ∧ ¬ i = 4) ∨ k = 2) (z_q_w (z_q_nu (z_q_up g3 (by unfold z_m0; rw [k0]; rfl)) k216) (fun k i a1 a2 a3 a4 => ⟨fun w => by omega, fun w w2 => absurd (by omega) w2⟩)))
    intro r σ4 g4
    refine z_ckI (z_oki (by omega) (by omega) k0) ⟨rfl, by unfold z_ir; omega, rfl, z_ckI (z_alI k308 (by omega) rfl) (z_ckI (z_oki (by omega) (by omega) k0) ⟨rfl, by unfold z_ir; omega, ?_⟩)⟩
    refine s_C_loop1 (by omega) 12 0 _ rfl ?_
    refine z_q_w (z_q_up (z_q_nu (z_q_up g4 (by unfold z_m0; rw [k0]; rfl)) k308) (by unfold z_m0; rw [k0]; rfl)) (fun k i a1 a2 a3 a4 => ⟨fun w => by omega, fun w w2 => ?_⟩)
    have hk : k = 0 := by omega
    subst hk
    unfold z_m0
    rw [k0] at a4 ⊢
    have a4 : i < 13 := a4
    rcases (show i = 7 ∨ i = 8 ∨ i = 9 ∨ i = 10 ∨ i = 11 ∨ i = 12 by omega) with rfl | rfl | rfl | rfl | rfl | rfl <;> rfl
  · have hk : k = 1 := by omega
    subst hk
    unfold z_m0
    rw [show z_knd 1 = 100012 from k1]
    exact z_dm_arr (by omega) (by omega)
end ZI3
