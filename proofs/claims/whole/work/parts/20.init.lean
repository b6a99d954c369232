/-! the constructors: the first memory -/
def z_nsl (kd : Nat) : Int := if kd < 100000 then (z_nf kd : Int) else ((kd % 100000 : Nat) : Int)
def z_m0k (kd : Nat) (a i : Int) : Int :=
  if kd < 100000 then (if kd = 5 ∧ i = 5 then 60 else if kd = 9 ∧ i = 24 then 60 else if kd = 9 ∧ i = 30 then 1 else if z_ft kd i.toNat = 2 then z_sr kd i.toNat a else if z_ft kd i.toNat = 1 then -1 else 0)
  else if kd < 300000 then 0 else if kd / 100000 = 6 then (if kd = 600101 then 11 + 2 * i else -1) else z_sa (kd / 100000) a i
def z_m0 (a i : Int) : Int := z_m0k (z_knd a) a i
/-- all cells below N hold what they hold in the end, but for what is yet to come -/
def z_q (N : Nat) (σ : z_M) (P : Int → Int → Prop) : Prop := ∀ (k i : Int), 0 ≤ k → k < (N : Int) → 0 ≤ i → i < z_nsl (z_knd k) → (P k i → σ k i = z_df (z_knd k) i) ∧ (¬ P k i → σ k i = z_m0 k i)
theorem z_q_nu {N kd : Nat} {σ : z_M} {P : Int → Int → Prop} (h : z_q N σ P) (hk : z_knd (N : Int) = kd) : z_q (N + 1) (z_nu σ (N : Int) kd) (fun k i => (P k i ∧ k < (N : Int)) ∨ k = (N : Int)) := by
  intro k i h1 h2 h3 h4
  unfold z_nu
  by_cases hn : k = (N : Int)
  · rw [if_pos hn]
    exact ⟨fun _ => by rw [hn, hk], fun w => absurd (Or.inr hn) w⟩
  · rw [if_neg hn]
    obtain ⟨g1, g2⟩ := h k i h1 (by omega) h3 h4
    exact ⟨fun w => g1 (w.resolve_right hn).1, fun w => g2 (fun q => w (Or.inl ⟨q, by omega⟩))⟩
theorem z_q_up {N : Nat} {σ : z_M} {P : Int → Int → Prop} {a j v : Int} (h : z_q N σ P) (hv : v = z_m0 a j) : z_q N (z_up σ a j v) (fun k i => P k i ∧ ¬ (k = a ∧ i = j)) := by
  intro k i h1 h2 h3 h4
  unfold z_up
  obtain ⟨g1, g2⟩ := h k i h1 h2 h3 h4
  by_cases hn : k = a ∧ i = j
  · rw [if_pos hn]
    exact ⟨fun w => absurd hn w.2, fun _ => by rw [hn.1, hn.2]; exact hv⟩
  · rw [if_neg hn]
    exact ⟨fun w => g1 w.1, fun w => g2 (fun q => w ⟨q, hn⟩)⟩
theorem z_q_w {N : Nat} {σ : z_M} {P P' : Int → Int → Prop} (h : z_q N σ P) (h2 : ∀ k i, 0 ≤ k → k < (N : Int) → 0 ≤ i → i < z_nsl (z_knd k) → (P' k i → P k i) ∧ (P k i → ¬ P' k i → z_df (z_knd k) i = z_m0 k i)) : z_q N σ P' := by
  intro k i a1 a2 a3 a4
  obtain ⟨g1, g2⟩ := h k i a1 a2 a3 a4
  obtain ⟨w1, w2⟩ := h2 k i a1 a2 a3 a4
  refine ⟨fun w => g1 (w1 w), fun w => ?_⟩
  by_cases hp : P k i
  · rw [g1 hp]; exact w2 hp w
  · exact g2 hp
theorem z_dm_arr {kd : Nat} {a i : Int} (h1 : ¬ kd < 100000) (h2 : kd < 300000) : z_df kd i = z_m0k kd a i := by
  unfold z_df z_m0k; rw [if_neg h1, if_pos h2, if_neg h1, if_pos h2]
theorem z_dm_obj {kd : Nat} {a i : Int} (h1 : kd < 100000) (h2 : z_ft kd i.toNat ≠ 2) (h3 : ¬ (kd = 5 ∧ i = 5)) (h4 : ¬ (kd = 9 ∧ i = 24)) (h5 : ¬ (kd = 9 ∧ i = 30)) (h6 : z_ft kd i.toNat ≤ 3) : z_df kd i = z_m0k kd a i := by
  unfold z_df z_m0k
  rw [if_pos h1, if_pos h1, if_neg h3, if_neg h4, if_neg h5, if_neg h2]
  by_cases h : z_ft kd i.toNat = 1
  · rw [if_pos h, if_neg (by omega)]
  · rw [if_neg h, if_pos (by omega)]
theorem z_oki {N kd : Nat} {x : Int} (h0 : 0 ≤ x) (h1 : x < (N : Int)) (hk : z_knd x = kd) : z_ok N kd x = true := by
  unfold z_ok; rw [hk]; simp [h0, h1]
theorem z_alI {N No kd n : Nat} (hk : z_knd (N : Int) = kd) (h1 : N + 1 ≤ No) (h2 : Nat.ble n 100000 = true) : (!false && (z_knd ((N : Nat) : Int) == kd) && Nat.ble (N + 1) No && Nat.ble n 100000) = true := by
  rw [hk, h2]; simp [h1]
theorem z_alO {N No kd : Nat} (hk : z_knd (N : Int) = kd) (h1 : N + 1 ≤ No) : (!false && (z_knd ((N : Nat) : Int) == kd) && Nat.ble (N + 1) No) = true := by
  rw [hk]; simp [h1]
theorem z_arI {b : Bool} {kd : Nat} (h : b = true) (hk : kd / 100000 = 6 ∨ True) : (b && (!false || kd / 100000 == 6)) = true := by subst h; rfl
theorem z_eqN {a b : Nat} (h : a = b) : (a == b) = true := by subst h; simp
section ZIN
variable {e : z_E} {d N : Nat} {x : Int} {σ : z_M}
theorem s_T_init (hd : 1 ≤ d) (hx : x = (N : Int) - 1) (h1 : 1 ≤ N) (hN : N < 740) (k0 : z_knd x = 6) (k1 : z_knd (N : Int) = 100100) (P : Int → Int → Prop) (h : z_q N σ (fun k i => (P k i ∧ k < x) ∨ k = x)) :
    z_Y e false (d + 1) m_T_init [z_R x] N (N + 1) σ (fun _ σ' => z_q (N + 1) σ' (fun k i => P k i ∧ k < x)) := by
  refine b_T_init_0 (by omega) ⟨hd, by omega, rfl, z_ckI (z_alI k1 (Nat.le_refl _) rfl) (z_ckI (z_oki (by omega) (by omega) k0) ⟨rfl, by unfold z_ir; omega, z_ckI (z_eqN rfl) ?_⟩)⟩
  refine z_q_w (z_q_up (z_q_nu h k1) (by unfold z_m0; rw [k0]; show (N : Int) = x + 1; omega)) (fun k i a1 a2 a3 a4 => ⟨fun w => ⟨Or.inl ⟨Or.inl w, by omega⟩, by omega⟩, fun w w2 => ?_⟩)
  obtain ⟨w3, w4⟩ := w
  unfold z_m0
  rcases w3 with ⟨w3 | w3, w5⟩ | w3
  · exact absurd w3 w2
  · subst w3
    rw [k0] at a4 ⊢
    have a4 : i < 3 := a4
    rcases (show i = 1 ∨ i = 2 by omega) with rfl | rfl <;> rfl
  · subst w3
    rw [k1]
    exact z_dm_arr (by omega) (by omega)
theorem s_K_init (hd : 1 ≤ d) (hx : x = (N : Int) - 1) (h1 : 1 ≤ N) (hN : N < 740) (k0 : z_knd x = 2) (k1 : z_knd (N : Int) = 100025) (P : Int → Int → Prop) (h : z_q N σ (fun k i => (P k i ∧ k < x) ∨ k = x)) :
    z_Y e false (d + 1) m_K_init [z_R x] N (N + 1) σ (fun _ σ' => z_q (N + 1) σ' (fun k i => P k i ∧ k < x)) := by
  refine b_K_init_0 (by omega) ⟨hd, by omega, rfl, z_ckI (z_alI k1 (Nat.le_refl _) rfl) (z_ckI (z_oki (by omega) (by omega) k0) ⟨rfl, by unfold z_ir; omega, z_ckI (z_eqN rfl) ?_⟩)⟩
  refine z_q_w (z_q_up (z_q_nu h k1) (by unfold z_m0; rw [k0]; show (N : Int) = x + 1; omega)) (fun k i a1 a2 a3 a4 => ⟨fun w => ⟨Or.inl ⟨Or.inl w, by omega⟩, by omega⟩, fun w w2 => ?_⟩)
  obtain ⟨w3, w4⟩ := w
  unfold z_m0
  rcases w3 with ⟨w3 | w3, w5⟩ | w3
  · exact absurd w3 w2
  · subst w3
    rw [k0] at a4 ⊢
    have a4 : i < 10 := a4
    rcases (show i = 1 ∨ i = 2 ∨ i = 3 ∨ i = 4 ∨ i = 5 ∨ i = 6 ∨ i = 7 ∨ i = 8 ∨ i = 9 by omega) with rfl | rfl | rfl | rfl | rfl | rfl | rfl | rfl | rfl <;> rfl
  · subst w3
    rw [k1]
    exact z_dm_arr (by omega) (by omega)
theorem s_F_init (hd : 1 ≤ d) (hx : x = (N : Int) - 1) (h1 : 1 ≤ N) (hN : N < 740) (k0 : z_knd x = 1) (k1 : z_knd (N : Int) = 100025) (k2 : z_knd ((N + 1 : Nat) : Int) = 100019) (P : Int → Int → Prop) (h : z_q N σ (fun k i => (P k i ∧ k < x) ∨ k = x)) :
    z_Y e false (d + 1) m_F_init [z_R x] N (N + 2) σ (fun _ σ' => z_q (N + 2) σ' (fun k i => P k i ∧ k < x)) := by
  refine b_F_init_0 (by omega) ⟨hd, by omega, rfl, z_ckI (z_alI k1 (by omega) rfl) (z_ckI (z_oki (by omega) (by omega) k0) ⟨rfl, by unfold z_ir; omega, rfl, z_ckI (z_alI k2 (Nat.le_refl _) rfl) (z_ckI (z_oki (by omega) (by omega) k0) ⟨rfl, by unfold z_ir; omega, z_ckI (z_eqN rfl) ?_⟩)⟩)⟩
  refine z_q_w (z_q_up (z_q_nu (z_q_up (z_q_nu h k1) (by unfold z_m0; rw [k0]; show (N : Int) = x + 1; omega)) k2) (by unfold z_m0; rw [k0]; show ((N + 1 : Nat) : Int) = x + 2; omega)) (fun k i a1 a2 a3 a4 => ⟨fun w => ⟨Or.inl ⟨⟨Or.inl ⟨Or.inl w, by omega⟩, by omega⟩, by omega⟩, by omega⟩, fun w w2 => ?_⟩)
  obtain ⟨w3, w4⟩ := w
  unfold z_m0
  rcases w3 with ⟨⟨⟨w3 | w3, w5⟩ | w3, w6⟩, w7⟩ | w3
  · exact absurd w3 w2
  · subst w3
    rw [k0] at a4 ⊢
    have a4 : i < 10 := a4
    rcases (show i = 2 ∨ i = 3 ∨ i = 4 ∨ i = 5 ∨ i = 6 ∨ i = 7 ∨ i = 8 ∨ i = 9 by omega) with rfl | rfl | rfl | rfl | rfl | rfl | rfl | rfl <;> rfl
  · subst w3
    rw [k1]
    exact z_dm_arr (by omega) (by omega)
  · subst w3
    rw [k2]
    exact z_dm_arr (by omega) (by omega)
theorem s_H_init (hd : 1 ≤ d) (P : Int → Int → Prop) (h : z_q 214 σ (fun k i => (P k i ∧ k < 213) ∨ k = 213)) :
    z_Y e false (d + 1) m_H_init [z_R 213] 214 216 σ (fun _ σ' => z_q 216 σ' (fun k i => P k i ∧ k < 213)) := by
  have k0 : z_knd 213 = 7 := by decide +kernel
  have k1 : z_knd ((214 : Nat) : Int) = 101212 := by decide +kernel
  have k2 : z_knd ((214 + 1 : Nat) : Int) = 101212 := by decide +kernel
  refine b_H_init_0 (by omega) ⟨hd, by omega, rfl, z_ckI (z_alI k1 (by omega) rfl) (z_ckI (z_oki (by omega) (by omega) k0) ⟨rfl, by unfold z_ir; omega, rfl, z_ckI (z_alI k2 (Nat.le_refl _) rfl) (z_ckI (z_oki (by omega) (by omega) k0) ⟨rfl, by unfold z_ir; omega, z_ckI (z_eqN rfl) ?_⟩)⟩)⟩
  refine z_q_w (z_q_up (z_q_nu (z_q_up (z_q_nu h k1) (by unfold z_m0; rw [k0]; rfl)) k2) (by unfold z_m0; rw [k0]; rfl)) (fun k i a1 a2 a3 a4 => ⟨fun w => ⟨Or.inl ⟨⟨Or.inl ⟨Or.inl w, by omega⟩, by omega⟩, by omega⟩, by omega⟩, fun w w2 => ?_⟩)
  obtain ⟨w3, w4⟩ := w
  unfold z_m0
  rcases w3 with ⟨⟨⟨w3 | w3, w5⟩ | w3, w6⟩, w7⟩ | w3
  · exact absurd w3 w2
  · subst w3
    rw [k0] at a4 ⊢
    have a4 : i < 3 := a4
    rcases (show i = 2 by omega) with rfl
    rfl
  · subst w3
    rw [k1]
    exact z_dm_arr (by omega) (by omega)
  · subst w3
    rw [k2]
    exact z_dm_arr (by omega) (by omega)
theorem s_R_init (hd : 2 ≤ d) (P : Int → Int → Prop) (h : z_q 4 σ (fun k i => (P k i ∧ k < 3) ∨ k = 3)) :
    z_Y e false (d + 1) m_R_init [z_R 3] 4 7 σ (fun _ σ' => z_q 7 σ' (fun k i => P k i ∧ k < 3)) := by
  have k0 : z_knd 3 = 3 := by decide +kernel
  have k1 : z_knd ((4 : Nat) : Int) = 100100 := by decide +kernel
  have k2 : z_knd ((4 + 1 : Nat) : Int) = 6 := by decide +kernel
  have k3 : z_knd ((4 + 1 + 1 : Nat) : Int) = 100100 := by decide +kernel
  obtain ⟨d', rfl⟩ : ∃ d', d = d' + 1 := ⟨d - 1, by omega⟩
  refine b_R_init_0 (by omega) ⟨by omega, by omega, rfl, z_ckI (z_alI k1 (by omega) rfl) (z_ckI (z_oki (by omega) (by omega) k0) ⟨rfl, by unfold z_ir; omega, z_ckI (z_alO k2 (by omega)) ⟨by omega, z_ckI rfl ?_⟩⟩)⟩
  refine z_Y_mono ?_ (s_T_init (by omega) (by omega) (by omega) (by omega) k2 k3 (fun k i => ((P k i ∧ k < 3) ∨ (k = 3 ∧ ¬ i = 0) ∨ k = 4)) (z_q_w (z_q_nu (z_q_up (z_q_nu h k1) (by unfold z_m0; rw [k0]; rfl)) k2) (fun k i a1 a2 a3 a4 => ⟨fun w => by by_cases hP : P k i <;> simp only [hP, true_and, false_and, false_or] at w ⊢ <;> omega, fun w w2 => absurd (by by_cases hP : P k i <;> simp only [hP, true_and, false_and, false_or] at w ⊢ <;> omega) w2⟩)))
  · intro r σ1 h1
    refine z_ckI (z_oki (by omega) (by omega) k0) ⟨rfl, by unfold z_ir; omega, z_ckI rfl ?_⟩
    refine z_q_w (z_q_up h1 (by unfold z_m0; rw [k0]; rfl)) (fun k i a1 a2 a3 a4 => ⟨fun w => ⟨⟨Or.inl w, by omega⟩, by omega⟩, fun w w2 => ?_⟩)
    unfold z_m0
    obtain ⟨⟨w3 | w3 | w3, w5⟩, w6⟩ := w
    · exact absurd w3 w2
    · obtain ⟨rfl, w7⟩ := w3
      rw [k0] at a4 ⊢
      have a4 : i < 6 := a4
      rcases (show i = 2 ∨ i = 3 ∨ i = 4 ∨ i = 5 by omega) with rfl | rfl | rfl | rfl <;> rfl
    · subst w3
      rw [show z_knd 4 = 100100 from k1]
      exact z_dm_arr (by omega) (by omega)
theorem s_U_loop {No Ni : Nat} (hd : 2 ≤ d) (hN : No = N + 91) (hN2 : No ≤ 740) (hx : x = (N : Int) - 1) (h1 : 1 ≤ N) (k0 : z_knd x = 4) (k1 : z_knd (N : Int) = 500030) (kf : ∀ j : Nat, j < 30 → z_knd ((N + 1 + 3 * j : Nat) : Int) = 1 ∧ z_knd ((N + 1 + 3 * j + 1 : Nat) : Int) = 100025 ∧ z_knd ((N + 1 + 3 * j + 2 : Nat) : Int) = 100019) (P : Int → Int → Prop) :
    ∀ (n j : Nat) (σ : z_M), n + j = 30 → z_q (N + 1 + 3 * j) σ (fun k i => (P k i ∧ k < x) ∨ (k = (N : Int) ∧ (j : Int) ≤ i)) → z_X e false d m_U_init Ni No 15 [some (z_R x), some (z_I (j : Int))] [] (N + 1 + 3 * j) σ (fun _ σ' => z_q No σ' (fun k i => P k i ∧ k < x)) := by
  intro n
  induction n with
  | zero =>
    intro j σ hj h
    obtain rfl : j = 30 := by omega
    refine b_U_init_15 ⟨fun _ => z_ckI (z_eqN (by omega)) ?_, fun w => by omega⟩
    rw [show No = N + 1 + 3 * 30 by omega]
    refine z_q_w h (fun k i a1 a2 a3 a4 => ⟨fun w => Or.inl w, fun w w2 => ?_⟩)
    rcases w with w | ⟨w3, w4⟩
    · exact absurd w w2
    · subst w3
      rw [k1] at a4
      have a4 : i < 30 := a4
      omega
  | succ n ih =>
    intro j σ hj h
    obtain ⟨d', rfl⟩ : ∃ d', d = d' + 1 := ⟨d - 1, by omega⟩
    obtain ⟨f0, f1, f2⟩ := kf j (by omega)
    have hσ : σ x 0 = (N : Int) := by
      refine ((h x 0 (by omega) (by omega) (by omega) (by rw [k0]; show (0 : Int) < 9; omega)).2 (by omega)).trans ?_
      unfold z_m0; rw [k0]; show x + 1 = _; omega
    refine b_U_init_15 ⟨fun w => by omega, fun _ => z_ckI (z_oki (by omega) (by omega) k0) (z_ckI (z_alO f0 (by omega)) ⟨by omega, z_ckI (by simp; omega) ?_⟩)⟩
    refine z_Y_mono ?_ (s_F_init (by omega) (by omega) (by omega) (by omega) f0 f1 f2 (fun k i => (P k i ∧ k < x) ∨ (k = (N : Int) ∧ (j : Int) ≤ i)) (z_q_w (z_q_nu h f0) (fun k i a1 a2 a3 a4 => ⟨fun w => w, fun w w2 => absurd w w2⟩)))
    intro r σ1 g1
    rw [hσ]
    refine z_ckI (z_arI (z_oki (by omega) (by omega) k1) (Or.inr trivial)) ⟨⟨by omega, by omega⟩, Or.inr (z_oki (by omega) (by omega) f0), by unfold z_ir; omega, ?_⟩
    rw [z_wr_id (by omega) (by omega), show ((j : Int) + 1) = ((j + 1 : Nat) : Int) by omega, show N + 1 + 3 * j + 1 + 2 = N + 1 + 3 * (j + 1) by omega]
    refine ih (j + 1) _ (by omega) ?_
    rw [show N + 1 + 3 * (j + 1) = N + 1 + 3 * j + 1 + 2 by omega]
    refine z_q_w (z_q_up g1 (by unfold z_m0; rw [k1]; show _ = (N : Int) + 1 + 3 * (j : Int); omega)) (fun k i a1 a2 a3 a4 => ⟨fun w => ?_, fun w w2 => absurd ?_ w2⟩)
    · by_cases hP : P k i <;> simp only [hP, true_and, false_and, false_or] at w ⊢ <;> omega
    · by_cases hP : P k i <;> simp only [hP, true_and, false_and, false_or] at w ⊢ <;> omega
theorem s_U_init (hd : 2 ≤ d) (hN : N + 91 ≤ 740) (hx : x = (N : Int) - 1) (h1 : 1 ≤ N) (k0 : z_knd x = 4) (k1 : z_knd (N : Int) = 500030) (kf : ∀ j : Nat, j < 30 → z_knd ((N + 1 + 3 * j : Nat) : Int) = 1 ∧ z_knd ((N + 1 + 3 * j + 1 : Nat) : Int) = 100025 ∧ z_knd ((N + 1 + 3 * j + 2 : Nat) : Int) = 100019) (P : Int → Int → Prop) (h : z_q N σ (fun k i => (P k i ∧ k < x) ∨ k = x)) :
    z_Y e false (d + 1) m_U_init [z_R x] N (N + 91) σ (fun _ σ' => z_q (N + 91) σ' (fun k i => P k i ∧ k < x)) := by
  refine b_U_init_0 (by omega) ⟨by omega, by omega, rfl, z_ckI (z_alI k1 (by omega) rfl) (z_ckI (z_oki (by omega) (by omega) k0) ⟨rfl, by unfold z_ir; omega, ?_⟩)⟩
  refine s_U_loop hd rfl hN hx h1 k0 k1 kf P 30 0 _ rfl ?_
  refine z_q_w (z_q_up (z_q_nu h k1) (by unfold z_m0; rw [k0]; show (N : Int) = x + 1; omega)) (fun k i a1 a2 a3 a4 => ⟨fun w => ?_, fun w w2 => ?_⟩)
  · by_cases hP : P k i <;> simp only [hP, true_and, false_and, false_or] at w ⊢ <;> omega
  · by_cases hk : k = x
    · subst hk
      unfold z_m0
      rw [k0] at a4 ⊢
      have a4 : i < 9 := a4
      have : ¬ i = 0 := by
        intro q; by_cases hP : P k i <;> simp only [hP, true_and, false_and, false_or] at w <;> omega
      rcases (show i = 1 ∨ i = 2 ∨ i = 3 ∨ i = 4 ∨ i = 5 ∨ i = 6 ∨ i = 7 ∨ i = 8 by omega) with rfl | rfl | rfl | rfl | rfl | rfl | rfl | rfl <;> rfl
    · exfalso
      by_cases hP : P k i <;> simp only [hP, true_and, false_and, false_or] at w w2 <;> omega
end ZIN
