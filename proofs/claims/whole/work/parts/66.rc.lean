/-! what holds between calls; the calls that ask -/
def z_RCs (n : Nat) (s t : z_M) : Prop := z_cA s t ∧ (∀ q, 0 ≤ q → q < 4 → z_cR false s t q ∧ s (z_ru q) 1 = 0) ∧ z_MX t 4 ∧ t 701 21 ≤ 3000 * (n : Int) ∧ (0 ≤ s 213 2 ∧ s 213 2 ≤ (n : Int) ∧ ∀ k, 0 ≤ k → k < 1212 → s 215 k ≤ s 213 2)
def z_Inv (n : Nat) (σ : z_M) : Prop := z_RCs n σ σ
theorem z_gl_same (σ : z_M) : z_gl σ σ = σ := by
  funext a i
  unfold z_gl
  split <;> rfl
theorem z_RCs_gl {n : Nat} {s t : z_M} (h : z_RCs n s t) : z_Inv n (z_gl s t) := by
  obtain ⟨⟨hT, hS, hN, hB⟩, ho, hx, hc, h1, h2, h3⟩ := h
  have lo : ∀ a i, a < 701 → z_gl s t a i = s a i := fun a i x => z_gl_lo x
  have hi : ∀ a i, 701 ≤ a → z_gl s t a i = t a i := fun a i x => z_gl_hi x
  have hm : z_me t (z_gl s t) := by refine ⟨?_, ?_, ?_⟩ <;> (funext i; exact hi _ _ (by omega))
  refine ⟨⟨z_cT_c (fun a i x => lo a i (by omega)) hm hT, z_cS_c (fun a i x y _ => lo a i (by omega)) (fun i _ _ _ => lo _ _ (by omega)) (fun a i x y => hi a i (by omega)) (fun i _ _ => hi _ _ (by omega)) hS, z_cN_c (fun i _ _ => lo _ _ (by omega)) (fun a i x => lo _ _ (by omega)) (fun a i x => hi _ _ (by omega)) hN, by rw [hi _ _ (by omega), hi _ _ (by omega), hi _ _ (by omega)]; exact hB⟩, fun q q0 q1 => ?_, ?_, by rw [hi _ _ (by omega)]; exact hc, by rw [lo _ _ (by omega)]; exact h1, by rw [lo _ _ (by omega)]; exact h2, fun k k0 k1 => by rw [lo _ _ (by omega), lo _ _ (by omega)]; exact h3 k k0 k1⟩
  · have hr := z_ru_rng (r := q) q0 (by omega)
    obtain ⟨⟨oG, oV⟩, ok⟩ := ho q q0 q1
    exact ⟨⟨z_cG_c (lo _ _ (by omega)) (lo _ _ (by omega)) (fun a i x y => lo a i (by omega)) (hi _ _ (by omega)) (hi _ _ (by omega)) (fun f _ _ => z_fe_of fun a i _ _ => hi a i (by omega)) oG, z_cV_c oV (fun i => lo _ _ (by omega)) (fun a _ _ => hi _ _ (by omega))⟩, by rw [lo _ _ (by omega)]; exact ok⟩
  · exact z_MX_eq hm hx (fun a k _ _ _ _ _ => hi a k (by omega)) (hi _ _ (by omega)) (hi _ _ (by omega)) (hi _ _ (by omega)) (hi _ _ (by omega)) (hi _ _ (by omega)) (fun q _ _ _ => ⟨fun a _ _ _ => hi a q (by omega), fun f _ _ => z_fe_of fun a i _ _ => hi a i (by omega)⟩)
theorem z_RCs_up {n : Nat} {s t : z_M} (h : z_RCs n s t) : z_RCs (n + 1) s t := by
  obtain ⟨a, b, c, d, e1, e2, e3⟩ := h
  exact ⟨a, b, c, by omega, e1, by omega, e3⟩
theorem z_RCs_K {n : Nat} {s t : z_M} (h : z_RCs n s t) : (s 7 2 = t 701 23 ∧ s 7 2 ≤ 100) ∧ ∀ k, 0 ≤ k → k < 1212 → (t 707 k = 0 → s 10 k = -1) ∧ (¬ t 707 k = 0 → z_isK (s 10 k) ∧ z_cW s t (s 10 k) k ∧ z_KR t k) := by
  obtain ⟨⟨hT, hS, hN, hB⟩, ho, hx, -⟩ := h
  have h1 := z_sums_rng (z_sumx_to hx.2.1 (by rw [hB.1]; decide))
  have h3 := hx.2.2.1
  obtain ⟨⟨a1, a2, a3, a4⟩, a5, ⟨a6, a7⟩, a8, a9, a10⟩ := hS
  refine ⟨⟨a1, by omega⟩, fun k k0 k1 => ⟨(a9 k k0 k1).1, fun q => ?_⟩⟩
  obtain ⟨i, i0, i1, i2⟩ := (a9 k k0 k1).2 q
  obtain ⟨d1, d2, d3, d4⟩ := a8 i i0 i1
  rw [i2] at d3 d4
  rw [d3]
  exact ⟨a6 i i0 (by omega), d4, hx.2.2.2.2.1.1 k k0 k1 q⟩
section RC
variable {e : z_E} {n : Nat} {s t : z_M}
theorem z2_cell {k : Int} (h : z_RCs n s t) : z_two e n z_Inv m_C_cell m_M_cell [z_I k] (z_gl s t) := by
  have inv := z_RCs_gl (z_RCs_up h)
  refine b_C_cell_0 (d := 999) (s_C_within (d := 998) (fun a b => ⟨fun z => by omega, fun _ => ⟨⟨a, b⟩, ?_⟩⟩) (fun w => ⟨fun _ => ?_, fun z => absurd rfl z⟩))
  · refine b_M_cell_0 (d := 999) (s_M_in (d := 998) (fun _ _ => ⟨fun z => by omega, fun _ => ⟨⟨a, b⟩, ?_⟩⟩) (fun w => by omega))
    rw [z_gl_lo (by omega), z_gl_hi (by omega)]
    exact ⟨h.1.1.1 k a b, inv⟩
  · exact b_M_cell_0 (d := 999) (s_M_in (d := 998) (fun _ _ => by omega) (fun _ => ⟨fun _ => ⟨rfl, inv⟩, fun z => absurd rfl z⟩))
theorem z2_steps (h : z_RCs n s t) : z_two e n z_Inv m_C_steps m_M_steps [] (z_gl s t) := by
  have inv := z_RCs_gl (z_RCs_up h)
  refine b_C_steps_0 (d := 999) (b_M_steps_0 (d := 999) ⟨?_, inv⟩)
  rw [z_gl_lo (by omega), z_gl_hi (by omega)]
  exact h.1.2.2.1.1.2.2.2.2.2.2.2.2
theorem s_M_isKeyT {e : z_E} {d : Nat} {k : Int} {σ : z_M} {Q : Int → z_M → Prop} (h1 : 0 ≤ k → k < 1212 → Q 1 σ) (h0 : ¬ (0 ≤ k ∧ k < 1212) → Q 0 σ) : z_C e (d + 2) m_M_isKey [z_J k] σ Q := s_M_isKey h1 h0
theorem z2_kept {k w : Int} (h : z_RCs n s t) : z_two e n z_Inv m_C_kept m_M_kept [z_I k, z_I w] (z_gl s t) := by
  have inv := z_RCs_gl (z_RCs_up h)
  have hK := (z_RCs_K h).2
  refine b_C_kept_0 (d := 999) (s_C_within (d := 998) (fun a b => ⟨fun z => by omega, fun _ => ?_⟩) (fun q => ⟨fun _ => ?_, fun z => absurd rfl z⟩))
  · have bad : ¬ (0 ≤ w ∧ w ≤ 6) → z_C e 1000 m_M_kept [z_R 701, z_I k, z_I w] (z_gl s t) (fun r2 σ2 => -20001 = r2 ∧ z_Inv (n + 1) σ2) := fun q =>
      b_M_kept_0 (d := 999) (s_M_isKey (d := 997) (fun _ _ => ⟨fun z => by omega, fun _ => s_M_in (d := 998) (fun x y => absurd ⟨x, y⟩ q) (fun _ => ⟨fun z => absurd rfl z, fun _ => ⟨rfl, inv⟩⟩)⟩) (fun q2 => by omega))
    refine ⟨fun q => bad (by omega), fun w0 => ⟨fun w1 => s_S_find (d := 998) a b ?_, fun q => bad (by omega)⟩⟩
    obtain ⟨h0, h1⟩ := hK k a b
    have good : ∀ x, (¬ t 707 k = 0 → (w = 0 → x = t 708 k) ∧ (w = 1 → x = t 709 k) ∧ (w = 2 → x = t 710 k) ∧ (w = 3 → x = t 711 k) ∧ (w = 4 → x = t 712 k) ∧ (w = 5 → x = t 715 k) ∧ (w = 6 → x = t 713 k)) → (t 707 k = 0 → x = -20002) → z_C e 1000 m_M_kept [z_R 701, z_I k, z_I w] (z_gl s t) (fun r2 σ2 => x = r2 ∧ z_Inv (n + 1) σ2) := fun x q1 q2 => by
      refine b_M_kept_0 (d := 999) (s_M_isKey (d := 997) (fun _ _ => ⟨fun z => by omega, fun _ => s_M_in (d := 998) (fun _ _ => ⟨fun _ => ⟨⟨a, b⟩, ?_⟩, fun z => by omega⟩) (fun q => by omega)⟩) (fun q => by omega))
      simp (disch := omega) only [z_gl_hi]
      refine ⟨fun q => ?_, fun q => ⟨q2 q, inv⟩⟩
      obtain ⟨y0, y1, y2, y3, y4, y5, y6⟩ := q1 q
      exact ⟨fun v => ⟨⟨a, b⟩, y0 v, inv⟩, fun v0 => ⟨fun v => ⟨⟨a, b⟩, y1 v, inv⟩, fun v1 => ⟨fun v => ⟨⟨a, b⟩, y2 v, inv⟩, fun v2 => ⟨fun v => ⟨⟨a, b⟩, y3 v, inv⟩, fun v3 => ⟨fun v => ⟨⟨a, b⟩, y4 v, inv⟩, fun v4 => ⟨fun v => ⟨⟨a, b⟩, y5 v, inv⟩, fun v5 => ⟨⟨a, b⟩, y6 (by omega), inv⟩⟩⟩⟩⟩⟩⟩
    refine ⟨fun q => ?_, fun q => good _ (fun z => ?_) (fun _ => rfl)⟩
    · have hk : ¬ t 707 k = 0 := fun z => by have := h0 z; omega
      obtain ⟨⟨x1, x2, x3, x4, x5⟩, ⟨v1, v2, v3, v4, v5, v6, v7, v8, v9⟩, -⟩ := h1 hk
      simp only [x1, z_ckT]
      refine b_K_tell_0 (d := 998) ?_
      simp (disch := omega) only [x1, z_ckT, z_gl_lo, v2, v3, v4, v5, v6, v7, v8]
      exact ⟨fun y => good _ (fun _ => by omega) (fun z => absurd z hk), fun y0 => ⟨fun y => good _ (fun _ => by omega) (fun z => absurd z hk), fun y1 => ⟨fun y => good _ (fun _ => by omega) (fun z => absurd z hk), fun y2 => ⟨fun y => good _ (fun _ => by omega) (fun z => absurd z hk), fun y3 => ⟨fun y => good _ (fun _ => by omega) (fun z => absurd z hk), fun y4 => ⟨fun y => good _ (fun _ => by omega) (fun z => absurd z hk), fun y5 => good _ (fun _ => by omega) (fun z => absurd z hk)⟩⟩⟩⟩⟩⟩
    · obtain ⟨⟨-, -, x3, -⟩, -⟩ := h1 z
      omega
  · exact b_M_kept_0 (d := 999) (s_M_isKey (d := 997) (fun _ _ => by omega) (fun _ => ⟨fun _ => ⟨rfl, inv⟩, fun z => absurd rfl z⟩))
theorem z2_asked {k w : Int} (hw : z_ir w) (h : z_RCs n s t) : z_two e n z_Inv m_C_asked m_M_asked [z_I k, z_I w] (z_gl s t) := by
  have inv := z_RCs_gl (z_RCs_up h)
  have hK := (z_RCs_K h).2
  have hT := h.2.2.1.1
  refine b_C_asked_0 (d := 999) (s_C_within (d := 998) (fun a b => ⟨fun z => by omega, fun _ => ⟨fun w0 => s_S_find (d := 998) a b ?_, fun w0 => ?_⟩⟩) (fun q => ⟨fun _ => ?_, fun z => absurd rfl z⟩))
  · obtain ⟨h0, h1⟩ := hK k a b
    have good : ∀ x, (t 707 k = 0 ∨ t 715 k ≤ w → x = -20002) → (¬ t 707 k = 0 → w < t 715 k → x = t 716 (32 * k + w)) → z_C e 1000 m_M_asked [z_R 701, z_I k, z_I w] (z_gl s t) (fun r2 σ2 => x = r2 ∧ z_Inv (n + 1) σ2) := fun x q1 q2 => by
      refine b_M_asked_0 (d := 999) (s_M_isKey (d := 997) (fun _ _ => ⟨fun z => by omega, fun _ => ⟨fun _ => ⟨⟨a, b⟩, ?_⟩, fun z => by omega⟩⟩) (fun q => by omega))
      simp (disch := omega) only [z_gl_hi]
      refine ⟨fun q => ⟨q1 (Or.inl q), inv⟩, fun q => ⟨⟨a, b⟩, fun q3 => ⟨q1 (Or.inr q3), inv⟩, fun q3 => ?_⟩⟩
      have h25 := (z_KR_sz hT a b (h1 q).2.2).1
      rw [z_wr_id (x := 32 * k) (by omega) (by omega), z_wr_id (by omega) (by omega)]
      exact ⟨by omega, q2 q q3, inv⟩
    refine ⟨fun q => good _ (fun _ => rfl) (fun z => ?_), fun q => ?_⟩
    · obtain ⟨⟨-, -, x3, -⟩, -⟩ := h1 z
      omega
    · have hk : ¬ t 707 k = 0 := fun z => by have := h0 z; omega
      obtain ⟨⟨x1, x2, x3, x4, x5⟩, ⟨v1, v2, v3, v4, v5, v6, v7, v8, v9⟩, hr⟩ := h1 hk
      have h25 := (z_KR_sz hT a b hr).1
      simp (disch := omega) only [x1, x2, z_ckT, z_gl_lo, v8]
      refine ⟨fun q2 => ⟨by omega, ?_⟩, fun q2 => good _ (fun _ => rfl) (fun _ q3 => by omega)⟩
      exact good _ (fun q3 => by omega) (fun _ _ => v9 w w0 q2)
  · exact b_M_asked_0 (d := 999) (s_M_isKey (d := 997) (fun _ _ => ⟨fun z => by omega, fun _ => ⟨fun z => by omega, fun _ => ⟨rfl, inv⟩⟩⟩) (fun q => by omega))
  · exact b_M_asked_0 (d := 999) (s_M_isKey (d := 997) (fun _ _ => by omega) (fun _ => ⟨fun _ => ⟨rfl, inv⟩, fun z => absurd rfl z⟩))
theorem z2_wave {i : Int} (h : z_RCs n s t) : z_two e n z_Inv m_C_wave m_M_wave [z_I i] (z_gl s t) := by
  have inv := z_RCs_gl (z_RCs_up h)
  obtain ⟨l1, l2, l3⟩ := h.1.2.2.1.2.2
  refine b_C_wave_0 (d := 999) ?_
  simp (disch := omega) only [z_gl_lo]
  refine ⟨fun w => ⟨fun w2 => ?_, fun w2 => ⟨by omega, ?_⟩⟩, fun w => ?_⟩
  all_goals
    refine b_M_wave_0 (d := 999) ?_
    simp (disch := omega) only [z_gl_hi]
  · exact ⟨fun _ => ⟨fun _ => ⟨trivial, inv⟩, fun z => by omega⟩, fun z => by omega⟩
  · exact ⟨fun _ => ⟨fun z => by omega, fun _ => ⟨by omega, l3 i w (by omega), inv⟩⟩, fun z => by omega⟩
  · exact ⟨fun z => by omega, fun _ => ⟨trivial, inv⟩⟩
theorem z2_next (h : z_RCs n s t) : z_two e n z_Inv m_C_next m_M_next [] (z_gl s t) := by
  have inv := z_RCs_gl (z_RCs_up h)
  have hS := h.1.2.1
  obtain ⟨⟨hn, hn2⟩, -⟩ := z_RCs_K h
  refine b_C_next_0 (d := 999) ?_
  simp (disch := omega) only [z_gl_lo]
  refine ⟨fun w => s_S_leastWorth (d := 997) hS (by have := hS.2.1; omega) (fun p p0 p1 p2 => ⟨by omega, ?_⟩), fun w => ?_⟩
  · obtain ⟨x1, x2, x3, x4, x5⟩ := hS.2.2.1.1 p p0 (by omega)
    simp (disch := omega) only [z_gl_lo, x1, z_ckT]
    refine b_M_next_0 (d := 999) ?_
    simp (disch := omega) only [z_gl_hi]
    exact ⟨fun _ => s_M_leastF (d := 997) ⟨p2, inv⟩, fun z => by omega⟩
  · refine b_M_next_0 (d := 999) ?_
    simp (disch := omega) only [z_gl_hi]
    exact ⟨fun z => by omega, fun _ => ⟨trivial, inv⟩⟩
theorem z2_led {k : Int} (h : z_RCs n s t) : z_two e n z_Inv m_C_led m_M_led [z_I k] (z_gl s t) := by
  have inv := z_RCs_gl (z_RCs_up h)
  obtain ⟨n1, n2, n3, n4, n5, n6, n7, n8, n9⟩ := h.1.2.2.1.1
  have good : ∀ x, 0 ≤ k → k ≤ 6 → x = t 717 k → z_C e 1000 m_M_led [z_R 701, z_I k] (z_gl s t) (fun r2 σ2 => x = r2 ∧ z_Inv (n + 1) σ2) := fun x a b q =>
    b_M_led_0 (d := 999) (s_M_in (d := 998) (fun _ _ => ⟨fun z => by omega, fun _ => ⟨by omega, by rw [z_gl_hi (by omega)]; exact ⟨q, inv⟩⟩⟩) (fun z => absurd ⟨a, b⟩ z))
  refine b_C_led_0 (d := 999) ?_
  simp (disch := omega) only [z_gl_lo]
  refine ⟨fun q => good _ (by omega) (by omega) (by rw [q]; exact n2), fun q0 => ⟨fun q => good _ (by omega) (by omega) (by rw [q]; exact n3), fun q1 => ⟨fun q => good _ (by omega) (by omega) (by rw [q]; exact n4), fun q2 => ⟨fun q => good _ (by omega) (by omega) (by rw [q]; exact n5), fun q3 => ⟨fun q => good _ (by omega) (by omega) (by rw [q]; exact n6), fun q4 => ⟨fun q => good _ (by omega) (by omega) (by rw [q]; exact n7), fun q5 => ⟨fun q => good _ (by omega) (by omega) (by rw [q]; exact n8), fun q6 => ?_⟩⟩⟩⟩⟩⟩⟩
  exact b_M_led_0 (d := 999) (s_M_in (d := 998) (fun _ _ => by omega) (fun _ => ⟨fun _ => ⟨rfl, inv⟩, fun z => absurd rfl z⟩))
theorem s_C_isKey {e : z_E} {d : Nat} {r a : Int} {σ : z_M} {Q : Int → z_M → Prop} (h1 : 0 ≤ r → r < 12 → -50 ≤ a → a ≤ 50 → Q 1 σ) (h0 : ¬ ((0 ≤ r ∧ r < 12) ∧ -50 ≤ a ∧ a ≤ 50) → Q 0 σ) : z_C e (d + 2) m_C_isKey [z_I r, z_I a] σ Q :=
  b_C_isKey_0 (s_C_within (d := d) (fun x y => ⟨fun z => by omega, fun _ => s_C_isArgument (d := d) (fun v w => ⟨fun z => by omega, fun _ => h1 x y v w⟩) (fun q => ⟨fun _ => h0 (by omega), fun z => absurd rfl z⟩)⟩) (fun q => ⟨fun _ => h0 (by omega), fun z => absurd rfl z⟩))
theorem z2_frame {k i : Int} (hi : z_ir i) (h : z_RCs n s t) : z_two e n z_Inv m_C_frame m_M_frame [z_I k, z_I i] (z_gl s t) := by
  have inv := z_RCs_gl (z_RCs_up h)
  refine b_C_frame_0 (d := 999) (s_C_within (d := 998) (fun a b => ⟨fun z => by omega, fun _ => ⟨fun i0 => ⟨⟨a, b⟩, ?_⟩, fun i0 => ?_⟩⟩) (fun q => ⟨fun _ => ?_, fun z => absurd rfl z⟩))
  · obtain ⟨⟨⟨⟨g1, g2⟩, g3, g4⟩, -⟩, -⟩ := h.2.1 k a b
    have hr := z_ru_lt b
    obtain ⟨u1, u2, u3, u4, u5⟩ := z_isU_ru (r := k) a (by omega)
    rw [hr] at u1 u2 u3 u4 g1
    simp (disch := omega) only [u1, u2, z_ckT, z_gl_lo]
    rw [g1]
    have good : ∀ x, (t 722 k ≤ i → x = -20002) → (i < t 722 k → x = t 725 (30 * k + i)) → z_C e 1000 m_M_frame [z_R 701, z_I k, z_I i] (z_gl s t) (fun r2 σ2 => x = r2 ∧ z_Inv (n + 1) σ2) := fun x q1 q2 => by
      refine b_M_frame_0 (d := 999) (s_M_isTask (d := 997) (fun _ _ => ⟨fun z => by omega, fun _ => ⟨fun _ => ⟨by omega, ?_⟩, fun z => by omega⟩⟩) (fun q => by omega))
      simp (disch := omega) only [z_gl_hi]
      refine ⟨fun q => ⟨q1 q, inv⟩, fun q => ?_⟩
      rw [z_wr_id (x := 30 * k) (by omega) (by omega), z_wr_id (by omega) (by omega)]
      exact ⟨by omega, q2 q, inv⟩
    refine ⟨fun q => good _ (fun _ => rfl) (fun z => by omega), fun q => ⟨by omega, ?_⟩⟩
    have hF := z_isF_fA (r := k) a (by omega) i0 (by omega)
    have hFd : z_fA k i = 333 + 92 * k + 1 + 1 + 3 * i := by unfold z_fA; rw [hr]
    obtain ⟨y1, y2, y3, y4, y5⟩ := hF
    have g5 := (g4 i i0 q).1.1
    rw [hFd] at y1 y4 y5 g5
    simp (disch := omega) only [y1, z_ckT, z_gl_lo]
    exact good _ (fun z => by omega) (fun _ => g5)
  · exact b_M_frame_0 (d := 999) (s_M_isTask (d := 997) (fun _ _ => ⟨fun z => by omega, fun _ => ⟨fun z => by omega, fun _ => ⟨rfl, inv⟩⟩⟩) (fun q => by omega))
  · exact b_M_frame_0 (d := 999) (s_M_isTask (d := 997) (fun _ _ => by omega) (fun _ => ⟨fun _ => ⟨rfl, inv⟩, fun z => absurd rfl z⟩))
theorem z2_task {k w : Int} (h : z_RCs n s t) : z_two e n z_Inv m_C_task m_M_task [z_I k, z_I w] (z_gl s t) := by
  have inv := z_RCs_gl (z_RCs_up h)
  refine b_C_task_0 (d := 999) (s_C_within (d := 998) (fun a b => ⟨fun z => by omega, fun _ => ?_⟩) (fun q => ⟨fun _ => ?_, fun z => absurd rfl z⟩))
  · obtain ⟨⟨⟨⟨g1, g2⟩, g3, g4⟩, ⟨v1, v2, v3, v4⟩⟩, -⟩ := h.2.1 k a b
    have hU := z_isU_ru (r := k) a (by omega)
    have hr := z_ru_lt b
    rw [hr] at g1 g2 v1 v2 v3 v4 hU
    obtain ⟨u1, u2, u3, u4, u5⟩ := id hU
    have bad : ¬ (0 ≤ w ∧ w ≤ 5) → z_C e 1000 m_M_task [z_R 701, z_I k, z_I w] (z_gl s t) (fun r2 σ2 => -20001 = r2 ∧ z_Inv (n + 1) σ2) := fun q =>
      b_M_task_0 (d := 999) (s_M_isTask (d := 997) (fun _ _ => ⟨fun z => by omega, fun _ => s_M_in (d := 998) (fun x y => absurd ⟨x, y⟩ q) (fun _ => ⟨fun z => absurd rfl z, fun _ => ⟨rfl, inv⟩⟩)⟩) (fun q2 => by omega))
    refine ⟨fun q => bad (by omega), fun w0 => ⟨fun w1 => ⟨⟨a, b⟩, ?_⟩, fun q => bad (by omega)⟩⟩
    have good : ∀ x, (w = 0 → x = t 719 k) → (w = 1 → (t 719 k = 3 ∨ t 719 k = 4 → x = t 720 k) ∧ (¬ (t 719 k = 3 ∨ t 719 k = 4) → x = -20002)) → (w = 2 → x = t 722 k) → (w = 3 → x = t 721 k) → (w = 4 → (t 719 k = 2 → x = t 723 k) ∧ (¬ t 719 k = 2 → x = -20002)) → (w = 5 → (t 719 k = 2 → x = t 724 k) ∧ (¬ t 719 k = 2 → x = -20002)) → z_C e 1000 m_M_task [z_R 701, z_I k, z_I w] (z_gl s t) (fun r2 σ2 => x = r2 ∧ z_Inv (n + 1) σ2) := fun x q0 q1 q2 q3 q4 q5 => by
      refine b_M_task_0 (d := 999) (s_M_isTask (d := 997) (fun _ _ => ⟨fun z => by omega, fun _ => s_M_in (d := 998) (fun _ _ => ⟨fun _ => ?_, fun z => by omega⟩) (fun q => by omega)⟩) (fun q => by omega))
      simp (disch := omega) only [z_gl_hi]
      exact ⟨fun y => ⟨by omega, q0 y, inv⟩, fun y0 => ⟨fun y => ⟨by omega, fun z => ⟨by omega, (q1 y).1 (Or.inl z), inv⟩, fun z => ⟨by omega, fun z2 => ⟨(q1 y).2 (by omega), inv⟩, fun z2 => ⟨by omega, (q1 y).1 (Or.inr z2), inv⟩⟩⟩, fun y1 => ⟨fun y => ⟨by omega, q2 y, inv⟩, fun y2 => ⟨fun y => ⟨by omega, q3 y, inv⟩, fun y3 => ⟨fun y => ⟨by omega, fun z => ⟨(q4 y).2 z, inv⟩, fun z => ⟨by omega, (q4 y).1 z, inv⟩⟩, fun y4 => ⟨by omega, fun z => ⟨(q5 (by omega)).2 z, inv⟩, fun z => ⟨by omega, (q5 (by omega)).1 z, inv⟩⟩⟩⟩⟩⟩⟩
    simp (disch := omega) only [u1, z_ckT, z_gl_lo]
    rw [v1, g1, g2]
    refine ⟨fun y => good _ (fun _ => rfl) (fun z => by omega) (fun z => by omega) (fun z => by omega) (fun z => by omega) (fun z => by omega), fun y0 => ⟨fun y => ⟨fun z => ?_, fun z => ⟨fun z2 => ?_, fun z2 => ?_⟩⟩, fun y1 => ⟨fun y => good _ (fun z => by omega) (fun z => by omega) (fun _ => rfl) (fun z => by omega) (fun z => by omega) (fun z => by omega), fun y2 => ⟨fun y => good _ (fun z => by omega) (fun z => by omega) (fun z => by omega) (fun _ => rfl) (fun z => by omega) (fun z => by omega), fun y3 => ⟨fun y => ⟨fun z => ?_, fun z => ?_⟩, fun y4 => ⟨fun z => ?_, fun z => ?_⟩⟩⟩⟩⟩⟩
    · refine s_U_outcome (d := 998) hU (fun _ => ?_) (fun q => by rw [v1, z] at q; omega)
      exact good _ (fun z => by omega) (fun _ => ⟨fun _ => v3 z, fun q => absurd (Or.inl z) q⟩) (fun z => by omega) (fun z => by omega) (fun z => by omega) (fun z => by omega)
    · exact good _ (fun z => by omega) (fun _ => ⟨fun q => by omega, fun _ => rfl⟩) (fun z => by omega) (fun z => by omega) (fun z => by omega) (fun z => by omega)
    · obtain ⟨w4, w5, w6⟩ := v4 z2
      refine s_U_outcome (d := 998) hU (fun q => absurd (by rw [v1]; exact z2) q) (fun _ => ⟨w5, w6, ?_⟩)
      exact good _ (fun z => by omega) (fun _ => ⟨fun _ => w4.symm, fun q => absurd (Or.inr z2) q⟩) (fun z => by omega) (fun z => by omega) (fun z => by omega) (fun z => by omega)
    · exact good _ (fun z => by omega) (fun z => by omega) (fun z => by omega) (fun z => by omega) (fun _ => ⟨fun q => absurd q z, fun _ => rfl⟩) (fun z => by omega)
    · exact good _ (fun z => by omega) (fun z => by omega) (fun z => by omega) (fun z => by omega) (fun _ => ⟨fun _ => (v2 z).1, fun q => absurd z q⟩) (fun z => by omega)
    · exact good _ (fun z => by omega) (fun z => by omega) (fun z => by omega) (fun z => by omega) (fun z => by omega) (fun _ => ⟨fun q => absurd q z, fun _ => rfl⟩)
    · exact good _ (fun z => by omega) (fun z => by omega) (fun z => by omega) (fun z => by omega) (fun z => by omega) (fun _ => ⟨fun _ => (v2 z).2, fun q => absurd z q⟩)
  · exact b_M_task_0 (d := 999) (s_M_isTask (d := 997) (fun _ _ => by omega) (fun _ => ⟨fun _ => ⟨rfl, inv⟩, fun z => absurd rfl z⟩))
end RC
