/-! calls that change: the reader's tape, bound, policy, clear -/
theorem z_RCs_mk {n : Nat} {s s' t t' : z_M} (h : z_RCs n s t) (hs : ∀ a i, a = 1 ∨ (213 ≤ a ∧ a < 701) → s' a i = s a i) (ht : ∀ a i, a = 702 ∨ a = 704 ∨ a = 705 ∨ (719 ≤ a ∧ a ≤ 733) → t' a i = t a i) (hS : z_cS s' t') (hN : z_cN s' t') (hB : t' 701 30 = 1 ∧ t' 701 22 ≤ t' 701 24) (hsum : z_sumx t') (hb : 1 ≤ t' 701 24 ∧ t' 701 24 ≤ 300) (hKK : z_KK t') (hc : 0 ≤ t' 701 21 ∧ t' 701 21 ≤ 3000 * (n : Int)) : z_RCs n s' t' := by
  obtain ⟨⟨hT, -, -, -⟩, ho, hx, -, h1, h2, h3⟩ := h
  have hm : z_me t t' := by refine ⟨?_, ?_, ?_⟩ <;> (funext i; exact ht _ _ (by omega))
  have fe : ∀ f, z_fe t t' f := fun f => z_fe_of fun a i _ _ => ht a i (by omega)
  refine ⟨⟨z_cT_c (fun a i x => hs a i (by omega)) hm hT, hS, hN, hB⟩, fun q q0 q1 => ?_, ⟨z_me_TT hm hx.1, hsum, hb, hc.1, hKK, fun q q0 q1 q2 => z_RI_re hx.1 hm ⟨fun a _ _ _ => ht a q (by omega), fun f _ _ => fe f⟩ (hx.2.2.2.2.2 q q0 q1 q2)⟩, hc.2, by rw [hs _ _ (by omega)]; exact h1, by rw [hs _ _ (by omega)]; exact h2, fun k k0 k1 => by rw [hs _ _ (by omega), hs _ _ (by omega)]; exact h3 k k0 k1⟩
  have hr := z_ru_rng (r := q) q0 (by omega)
  obtain ⟨⟨oG, oV⟩, ok⟩ := ho q q0 q1
  exact ⟨⟨z_cG_c (hs _ _ (by omega)) (hs _ _ (by omega)) (fun a i x y => hs a i (by omega)) (ht _ _ (by omega)) (ht _ _ (by omega)) (fun f _ _ => fe f) oG, z_cV_c oV (fun i => hs _ _ (by omega)) (fun a _ _ => ht _ _ (by omega))⟩, by rw [hs _ _ (by omega)]; exact ok⟩
theorem z_KK_same {t t' : z_M} (hm : z_me t t') (h : z_KK t) (h0 : ∀ a k, 707 ≤ a → a ≤ 716 → t' a k = t a k) (h2 : t' 701 21 = t 701 21) : z_KK t' := z_KK_eq hm h (fun a k x y _ _ _ => h0 a k x y) (by rw [h2]; exact Int.le_refl _)
section UP
variable {e : z_E} {n : Nat} {s t : z_M}
theorem z2_feed {x : Int} (h : z_RCs n s t) : z_two e n z_Inv m_C_feed m_M_feed [z_I x] (z_gl s t) := by
  have inv := z_RCs_gl (z_RCs_up h)
  obtain ⟨⟨hT, hS, hN, hB⟩, ho, hx, hc, -⟩ := id h
  obtain ⟨n0, ⟨n1, n2, n3⟩, n4⟩ := id hN
  have bad : ¬ (0 ≤ x ∧ x ≤ 255) → z_C e 1000 m_M_feed [z_R 701, z_I x] (z_gl s t) (fun r2 σ2 => -20001 = r2 ∧ z_Inv (n + 1) σ2) := fun q =>
    b_M_feed_0 (d := 999) (s_M_in (d := 998) (fun a b => absurd ⟨a, b⟩ q) (fun _ => ⟨fun z => absurd rfl z, fun _ => ⟨rfl, inv⟩⟩))
  refine b_C_feed_0 (d := 999) ⟨fun q => bad (by omega), fun x0 => ⟨fun x1 => ?_, fun q => bad (by omega)⟩⟩
  refine b_R_add_0 (d := 998) ?_
  simp (disch := omega) only [z_gl_lo, z_gl_ul, z_up_ne, z_wr_id]
  refine ⟨fun q => ?_, fun q => ?_⟩
  rotate_left
  · refine ⟨fun _ => ?_, fun z => absurd trivial z⟩
    refine b_M_feed_0 (d := 999) (s_M_in (d := 998) (fun _ _ => ⟨fun _ => ?_, fun z => by omega⟩) (fun z => absurd ⟨x0, x1⟩ z))
    simp (disch := omega) only [z_gl_hi]
    exact ⟨fun z => by omega, fun _ => ⟨trivial, inv⟩⟩
  · rw [n1] at q ⊢
    refine ⟨by omega, fun z => by omega, fun _ => ?_⟩
    refine b_M_feed_0 (d := 999) (s_M_in (d := 998) (fun _ _ => ⟨fun _ => ?_, fun z => by omega⟩) (fun z => absurd ⟨x0, x1⟩ z))
    simp (disch := omega) only [z_gl_hi, z_gl_lo, z_gl_up, z_up_ne, z_up_eq]
    rw [z_wr_id (by omega) (by omega)]
    refine ⟨fun z => ⟨by omega, rfl, z_RCs_gl (z_RCs_up (z_RCs_mk h ?_ ?_ ?_ ?_ ?_ ?_ ?_ ?_ ?_))⟩, fun z => by omega⟩
    · intro a i ha; rw [z_up_ne (by omega), z_up_ne (by omega)]
    · intro a i ha; rw [z_up_ne (by omega), z_up_ne (by omega)]
    · exact z_cS_c (fun a i x y _ => by rw [z_up_ne (by omega), z_up_ne (by omega)]) (fun i _ _ _ => by rw [z_up_ne (by omega), z_up_ne (by omega)]) (fun a i x y => by rw [z_up_ne (by omega), z_up_ne (by omega)]) (fun i x y => by rw [z_up_ne (by omega), z_up_ne (by omega)]) hS
    · have us : ∀ a i, ¬ (a = 3 ∧ i = 2) → ¬ (a = 4 ∧ i = t 701 2) → z_up (z_up s 4 (t 701 2) x) 3 2 (t 701 2 + 1) a i = s a i := fun a i y z => by rw [z_up_ne (by omega), z_up_ne (by omega)]
      have ut : ∀ a i, ¬ (a = 701 ∧ i = 2) → ¬ (a = 703 ∧ i = t 701 2) → z_up (z_up t 703 (t 701 2) x) 701 2 (t 701 2 + 1) a i = t a i := fun a i y z => by rw [z_up_ne (by omega), z_up_ne (by omega)]
      unfold z_cN at hN ⊢
      rw [us 0 7 (by omega) (by omega), us 0 9 (by omega) (by omega), us 0 10 (by omega) (by omega), us 0 11 (by omega) (by omega), us 7 7 (by omega) (by omega), us 7 8 (by omega) (by omega), us 7 9 (by omega) (by omega), us 0 12 (by omega) (by omega), us 0 8 (by omega) (by omega), us 7 4 (by omega) (by omega), ut 701 26 (by omega) (by omega), ut 717 0 (by omega) (by omega), ut 717 1 (by omega) (by omega), ut 717 2 (by omega) (by omega), ut 717 3 (by omega) (by omega), ut 717 4 (by omega) (by omega), ut 717 5 (by omega) (by omega), ut 717 6 (by omega) (by omega), ut 701 46 (by omega) (by omega), ut 701 29 (by omega) (by omega), z_up_eq, z_up_eq]
      refine ⟨n0, ⟨rfl, by omega, fun i i0 i1 => ?_⟩, hN.2.2.1, hN.2.2.2.1, fun i i0 i1 => by rw [us 9 i (by omega) (by omega), ut 718 i (by omega) (by omega)]; exact hN.2.2.2.2 i i0 i1⟩
      by_cases hi : i = t 701 2
      · rw [hi, z_up_ne (by omega), z_up_eq, z_up_ne (by omega), z_up_eq]; exact ⟨rfl, x0, x1⟩
      · rw [us 4 i (by omega) (by omega), ut 703 i (by omega) (by omega)]; exact n3 i i0 (by omega)
    · rw [z_up_ne (by omega), z_up_ne (by omega), z_up_ne (by omega), z_up_ne (by omega), z_up_ne (by omega), z_up_ne (by omega)]; exact hB
    · exact z_sumx_congr hx.2.1 (fun k => by rw [z_up_ne (by omega), z_up_ne (by omega)]) (fun k => by rw [z_up_ne (by omega), z_up_ne (by omega)]) (by rw [z_up_ne (by omega), z_up_ne (by omega)]) (by rw [z_up_ne (by omega), z_up_ne (by omega)]) (by rw [z_up_ne (by omega), z_up_ne (by omega)])
    · rw [z_up_ne (by omega), z_up_ne (by omega)]; exact hx.2.2.1
    · exact z_KK_same (by refine ⟨?_, ?_, ?_⟩ <;> (funext i; rw [z_up_ne (by omega), z_up_ne (by omega)])) hx.2.2.2.2.1 (fun a k x y => by rw [z_up_ne (by omega), z_up_ne (by omega)]) (by rw [z_up_ne (by omega), z_up_ne (by omega)])
    · rw [z_up_ne (by omega), z_up_ne (by omega)]; exact ⟨hx.2.2.2.1, hc⟩
theorem z2_policy {x : Int} (h : z_RCs n s t) : z_two e n z_Inv m_C_policy m_M_policy [z_I x] (z_gl s t) := by
  have inv := z_RCs_gl (z_RCs_up h)
  obtain ⟨⟨hT, hS, hN, hB⟩, ho, hx, hc, -⟩ := id h
  have bad : ¬ (0 ≤ x ∧ x ≤ 3) → z_C e 1000 m_M_policy [z_R 701, z_I x] (z_gl s t) (fun r2 σ2 => -20001 = r2 ∧ z_Inv (n + 1) σ2) := fun q =>
    b_M_policy_0 (d := 999) (s_M_in (d := 998) (fun a b => absurd ⟨a, b⟩ q) (fun _ => ⟨fun z => absurd rfl z, fun _ => ⟨rfl, inv⟩⟩))
  refine b_C_policy_0 (d := 999) ⟨fun q => bad (by omega), fun x0 => ⟨fun x1 => ?_, fun q => bad (by omega)⟩⟩
  rw [z_gl_lo (by omega), z_gl_ul (by omega)]
  refine b_M_policy_0 (d := 999) (s_M_in (d := 998) (fun _ _ => ⟨fun _ => ?_, fun z => by omega⟩) (fun z => absurd ⟨x0, x1⟩ z))
  rw [z_gl_hi (by omega), z_gl_up (by omega)]
  refine ⟨hS.1.2.2.2, z_RCs_gl (z_RCs_up (z_RCs_mk h (fun a i ha => z_up_ne (by omega)) (fun a i ha => z_up_ne (by omega)) ?_ ?_ ?_ ?_ ?_ ?_ ?_))⟩
  · obtain ⟨⟨a1, a2, a3, a4⟩, a5⟩ := hS
    have us : ∀ a i, ¬ (a = 7 ∧ i = 6) → z_up s 7 6 x a i = s a i := fun a i y => z_up_ne (by omega)
    have ut : ∀ a i, ¬ (a = 701 ∧ i = 25) → z_up t 701 25 x a i = t a i := fun a i y => z_up_ne (by omega)
    have hS1 := z_cS_c (s := s) (s' := z_up (z_up s 7 6 x) 7 6 (s 7 6)) (t := t) (t' := t) (fun a i x y z => by rw [z_up_ne (by omega), z_up_ne (by omega)]) (fun i y z w => by rw [z_up_up, z_up_self]) (fun _ _ _ _ => rfl) (fun _ _ _ => rfl) ⟨⟨a1, a2, a3, a4⟩, a5⟩
    have e8 : ∀ i, z_up s 7 6 x 8 i = s 8 i := fun i => us _ _ (by omega)
    have e10 : ∀ i, z_up s 7 6 x 10 i = s 10 i := fun i => us _ _ (by omega)
    have e2 : z_up s 7 6 x 7 2 = s 7 2 := us _ _ (by omega)
    have t7 : ∀ i, z_up t 701 25 x 707 i = t 707 i := fun i => ut _ _ (by omega)
    have t14 : ∀ i, z_up t 701 25 x 714 i = t 714 i := fun i => ut _ _ (by omega)
    obtain ⟨c1, ⟨c2, c3⟩, c4, c5, c6⟩ := a5
    have eK : ∀ i j, 0 ≤ i → i < 101 → z_up s 7 6 x (s 8 i) j = s (s 8 i) j := fun i j x y => by obtain ⟨-, -, k3, k4, -⟩ := c2 i x y; exact us _ _ (by omega)
    unfold z_cS
    simp only [e8, e10, e2, t7, t14]
    rw [us 7 3 (by omega), us 7 5 (by omega), z_up_eq, ut 701 22 (by omega), ut 701 23 (by omega), ut 701 24 (by omega), z_up_eq]
    refine ⟨⟨a1, a2, a3, rfl⟩, c1, ⟨c2, c3⟩, fun i i0 i1 => ?_, fun k k0 k1 => ⟨(c5 k k0 k1).1, fun q => ?_⟩, fun i j i0 ij j1 => ?_⟩
    · rw [eK i _ i0 (by omega)]
      obtain ⟨d1, d2, d3, d4⟩ := c4 i i0 i1
      obtain ⟨-, -, k3, k4, -⟩ := c2 i i0 (by omega)
      exact ⟨d1, d2, d3, z_cW_c (fun j => eK i j i0 (by omega)) (fun j => us _ _ (by omega)) (fun a p q => ut _ _ (by omega)) (fun j _ _ => ut _ _ (by omega)) d4⟩
    · obtain ⟨i, i0, i1, i2⟩ := (c5 k k0 k1).2 q
      exact ⟨i, i0, i1, by rw [eK i _ i0 (by omega)]; exact i2⟩
    · rw [eK i _ i0 (by omega), eK j _ (by omega) (by omega)]; exact c6 i j i0 ij j1
  · have us : ∀ a i, ¬ (a = 7 ∧ i = 6) → z_up s 7 6 x a i = s a i := fun a i y => z_up_ne (by omega)
    have ut : ∀ a i, ¬ (a = 701 ∧ i = 25) → z_up t 701 25 x a i = t a i := fun a i y => z_up_ne (by omega)
    unfold z_cN at hN ⊢
    rw [us 0 7 (by omega), us 0 9 (by omega), us 0 10 (by omega), us 0 11 (by omega), us 7 7 (by omega), us 7 8 (by omega), us 7 9 (by omega), us 0 12 (by omega), us 0 8 (by omega), us 7 4 (by omega), us 3 2 (by omega), ut 701 26 (by omega), ut 717 0 (by omega), ut 717 1 (by omega), ut 717 2 (by omega), ut 717 3 (by omega), ut 717 4 (by omega), ut 717 5 (by omega), ut 717 6 (by omega), ut 701 46 (by omega), ut 701 29 (by omega), ut 701 2 (by omega)]
    exact ⟨hN.1, ⟨hN.2.1.1, hN.2.1.2.1, fun i i0 i1 => by rw [us 4 i (by omega), ut 703 i (by omega)]; exact hN.2.1.2.2 i i0 i1⟩, hN.2.2.1, hN.2.2.2.1, fun i i0 i1 => by rw [us 9 i (by omega), ut 718 i (by omega)]; exact hN.2.2.2.2 i i0 i1⟩
  · rw [z_up_ne (by omega), z_up_ne (by omega), z_up_ne (by omega)]; exact hB
  · exact z_sumx_congr hx.2.1 (fun k => z_up_ne (by omega)) (fun k => z_up_ne (by omega)) (z_up_ne (by omega)) (z_up_ne (by omega)) (z_up_ne (by omega))
  · rw [z_up_ne (by omega)]; exact hx.2.2.1
  · exact z_KK_same (by refine ⟨?_, ?_, ?_⟩ <;> (funext i; exact z_up_ne (by omega))) hx.2.2.2.2.1 (fun a k _ _ => z_up_ne (by omega)) (z_up_ne (by omega))
  · rw [z_up_ne (by omega)]; exact ⟨hx.2.2.2.1, hc⟩
end UP
