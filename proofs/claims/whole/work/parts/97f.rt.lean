/-! the class's reader against the function: the rest of P, the bracket, U -/
section RU
variable {e : z_E} {c s s1 : z_M} {Q : Int → z_M → Prop} {g : Int → Int} {N o i b p : Int} {c1 : z_Cd} {n d : Nat}
theorem s_R_pT (ih : z_CI e c g N n) (hm : 8 * (N - p) + 1 ≤ ((n + 1 : Nat) : Int)) (hd : 8 * (N - p) + 1 + 20 ≤ (d : Int)) (ho : 0 ≤ o ∧ o ≤ 5) (hi : 0 ≤ i ∧ i ≤ p) (hs : z_CS g N s b p) (hl : ∀ f s', z_ps g N (n + 1) 6 o b p = some (.inl f) → z_CFr s s' → s' 3 3 = f → Q 0 (z_gl s' c)) (hr : ∀ q cs s', z_ps g N (n + 1) 6 o b p = some (.inr (q, cs)) → z_CG g N s s' b q cs → Q 1 (z_gl s' c)) : z_CK e d c 6 o i s Q := by
  obtain ⟨d', rfl⟩ : ∃ d', d = d' + 7 := ⟨d - 7, by have := hs.2.2.1; omega⟩
  have P0 := z_CG_0 hs
  have hp := hs.2.2.1
  have hb := hs.2.2.2.1
  have hN := hs.2.1
  have rest : z_pk g N p = 42 ∨ z_pk g N p = 47 → z_T e (d' + 7) m_R_readProduct 36 [some (z_R 3), some (z_I o), some (z_I i), none] (z_gl s c) Q := fun hpos => by
    have l1 : p < N := by rcases hpos with q | q <;> exact z_pk_lt q (by decide)
    refine b_R_readProduct_36 (s_R_ahead (d := d' + 6) hs ?_)
    rw [z_gl_lo (by omega), hp.1, z_wr_id (x := p + 1) (by omega) (by omega), z_gl_ul (by omega)]
    have g2 := z_CG_mv (q := p + 1) P0 (by omega) (by omega)
    show z_CK e (d' + 7) c 4 o 0 _ _
    refine z_CI_go (b' := b) ih g2 (by show b + ((0 : Nat) : Int) = b; omega) (by omega) (by show 8 * (N - (p + 1)) + 3 ≤ (n : Int); omega) (by show 8 * (N - (p + 1)) + 3 + 20 ≤ _; omega) ho (by omega) (fun f s3 e2 pf h3 => ⟨fun z => absurd rfl z, fun _ => hl f s3 (by rw [z_ps_T, if_pos hpos, e2, z_bd_inl]) pf h3⟩) (fun p2 c2 s3 e2 r0 r1 r2 r3 g3 => ?_)
    have g3 : z_CG g N s s3 b p2 c2 := g3
    have go : ∀ (op x : Int), (op = 9 ∧ x = 7 ∨ op = 10 ∧ x = 8) → x = (if z_pk g N p = 42 then 7 else 8) → z_C e (d' + 7) m_T_put [z_R 5, z_I op, z_I 0] (z_gl s3 c) (fun _ σ3 => z_T e (d' + 7) m_R_readProduct 12 [some (z_R 3), some (z_I o), some (z_I (z_wr (i + 1))), none] σ3 Q) := fun op x hox hx => by
      rw [z_wr_id (by omega) (by omega)]
      refine s_T_pu (d := d' + 6) (op' := x) (x' := 0) g3 (by omega) (by omega) (by omega) (by rcases hox with ⟨rfl, rfl⟩ | ⟨rfl, rfl⟩ <;> decide) (by omega) (fun g4 => ?_)
      show z_CK e (d' + 7) c 6 o (i + 1) _ _
      refine z_CI_go (b' := b + c2.length + 1) ih g4 (by rw [List.length_append]; show b + ((c2.length + 1 : Nat) : Int) = _; omega) (by omega) (by show 8 * (N - p2) + 1 ≤ (n : Int); omega) (by show 8 * (N - p2) + 1 + 20 ≤ _; omega) ho (by omega) (fun f s5 e3 pf h3 => hl f s5 (by rw [z_ps_T, if_pos hpos, e2, z_bd_inr, e3, z_bd_inl]) pf h3) (fun p3 c3 s5 e3 v0 v1 v2 v3 g5 => hr p3 (c2 ++ (x, 0) :: c3) s5 (by rw [z_ps_T, if_pos hpos, e2, z_bd_inr, e3, z_bd_inr, hx]) ?_)
      rw [show (c2 ++ [(x, (0 : Int))]) ++ c3 = c2 ++ (x, 0) :: c3 by simp] at g5
      exact g5
    exact ⟨fun _ => ⟨fun q => go 10 8 (Or.inr ⟨rfl, rfl⟩) (by rw [if_neg q]), fun q => go 9 7 (Or.inl ⟨rfl, rfl⟩) (by rw [if_pos q])⟩, fun z => by omega⟩
  refine b_R_readProduct_12 ⟨fun q => ?_, fun q => s_R_ahead (d := d' + 6) hs ⟨fun q1 => rest (Or.inl q1), fun q1 => s_R_ahead (d := d' + 6) hs ⟨fun q2 => hr p [] s (by rw [z_ps_T, if_neg (by omega)]) P0, fun q2 => rest (Or.inr q2)⟩⟩⟩
  have hpk : z_pk g N p = -1 := if_neg (by omega)
  exact hr p [] s (by rw [z_ps_T, if_neg (by omega)]) P0
theorem s_R_pB (ih : z_CI e c g N n) (hm : 8 * (N - p) + 2 ≤ ((n + 1 : Nat) : Int)) (hd : 8 * (N - p) + 2 + 20 ≤ (d : Int)) (ho : 0 ≤ o ∧ o ≤ 5) (hs : z_CS g N s b p) (hl : ∀ f s', z_ps g N (n + 1) 7 o b p = some (.inl f) → z_CFr s s' → s' 3 3 = f → Q 0 (z_gl s' c)) (hr : ∀ q cs s', z_ps g N (n + 1) 7 o b p = some (.inr (q, cs)) → z_CG g N s s' b q cs → Q 1 (z_gl s' c)) : z_CK e d c 7 o i s Q := by
  obtain ⟨d', rfl⟩ : ∃ d', d = d' + 7 := ⟨d - 7, by have := hs.2.2.1; omega⟩
  have P0 := z_CG_0 hs
  have hp := hs.2.2.1
  have hN := hs.2.1
  refine b_R_readBracket_0 (d := d' + 6) (s_R_passOpening (d := d' + 4) hs (by decide) (fun x l1 o5 => ⟨fun z => by omega, fun _ => ?_⟩) (fun x => ⟨fun _ => hl p _ ?_ (z_CFr_up (by omega)) z_up_eq, fun z => absurd rfl z⟩))
  · rw [z_wr_id (by omega) (by omega)]
    have g2 := z_CG_mv (q := p + 1) P0 (by omega) (by omega)
    show z_CK e (d' + 6) c 0 (o + 1) 0 _ _
    refine z_CI_go (b' := b) ih g2 (by show b + ((0 : Nat) : Int) = b; omega) (by omega) (by show 8 * (N - (p + 1)) + 7 ≤ (n : Int); omega) (by show 8 * (N - (p + 1)) + 7 + 20 ≤ _; omega) (by omega) (by omega) (fun f s3 e2 pf h3 => ⟨fun _ => hl f s3 (by rw [z_ps_B, if_pos x, if_neg (by omega), e2, z_bd_inl]) pf h3, fun z => absurd rfl z⟩) (fun p2 c2 s3 e2 r0 r1 r2 r3 g3 => ⟨fun z => by omega, fun _ => ?_⟩)
    have g3 : z_CG g N s s3 b p2 c2 := g3
    exact s_R_pass (d := d' + 4) g3.1 (by decide) (fun x2 l2 => ⟨fun z => by omega, fun _ => hr (p2 + 1) c2 _ (by rw [z_ps_B, if_pos x, if_neg (by omega), e2, z_bd_inr, if_pos x2]) (z_CG_mv g3 (by omega) (by omega))⟩) (fun x2 => ⟨fun _ => hl p2 _ (by rw [z_ps_B, if_pos x, if_neg (by omega), e2, z_bd_inr, if_neg x2]) (z_CFr_tr g3.2.1 (z_CFr_up (by omega))) z_up_eq, fun z => absurd rfl z⟩)
  · rw [z_ps_B]
    by_cases q : z_pk g N p = 40
    · rw [if_pos q, if_pos (by omega)]
    · rw [if_neg q]
theorem s_R_pU (ih : z_CI e c g N n) (hm : 8 * (N - p) + 3 ≤ ((n + 1 : Nat) : Int)) (hd : 8 * (N - p) + 3 + 20 ≤ (d : Int)) (ho : 0 ≤ o ∧ o ≤ 5) (hs : z_CS g N s b p) (hl : ∀ f s', z_ps g N (n + 1) 4 o b p = some (.inl f) → z_CFr s s' → s' 3 3 = f → Q 0 (z_gl s' c)) (hr : ∀ q cs s', z_ps g N (n + 1) 4 o b p = some (.inr (q, cs)) → z_CG g N s s' b q cs → Q 1 (z_gl s' c)) : z_CK e d c 4 o i s Q := by
  obtain ⟨d', rfl⟩ : ∃ d', d = d' + 7 := ⟨d - 7, by have := hs.2.2.1; omega⟩
  have P0 := z_CG_0 hs
  have hp := hs.2.2.1
  have hb := hs.2.2.2.1
  have hN := hs.2.1
  have l0 : (([] : z_Cd).length : Int) = 0 := rfl
  refine b_R_readUnit_0 (d := d' + 6) (s_R_ahead (d := d' + 5) hs ⟨fun x => ?_, fun n40 => ⟨fun x => ?_, fun n45 => ⟨fun x => ?_, fun n99 => ⟨fun x => ?_, fun n102 => ⟨fun x => ?_, fun n120 => ?_⟩⟩⟩⟩⟩)
  · show z_CK e (d' + 6) c 7 o 0 s _
    exact z_CI_go (b' := b) ih P0 (by rw [l0]; omega) (by omega) (by show 8 * (N - p) + 2 ≤ (n : Int); omega) (by show 8 * (N - p) + 2 + 20 ≤ _; omega) ho (by omega) (fun f s3 e2 pf h3 => z_ckI rfl (hl f s3 (by rw [z_ps_U, if_pos x]; exact e2) pf h3)) (fun p2 c2 s3 e2 r0 r1 r2 r3 g3 => z_ckI rfl (hr p2 c2 s3 (by rw [z_ps_U, if_pos x]; exact e2) g3))
  · have l1 := z_pk_lt x (by decide)
    refine s_R_passOpening (d := d' + 4) hs (by decide) (fun _ _ o5 => ⟨fun z => by omega, fun _ => ?_⟩) (fun q => ⟨fun _ => hl p _ (by rw [z_ps_U, if_neg n40, if_pos x, if_pos (by omega)]) (z_CFr_up (by omega)) z_up_eq, fun z => absurd rfl z⟩)
    rw [z_wr_id (by omega) (by omega)]
    have g2 := z_CG_mv (q := p + 1) P0 (by omega) (by omega)
    show z_CK e (d' + 6) c 4 (o + 1) 0 _ _
    refine z_CI_go (b' := b) ih g2 (by rw [l0]; omega) (by omega) (by show 8 * (N - (p + 1)) + 3 ≤ (n : Int); omega) (by show 8 * (N - (p + 1)) + 3 + 20 ≤ _; omega) (by omega) (by omega) (fun f s3 e2 pf h3 => ⟨fun z => absurd rfl z, fun _ => hl f s3 (by rw [z_ps_U, if_neg n40, if_pos x, if_neg (by omega), e2, z_bd_inl]) pf h3⟩) (fun p2 c2 s3 e2 r0 r1 r2 r3 g3 => ⟨fun _ => ?_, fun z => by omega⟩)
    have g3 : z_CG g N s s3 b p2 c2 := g3
    exact s_T_pu (d := d' + 5) (op' := 11) (x' := 0) g3 (by omega) (by omega) (by omega) (by decide) (by decide) (fun g4 => hr p2 (c2 ++ [(11, 0)]) _ (by rw [z_ps_U, if_neg n40, if_pos x, if_neg (by omega), e2, z_bd_inr]) g4)
  · have l1 := z_pk_lt x (by decide)
    refine s_R_readIndex (d := d' + 2) P0 l1 (fun dg lt s2 g3 e5 => ⟨fun _ => ?_, fun z => by omega⟩) (fun dg ge s2 pf h3 => ⟨fun z => absurd rfl z, fun _ => hl (p + 1) s2 (by rw [z_ps_U, if_neg n40, if_neg n45, if_pos x, if_pos dg, if_neg (by omega)]) pf h3⟩) (fun dg s2 pf h3 => ⟨fun z => absurd rfl z, fun _ => hl (p + 1) s2 (by rw [z_ps_U, if_neg n40, if_neg n45, if_pos x, if_neg dg]) pf h3⟩)
    obtain ⟨r1, r2, r3, r4⟩ := z_nm_rng dg
    rw [z_gl_lo (by omega), e5]
    exact s_T_pu (d := d' + 5) (op' := 3) (x' := (z_nm g N (p + 1)).2) g3 (by rw [l0]; omega) (by omega) (by omega) rfl (by decide) (fun g4 => hr (z_nm g N (p + 1)).1 [(3, (z_nm g N (p + 1)).2)] _ (by rw [z_ps_U, if_neg n40, if_neg n45, if_pos x, if_pos dg, if_pos lt]) g4)
  · have l1 := z_pk_lt x (by decide)
    refine b_R_readCall_0 (d := d' + 5) (s_R_readIndex (d := d' + 1) P0 l1 (fun dg lt s2 g3 e5 => ⟨fun _ => ?_, fun z => by omega⟩) (fun dg ge s2 pf h3 => ⟨fun z => absurd rfl z, fun _ => z_ckI rfl (hl (p + 1) s2 (by rw [z_ps_U, if_neg n40, if_neg n45, if_neg n99, if_pos x, if_pos dg, if_neg (by omega)]) pf h3)⟩) (fun dg s2 pf h3 => ⟨fun z => absurd rfl z, fun _ => z_ckI rfl (hl (p + 1) s2 (by rw [z_ps_U, if_neg n40, if_neg n45, if_neg n99, if_pos x, if_neg dg]) pf h3)⟩))
    obtain ⟨r1, r2, r3, r4⟩ := z_nm_rng dg
    rw [z_gl_lo (by omega), e5]
    show z_CK e (d' + 5) c 7 o 0 s2 _
    refine z_CI_go (b' := b) ih g3 (by rw [l0]; omega) (by omega) (by show 8 * (N - (z_nm g N (p + 1)).1) + 2 ≤ (n : Int); omega) (by show 8 * (N - (z_nm g N (p + 1)).1) + 2 + 20 ≤ _; omega) ho (by omega) (fun f s3 e2 pf h3 => ⟨fun z => absurd rfl z, fun _ => z_ckI rfl (hl f s3 (by rw [z_ps_U, if_neg n40, if_neg n45, if_neg n99, if_pos x, if_pos dg, if_pos lt, e2, z_bd_inl]) pf h3)⟩) (fun p2 c2 s3 e2 v0 v1 v2 v3 g4 => ⟨fun _ => ?_, fun z => by omega⟩)
    have g4 : z_CG g N s s3 b p2 c2 := g4
    exact s_T_pu (d := d' + 4) (op' := 4) (x' := (z_nm g N (p + 1)).2) g4 (by omega) (by omega) (by omega) rfl (by decide) (fun g5 => z_ckI rfl (hr p2 (c2 ++ [(4, (z_nm g N (p + 1)).2)]) _ (by rw [z_ps_U, if_neg n40, if_neg n45, if_neg n99, if_pos x, if_pos dg, if_pos lt, e2, z_bd_inr]) g5))
  · have l1 := z_pk_lt x (by decide)
    rw [z_gl_lo (by omega), hp.1, z_wr_id (by omega) (by omega), z_gl_ul (by omega)]
    have g2 := z_CG_mv (q := p + 1) P0 (by omega) (by omega)
    exact s_T_pu (d := d' + 5) (op' := 2) (x' := 0) g2 (by rw [l0]; omega) (by omega) (by omega) (by decide) (by decide) (fun g4 => hr (p + 1) [(2, 0)] _ (by rw [z_ps_U, if_neg n40, if_neg n45, if_neg n99, if_neg n102, if_pos x]) g4)
  · refine s_R_readNumber (d := d' + 3) P0 (fun dg s2 g3 e5 => ⟨fun _ => ?_, fun z => by omega⟩) (fun dg => ⟨fun z => absurd rfl z, fun _ => hl p _ (by rw [z_ps_U, if_neg n40, if_neg n45, if_neg n99, if_neg n102, if_neg n120, if_neg dg]) (z_CFr_up (by omega)) z_up_eq⟩)
    obtain ⟨r1, r2, r3, r4⟩ := z_nm_rng dg
    rw [z_gl_lo (by omega), e5]
    exact s_T_pu (d := d' + 5) (op' := 1) (x' := (z_nm g N p).2) g3 (by rw [l0]; omega) (by omega) (by omega) (by show 16 * (z_nm g N p).2 + 0 = 16 * (z_nm g N p).2; omega) (by decide) (fun g4 => hr (z_nm g N p).1 [(1, (z_nm g N p).2)] _ (by rw [z_ps_U, if_neg n40, if_neg n45, if_neg n99, if_neg n102, if_neg n120, if_pos dg]) g4)
end RU
