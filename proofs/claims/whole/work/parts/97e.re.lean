/-! the class's reader against the function: C, S, P, the rests -/
section RE
variable {e : z_E} {c s s1 : z_M} {Q : Int → z_M → Prop} {g : Int → Int} {N o i b p : Int} {c1 : z_Cd} {n d : Nat}
theorem z_CI_go {k : Nat} {b' : Int} (ih : z_CI e c g N n) (h : z_CG g N s s1 b p c1) (hb : b + (c1.length : Int) = b') (hk : k < 8) (hm : 8 * (N - p) + z_mu k ≤ (n : Int)) (hd : 8 * (N - p) + z_mu k + 20 ≤ (d : Int)) (ho : 0 ≤ o ∧ o ≤ 5) (hi : 0 ≤ i ∧ i ≤ p) (hl : ∀ f s2, z_ps g N n k o b' p = some (.inl f) → z_CFr s s2 → s2 3 3 = f → Q 0 (z_gl s2 c)) (hr : ∀ q cs s2, z_ps g N n k o b' p = some (.inr (q, cs)) → p ≤ q → q ≤ N → (cs.length : Int) ≤ q - p → (k = 5 ∨ k = 6 ∨ p < q) → z_CG g N s s2 b q (c1 ++ cs) → Q 1 (z_gl s2 c)) : z_CK e d c k o i s1 Q := by
  subst hb
  exact ih k o i (b + c1.length) p s1 d Q hk hm hd ho hi h.1 (fun f s2 e1 pf h3 => hl f s2 e1 (z_CFr_tr h.2.1 pf) h3) (fun q cs s2 e1 q0 q1 q2 q3 g2 => hr q cs s2 e1 q0 q1 q2 q3 (z_CG_tr h g2))
theorem s_R_pC (ih : z_CI e c g N n) (hm : 8 * (N - p) + 6 ≤ ((n + 1 : Nat) : Int)) (hd : 8 * (N - p) + 6 + 20 ≤ (d : Int)) (ho : 0 ≤ o ∧ o ≤ 5) (hs : z_CS g N s b p) (hl : ∀ f s', z_ps g N (n + 1) 1 o b p = some (.inl f) → z_CFr s s' → s' 3 3 = f → Q 0 (z_gl s' c)) (hr : ∀ q cs s', z_ps g N (n + 1) 1 o b p = some (.inr (q, cs)) → z_CG g N s s' b q cs → Q 1 (z_gl s' c)) : z_CK e d c 1 o i s Q := by
  obtain ⟨d', rfl⟩ : ∃ d', d = d' + 7 := ⟨d - 7, by have := hs.2.2.1; omega⟩
  have P0 := z_CG_0 hs
  have hp := hs.2.2.1
  have hb := hs.2.2.2.1
  have hN := hs.2.1
  refine b_R_readComparison_0 (d := d' + 6) ?_
  show z_CK e (d' + 6) c 2 o 0 s _
  refine z_CI_go (b' := b) ih P0 (by show b + ((0 : Nat) : Int) = b; omega) (by omega) (by show 8 * (N - p) + 5 ≤ (n : Int); omega) (by show 8 * (N - p) + 5 + 20 ≤ _; omega) ho (by omega) (fun f s1 e1 pf h3 => ⟨fun z => absurd rfl z, fun _ => hl f s1 (by rw [z_ps_C, e1, z_bd_inl]) pf h3⟩) (fun p1 c1 s1 e1 q0 q1 q2 q3 g1 => ⟨fun _ => ?_, fun z => by omega⟩)
  have g1 : z_CG g N s s1 b p1 c1 := g1
  have rest : z_pk g N p1 = 60 ∨ z_pk g N p1 = 61 → z_T e (d' + 6) m_R_readComparison 29 [some (z_R 3), some (z_I o), some (z_I (z_pk g N p1))] (z_gl s1 c) Q := fun hpos => by
    have l1 : p1 < N := by rcases hpos with q | q <;> exact z_pk_lt q (by decide)
    refine b_R_readComparison_29 ?_
    rw [z_gl_lo (by omega), g1.1.2.2.1.1, z_wr_id (by omega) (by omega), z_gl_ul (by omega)]
    have g2 := z_CG_mv (q := p1 + 1) g1 (by omega) (by omega)
    show z_CK e (d' + 6) c 2 o 0 _ _
    refine z_CI_go (b' := b + c1.length) ih g2 rfl (by omega) (by show 8 * (N - (p1 + 1)) + 5 ≤ (n : Int); omega) (by show 8 * (N - (p1 + 1)) + 5 + 20 ≤ _; omega) ho (by omega) (fun f s3 e2 pf h3 => ⟨fun z => absurd rfl z, fun _ => hl f s3 (by rw [z_ps_C, e1, z_bd_inr, if_pos hpos, e2, z_bd_inl]) pf h3⟩) (fun p2 c2 s3 e2 r0 r1 r2 r3 g3 => ⟨fun _ => ⟨fun q => ?_, fun q => ?_⟩, fun z => by omega⟩)
    · refine s_T_pu (d := d' + 5) (op' := 10) (x' := 0) g3 (by rw [List.length_append]; omega) (by omega) (by omega) (by decide) (by decide) (fun g4 => hr p2 (c1 ++ (c2 ++ [(10, 0)])) _ (by rw [z_ps_C, e1, z_bd_inr, if_pos hpos, e2, z_bd_inr, if_neg q]) ?_)
      rw [List.append_assoc] at g4; exact g4
    · refine s_T_pu (d := d' + 5) (op' := 9) (x' := 0) g3 (by rw [List.length_append]; omega) (by omega) (by omega) (by decide) (by decide) (fun g4 => hr p2 (c1 ++ (c2 ++ [(9, 0)])) _ (by rw [z_ps_C, e1, z_bd_inr, if_pos hpos, e2, z_bd_inr, if_pos q]) ?_)
      rw [List.append_assoc] at g4; exact g4
  exact s_R_ahead (d := d' + 5) g1.1 ⟨fun q => rest (Or.inl q), fun q => ⟨fun q2 => rest (Or.inr q2), fun q2 => hr p1 c1 s1 (by rw [z_ps_C, e1, z_bd_inr, if_neg (by omega)]) g1⟩⟩
theorem s_R_pS (ih : z_CI e c g N n) (hm : 8 * (N - p) + 5 ≤ ((n + 1 : Nat) : Int)) (hd : 8 * (N - p) + 5 + 20 ≤ (d : Int)) (ho : 0 ≤ o ∧ o ≤ 5) (hs : z_CS g N s b p) (hl : ∀ f s', z_ps g N (n + 1) 2 o b p = some (.inl f) → z_CFr s s' → s' 3 3 = f → Q 0 (z_gl s' c)) (hr : ∀ q cs s', z_ps g N (n + 1) 2 o b p = some (.inr (q, cs)) → z_CG g N s s' b q cs → Q 1 (z_gl s' c)) : z_CK e d c 2 o i s Q := by
  obtain ⟨d', rfl⟩ : ∃ d', d = d' + 7 := ⟨d - 7, by have := hs.2.2.1; omega⟩
  have P0 := z_CG_0 hs
  have hp := hs.2.2.1
  refine b_R_readSum_0 (d := d' + 6) ?_
  show z_CK e (d' + 6) c 3 o 0 s _
  refine z_CI_go (b' := b) ih P0 (by show b + ((0 : Nat) : Int) = b; omega) (by omega) (by show 8 * (N - p) + 4 ≤ (n : Int); omega) (by show 8 * (N - p) + 4 + 20 ≤ _; omega) ho (by omega) (fun f s1 e1 pf h3 => ⟨fun z => absurd rfl z, fun _ => hl f s1 (by rw [z_ps_S, e1, z_bd_inl]) pf h3⟩) (fun p1 c1 s1 e1 q0 q1 q2 q3 g1 => ⟨fun _ => ?_, fun z => by omega⟩)
  have g1 : z_CG g N s s1 b p1 c1 := g1
  show z_CK e (d' + 6) c 5 o 0 s1 _
  exact z_CI_go (b' := b + c1.length) ih g1 rfl (by omega) (by show 8 * (N - p1) + 1 ≤ (n : Int); omega) (by show 8 * (N - p1) + 1 + 20 ≤ _; omega) ho (by omega) (fun f s3 e2 pf h3 => hl f s3 (by rw [z_ps_S, e1, z_bd_inr, e2, z_bd_inl]) pf h3) (fun p2 c2 s3 e2 r0 r1 r2 r3 g3 => hr p2 (c1 ++ c2) s3 (by rw [z_ps_S, e1, z_bd_inr, e2, z_bd_inr]) g3)
theorem s_R_pP (ih : z_CI e c g N n) (hm : 8 * (N - p) + 4 ≤ ((n + 1 : Nat) : Int)) (hd : 8 * (N - p) + 4 + 20 ≤ (d : Int)) (ho : 0 ≤ o ∧ o ≤ 5) (hs : z_CS g N s b p) (hl : ∀ f s', z_ps g N (n + 1) 3 o b p = some (.inl f) → z_CFr s s' → s' 3 3 = f → Q 0 (z_gl s' c)) (hr : ∀ q cs s', z_ps g N (n + 1) 3 o b p = some (.inr (q, cs)) → z_CG g N s s' b q cs → Q 1 (z_gl s' c)) : z_CK e d c 3 o i s Q := by
  obtain ⟨d', rfl⟩ : ∃ d', d = d' + 7 := ⟨d - 7, by have := hs.2.2.1; omega⟩
  have P0 := z_CG_0 hs
  have hp := hs.2.2.1
  refine b_R_readProduct_0 (d := d' + 6) ?_
  show z_CK e (d' + 6) c 4 o 0 s _
  refine z_CI_go (b' := b) ih P0 (by show b + ((0 : Nat) : Int) = b; omega) (by omega) (by show 8 * (N - p) + 3 ≤ (n : Int); omega) (by show 8 * (N - p) + 3 + 20 ≤ _; omega) ho (by omega) (fun f s1 e1 pf h3 => ⟨fun z => absurd rfl z, fun _ => hl f s1 (by rw [z_ps_P, e1, z_bd_inl]) pf h3⟩) (fun p1 c1 s1 e1 q0 q1 q2 q3 g1 => ⟨fun _ => ?_, fun z => by omega⟩)
  have g1 : z_CG g N s s1 b p1 c1 := g1
  show z_CK e (d' + 6) c 6 o 0 s1 _
  exact z_CI_go (b' := b + c1.length) ih g1 rfl (by omega) (by show 8 * (N - p1) + 1 ≤ (n : Int); omega) (by show 8 * (N - p1) + 1 + 20 ≤ _; omega) ho (by omega) (fun f s3 e2 pf h3 => hl f s3 (by rw [z_ps_P, e1, z_bd_inr, e2, z_bd_inl]) pf h3) (fun p2 c2 s3 e2 r0 r1 r2 r3 g3 => hr p2 (c1 ++ c2) s3 (by rw [z_ps_P, e1, z_bd_inr, e2, z_bd_inr]) g3)
theorem s_R_pR (ih : z_CI e c g N n) (hm : 8 * (N - p) + 1 ≤ ((n + 1 : Nat) : Int)) (hd : 8 * (N - p) + 1 + 20 ≤ (d : Int)) (ho : 0 ≤ o ∧ o ≤ 5) (hi : 0 ≤ i ∧ i ≤ p) (hs : z_CS g N s b p) (hl : ∀ f s', z_ps g N (n + 1) 5 o b p = some (.inl f) → z_CFr s s' → s' 3 3 = f → Q 0 (z_gl s' c)) (hr : ∀ q cs s', z_ps g N (n + 1) 5 o b p = some (.inr (q, cs)) → z_CG g N s s' b q cs → Q 1 (z_gl s' c)) : z_CK e d c 5 o i s Q := by
  obtain ⟨d', rfl⟩ : ∃ d', d = d' + 7 := ⟨d - 7, by have := hs.2.2.1; omega⟩
  have P0 := z_CG_0 hs
  have hp := hs.2.2.1
  have hb := hs.2.2.2.1
  have hN := hs.2.1
  have rest : z_pk g N p = 43 ∨ z_pk g N p = 45 → z_T e (d' + 7) m_R_readSum 36 [some (z_R 3), some (z_I o), some (z_I i), none] (z_gl s c) Q := fun hpos => by
    have l1 : p < N := by rcases hpos with q | q <;> exact z_pk_lt q (by decide)
    refine b_R_readSum_36 (s_R_ahead (d := d' + 6) hs ?_)
    rw [z_gl_lo (by omega), hp.1, z_wr_id (x := p + 1) (by omega) (by omega), z_gl_ul (by omega)]
    have g2 := z_CG_mv (q := p + 1) P0 (by omega) (by omega)
    show z_CK e (d' + 7) c 3 o 0 _ _
    refine z_CI_go (b' := b) ih g2 (by show b + ((0 : Nat) : Int) = b; omega) (by omega) (by show 8 * (N - (p + 1)) + 4 ≤ (n : Int); omega) (by show 8 * (N - (p + 1)) + 4 + 20 ≤ _; omega) ho (by omega) (fun f s3 e2 pf h3 => ⟨fun z => absurd rfl z, fun _ => hl f s3 (by rw [z_ps_R, if_pos hpos, e2, z_bd_inl]) pf h3⟩) (fun p2 c2 s3 e2 r0 r1 r2 r3 g3 => ?_)
    have g3 : z_CG g N s s3 b p2 c2 := g3
    have go : ∀ (op x : Int), (op = 7 ∧ x = 5 ∨ op = 8 ∧ x = 6) → x = (if z_pk g N p = 43 then 5 else 6) → z_C e (d' + 7) m_T_put [z_R 5, z_I op, z_I 0] (z_gl s3 c) (fun _ σ3 => z_T e (d' + 7) m_R_readSum 12 [some (z_R 3), some (z_I o), some (z_I (z_wr (i + 1))), none] σ3 Q) := fun op x hox hx => by
      rw [z_wr_id (by omega) (by omega)]
      refine s_T_pu (d := d' + 6) (op' := x) (x' := 0) g3 (by omega) (by omega) (by omega) (by rcases hox with ⟨rfl, rfl⟩ | ⟨rfl, rfl⟩ <;> decide) (by omega) (fun g4 => ?_)
      show z_CK e (d' + 7) c 5 o (i + 1) _ _
      refine z_CI_go (b' := b + c2.length + 1) ih g4 (by rw [List.length_append]; show b + ((c2.length + 1 : Nat) : Int) = _; omega) (by omega) (by show 8 * (N - p2) + 1 ≤ (n : Int); omega) (by show 8 * (N - p2) + 1 + 20 ≤ _; omega) ho (by omega) (fun f s5 e3 pf h3 => hl f s5 (by rw [z_ps_R, if_pos hpos, e2, z_bd_inr, e3, z_bd_inl]) pf h3) (fun p3 c3 s5 e3 v0 v1 v2 v3 g5 => hr p3 (c2 ++ (x, 0) :: c3) s5 (by rw [z_ps_R, if_pos hpos, e2, z_bd_inr, e3, z_bd_inr, hx]) ?_)
      rw [show (c2 ++ [(x, (0 : Int))]) ++ c3 = c2 ++ (x, 0) :: c3 by simp] at g5
      exact g5
    exact ⟨fun _ => ⟨fun q => go 8 6 (Or.inr ⟨rfl, rfl⟩) (by rw [if_neg q]), fun q => go 7 5 (Or.inl ⟨rfl, rfl⟩) (by rw [if_pos q])⟩, fun z => by omega⟩
  refine b_R_readSum_12 ⟨fun q => ?_, fun q => s_R_ahead (d := d' + 6) hs ⟨fun q1 => rest (Or.inl q1), fun q1 => s_R_ahead (d := d' + 6) hs ⟨fun q2 => hr p [] s (by rw [z_ps_R, if_neg (by omega)]) P0, fun q2 => rest (Or.inr q2)⟩⟩⟩
  have hpk : z_pk g N p = -1 := if_neg (by omega)
  exact hr p [] s (by rw [z_ps_R, if_neg (by omega)]) P0
end RE
