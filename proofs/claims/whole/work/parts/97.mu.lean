/-! the reference's reader against the function: the rests, U, all -/
section MU
variable {e : z_E} {c t t1 : z_M} {Q : Int → z_M → Prop} {g : Int → Int} {N o b p : Int} {c1 : z_Cd} {n d : Nat}
theorem s_M_pR (ih : z_MI e c g N n) (hm : 8 * (N - p) + 1 ≤ ((n + 1 : Nat) : Int)) (hd : n + 21 ≤ d) (hs : z_PS g N t o b p) (hq : ∀ w t', z_ps g N (n + 1) 5 o b p = some w → z_PM g N t o b w t' → Q 0 (z_gl c t')) : z_MS e d c 5 t Q := by
  obtain ⟨d', rfl⟩ : ∃ d', d = d' + 7 := ⟨d - 7, by omega⟩
  have P0 := z_PG_0 hs
  have hp := hs.2.2.1
  have h9 := hs.2.2.2.1
  have hb := hs.2.2.2.2.2.1
  have hN := hs.2.1
  have sub : ∀ x : Int, (z_pk g N p = 43 ∧ x = 5 ∨ ¬ z_pk g N p = 43 ∧ z_pk g N p = 45 ∧ x = 6) → p < N → z_PG g N t (z_up t 701 8 (p + 1)) o b (p + 1) [] → z_C e (d' + 7) m_M_readsProduct [z_R 701] (z_gl c (z_up t 701 8 (p + 1))) (fun _ σ2 => z_C e (d' + 7) m_M_writes [z_R 701, z_I x, z_I 0] σ2 (fun _ σ3 => z_T e (d' + 7) m_M_readsSum 4 [some (z_R 701), none] σ3 Q)) := fun x hx l1 g2 => by
    have hpos : z_pk g N p = 43 ∨ z_pk g N p = 45 := by omega
    have hxx : x = if z_pk g N p = 43 then 5 else 6 := by
      rcases hx with ⟨h1, h2⟩ | ⟨h1, -, h2⟩
      · rw [if_pos h1]; exact h2
      · rw [if_neg h1]; exact h2
    show z_MS e (d' + 7) c 3 _ _
    refine z_MI_go (b' := b) ih g2 (by show b + ((0 : Nat) : Int) = b; omega) (by omega) (by show 8 * (N - (p + 1)) + 4 ≤ (n : Int); omega) (by omega) (fun f t3 e2 f0 f1 pf h9 h10 => ?_) (fun p2 c2 t3 e2 r0 r1 r2 r3 g3 => ?_)
    · refine s_M_writesF (d := d' + 6) (by omega) (b_M_readsSum_4 ?_)
      rw [z_gl_hi (by omega), h9]
      exact ⟨fun _ => hq (.inl f) t3 (by rw [z_ps_R, if_pos hpos, e2, z_bd_inl]) ⟨pf, h9, h10⟩, fun z => by omega⟩
    · have g3 : z_PG g N t t3 o b p2 c2 := g3
      refine s_M_wr (d := d' + 6) g3 (by omega) (fun g4 => ?_)
      show z_MS e (d' + 7) c 5 _ _
      refine z_MI_go (b' := b + c2.length + 1) ih g4 (by rw [List.length_append]; show b + ((c2.length + 1 : Nat) : Int) = _; omega) (by omega) (by show 8 * (N - p2) + 1 ≤ (n : Int); omega) (by omega) (fun f t5 e3 f0 f1 pf h9 h10 => ?_) (fun p3 c3 t5 e3 v0 v1 v2 v3 g5 => ?_)
      · exact hq (.inl f) t5 (by rw [z_ps_R, if_pos hpos, e2, z_bd_inr, e3, z_bd_inl]) ⟨pf, h9, h10⟩
      · refine hq (.inr (p3, c2 ++ (x, 0) :: c3)) t5 (by rw [z_ps_R, if_pos hpos, e2, z_bd_inr, e3, z_bd_inr, hxx]) ?_
        rw [show (c2 ++ [(x, (0 : Int))]) ++ c3 = c2 ++ (x, 0) :: c3 by simp] at g5
        exact g5
  refine b_M_readsSum_4 ?_
  rw [z_gl_hi (by omega), h9]
  refine ⟨fun z => by omega, fun _ => s_M_pkk (d := d' + 6) P0 ⟨fun q1 => b_M_readsSum_29 (s_M_tk (d := d' + 5) P0 (by decide) (fun x1 l1 g2 => ⟨fun z => by omega, fun _ => ?_⟩) (fun x1 => absurd q1 x1)), fun q1 => s_M_pkk (d := d' + 6) P0 ⟨fun q2 => hq (.inr (p, [])) t (by rw [z_ps_R, if_neg (by omega)]) P0, fun q2 => b_M_readsSum_29 (s_M_tk (d := d' + 5) P0 (by decide) (fun x1 l1 g2 => absurd x1 q1) (fun x1 => ⟨fun _ => ?_, fun z => absurd rfl z⟩))⟩⟩⟩
  · have a8 : z_up t 701 8 (p + 1) 701 8 = p + 1 := z_up_eq
    rw [z_gl_hi (by omega), a8, show p + 1 + 0 = p + 1 by omega, z_wr_id (by omega) (by omega), z_gl_up (by omega), z_up_up]
    simp only [show ¬ ((1 : Int) = 0) by decide, false_imp_iff, not_false_iff, true_imp_iff, true_and]
    exact sub 5 (Or.inl ⟨x1, rfl⟩) l1 g2
  · have l1 := z_pk_lt q2 (by decide)
    rw [z_gl_hi (by omega), hp.1, z_wr_id (by omega) (by omega), z_gl_up (by omega)]
    simp only [not_true, false_imp_iff, true_imp_iff, and_true]
    exact sub 6 (Or.inr ⟨q1, q2, rfl⟩) l1 (z_PG_mv hs (by omega) (by omega))
theorem s_M_pT (ih : z_MI e c g N n) (hm : 8 * (N - p) + 1 ≤ ((n + 1 : Nat) : Int)) (hd : n + 21 ≤ d) (hs : z_PS g N t o b p) (hq : ∀ w t', z_ps g N (n + 1) 6 o b p = some w → z_PM g N t o b w t' → Q 0 (z_gl c t')) : z_MS e d c 6 t Q := by
  obtain ⟨d', rfl⟩ : ∃ d', d = d' + 7 := ⟨d - 7, by omega⟩
  have P0 := z_PG_0 hs
  have hp := hs.2.2.1
  have h9 := hs.2.2.2.1
  have hb := hs.2.2.2.2.2.1
  have hN := hs.2.1
  have sub : ∀ x : Int, (z_pk g N p = 42 ∧ x = 7 ∨ ¬ z_pk g N p = 42 ∧ z_pk g N p = 47 ∧ x = 8) → p < N → z_PG g N t (z_up t 701 8 (p + 1)) o b (p + 1) [] → z_C e (d' + 7) m_M_readsUnit [z_R 701] (z_gl c (z_up t 701 8 (p + 1))) (fun _ σ2 => z_C e (d' + 7) m_M_writes [z_R 701, z_I x, z_I 0] σ2 (fun _ σ3 => z_T e (d' + 7) m_M_readsProduct 4 [some (z_R 701), none] σ3 Q)) := fun x hx l1 g2 => by
    have hpos : z_pk g N p = 42 ∨ z_pk g N p = 47 := by omega
    have hxx : x = if z_pk g N p = 42 then 7 else 8 := by
      rcases hx with ⟨h1, h2⟩ | ⟨h1, -, h2⟩
      · rw [if_pos h1]; exact h2
      · rw [if_neg h1]; exact h2
    show z_MS e (d' + 7) c 4 _ _
    refine z_MI_go (b' := b) ih g2 (by show b + ((0 : Nat) : Int) = b; omega) (by omega) (by show 8 * (N - (p + 1)) + 3 ≤ (n : Int); omega) (by omega) (fun f t3 e2 f0 f1 pf h9 h10 => ?_) (fun p2 c2 t3 e2 r0 r1 r2 r3 g3 => ?_)
    · refine s_M_writesF (d := d' + 6) (by omega) (b_M_readsProduct_4 ?_)
      rw [z_gl_hi (by omega), h9]
      exact ⟨fun _ => hq (.inl f) t3 (by rw [z_ps_T, if_pos hpos, e2, z_bd_inl]) ⟨pf, h9, h10⟩, fun z => by omega⟩
    · have g3 : z_PG g N t t3 o b p2 c2 := g3
      refine s_M_wr (d := d' + 6) g3 (by omega) (fun g4 => ?_)
      show z_MS e (d' + 7) c 6 _ _
      refine z_MI_go (b' := b + c2.length + 1) ih g4 (by rw [List.length_append]; show b + ((c2.length + 1 : Nat) : Int) = _; omega) (by omega) (by show 8 * (N - p2) + 1 ≤ (n : Int); omega) (by omega) (fun f t5 e3 f0 f1 pf h9 h10 => ?_) (fun p3 c3 t5 e3 v0 v1 v2 v3 g5 => ?_)
      · exact hq (.inl f) t5 (by rw [z_ps_T, if_pos hpos, e2, z_bd_inr, e3, z_bd_inl]) ⟨pf, h9, h10⟩
      · refine hq (.inr (p3, c2 ++ (x, 0) :: c3)) t5 (by rw [z_ps_T, if_pos hpos, e2, z_bd_inr, e3, z_bd_inr, hxx]) ?_
        rw [show (c2 ++ [(x, (0 : Int))]) ++ c3 = c2 ++ (x, 0) :: c3 by simp] at g5
        exact g5
  refine b_M_readsProduct_4 ?_
  rw [z_gl_hi (by omega), h9]
  refine ⟨fun z => by omega, fun _ => s_M_pkk (d := d' + 6) P0 ⟨fun q1 => b_M_readsProduct_29 (s_M_tk (d := d' + 5) P0 (by decide) (fun x1 l1 g2 => ⟨fun z => by omega, fun _ => ?_⟩) (fun x1 => absurd q1 x1)), fun q1 => s_M_pkk (d := d' + 6) P0 ⟨fun q2 => hq (.inr (p, [])) t (by rw [z_ps_T, if_neg (by omega)]) P0, fun q2 => b_M_readsProduct_29 (s_M_tk (d := d' + 5) P0 (by decide) (fun x1 l1 g2 => absurd x1 q1) (fun x1 => ⟨fun _ => ?_, fun z => absurd rfl z⟩))⟩⟩⟩
  · have a8 : z_up t 701 8 (p + 1) 701 8 = p + 1 := z_up_eq
    rw [z_gl_hi (by omega), a8, show p + 1 + 0 = p + 1 by omega, z_wr_id (by omega) (by omega), z_gl_up (by omega), z_up_up]
    simp only [show ¬ ((1 : Int) = 0) by decide, false_imp_iff, not_false_iff, true_imp_iff, true_and]
    exact sub 7 (Or.inl ⟨x1, rfl⟩) l1 g2
  · have l1 := z_pk_lt q2 (by decide)
    rw [z_gl_hi (by omega), hp.1, z_wr_id (by omega) (by omega), z_gl_up (by omega)]
    simp only [not_true, false_imp_iff, true_imp_iff, and_true]
    exact sub 8 (Or.inr ⟨q1, q2, rfl⟩) l1 (z_PG_mv hs (by omega) (by omega))
end MU
