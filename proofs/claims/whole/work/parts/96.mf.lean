/-! the reference's reader against the function: E, the bracket -/
section MF
variable {e : z_E} {c t t1 : z_M} {Q : Int → z_M → Prop} {g : Int → Int} {N o b p : Int} {c1 : z_Cd} {n d : Nat}
theorem s_M_pB (ih : z_MI e c g N n) (h0 : 0 ≤ p) (hm : 8 * (N - p) + 2 ≤ ((n + 1 : Nat) : Int)) (hd : n + 21 ≤ d) (hs : z_PS g N t o b (p + 1)) (hpk : z_pk g N p = 40) (hq : ∀ w t', z_ps g N (n + 1) 7 o b p = some w → z_PM g N t o b w t' → Q 0 (z_gl c t')) : z_MS e d c 7 t Q := by
  obtain ⟨d', rfl⟩ : ∃ d', d = d' + 7 := ⟨d - 7, by omega⟩
  have P0 := z_PG_0 hs
  have hp := hs.2.2.1
  have h9 := hs.2.2.2.1
  have h10 := hs.2.2.2.2.1
  refine b_M_readsBracket_0 (d := d' + 6) ?_
  rw [z_gl_hi (by omega), h9]
  refine ⟨fun _ => s_M_op (d := d' + 4) P0 (fun o5 g2 => ?_) (fun o5 => ?_), fun z => by omega⟩
  · show z_MS e (d' + 6) c 0 _ _
    refine z_MI_go (b' := b) ih g2 (by show b + ((0 : Nat) : Int) = b; omega) (by omega) (by show 8 * (N - (p + 1)) + 7 ≤ (n : Int); omega) (by omega) (fun f t2 e1 f0 f1 pf h9 h10 => ?_) (fun p1 c1 t2 e1 q0 q1 q2 q3 g3 => ?_)
    · refine s_M_wantsF (d := d' + 4) (by omega) ?_
      rw [z_gl_hi (by omega), h10, z_wr_id (by omega) (by omega), z_gl_up (by omega), show o + 1 - 1 = o by omega]
      exact hq (.inl f) _ (by rw [z_ps_B, if_pos hpk, if_neg (by omega), e1, z_bd_inl]) ⟨z_PF_tr pf (z_PF_up (by omega)), by rw [z_up_ne (by omega)]; exact h9, z_up_eq⟩
    · have g3 : z_PG g N t t2 (o + 1) b p1 c1 := g3
      refine s_M_wn (d := d' + 3) g3 (by decide) (fun x2 l2 g4 => ?_) (fun x2 => ?_)
      · have a10 := (z_PG_at g4).2.2.1
        rw [z_gl_hi (by omega), a10, z_wr_id (by omega) (by omega), z_gl_up (by omega), show o + 1 - 1 = o by omega]
        exact hq (.inr (p1 + 1, c1)) _ (by rw [z_ps_B, if_pos hpk, if_neg (by omega), e1, z_bd_inr, if_pos x2]) (z_PG_op2 g4 (by omega))
      · have a10 := (z_PG_at g3).2.2.1
        rw [z_gl_hi (by omega), z_up_ne (by omega), a10, z_wr_id (by omega) (by omega), z_gl_up (by omega), show o + 1 - 1 = o by omega]
        exact hq (.inl p1) _ (by rw [z_ps_B, if_pos hpk, if_neg (by omega), e1, z_bd_inr, if_neg x2]) ⟨z_PF_tr g3.2.1 (z_PF_tr (z_PF_up (by omega)) (z_PF_up (by omega))), by rw [z_up_ne (by omega), z_up_eq], z_up_eq⟩
  · -- too many are open
    have o1 : o = 5 := by omega
    rw [show p + 1 - 1 = p by omega]
    have f9 : z_up (z_up t 701 9 p) 701 10 (o + 1) 701 9 = p := by rw [z_up_ne (by omega), z_up_eq]
    have f10 : z_up (z_up t 701 9 p) 701 10 (o + 1) 701 10 = o + 1 := z_up_eq
    refine s_M_wholeF (d := d') (by omega) (s_M_wantsF (d := d' + 4) (by omega) ?_)
    rw [z_gl_hi (by omega), f10, z_wr_id (by omega) (by omega), z_gl_up (by omega), show o + 1 - 1 = o by omega]
    exact hq (.inl p) _ (by rw [z_ps_B, if_pos hpk, if_pos o5]) ⟨z_PF_tr (z_PF_tr (z_PF_up (by omega)) (z_PF_up (by omega))) (z_PF_up (by omega)), by rw [z_up_ne (by omega)]; exact f9, z_up_eq⟩
theorem s_M_pE (ih : z_MI e c g N n) (hm : 8 * (N - p) + 7 ≤ ((n + 1 : Nat) : Int)) (hd : n + 21 ≤ d) (hs : z_PS g N t o b p) (hq : ∀ w t', z_ps g N (n + 1) 0 o b p = some w → z_PM g N t o b w t' → Q 0 (z_gl c t')) : z_MS e d c 0 t Q := by
  obtain ⟨d', rfl⟩ : ∃ d', d = d' + 7 := ⟨d - 7, by omega⟩
  have P0 := z_PG_0 hs
  have hp := hs.2.2.1
  have h10 := hs.2.2.2.2.1
  have hb := hs.2.2.2.2.2.1
  refine b_M_readsWhole_0 (d := d' + 6) ?_
  show z_MS e (d' + 6) c 1 t _
  refine z_MI_go (b' := b) ih P0 (by show b + ((0 : Nat) : Int) = b; omega) (by omega) (by show 8 * (N - p) + 6 ≤ (n : Int); omega) (by omega) (fun f t1 e1 f0 f1 pf h9 h10 => ?_) (fun p1 c1 t1 e1 q0 q1 q2 q3 g1 => ?_)
  · exact s_M_takesF (d := d' + 5) (by omega) ⟨fun z => absurd rfl z, fun _ => hq (.inl f) t1 (by rw [z_ps_E, e1, z_bd_inl]) ⟨pf, h9, h10⟩⟩
  have g1 : z_PG g N t t1 o b p1 c1 := g1
  refine s_M_tk (d := d' + 4) g1 (by decide) (fun x1 l1 g2 => ⟨fun _ => s_M_op (d := d' + 4) g2 (fun o5 g3 => ?_) (fun o5 => ?_), fun z => by omega⟩) (fun x1 => ⟨fun z => absurd rfl z, fun _ => hq (.inr (p1, c1)) t1 (by rw [z_ps_E, e1, z_bd_inr, if_neg x1]) g1⟩)
  · -- the choice
    have s6 := (z_PG_at g3).2.2.2.1
    have s5 := (z_PG_at g3).2.2.2.2.2.1
    rw [z_gl_hi (by omega), s6, z_wr_id (x := 2 * (b + (c1.length : Int)) + 1) (by omega) (by omega)]
    refine s_M_wr (d := d' + 5) g3 (by omega) (fun g4 => ?_)
    show z_MS e (d' + 6) c 0 _ _
    refine z_MI_go (b' := b + c1.length + 1) ih g4 (by rw [List.length_append]; show b + ((c1.length + 1 : Nat) : Int) = _; omega) (by omega) (by show 8 * (N - (p1 + 1)) + 7 ≤ (n : Int); omega) (by omega) (fun f t5 e2 f0 f1 pf h9 h10 => ?_) (fun p2 c2 t5 e2 r0 r1 r2 r3 g5 => ?_)
    · refine s_M_wantsF (d := d' + 4) (by omega) ?_
      rw [z_gl_hi (by omega), h10, z_wr_id (x := o + 1 - 1) (by omega) (by omega), z_gl_up (by omega), show o + 1 - 1 = o by omega]
      have f9 : z_up t5 701 10 o 701 9 = f := by rw [z_up_ne (by omega)]; exact h9
      refine s_M_writesF (d := d' + 5) (by omega) ?_
      rw [z_gl_hi (by omega), f9]
      exact ⟨fun z => by omega, fun _ => hq (.inl f) _ (by rw [z_ps_E, e1, z_bd_inr, if_pos x1, if_neg (by omega), e2, z_bd_inl]) ⟨z_PF_tr pf (z_PF_up (by omega)), f9, z_up_eq⟩⟩
    · refine s_M_wn (d := d' + 3) g5 (by decide) (fun x2 l2 g6 => ?_) (fun x2 => ?_)
      · have a10 := (z_PG_at g6).2.2.1
        rw [z_gl_hi (by omega), a10, z_wr_id (x := o + 1 - 1) (by omega) (by omega), z_gl_up (by omega), show o + 1 - 1 = o by omega]
        have g7 := z_PG_op2 (o1 := o) g6 (by omega)
        have hl : (((c1 ++ [((12 : Int), (0 : Int))]) ++ c2).length : Int) = c1.length + 1 + c2.length := by rw [List.length_append, List.length_append]; show ((c1.length + 1 + c2.length : Nat) : Int) = _; omega
        have b6 := (z_PG_at g7).2.2.2.1
        rw [hl] at b6
        rw [z_gl_hi (by omega), b6, z_wr_id (x := 2 * (b + (c1.length + 1 + c2.length : Int)) + 1) (by omega) (by omega)]
        refine s_M_wr (d := d' + 5) g7 (by rw [hl]; omega) (fun g8 => ?_)
        have c9 := (z_PG_at g8).2.1
        have c6 := (z_PG_at g8).2.2.2.1
        rw [z_gl_hi (by omega), c9]
        refine ⟨fun _ => ⟨by omega, ?_⟩, fun z => by omega⟩
        rw [z_gl_hi (by omega), c6, z_gl_up (by omega)]
        rw [show ((c1 ++ [((12 : Int), (0 : Int))]) ++ c2) ++ [((13 : Int), (0 : Int))] = c1 ++ ((12 : Int), (0 : Int)) :: (c2 ++ [((13 : Int), (0 : Int))]) by simp] at g8 ⊢
        have hl2 : ((c1 ++ ((12 : Int), (0 : Int)) :: (c2 ++ [((13 : Int), (0 : Int))])).length : Int) = c1.length + 1 + c2.length + 1 := by simp only [List.length_append, List.length_cons, List.length_nil]; omega
        rw [hl2]
        have g9 := z_PG_pt (v := 2 * (b + (c1.length + 1 + c2.length + 1 : Int))) g8 rfl
        have hl3 : ((c1 ++ ((12 : Int), 2 * (b + (c1.length + 1 + c2.length + 1 : Int))) :: (c2 ++ [((13 : Int), (0 : Int))])).length : Int) = c1.length + 1 + c2.length + 1 := by simp only [List.length_append, List.length_cons, List.length_nil]; omega
        show z_MS e (d' + 6) c 0 _ _
        refine z_MI_go (b' := b + c1.length + 1 + c2.length + 1) ih g9 (by rw [hl3]; omega) (by omega) (by show 8 * (N - (p2 + 1)) + 7 ≤ (n : Int); omega) (by omega) (fun f t9 e3 f0 f1 pf h9 h10 => ?_) (fun p3 c3 t9 e3 v0 v1 v2 v3 g10 => ?_)
        · refine ⟨by omega, ?_⟩
          rw [z_gl_up (by omega)]
          exact hq (.inl f) _ (by rw [z_ps_E, e1, z_bd_inr, if_pos x1, if_neg (by omega), e2, z_bd_inr, if_pos x2, e3, z_bd_inl]) ⟨z_PF_tr pf z_PF_u6, by rw [z_up_ne (by omega)]; exact h9, by rw [z_up_ne (by omega)]; exact h10⟩
        · refine ⟨by omega, ?_⟩
          have d6 := (z_PG_at g10).2.2.2.1
          rw [z_gl_hi (by omega), d6, z_gl_up (by omega)]
          rw [show (c1 ++ ((12 : Int), 2 * (b + (c1.length + 1 + c2.length + 1 : Int))) :: (c2 ++ [((13 : Int), (0 : Int))])) ++ c3 = (c1 ++ ((12 : Int), 2 * (b + (c1.length + 1 + c2.length + 1 : Int))) :: c2) ++ ((13 : Int), (0 : Int)) :: c3 by simp] at g10 ⊢
          have hl4 : (((c1 ++ ((12 : Int), 2 * (b + (c1.length + 1 + c2.length + 1 : Int))) :: c2) ++ ((13 : Int), (0 : Int)) :: c3).length : Int) = c1.length + 1 + c2.length + 1 + c3.length := by simp only [List.length_append, List.length_cons]; omega
          rw [hl4]
          have g11 := z_PG_pt (v := 2 * (b + (c1.length + 1 + c2.length + 1 + c3.length : Int))) (j := 2 * (b + (c1.length + 1 + c2.length : Int)) + 1) g10 (by simp only [List.length_append, List.length_cons]; omega)
          refine hq (.inr (p3, c1 ++ (12, 2 * (b + c1.length + 1 + c2.length + 1)) :: (c2 ++ (13, 2 * (b + c1.length + 1 + c2.length + 1 + c3.length)) :: c3))) _ (by rw [z_ps_E, e1, z_bd_inr, if_pos x1, if_neg (by omega), e2, z_bd_inr, if_pos x2, e3, z_bd_inr]) ?_
          rw [show c1 ++ (12, 2 * (b + c1.length + 1 + c2.length + 1)) :: (c2 ++ (13, 2 * (b + c1.length + 1 + c2.length + 1 + c3.length)) :: c3) = (c1 ++ ((12 : Int), 2 * (b + (c1.length + 1 + c2.length + 1 : Int))) :: c2) ++ ((13 : Int), 2 * (b + (c1.length + 1 + c2.length + 1 + c3.length : Int))) :: c3 by rw [show b + (c1.length + 1 + c2.length + 1 : Int) = b + c1.length + 1 + c2.length + 1 by omega, show b + (c1.length + 1 + c2.length + 1 + c3.length : Int) = b + c1.length + 1 + c2.length + 1 + c3.length by omega]; simp]
          exact g11
      · have a10 := (z_PG_at g5).2.2.1
        rw [z_gl_hi (by omega), z_up_ne (by omega), a10, z_wr_id (x := o + 1 - 1) (by omega) (by omega), z_gl_up (by omega), show o + 1 - 1 = o by omega]
        have f9 : z_up (z_up t5 701 9 p2) 701 10 o 701 9 = p2 := by rw [z_up_ne (by omega), z_up_eq]
        refine s_M_writesF (d := d' + 5) (by omega) ?_
        rw [z_gl_hi (by omega), f9]
        exact ⟨fun z => by omega, fun _ => hq (.inl p2) _ (by rw [z_ps_E, e1, z_bd_inr, if_pos x1, if_neg (by omega), e2, z_bd_inr, if_neg x2]) ⟨z_PF_tr g5.2.1 (z_PF_tr (z_PF_up (by omega)) (z_PF_up (by omega))), f9, z_up_eq⟩⟩
  · -- too many are open
    rw [show p1 + 1 - 1 = p1 by omega]
    have hpf := g2.2.1
    generalize z_up t1 701 8 (p1 + 1) = t2 at hpf ⊢
    have f9 : z_up (z_up t2 701 9 p1) 701 10 (o + 1) 701 9 = p1 := by rw [z_up_ne (by omega), z_up_eq]
    have f10 : z_up (z_up t2 701 9 p1) 701 10 (o + 1) 701 10 = o + 1 := z_up_eq
    refine s_M_writesF (d := d' + 5) (by omega) (s_M_wholeF (d := d') (by omega) (s_M_wantsF (d := d' + 4) (by omega) ?_))
    rw [z_gl_hi (by omega), f10, z_wr_id (x := o + 1 - 1) (by omega) (by omega), z_gl_up (by omega), show o + 1 - 1 = o by omega]
    have f9' : z_up (z_up (z_up t2 701 9 p1) 701 10 (o + 1)) 701 10 o 701 9 = p1 := by rw [z_up_ne (by omega)]; exact f9
    refine s_M_writesF (d := d' + 5) (by omega) ?_
    rw [z_gl_hi (by omega), f9']
    exact ⟨fun z => by omega, fun _ => hq (.inl p1) _ (by rw [z_ps_E, e1, z_bd_inr, if_pos x1, if_pos o5]) ⟨z_PF_tr hpf (z_PF_tr (z_PF_tr (z_PF_up (by omega)) (z_PF_up (by omega))) (z_PF_up (by omega))), f9', z_up_eq⟩⟩
end MF
