/-! the reference's reader against the function: U, and all -/
section UN
variable {e : z_E} {c t t1 t2 : z_M} {Q : Int → z_M → Prop} {g : Int → Int} {N o o1 o2 b p q1 q2 : Int} {c1 c2 : z_Cd} {n d : Nat}
theorem z_PG_nil (h : z_PG g N t t1 o1 b q1 []) (h2 : z_PG g N t1 t2 o2 b q2 c2) : z_PG g N t t2 o2 b q2 c2 := by
  have h3 := z_PG_tr (c2 := c2) (q2 := q2) (o2 := o2) (t2 := t2) h (by rw [show b + (([] : z_Cd).length : Int) = b by show b + ((0 : Nat) : Int) = b; omega]; exact h2)
  exact h3
theorem z_ps_Bn {q : Int} (hn : 1 ≤ n) (h : ¬ z_pk g N q = 40) : z_ps g N n 7 o b q = some (.inl q) := by
  obtain ⟨m, rfl⟩ : ∃ m, n = m + 1 := ⟨n - 1, by omega⟩
  rw [z_ps_B, if_neg h]
theorem s_M_fg (h : z_PG g N t t1 o b p c1) (h1 : z_dg (z_pk g N p) → z_PG g N t (z_up t1 701 8 (z_nm g N p).1) o b (z_nm g N p).1 c1 → Q (z_nm g N p).2 (z_gl c (z_up t1 701 8 (z_nm g N p).1))) (h0 : ¬ z_dg (z_pk g N p) → Q 0 (z_gl c (z_up t1 701 9 p))) : z_C e (d + 2) m_M_figures [z_R 701] (z_gl c t1) Q := by
  obtain ⟨tg, h9, hpk⟩ := z_PS_tg h.1
  obtain ⟨a8, -⟩ := z_PG_at h
  have e2 := h.1.1.1
  have e3 : t1 703 = g := funext h.1.1.2
  refine s_M_figures h9 tg (fun q => ?_) (fun q => ?_)
  · rw [hpk] at q
    obtain ⟨r1, r2, -⟩ := z_nm_rng q
    rw [e3, e2, a8]
    exact h1 q (z_PG_mv2 h (by omega) r2)
  · rw [hpk] at q; rw [a8]; exact h0 q
theorem s_M_te (h : z_PG g N t t1 o b p c1) (h1 : z_dg (z_pk g N p) → (z_nm g N p).2 < 12 → z_PG g N t (z_up t1 701 8 (z_nm g N p).1) o b (z_nm g N p).1 c1 → Q (z_nm g N p).2 (z_gl c (z_up t1 701 8 (z_nm g N p).1))) (h2 : z_dg (z_pk g N p) → 12 ≤ (z_nm g N p).2 → Q (z_nm g N p).2 (z_gl c (z_up (z_up t1 701 8 (z_nm g N p).1) 701 9 p))) (h0 : ¬ z_dg (z_pk g N p) → Q 0 (z_gl c (z_up t1 701 9 p))) : z_C e (d + 3) m_M_figuresToEleven [z_R 701] (z_gl c t1) Q := by
  obtain ⟨tg, h9, hpk⟩ := z_PS_tg h.1
  obtain ⟨a8, -⟩ := z_PG_at h
  have e2 := h.1.1.1
  have e3 : t1 703 = g := funext h.1.1.2
  refine s_M_toEleven h9 tg (fun q x => ?_) (fun q x => ?_) (fun q => ?_)
  · rw [hpk] at q
    rw [e3, e2, a8] at x ⊢
    obtain ⟨r1, r2, -⟩ := z_nm_rng q
    exact h1 q x (z_PG_mv2 h (by omega) r2)
  · rw [hpk] at q; rw [e3, e2, a8] at x ⊢; exact h2 q x
  · rw [hpk] at q; rw [a8]; exact h0 q
theorem s_M_pU (ih : z_MI e c g N n) (hm : 8 * (N - p) + 3 ≤ ((n + 1 : Nat) : Int)) (hd : n + 21 ≤ d) (hs : z_PS g N t o b p) (hq : ∀ w t', z_ps g N (n + 1) 4 o b p = some w → z_PM g N t o b w t' → Q 0 (z_gl c t')) : z_MS e d c 4 t Q := by
  obtain ⟨d', rfl⟩ : ∃ d', d = d' + 7 := ⟨d - 7, by omega⟩
  have P0 := z_PG_0 hs
  have hp := hs.2.2.1
  have h9 := hs.2.2.2.1
  have h10 := hs.2.2.2.2.1
  have hb := hs.2.2.2.2.2.1
  have hN := hs.2.1
  have l0 : (([] : z_Cd).length : Int) = 0 := rfl
  refine b_M_readsUnit_0 (d := d' + 6) (s_M_tk (d := d' + 4) P0 (by decide) (fun x l1 g2 => ⟨fun z => by omega, fun _ => s_M_op (d := d' + 4) g2 (fun o5 g3 => ?_) (fun o5 => ?_)⟩) (fun n45 => ⟨fun _ => s_M_tk (d := d' + 4) P0 (by decide) (fun x l1 g2 => ⟨fun z => by omega, fun _ => ?_⟩) (fun n40 => ⟨fun _ => s_M_tk (d := d' + 4) P0 (by decide) (fun x l1 g2 => ⟨fun z => by omega, fun _ => ?_⟩) (fun n120 => ⟨fun _ => s_M_tk (d := d' + 4) P0 (by decide) (fun x l1 g2 => ⟨fun z => by omega, fun _ => ?_⟩) (fun n99 => ⟨fun _ => s_M_tk (d := d' + 4) P0 (by decide) (fun x l1 g2 => ⟨fun z => by omega, fun _ => ?_⟩) (fun n102 => ⟨fun _ => ?_, fun z => absurd rfl z⟩), fun z => absurd rfl z⟩), fun z => absurd rfl z⟩), fun z => absurd rfl z⟩), fun z => absurd rfl z⟩))
  · -- less a unit
    show z_MS e (d' + 6) c 4 _ _
    refine z_MI_go (b' := b) ih g3 (by rw [l0]; omega) (by omega) (by show 8 * (N - (p + 1)) + 3 ≤ (n : Int); omega) (by omega) (fun f t3 e1 f0 f1 pf h9 h10 => ?_) (fun p1 c1 t3 e1 q0 q1 q2 q3 g4 => ?_)
    · rw [z_gl_hi (by omega), h10, z_wr_id (by omega) (by omega), z_gl_up (by omega), show o + 1 - 1 = o by omega]
      have f9 : z_up t3 701 10 o 701 9 = f := by rw [z_up_ne (by omega)]; exact h9
      exact s_M_writesF (d := d' + 5) (by omega) (hq (.inl f) _ (by rw [z_ps_U, if_neg (by omega), if_pos x, if_neg (by omega), e1, z_bd_inl]) ⟨z_PF_tr pf (z_PF_up (by omega)), f9, z_up_eq⟩)
    · have g4 : z_PG g N t t3 (o + 1) b p1 c1 := g4
      rw [z_gl_hi (by omega), (z_PG_at g4).2.2.1, z_wr_id (by omega) (by omega), z_gl_up (by omega), show o + 1 - 1 = o by omega]
      exact s_M_wr (d := d' + 5) (z_PG_op2 (o1 := o) g4 (by omega)) (by omega) (fun g5 => hq (.inr (p1, c1 ++ [(11, 0)])) _ (by rw [z_ps_U, if_neg (by omega), if_pos x, if_neg (by omega), e1, z_bd_inr]) g5)
  · -- too many are open
    rw [show p + 1 - 1 = p by omega]
    have hpf := g2.2.1
    generalize z_up t 701 8 (p + 1) = t2 at hpf ⊢
    have f9 : z_up (z_up t2 701 9 p) 701 10 (o + 1) 701 9 = p := by rw [z_up_ne (by omega), z_up_eq]
    have f10 : z_up (z_up t2 701 9 p) 701 10 (o + 1) 701 10 = o + 1 := z_up_eq
    refine s_M_unitF (d := d' + 4) (by omega) ?_
    rw [z_gl_hi (by omega), f10, z_wr_id (x := o + 1 - 1) (by omega) (by omega), z_gl_up (by omega), show o + 1 - 1 = o by omega]
    have f9' : z_up (z_up (z_up t2 701 9 p) 701 10 (o + 1)) 701 10 o 701 9 = p := by rw [z_up_ne (by omega)]; exact f9
    exact s_M_writesF (d := d' + 5) (by omega) (hq (.inl p) _ (by rw [z_ps_U, if_neg (by omega), if_pos x, if_pos o5]) ⟨z_PF_tr hpf (z_PF_tr (z_PF_tr (z_PF_up (by omega)) (z_PF_up (by omega))) (z_PF_up (by omega))), f9', z_up_eq⟩)
  · -- a bracket
    have g2s := g2.1
    rw [l0, Int.add_zero] at g2s
    show z_MS e (d' + 6) c 7 _ _
    refine ih 7 o b p _ (d' + 6) _ (by omega) (by omega) (by omega) (by show 8 * (N - p) + 2 ≤ (n : Int); omega) (by omega) (by rw [if_pos rfl]; exact ⟨g2s, x⟩) (fun w t' e1 ok pm => ?_)
    match w, e1, ok, pm with
    | .inl f, e1, ok, pm => exact hq (.inl f) t' (by rw [z_ps_U, if_pos x]; exact e1) ⟨z_PF_tr g2.2.1 pm.1, pm.2⟩
    | .inr (q, cs), e1, ok, pm => exact hq (.inr (q, cs)) t' (by rw [z_ps_U, if_pos x]; exact e1) (z_PG_nil g2 pm)
  · -- x
    exact s_M_wr (d := d' + 5) g2 (by rw [l0]; omega) (fun g4 => hq (.inr (p + 1, [(2, 0)])) _ (by rw [z_ps_U, if_neg (by omega), if_neg (by omega), if_neg (by omega), if_neg (by omega), if_pos x]) g4)
  · -- a cell
    refine s_M_te (d := d' + 3) g2 (fun dg lt g3 => ?_) (fun dg ge => ?_) (fun dg => ?_)
    · obtain ⟨r1, r2, r3, r4⟩ := z_nm_rng dg
      exact s_M_wr (d := d' + 5) g3 (by rw [l0]; omega) (fun g4 => hq (.inr ((z_nm g N (p + 1)).1, [(3, (z_nm g N (p + 1)).2)])) _ (by rw [z_ps_U, if_neg (by omega), if_neg (by omega), if_pos x, if_pos dg, if_pos lt]) g4)
    · exact s_M_writesF (d := d' + 5) (by rw [z_up_eq]; omega) (hq (.inl (p + 1)) _ (by rw [z_ps_U, if_neg (by omega), if_neg (by omega), if_pos x, if_pos dg, if_neg (by omega)]) ⟨z_PF_tr g2.2.1 (z_PF_tr (z_PF_up (by omega)) (z_PF_up (by omega))), z_up_eq, by rw [z_up_ne (by omega), z_up_ne (by omega)]; exact (z_PG_at g2).2.2.1⟩)
    · exact s_M_writesF (d := d' + 5) (by rw [z_up_eq]; omega) (hq (.inl (p + 1)) _ (by rw [z_ps_U, if_neg (by omega), if_neg (by omega), if_pos x, if_neg dg]) ⟨z_PF_tr g2.2.1 (z_PF_up (by omega)), z_up_eq, by rw [z_up_ne (by omega)]; exact (z_PG_at g2).2.2.1⟩)
  · -- a call
    refine s_M_te (d := d' + 3) g2 (fun dg lt g3 => ?_) (fun dg ge => ?_) (fun dg => ?_)
    · obtain ⟨r1, r2, r3, r4⟩ := z_nm_rng dg
      refine s_M_wn (d := d' + 3) g3 (by decide) (fun x2 l2 g4 => ?_) (fun x2 => ?_)
      · have g4s := g4.1
        rw [l0, Int.add_zero] at g4s
        show z_MS e (d' + 6) c 7 _ _
        refine ih 7 o b (z_nm g N (p + 1)).1 _ (d' + 6) _ (by omega) (by omega) (by omega) (by show 8 * (N - (z_nm g N (p + 1)).1) + 2 ≤ (n : Int); omega) (by omega) (by rw [if_pos rfl]; exact ⟨g4s, x2⟩) (fun w t' e1 ok pm => ?_)
        match w, e1, ok, pm with
        | .inl f, e1, ok, pm =>
          have := ok.1
          have := pm.2.1
          exact s_M_writesF (d := d' + 5) (by omega) (hq (.inl f) t' (by rw [z_ps_U, if_neg (by omega), if_neg (by omega), if_neg (by omega), if_pos x, if_pos dg, if_pos lt, e1, z_bd_inl]) ⟨z_PF_tr g4.2.1 pm.1, pm.2⟩)
        | .inr (q, cs), e1, ok, pm =>
          have := ok.2.2.1
          exact s_M_wr (d := d' + 5) (z_PG_nil g4 pm) (by omega) (fun g5 => hq (.inr (q, cs ++ [(4, (z_nm g N (p + 1)).2)])) _ (by rw [z_ps_U, if_neg (by omega), if_neg (by omega), if_neg (by omega), if_pos x, if_pos dg, if_pos lt, e1, z_bd_inr]) g5)
      · have f9 : z_up (z_up (z_up t 701 8 (p + 1)) 701 8 (z_nm g N (p + 1)).1) 701 9 (z_nm g N (p + 1)).1 701 9 = (z_nm g N (p + 1)).1 := z_up_eq
        exact s_M_bracketF (d := d' + 5) (by omega) (s_M_writesF (d := d' + 5) (by omega) (hq (.inl (z_nm g N (p + 1)).1) _ (by rw [z_ps_U, if_neg (by omega), if_neg (by omega), if_neg (by omega), if_pos x, if_pos dg, if_pos lt, z_ps_Bn (by omega) x2, z_bd_inl]) ⟨z_PF_tr g3.2.1 (z_PF_up (by omega)), f9, by rw [z_up_ne (by omega)]; exact (z_PG_at g3).2.2.1⟩))
    · have f9 : 0 ≤ z_up (z_up (z_up t 701 8 (p + 1)) 701 8 (z_nm g N (p + 1)).1) 701 9 (p + 1) 701 9 := by rw [z_up_eq]; omega
      exact s_M_wantsF (d := d' + 4) f9 (s_M_bracketF (d := d' + 5) f9 (s_M_writesF (d := d' + 5) f9 (hq (.inl (p + 1)) _ (by rw [z_ps_U, if_neg (by omega), if_neg (by omega), if_neg (by omega), if_pos x, if_pos dg, if_neg (by omega)]) ⟨z_PF_tr g2.2.1 (z_PF_tr (z_PF_up (by omega)) (z_PF_up (by omega))), z_up_eq, by rw [z_up_ne (by omega), z_up_ne (by omega)]; exact (z_PG_at g2).2.2.1⟩)))
    · have f9 : 0 ≤ z_up (z_up t 701 8 (p + 1)) 701 9 (p + 1) 701 9 := by rw [z_up_eq]; omega
      exact s_M_wantsF (d := d' + 4) f9 (s_M_bracketF (d := d' + 5) f9 (s_M_writesF (d := d' + 5) f9 (hq (.inl (p + 1)) _ (by rw [z_ps_U, if_neg (by omega), if_neg (by omega), if_neg (by omega), if_pos x, if_neg dg]) ⟨z_PF_tr g2.2.1 (z_PF_up (by omega)), z_up_eq, by rw [z_up_ne (by omega)]; exact (z_PG_at g2).2.2.1⟩)))
  · -- a number
    rw [z_gl_hi (by omega), h9]
    refine ⟨fun z => by omega, fun _ => s_M_fg (d := d' + 4) P0 (fun dg g3 => ?_) (fun dg => ?_)⟩
    · obtain ⟨r1, r2, r3, r4⟩ := z_nm_rng dg
      have dg1 := dg.1
      have dg2 := dg.2
      exact s_M_wr (d := d' + 5) g3 (by rw [l0]; omega) (fun g4 => hq (.inr ((z_nm g N p).1, [(1, (z_nm g N p).2)])) _ (by rw [z_ps_U, if_neg (by omega), if_neg (by omega), if_neg (by omega), if_neg (by omega), if_neg (by omega), if_pos dg]) g4)
    · exact s_M_writesF (d := d' + 5) (by rw [z_up_eq]; omega) (hq (.inl p) _ (by rw [z_ps_U, if_neg (by omega), if_neg (by omega), if_neg (by omega), if_neg (by omega), if_neg (by omega), if_neg dg]) ⟨z_PF_up (by omega), z_up_eq, by rw [z_up_ne (by omega)]; exact h10.1⟩)
/-- the reference reads what the function says -/
theorem z_MI_all : ∀ n, z_MI e c g N n
  | 0 => fun k o b p t d Q hk h0 h1 hm hd hs hq => by
    unfold z_mu at hm
    exfalso
    repeat' split at hm
    all_goals omega
  | n + 1 => fun k o b p t d Q hk h0 h1 hm hd hs hq => by
    have ih := z_MI_all n
    have hq' : ∀ w t', z_ps g N (n + 1) k o b p = some w → z_PM g N t o b w t' → Q 0 (z_gl c t') := fun w t' e1 pm => by
      obtain ⟨w', e2, ok⟩ := z_ps_ok (g := g) (n + 1) k o b p hk h0 h1 hm
      rw [e1] at e2
      cases e2
      exact hq w t' e1 ok pm
    rcases (show k = 0 ∨ k = 1 ∨ k = 2 ∨ k = 3 ∨ k = 4 ∨ k = 5 ∨ k = 6 ∨ k = 7 by omega) with rfl | rfl | rfl | rfl | rfl | rfl | rfl | rfl
    · exact s_M_pE ih hm (by omega) hs hq'
    · exact s_M_pC ih hm (by omega) hs hq'
    · exact s_M_pS ih hm (by omega) hs hq'
    · exact s_M_pP ih hm (by omega) hs hq'
    · exact s_M_pU ih hm (by omega) hs hq'
    · exact s_M_pR ih hm (by omega) hs hq'
    · exact s_M_pT ih hm (by omega) hs hq'
    · rw [if_pos rfl] at hs
      exact s_M_pB ih h0 hm (by omega) hs.1 hs.2 hq'
end UN
