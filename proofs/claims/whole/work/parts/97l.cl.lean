/-! the class's reader against the function: a choice, whole -/
section CLM
variable {e : z_E} {c s : z_M} {Q : Int → z_M → Prop} {g : Int → Int} {N o i b p : Int} {n d : Nat}
theorem s_R_CL (ih : z_CI e c g N n) (ihL : z_CL e c g N n) : z_CL e c g N (n + 1) := by
  intro o i b p l r s d Q hm hd ho hi hl0 hs hch hl hr
  have hp := hs.2.2.1
  have hb := hs.2.2.2.1
  have hN := hs.2.1
  obtain ⟨d', rfl⟩ : ∃ d', d = d' + 7 := ⟨d - 7, by omega⟩
  have P0 := z_CG_0 hs
  refine b_R_readChoice_4 ⟨fun z => by omega, fun _ => ?_⟩
  show z_CK e (d' + 7) c 1 o 0 s _
  refine z_CI_go (b' := b) ih P0 (by show b + ((0 : Nat) : Int) = b; omega) (by omega) (by show 8 * (N - p) + 6 ≤ (n : Int); omega) (by show 8 * (N - p) + 6 + 20 ≤ _; omega) ho (by omega) (fun f s1 e1 pf h3 => ⟨fun z => absurd rfl z, fun _ => hl f s1 (by rw [z_ps_E, e1, z_bd_inl]) pf h3⟩) (fun p1 c1 s1 e1 q0 q1 q2 q3 g1 => ⟨fun _ => ?_, fun z => by omega⟩)
  have g1 : z_CG g N s s1 b p1 c1 := g1
  refine s_R_ahead (d := d' + 6) g1.1 ⟨fun x1 => ?_, fun x1 => s_R_noChoice (d := d' + 5) hl0 hch g1 (fun s' u1 u2 u3 u4 u5 => hr p1 c1 s' (by rw [z_ps_E, e1, z_bd_inr, if_neg x1]) u1 u2 u3 u4 u5)⟩
  have l1 := z_pk_lt x1 (by decide)
  obtain ⟨k1, k2, k3, k4, k5⟩ := g1.1
  refine s_T_put3 (d := d' + 6) (by omega) (by omega) (by omega) (by omega) ?_
  have m3 : ∀ a i, ¬ a = 6 → ¬ a = 5 → cf_put 5 0 s1 a i = s1 a i := fun a i y z => by unfold cf_put; rw [z_up_ne (by omega), z_up_ne (by omega), z_up_ne (by omega)]
  refine s_R_passOpening3 (d := d' + 5) (g := g) (N := N) (p := p1) ⟨⟨by rw [m3 _ _ (by omega) (by omega)]; exact k1.1, fun i => by rw [m3 _ _ (by omega) (by omega)]; exact k1.2 i⟩, k2, by rw [m3 _ _ (by omega) (by omega)]; exact k3.1, k3.2⟩ (by decide) (fun x l1 o5 => ⟨fun z => by omega, fun _ => ?_⟩) (fun x => ⟨fun _ => hl p1 _ (by rw [z_ps_E, e1, z_bd_inr, if_pos x1, if_pos (by omega)]) (z_CFr_tr g1.2.1 (z_CFr_tr (s1 := cf_put 5 0 s1) (fun a i x y z => by unfold cf_put; rw [z_up_ne (by omega), z_up_ne (by omega), z_up_ne (by omega)]) (z_CFr_up (by omega)))) z_up_eq, fun z => absurd rfl z⟩)
  rw [z_wr_id (by omega) (by omega), cf_put_up3]
  have g3 := cf_put_CG (op := 5) (x := 0) (op' := 12) (x' := 0) (z_CG_mv (q := p1 + 1) g1 (by omega) (by omega)) (by omega) (by decide) (by decide)
  have hj1 : s1 5 1 = b + c1.length := k4.1
  show z_CK e (d' + 7) c 0 (o + 1) 0 _ _
  refine z_CI_go (b' := b + c1.length + 1) ih g3 (by rw [List.length_append]; show b + ((c1.length + 1 : Nat) : Int) = _; omega) (by omega) (by show 8 * (N - (p1 + 1)) + 7 ≤ (n : Int); omega) (by show 8 * (N - (p1 + 1)) + 7 + 20 ≤ _; omega) (by omega) (by omega) (fun f s5 e2 pf h3 => ⟨fun _ => hl f s5 (by rw [z_ps_E, e1, z_bd_inr, if_pos x1, if_neg (by omega), e2, z_bd_inl]) pf h3, fun z => absurd rfl z⟩) (fun p2 c2 s5 e2 r0 r1 r2 r3 g5 => ⟨fun z => by omega, fun _ => ?_⟩)
  refine s_R_pass (d := d' + 5) g5.1 (by decide) (fun x2 l2 => ⟨fun _ => ?_, fun z => by omega⟩) (fun x2 => ⟨fun z => absurd rfl z, fun _ => hl p2 _ (by rw [z_ps_E, e1, z_bd_inr, if_pos x1, if_neg (by omega), e2, z_bd_inr, if_neg x2]) (z_CFr_tr g5.2.1 (z_CFr_up (by omega))) z_up_eq⟩)
  have g6 := z_CG_mv (q := p2 + 1) g5 (by omega) (by omega)
  have b6 := g5.1.2.2.2.1
  refine s_T_pu (d := d' + 6) (op' := 13) (x' := 2 * l) g6 (by omega) (by omega) (by omega) (by show 16 * l + 6 = 16 * ((2 * l) / 2) + 6; omega) (by decide) (fun g7 => ?_)
  generalize cf_put 6 l (z_up s5 3 4 (p2 + 1)) = s7 at g7 ⊢
  have hlen : (((c1 ++ [((12 : Int), (0 : Int))]) ++ c2) ++ [((13 : Int), 2 * l)]).length = c1.length + 1 + c2.length + 1 := by simp only [List.length_append, List.length_cons, List.length_nil]
  obtain ⟨T, hT⟩ : ∃ T, T = b + (c1.length : Int) + 1 + c2.length + 1 := ⟨_, rfl⟩
  have a7 := g7.1.2.2.2.1
  rw [hlen] at a7
  have t7 : s7 5 1 = T := by omega
  rw [z_gl_lo (by omega), z_gl_lo (by omega), hj1, t7]
  have w7 := ((z_aw_app _ _ _).mp ((z_aw_app _ _ _).mp ((z_aw_app _ _ _).mp g7.2.2.2.2).1).1).2.1
  have hw : s7 6 (b + c1.length) = 5 := w7
  refine s_T_lead (d := d' + 6) (by omega) hw (by omega) (by omega) (by omega) ?_
  rw [show (5 : Int) % 16 = 5 by rfl, z_wr_id (by omega) (by omega)]
  obtain ⟨s8, h8⟩ : ∃ s8, s8 = z_up s7 6 (b + (c1.length : Int)) (16 * T + 5) := ⟨_, rfl⟩
  rw [← h8]
  obtain ⟨v1, v2, v3⟩ := z_CLa hl0 hch hT g7 h8
  refine ihL o (i + 1) T (p2 + 1) T ((T - 1) :: r) s8 (d' + 7) Q (by omega) (by omega) ho (by omega) (by omega) v1 v3 (fun f s9 e3 pf h3 => hl f s9 (by rw [z_ps_E, e1, z_bd_inr, if_pos x1, if_neg (by omega), e2, z_bd_inr, if_pos x2, ← hT, e3, z_bd_inl]) (z_CFr_tr v2 pf) h3) (fun q cs s9 e3 f1 f2 f3 f4 f5 => ?_)
  obtain ⟨y1, y2, y3, y4, y5⟩ := z_CLb hl0 hch hT g7 h8 rfl f1 f2 f3 f4 f5
  exact hr q (c1 ++ (12, 2 * T) :: (c2 ++ (13, 2 * (T + cs.length)) :: cs)) s9 (by rw [z_ps_E, e1, z_bd_inr, if_pos x1, if_neg (by omega), e2, z_bd_inr, if_pos x2, ← hT, e3, z_bd_inr]) y1 y2 y3 y4 y5
theorem s_R_pE (ihL : z_CL e c g N (n + 1)) (hm : 8 * (N - p) + 7 ≤ ((n + 1 : Nat) : Int)) (hd : 8 * (N - p) + 7 + 20 ≤ (d : Int)) (ho : 0 ≤ o ∧ o ≤ 5) (hs : z_CS g N s b p) (hl : ∀ f s', z_ps g N (n + 1) 0 o b p = some (.inl f) → z_CFr s s' → s' 3 3 = f → Q 0 (z_gl s' c)) (hr : ∀ q cs s', z_ps g N (n + 1) 0 o b p = some (.inr (q, cs)) → z_CG g N s s' b q cs → Q 1 (z_gl s' c)) : z_CK e d c 0 o i s Q := by
  have hp := hs.2.2.1
  have hb := hs.2.2.2.1
  obtain ⟨d', rfl⟩ : ∃ d', d = d' + 1 := ⟨d - 1, by omega⟩
  exact b_R_readChoice_0 (d := d') (ihL o 0 b p 0 [] s d' Q hm (by omega) ho (by omega) (by omega) hs rfl hl (fun q cs s' e1 u1 u2 u3 u4 u5 => hr q cs s' e1 ⟨u1, u2, u3, u5, u4⟩))
/-- the class reads what the function says -/
theorem z_CI_all : ∀ n, z_CI e c g N n ∧ z_CL e c g N n
  | 0 => ⟨fun k o i b p s d Q hk hm hd ho hi hs hl hr => by
    have hp := hs.2.2.1
    unfold z_mu at hm
    exfalso
    repeat' split at hm
    all_goals omega, fun o i b p l r s d Q hm hd ho hi hl0 hs hch hl hr => by
    have hp := hs.2.2.1
    omega⟩
  | n + 1 => by
    obtain ⟨ih, ihL⟩ := z_CI_all n
    have ihL2 := s_R_CL ih ihL
    refine ⟨fun k o i b p s d Q hk hm hd ho hi hs hl hr => ?_, ihL2⟩
    have hp := hs.2.2.1
    obtain ⟨w', e2, ok⟩ := z_ps_ok (g := g) (N := N) (n + 1) k o b p hk (by omega) (by omega) hm
    have hr' : ∀ q cs s', z_ps g N (n + 1) k o b p = some (.inr (q, cs)) → z_CG g N s s' b q cs → Q 1 (z_gl s' c) := fun q cs s' e1 g1 => by
      have e2 := e2
      rw [e1] at e2
      cases e2
      exact hr q cs s' e1 ok.1 ok.2.1 ok.2.2.1 ok.2.2.2 g1
    rcases (show k = 0 ∨ k = 1 ∨ k = 2 ∨ k = 3 ∨ k = 4 ∨ k = 5 ∨ k = 6 ∨ k = 7 by omega) with rfl | rfl | rfl | rfl | rfl | rfl | rfl | rfl
    · exact s_R_pE ihL2 hm hd ho hs hl hr'
    · exact s_R_pC ih hm hd ho hs hl hr'
    · exact s_R_pS ih hm hd ho hs hl hr'
    · exact s_R_pP ih hm hd ho hs hl hr'
    · exact s_R_pU ih hm hd ho hs hl hr'
    · exact s_R_pR ih hm hd ho hi hs hl hr'
    · exact s_R_pT ih hm hd ho hi hs hl hr'
    · exact s_R_pB ih hm hd ho hs hl hr'
end CLM
