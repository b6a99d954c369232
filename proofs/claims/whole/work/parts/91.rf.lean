/-! the reference's reader: figures, and behind a fault -/
section RF
variable {e : z_E} {d : Nat} {c t : z_M} {Q : Int → z_M → Prop}
theorem z_pk_lt {g : Int → Int} {N p x : Int} (h : z_pk g N p = x) (hx : ¬ x = -1) : p < N := by
  unfold z_pk at h
  by_cases q : p < N
  · exact q
  · rw [if_neg q] at h; omega
theorem s_M_figures (h : t 701 9 < 0) (hr : z_tg t) (h1 : z_dg (z_pk (t 703) (t 701 2) (t 701 8)) → Q (z_nm (t 703) (t 701 2) (t 701 8)).2 (z_gl c (z_up t 701 8 (z_nm (t 703) (t 701 2) (t 701 8)).1))) (h0 : ¬ z_dg (z_pk (t 703) (t 701 2) (t 701 8)) → Q 0 (z_gl c (z_up t 701 9 (t 701 8)))) : z_C e (d + 2) m_M_figures [z_R 701] (z_gl c t) Q := by
  have hr' := hr
  obtain ⟨r0, r1, r2, r3⟩ := hr'
  refine b_M_figures_0 ?_
  rw [z_gl_hi (by omega)]
  generalize hp : t 701 8 = p at *
  refine b_M_figures_7 ?_
  simp (disch := omega) only [z_gl_hi, hp, z_wr_id]
  refine ⟨fun z => by omega, fun _ => ⟨fun z => by omega, fun _ => s_M_peek hr ?_⟩⟩
  rw [hp]
  refine s_M_in (fun a b => ⟨fun z => by omega, fun _ => s_M_peek hr ?_⟩) (fun hn => ⟨fun _ => b_M_figures_67 ?_, fun z => absurd rfl z⟩)
  · -- a first figure
    rw [hp]
    have hlt := z_pk_lt (p := p) rfl (show ¬ z_pk (t 703) (t 701 2) p = -1 by omega)
    generalize hv : z_pk (t 703) (t 701 2) p = v at *
    have h1 := h1 ⟨a, b⟩
    rw [z_gl_hi (by omega), hp, z_gl_up (by omega), z_wr_id (x := p + 1) (by omega) (by omega), z_wr_id (x := 10 * 0 + v) (by omega) (by omega), z_wr_id (x := 10 * 0 + v - 48) (by omega) (by omega)]
    have e8 : z_up t 701 8 (p + 1) 701 8 = p + 1 := z_up_eq
    have e9 : z_up t 701 8 (p + 1) 701 9 = t 701 9 := z_up_ne (by omega)
    have e2 : z_up t 701 8 (p + 1) 701 2 = t 701 2 := z_up_ne (by omega)
    have e3 : z_up t 701 8 (p + 1) 703 = t 703 := funext fun i => z_up_ne (by omega)
    have hr2 : z_tg (z_up t 701 8 (p + 1)) := by unfold z_tg; rw [e8, e2]; omega
    refine b_M_figures_7 ?_
    simp (disch := omega) only [z_gl_hi, e8, e9, z_wr_id]
    refine ⟨fun z => by omega, fun _ => ⟨fun z => by omega, fun _ => s_M_peek hr2 ?_⟩⟩
    rw [e8, e2, e3]
    unfold z_nm at h1
    refine s_M_in (fun a2 b2 => ⟨fun z => by omega, fun _ => s_M_peek hr2 ?_⟩) (fun hn => ⟨fun _ => b_M_figures_67 ?_, fun z => absurd rfl z⟩)
    · rw [e8, e2, e3]
      have hlt2 := z_pk_lt (p := p + 1) rfl (show ¬ z_pk (t 703) (t 701 2) (p + 1) = -1 by omega)
      rw [if_pos ⟨a2, b2⟩, hv] at h1
      generalize hw : z_pk (t 703) (t 701 2) (p + 1) = w at *
      rw [z_gl_hi (by omega), e8, z_gl_up (by omega), z_up_up, z_wr_id (x := p + 1 + 1) (by omega) (by omega), z_wr_id (x := 10 * (10 * 0 + v - 48) + w) (by omega) (by omega), z_wr_id (x := 10 * (10 * 0 + v - 48) + w - 48) (by omega) (by omega)]
      have e8' : z_up t 701 8 (p + 1 + 1) 701 8 = p + 1 + 1 := z_up_eq
      have e9' : z_up t 701 8 (p + 1 + 1) 701 9 = t 701 9 := z_up_ne (by omega)
      refine b_M_figures_7 ?_
      simp (disch := omega) only [z_gl_hi, e8', e9', z_wr_id]
      refine ⟨fun z => by omega, fun _ => ⟨fun _ => b_M_figures_67 ?_, fun z => by omega⟩⟩
      simp (disch := omega) only [z_gl_hi, e8']
      refine ⟨fun _ => ?_, fun z => by omega⟩
      rw [show 10 * (10 * 0 + v - 48) + w - 48 = 10 * (v - 48) + (w - 48) by omega, show p + 1 + 1 = p + 2 by omega]
      exact h1
    · simp (disch := omega) only [z_gl_hi, e8]
      refine ⟨fun _ => ?_, fun z => by omega⟩
      rw [if_neg hn, hv] at h1
      rw [show 10 * 0 + v - 48 = v - 48 by omega]
      exact h1
  · simp (disch := omega) only [z_gl_hi, hp]
    exact ⟨fun z => absurd trivial z, fun _ => s_M_wrongN (d := d) h (h0 hn)⟩
theorem s_M_toEleven (h : t 701 9 < 0) (hr : z_tg t) (h1 : z_dg (z_pk (t 703) (t 701 2) (t 701 8)) → (z_nm (t 703) (t 701 2) (t 701 8)).2 < 12 → Q (z_nm (t 703) (t 701 2) (t 701 8)).2 (z_gl c (z_up t 701 8 (z_nm (t 703) (t 701 2) (t 701 8)).1))) (h2 : z_dg (z_pk (t 703) (t 701 2) (t 701 8)) → 12 ≤ (z_nm (t 703) (t 701 2) (t 701 8)).2 → Q (z_nm (t 703) (t 701 2) (t 701 8)).2 (z_gl c (z_up (z_up t 701 8 (z_nm (t 703) (t 701 2) (t 701 8)).1) 701 9 (t 701 8)))) (h0 : ¬ z_dg (z_pk (t 703) (t 701 2) (t 701 8)) → Q 0 (z_gl c (z_up t 701 9 (t 701 8)))) : z_C e (d + 3) m_M_figuresToEleven [z_R 701] (z_gl c t) Q := by
  refine b_M_figuresToEleven_0 (s_M_figures (d := d) h hr (fun q => ⟨fun q2 => h1 q (by omega), fun q2 => s_M_wrongN (d := d + 1) (by rw [z_up_ne (by omega)]; exact h) ?_⟩) (fun q => ⟨fun _ => h0 q, fun z => by omega⟩))
  rw [z_gl_hi (by omega)]
  exact h2 q (by omega)
/-! behind a fault nothing is read -/
theorem s_M_unitF (h : 0 ≤ t 701 9) (hq : Q 0 (z_gl c t)) : z_C e (d + 2) m_M_readsUnit [z_R 701] (z_gl c t) Q := by
  refine b_M_readsUnit_0 (s_M_takesF h ⟨fun _ => s_M_takesF h ⟨fun _ => s_M_takesF h ⟨fun _ => s_M_takesF h ⟨fun _ => s_M_takesF h ⟨fun _ => ?_, fun z => absurd rfl z⟩, fun z => absurd rfl z⟩, fun z => absurd rfl z⟩, fun z => absurd rfl z⟩, fun z => absurd rfl z⟩)
  rw [z_gl_hi (by omega)]
  exact ⟨fun _ => hq, fun z => by omega⟩
theorem s_M_productF (h : 0 ≤ t 701 9) (hq : Q 0 (z_gl c t)) : z_C e (d + 3) m_M_readsProduct [z_R 701] (z_gl c t) Q := by
  refine b_M_readsProduct_0 (s_M_unitF h (b_M_readsProduct_4 ?_))
  rw [z_gl_hi (by omega)]
  exact ⟨fun _ => hq, fun z => by omega⟩
theorem s_M_sumF (h : 0 ≤ t 701 9) (hq : Q 0 (z_gl c t)) : z_C e (d + 4) m_M_readsSum [z_R 701] (z_gl c t) Q := by
  refine b_M_readsSum_0 (s_M_productF h (b_M_readsSum_4 ?_))
  rw [z_gl_hi (by omega)]
  exact ⟨fun _ => hq, fun z => by omega⟩
theorem s_M_comparedF (h : 0 ≤ t 701 9) (hq : Q 0 (z_gl c t)) : z_C e (d + 5) m_M_readsCompared [z_R 701] (z_gl c t) Q :=
  b_M_readsCompared_0 (s_M_sumF h (s_M_takesF h ⟨fun _ => s_M_takesF h ⟨fun _ => hq, fun z => absurd rfl z⟩, fun z => absurd rfl z⟩))
theorem s_M_wholeF (h : 0 ≤ t 701 9) (hq : Q 0 (z_gl c t)) : z_C e (d + 6) m_M_readsWhole [z_R 701] (z_gl c t) Q :=
  b_M_readsWhole_0 (s_M_comparedF h (s_M_takesF h ⟨fun z => absurd rfl z, fun _ => hq⟩))
theorem s_M_bracketF (h : 0 ≤ t 701 9) (hq : Q 0 (z_gl c t)) : z_C e (d + 1) m_M_readsBracket [z_R 701] (z_gl c t) Q := by
  refine b_M_readsBracket_0 ?_
  rw [z_gl_hi (by omega)]
  exact ⟨fun z => by omega, fun _ => hq⟩
end RF
