/-! texts: what both readers do, as a function -/
abbrev z_Cd := List (Int × Int)
abbrev z_Pr := Option (Sum Int (Int × z_Cd))
def z_pk (g : Int → Int) (N p : Int) : Int := if p < N then g p else -1
abbrev z_dg (x : Int) : Prop := 48 ≤ x ∧ x ≤ 57
def z_bd (x : z_Pr) (f : Int → z_Cd → z_Pr) : z_Pr := match x with
  | none => none
  | some (.inl w) => some (.inl w)
  | some (.inr (q, c)) => f q c
/-- one or two figures -/
def z_nm (g : Int → Int) (N p : Int) : Int × Int := if z_dg (z_pk g N (p + 1)) then (p + 2, 10 * (z_pk g N p - 48) + (z_pk g N (p + 1) - 48)) else (p + 1, z_pk g N p - 48)
/-- E 0, C 1, S 2, P 3, U 4, the rest of S 5, the rest of P 6, the bracket 7 -/
def z_ps (g : Int → Int) (N : Int) : Nat → Nat → Int → Int → Int → z_Pr
  | 0, _, _, _, _ => none
  | n + 1, k, o, b, p =>
    if k = 0 then z_bd (z_ps g N n 1 o b p) fun p1 c1 =>
      if z_pk g N p1 = 63 then (if 5 ≤ o then some (.inl p1) else z_bd (z_ps g N n 0 (o + 1) (b + c1.length + 1) (p1 + 1)) fun p2 c2 =>
        if z_pk g N p2 = 58 then z_bd (z_ps g N n 0 o (b + c1.length + 1 + c2.length + 1) (p2 + 1)) fun p3 c3 => some (.inr (p3, c1 ++ (12, 2 * (b + c1.length + 1 + c2.length + 1)) :: (c2 ++ (13, 2 * (b + c1.length + 1 + c2.length + 1 + c3.length)) :: c3)))
        else some (.inl p2))
      else some (.inr (p1, c1))
    else if k = 1 then z_bd (z_ps g N n 2 o b p) fun p1 c1 =>
      if z_pk g N p1 = 60 ∨ z_pk g N p1 = 61 then z_bd (z_ps g N n 2 o (b + c1.length) (p1 + 1)) fun p2 c2 => some (.inr (p2, c1 ++ (c2 ++ [(if z_pk g N p1 = 60 then 9 else 10, 0)])))
      else some (.inr (p1, c1))
    else if k = 2 then z_bd (z_ps g N n 3 o b p) fun p1 c1 => z_bd (z_ps g N n 5 o (b + c1.length) p1) fun p2 c2 => some (.inr (p2, c1 ++ c2))
    else if k = 3 then z_bd (z_ps g N n 4 o b p) fun p1 c1 => z_bd (z_ps g N n 6 o (b + c1.length) p1) fun p2 c2 => some (.inr (p2, c1 ++ c2))
    else if k = 5 then (if z_pk g N p = 43 ∨ z_pk g N p = 45 then z_bd (z_ps g N n 3 o b (p + 1)) fun p1 c1 => z_bd (z_ps g N n 5 o (b + c1.length + 1) p1) fun p2 c2 => some (.inr (p2, c1 ++ (if z_pk g N p = 43 then 5 else 6, 0) :: c2)) else some (.inr (p, [])))
    else if k = 6 then (if z_pk g N p = 42 ∨ z_pk g N p = 47 then z_bd (z_ps g N n 4 o b (p + 1)) fun p1 c1 => z_bd (z_ps g N n 6 o (b + c1.length + 1) p1) fun p2 c2 => some (.inr (p2, c1 ++ (if z_pk g N p = 42 then 7 else 8, 0) :: c2)) else some (.inr (p, [])))
    else if k = 7 then (if z_pk g N p = 40 then (if 5 ≤ o then some (.inl p) else z_bd (z_ps g N n 0 (o + 1) b (p + 1)) fun p1 c1 => if z_pk g N p1 = 41 then some (.inr (p1 + 1, c1)) else some (.inl p1)) else some (.inl p))
    else if z_pk g N p = 40 then z_ps g N n 7 o b p
    else if z_pk g N p = 45 then (if 5 ≤ o then some (.inl p) else z_bd (z_ps g N n 4 (o + 1) b (p + 1)) fun p1 c1 => some (.inr (p1, c1 ++ [(11, 0)])))
    else if z_pk g N p = 99 then (if z_dg (z_pk g N (p + 1)) then (if (z_nm g N (p + 1)).2 < 12 then some (.inr ((z_nm g N (p + 1)).1, [(3, (z_nm g N (p + 1)).2)])) else some (.inl (p + 1))) else some (.inl (p + 1)))
    else if z_pk g N p = 102 then (if z_dg (z_pk g N (p + 1)) then (if (z_nm g N (p + 1)).2 < 12 then z_bd (z_ps g N n 7 o b (z_nm g N (p + 1)).1) fun p1 c1 => some (.inr (p1, c1 ++ [(4, (z_nm g N (p + 1)).2)])) else some (.inl (p + 1))) else some (.inl (p + 1)))
    else if z_pk g N p = 120 then some (.inr (p + 1, [(2, 0)]))
    else if z_dg (z_pk g N p) then some (.inr ((z_nm g N p).1, [(1, (z_nm g N p).2)])) else some (.inl p)
theorem z_bd_some {x : z_Pr} {f : Int → z_Cd → z_Pr} {w : Sum Int (Int × z_Cd)} (h : z_bd x f = some w) : (∃ q, x = some (.inl q) ∧ w = .inl q) ∨ ∃ q c, x = some (.inr (q, c)) ∧ f q c = some w := by
  unfold z_bd at h
  match x, h with
  | none, h => cases h
  | some (.inl q), h => cases h; exact Or.inl ⟨q, rfl, rfl⟩
  | some (.inr (q, c)), h => exact Or.inr ⟨q, c, rfl, h⟩
/-! the reference's reader: small methods -/
def z_tg (t : z_M) : Prop := 0 ≤ t 701 2 ∧ t 701 2 ≤ 100 ∧ 0 ≤ t 701 8 ∧ t 701 8 ≤ t 701 2
section RP
variable {e : z_E} {d : Nat} {c t : z_M} {Q : Int → z_M → Prop}
theorem s_M_peek (h : z_tg t) (hq : Q (z_pk (t 703) (t 701 2) (t 701 8)) (z_gl c t)) : z_C e (d + 1) m_M_peek [z_R 701] (z_gl c t) Q := by
  obtain ⟨h0, h1, h2, h3⟩ := h
  refine b_M_peek_0 ?_
  simp (disch := omega) only [z_gl_hi]
  unfold z_pk at hq
  refine ⟨fun q => ?_, fun q => ⟨by omega, ?_⟩⟩
  · rw [if_neg (by omega)] at hq; exact hq
  · rw [if_pos q] at hq; exact hq
theorem s_M_wrongF {x : Int} (h : 0 ≤ t 701 9) (hq : Q 0 (z_gl c t)) : z_C e (d + 1) m_M_wrong [z_R 701, z_I x] (z_gl c t) Q := by
  refine b_M_wrong_0 ?_
  simp (disch := omega) only [z_gl_hi, z_gl_up]
  refine ⟨fun _ => ?_, fun z => by omega⟩
  rw [z_up_self]; exact hq
theorem s_M_wrongN {x : Int} (h : t 701 9 < 0) (hq : Q 0 (z_gl c (z_up t 701 9 x))) : z_C e (d + 1) m_M_wrong [z_R 701, z_I x] (z_gl c t) Q := by
  refine b_M_wrong_0 ?_
  simp (disch := omega) only [z_gl_hi, z_gl_up]
  exact ⟨fun z => by omega, fun _ => hq⟩
theorem s_M_takesF {x : Int} (h : 0 ≤ t 701 9) (hq : Q 0 (z_gl c t)) : z_C e (d + 1) m_M_takes [z_R 701, z_I x] (z_gl c t) Q := by
  refine b_M_takes_0 ?_
  simp (disch := omega) only [z_gl_hi]
  exact ⟨fun _ => hq, fun z => by omega⟩
theorem s_M_takesN {x : Int} (h : t 701 9 < 0) (hr : z_tg t) (h1 : z_pk (t 703) (t 701 2) (t 701 8) = x → Q 1 (z_gl c (z_up t 701 8 (t 701 8 + 1)))) (h0 : ¬ z_pk (t 703) (t 701 2) (t 701 8) = x → Q 0 (z_gl c t)) : z_C e (d + 2) m_M_takes [z_R 701, z_I x] (z_gl c t) Q := by
  have hr' := hr
  obtain ⟨r0, r1, r2, r3⟩ := hr'
  refine b_M_takes_0 ?_
  simp (disch := omega) only [z_gl_hi]
  refine ⟨fun z => by omega, fun _ => s_M_peek hr ⟨fun q => ?_, h0⟩⟩
  rw [z_gl_hi (by omega), z_gl_up (by omega), z_wr_id (by omega) (by omega)]
  exact h1 q
theorem s_M_wantsF {x : Int} (h : 0 ≤ t 701 9) (hq : Q 0 (z_gl c t)) : z_C e (d + 2) m_M_wants [z_R 701, z_I x] (z_gl c t) Q :=
  b_M_wants_0 (s_M_takesF h ⟨fun z => absurd rfl z, fun _ => s_M_wrongF h hq⟩)
theorem s_M_wantsN {x : Int} (h : t 701 9 < 0) (hr : z_tg t) (h1 : z_pk (t 703) (t 701 2) (t 701 8) = x → Q 0 (z_gl c (z_up t 701 8 (t 701 8 + 1)))) (h0 : ¬ z_pk (t 703) (t 701 2) (t 701 8) = x → Q 0 (z_gl c (z_up t 701 9 (t 701 8)))) : z_C e (d + 3) m_M_wants [z_R 701, z_I x] (z_gl c t) Q := by
  refine b_M_wants_0 (s_M_takesN h hr (fun q => ⟨fun _ => h1 q, fun z => by omega⟩) (fun q => ⟨fun z => absurd rfl z, fun _ => s_M_wrongN h ?_⟩))
  rw [z_gl_hi (by omega)]
  exact h0 q
theorem s_M_writesF {x y : Int} (h : 0 ≤ t 701 9) (hq : Q 0 (z_gl c t)) : z_C e (d + 1) m_M_writes [z_R 701, z_I x, z_I y] (z_gl c t) Q := by
  refine b_M_writes_0 ?_
  simp (disch := omega) only [z_gl_hi]
  exact ⟨fun _ => hq, fun z => by omega⟩
def mf_wt (x y : Int) (t : z_M) : z_M := z_up (z_up (z_up (z_up t 706 (t 701 6) x) 706 (t 701 6 + 1) y) 701 6 (t 701 6 + 2)) 701 7 (t 701 7 + (if x = 13 then 0 else 1))
theorem s_M_writesN {x y : Int} (h : t 701 9 < 0) (h6 : 0 ≤ t 701 6 ∧ t 701 6 ≤ 398) (h7 : 0 ≤ t 701 7 ∧ t 701 7 ≤ 1000) (hq : Q 0 (z_gl c (mf_wt x y t))) : z_C e (d + 1) m_M_writes [z_R 701, z_I x, z_I y] (z_gl c t) Q := by
  refine b_M_writes_0 ?_
  simp (disch := omega) only [z_gl_hi, z_gl_up, z_up_ne, z_up_eq, z_wr_id]
  unfold mf_wt at hq
  refine ⟨fun z => by omega, fun _ => ⟨by omega, by omega, fun q => ?_, fun q => ?_⟩⟩
  · rw [if_neg q] at hq; exact hq
  · rw [if_pos q] at hq; exact hq
theorem s_M_opensF (h : 0 ≤ t 701 9) (ho : 0 ≤ t 701 10 ∧ t 701 10 ≤ 1000) (hq : Q 0 (z_gl c (z_up t 701 10 (t 701 10 + 1)))) : z_C e (d + 1) m_M_opens [z_R 701] (z_gl c t) Q := by
  refine b_M_opens_0 ?_
  simp (disch := omega) only [z_gl_hi, z_gl_up, z_wr_id]
  exact ⟨fun _ => hq, fun z => by omega⟩
theorem s_M_opensN (h : t 701 9 < 0) (hr : z_tg t) (ho : 0 ≤ t 701 10 ∧ t 701 10 ≤ 5) (h1 : t 701 10 < 5 → Q 0 (z_gl c (z_up t 701 10 (t 701 10 + 1)))) (h0 : t 701 10 = 5 → Q 0 (z_gl c (z_up (z_up t 701 9 (t 701 8 - 1)) 701 10 (t 701 10 + 1)))) : z_C e (d + 2) m_M_opens [z_R 701] (z_gl c t) Q := by
  obtain ⟨r0, r1, r2, r3⟩ := hr
  refine b_M_opens_0 ?_
  simp (disch := omega) only [z_gl_hi, z_gl_up, z_wr_id]
  refine ⟨fun z => by omega, fun _ => ⟨fun q => h1 (by omega), fun q => s_M_wrongN h ?_⟩⟩
  simp (disch := omega) only [z_gl_hi, z_gl_up, z_up_ne, z_wr_id]
  exact h0 q
end RP
