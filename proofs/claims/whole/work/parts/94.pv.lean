/-! parts one behind the other -/
section PV
variable {g : Int → Int} {N : Int} {t t1 t2 : z_M} {o o1 o2 b p q q1 q2 : Int} {c1 c2 : z_Cd}
theorem z_PG_0 (h : z_PS g N t o b p) : z_PG g N t t o b p [] := ⟨by show z_PS g N t o (b + ((0 : Nat) : Int)) p; rw [show b + ((0 : Nat) : Int) = b by omega]; exact h, z_PF_rf, by show t 701 7 = t 701 7 + 0; omega, fun _ _ => rfl, trivial, fun _ _ => rfl⟩
theorem z_PG_mv2 (h : z_PG g N t t1 o b p c1) (h1 : p ≤ q) (h2 : q ≤ N) : z_PG g N t (z_up t1 701 8 q) o b q c1 := by
  have := z_PG_tr h (z_PG_mv h.1 h1 h2)
  rw [List.append_nil] at this
  exact this
theorem z_PG_op2 (h : z_PG g N t t1 o b p c1) (h1 : 0 ≤ o1 ∧ o1 ≤ 5) : z_PG g N t (z_up t1 701 10 o1) o1 b p c1 := by
  have := z_PG_tr h (z_PG_op h.1 h1)
  rw [List.append_nil] at this
  exact this
theorem z_PG_wt2 {x y : Int} (h : z_PG g N t t1 o b p c1) (h1 : b + c1.length + 1 ≤ p) : z_PG g N t (mf_wt x y t1) o b p (c1 ++ [(x, y)]) := z_PG_tr h (z_PG_wt h.1 h1)
theorem z_PG_at (h : z_PG g N t t1 o b p c1) : t1 701 8 = p ∧ t1 701 9 = -1 ∧ t1 701 10 = o ∧ t1 701 6 = 2 * (b + c1.length) ∧ (0 ≤ o ∧ o ≤ 5) ∧ (0 ≤ b + (c1.length : Int) ∧ b + (c1.length : Int) ≤ p ∧ p ≤ N ∧ N ≤ 100) ∧ 0 ≤ t1 701 7 ∧ t1 701 7 ≤ 100 := by
  obtain ⟨⟨⟨a1, a2⟩, a3, a4, a5, a6, a7, a8⟩, -⟩ := h
  exact ⟨a4.1, a5, a6.1, a7.1, a6.2, by omega, by omega, by omega⟩
end PV
section PW
variable {e : z_E} {d : Nat} {c t t1 : z_M} {Q : Int → z_M → Prop} {g : Int → Int} {N o b p : Int} {c1 : z_Cd}
theorem s_M_tk {x : Int} (h : z_PG g N t t1 o b p c1) (hx : ¬ x = -1) (h1 : z_pk g N p = x → p < N → z_PG g N t (z_up t1 701 8 (p + 1)) o b (p + 1) c1 → Q 1 (z_gl c (z_up t1 701 8 (p + 1)))) (h0 : ¬ z_pk g N p = x → Q 0 (z_gl c t1)) : z_C e (d + 2) m_M_takes [z_R 701, z_I x] (z_gl c t1) Q := by
  obtain ⟨tg, h9, hpk⟩ := z_PS_tg h.1
  obtain ⟨a8, -⟩ := z_PG_at h
  refine s_M_takesN h9 tg (fun q => ?_) (fun q => ?_)
  · rw [hpk] at q
    have hlt := z_pk_lt q hx
    rw [a8]
    exact h1 q hlt (z_PG_mv2 h (by omega) (by omega))
  · rw [hpk] at q; exact h0 q
theorem s_M_wn {x : Int} (h : z_PG g N t t1 o b p c1) (hx : ¬ x = -1) (h1 : z_pk g N p = x → p < N → z_PG g N t (z_up t1 701 8 (p + 1)) o b (p + 1) c1 → Q 0 (z_gl c (z_up t1 701 8 (p + 1)))) (h0 : ¬ z_pk g N p = x → Q 0 (z_gl c (z_up t1 701 9 p))) : z_C e (d + 3) m_M_wants [z_R 701, z_I x] (z_gl c t1) Q := by
  obtain ⟨tg, h9, hpk⟩ := z_PS_tg h.1
  obtain ⟨a8, -⟩ := z_PG_at h
  refine s_M_wantsN h9 tg (fun q => ?_) (fun q => ?_)
  · rw [hpk] at q
    have hlt := z_pk_lt q hx
    rw [a8]
    exact h1 q hlt (z_PG_mv2 h (by omega) (by omega))
  · rw [hpk] at q; rw [a8]; exact h0 q
theorem s_M_wr {x y : Int} (h : z_PG g N t t1 o b p c1) (h1 : b + c1.length + 1 ≤ p) (hq : z_PG g N t (mf_wt x y t1) o b p (c1 ++ [(x, y)]) → Q 0 (z_gl c (mf_wt x y t1))) : z_C e (d + 1) m_M_writes [z_R 701, z_I x, z_I y] (z_gl c t1) Q := by
  obtain ⟨a1, a2, a3, a4, a5, a6, a7⟩ := z_PG_at h
  exact s_M_writesN (by omega) (by omega) (by omega) (hq (z_PG_wt2 h h1))
theorem s_M_op (h : z_PG g N t t1 o b p c1) (h1 : o < 5 → z_PG g N t (z_up t1 701 10 (o + 1)) (o + 1) b p c1 → Q 0 (z_gl c (z_up t1 701 10 (o + 1)))) (h0 : 5 ≤ o → Q 0 (z_gl c (z_up (z_up t1 701 9 (p - 1)) 701 10 (o + 1)))) : z_C e (d + 2) m_M_opens [z_R 701] (z_gl c t1) Q := by
  obtain ⟨tg, h9, hpk⟩ := z_PS_tg h.1
  obtain ⟨a1, a2, a3, a4, a5, a6, a7⟩ := z_PG_at h
  refine s_M_opensN h9 tg (by omega) (fun q => ?_) (fun q => ?_)
  · rw [a3]; rw [a3] at q; exact h1 q (z_PG_op2 h (by omega))
  · rw [a3, a1]; exact h0 (by omega)
theorem s_M_pkk (h : z_PG g N t t1 o b p c1) (hq : Q (z_pk g N p) (z_gl c t1)) : z_C e (d + 1) m_M_peek [z_R 701] (z_gl c t1) Q := by
  obtain ⟨tg, h9, hpk⟩ := z_PS_tg h.1
  refine s_M_peek tg ?_
  rw [hpk]; exact hq
/-- what the reference does with a part -/
def z_MS (e : z_E) (d : Nat) (c : z_M) (k : Nat) (t : z_M) (Q : Int → z_M → Prop) : Prop :=
  match k with
  | 0 => z_C e d m_M_readsWhole [z_R 701] (z_gl c t) Q
  | 1 => z_C e d m_M_readsCompared [z_R 701] (z_gl c t) Q
  | 2 => z_C e d m_M_readsSum [z_R 701] (z_gl c t) Q
  | 3 => z_C e d m_M_readsProduct [z_R 701] (z_gl c t) Q
  | 4 => z_C e d m_M_readsUnit [z_R 701] (z_gl c t) Q
  | 5 => z_T e d m_M_readsSum 4 [some (z_R 701), none] (z_gl c t) Q
  | 6 => z_T e d m_M_readsProduct 4 [some (z_R 701), none] (z_gl c t) Q
  | _ => z_C e d m_M_readsBracket [z_R 701] (z_gl c t) Q
/-- all parts at a fuel -/
def z_MI (e : z_E) (c : z_M) (g : Int → Int) (N : Int) (n : Nat) : Prop := ∀ (k : Nat) (o b p : Int) (t : z_M) (d : Nat) (Q : Int → z_M → Prop), k < 8 → 0 ≤ p → p ≤ N → 8 * (N - p) + z_mu k ≤ (n : Int) → n + 20 ≤ d → (if k = 7 then z_PS g N t o b (p + 1) ∧ z_pk g N p = 40 else z_PS g N t o b p) → (∀ w t', z_ps g N n k o b p = some w → z_ok2 N p k w → z_PM g N t o b w t' → Q 0 (z_gl c t')) → z_MS e d c k t Q
end PW
