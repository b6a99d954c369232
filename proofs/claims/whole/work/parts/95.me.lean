/-! the reference's reader against the function: E and C -/
section ME
variable {e : z_E} {c t t1 : z_M} {Q : Int → z_M → Prop} {g : Int → Int} {N o b p : Int} {c1 : z_Cd} {n d : Nat}
theorem z_bd_inr {q : Int} {x : z_Cd} {f : Int → z_Cd → z_Pr} : z_bd (some (.inr (q, x))) f = f q x := rfl
theorem z_bd_inl {q : Int} {f : Int → z_Cd → z_Pr} : z_bd (some (.inl q)) f = some (.inl q) := rfl
theorem z_MI_go {k : Nat} {b' : Int} (ih : z_MI e c g N n) (h : z_PG g N t t1 o b p c1) (hb : b + (c1.length : Int) = b') (hk : k < 7) (hm : 8 * (N - p) + z_mu k ≤ (n : Int)) (hd : n + 20 ≤ d) (hl : ∀ f t2, z_ps g N n k o b' p = some (.inl f) → p ≤ f → f ≤ N → z_PF t t2 → t2 701 9 = f → t2 701 10 = o → Q 0 (z_gl c t2)) (hr : ∀ q cs t2, z_ps g N n k o b' p = some (.inr (q, cs)) → p ≤ q → q ≤ N → (cs.length : Int) ≤ q - p → (k = 5 ∨ k = 6 ∨ p < q) → z_PG g N t t2 o b q (c1 ++ cs) → Q 0 (z_gl c t2)) : z_MS e d c k t1 Q := by
  subst hb
  obtain ⟨a1, a2, a3, a4, a5, a6, a7⟩ := z_PG_at h
  refine ih k o (b + c1.length) p t1 d Q (by omega) (by omega) (by omega) hm hd (by rw [if_neg (by omega)]; exact h.1) (fun w t2 e1 ok pm => ?_)
  match w, e1, ok, pm with
  | .inl f, e1, ok, pm => exact hl f t2 e1 ok.1 ok.2 (z_PF_tr h.2.1 pm.1) pm.2.1 pm.2.2
  | .inr (q, cs), e1, ok, pm => exact hr q cs t2 e1 ok.1 ok.2.1 ok.2.2.1 ok.2.2.2 (z_PG_tr h pm)
theorem s_M_pC (ih : z_MI e c g N n) (hm : 8 * (N - p) + 6 ≤ ((n + 1 : Nat) : Int)) (hd : n + 21 ≤ d) (hs : z_PS g N t o b p) (hq : ∀ w t', z_ps g N (n + 1) 1 o b p = some w → z_PM g N t o b w t' → Q 0 (z_gl c t')) : z_MS e d c 1 t Q := by
  obtain ⟨d', rfl⟩ : ∃ d', d = d' + 7 := ⟨d - 7, by omega⟩
  have P0 := z_PG_0 hs
  obtain ⟨-, -, -, -, -, a6, -⟩ := z_PG_at P0
  have hp := hs.2.2.1
  refine b_M_readsCompared_0 (d := d' + 6) ?_
  show z_MS e (d' + 6) c 2 t _
  refine z_MI_go (b' := b) ih P0 (by show b + ((0 : Nat) : Int) = b; omega) (by omega) (by show 8 * (N - p) + 5 ≤ (n : Int); omega) (by omega) (fun f t1 e1 f0 f1 pf h9 h10 => ?_) (fun p1 c1 t1 e1 q0 q1 q2 q3 g1 => ?_)
  · refine s_M_takesF (d := d' + 5) (by omega) ⟨fun _ => s_M_takesF (d := d' + 5) (by omega) ⟨fun _ => hq (.inl f) t1 (by rw [z_ps_C, e1]; rfl) ⟨pf, h9, h10⟩, fun z => absurd rfl z⟩, fun z => absurd rfl z⟩
  · have g1 : z_PG g N t t1 o b p1 c1 := g1
    -- behind the sign
    have rest : ∀ x y : Int, (z_pk g N p1 = 60 ∧ x = 9 ∨ ¬ z_pk g N p1 = 60 ∧ z_pk g N p1 = 61 ∧ x = 10) → p1 < N → z_PG g N t (z_up t1 701 8 (p1 + 1)) o b (p1 + 1) c1 → z_C e (d' + 6) m_M_readsSum [z_R 701] (z_gl c (z_up t1 701 8 (p1 + 1))) (fun _ σ4 => z_C e (d' + 6) m_M_writes [z_R 701, z_I x, z_I 0] σ4 (fun _ σ5 => Q 0 σ5)) := fun x y hx l1 g2 => by
      have hpos : z_pk g N p1 = 60 ∨ z_pk g N p1 = 61 := by omega
      have hxx : x = if z_pk g N p1 = 60 then 9 else 10 := by
        rcases hx with ⟨h1, h2⟩ | ⟨h1, -, h2⟩
        · rw [if_pos h1]; exact h2
        · rw [if_neg h1]; exact h2
      show z_MS e (d' + 6) c 2 _ _
      refine z_MI_go (b' := b + c1.length) ih g2 rfl (by omega) (by show 8 * (N - (p1 + 1)) + 5 ≤ (n : Int); omega) (by omega) (fun f t3 e2 f0 f1 pf h9 h10 => ?_) (fun p2 c2 t3 e2 r0 r1 r2 r3 g3 => ?_)
      · exact s_M_writesF (d := d' + 5) (by omega) (hq (.inl f) t3 (by rw [z_ps_C, e1]; show (if _ then _ else _) = _; rw [if_pos hpos, e2]; rfl) ⟨pf, h9, h10⟩)
      · refine s_M_wr (d := d' + 5) g3 (by rw [List.length_append]; omega) (fun g4 => hq (.inr (p2, c1 ++ (c2 ++ [(x, 0)]))) _ (by rw [z_ps_C, e1]; show (if _ then _ else _) = _; rw [if_pos hpos, e2, hxx]; rfl) ?_)
        rw [List.append_assoc] at g4
        exact g4
    refine s_M_tk (d := d' + 4) g1 (by decide) (fun x1 l1 g2 => ⟨fun z => by omega, fun _ => rest 9 0 (Or.inl ⟨x1, rfl⟩) l1 g2⟩) (fun x1 => ⟨fun _ => s_M_tk (d := d' + 4) g1 (by decide) (fun x2 l1 g2 => ⟨fun z => by omega, fun _ => rest 10 0 (Or.inr ⟨x1, x2, rfl⟩) l1 g2⟩) (fun x2 => ⟨fun _ => hq (.inr (p1, c1)) t1 (by rw [z_ps_C, e1]; show (if _ then _ else _) = _; rw [if_neg (by omega)]) g1, fun z => absurd rfl z⟩), fun z => absurd rfl z⟩)
theorem s_M_pS (ih : z_MI e c g N n) (hm : 8 * (N - p) + 5 ≤ ((n + 1 : Nat) : Int)) (hd : n + 21 ≤ d) (hs : z_PS g N t o b p) (hq : ∀ w t', z_ps g N (n + 1) 2 o b p = some w → z_PM g N t o b w t' → Q 0 (z_gl c t')) : z_MS e d c 2 t Q := by
  obtain ⟨d', rfl⟩ : ∃ d', d = d' + 7 := ⟨d - 7, by omega⟩
  have P0 := z_PG_0 hs
  have hp := hs.2.2.1
  refine b_M_readsSum_0 (d := d' + 6) ?_
  show z_MS e (d' + 6) c 3 t _
  refine z_MI_go (b' := b) ih P0 (by show b + ((0 : Nat) : Int) = b; omega) (by omega) (by show 8 * (N - p) + 4 ≤ (n : Int); omega) (by omega) (fun f t1 e1 f0 f1 pf h9 h10 => ?_) (fun p1 c1 t1 e1 q0 q1 q2 q3 g1 => ?_)
  · refine b_M_readsSum_4 ?_
    rw [z_gl_hi (by omega), h9]
    exact ⟨fun _ => hq (.inl f) t1 (by rw [z_ps_S, e1]; rfl) ⟨pf, h9, h10⟩, fun z => by omega⟩
  · have g1 : z_PG g N t t1 o b p1 c1 := g1
    show z_MS e (d' + 6) c 5 t1 _
    refine z_MI_go (b' := b + c1.length) ih g1 rfl (by omega) (by show 8 * (N - p1) + 1 ≤ (n : Int); omega) (by omega) (fun f t3 e2 f0 f1 pf h9 h10 => ?_) (fun p2 c2 t3 e2 r0 r1 r2 r3 g3 => ?_)
    · exact hq (.inl f) t3 (by rw [z_ps_S, e1, z_bd_inr, e2, z_bd_inl]) ⟨pf, h9, h10⟩
    · exact hq (.inr (p2, c1 ++ c2)) t3 (by rw [z_ps_S, e1, z_bd_inr, e2, z_bd_inr]) g3
theorem s_M_pP (ih : z_MI e c g N n) (hm : 8 * (N - p) + 4 ≤ ((n + 1 : Nat) : Int)) (hd : n + 21 ≤ d) (hs : z_PS g N t o b p) (hq : ∀ w t', z_ps g N (n + 1) 3 o b p = some w → z_PM g N t o b w t' → Q 0 (z_gl c t')) : z_MS e d c 3 t Q := by
  obtain ⟨d', rfl⟩ : ∃ d', d = d' + 7 := ⟨d - 7, by omega⟩
  have P0 := z_PG_0 hs
  have hp := hs.2.2.1
  refine b_M_readsProduct_0 (d := d' + 6) ?_
  show z_MS e (d' + 6) c 4 t _
  refine z_MI_go (b' := b) ih P0 (by show b + ((0 : Nat) : Int) = b; omega) (by omega) (by show 8 * (N - p) + 3 ≤ (n : Int); omega) (by omega) (fun f t1 e1 f0 f1 pf h9 h10 => ?_) (fun p1 c1 t1 e1 q0 q1 q2 q3 g1 => ?_)
  · refine b_M_readsProduct_4 ?_
    rw [z_gl_hi (by omega), h9]
    exact ⟨fun _ => hq (.inl f) t1 (by rw [z_ps_P, e1]; rfl) ⟨pf, h9, h10⟩, fun z => by omega⟩
  · have g1 : z_PG g N t t1 o b p1 c1 := g1
    show z_MS e (d' + 6) c 6 t1 _
    refine z_MI_go (b' := b + c1.length) ih g1 rfl (by omega) (by show 8 * (N - p1) + 1 ≤ (n : Int); omega) (by omega) (fun f t3 e2 f0 f1 pf h9 h10 => ?_) (fun p2 c2 t3 e2 r0 r1 r2 r3 g3 => ?_)
    · exact hq (.inl f) t3 (by rw [z_ps_P, e1, z_bd_inr, e2, z_bd_inl]) ⟨pf, h9, h10⟩
    · exact hq (.inr (p2, c1 ++ c2)) t3 (by rw [z_ps_P, e1, z_bd_inr, e2, z_bd_inr]) g3
end ME
