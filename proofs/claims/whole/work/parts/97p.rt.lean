/-! rule: the reading, on both sides -/
def z_flt (g : Int → Int) (N : Int) (n : Nat) (f : Int) : Prop := z_ps g N n 0 0 0 0 = some (.inl f) ∨ ∃ cs, z_ps g N n 0 0 0 0 = some (.inr (f, cs)) ∧ ¬ f = N
def mf_r0 (t : z_M) : z_M := z_up (z_up (z_up (z_up (z_up t 701 8 0) 701 9 (-1)) 701 10 0) 701 6 0) 701 7 0
/-- the reference's memory behind a reading -/
def mf_rd (G : Int → Int) (N L Z : Int) (t : z_M) : z_M := fun a i => if a = 706 then G i else if a = 701 then (if i = 2 then 0 else if i = 6 then 2 * L else if i = 7 then Z else if i = 8 then N else if i = 9 then -1 else if i = 10 then 0 else t 701 i) else t a i
def mf_rl (x L : Int) (t : z_M) : z_M := z_up (z_cp t 706 0 704 (400 * x) (2 * L)) 705 x (2 * L)
section RRD
variable {e : z_E} {c s t : z_M} {Q : Int → z_M → Prop} {N x : Int} {n d : Nat}
theorem s_R_readTape (hN : s 3 2 = N) (hN2 : 0 ≤ N ∧ N ≤ 100) (hn : (n : Int) = 8 * N + 7) (hd : 8 * N + 27 ≤ (d : Int)) (h0 : ∀ f s', z_flt (s 4) N n f → (∀ a i, ¬ (3 ≤ a ∧ a ≤ 6) → s' a i = s a i) → s' 3 2 = 0 → s' 3 3 = f → Q 0 (z_gl s' c)) (h1 : ∀ cs s', z_ps (s 4) N n 0 0 0 0 = some (.inr (N, cs)) → (∀ a i, ¬ (3 ≤ a ∧ a ≤ 6) → s' a i = s a i) → s' 3 2 = 0 → s' 5 1 = (cs.length : Int) → s' 5 2 = z_cz cs → z_aw (s' 6) 0 cs → Q 1 (z_gl s' c)) : z_C e (d + 1) m_R_readTape [z_R 3] (z_gl s c) Q := by
  obtain ⟨d', rfl⟩ : ∃ d', d = d' + 1 := ⟨d - 1, by omega⟩
  refine b_R_readTape_0 ?_
  rw [z_gl_ul (by omega)]
  refine b_T_empty_0 (d := d') ?_
  have k5 : z_ok z_NT 6 5 = true := by decide +kernel
  simp only [k5, z_ckT]
  rw [z_gl_ul (by omega), z_gl_ul (by omega)]
  have u : ∀ a i, ¬ (a = 3 ∧ i = 4) → ¬ a = 5 → z_up (z_up (z_up s 3 4 0) 5 1 0) 5 2 0 a i = s a i := fun a i y z => by rw [z_up_ne (by omega), z_up_ne (by omega), z_up_ne (by omega)]
  have u51 : z_up (z_up (z_up s 3 4 0) 5 1 0) 5 2 0 5 1 = 0 := by rw [z_up_ne (by omega), z_up_eq]
  have u52 : z_up (z_up (z_up s 3 4 0) 5 1 0) 5 2 0 5 2 = 0 := z_up_eq
  have u34 : z_up (z_up (z_up s 3 4 0) 5 1 0) 5 2 0 3 4 = 0 := by rw [z_up_ne (by omega), z_up_ne (by omega), z_up_eq]
  generalize z_up (z_up (z_up s 3 4 0) 5 1 0) 5 2 0 = s0 at u u51 u52 u34 ⊢
  have cs0 : z_CS (s 4) N s0 0 0 := by
    unfold z_CS
    rw [u 3 2 (by omega) (by omega), u51, u52, u34]
    exact ⟨⟨hN, fun i => u _ _ (by omega) (by omega)⟩, hN2, by omega, by omega, by omega⟩
  have fr : ∀ s1, z_CFr s0 s1 → ∀ v w, ∀ a i, ¬ (3 ≤ a ∧ a ≤ 6) → z_up (z_up s1 3 3 v) 3 2 w a i = s a i := fun s1 h v w a i y => by rw [z_up_ne (by omega), z_up_ne (by omega), h a i (by omega) (by omega) (by omega), u a i (by omega) (by omega)]
  have fr2 : ∀ s1, z_CFr s0 s1 → ∀ w, ∀ a i, ¬ (3 ≤ a ∧ a ≤ 6) → z_up s1 3 2 w a i = s a i := fun s1 h w a i y => by rw [z_up_ne (by omega), h a i (by omega) (by omega) (by omega), u a i (by omega) (by omega)]
  show z_CK e (d' + 1) c 0 0 0 s0 _
  refine (z_CI_all (e := e) (c := c) (g := s 4) (N := N) n).1 0 0 0 0 0 s0 (d' + 1) _ (by decide) (by show 8 * (N - 0) + 7 ≤ (n : Int); omega) (by show 8 * (N - 0) + 7 + 20 ≤ _; omega) (by omega) (by omega) cs0 (fun f s1 e1 pf h3 => ⟨fun _ => ?_, fun z => absurd rfl z⟩) (fun q cs s1 e1 q0 q1 q2 q3 g1 => ⟨fun z => by omega, fun _ => ?_⟩)
  · rw [z_gl_ul (by omega)]
    exact h0 f _ (Or.inl e1) (fr2 s1 pf 0) z_up_eq (by rw [z_up_ne (by omega)]; exact h3)
  · obtain ⟨⟨⟨a1, a2⟩, a3, a4, a6, a7⟩, b2, b3, b4, b5⟩ := g1
    simp (disch := omega) only [z_gl_lo, a1, a4.1]
    refine ⟨fun x => ?_, fun x => ?_⟩
    · subst x
      rw [z_gl_ul (by omega)]
      exact h1 cs _ e1 (fr2 s1 b2 0) z_up_eq (by rw [z_up_ne (by omega)]; omega) (by rw [z_up_ne (by omega)]; omega) (z_aw_congr cs 0 (fun i _ _ => z_up_ne (by omega)) b5)
    · refine s_R_wrong (d := d') ⟨fun _ => ?_, fun z => absurd rfl z⟩
      rw [z_gl_ul (by omega)]
      exact h0 q _ (Or.inr ⟨cs, e1, x⟩) (fr s1 b2 q 0) z_up_eq (by rw [z_up_ne (by omega), z_up_eq])
theorem s_M_rule0 (x0 : 0 ≤ x) (x1 : x ≤ 11) (hN : t 701 2 = N) (hN2 : 0 ≤ N ∧ N ≤ 100) (hn : (n : Int) = 8 * N + 7) (hd : n + 20 ≤ d) (hq : ∀ w t', z_ps (t 703) N n 0 0 0 0 = some w → z_ok2 N 0 0 w → z_PM (t 703) N (mf_r0 t) 0 0 w t' → (t' 701 2 ≤ t' 701 8 → z_T e d m_M_rule 64 [some (z_R 701), some (z_I x)] (z_gl c t') Q) ∧ (t' 701 8 < t' 701 2 → z_C e d m_M_wrong [z_R 701, z_I (t' 701 8)] (z_gl c t') (fun _ σ3 => z_T e d m_M_rule 64 [some (z_R 701), some (z_I x)] σ3 Q))) : z_C e (d + 1) m_M_rule [z_R 701, z_I x] (z_gl c t) Q := by
  obtain ⟨d', rfl⟩ : ∃ d', d = d' + 1 := ⟨d - 1, by omega⟩
  refine b_M_rule_0 (s_M_in (d := d') (fun _ _ => ⟨fun _ => ?_, fun z => by omega⟩) (fun q => by omega))
  simp (disch := omega) only [z_gl_up]
  have u : ∀ a i, ¬ (a = 701 ∧ 6 ≤ i ∧ i ≤ 10) → mf_r0 t a i = t a i := fun a i y => by unfold mf_r0; rw [z_up_ne (by omega), z_up_ne (by omega), z_up_ne (by omega), z_up_ne (by omega), z_up_ne (by omega)]
  have u8 : mf_r0 t 701 8 = 0 := by unfold mf_r0; rw [z_up_ne (by omega), z_up_ne (by omega), z_up_ne (by omega), z_up_ne (by omega), z_up_eq]
  have u9 : mf_r0 t 701 9 = -1 := by unfold mf_r0; rw [z_up_ne (by omega), z_up_ne (by omega), z_up_ne (by omega), z_up_eq]
  have u10 : mf_r0 t 701 10 = 0 := by unfold mf_r0; rw [z_up_ne (by omega), z_up_ne (by omega), z_up_eq]
  have u6 : mf_r0 t 701 6 = 0 := by unfold mf_r0; rw [z_up_ne (by omega), z_up_eq]
  have u7 : mf_r0 t 701 7 = 0 := by unfold mf_r0; rw [z_up_eq]
  have ps0 : z_PS (t 703) N (mf_r0 t) 0 0 0 := by
    unfold z_PS
    rw [u 701 2 (by omega), u8, u9, u10, u6, u7]
    exact ⟨⟨hN, fun i => u _ _ (by omega)⟩, hN2, by omega, rfl, by omega, by omega, by omega⟩
  show z_MS e (d' + 1) c 0 (mf_r0 t) _
  refine z_MI_all (g := t 703) (N := N) n 0 0 0 0 (mf_r0 t) (d' + 1) _ (by decide) (by omega) (by omega) (by show 8 * (N - 0) + 7 ≤ (n : Int); omega) (by omega) (by rw [if_neg (by decide)]; exact ps0) (fun w t' e1 ok pm => ?_)
  have := hq w t' e1 ok pm
  simp (disch := omega) only [z_gl_hi]
  exact this
theorem s_M_rule64F (h : 0 ≤ t 701 9) (hq : Q (z_wr (-100 - t 701 9)) (z_gl c (z_up t 701 2 0))) : z_T e d m_M_rule 64 [some (z_R 701), some (z_I x)] (z_gl c t) Q := by
  refine b_M_rule_64 ?_
  rw [z_gl_up (by omega)]
  simp (disch := omega) only [z_gl_hi, z_up_ne]
  exact ⟨fun z => by omega, fun _ => hq⟩
theorem s_M_rule64N {L : Int} (x0 : 0 ≤ x) (x1 : x ≤ 11) (hd : 1 ≤ d) (h : t 701 9 < 0) (h6 : t 701 6 = 2 * L) (hL : 0 ≤ L ∧ L ≤ 100) (hq : z_C e d m_M_changed [z_R 701, z_I (12 + x)] (z_gl c (mf_rl x L (z_up t 701 2 0))) (fun r σ => Q (σ 701 7) σ)) : z_T e d m_M_rule 64 [some (z_R 701), some (z_I x)] (z_gl c t) Q := by
  refine b_M_rule_64 ?_
  rw [z_gl_up (by omega)]
  have e6 : z_up t 701 2 0 701 6 = 2 * L := by rw [z_up_ne (by omega)]; exact h6
  have e9 : z_up t 701 2 0 701 9 < 0 := by rw [z_up_ne (by omega)]; exact h
  have e6' : z_cp (z_up t 701 2 0) 706 0 704 (400 * x) (2 * L) 701 6 = 2 * L := by rw [z_cp_ne (by omega)]; exact e6
  rw [z_wr_id (x := 400 * x) (by omega) (by omega), z_wr_id (x := 12 + x) (by omega) (by omega)]
  simp (disch := omega) only [z_gl_hi, e6, z_gl_cp, e6', z_gl_up]
  exact ⟨fun _ => ⟨by omega, fun z => absurd z (by decide), by omega, hq⟩, fun z => by omega⟩
theorem s_M_ruleB {f : Int} (x0 : 0 ≤ x) (x1 : x ≤ 11) (hN : t 701 2 = N) (hN2 : 0 ≤ N ∧ N ≤ 100) (hn : (n : Int) = 8 * N + 7) (hd : n + 20 ≤ d) (hf : z_flt (t 703) N n f) (hq : ∀ t', (∀ a i, ¬ a = 706 → ¬ (a = 701 ∧ (i = 2 ∨ 6 ≤ i ∧ i ≤ 10)) → t' a i = t a i) → t' 701 2 = 0 → Q (z_wr (-100 - f)) (z_gl c t')) : z_C e (d + 1) m_M_rule [z_R 701, z_I x] (z_gl c t) Q := by
  obtain ⟨d', rfl⟩ : ∃ d', d = d' + 1 := ⟨d - 1, by omega⟩
  refine s_M_rule0 x0 x1 hN hN2 hn hd (fun w t' e1 ok pm => ?_)
  have fr : ∀ t1, z_PF (mf_r0 t) t1 → ∀ a i, ¬ a = 706 → ¬ (a = 701 ∧ (i = 2 ∨ 6 ≤ i ∧ i ≤ 10)) → z_up t1 701 2 0 a i = t a i := fun t1 pf a i y z => by
    rw [z_up_ne (by omega), pf a i y (by omega)]
    unfold mf_r0
    rw [z_up_ne (by omega), z_up_ne (by omega), z_up_ne (by omega), z_up_ne (by omega), z_up_ne (by omega)]
  rcases hf with hf | ⟨cs, hf, hne⟩
  · rw [hf] at e1
    cases e1
    obtain ⟨pf, p9, p10⟩ := pm
    have f0 := ok.1
    have go : z_T e (d' + 1) m_M_rule 64 [some (z_R 701), some (z_I x)] (z_gl c t') Q := s_M_rule64F (by omega) (by rw [p9]; exact hq _ (fr t' pf) z_up_eq)
    exact ⟨fun _ => go, fun _ => s_M_wrongF (d := d') (by omega) go⟩
  · rw [hf] at e1
    cases e1
    have pm : z_PG (t 703) N (mf_r0 t) t' 0 0 f cs := pm
    obtain ⟨a1, a2, a3, a4, a5, a6, a7⟩ := z_PG_at pm
    have e2 := pm.1.1.1
    refine ⟨fun z => by omega, fun _ => s_M_wrongN (d := d') (by omega) ?_⟩
    rw [a1]
    exact s_M_rule64F (by rw [z_up_eq]; omega) (by rw [z_up_eq]; exact hq _ (fr _ (z_PF_tr pm.2.1 (z_PF_up (by omega)))) z_up_eq)
theorem s_M_ruleG {G : Int → Int} {cs : z_Cd} (x0 : 0 ≤ x) (x1 : x ≤ 11) (hN : t 701 2 = N) (hN2 : 0 ≤ N ∧ N ≤ 100) (hn : (n : Int) = 8 * N + 7) (hd : n + 20 ≤ d) (hf : z_ps (t 703) N n 0 0 0 0 = some (.inr (N, cs))) (ha : z_aq G 0 cs) (hG : ∀ i : Int, i < 2 * 0 ∨ 2 * (0 + (cs.length : Int)) ≤ i → G i = t 706 i) (hq : z_C e d m_M_changed [z_R 701, z_I (12 + x)] (z_gl c (mf_rl x cs.length (mf_rd G N cs.length (z_cz cs) t))) (fun r σ => Q (σ 701 7) σ)) : z_C e (d + 1) m_M_rule [z_R 701, z_I x] (z_gl c t) Q := by
  refine s_M_rule0 x0 x1 hN hN2 hn hd (fun w t' e1 ok pm => ?_)
  rw [hf] at e1
  cases e1
  have pm : z_PG (t 703) N (mf_r0 t) t' 0 0 N cs := pm
  obtain ⟨a1, a2, a3, a4, a5, a6, a7⟩ := z_PG_at pm
  obtain ⟨⟨⟨b1, b2⟩, -⟩, pf, b7, b4, b5, b6⟩ := pm
  have u : ∀ a i, ¬ (a = 701 ∧ 6 ≤ i ∧ i ≤ 10) → mf_r0 t a i = t a i := fun a i y => by unfold mf_r0; rw [z_up_ne (by omega), z_up_ne (by omega), z_up_ne (by omega), z_up_ne (by omega), z_up_ne (by omega)]
  have u7 : mf_r0 t 701 7 = 0 := by unfold mf_r0; rw [z_up_eq]
  rw [u7] at b7
  have key : z_up t' 701 2 0 = mf_rd G N cs.length (z_cz cs) t := by
    funext a i
    unfold mf_rd
    by_cases q6 : a = 706
    · rw [if_pos q6, q6, z_up_ne (by omega)]
      by_cases q : i < 2 * 0 ∨ 2 * (0 + (cs.length : Int)) ≤ i
      · rw [hG i q]
        rcases q with q | q
        · rw [b4 i q, u _ _ (by omega)]
        · rw [b6 i q, u _ _ (by omega)]
      · exact z_aq_un cs 0 ha b5 i (by omega) (by omega)
    · rw [if_neg q6]
      by_cases q1 : a = 701
      · rw [if_pos q1, q1]
        by_cases i2 : i = 2
        · rw [if_pos i2, i2, z_up_eq]
        rw [if_neg i2, z_up_ne (by omega)]
        by_cases i6 : i = 6
        · rw [if_pos i6, i6, a4]; omega
        rw [if_neg i6]
        by_cases i7 : i = 7
        · rw [if_pos i7, i7, b7]; omega
        rw [if_neg i7]
        by_cases i8 : i = 8
        · rw [if_pos i8, i8, a1]
        rw [if_neg i8]
        by_cases i9 : i = 9
        · rw [if_pos i9, i9, a2]
        rw [if_neg i9]
        by_cases i10 : i = 10
        · rw [if_pos i10, i10, a3]
        rw [if_neg i10, pf _ _ (by omega) (by omega), u _ _ (by omega)]
      · rw [if_neg q1, z_up_ne (by omega), pf _ _ q6 (by omega), u _ _ (by omega)]
  refine ⟨fun _ => s_M_rule64N (L := cs.length) x0 x1 (by omega) (by omega) (by rw [a4]; omega) (by omega) (by rw [key]; exact hq), fun z => by omega⟩
end RRD
