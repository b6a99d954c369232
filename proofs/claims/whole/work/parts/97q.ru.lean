/-! rule -/
theorem z_nc_cg {g g' : Int → Int} {b : Int} : ∀ (n : Nat), (∀ i : Int, 0 ≤ i → i < 2 * (n : Int) → g' (b + i) = g (b + i)) → z_nc g' b n = z_nc g b n
  | 0, _ => rfl
  | n + 1, h => by
    show z_nc g' b n + (if g' (b + 2 * (n : Int)) = 4 then (1 : Int) else 0) = z_nc g b n + (if g (b + 2 * (n : Int)) = 4 then (1 : Int) else 0)
    rw [z_nc_cg n (fun i i0 i1 => h i i0 (by omega)), h (2 * (n : Int)) (by omega) (by omega)]
theorem z_TI_b {t t' : z_M} {R : Int} (h5 : t' 705 R = t 705 R) (h4 : ∀ p, 0 ≤ p → p < 400 → t' 704 (400 * R + p) = t 704 (400 * R + p)) (h : z_TI t R) : z_TI t' R := by
  obtain ⟨a1, a2, a3, a4⟩ := h
  refine ⟨by omega, by omega, by omega, fun z => ?_⟩
  obtain ⟨b1, b2, D, d0, dE, dr, dw⟩ := a4 (by omega)
  refine ⟨?_, ?_, D, d0, by rw [h5]; exact dE, fun p p0 p1 => dr p p0 (by omega), fun p p0 p1 p2 => ?_⟩
  · have := h4 0 (by omega) (by omega)
    rw [Int.add_zero] at this
    rw [this]; exact b1
  · rw [h5, z_nc_cg _ (fun i i0 i1 => h4 i i0 (by omega))]; exact b2
  · have w := dw p p0 (by omega) p2
    rw [h4 p p0 (by omega), show 400 * R + p + 1 = 400 * R + (p + 1) by omega, h4 (p + 1) (by omega) (by omega)]
    rw [show 400 * R + p + 1 = 400 * R + (p + 1) by omega] at w
    unfold z_TO at w ⊢
    rw [h5]
    rcases w with h | h | h | h | h | h | ⟨c1, c2, c3, c4, c5, c6, c7, c8, c9⟩ | h
    · exact Or.inl h
    · exact Or.inr (Or.inl h)
    · exact Or.inr (Or.inr (Or.inl h))
    · exact Or.inr (Or.inr (Or.inr (Or.inl h)))
    · exact Or.inr (Or.inr (Or.inr (Or.inr (Or.inl h))))
    · exact Or.inr (Or.inr (Or.inr (Or.inr (Or.inr (Or.inl h)))))
    · exact Or.inr (Or.inr (Or.inr (Or.inr (Or.inr (Or.inr (Or.inl ⟨c1, c2, c3, c4, c5, c6, c7, by rw [h4 (p + 2) (by omega) (by omega)]; exact c8, by rw [h4 _ (by omega) (by omega)]; exact c9⟩))))))
    · exact Or.inr (Or.inr (Or.inr (Or.inr (Or.inr (Or.inr (Or.inr h))))))
theorem z_RCs_rd {n : Nat} {s s' t t' : z_M} (h : z_RCs n s t) (hs : ∀ a i, ¬ (3 ≤ a ∧ a ≤ 6) → s' a i = s a i) (ht : ∀ a i, ¬ a = 706 → ¬ (a = 701 ∧ (i = 2 ∨ 6 ≤ i ∧ i ≤ 10)) → t' a i = t a i) (h2 : s' 3 2 = 0) (h3 : t' 701 2 = 0) : z_RCs n s' t' := by
  obtain ⟨⟨hT, hS, hN, hB⟩, ho, hx, hc, -⟩ := id h
  have me : z_me t t' := by refine ⟨?_, ?_, ?_⟩ <;> (funext i; exact ht _ _ (by omega) (by omega))
  have g1 : ∀ i, ¬ i = 2 → ¬ (6 ≤ i ∧ i ≤ 10) → t' 701 i = t 701 i := fun i y z => ht _ _ (by omega) (by omega)
  refine z_RCs_mk h (fun a i y => hs a i (by omega)) (fun a i y => ht a i (by omega) (by omega)) (z_cS_c (fun a i y z w => hs a i (by omega)) (fun i _ _ _ => hs _ _ (by omega)) (fun a i y z => ht a i (by omega) (by omega)) (fun i y z => g1 i (by omega) (by omega)) hS) ?_ (by rw [g1 30 (by omega) (by omega), g1 22 (by omega) (by omega), g1 24 (by omega) (by omega)]; exact hB) (z_sumx_congr hx.2.1 (fun k => ht _ _ (by omega) (by omega)) (fun k => ht _ _ (by omega) (by omega)) (g1 _ (by omega) (by omega)) (g1 _ (by omega) (by omega)) (g1 _ (by omega) (by omega))) (by rw [g1 24 (by omega) (by omega)]; exact hx.2.2.1) (z_KK_same me hx.2.2.2.2.1 (fun a k _ _ => ht a k (by omega) (by omega)) (g1 _ (by omega) (by omega))) (by rw [g1 21 (by omega) (by omega)]; exact ⟨hx.2.2.2.1, hc⟩)
  obtain ⟨n1, n2, n3⟩ := hN
  unfold z_cN
  rw [h2, h3, hs 0 7 (by omega), hs 0 9 (by omega), hs 0 10 (by omega), hs 0 11 (by omega), hs 7 7 (by omega), hs 7 8 (by omega), hs 7 9 (by omega), hs 0 12 (by omega), hs 0 8 (by omega), hs 7 4 (by omega), g1 26 (by omega) (by omega), g1 46 (by omega) (by omega), g1 29 (by omega) (by omega), ht 717 0 (by omega) (by omega), ht 717 1 (by omega) (by omega), ht 717 2 (by omega) (by omega), ht 717 3 (by omega) (by omega), ht 717 4 (by omega) (by omega), ht 717 5 (by omega) (by omega), ht 717 6 (by omega) (by omega)]
  exact ⟨n1, ⟨rfl, by omega, fun i i0 i1 => by omega⟩, n3.1, n3.2.1, fun i i0 i1 => by rw [hs 9 i (by omega), ht 718 i (by omega) (by omega)]; exact n3.2.2 i i0 i1⟩
theorem mf_rd_ne {G : Int → Int} {N L Z : Int} {t : z_M} {a i : Int} (h : ¬ a = 706) (h2 : ¬ (a = 701 ∧ (i = 2 ∨ 6 ≤ i ∧ i ≤ 10))) : mf_rd G N L Z t a i = t a i := by
  unfold mf_rd
  rw [if_neg h]
  by_cases q : a = 701
  · rw [if_pos q, if_neg (by omega), if_neg (by omega), if_neg (by omega), if_neg (by omega), if_neg (by omega), if_neg (by omega), q]
  · rw [if_neg q]
/-- class and reference behind a new text -/
theorem z_RL {n : Nat} {s' s2 t1 t2 : z_M} {G g : Int → Int} {x N L Z : Int} {m : Nat} {cs : z_Cd} (x0 : 0 ≤ x) (x1 : x < 12) (h : z_RCs n s' t1) (e1 : z_ps g N m 0 0 0 0 = some (.inr (N, cs))) (hN : N ≤ 100) (hL : L = cs.length) (hL2 : L ≤ 100) (ha : z_aq G 0 cs) (aw : z_aw (s' 6) 0 cs) (h6 : ∀ i, t1 706 i = G i) (h2 : s2 = z_up (z_up (z_cp s' 6 0 (309 + 2 * x + 1) 0 L) (309 + 2 * x) 1 L) (309 + 2 * x) 2 Z) (h3 : t2 = mf_rl x L t1) : (∀ a i, ¬ a = 1 → ¬ (309 ≤ a ∧ a ≤ 332) → s2 a i = s' a i) ∧ (∀ a i, ¬ a = 702 → ¬ a = 704 → ¬ a = 705 → t2 a i = t1 a i) ∧ z_ag t1 t2 (12 + x) ∧ z_TT t2 ∧ z_cT s2 t2 ∧ s2 (309 + 2 * x) 2 = Z := by
  obtain ⟨⟨hT, -⟩, -, hx, -⟩ := h
  have L0 : 0 ≤ L := by omega
  have us : ∀ a i, ¬ (309 + 2 * x ≤ a ∧ a ≤ 309 + 2 * x + 1) → s2 a i = s' a i := fun a i y => by rw [h2, z_up_ne (by omega), z_up_ne (by omega), z_cp_ne (by omega)]
  have us1 : s2 (309 + 2 * x) 1 = L := by rw [h2, z_up_ne (by omega), z_up_eq]
  have us2 : s2 (309 + 2 * x) 2 = Z := by rw [h2, z_up_eq]
  have us3 : ∀ i, 0 ≤ i → i < L → s2 (309 + 2 * x + 1) i = s' 6 i := fun i i0 i1 => by rw [h2, z_up_ne (by omega), z_up_ne (by omega), z_cp_in (by omega), show 0 + (i - 0) = i by omega]
  have ut : ∀ a i, ¬ a = 704 → ¬ a = 705 → t2 a i = t1 a i := fun a i y z => by rw [h3]; unfold mf_rl; rw [z_up_ne (by omega), z_cp_ne (by omega)]
  have ut5 : t2 705 x = 2 * L := by rw [h3]; unfold mf_rl; rw [z_up_eq]
  have ut5' : ∀ R, ¬ R = x → t2 705 R = t1 705 R := fun R y => by rw [h3]; unfold mf_rl; rw [z_up_ne (by omega), z_cp_ne (by omega)]
  have ut4 : ∀ i, 0 ≤ i → i < 2 * L → t2 704 (400 * x + i) = G i := fun i i0 i1 => by rw [h3]; unfold mf_rl; rw [z_up_ne (by omega), z_cp_in (by omega), show 0 + (400 * x + i - 400 * x) = i by omega, h6]
  have ut4' : ∀ R p, ¬ R = x → 0 ≤ p → p < 400 → t2 704 (400 * R + p) = t1 704 (400 * R + p) := fun R p y p0 p1 => by rw [h3]; unfold mf_rl; rw [z_up_ne (by omega), z_cp_ne (by omega)]
  refine ⟨fun a i y z => us a i (by omega), fun a i _ y z => ut a i y z, ⟨fun c c0 c1 _ => ut _ _ (by omega) (by omega), fun R R0 R1 y => ⟨ut5' R (by omega), fun p p0 p1 => ut4' R p (by omega) p0 p1⟩⟩, ⟨fun c c0 c1 => by rw [ut _ _ (by omega) (by omega)]; exact hx.1.1 c c0 c1, fun R R0 R1 => ?_⟩, ⟨fun k k0 k1 => by rw [us _ _ (by omega), ut _ _ (by omega) (by omega)]; exact hT.1 k k0 k1, fun R R0 R1 => ?_⟩, us2⟩
  · by_cases y : R = x
    · rw [y]; exact z_TI_nw e1 hN (by omega) ha (by rw [ut5, hL]) (fun i i0 i1 => ut4 i i0 (by omega))
    · exact z_TI_b (ut5' R y) (fun p p0 p1 => ut4' R p y p0 p1) (hx.1.2 R R0 R1)
  · by_cases y : R = x
    · rw [y]
      unfold z_cX
      rw [us1, ut5]
      refine ⟨rfl, fun q q0 q1 => ?_⟩
      rw [us3 q q0 (by omega), show 400 * x + 2 * q + 1 = 400 * x + (2 * q + 1) by omega, ut4 _ (by omega) (by omega), ut4 _ (by omega) (by omega)]
      exact z_cwo cs 0 ha aw q (by omega) (by omega)
    · have hX := hT.2 R R0 R1
      have hI := hx.1.2 R R0 R1
      have hI1 := hI.2.1
      unfold z_cX at hX ⊢
      rw [ut5' R y, us _ _ (by omega)]
      refine ⟨hX.1, fun q q0 q1 => ?_⟩
      rw [us _ _ (by omega), show 400 * R + 2 * q + 1 = 400 * R + (2 * q + 1) by omega, ut4' R _ y (by omega) (by omega), ut4' R _ y (by omega) (by omega), ← show 400 * R + 2 * q + 1 = 400 * R + (2 * q + 1) by omega]
      exact hX.2 q q0 q1
section RU2
variable {e : z_E} {n : Nat} {s t : z_M}
theorem z2_rule {x : Int} (h : z_RCs n s t) : z_two e n z_Inv m_C_rule m_M_rule [z_I x] (z_gl s t) := by
  have inv := z_RCs_gl (z_RCs_up h)
  obtain ⟨⟨hT, hS, hN, hB⟩, ho, hx, hc, -⟩ := id h
  have bad : ¬ (0 ≤ x ∧ x ≤ 11) → z_C e 1000 m_M_rule [z_R 701, z_I x] (z_gl s t) (fun r2 σ2 => -20001 = r2 ∧ z_Inv (n + 1) σ2) := fun q =>
    b_M_rule_0 (d := 999) (s_M_in (d := 998) (fun a b => absurd ⟨a, b⟩ q) (fun _ => ⟨fun z => absurd rfl z, fun _ => ⟨rfl, inv⟩⟩))
  refine b_C_rule_0 (d := 999) (s_C_within (d := 998) (fun x0 x1 => ⟨fun _ => ?_, fun z => by omega⟩) (fun q => ⟨fun z => absurd rfl z, fun _ => bad (by omega)⟩))
  obtain ⟨l1, l2, l4⟩ := hN.2.1
  obtain ⟨m, hm⟩ : ∃ m : Nat, (m : Int) = 8 * t 701 2 + 7 := ⟨(8 * t 701 2 + 7).toNat, by omega⟩
  have cg : z_ps (t 703) (t 701 2) m 0 0 0 0 = z_ps (s 4) (t 701 2) m 0 0 0 0 := z_ps_cg (fun i i0 i1 => (l4 i i0 i1).1.symm) m 0 0 0 0 (by decide) (by omega) (by omega)
  refine s_R_readTape (d := 998) (N := t 701 2) (n := m) l1 l2 hm (by omega) (fun f s' hf fr e2 e3 => ⟨fun z => absurd rfl z, fun _ => ?_⟩) (fun cs s' e1 fr e2 k1 k2 aw => ⟨fun _ => ⟨by omega, ?_⟩, fun z => by omega⟩)
  · -- a fault
    have hf' : z_flt (t 703) (t 701 2) m f := by unfold z_flt; rw [cg]; exact hf
    rw [z_gl_lo (by omega), e3]
    exact s_M_ruleB (d := 999) x0 (by omega) rfl l2 hm (by omega) hf' (fun t' frt e5 => ⟨rfl, z_RCs_gl (z_RCs_up (z_RCs_rd h fr frt e2 e5))⟩)
  · -- a text
    have e1' := e1
    rw [← cg] at e1'
    obtain ⟨G, ha, hG⟩ := z_aq_ex (t 706) cs 0
    obtain ⟨w, ew, ok⟩ := z_ps_ok (g := s 4) (N := t 701 2) m 0 0 0 0 (by decide) (by omega) (by omega) (by show 8 * (t 701 2 - 0) + 7 ≤ (m : Int); omega)
    rw [e1] at ew
    cases ew
    have hL : (cs.length : Int) ≤ 100 := by have := ok.2.2.1; omega
    have k5 : z_ok z_NT 6 5 = true := by decide +kernel
    have k6 : z_ok z_NT 100100 (5 + 1) = true := by decide +kernel
    obtain ⟨i1, i2, i3, i4⟩ := z_isT_of x0 x1
    simp only [i1, z_ckT]
    refine b_T_become_0 (d := 998) ?_
    simp only [k5, k6, i1, i2, Bool.and_true, Bool.and_self, z_ckT]
    simp (disch := omega) only [z_gl_lo, k1, show (5 : Int) + 1 = 6 from rfl, z_gl_cl, z_cp_ne, z_gl_ul, z_up_ne, k2]
    refine ⟨by omega, fun z => absurd z (by decide), ?_⟩
    refine z_C_rM fun hrM => ?_
    rw [z_wr_id (x := 12 + x) (by omega) (by omega)]
    obtain ⟨t1, ht1⟩ : ∃ t1, t1 = mf_rd G (t 701 2) cs.length (z_cz cs) t := ⟨_, rfl⟩
    obtain ⟨t2, ht2⟩ : ∃ t2, t2 = mf_rl x cs.length t1 := ⟨_, rfl⟩
    have hR1 : z_RCs n s' t1 := z_RCs_rd h fr (fun a i y z => by rw [ht1]; exact mf_rd_ne y z) e2 (by rw [ht1]; unfold mf_rd; rw [if_neg (by omega), if_pos rfl, if_pos rfl])
    have h17 : t1 717 3 = t 717 3 := by rw [ht1]; exact mf_rd_ne (by omega) (by omega)
    have h77 : t1 701 7 = z_cz cs := by rw [ht1]; unfold mf_rd; rw [if_neg (by omega), if_pos rfl, if_neg (by omega), if_neg (by omega), if_pos rfl]
    have h706 : ∀ i, t1 706 i = G i := fun i => by rw [ht1]; unfold mf_rd; rw [if_pos rfl]
    obtain ⟨s2, hs2⟩ : ∃ s2, s2 = z_up (z_up (z_cp s' 6 0 (309 + 2 * x + 1) 0 cs.length) (309 + 2 * x) 1 cs.length) (309 + 2 * x) 2 (z_cz cs) := ⟨_, rfl⟩
    obtain ⟨f1, f2, f3, f4, f5, f6⟩ := z_RL x0 x1 hR1 e1 l2.2 rfl hL ha aw h706 hs2 ht2
    rw [← hs2] at hrM ⊢
    have hir : z_ir (t1 717 3) := by
      have z := hrM 717 3
      rw [z_gl_hi (by omega)] at z
      rw [h17]; exact z
    refine z2_changed (d := 994) (t := t1) (t1 := t2) (w := 12 + x) (by omega) (by omega) hR1 f1 f2 f3 f4 f5 hir (fun s3 t3 hR ht7 hM7 hM => ?_)
    refine ⟨by omega, ?_⟩
    rw [z_gl_lo (by omega), ht7 _ _ (by omega) (by omega), f6]
    refine s_M_ruleG (d := 999) x0 (by omega) rfl l2 hm (by omega) e1' ha hG ?_
    rw [← ht1, ← ht2]
    refine hM s3 994 _ ⟨?_, z_RCs_gl hR⟩
    rw [z_gl_hi (by omega), hM7 _ (by omega) (by omega) (by omega), f2 _ _ (by omega) (by omega) (by omega), h77]
end RU2
