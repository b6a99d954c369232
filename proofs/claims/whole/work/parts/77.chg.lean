/-! set, drop: what changes -/
section CG
variable {e : z_E} {n : Nat}
/-- class and reference behind a change -/
theorem z2_changed {s t s1 t1 : z_M} {w : Int} {d : Nat} {c : z_M} {Q : Int → z_M → Prop} (w0 : 0 ≤ w) (w1 : w < 24) (h : z_RCs n s t) (hs1 : ∀ a i, ¬ a = 1 → ¬ (309 ≤ a ∧ a ≤ 332) → s1 a i = s a i) (ht1 : ∀ a i, ¬ a = 702 → ¬ a = 704 → ¬ a = 705 → t1 a i = t a i) (ha : z_ag t t1 w) (hT1 : z_TT t1) (hcT : z_cT s1 t1) (hir : z_ir (t 717 3))
    (hq : ∀ s' t', z_RCs (n + 1) s' t' → (∀ a i, 309 ≤ a → a ≤ 332 → s' a i = s1 a i) → (∀ i, ¬ i = 22 → ¬ i = 23 → ¬ i = 29 → t' 701 i = t1 701 i) → (∀ (c : z_M) (d : Nat) (Q2 : Int → z_M → Prop), Q2 (t' 701 29) (z_gl c t') → z_C e (d + 5) m_M_changed [z_R 701, z_I w] (z_gl c t1) Q2) → Q (t' 701 29) (z_gl s' c)) : z_C e (d + 5) m_C_changed [z_R 0, z_I w] (z_gl s1 c) Q := by
  obtain ⟨⟨hT, hS, hN, hB⟩, ho, hx, hc, th1, th2, th3⟩ := h
  have m707 : ∀ a i, 706 ≤ a → t1 a i = t a i := fun a i x => ht1 a i (by omega) (by omega) (by omega)
  have m701 : ∀ i, t1 701 i = t 701 i := fun i => ht1 _ _ (by omega) (by omega) (by omega)
  have hdep : ∀ q, 0 ≤ q → q < 4 → (0 ≤ t1 722 q ∧ t1 722 q ≤ 30) ∧ ∀ i, 0 ≤ i → i < t1 722 q → 0 ≤ t1 725 (30 * q + i) ∧ t1 725 (30 * q + i) < 1212 := fun q q0 q1 => by
    rw [m707 722 q (by omega)]
    have hi := hx.2.2.2.2.2 q q0 q1 (by omega)
    have hd := z_RI_dep hi
    refine ⟨by omega, fun i i0 i1 => ?_⟩
    rw [m707 725 _ (by omega)]
    exact ((ho q q0 q1).1.1.2.2 i i0 i1).2.1.1
  have h30 : z_d30 t1 := fun q q0 q1 => (hdep q q0 q1).1.2
  refine b_C_changed_0 (d := d + 4) ?_
  -- the tasks
  have loop : ∀ (m i : Nat) (sx : z_M), i + m = 4 → (∀ a j, ¬ (333 ≤ a) → ¬ (a = 0 ∧ j = 10) → sx a j = s1 a j) → (∀ q, 0 ≤ q → q < 4 → z_cR false sx (mf_ans w i t1) q ∧ sx (z_ru q) 1 = 0) → sx 0 10 = mf_ans w i t1 717 1 → z_T e (d + 4) m_C_changed 16 [some (z_R 0), none, some (z_I (z_shl 1 w)), some (z_R 308), some (z_I 4), some (z_I (i : Int)), none] (z_gl sx c) Q := by
    intro m
    induction m with
    | zero =>
      intro i sx hi g1 g2 g3
      obtain rfl : i = 4 := by omega
      refine b_C_changed_16 ⟨fun _ => ?_, fun z => by omega⟩
      have u : ∀ a j, ¬ (a = 7 ∧ j = 4) → z_up sx 7 4 0 a j = sx a j := fun a j y => z_up_ne (by omega)
      have v : ∀ a j, ¬ (a = 701 ∧ j = 29) → z_up t1 701 29 0 a j = t1 a j := fun a j y => z_up_ne (by omega)
      have gs : ∀ a j, ¬ a = 1 → ¬ (309 ≤ a) → ¬ (a = 0 ∧ j = 10) → sx a j = s a j := fun a j y1 y2 y3 => by rw [g1 a j (by omega) y3, hs1 a j y1 (by omega)]
      have xS : z_cS (z_up sx 7 4 0) (z_up t1 701 29 0) := z_cS_c (fun a j x y z => by rw [u _ _ (by omega), gs _ _ (by omega) (by omega) (by omega)]) (fun j x y z => by rw [u _ _ (by omega), gs _ _ (by omega) (by omega) (by omega)]) (fun a j x y => by rw [v _ _ (by omega), m707 _ _ (by omega)]) (fun j x y => by rw [v _ _ (by omega), m701]) hS
      have hss := z_sumx_to hx.2.1 (by rw [hB.1]; decide)
      have xs : z_sums (z_up t1 701 29 0) := z_sums_congr hss (fun k => by rw [v _ _ (by omega), m707 _ _ (by omega)]) (fun k => by rw [v _ _ (by omega), m707 _ _ (by omega)]) (by rw [v _ _ (by omega), m701]) (by rw [v _ _ (by omega), m701])
      have hrg := z_sums_rng hss
      have hKK := hx.2.2.2.2.1
      have e07 : ∀ k, z_up t1 701 29 0 707 k = t 707 k := fun k => by rw [v _ _ (by omega), m707 _ _ (by omega)]
      have e14 : ∀ k, z_up t1 701 29 0 714 k = t 714 k := fun k => by rw [v _ _ (by omega), m707 _ _ (by omega)]
      have hsz : z_up sx 7 4 0 7 2 = t 701 23 := by rw [u _ _ (by omega), gs _ _ (by omega) (by omega) (by omega)]; exact hS.1.1
      refine b_S_throwOut_0 (d := d + 3) ?_
      rw [z_gl_ul (by omega), z_gl_lo (by omega)]
      have hl := s_S_throw_loop (e := e) (c := c) w0 w1 (t 701 23).toNat 0 0 (z_up sx 7 4 0) (z_up t1 701 29 0) (d + 2) (fun r1 σ1 => Q r1 σ1) xS xs (by rw [v _ _ (by omega), m707 _ _ (by omega)]; exact hir) (fun k k0 k1 k2 => by rw [e07] at k2; rw [e14]; exact (hKK.1 k k0 k1 k2).2.2.2.1.1) (fun k k' k0 k1 k2 k3 k4 k5 k6 => by rw [e07] at k4 k5; rw [e14, e14] at k6; exact hKK.2 k k' k0 k1 k2 k3 k4 k5 k6) (Int.le_refl _) (by rw [hsz]; omega) ⟨by rw [z_up_eq, z_up_eq], by rw [z_up_eq]; omega, by rw [z_up_eq, hsz]; have := hx.2.2.1; omega, fun i i0 i1 => by rw [z_up_eq] at i1; omega⟩ (fun j j0 j1 => by omega) (fun j j0 j1 => ?_) (fun s2 t2 y1 y2 y3 y4 y5 y6 y7 y8 y9 => ?_)
      · rw [hsz, show t 701 23 = (((t 701 23).toNat : Nat) : Int) by omega]
        exact hl
      · obtain ⟨d1, d2, d3, d4⟩ := xS.2.2.2.1 j j0 j1
        rw [e07] at d2
        rw [e14]
        exact (hKK.1 _ d1.1 d1.2 d2).2.2.2.1.1
      -- the end
      have yt : ∀ a j, ¬ a = 707 → ¬ (a = 701 ∧ (j = 22 ∨ j = 23 ∨ j = 29)) → ¬ a = 718 → ¬ (a = 717 ∧ j = 3) → t2 a j = t1 a j := fun a j z1 z2 z3 z4 => by rw [y3.1 a j z1 z2 z3 z4, v _ _ (by omega)]
      have ys : ∀ a j, ¬ a = 8 → ¬ a = 9 → ¬ a = 10 → ¬ (a = 7 ∧ (j = 2 ∨ j = 3 ∨ j = 4 ∨ j = 7)) → s2 a j = sx a j := fun a j z1 z2 z3 z4 => by rw [y5 a j z1 z2 z3 z4, u _ _ (by omega)]
      have hd2 : ∀ q, 0 ≤ q → q < 4 → (0 ≤ t2 722 q ∧ t2 722 q ≤ 30) ∧ ∀ i, 0 ≤ i → i < t2 722 q → 0 ≤ t2 725 (30 * q + i) ∧ t2 725 (30 * q + i) < 1212 := fun q q0 q1 => by
        rw [yt 722 q (by omega) (by omega) (by omega) (by omega)]
        refine ⟨(hdep q q0 q1).1, fun i i0 i1 => ?_⟩
        rw [yt 725 _ (by omega) (by omega) (by omega) (by omega)]; exact (hdep q q0 q1).2 i i0 i1
      have h302 : z_d30 t2 := fun q q0 q1 => (hd2 q q0 q1).1.2
      have h5 : z_rs5 t1 t2 := ⟨fun a j z1 z2 => yt a j (by omega) (by omega) (by omega) (by omega), yt _ _ (by omega) (by omega) (by omega) (by omega)⟩
      have h5a := mf_ans_congr (w := w) h5 4
      have an : ∀ a j, ¬ ((a = 719 ∨ a = 722) ∧ 0 ≤ j ∧ j < 4) → ¬ (a = 717 ∧ j = 1) → ¬ (725 ≤ a ∧ a ≤ 732 ∧ ¬ a = 731 ∧ 0 ≤ j ∧ j < 120) → mf_ans w 4 t2 a j = t2 a j := fun a j z1 z2 z3 => mf_ans_ne h302 4 (by omega) (by omega) z2 (by omega)
      have e29 : mf_ans w 4 t2 701 29 = t2 701 29 := an _ _ (by omega) (by omega) (by omega)
      rw [y6.1]
      have fin := hq s2 (mf_ans w 4 t2)
      rw [e29] at fin
      refine fin ?_ (fun a j z1 z2 => by rw [ys a j (by omega) (by omega) (by omega) (by omega), g1 a j (by omega) (by omega)]) (fun j z1 z2 z3 => by rw [an _ _ (by omega) (by omega) (by omega), yt _ _ (by omega) (by omega) (by omega) (by omega)]) (fun c2 d2 Q2 hQ2 => ?_)
      · have hm2 : z_me t1 (mf_ans w 4 t2) := by refine ⟨?_, ?_, ?_⟩ <;> (funext j; rw [an _ _ (by omega) (by omega) (by omega), yt _ _ (by omega) (by omega) (by omega) (by omega)])
        have m21 : mf_ans w 4 t2 701 21 = t 701 21 := by rw [an _ _ (by omega) (by omega) (by omega), yt _ _ (by omega) (by omega) (by omega) (by omega), m701]
        have m24 : mf_ans w 4 t2 701 24 = t 701 24 := by rw [an _ _ (by omega) (by omega) (by omega), yt _ _ (by omega) (by omega) (by omega) (by omega), m701]
        have m30 : mf_ans w 4 t2 701 30 = t 701 30 := by rw [an _ _ (by omega) (by omega) (by omega), yt _ _ (by omega) (by omega) (by omega) (by omega), m701]
        have m22 : mf_ans w 4 t2 701 22 = t2 701 22 := an _ _ (by omega) (by omega) (by omega)
        have a7 : ∀ a k, 707 ≤ a → a ≤ 716 → mf_ans w 4 t2 a k = t2 a k := fun a k z1 z2 => an _ _ (by omega) (by omega) (by omega)
        have k7 : ∀ k, ¬ t2 707 k = 0 → t2 707 k = t 707 k := fun k z => by rw [y3.2 k z, e07]
        have sm : z_sums (mf_ans w 4 t2) := z_sums_congr y2 (fun k => a7 _ _ (by omega) (by omega)) (fun k => a7 _ _ (by omega) (by omega)) m22 (an _ _ (by omega) (by omega) (by omega))
        refine ⟨⟨z_cT_c (fun a j z => ?_) hm2 hcT, z_cS_c (fun _ _ _ _ _ => rfl) (fun _ _ _ _ => rfl) (fun a j z1 z2 => a7 a j z1 z2) (fun j z1 z2 => an _ _ (by omega) (by omega) (by omega)) y1, ?_, by rw [m30]; exact hB.1, ?_⟩, fun q q0 q1 => ?_, ⟨z_me_TT hm2 hT1, z_sumx_of sm, by rw [m24]; exact hx.2.2.1, by rw [m21]; exact hx.2.2.2.1, ⟨fun k k0 k1 k2 => ?_, fun k k' k0 k1 k2 k3 k4 k5 k6 => ?_⟩, fun q q0 q1 _ => ?_⟩, by rw [m21]; omega, ?_, ?_, fun k k0 k1 => ?_⟩
        · rw [ys a j (by omega) (by omega) (by omega) (by omega), g1 a j (by omega) (by omega)]
        · obtain ⟨⟨n1, n2, n3, n4, n5, n6, n7, n8, n9⟩, ⟨l1, l2, l3⟩, -⟩ := hN
          have zs : ∀ a j, (a = 0 ∧ ¬ j = 10) ∨ a = 3 ∨ a = 4 ∨ (a = 7 ∧ (j = 8 ∨ j = 9)) → s2 a j = s a j := fun a j z => by rw [ys a j (by omega) (by omega) (by omega) (by omega), gs a j (by omega) (by omega) (by omega)]
          have zt : ∀ a j, (a = 701 ∧ ¬ j = 22 ∧ ¬ j = 23 ∧ ¬ j = 29) ∨ a = 703 ∨ (a = 717 ∧ ¬ j = 1 ∧ ¬ j = 3) → mf_ans w 4 t2 a j = t a j := fun a j z => by rw [an _ _ (by omega) (by omega) (by omega), yt _ _ (by omega) (by omega) (by omega) (by omega), ht1 _ _ (by omega) (by omega) (by omega)]
          have z173 : mf_ans w 4 t2 717 3 = t2 717 3 := an _ _ (by omega) (by omega) (by omega)
          have z18 : ∀ j, mf_ans w 4 t2 718 j = t2 718 j := fun j => an _ _ (by omega) (by omega) (by omega)
          unfold z_cN
          rw [zs 0 7 (by omega), zs 0 9 (by omega), zs 0 11 (by omega), zs 7 8 (by omega), zs 7 9 (by omega), zs 0 12 (by omega), zs 0 8 (by omega), zs 3 2 (by omega), zt 701 26 (by omega), zt 717 0 (by omega), zt 717 2 (by omega), zt 717 4 (by omega), zt 717 5 (by omega), zt 717 6 (by omega), zt 701 46 (by omega), zt 701 2 (by omega), e29, z173, y8, y7, u 7 7 (by omega), gs 7 7 (by omega) (by omega) (by omega), n5, v 717 3 (by omega), m707 717 3 (by omega), z_up_eq, Int.sub_zero, y6.1]
          refine ⟨⟨n1, n2, ?_, n4, rfl, n6, n7, n8, n9⟩, ⟨l1, l2, fun i i0 i1 => by rw [zs 4 i (by omega), zt 703 i (by omega)]; exact l3 i i0 i1⟩, rfl, y6.2.1 |> fun z => ⟨z, y6.2.2.1⟩, fun i i0 i1 => by rw [z18]; exact y6.2.2.2 i i0 i1⟩
          rw [ys 0 10 (by omega) (by omega) (by omega) (by omega), g3, h5a.2]
        · rw [m22, m24]
          have hsub := z_sum_sub (t := t) (t' := t2) (g := t 710) k7 1212 (fun k k0 k1 k2 => by have := hss.2.2 k k0 k1 k2; omega)
          have hcg : z_sum t2 (t2 710) 1212 = z_sum t2 (t 710) 1212 := z_sum_congr 1212 (fun k _ _ => Iff.rfl) (fun k _ _ _ => by rw [yt _ _ (by omega) (by omega) (by omega) (by omega), m707 _ _ (by omega)])
          rw [y2.1, hcg]
          have := hss.1
          have := hB.2
          omega
        · have hrq := z_ru_rng (r := q) q0 (by omega)
          have hrl := z_ru_lt q1
          obtain ⟨⟨oG, oV⟩, ok⟩ := g2 q q0 q1
          have hys : ∀ a j, 333 ≤ a → s2 a j = sx a j := fun a j z => ys a j (by omega) (by omega) (by omega) (by omega)
          exact ⟨⟨z_cG_c (hys _ _ (by omega)) (hys _ _ (by omega)) (fun a j z1 z2 => hys a j (by omega)) (h5a.1 _ _ (by omega) (by omega)) (h5a.1 _ _ (by omega) (by omega)) (fun f _ _ => z_fe_of fun a j z1 z2 => h5a.1 a j (by omega) z2) oG, z_cV_c oV (fun j => hys _ _ (by omega)) (fun a z1 z2 => h5a.1 _ _ z1 (by omega))⟩, by rw [hys _ _ (by omega)]; exact ok⟩
        · have k2' := k2
          rw [a7 _ _ (by omega) (by omega)] at k2
          have hb := y4 k k0 k1 k2
          have hk0 := k7 k k2
          rw [hk0] at k2
          obtain ⟨r1, r2, r3, r4, nn, r5⟩ := hKK.1 k k0 k1 k2
          have e13 : t2 713 k = t 713 k := by rw [yt _ _ (by omega) (by omega) (by omega) (by omega), m707 _ _ (by omega)]
          rw [e13] at hb
          have hev := z_ev_ag hx.1 ha w0 w1 nn k _ k0 k1 r5 hb
          have ea : ∀ a, 708 ≤ a → a ≤ 716 → mf_ans w 4 t2 a = t a := fun a z1 z2 => funext fun j => by rw [a7 _ _ (by omega) (by omega), yt _ _ (by omega) (by omega) (by omega) (by omega), m707 _ _ (by omega)]
          refine ⟨by rw [a7 _ _ (by omega) (by omega), hk0]; exact r1, by rw [ea 715 (by omega) (by omega)]; exact r2, by rw [ea 715 (by omega) (by omega), ea 710 (by omega) (by omega), ea 708 (by omega) (by omega)]; exact r3, by rw [ea 714 (by omega) (by omega), m21]; exact r4, nn, ?_⟩
          rw [z_me_ev hm2, ea 708 (by omega) (by omega), ea 713 (by omega) (by omega), ea 715 (by omega) (by omega), ea 716 (by omega) (by omega)]
          exact hev
        · rw [a7 _ _ (by omega) (by omega)] at k4 k5 k6
          rw [a7 _ _ (by omega) (by omega)] at k6
          rw [yt _ _ (by omega) (by omega) (by omega) (by omega), m707 _ _ (by omega), yt _ _ (by omega) (by omega) (by omega) (by omega), m707 _ _ (by omega)] at k6
          exact hKK.2 k k' k0 k1 k2 k3 (by rw [← k7 k k4]; exact k4) (by rw [← k7 k' k5]; exact k5) k6
        · have key : ∀ i : Nat, i ≤ 4 → ∀ q : Int, 0 ≤ q → q < (i : Int) → z_RI (mf_ans w i t2) q := by
            intro i
            induction i with
            | zero => intro _ q q0 q1; omega
            | succ i ih =>
              intro hi q q0 q1
              have ani : ∀ a j, ¬ ((a = 719 ∨ a = 722) ∧ 0 ≤ j ∧ j < (i : Int)) → ¬ (a = 717 ∧ j = 1) → ¬ (725 ≤ a ∧ a ≤ 732 ∧ ¬ a = 731 ∧ 0 ≤ j ∧ j < 30 * (i : Int)) → mf_ans w i t2 a j = t2 a j := fun a j z1 z2 z3 => mf_ans_ne h302 i (by omega) z1 z2 z3
              have hmi : z_me t1 (mf_ans w i t2) := by refine ⟨?_, ?_, ?_⟩ <;> (funext j; rw [ani _ _ (by omega) (by omega) (by omega), yt _ _ (by omega) (by omega) (by omega) (by omega)])
              by_cases hqi : q = (i : Int)
              · subst hqi
                have at2 : ∀ a j, 719 ≤ a → ¬ ((a = 719 ∨ a = 722) ∧ 0 ≤ j ∧ j < (i : Int)) → ¬ (725 ≤ a ∧ a ≤ 732 ∧ ¬ a = 731 ∧ 0 ≤ j ∧ j < 30 * (i : Int)) → mf_ans w i t2 a j = t a j := fun a j z1 z2 z3 => by rw [ani _ _ z2 (by omega) z3, yt _ _ (by omega) (by omega) (by omega) (by omega), m707 _ _ (by omega)]
                exact z_RI_an q0 hx.1 (z_me_TT hmi hT1) ⟨fun c c0 c1 c2 => by rw [hmi.1]; exact ha.1 c c0 c1 c2, fun R R0 R1 R2 => by rw [hmi.2.1, hmi.2.2]; exact ha.2 R R0 R1 R2⟩ w0 w1 ⟨fun a z1 z2 => at2 _ _ (by omega) (by omega) (by omega), fun f z1 z2 => ⟨fun a z3 z4 z5 => at2 _ _ (by omega) (by omega) (by omega), fun p z3 z4 => at2 _ _ (by omega) (by omega) (by omega), fun p z3 z4 => at2 _ _ (by omega) (by omega) (by omega)⟩⟩ (hx.2.2.2.2.2 _ q0 (by omega) (by omega))
              · have hiq := ih (by omega) q q0 (by omega)
                have hd : mf_ans w i t2 722 (i : Int) ≤ 30 := mf_ans_22 h302 i (by omega) i (by omega) (by omega)
                have ne : ∀ a j, ¬ ((a = 719 ∨ a = 722) ∧ j = (i : Int)) → ¬ (a = 717 ∧ j = 1) → ¬ (725 ≤ a ∧ a ≤ 732 ∧ ¬ a = 731 ∧ 30 * (i : Int) ≤ j ∧ j < 30 * (i : Int) + 30) → mf_ans w (i + 1) t2 a j = mf_ans w i t2 a j := fun a j z1 z2 z3 => mf_an_ne hd z1 z2 z3
                exact z_RI_re (z_me_TT hmi hT1) (by refine ⟨?_, ?_, ?_⟩ <;> (funext j; exact ne _ _ (by omega) (by omega) (by omega))) ⟨fun a z1 z2 z3 => ne _ _ (by omega) (by omega) (by omega), fun f z1 z2 => ⟨fun a z3 z4 z5 => ne _ _ (by omega) (by omega) (by omega), fun p z3 z4 => ne _ _ (by omega) (by omega) (by omega), fun p z3 z4 => ne _ _ (by omega) (by omega) (by omega)⟩⟩ hiq
          exact key 4 (by omega) q q0 q1
        · rw [ys _ _ (by omega) (by omega) (by omega) (by omega), gs _ _ (by omega) (by omega) (by omega)]; exact th1
        · rw [ys _ _ (by omega) (by omega) (by omega) (by omega), gs _ _ (by omega) (by omega) (by omega)]; omega
        · rw [ys _ _ (by omega) (by omega) (by omega) (by omega), ys _ _ (by omega) (by omega) (by omega) (by omega), gs _ _ (by omega) (by omega) (by omega), gs _ _ (by omega) (by omega) (by omega)]; exact th3 k k0 k1
      · refine b_M_changed_0 (d := d2 + 4) ?_
        rw [z_gl_up (by omega)]
        refine s_M_cameBehind (d := d2 + 3) (fun b hb => ?_)
        refine y9 c2 (d2 + 2) Q2 b hb ?_
        exact s_M_ans (d := d2 + 1) w0 w1 hd2 hQ2
    | succ m ih =>
      intro i sx hi g1 g2 g3
      have hU := z_isU_ru (r := (i : Int)) (by omega) (by omega)
      have hrl := z_ru_lt (q := (i : Int)) (by omega)
      have hrr := z_ru_rng (r := (i : Int)) (by omega) (by omega)
      obtain ⟨u1, u2, u3, u4, u5⟩ := id hU
      obtain ⟨⟨oG, oV⟩, ok⟩ := g2 i (by omega) (by omega)
      have e19 : mf_ans w i t1 719 (i : Int) = t1 719 (i : Int) := mf_ans_ne h30 i (by omega) (by omega) (by omega) (by omega)
      refine b_C_changed_16 ⟨fun z => by omega, fun _ => ?_⟩
      rw [show z_ok z_NT 400004 308 = true by decide +kernel, ← hrl]
      simp only [u1, z_ckT]
      refine ⟨by omega, s_U_isBusy (d := d + 3) hU (fun q => ⟨fun z => by omega, fun _ => ?_⟩) (fun q => ⟨fun _ => ?_, fun z => absurd rfl z⟩)⟩
      · rw [oV.1] at q
        have hans : mf_ans w (i + 1) t1 = mf_anq (i : Int) w (mf_ans w i t1) := by
          show mf_an (i : Int) w (mf_ans w i t1) = _
          unfold mf_an; rw [if_pos q]
        have hd22 : mf_ans w i t1 722 (i : Int) ≤ 30 := mf_ans_22 h30 i (by omega) i (by omega) (by omega)
        refine s_U_beginsAnew (d := d + 2) (t := mf_ans w i t1) (by omega) (by omega) w0 w1 oG (fun hf => ⟨fun _ => ?_, fun z => absurd rfl z⟩) (fun hf => ⟨fun z => by omega, fun _ => ?_⟩)
        · refine b_C_changed_56 ?_
          rw [z_wr_id (by omega) (by omega)]
          have hans2 : mf_ans w (i + 1) t1 = mf_ans w i t1 := by rw [hans]; unfold mf_anq; rw [if_pos hf]
          have := ih (i + 1) sx (by omega) g1 (by rw [hans2]; exact g2) (by rw [hans2]; exact g3)
          rw [show ((i + 1 : Nat) : Int) = (i : Int) + 1 by omega] at this
          exact this
        · refine b_C_changed_56 ?_
          rw [z_wr_id (x := (i : Int) + 1) (by omega) (by omega), z_gl_lo (by omega), z_gl_ul (by omega)]
          have hsp := mf_fi_sp (mf_ans w i t1) (i : Int) w (mf_ans w i t1 722 (i : Int)).toNat 0 (by omega)
          have hf2 : 0 ≤ mf_fi (mf_ans w i t1) (i : Int) w (mf_ans w i t1 722 (i : Int)).toNat 0 ∧ mf_fi (mf_ans w i t1) (i : Int) w (mf_ans w i t1 722 (i : Int)).toNat 0 < mf_ans w i t1 722 (i : Int) := by
            rcases hsp with ⟨z, -⟩ | ⟨z1, z2, -⟩
            · exact absurd z hf
            · have := oG.2.1; omega
          have hans2 : mf_ans w (i + 1) t1 = mf_an1 (i : Int) (mf_fi (mf_ans w i t1) (i : Int) w (mf_ans w i t1 722 (i : Int)).toNat 0) (mf_ans w i t1) := by rw [hans]; unfold mf_anq; rw [if_neg hf]
          generalize mf_fi (mf_ans w i t1) (i : Int) w (mf_ans w i t1 722 (i : Int)).toNat 0 = fi at *
          have hcr := z_cR_an (r := (i : Int)) (by omega) (by omega) ⟨oG, oV⟩ hf2.1 hf2.2
          have hFb : z_ru (i : Int) + 2 ≤ z_fA (i : Int) fi ∧ z_fA (i : Int) fi + 2 < z_ru (i : Int) + 92 := by unfold z_fA; omega
          have cn : ∀ a j, ¬ (z_ru (i : Int) ≤ a ∧ a < z_ru (i : Int) + 92) → ¬ (a = 0 ∧ j = 10) → z_up (cf_an (i : Int) fi sx) 0 10 (z_wr (cf_an (i : Int) fi sx 0 10 + 1)) a j = sx a j := fun a j z1 z2 => by rw [z_up_ne (by omega), cf_an_ne (by omega) (by omega)]
          have cn1 : ∀ a j, ¬ (a = 0 ∧ j = 10) → z_up (cf_an (i : Int) fi sx) 0 10 (z_wr (cf_an (i : Int) fi sx 0 10 + 1)) a j = cf_an (i : Int) fi sx a j := fun a j z => z_up_ne (by omega)
          have := ih (i + 1) (z_up (cf_an (i : Int) fi sx) 0 10 (z_wr (cf_an (i : Int) fi sx 0 10 + 1))) (by omega) (fun a j z1 z2 => by rw [cn a j (by omega) z2, g1 a j z1 z2]) (fun q q0 q1 => ?_) ?_
          · rw [show ((i + 1 : Nat) : Int) = (i : Int) + 1 by omega] at this
            exact this
          · rw [hans2]
            have hrq := z_ru_rng (r := q) q0 (by omega)
            by_cases hqi : q = (i : Int)
            · subst hqi
              exact ⟨⟨z_cG_c (cn1 _ _ (by omega)) (cn1 _ _ (by omega)) (fun a j z1 z2 => cn1 a j (by omega)) rfl rfl (fun f _ _ => z_fe_of fun _ _ _ _ => rfl) hcr.1, z_cV_c hcr.2 (fun j => cn1 _ _ (by omega)) (fun _ _ _ => rfl)⟩, by rw [cn1 _ _ (by omega), cf_an_ne (by omega) (by omega)]; exact ok⟩
            · have hfa := z_ru_far (r := (i : Int)) (by omega) (by omega) q0 q1 hqi
              obtain ⟨⟨pG, pV⟩, pk⟩ := g2 q q0 q1
              have mn := fun a j x y z => mf_an1_ne (r := (i : Int)) (i := fi) (t := mf_ans w i t1) (a := a) (j := j) x y z
              exact ⟨⟨z_cG_c (cn _ _ (by omega) (by omega)) (cn _ _ (by omega) (by omega)) (fun a j z1 z2 => cn a j (by omega) (by omega)) (mn _ _ (by omega) (by omega) (by omega)) (mn _ _ (by omega) (by omega) (by omega)) (fun f z1 z2 => ⟨fun a z3 z4 z5 => mn _ _ (by omega) (by omega) (by omega), fun p z3 z4 => mn _ _ (by omega) (by omega) (by omega), fun p z3 z4 => mn _ _ (by omega) (by omega) (by omega)⟩) pG, z_cV_c pV (fun j => cn _ _ (by omega) (by omega)) (fun a z1 z2 => mn _ _ (by omega) (by omega) (by omega))⟩, by rw [cn _ _ (by omega) (by omega)]; exact pk⟩
          · rw [hans2, z_up_eq, mf_an1_at.2.2.1, cf_an_ne (by omega) (by omega), g3]
      · rw [oV.1] at q
        refine b_C_changed_56 ?_
        rw [z_wr_id (by omega) (by omega)]
        have hans2 : mf_ans w (i + 1) t1 = mf_ans w i t1 := by
          show mf_an (i : Int) w (mf_ans w i t1) = _
          unfold mf_an; rw [if_neg q]
        have := ih (i + 1) sx (by omega) g1 (by rw [hans2]; exact g2) (by rw [hans2]; exact g3)
        rw [show ((i + 1 : Nat) : Int) = (i : Int) + 1 by omega] at this
        exact this
  refine loop 4 0 s1 (by omega) (fun _ _ _ _ => rfl) (fun q q0 q1 => ?_) ?_
  · have hrq := z_ru_rng (r := q) q0 (by omega)
    have hrl := z_ru_lt q1
    obtain ⟨⟨oG, oV⟩, ok⟩ := ho q q0 q1
    have us : ∀ a j, 333 ≤ a → s1 a j = s a j := fun a j z => hs1 a j (by omega) (by omega)
    exact ⟨⟨z_cG_c (us _ _ (by omega)) (us _ _ (by omega)) (fun a j z1 z2 => us a j (by omega)) (m707 _ _ (by omega)) (m707 _ _ (by omega)) (fun f _ _ => z_fe_of fun a j _ _ => m707 a j (by omega)) oG, z_cV_c oV (fun j => us _ _ (by omega)) (fun a _ _ => m707 _ _ (by omega))⟩, by rw [us _ _ (by omega)]; exact ok⟩
  · rw [hs1 _ _ (by omega) (by omega)]
    show s 0 10 = t1 717 1
    rw [m707 _ _ (by omega)]
    exact hN.1.2.2.1
end CG
