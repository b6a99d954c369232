/-! class and reference: a step -/
section WS
variable {e : z_E} {d : Nat} {c : z_M} {Q : Int → z_M → Prop}
theorem s_C_workNode {b : Bool} {r : Int} {s t : z_M} (r0 : 0 ≤ r) (r1 : r < 5) (h : z_KC b r s t) (hx : z_MX t r) (hr : z_RR t r) (hs : z_HT t r) (hse : z_SE t r) (h2 : ¬ t 721 r = 2000)
    (hA : ∀ s', z_KC b r s' (mf_st r t) → z_fz b s s' → Q (-1) (z_gl s' c))
    (hB : ∀ s', mf_op r t = 4 → -50 ≤ mf_val (mf_top r t) t ∧ mf_val (mf_top r t) t ≤ 50 → z_KC b r s' (mf_taken (mf_top r t) (mf_adv r t)) → z_fz b s s' → Q (101 * mf_arg r t + mf_val (mf_top r t) t + 50) (z_gl s' c)) :
    z_C e (d + 4) m_C_workNode [z_R 0, z_R (z_ru r), z_R (z_fA r (t 722 r - 1))] (z_gl (z_up s (z_ru r) 4 (t 721 r + 1)) c) Q := by
  obtain ⟨D, ⟨k1, k2⟩, k3, k4, k5, k6, ⟨k7, k8, k9, k10, k11⟩, k12⟩ := z_NK_of hx hr hs hse
  have hb := hr.1
  obtain ⟨hft, hFF, hbb1, hbb2⟩ := z_KC_facts r0 r1 h hb.1
  obtain ⟨A1, A2⟩ := z_KC_adv r0 r1 h hb.1
  obtain ⟨a1, a2, a3⟩ := mf_adv_at (r := r) (t := t)
  have hru := z_ru_rng r0 r1
  have hU := z_isU_ru r0 r1
  have hF := z_isF_fA (i := t 722 r - 1) r0 r1 (by omega) (by omega)
  obtain ⟨x1, x2, x3, x4, x5⟩ := id hF
  obtain ⟨R0, R1⟩ := z_kr k6.1 k6.2
  have hX := z_cX_of h.1 R0 R1
  have hT6 := z_isT_of R0 R1
  obtain ⟨⟨f1, f2, f3, f4, f5, f6⟩, ⟨b1, b2, b3⟩, c1, c2, c3⟩ := id hFF
  obtain ⟨xx1, xx2⟩ := hX
  have hcode := xx2 (s (z_fA r (t 722 r - 1)) 6) (by omega) (by omega)
  rw [show 400 * (t 725 (mf_top r t) / 101) + 2 * s (z_fA r (t 722 r - 1)) 6 = 400 * (t 725 (mf_top r t) / 101) + t 726 (mf_top r t) by omega] at hcode
  obtain ⟨-, cc2, cc3⟩ := z_cc_of k7.2.2.1 k5 k7.1 k1
  have hcode : s (309 + 2 * (t 725 (mf_top r t) / 101) + 1) (s (z_fA r (t 722 r - 1)) 6) = z_cc (mf_op r t) (mf_arg r t) := hcode
  -- facts of the memories behind
  have e22 : mf_adv r t 722 r = t 722 r := a3 _ _ (by omega) (by omega)
  have etop : mf_top r (mf_adv r t) = mf_top r t := by unfold mf_top; rw [e22]
  have e32 : mf_adv r t 732 (mf_top r t) = t 732 (mf_top r t) := a3 _ _ (by omega) (by omega)
  have hv1 : mf_val (mf_top r t) (mf_adv r t) = mf_val (mf_top r t) t := by unfold mf_val; rw [a3 732 _ (by omega) (by omega), a3 733 _ (by omega) (by omega)]
  have hst : mf_st r t = mf_st1 r (mf_top r t) (mf_op r t) (mf_arg r t) t (mf_adv r t) := by unfold mf_st; rw [if_neg h2]
  rw [hst] at hA
  unfold mf_st1 at hA
  rw [hv1] at hA
  have hvr : 1 ≤ t 732 (mf_top r t) → -9999 ≤ mf_val (mf_top r t) t ∧ mf_val (mf_top r t) t ≤ 9999 := fun q => by
    have := k12 (t 732 (mf_top r t) - 1) (by omega) (by omega)
    unfold mf_val
    rw [show 64 * mf_top r t + t 732 (mf_top r t) - 1 = 64 * mf_top r t + (t 732 (mf_top r t) - 1) by omega]
    exact this
  refine b_C_workNode_0 ?_
  simp only [x1, z_ckT]
  refine s_F_fetch (d := d + 2) (T := 309 + 2 * (t 725 (mf_top r t) / 101)) hF hT6 (by rw [z_up_ne (by omega)]; exact f6) (by rw [z_up_ne (by omega)]; omega) (by rw [z_up_ne (by omega), z_up_ne (by omega)]; omega) (by rw [z_up_ne (by omega)]; omega) ?_
  rw [z_up_ne (a := z_ru r) (b := z_fA r (t 722 r - 1)) (by omega), z_up_ne (a := z_ru r) (by omega), hcode, cc2, cc3]
  generalize hs2 : z_up (z_up s (z_ru r) 4 (t 721 r + 1)) (z_fA r (t 722 r - 1)) 6 (s (z_fA r (t 722 r - 1)) 6 + 1) = s2 at *
  have hFF2 := (z_KC_facts r0 r1 A1 (by rw [e22]; exact hb.1)).2.1
  rw [e22, etop] at hFF2
  obtain ⟨⟨g1, g2, g3, g4, g5, g6⟩, -, gc1, gc2, gc3⟩ := id hFF2
  rw [e32] at g5 gc2
  rw [a3 725 _ (by omega) (by omega)] at g1
  -- pushing a value behind one
  have push : ∀ (s3 t3 : z_M) (v : Int), z_KC b r s3 t3 → z_fz b s s3 → t3 722 r = t 722 r → t3 732 (mf_top r t) < 19 → 0 ≤ t3 732 (mf_top r t) → (∀ s', z_KC b r s' (mf_holds (mf_top r t) v t3) → z_fz b s s' → Q (-1) (z_gl s' c)) → ∀ d', z_C e (d' + 1) m_F_push [z_R (z_fA r (t 722 r - 1)), z_I v] (z_gl s3 c) (fun _ σ => Q (-1) σ) := fun s3 t3 v p1 p2 p3 p4 p5 p6 d' => by
    have etop3 : mf_top r t3 = mf_top r t := by unfold mf_top; rw [p3]
    obtain ⟨q1, q2⟩ := z_KC_push (v := v) r0 r1 p1 (by omega) (by rw [etop3]; exact p4)
    rw [p3, etop3] at q1
    rw [p3] at q2
    have hff := (z_KC_facts r0 r1 p1 (by omega)).2.1
    rw [p3, etop3] at hff
    have h9 := hff.1.2.2.2.2.1
    exact s_F_push (d := d') hF (by rw [h9]; exact p5) (by rw [h9]; exact p4) (p6 _ q1 (z_fz_tr p2 q2))
  -- popping a value behind one
  have popp : ∀ (s3 t3 : z_M) (Q' : Int → z_M → Prop), z_KC b r s3 t3 → z_fz b s s3 → t3 722 r = t 722 r → 1 ≤ t3 732 (mf_top r t) → t3 732 (mf_top r t) ≤ 19 → (∀ s', z_KC b r s' (mf_taken (mf_top r t) t3) → z_fz b s s' → Q' (mf_val (mf_top r t) t3) (z_gl s' c)) → ∀ d', z_C e (d' + 1) m_F_pop [z_R (z_fA r (t 722 r - 1))] (z_gl s3 c) Q' := fun s3 t3 Q' p1 p2 p3 p4 p5 p6 d' => by
    have etop3 : mf_top r t3 = mf_top r t := by unfold mf_top; rw [p3]
    obtain ⟨q1, q2⟩ := z_KC_pop r0 r1 p1 (by omega) (by rw [etop3]; exact p4)
    rw [p3, etop3] at q1 q2
    have hff := (z_KC_facts r0 r1 p1 (by omega)).2.1
    rw [p3, etop3] at hff
    have h9 := hff.1.2.2.2.2.1
    have hvv := hff.2.2.2.1 (t3 732 (mf_top r t) - 1) (by omega) (by omega)
    have p6 := p6 _ q1 (z_fz_tr p2 q2)
    refine s_F_pop hF (by rw [h9]; omega) (by rw [h9]; omega) ?_
    rw [h9, hvv, show 64 * mf_top r t + (t3 732 (mf_top r t) - 1) = 64 * mf_top r t + t3 732 (mf_top r t) - 1 by omega]
    exact p6
  unfold z_TO at k5
  have t2_22 : mf_taken (mf_top r t) (mf_adv r t) 722 r = t 722 r := by rw [mf_taken_ne (by omega)]; exact e22
  have t2_32 : mf_taken (mf_top r t) (mf_adv r t) 732 (mf_top r t) = t 732 (mf_top r t) - 1 := by rw [mf_taken_at, e32]
  by_cases o4 : mf_op r t = 4
  · rw [if_pos o4] at hA
    have hd1 : 1 ≤ t 732 (mf_top r t) := by omega
    rw [o4]
    refine ⟨fun w => absurd w (by decide), fun _ => ⟨fun w => absurd w (by decide), fun _ => ⟨fun w => absurd w (by decide), fun _ => ⟨fun _ => ?_, fun w => absurd rfl w⟩⟩⟩⟩
    refine b_C_calledKey_0 ?_
    simp only [x1, z_ckT]
    refine popp s2 (mf_adv r t) _ A1 A2 e22 (by omega) (by omega) (fun s' v1 v2 => ?_) (d + 1)
    rw [hv1]
    refine s_C_isArgument (d := d + 1) (fun w1 w2 => ⟨fun z => by omega, fun _ => ?_⟩) (fun w => ⟨fun _ => ?_, fun z => absurd rfl z⟩)
    · exact s_C_keyOf (d := d + 1) (by omega) (by omega) w1 w2 (hB s' o4 ⟨w1, w2⟩ v1 v2)
    · rw [if_neg w] at hA
      obtain ⟨w1, w2⟩ := z_KC_fail (why := 3) r0 r1 (by omega) (show z_K0 b r s' _ from ⟨v1.1, v1.2.1⟩)
      exact s_C_fail (d := d) (b := b) (r := r) hU v1.1.1 (hA _ w1 (z_fz_tr v2 w2))
  rw [if_neg o4] at hA
  by_cases o12 : mf_op r t = 12
  · rw [if_pos o12] at hA
    have hd1 : 1 ≤ t 732 (mf_top r t) := by omega
    rw [o12]
    refine ⟨fun w => absurd w (by decide), fun _ => ⟨fun w => absurd w (by decide), fun _ => ⟨fun w => absurd w (by decide), fun _ => ⟨fun w => absurd w (by decide), fun _ => ⟨fun w => absurd w (by decide), fun _ => ⟨fun _ => ?_, fun w => absurd rfl w⟩⟩⟩⟩⟩⟩
    refine popp s2 (mf_adv r t) _ A1 A2 e22 (by omega) (by omega) (fun s' v1 v2 => ?_) (d + 2)
    rw [hv1]
    have etop2 : mf_top r (mf_taken (mf_top r t) (mf_adv r t)) = mf_top r t := by unfold mf_top; rw [show mf_taken (30 * r + t 722 r - 1) (mf_adv r t) 722 r = t 722 r from t2_22]
    refine ⟨fun w => ?_, fun w => ?_⟩
    · rw [if_neg w] at hA
      refine hA s' ?_ v2
      have : z_up (mf_taken (mf_top r t) (mf_adv r t)) 726 (mf_top r t) (t 726 (mf_top r t) + 2) = mf_taken (mf_top r t) (mf_adv r t) := by
        have := z_up_self (σ := mf_taken (mf_top r t) (mf_adv r t)) (a := 726) (i := mf_top r t)
        rw [mf_taken_ne (by omega), a2] at this
        exact this
      rw [this]; exact v1
    · rw [if_pos w] at hA
      rw [if_neg (by omega), if_pos (by omega), z_gl_ul (by omega)]
      obtain ⟨w1, w2⟩ := z_KC_at (q := mf_arg r t / 2) r0 r1 v1 (by omega)
      rw [t2_22, etop2, show 2 * (mf_arg r t / 2) = mf_arg r t by omega] at w1
      rw [t2_22] at w2
      exact hA _ w1 (z_fz_tr v2 w2)
  rw [if_neg o12] at hA
  by_cases o2 : mf_op r t = 2
  · rw [if_pos o2] at hA
    unfold mf_res at hA
    rw [if_pos (by omega)] at hA
    rw [o2]
    refine ⟨fun w => absurd w (by decide), fun _ => ⟨fun _ => ?_, fun w => absurd rfl w⟩⟩
    refine s_F_argument (d := d + 2) hF (by rw [g1]; exact k6.1) (by rw [g1]; exact k6.2) ?_
    rw [g1]
    exact push s2 (mf_adv r t) _ A1 A2 e22 (by omega) (by omega) hA (d + 2)
  rw [if_neg o2] at hA
  by_cases o3 : mf_op r t = 3
  · rw [if_pos o3] at hA
    have hcl := hx.1.1 (mf_arg r t) (by omega) (by omega)
    unfold mf_res at hA
    rw [if_pos (by omega)] at hA
    rw [o3]
    refine ⟨fun w => absurd w (by decide), fun _ => ⟨fun w => absurd w (by decide), fun _ => ⟨fun _ => ?_, fun w => absurd rfl w⟩⟩⟩
    rw [if_pos (by omega)]
    have hc1 : ∀ k, 0 ≤ k → k < 12 → s 1 k = t 702 k := fun k q0 q1 => by
      have hE := h.1
      cases b
      · exact (hE.2.1 rfl).1.1.1 k q0 q1
      · exact (hE.2.2 rfl).2.1.1 k q0 q1
    have hs21 : s2 1 (mf_arg r t) = t 702 (mf_arg r t) := by rw [← hs2, z_up_ne (by omega), z_up_ne (by omega)]; exact hc1 _ (by omega) (by omega)
    refine b_C_readCell_0 (s_C_within (d := d + 1) (fun _ _ => ⟨fun z => by omega, fun _ => ?_⟩) (fun z => absurd (show 0 ≤ mf_arg r t ∧ mf_arg r t < 12 by omega) z))
    simp (disch := omega) only [x1, z_ckT, z_gl_lo, z_gl_ul, z_up_ne]
    rw [hs21]
    refine ⟨by omega, ?_⟩
    obtain ⟨w1, w2⟩ := z_KC_used (x := z_shl 1 (mf_arg r t)) r0 r1 A1 (by omega)
    rw [e22, etop, a3 729 _ (by omega) (by omega)] at w1
    rw [e22] at w2
    exact push _ (z_up (mf_adv r t) 729 (mf_top r t) (z_or (t 729 (mf_top r t)) (z_shl 1 (mf_arg r t)))) (t 702 (mf_arg r t)) w1 (z_fz_tr A2 w2) (by rw [z_up_ne (by omega)]; exact e22) (by rw [z_up_ne (by omega)]; omega) (by rw [z_up_ne (by omega)]; omega) hA (d + 1)
  rw [if_neg o3] at hA
  by_cases o11 : mf_op r t = 11
  · rw [if_pos o11] at hA
    have hd1 : 1 ≤ t 732 (mf_top r t) := by omega
    have hvr := hvr hd1
    unfold mf_res at hA
    rw [if_pos (by omega)] at hA
    rw [o11]
    refine ⟨fun w => absurd w (by decide), fun _ => ⟨fun w => absurd w (by decide), fun _ => ⟨fun w => absurd w (by decide), fun _ => ⟨fun w => absurd w (by decide), fun _ => ⟨fun _ => ?_, fun w => absurd rfl w⟩⟩⟩⟩⟩
    refine popp s2 (mf_adv r t) _ A1 A2 e22 (by omega) (by omega) (fun s' v1 v2 => ?_) (d + 2)
    rw [hv1, z_wr_id (by omega) (by omega)]
    exact push s' _ _ v1 v2 t2_22 (by omega) (by omega) hA (d + 2)
  rw [if_neg o11] at hA
  by_cases o1 : mf_op r t = 1
  · rw [if_pos o1] at hA
    unfold mf_res at hA
    rw [if_pos (by omega)] at hA
    rw [o1]
    refine ⟨fun _ => ?_, fun w => absurd rfl w⟩
    rw [if_pos (by omega)]
    exact push s2 (mf_adv r t) _ A1 A2 e22 (by omega) (by omega) hA (d + 2)
  rw [if_neg o1] at hA
  have ho : 5 ≤ mf_op r t ∧ mf_op r t ≤ 10 := by omega
  have hnO : z_nO (mf_op r t) = mf_op r t + 2 := by
    unfold z_nO
    rw [if_neg o1, if_neg o2, if_neg o3, if_neg o4, if_neg o11, if_neg o12, if_neg k2]
  rw [hnO]
  have hd2 : 2 ≤ t 732 (mf_top r t) := by omega
  have hvr := hvr (by omega)
  have hv2 : mf_val (mf_top r t) (mf_taken (mf_top r t) (mf_adv r t)) = t 733 (64 * mf_top r t + (t 732 (mf_top r t) - 2)) := by
    unfold mf_val
    rw [t2_32, mf_taken_ne (by omega), a3 _ _ (by omega) (by omega)]
    congr 1; omega
  have hvl := k12 (t 732 (mf_top r t) - 2) (by omega) (by omega)
  rw [← hv2] at hvl
  refine ⟨fun w => by omega, fun _ => ⟨fun w => by omega, fun _ => ⟨fun w => by omega, fun _ => ⟨fun w => by omega, fun _ => ⟨fun w => by omega, fun _ => ⟨fun w => by omega, fun _ => ?_⟩⟩⟩⟩⟩⟩
  refine b_C_workSign_0 ?_
  simp only [x1, z_ckT]
  refine popp s2 (mf_adv r t) _ A1 A2 e22 (by omega) (by omega) (fun s3 v1 v2 => ?_) (d + 1)
  refine popp s3 (mf_taken (mf_top r t) (mf_adv r t)) _ v1 v2 t2_22 (by omega) (by omega) (fun s4 v3 v4 => ?_) (d + 1)
  rw [hv1]
  have t3_22 : mf_taken (mf_top r t) (mf_taken (mf_top r t) (mf_adv r t)) 722 r = t 722 r := by rw [mf_taken_ne (by omega)]; exact t2_22
  have t3_32 : mf_taken (mf_top r t) (mf_taken (mf_top r t) (mf_adv r t)) 732 (mf_top r t) = t 732 (mf_top r t) - 2 := by rw [mf_taken_at, t2_32]; omega
  have fin : ¬ (mf_op r t = 8 ∧ mf_val (mf_top r t) t = 0) → z_T e (d + 2) m_C_workSign 30 [some (z_R 0), some (z_R (z_ru r)), some (z_R (z_fA r (t 722 r - 1))), some (z_I (mf_op r t + 2)), some (z_I (mf_val (mf_top r t) t)), some (z_I (mf_val (mf_top r t) (mf_taken (mf_top r t) (mf_adv r t)))), none] (z_gl s4 c) (fun _ σ => Q (-1) σ) := fun hn => by
    rw [if_neg hn] at hA
    refine b_C_workSign_30 (s_C_join (d := d + 1) ho hvl hvr (fun q q2 => hn ⟨q, q2⟩) ?_)
    unfold mf_res at hA
    have bad : ¬ (-9999 ≤ z_jn (mf_op r t) (mf_val (mf_top r t) (mf_taken (mf_top r t) (mf_adv r t))) (mf_val (mf_top r t) t) ∧ z_jn (mf_op r t) (mf_val (mf_top r t) (mf_taken (mf_top r t) (mf_adv r t))) (mf_val (mf_top r t) t) ≤ 9999) → z_C e (d + 2) m_C_fail [z_R 0, z_R (z_ru r), z_I 3] (z_gl s4 c) (fun _ σ => Q (-1) σ) := fun w => by
      rw [if_neg w] at hA
      obtain ⟨w1, w2⟩ := z_KC_fail (why := 3) r0 r1 (by omega) (show z_K0 b r s4 _ from ⟨v3.1, v3.2.1⟩)
      exact s_C_fail (d := d) (b := b) (r := r) hU v3.1.1 (hA _ w1 (z_fz_tr v4 w2))
    refine ⟨fun w => bad (by omega), fun w => ⟨fun w2 => ?_, fun w2 => bad (by omega)⟩⟩
    rw [if_pos ⟨w, w2⟩] at hA
    simp only [x1, z_ckT]
    exact push s4 _ _ v3 v4 t3_22 (by omega) (by omega) hA (d + 1)
  refine ⟨fun w => fin (fun z => w (by omega)), fun w => ⟨fun w2 => fin (fun z => w2 z.2), fun w2 => ?_⟩⟩
  rw [if_pos ⟨by omega, w2⟩] at hA
  obtain ⟨w3, w4⟩ := z_KC_fail (why := 2) r0 r1 (by omega) (show z_K0 b r s4 _ from ⟨v3.1, v3.2.1⟩)
  exact s_C_fail (d := d) (b := b) (r := r) hU v3.1.1 (hA _ w3 (z_fz_tr v4 w4))
end WS
