/-! step, ask -/
section SP
variable {e : z_E} {n : Nat} {s t : z_M}
/-- the reference's steps of a task -/
theorem s_M_step_loop {c : z_M} {k w had : Int} (k0 : 0 ≤ k) (k1 : k < 4) (w0 : 1 ≤ w ∧ w ≤ 100) (h0 : 0 ≤ had ∧ had ≤ 2000) : ∀ (m : Nat) (t : z_M) (d : Nat) (Q : Int → z_M → Prop), z_RW t k → (t 719 k = 1 → t 721 k + (m : Int) = had + w) → t 701 21 + t 722 k + (m : Int) < 99999999 → Q (z_wr (mf_run m k t 721 k - had)) (z_gl c (mf_run m k t)) → z_T e (d + 72) m_M_step 64 [some (z_R 701), some (z_I k), some (z_I w), some (z_I had)] (z_gl c t) Q
  | m, t, d, Q, h, hm, hc, hq => by
    have hd := z_RI_dep h.2.1
    refine b_M_step_64 ⟨by omega, ?_⟩
    simp (disch := omega) only [z_gl_hi]
    refine ⟨fun h1 => ⟨by omega, ?_⟩, fun h1 => ⟨by omega, ?_⟩⟩
    · have : mf_run m k t = t := by
        cases m with
        | zero => rfl
        | succ m => exact if_neg h1
      rw [this] at hq
      exact hq
    · rw [z_wr_id (x := had + w) (by omega) (by omega)]
      have hm1 := hm h1
      refine ⟨fun q => ⟨by omega, ?_⟩, fun q => ?_⟩
      · obtain rfl : m = 0 := by omega
        exact hq
      · obtain ⟨l, rfl⟩ : ∃ l, m = l + 1 := ⟨m - 1, by omega⟩
        obtain ⟨hr, hse⟩ := z_RI_run h.2.1 h1
        have hfr := hr.2.2.2.1.1
        rw [show 30 * k + t 722 k - 1 = mf_top k t from rfl] at hfr
        have htop : mf_top k t = 30 * k + t 722 k - 1 := rfl
        have hb := hr.1
        refine s_M_top (d := d + 71) k0 (by omega) (by omega) (by omega) ⟨by omega, ?_⟩
        rw [z_gl_hi (by omega)]
        refine s_M_ruleOf (d := d + 71) hfr.1 hfr.2 ⟨by omega, ?_⟩
        rw [z_gl_hi (by omega)]
        refine ⟨fun _ => ?_, fun z => absurd z (h.2.2 h1)⟩
        obtain ⟨g1, g2, g3, g4⟩ := z_RW_step k0 (by omega) h h1
        refine s_M_stepsOnce (d := d) k0 (by omega) h.1 hr (h.2.2 h1) hse h1 (fun q q0 q1 => ?_) (by omega) ?_
        · by_cases hqk : q = k
          · rw [hqk]; exact hb.2
          · exact (z_RI_dep (h.1.2.2.2.2.2 q q0 q1 hqk)).2.1
        refine s_M_step_loop k0 k1 w0 h0 l _ d Q g1 (fun z => by have := g3 z; omega) (by omega) ?_
        rw [show mf_run (l + 1) k t = mf_run l k (mf_set k (mf_st k t)) from if_pos h1] at hq
        exact hq
termination_by m => m
theorem s_C_step_loop {c : z_M} {k w had : Int} (k0 : 0 ≤ k) (k1 : k < 4) (w0 : 1 ≤ w ∧ w ≤ 100) : ∀ (m : Nat) (i : Int) (s t : z_M) (d : Nat) (Q : Int → z_M → Prop), z_KC false k s t → z_RW t k → 0 ≤ i → i + (m : Int) = w → (∀ s', z_KC false k s' (mf_run m k t) → z_fz false s s' → Q (z_wr (mf_run m k t 721 k - had)) (z_gl s' c)) → z_T e (d + 8) m_C_step 55 [some (z_R 0), none, some (z_I w), some (z_R (z_ru k)), some (z_I had), some (z_I i)] (z_gl s c) Q
  | m, i, s, t, d, Q, h, hw, i0, i1, hq => by
    have hU := z_isU_ru (r := k) k0 (by omega)
    obtain ⟨u1, u2, u3, u4, u5⟩ := id hU
    have hV := h.2.2
    have hG := h.2.1
    refine b_C_step_55 ⟨fun q => ?_, fun q => ?_⟩
    · obtain rfl : m = 0 := by omega
      simp (disch := omega) only [u1, z_ckT, z_gl_lo]
      rw [hG.1.2]
      exact hq s h z_fz_rf
    · obtain ⟨l, rfl⟩ : ∃ l, m = l + 1 := ⟨m - 1, by omega⟩
      simp (disch := omega) only [u1, z_ckT, z_gl_lo, z_wr_id]
      rw [hV.1, hG.1.2]
      refine ⟨fun h1 => ?_, fun h1 => ?_⟩
      · rw [show mf_run (l + 1) k t = t from if_neg h1] at hq
        exact hq s h z_fz_rf
      · rw [show mf_run (l + 1) k t = mf_run l k (mf_set k (mf_st k t)) from if_pos h1] at hq
        obtain ⟨hr, hse⟩ := z_RI_run hw.2.1 h1
        obtain ⟨g1, g2, g3, g4⟩ := z_RW_step k0 (by omega) hw h1
        refine s_C_workStep (d := d) k0 (by omega) h hw.1 hr (hw.2.2 h1) hse h1 (fun _ => rfl) (fun s' v1 v2 => ?_)
        exact s_C_step_loop k0 k1 w0 l (i + 1) s' _ d Q v1 g1 (by omega) (by omega) (fun s2 v3 v4 => hq s2 v3 (z_fz_tr v2 v4))
termination_by m => m
theorem z2_step {k w : Int} (hn : n < 512) (h : z_RCs n s t) : z_two e n z_Inv m_C_step m_M_step [z_I k, z_I w] (z_gl s t) := by
  have inv := z_RCs_gl (z_RCs_up h)
  have bad : ¬ ((0 ≤ k ∧ k < 4) ∧ 1 ≤ w ∧ w ≤ 100) → z_C e 1000 m_M_step [z_R 701, z_I k, z_I w] (z_gl s t) (fun r2 σ2 => -20001 = r2 ∧ z_Inv (n + 1) σ2) := fun q =>
    b_M_step_0 (d := 999) (s_M_isTask (d := 997) (fun x y => ⟨fun z => by omega, fun _ => s_M_in (d := 998) (fun _ _ => by omega) (fun _ => ⟨fun z => absurd rfl z, fun _ => ⟨rfl, inv⟩⟩)⟩) (fun _ => ⟨fun _ => ⟨rfl, inv⟩, fun z => absurd rfl z⟩))
  refine b_C_step_0 (d := 999) (s_C_within (d := 998) (fun a b => ⟨fun z => by omega, fun _ => ⟨fun q => bad (by omega), fun w0 => ⟨fun w1 => ⟨⟨a, b⟩, ?_⟩, fun q => bad (by omega)⟩⟩⟩) (fun q => ⟨fun _ => bad (by omega), fun z => absurd rfl z⟩))
  have hK := z_KC_at_rest a b h
  obtain ⟨hx, hi⟩ := z_MX_at a b h.2.2.1
  have hru := z_ru_lt b
  have hrr := z_ru_rng (r := k) a (by omega)
  have hU := z_isU_ru (r := k) a (by omega)
  obtain ⟨u1, u2, u3, u4, u5⟩ := id hU
  have v1 := hK.2.2.1
  have hc := h.2.2.2.1
  have hd := z_RI_dep hi
  have hg := hK.2.1.1
  have d30 : ∀ q, 0 ≤ q → q < 4 → t 722 q ≤ 30 := fun q q0 q1 => (z_RI_dep (h.2.2.1.2.2.2.2.2 q q0 q1 (by omega))).2.1
  rw [← hru]
  simp only [u1, z_ckT]
  refine s_U_isBusy (d := 998) hU (fun q => ⟨fun _ => ?_, fun z => by omega⟩) (fun q => ⟨fun z => absurd rfl z, fun _ => ?_⟩)
  rotate_left
  · rw [v1] at q
    refine b_M_step_0 (d := 999) (s_M_isTask (d := 997) (fun _ _ => ⟨fun z => by omega, fun _ => s_M_in (d := 998) (fun _ _ => ⟨fun _ => s_M_isBusy (d := 998) a (by omega) (fun z => absurd z q) (fun _ => ⟨fun z => absurd rfl z, fun _ => ⟨rfl, inv⟩⟩), fun z => by omega⟩) (fun z => absurd ⟨w0, w1⟩ z)⟩) (fun z => absurd ⟨a, b⟩ z))
  rw [v1] at q
  rw [z_gl_lo (by omega), hg.2]
  -- what stands before the steps, on both sides
  have fin : ∀ (s1 t1 : z_M), z_KC false k s1 t1 → z_RW t1 k → z_fz false s s1 → (t1 701 21 + t1 722 k ≤ t 701 21 + t 722 k + 1) → (t1 719 k = 1 → t1 721 k = t 721 k) → (∀ (c : z_M) (Q : Int → z_M → Prop), z_T e 999 m_M_step 64 [some (z_R 701), some (z_I k), some (z_I w), some (z_I (t 721 k))] (z_gl c t1) Q → z_C e 1000 m_M_step [z_R 701, z_I k, z_I w] (z_gl c t) Q) → z_T e 999 m_C_step 55 [some (z_R 0), none, some (z_I w), some (z_R (z_ru k)), some (z_I (t 721 k)), some (z_I 0)] (z_gl s1 t) (fun r σ1 => z_C e 1000 m_M_step [z_R 701, z_I k, z_I w] σ1 (fun r2 σ2 => r = r2 ∧ z_Inv (n + 1) σ2)) := fun s1 t1 g1 g2 g3 g4 g5 M => by
    obtain ⟨m1, m2⟩ := mf_run_rw a (show k < 5 by omega) w.toNat t1 g2
    have hd1 := z_RI_dep m1.2.1
    refine s_C_step_loop (d := 991) a b ⟨w0, w1⟩ w.toNat 0 s1 t1 _ g1 g2 (by omega) (by omega) (fun s' v3 v4 => ?_)
    refine M _ _ (s_M_step_loop (d := 927) a b ⟨w0, w1⟩ (by omega) w.toNat t1 _ g2 (fun z => by have := g5 z; omega) (by omega) ⟨rfl, ?_⟩)
    exact z_RCs_gl (z_RCs_KC a b h v3 m1.1 m1.2.1 (z_fz_tr g3 v4) (by omega))
  have busy : ∀ (c : z_M) (Q : Int → z_M → Prop), ((¬ t 719 k = 2 → z_T e 999 m_M_step 64 [some (z_R 701), some (z_I k), some (z_I w), some (z_I (t 721 k))] (z_gl c t) Q) ∧ (t 719 k = 2 → z_C e 999 m_M_asksFor [z_R 701, z_I k, z_I (t 724 k), z_I 1] (z_gl c t) (fun _ σ4 => z_T e 999 m_M_step 64 [some (z_R 701), some (z_I k), some (z_I w), some (z_I (t 721 k))] σ4 Q))) → z_C e 1000 m_M_step [z_R 701, z_I k, z_I w] (z_gl c t) Q := fun c Q hq => by
    refine b_M_step_0 (d := 999) (s_M_isTask (d := 997) (fun _ _ => ⟨fun z => by omega, fun _ => s_M_in (d := 998) (fun _ _ => ⟨fun _ => s_M_isBusy (d := 998) a (by omega) (fun _ => ⟨fun _ => ⟨by omega, by omega, ?_⟩, fun z => by omega⟩) (fun z => absurd q z), fun z => by omega⟩) (fun z => absurd ⟨w0, w1⟩ z)⟩) (fun z => absurd ⟨a, b⟩ z))
    simp (disch := omega) only [z_gl_hi]
    exact ⟨hq.1, fun z => ⟨by omega, hq.2 z⟩⟩
  refine b_C_goOn_0 (d := 998) ?_
  simp (disch := omega) only [u1, z_ckT, z_gl_lo]
  rw [v1]
  refine ⟨fun h2 => ?_, fun h2 => ?_⟩
  · -- it runs
    have h1 : t 719 k = 1 := by omega
    obtain ⟨hr, hse⟩ := z_RI_run hi h1
    have hb := hr.1
    have e3 : s (z_ru k) 3 = t 722 k := hg.1
    obtain ⟨hft, hFF, hbb1, hbb2⟩ := z_KC_facts a (by omega) hK hb.1
    have hF := z_isF_fA (r := k) (i := t 722 k - 1) a (by omega) (by omega) (by omega)
    obtain ⟨x1, x2, x3, x4, x5⟩ := id hF
    have hFd : z_ru k + 1 + 1 + 3 * (s (z_ru k) 3 - 1) = z_fA k (t 722 k - 1) := by unfold z_fA; rw [e3]
    obtain ⟨R0, R1⟩ := z_kr hFF.2.1.1.1 hFF.2.1.1.2
    have hX := z_cX_of hK.1 R0 R1
    have hTI := hx.1.2 _ R0 R1
    refine s_U_top (d := 997) hU (by omega) (fun z => by omega) (fun _ => ?_)
    rw [hFd]
    refine ⟨fun z => by omega, fun _ => ?_⟩
    simp only [x1, z_ckT]
    refine s_F_hasText (d := 996) hF (z_isT_of R0 R1) hFF.1.2.2.2.2.2 (fun z => ⟨fun _ => ?_, fun z2 => by omega⟩) (fun z => ⟨fun z2 => absurd rfl z2, fun _ => ?_⟩)
    · have hs : z_HT t k := by
        unfold z_HT
        have := hX.1
        omega
      exact fin s t hK ⟨hx, hi, fun _ => hs⟩ z_fz_rf (by omega) (fun _ => rfl) (fun c Q hq => busy c Q ⟨fun _ => hq, fun z3 => absurd z3 h2⟩)
    · have hs : t 705 (t 725 (mf_top k t) / 101) = 0 := by have := hX.1; have := hTI.1; omega
      obtain ⟨f1, f2⟩ := z_KC_fail (why := 5) a (show k < 5 by omega) (by omega) (show z_K0 false k s t from ⟨hK.1, hK.2.1⟩)
      obtain ⟨o1, o2, o3, o4⟩ := mf_fails_ok (r := k) (why := 5) (t := t) hx (by omega) (by omega)
      obtain ⟨p1, p2, p3, p4⟩ := mf_fails_at (r := k) (why := 5) (t := t)
      refine s_C_fail (d := 996) (b := false) (r := k) hU hK.1.1 ?_
      have hrw : z_RW (mf_fails k 5 t) k := by
        rcases o2 with ⟨y, -⟩ | ⟨-, y⟩
        · omega
        · exact ⟨o1, y, fun y2 => by omega⟩
      have hM : ∀ (c : z_M) (Q : Int → z_M → Prop), z_T e 999 m_M_step 64 [some (z_R 701), some (z_I k), some (z_I w), some (z_I (t 721 k))] (z_gl c (mf_fails k 5 t)) Q → z_C e 1000 m_M_step [z_R 701, z_I k, z_I w] (z_gl c t) Q := fun c Q hq => by
        refine busy c Q ⟨fun _ => ?_, fun z3 => absurd z3 h2⟩
        have hfr := hFF.2.1.1
        have htop : mf_top k t = 30 * k + t 722 k - 1 := rfl
        refine b_M_step_64 ⟨by omega, ?_⟩
        simp (disch := omega) only [z_gl_hi]
        refine ⟨fun y => absurd h1 y, fun _ => ⟨by omega, ?_⟩⟩
        rw [z_wr_id (x := t 721 k + w) (by omega) (by omega)]
        refine ⟨fun y => by omega, fun _ => s_M_top (d := 998) a (by omega) (by omega) (by omega) ⟨by omega, ?_⟩⟩
        rw [z_gl_hi (by omega)]
        refine s_M_ruleOf (d := 998) hfr.1 hfr.2 ⟨by omega, ?_⟩
        rw [z_gl_hi (by omega)]
        exact ⟨fun y => absurd hs y, fun _ => s_M_fails (d := 998) a (by omega) (by omega) (by omega) hq⟩
      exact fin _ _ f1 hrw f2 (by omega) (fun y => by omega) hM
  · -- it waits
    have hRI : (0 ≤ t 723 k ∧ t 723 k < 4) ∧ z_RP t k (t 724 k) := by
      rcases hi with ⟨y, -⟩ | ⟨-, y⟩ | ⟨y, -⟩
      · omega
      · exact y
      · omega
    have hp := hRI.2
    obtain ⟨y1, y2⟩ := hK.2.2.2.1 h2
    rw [y2]
    have x0 : z_MX (mf_ask0 k t) k := z_ro_MX mf_ask0_ro hx
    have a2 : mf_ask0 k t 722 k = t 722 k := by unfold mf_ask0; rw [z_up_ne (by omega), z_up_ne (by omega)]
    have a3 : mf_ask0 k t 721 k = t 721 k := by unfold mf_ask0; rw [z_up_ne (by omega), z_up_ne (by omega)]
    have a4 : mf_ask0 k t 701 21 = t 701 21 := by unfold mf_ask0; rw [z_up_ne (by omega), z_up_ne (by omega)]
    have p0 : z_RP (mf_ask0 k t) k (t 724 k) := z_ro_RP mf_ask0_ro hx.1 a3 a2 hp
    have hok := (mf_ask1_ok (w := 1) a (show k < 5 by omega) x0 p0 (by unfold mf_ask0; rw [z_up_eq])).1
    have hok : z_RO t (mf_ask k (t 724 k) 1 t) k := z_RO_of hok a4 a2
    obtain ⟨o1, o2, o3, o4, o5, o6⟩ := mf_set_ok a (show k < 5 by omega) hok
    refine s_C_askKey (d := 992) (b := false) (w := 1) a (by omega) ⟨hK.1, hK.2.1⟩ hx hp (fun _ => rfl) (fun _ => ⟨fun z => by omega, fun z => absurd (by rw [v1]; exact h2) z⟩) (fun s1 g1 g2 => ?_)
    refine s_C_settle (d := 991) a (by omega) g1 hok.1 (fun z => ?_) (fun s2 g3 g4 => ?_)
    · rcases hok.2.1 with ⟨-, q2, q3⟩ | ⟨q1, -⟩
      · exact ⟨q2, q3⟩
      · exact absurd z q1
    · refine fin s2 _ g3 ⟨o1, o2, fun z => (o3 z).2⟩ (z_fz_tr g2 g4) (by omega) (fun _ => by rw [o5, mf_ask_21]) (fun c Q hq => busy c Q ⟨fun z => absurd h2 z, fun _ => ?_⟩)
      exact s_M_asksFor (d := 929) a (by omega) hx hp d30 (by omega) hq
/-- the reference's run of a key -/
theorem s_M_runs {c : z_M} {rl ar : Int} {Q : Int → z_M → Prop} {d : Nat} (hx : z_MX t 4) (hc : t 701 21 < 90000000) (r0 : 0 ≤ rl) (r1 : rl < 12) (a0 : -50 ≤ ar) (a1 : ar ≤ 50) (hq : Q 0 (z_gl c (z_up (mf_run 2001 4 (mf_ask 4 (101 * rl + ar + 50) 0 (z_up (z_up t 721 4 0) 722 4 0))) 722 4 0))) : z_C e (d + 74) m_M_runs [z_R 701, z_I rl, z_I ar] (z_gl c t) Q := by
  have x1 : z_MX (z_up (z_up t 721 4 0) 722 4 0) 4 := z_ro_MX mf_first_ro hx
  have e22 : z_up (z_up t 721 4 0) 722 4 0 722 4 = 0 := z_up_eq
  have e21 : z_up (z_up t 721 4 0) 722 4 0 721 4 = 0 := by rw [z_up_ne (by omega), z_up_eq]
  have ec : z_up (z_up t 721 4 0) 722 4 0 701 21 = t 701 21 := by rw [z_up_ne (by omega), z_up_ne (by omega)]
  obtain ⟨hp, f1, f2, f3, f4, f5⟩ := mf_ask_first (r := 4) (w := 0) (by omega) (by omega) x1 e22 (by omega) (show 0 ≤ 101 * rl + ar + 50 ∧ 101 * rl + ar + 50 < 1212 by omega)
  refine b_M_runs_0 (d := d + 73) ⟨by omega, by omega, ?_⟩
  rw [z_gl_up (by omega), z_gl_up (by omega)]
  refine s_M_keyOf (d := d + 72) r0 r1 a0 a1 (s_M_asksFor (d := d + 3) (by omega) (by omega) x1 hp (fun q q0 q1 => ?_) (by omega) ?_)
  · rw [z_up_ne (by omega), z_up_ne (by omega)]; exact (z_RI_dep (hx.2.2.2.2.2 q q0 q1 (by omega))).2.1
  · rw [f2]
    exact s_M_runs_loop (d := d + 1) 2001 _ _ f1 (fun _ => by omega) (by omega) hq
/-- states of the asker -/
theorem mf_ask1_4 {key w : Int} {t : z_M} (h : t 719 4 = 1) : mf_ask1 4 key w t 719 4 = 1 ∨ mf_ask1 4 key w t 719 4 = 3 ∨ mf_ask1 4 key w t 719 4 = 4 := by
  have hh : mf_hit key t 719 4 = 1 := by unfold mf_hit; rw [z_up_ne (by omega), z_up_ne (by omega), z_up_ne (by omega)]; exact h
  unfold mf_ask1
  split
  · unfold mf_gt
    split
    · right; left; rw [z_up_ne (by omega), z_up_eq]
    · left; rw [(mf_give_fr rfl).1 _ _ (by omega) (by omega) (by omega) (by omega) (by omega)]; exact hh
  · split
    · right; right; exact mf_fails_at.1
    · rw [if_neg (fun q => q.1 rfl)]
      split
      · right; right; exact mf_fails_at.1
      · split
        · right; right; exact mf_fails_at.1
        · left; rw [mf_beg_ne (by omega) (by omega) (by omega)]; exact h
theorem mf_st_4 {t : z_M} (h : t 719 4 = 1) : mf_st 4 t 719 4 = 1 ∨ mf_st 4 t 719 4 = 3 ∨ mf_st 4 t 719 4 = 4 := by
  have hadv : mf_adv 4 t 719 4 = 1 := by rw [mf_adv_nd _ _ (by omega) (by omega) (by omega)]; exact h
  have htk : ∀ f m, m 719 4 = 1 → mf_taken f m 719 4 = 1 := fun f m q => by rw [mf_taken_ne (by omega)]; exact q
  have hres : ∀ f v m, m 719 4 = 1 → mf_res 4 f v m 719 4 = 1 ∨ mf_res 4 f v m 719 4 = 3 ∨ mf_res 4 f v m 719 4 = 4 := fun f v m q => by
    unfold mf_res
    split
    · left; unfold mf_holds; rw [z_up_ne (by omega), z_up_ne (by omega)]; exact q
    · right; right; exact mf_fails_at.1
  unfold mf_st
  split
  · right; right; exact mf_fails_at.1
  · unfold mf_st1
    split
    · split
      · exact mf_ask1_4 (by unfold mf_ask0; rw [z_up_eq])
      · right; right; exact mf_fails_at.1
    · split
      · left; rw [z_up_ne (by omega)]; exact htk _ _ hadv
      · split
        · exact hres _ _ _ hadv
        · split
          · exact hres _ _ _ (by rw [z_up_ne (by omega)]; exact hadv)
          · split
            · exact hres _ _ _ (htk _ _ hadv)
            · split
              · exact hres _ _ _ hadv
              · split
                · right; right; exact mf_fails_at.1
                · exact hres _ _ _ (htk _ _ (htk _ _ hadv))
theorem mf_run_4 : ∀ (m : Nat) (t : z_M), z_RW t 4 → (t 719 4 = 1 ∨ t 719 4 = 3 ∨ t 719 4 = 4) → (mf_run m 4 t 719 4 = 1 ∨ mf_run m 4 t 719 4 = 3 ∨ mf_run m 4 t 719 4 = 4)
  | 0, t, _, h => h
  | m + 1, t, hw, h => by
    by_cases h1 : t 719 4 = 1
    · rw [show mf_run (m + 1) 4 t = mf_run m 4 (mf_set 4 (mf_st 4 t)) from if_pos h1]
      obtain ⟨hr, hse⟩ := z_RI_run hw.2.1 h1
      have hok := mf_st_ok hw.1 hr (by omega) (by omega) (hw.2.2 h1) hse h1
      have h6 := (mf_set_ok (by omega) (by omega) hok.1).2.2.2.2.2
      have h4 := mf_st_4 h1
      exact mf_run_4 m _ (z_RW_step (by omega) (by omega) hw h1).1 (by omega)
    · rw [show mf_run (m + 1) 4 t = t from if_neg h1]
      exact h
/-- the end of a run that is asked: its state, its answer -/
theorem mf_whole_run {rl ar : Int} (hx : z_MX t 4) (r0 : 0 ≤ rl) (r1 : rl < 12) (a0 : -50 ≤ ar) (a1 : ar ≤ 50) : let t2 := mf_run 2001 4 (mf_ask 4 (101 * rl + ar + 50) 0 (z_up (z_up t 721 4 0) 722 4 0)); z_RW t2 4 ∧ (t2 719 4 = 3 ∨ t2 719 4 = 4) ∧ t2 722 4 = 0 ∧ t2 701 21 ≤ t 701 21 + 2002 ∧ t 701 21 ≤ t2 701 21 := by
  have x1 : z_MX (z_up (z_up t 721 4 0) 722 4 0) 4 := z_ro_MX mf_first_ro hx
  have e22 : z_up (z_up t 721 4 0) 722 4 0 722 4 = 0 := z_up_eq
  have e21 : z_up (z_up t 721 4 0) 722 4 0 721 4 = 0 := by rw [z_up_ne (by omega), z_up_eq]
  have ec : z_up (z_up t 721 4 0) 722 4 0 701 21 = t 701 21 := by rw [z_up_ne (by omega), z_up_ne (by omega)]
  obtain ⟨hp, f1, f2, f3, f4, f5⟩ := mf_ask_first (r := 4) (w := 0) (by omega) (by omega) x1 e22 (by omega) (show 0 ≤ 101 * rl + ar + 50 ∧ 101 * rl + ar + 50 < 1212 by omega)
  obtain ⟨q1, q2, q3⟩ := mf_run_ok (r := 4) (by omega) (by omega) 2001 _ f1 (fun _ => by omega)
  have q4 := mf_run_4 2001 _ f1 (mf_ask1_4 (by unfold mf_ask0; rw [z_up_eq]))
  have hd := z_RI_dep q1.2.1
  have hd1 := z_RI_dep f1.2.1
  refine ⟨q1, by omega, ?_, by omega, by omega⟩
  rcases q1.2.1 with ⟨y, -⟩ | ⟨y, -⟩ | ⟨-, y, -⟩
  · omega
  · omega
  · exact y
theorem z2_ask {rl ar : Int} (hn : n < 512) (h : z_RCs n s t) : z_two e n z_Inv m_C_ask m_M_ask [z_I rl, z_I ar] (z_gl s t) := by
  have inv := z_RCs_gl (z_RCs_up h)
  have hru : z_ru 4 = 216 := rfl
  refine b_C_ask_0 (d := 999) (s_C_isKey (d := 997) (fun r0 r1 a0 a1 => ⟨fun _ => ?_, fun z => by omega⟩) (fun q => ⟨fun z => absurd rfl z, fun _ => ?_⟩))
  · have hx := h.2.2.1
    have hc := h.2.2.2.1
    have hU := z_isU_ru (r := 4) (by omega) (by omega)
    have x1 : z_MX (z_up (z_up t 721 4 0) 722 4 0) 4 := z_ro_MX mf_first_ro hx
    have e22 : z_up (z_up t 721 4 0) 722 4 0 722 4 = 0 := z_up_eq
    have e21 : z_up (z_up t 721 4 0) 722 4 0 721 4 = 0 := by rw [z_up_ne (by omega), z_up_eq]
    have hE : z_cE false 4 (z_up s (z_ru 4) 1 1) t := by
      obtain ⟨⟨hT, hS, hN, hB⟩, ho, -⟩ := h
      have us : ∀ a i, ¬ a = z_ru 4 → z_up s (z_ru 4) 1 1 a i = s a i := fun a i y => z_up_ne (by omega)
      refine ⟨by rw [z_up_eq]; rfl, fun _ => ⟨⟨z_cT_c (fun a i y => us a i (by omega)) ⟨rfl, rfl, rfl⟩ hT, z_cS_c (fun a i y z _ => us a i (by omega)) (fun i _ _ _ => us _ _ (by omega)) (fun _ _ _ _ => rfl) (fun _ _ _ => rfl) hS, z_cN_c (fun i _ _ => us _ _ (by omega)) (fun a i y => us _ _ (by omega)) (fun _ _ _ => rfl) hN, hB⟩, fun q q0 q1 q2 => ?_⟩, fun q => (by cases q)⟩
      have hrq := z_ru_rng (r := q) q0 (by omega)
      have hq4 := z_ru_lt q1
      obtain ⟨⟨oG, oV⟩, ok⟩ := ho q q0 q1
      exact ⟨⟨z_cG_c (us _ _ (by omega)) (us _ _ (by omega)) (fun a i y z => us a i (by omega)) rfl rfl (fun f _ _ => z_fe_of fun _ _ _ _ => rfl) oG, z_cV_c oV (fun i => us _ _ (by omega)) (fun _ _ _ => rfl)⟩, by rw [us _ _ (by omega)]; exact ok⟩
    obtain ⟨w1, w2⟩ := z_K0_renew (x := 1) (by omega) (by omega) hE rfl
    rw [z_up_up] at w1 w2
    rw [hru] at w1 w2 hU
    obtain ⟨hp, f1, f2, f3, f4, f5⟩ := mf_ask_first (r := 4) (w := 0) (by omega) (by omega) x1 e22 (by omega) (show 0 ≤ 101 * rl + ar + 50 ∧ 101 * rl + ar + 50 < 1212 by omega)
    obtain ⟨g1, g2, g3, g4, g5⟩ := mf_whole_run hx r0 r1 a0 a1
    refine s_U_renew (d := 998) hU (s_C_keyOf (d := 998) r0 r1 a0 a1 (b_C_workOut_0 (d := 998) ?_))
    refine s_C_askKey (d := 992) (r := 4) (b := false) (w := 0) (by omega) (by omega) w1 x1 hp (fun _ => rfl) (fun z => by omega) (fun s1 v1 v2 => ?_)
    refine s_C_workOut_loop (d := 990) (r := 4) (by omega) (by omega) (fun _ => rfl) 2001 0 s1 _ _ v1 f1 (fun _ => by omega) (by omega) (by omega) (fun s2 v3 v4 => ?_)
    have hV := v3.2.2
    have hG := v3.2.1
    unfold z_cV at hV
    rw [hru] at hV
    generalize ht2 : mf_run 2001 4 (mf_ask 4 (101 * rl + ar + 50) 0 (z_up (z_up t 721 4 0) 722 4 0)) = t2 at *
    rw [z_gl_lo (by omega), z_gl_ul (by omega)]
    have us : ∀ a i, ¬ (a = 0 ∧ i = 8) → z_up s2 0 8 (s2 216 4) a i = s2 a i := fun a i y => z_up_ne (by omega)
    have M : ∀ x, x = t2 720 4 → z_C e 1000 m_M_ask [z_R 701, z_I rl, z_I ar] (z_gl (z_up s2 0 8 (s2 216 4)) t) (fun r2 σ2 => x = r2 ∧ z_Inv (n + 1) σ2) := fun x hxq => by
      refine b_M_ask_0 (d := 999) (s_M_mayAsk (d := 997) (fun _ _ _ _ => ⟨fun _ => s_M_runs (d := 925) hx (by omega) r0 r1 a0 a1 ⟨by omega, by omega, ?_⟩, fun z => by omega⟩) (fun z => by omega))
      rw [ht2]
      simp (disch := omega) only [z_gl_hi, z_gl_up, z_up_ne]
      have ut : ∀ a i, ¬ (a = 722 ∧ i = 4) → ¬ (a = 701 ∧ i = 46) → z_up (z_up t2 722 4 0) 701 46 (t2 721 4) a i = t2 a i := fun a i y z => by rw [z_up_ne (by omega), z_up_ne (by omega)]
      refine ⟨hxq, z_RCs_gl ?_⟩
      obtain ⟨hA, hO⟩ := v3.1.2.1 rfl
      obtain ⟨hT, hS, hN, hB⟩ := hA
      have hfz := z_fz_tr (show z_fz false s (z_up s 216 1 1) from ⟨fun z => (by cases z), fun _ a i y z => z_up_ne (by omega)⟩) (z_fz_tr w2 (z_fz_tr v2 v4))
      obtain ⟨-, -, -, -, h1, h2, h3⟩ := h
      have x2 := g1.1
      refine ⟨⟨z_cT_c (fun a i y => us a i (by omega)) (by refine ⟨?_, ?_, ?_⟩ <;> (funext i; exact ut _ _ (by omega) (by omega))) hT, z_cS_c (fun a i y z _ => us a i (by omega)) (fun i _ _ _ => us _ _ (by omega)) (fun a i y z => ut a i (by omega) (by omega)) (fun i y z => ut _ _ (by omega) (by omega)) hS, ?_, by rw [ut _ _ (by omega) (by omega), ut _ _ (by omega) (by omega), ut _ _ (by omega) (by omega)]; exact hB⟩, fun q q0 q1 => ?_, ?_, ?_, ?_, ?_, fun p p0 p1 => ?_⟩
      · unfold z_cN at hN ⊢
        rw [us 0 7 (by omega), us 0 9 (by omega), us 0 10 (by omega), us 0 11 (by omega), us 7 7 (by omega), us 7 8 (by omega), us 7 9 (by omega), us 0 12 (by omega), z_up_eq, us 7 4 (by omega), us 3 2 (by omega), ut 701 26 (by omega) (by omega), ut 717 0 (by omega) (by omega), ut 717 1 (by omega) (by omega), ut 717 2 (by omega) (by omega), ut 717 3 (by omega) (by omega), ut 717 4 (by omega) (by omega), ut 717 5 (by omega) (by omega), ut 717 6 (by omega) (by omega), z_up_eq, ut 701 29 (by omega) (by omega), ut 701 2 (by omega) (by omega)]
        obtain ⟨⟨n1, n2, n3, n4, n5, n6, n7, n8, n9⟩, ⟨m1, m2, m3⟩, l1, l2, l3⟩ := hN
        have hg4 := hG.1.2
        rw [hru] at hg4
        exact ⟨⟨n1, n2, n3, n4, n5, n6, n7, n8, hg4⟩, ⟨m1, m2, fun i i0 i1 => by rw [us 4 i (by omega), ut 703 i (by omega) (by omega)]; exact m3 i i0 i1⟩, l1, l2, fun i i0 i1 => by rw [us 9 i (by omega), ut 718 i (by omega) (by omega)]; exact l3 i i0 i1⟩
      · have hrq := z_ru_rng (r := q) q0 (by omega)
        obtain ⟨⟨oG, oV⟩, ok⟩ := hO q q0 q1 (by omega)
        exact ⟨⟨z_cG_c (us _ _ (by omega)) (us _ _ (by omega)) (fun a i y z => us a i (by omega)) (ut _ _ (by omega) (by omega)) (ut _ _ (by omega) (by omega)) (fun f _ _ => z_fe_of fun a i _ _ => ut a i (by omega) (by omega)) oG, z_cV_c oV (fun i => us _ _ (by omega)) (fun a y z => ut _ _ (by omega) (by omega))⟩, by rw [us _ _ (by omega)]; exact ok⟩
      · exact z_MX_eq (by refine ⟨?_, ?_, ?_⟩ <;> (funext i; exact ut _ _ (by omega) (by omega))) x2 (fun a p _ _ _ _ _ => ut a p (by omega) (by omega)) (ut _ _ (by omega) (by omega)) (ut _ _ (by omega) (by omega)) (ut _ _ (by omega) (by omega)) (ut _ _ (by omega) (by omega)) (ut _ _ (by omega) (by omega)) (fun q _ _ _ => ⟨fun a _ _ _ => ut a q (by omega) (by omega), fun f _ _ => z_fe_of fun a i _ _ => ut a i (by omega) (by omega)⟩)
      · rw [ut _ _ (by omega) (by omega)]; omega
      · rw [us _ _ (by omega), hfz.2 rfl _ _ (by omega) (by omega)]; exact h1
      · rw [us _ _ (by omega), hfz.2 rfl _ _ (by omega) (by omega)]; omega
      · rw [us _ _ (by omega), us _ _ (by omega), hfz.2 rfl _ _ (by omega) (by omega), hfz.2 rfl _ _ (by omega) (by omega)]; exact h3 p p0 p1
    refine s_U_outcome (d := 998) hU (fun q => ?_) (fun q => ?_)
    · rw [us _ _ (by omega), hV.1] at q
      rw [us _ _ (by omega)]
      exact M _ (hV.2.2.1 (by omega))
    · rw [us _ _ (by omega), hV.1] at q
      obtain ⟨o1, o2, o3⟩ := hV.2.2.2 q
      rw [us _ _ (by omega)]
      exact ⟨o2, o3, M _ o1.symm⟩
  · exact b_M_ask_0 (d := 999) (s_M_mayAsk (d := 997) (fun _ _ _ _ => by omega) (fun _ => ⟨fun z => absurd rfl z, fun _ => ⟨rfl, inv⟩⟩))
end SP
