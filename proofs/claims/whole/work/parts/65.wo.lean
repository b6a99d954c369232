/-! class and reference: steps, runs -/
theorem mf_set_ok {r : Int} {t t' : z_M} (hr0 : 0 ≤ r) (hr1 : r < 5) (h : z_RO t t' r) : z_MX (mf_set r t') r ∧ z_RI (mf_set r t') r ∧ (mf_set r t' 719 r = 1 → t' 719 r = 1 ∧ z_HT (mf_set r t') r) ∧ (t 701 21 ≤ mf_set r t' 701 21 ∧ mf_set r t' 701 21 + mf_set r t' 722 r ≤ t 701 21 + t 722 r + 1) ∧ mf_set r t' 721 r = t' 721 r ∧ (mf_set r t' 719 r = t' 719 r ∨ mf_set r t' 719 r = 3) := by
  obtain ⟨h1, h2, h3, h4⟩ := h
  unfold mf_set
  rcases h2 with ⟨q1, q2, q3⟩ | ⟨q1, q2⟩
  · rw [if_pos q1]
    obtain ⟨g1, g2, g3, g4, g5⟩ := mf_go_ok hr0 hr1 30 t' h1 q2 q3 (by have := q2.1; omega) q1
    refine ⟨g1, g2, fun z => ⟨q1, ?_⟩, by omega, g5, ?_⟩
    · rcases g3 with g | g
      · exact g.2
      · omega
    · rcases g3 with g | g
      · exact Or.inl (by rw [g.1, q1])
      · exact Or.inr g
  · rw [if_neg q1]
    exact ⟨h1, q2, fun z => absurd z q1, by omega, rfl, Or.inl rfl⟩
theorem z_RI_run {t : z_M} {r : Int} (h : z_RI t r) (h1 : t 719 r = 1) : z_RR t r ∧ z_SE t r := by
  rcases h with ⟨-, a, b⟩ | ⟨a, -⟩ | ⟨a, -⟩
  · exact ⟨a, b⟩
  · omega
  · omega
theorem z_RI_dep {t : z_M} {r : Int} (h : z_RI t r) : 0 ≤ t 722 r ∧ t 722 r ≤ 30 ∧ 0 ≤ t 721 r ∧ t 721 r ≤ 2000 ∧ 0 ≤ t 719 r ∧ t 719 r ≤ 4 := by
  rcases h with ⟨a, b, c⟩ | ⟨a, b, c⟩ | ⟨a, b, c⟩
  · have := b.1; have := b.2.1; omega
  · have := c.1; have := c.2.1; omega
  · omega
section WO
variable {e : z_E} {d : Nat} {c : z_M} {Q : Int → z_M → Prop}
theorem s_C_workStep {b : Bool} {r : Int} {s t : z_M} (r0 : 0 ≤ r) (r1 : r < 5) (h : z_KC b r s t) (hx : z_MX t r) (hr : z_RR t r) (hs : z_HT t r) (hse : z_SE t r) (h19 : t 719 r = 1) (hbr : r < 4 → b = false) (hq : ∀ s', z_KC b r s' (mf_set r (mf_st r t)) → z_fz b s s' → Q 0 (z_gl s' c)) : z_C e (d + 8) m_C_workStep [z_R 0, z_R (z_ru r)] (z_gl s c) Q := by
  have hb := hr.1
  have hru := z_ru_rng r0 r1
  have hU := z_isU_ru r0 r1
  obtain ⟨u1, u2, u3, u4, u5⟩ := id hU
  have hG := h.2.1
  have hV := h.2.2
  have hok := mf_st_ok hx hr r0 r1 hs hse h19
  have hsz := mf_set_ok r0 r1 hok.1
  have hFd : z_ru r + 1 + 1 + 3 * (s (z_ru r) 3 - 1) = z_fA r (t 722 r - 1) := by unfold z_fA; rw [hG.1.1]
  have hF := z_isF_fA (i := t 722 r - 1) r0 r1 (by omega) (by omega)
  have hset : ∀ s', z_KC b r s' (mf_st r t) → z_fz b s s' → z_C e (d + 7) m_C_settle [z_R 0, z_R (z_ru r)] (z_gl s' c) (fun _ σ => Q 0 σ) := fun s' v1 v2 => by
    refine s_C_settle (d := d) r0 r1 v1 hok.1.1 (fun z => ?_) (fun s2 v3 v4 => hq s2 v3 (z_fz_tr v2 v4))
    rcases hok.1.2.1 with ⟨-, q2, q3⟩ | ⟨q1, -⟩
    · exact ⟨q2, q3⟩
    · exact absurd z q1
  refine b_C_workStep_0 ?_
  simp only [u1, z_ckT]
  refine s_U_top (d := d + 6) hU (by rw [hG.1.1]; omega) (fun w => by rw [hG.1.1] at w; omega) (fun _ => ⟨fun _ => ?_, fun w => by rw [hFd] at w; have := hF.2.2.2.1; omega⟩)
  rw [hFd]
  simp (disch := omega) only [z_gl_lo]
  rw [hG.1.2]
  refine ⟨fun w => ?_, fun w => ?_⟩
  · have h2 : ¬ t 721 r = 2000 := by omega
    rw [z_wr_id (by have := hr.2.1; omega) (by omega), z_gl_ul (by omega)]
    refine s_C_workNode (d := d + 3) r0 r1 h hx hr hs hse h2 (fun s' v1 v2 => ⟨fun _ => hset s' v1 v2, fun z => absurd rfl z⟩) (fun s' o4 hv v1 v2 => ?_)
    obtain ⟨D, ⟨k1, k2⟩, k3, k4, k5, k6, ⟨k7, k8, k9, k10, k11⟩, k12⟩ := z_NK_of hx hr hs hse
    unfold z_TO at k5
    have hkey : ¬ 101 * mf_arg r t + mf_val (mf_top r t) t + 50 = -1 := by omega
    refine ⟨fun z => absurd z hkey, fun _ => ?_⟩
    obtain ⟨a1, a2, a3⟩ := mf_adv_at (r := r) (t := t)
    have n2 := z_nd_taken (mf_adv_nd (r := r) (t := t))
    have hv1 : mf_val (mf_top r t) (mf_adv r t) = mf_val (mf_top r t) t := by unfold mf_val; rw [a3 732 _ (by omega) (by omega), a3 733 _ (by omega) (by omega)]
    have hp := z_nd_RP n2 hx hr hs hse (by rw [mf_taken_ne (by omega)]; exact a1) h2 o4 rfl hv (by rw [mf_taken_ne (by omega)]; exact a2) (by rw [mf_taken_ne (by omega)]; exact a3 _ _ (by omega) (by omega)) (by rw [mf_taken_at, a3 _ _ (by omega) (by omega)]) (fun i => by rw [mf_taken_ne (by omega), a3 _ _ (by omega) (by omega)])
    have hst : mf_st r t = mf_ask r (101 * mf_arg r t + mf_val (mf_top r t) t + 50) 0 (mf_taken (mf_top r t) (mf_adv r t)) := by
      unfold mf_st mf_st1
      rw [if_neg h2, if_pos o4, hv1, if_pos hv]
    refine s_C_askKey (d := d + 1) (w := 0) r0 r1 ⟨v1.1, v1.2.1⟩ (z_nd_MX n2 hx r0 r1 hb) hp hbr (fun _ => ⟨fun _ => ?_, fun _ => rfl⟩) (fun s2 v3 v4 => ?_)
    · rw [v1.2.2.1, n2 _ _ (by omega) (by omega) (by omega), h19]; decide
    · rw [← hst] at v3
      exact hset s2 v3 (z_fz_tr v2 v4)
  · have h2 : t 721 r = 2000 := by have := hr.2.1; omega
    have hst : mf_st r t = mf_fails r 6 t := by unfold mf_st; rw [if_pos h2]
    rw [hst, mf_set_fails] at hq
    obtain ⟨f1, f2⟩ := z_KC_fail (why := 6) r0 r1 (by omega) (show z_K0 b r s t from ⟨h.1, h.2.1⟩)
    exact s_C_fail (d := d + 5) (b := b) (r := r) hU h.1.1 (hq _ f1 f2)
/-- a run to its end -/
def mf_run : Nat → Int → z_M → z_M
  | 0, _, t => t
  | n + 1, r, t => if t 719 r = 1 then mf_run n r (mf_set r (mf_st r t)) else t
/-- what holds of a run between its steps -/
def z_RW (t : z_M) (r : Int) : Prop := z_MX t r ∧ z_RI t r ∧ (t 719 r = 1 → z_HT t r)
theorem z_RW_step {t : z_M} {r : Int} (r0 : 0 ≤ r) (r1 : r < 5) (h : z_RW t r) (h1 : t 719 r = 1) : z_RW (mf_set r (mf_st r t)) r ∧ (t 701 21 ≤ mf_set r (mf_st r t) 701 21 ∧ mf_set r (mf_st r t) 701 21 + mf_set r (mf_st r t) 722 r ≤ t 701 21 + t 722 r + 1) ∧ (mf_set r (mf_st r t) 719 r = 1 → mf_set r (mf_st r t) 721 r = t 721 r + 1) ∧ (t 721 r ≤ mf_set r (mf_st r t) 721 r ∧ mf_set r (mf_st r t) 721 r ≤ t 721 r + 1) := by
  obtain ⟨hx, hi, ht⟩ := h
  obtain ⟨hr, hse⟩ := z_RI_run hi h1
  have hok := mf_st_ok hx hr r0 r1 (ht h1) hse h1
  obtain ⟨g1, g2, g3, g4, g5, g6⟩ := mf_set_ok r0 r1 hok.1
  refine ⟨⟨g1, g2, fun z => (g3 z).2⟩, g4, fun z => by rw [g5]; exact hok.2.1.2 (g3 z).1, by rw [g5]; exact hok.2.1.1⟩
theorem mf_run_ok {r : Int} (r0 : 0 ≤ r) (r1 : r < 5) : ∀ (n : Nat) (t : z_M), z_RW t r → (t 719 r = 1 → 2001 - t 721 r ≤ (n : Int)) → z_RW (mf_run n r t) r ∧ ¬ mf_run n r t 719 r = 1 ∧ (t 701 21 ≤ mf_run n r t 701 21 ∧ mf_run n r t 701 21 + mf_run n r t 722 r ≤ t 701 21 + t 722 r + (n : Int))
  | 0, t, h, hn => by
    have hd := z_RI_dep h.2.1
    refine ⟨h, fun z => ?_, ?_⟩
    · have := hn z; omega
    · show t 701 21 ≤ t 701 21 ∧ t 701 21 + t 722 r ≤ _; omega
  | n + 1, t, h, hn => by
    have hd := z_RI_dep h.2.1
    show z_RW (if t 719 r = 1 then mf_run n r (mf_set r (mf_st r t)) else t) r ∧ ¬ (if t 719 r = 1 then mf_run n r (mf_set r (mf_st r t)) else t) 719 r = 1 ∧ (t 701 21 ≤ (if t 719 r = 1 then mf_run n r (mf_set r (mf_st r t)) else t) 701 21 ∧ (if t 719 r = 1 then mf_run n r (mf_set r (mf_st r t)) else t) 701 21 + (if t 719 r = 1 then mf_run n r (mf_set r (mf_st r t)) else t) 722 r ≤ t 701 21 + t 722 r + ((n + 1 : Nat) : Int))
    by_cases h1 : t 719 r = 1
    · simp only [if_pos h1]
      obtain ⟨g1, g2, g3, g4⟩ := z_RW_step r0 r1 h h1
      obtain ⟨q1, q2, q3⟩ := mf_run_ok r0 r1 n _ g1 (fun z => by have := g3 z; have := hn h1; omega)
      exact ⟨q1, q2, by omega⟩
    · simp only [if_neg h1]
      exact ⟨h, h1, by omega⟩
/-- the reference's run of its asker -/
theorem s_M_runs_loop : ∀ (n : Nat) (t : z_M) (d : Nat) (Q : Int → z_M → Prop), z_RW t 4 → (t 719 4 = 1 → 2001 - t 721 4 ≤ (n : Int)) → t 701 21 + t 722 4 + (n : Int) < 99999999 → Q 0 (z_gl c (z_up (mf_run n 4 t) 722 4 0)) → z_T e (d + 72) m_M_runs 25 [some (z_R 701), none, none] (z_gl c t) Q
  | n, t, d, Q, h, hn, hc, hq => by
    have hd := z_RI_dep h.2.1
    refine b_M_runs_25 ⟨by omega, ?_⟩
    simp (disch := omega) only [z_gl_hi, z_gl_up]
    refine ⟨fun h1 => ⟨by omega, ?_⟩, fun h1 => ?_⟩
    · have : mf_run n 4 t = t := by
        cases n with
        | zero => rfl
        | succ n => exact if_neg h1
      rw [this] at hq
      exact hq
    · obtain ⟨hr, hse⟩ := z_RI_run h.2.1 h1
      obtain ⟨m, rfl⟩ : ∃ m, n = m + 1 := ⟨n - 1, by have := hn h1; have := hr.2.1; omega⟩
      obtain ⟨g1, g2, g3, g4⟩ := z_RW_step (by omega) (by omega) h h1
      refine s_M_stepsOnce (d := d) (by omega) (by omega) h.1 hr (h.2.2 h1) hse h1 (fun q q0 q1 => (z_RI_dep (h.1.2.2.2.2.2 q q0 q1 (by omega))).2.1) (by omega) ?_
      refine s_M_runs_loop m _ d Q g1 (fun z => by have := g3 z; have := hn h1; omega) (by omega) ?_
      rw [show mf_run (m + 1) 4 t = mf_run m 4 (mf_set 4 (mf_st 4 t)) from if_pos h1] at hq
      exact hq
termination_by n => n
theorem s_C_workOut_loop {b : Bool} {r : Int} (r0 : 0 ≤ r) (r1 : r < 5) (hbr : r < 4 → b = false) : ∀ (n : Nat) (i : Int) (s t : z_M) (d : Nat) (Q : Int → z_M → Prop), z_KC b r s t → z_RW t r → (t 719 r = 1 → 2001 - t 721 r ≤ (n : Int)) → 0 ≤ i → i + (n : Int) = 2001 → (∀ s', z_KC b r s' (mf_run n r t) → z_fz b s s' → Q 0 (z_gl s' c)) → z_T e (d + 8) m_C_workOut 8 [some (z_R 0), some (z_R (z_ru r)), none, some (z_I i)] (z_gl s c) Q
  | n, i, s, t, d, Q, h, hw, hn, i0, i1, hq => by
    have hU := z_isU_ru r0 r1
    obtain ⟨u1, u2, u3, u4, u5⟩ := id hU
    have hd := z_RI_dep hw.2.1
    have hV := h.2.2
    by_cases h1 : t 719 r = 1
    · obtain ⟨hr, hse⟩ := z_RI_run hw.2.1 h1
      obtain ⟨m, rfl⟩ : ∃ m, n = m + 1 := ⟨n - 1, by have := hn h1; have := hr.2.1; omega⟩
      rw [show mf_run (m + 1) r t = mf_run m r (mf_set r (mf_st r t)) from if_pos h1] at hq
      refine b_C_workOut_8 ⟨fun w => by omega, fun _ => ?_⟩
      simp (disch := omega) only [u1, z_ckT, z_gl_lo, z_wr_id]
      rw [hV.1, h1]
      refine ⟨fun w => absurd rfl w, fun _ => ?_⟩
      obtain ⟨g1, g2, g3, g4⟩ := z_RW_step r0 r1 hw h1
      refine s_C_workStep (d := d) r0 r1 h hw.1 hr (hw.2.2 h1) hse h1 hbr (fun s' v1 v2 => ?_)
      exact s_C_workOut_loop r0 r1 hbr m (i + 1) s' _ d Q v1 g1 (fun z => by have := g3 z; have := hn h1; omega) (by omega) (by omega) (fun s2 v3 v4 => hq s2 v3 (z_fz_tr v2 v4))
    · have : mf_run n r t = t := by
        cases n with
        | zero => rfl
        | succ n => exact if_neg h1
      rw [this] at hq
      have hq := hq s h z_fz_rf
      refine b_C_workOut_8 ⟨fun _ => hq, fun _ => ?_⟩
      simp (disch := omega) only [u1, z_ckT, z_gl_lo]
      rw [hV.1]
      exact ⟨fun _ => hq, fun w => absurd w h1⟩
termination_by n => n
end WO
