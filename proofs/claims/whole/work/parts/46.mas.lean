/-! the reference: asksFor -/
theorem mf_set_fails {r why : Int} {t : z_M} : mf_set r (mf_fails r why t) = mf_fails r why t := by
  unfold mf_set; rw [if_neg (by rw [mf_fails_at.1]; omega)]
section MAS
variable {e : z_E} {d : Nat} {c : z_M} {Q : Int → z_M → Prop}
theorem s_M_asksFor {r key w : Int} {t : z_M} (hr0 : 0 ≤ r) (hr1 : r < 5) (hx : z_MX t r) (hp : z_RP t r key) (hd30 : ∀ q, 0 ≤ q → q < 4 → t 722 q ≤ 30) (hc : t 701 21 + t 722 r < 100000000) (h : Q 0 (z_gl c (mf_set r (mf_ask r key w t)))) : z_C e (d + 70) m_M_asksFor [z_R 701, z_I r, z_I key, z_I w] (z_gl c t) Q := by
  have k0 := hp.2.2.2.1.1
  have k1 := hp.2.2.2.1.2
  refine b_M_asksFor_0 (d := d + 69) ⟨⟨hr0, hr1⟩, ⟨k0, k1⟩, ?_⟩
  have hE : z_up (z_up (z_gl c t) 701 26 (z_wr (z_gl c t 701 26 + 1))) 719 r 1 = z_gl c (mf_ask0 r t) := by
    unfold mf_ask0; rw [z_gl_hi (by omega), z_gl_up (by omega), z_gl_up (by omega)]
  rw [hE]
  have x0 : z_MX (mf_ask0 r t) r := z_ro_MX mf_ask0_ro hx
  have a2 : ∀ q, mf_ask0 r t 722 q = t 722 q := fun q => by unfold mf_ask0; rw [z_up_ne (by omega), z_up_ne (by omega)]
  have a3 : mf_ask0 r t 721 r = t 721 r := by unfold mf_ask0; rw [z_up_ne (by omega), z_up_ne (by omega)]
  have p0 : z_RP (mf_ask0 r t) r key := z_ro_RP mf_ask0_ro hx.1 a3 (a2 r) hp
  have s0 : mf_ask0 r t 719 r = 1 := by unfold mf_ask0; rw [z_up_eq]
  have c0 : mf_ask0 r t 701 21 + mf_ask0 r t 722 r < 100000000 := by rw [a2]; unfold mf_ask0; rw [z_up_ne (by omega), z_up_ne (by omega)]; exact hc
  have hd0 : ∀ q, 0 ≤ q → q < 4 → mf_ask0 r t 722 q ≤ 30 := fun q q0 q1 => by rw [a2]; exact hd30 q q0 q1
  unfold mf_ask at h
  generalize mf_ask0 r t = t0 at *
  have b1 := p0.1
  have hok := mf_ask1_ok (w := w) hr0 hr1 x0 p0 s0
  unfold mf_ask1 at h hok
  refine ⟨fun q => ?_, fun q => ?_⟩
  · rw [z_gl_hi (by omega)] at q
    refine s_M_hasFrame (d := d + 68) hr0 hr1 (by omega) (fun hh => ⟨fun z => by omega, fun _ => ?_⟩) (fun hh => ⟨fun _ => ⟨fun hr4 => ?_, fun hr4 => ⟨fun _ => ?_, fun z => absurd rfl z⟩⟩, fun z => absurd rfl z⟩)
    · rw [if_neg (fun z => z q), if_pos (mf_has_iff.mpr hh), mf_set_fails] at h
      exact s_M_fails (d := d + 68) hr0 hr1 (by omega) (by omega) h
    · have hh' : ¬ mf_has t0 r key = true := fun z => hh (mf_has_iff.mp z)
      refine s_M_taskF (d := d + 67) hd0 ⟨fun q2 => ?_, fun q2 => ?_⟩
      · have hno : ¬ (¬ r = 4 ∧ ¬ mf_tk t0 key r = -1) := fun z => z.2 q2
        refine ⟨⟨hr0, hr1⟩, fun q3 => ?_, fun q3 => ?_⟩
        · rw [z_gl_hi (by omega)] at q3
          refine s_M_ruleOf (d := d + 68) k0 k1 ⟨by omega, fun q4 => ⟨⟨hr0, hr1⟩, ⟨hr0, hr1⟩, ?_⟩, fun q4 => ?_⟩
          · rw [z_gl_hi (by omega)] at q4
            rw [if_neg (fun z => z q), if_neg hh', if_neg hno, if_neg q3, if_neg q4] at h
            simp (disch := omega) only [z_gl_hi, z_gl_up, z_wr_id]
            refine s_M_top (d := d + 68) hr0 hr1 (by rw [z_up_eq]; omega) (by rw [z_up_eq]; omega) ?_
            have ht : mf_top r (z_up t0 722 r (t0 722 r + 1)) = 30 * r + t0 722 r := by unfold mf_top; rw [z_up_eq]; omega
            rw [ht]
            refine ⟨by omega, ⟨hr0, hr1⟩, by omega, by omega, ?_⟩
            have hb1 : z_up (z_up (z_up (z_gl c (z_up t0 722 r (t0 722 r + 1))) 725 (30 * r + t0 722 r) key) 727 (30 * r + t0 722 r) (z_up (z_gl c (z_up t0 722 r (t0 722 r + 1))) 725 (30 * r + t0 722 r) key 721 r)) 728 (30 * r + t0 722 r) (z_up (z_up (z_gl c (z_up t0 722 r (t0 722 r + 1))) 725 (30 * r + t0 722 r) key) 727 (30 * r + t0 722 r) (z_up (z_gl c (z_up t0 722 r (t0 722 r + 1))) 725 (30 * r + t0 722 r) key 721 r) 701 26) = z_gl c (mf_beg1 r key t0) := by
              simp (disch := omega) only [z_gl_hi, z_gl_up, z_up_ne]
              rfl
            rw [hb1]
            have e25 : mf_beg1 r key t0 725 (30 * r + t0 722 r) = key := by unfold mf_beg1; rw [z_up_ne (by omega), z_up_ne (by omega), z_up_eq]
            refine s_M_clears (d := d + 67) (by omega) (by omega) (by rw [e25]; exact k0) (by rw [e25]; exact k1) ⟨by omega, by omega, ?_⟩
            have e17 : mf_clears (30 * r + t0 722 r) (mf_beg1 r key t0) 717 1 = t0 717 1 := by
              unfold mf_clears mf_beg1
              rw [z_up_ne (by omega), z_up_ne (by omega), z_up_ne (by omega), z_up_ne (by omega), z_up_ne (by omega), z_up_ne (by omega), z_up_ne (by omega), z_up_ne (by omega)]
            rw [z_gl_hi (by omega), e17, z_gl_up (by omega)]
            obtain ⟨w1, w2⟩ := mf_beg_ok hr0 hr1 x0 p0 q3 q4 s0
            rcases w1.2.1 with ⟨w3, w4, w5⟩ | ⟨w3, -⟩
            · have hset : mf_set r (mf_beg r key t0) = mf_beg r key t0 := by unfold mf_set; rw [if_pos w3]; exact mf_go_id w5 w2
              rw [hset] at h
              exact h
            · exact absurd (show mf_beg r key t0 719 r = 1 by rw [mf_beg_ne (by omega) (by omega) (by omega)]; exact s0) w3
          · rw [z_gl_hi (by omega)] at q4
            rw [if_neg (fun z => z q), if_neg hh', if_neg hno, if_neg q3, if_pos q4, mf_set_fails] at h
            exact s_M_fails (d := d + 68) hr0 hr1 (by omega) (by omega) h
        · rw [z_gl_hi (by omega)] at q3
          rw [if_neg (fun z => z q), if_neg hh', if_neg hno, if_pos q3, mf_set_fails] at h
          exact s_M_fails (d := d + 68) hr0 hr1 (by omega) (by omega) h
      · have hyes : ¬ r = 4 ∧ ¬ mf_tk t0 key r = -1 := ⟨hr4, q2⟩
        have hq := (mf_tk_rng t0 key r).resolve_left q2
        have hwf : ∀ p, 0 ≤ p → p < 4 → t0 719 p = 2 → 0 ≤ t0 723 p ∧ t0 723 p < 4 := fun p p0 p1 p2 => by
          by_cases hpr : p = r
          · rw [hpr, s0] at p2; omega
          · rcases x0.2.2.2.2.2 p p0 p1 hpr with ⟨z, -⟩ | ⟨-, z, -⟩ | ⟨z, -⟩
            · omega
            · exact z
            · omega
        rw [if_neg (fun z => z q), if_neg hh', if_pos hyes] at h
        refine s_M_waitsAtLast (d := d + 68) hq.1 hq.2.1 hwf (fun hw => ⟨fun z => by omega, fun _ => ?_⟩) (fun hw => ⟨fun _ => ⟨⟨hr0, hr1⟩, ⟨hr0, hr1⟩, ⟨hr0, hr1⟩, by omega, fun hw0 => ⟨by omega, ?_⟩, fun hw0 => ⟨by omega, ?_⟩⟩, fun z => absurd rfl z⟩)
        · rw [if_pos (mf_wal_iff 4 _ |>.mpr hw), mf_set_fails] at h
          exact s_M_fails (d := d + 68) hr0 hr1 (by omega) (by omega) h
        · rw [if_neg (fun z => hw ((mf_wal_iff 4 _).mp z)), show mf_set r (mf_wait r (mf_tk t0 key r) key w t0) = mf_wait r (mf_tk t0 key r) key w t0 by unfold mf_set; rw [if_neg (by rw [mf_wait_at.1]; omega)]] at h
          unfold mf_wait at h
          rw [if_pos hw0] at h
          simp (disch := omega) only [z_gl_hi, z_gl_up, z_up_ne]
          exact h
        · rw [if_neg (fun z => hw ((mf_wal_iff 4 _).mp z)), show mf_set r (mf_wait r (mf_tk t0 key r) key w t0) = mf_wait r (mf_tk t0 key r) key w t0 by unfold mf_set; rw [if_neg (by rw [mf_wait_at.1]; omega)]] at h
          unfold mf_wait at h
          rw [if_neg hw0] at h
          simp (disch := omega) only [z_gl_hi, z_gl_up, z_up_ne]
          exact h
    · have hh' : ¬ mf_has t0 r key = true := fun z => hh (mf_has_iff.mp z)
      have hno : ¬ (¬ r = 4 ∧ ¬ mf_tk t0 key r = -1) := fun z => z.1 hr4
      refine ⟨⟨hr0, hr1⟩, fun q3 => ?_, fun q3 => ?_⟩
      · rw [z_gl_hi (by omega)] at q3
        refine s_M_ruleOf (d := d + 68) k0 k1 ⟨by omega, fun q4 => ⟨⟨hr0, hr1⟩, ⟨hr0, hr1⟩, ?_⟩, fun q4 => ?_⟩
        · rw [z_gl_hi (by omega)] at q4
          rw [if_neg (fun z => z q), if_neg hh', if_neg hno, if_neg q3, if_neg q4] at h
          simp (disch := omega) only [z_gl_hi, z_gl_up, z_wr_id]
          refine s_M_top (d := d + 68) hr0 hr1 (by rw [z_up_eq]; omega) (by rw [z_up_eq]; omega) ?_
          have ht : mf_top r (z_up t0 722 r (t0 722 r + 1)) = 30 * r + t0 722 r := by unfold mf_top; rw [z_up_eq]; omega
          rw [ht]
          refine ⟨by omega, ⟨hr0, hr1⟩, by omega, by omega, ?_⟩
          have hb1 : z_up (z_up (z_up (z_gl c (z_up t0 722 r (t0 722 r + 1))) 725 (30 * r + t0 722 r) key) 727 (30 * r + t0 722 r) (z_up (z_gl c (z_up t0 722 r (t0 722 r + 1))) 725 (30 * r + t0 722 r) key 721 r)) 728 (30 * r + t0 722 r) (z_up (z_up (z_gl c (z_up t0 722 r (t0 722 r + 1))) 725 (30 * r + t0 722 r) key) 727 (30 * r + t0 722 r) (z_up (z_gl c (z_up t0 722 r (t0 722 r + 1))) 725 (30 * r + t0 722 r) key 721 r) 701 26) = z_gl c (mf_beg1 r key t0) := by
            simp (disch := omega) only [z_gl_hi, z_gl_up, z_up_ne]
            rfl
          rw [hb1]
          have e25 : mf_beg1 r key t0 725 (30 * r + t0 722 r) = key := by unfold mf_beg1; rw [z_up_ne (by omega), z_up_ne (by omega), z_up_eq]
          refine s_M_clears (d := d + 67) (by omega) (by omega) (by rw [e25]; exact k0) (by rw [e25]; exact k1) ⟨by omega, by omega, ?_⟩
          have e17 : mf_clears (30 * r + t0 722 r) (mf_beg1 r key t0) 717 1 = t0 717 1 := by
            unfold mf_clears mf_beg1
            rw [z_up_ne (by omega), z_up_ne (by omega), z_up_ne (by omega), z_up_ne (by omega), z_up_ne (by omega), z_up_ne (by omega), z_up_ne (by omega), z_up_ne (by omega)]
          rw [z_gl_hi (by omega), e17, z_gl_up (by omega)]
          obtain ⟨w1, w2⟩ := mf_beg_ok hr0 hr1 x0 p0 q3 q4 s0
          rcases w1.2.1 with ⟨w3, w4, w5⟩ | ⟨w3, -⟩
          · have hset : mf_set r (mf_beg r key t0) = mf_beg r key t0 := by unfold mf_set; rw [if_pos w3]; exact mf_go_id w5 w2
            rw [hset] at h
            exact h
          · exact absurd (show mf_beg r key t0 719 r = 1 by rw [mf_beg_ne (by omega) (by omega) (by omega)]; exact s0) w3
        · rw [z_gl_hi (by omega)] at q4
          rw [if_neg (fun z => z q), if_neg hh', if_neg hno, if_neg q3, if_pos q4, mf_set_fails] at h
          exact s_M_fails (d := d + 68) hr0 hr1 (by omega) (by omega) h
      · rw [z_gl_hi (by omega)] at q3
        rw [if_neg (fun z => z q), if_neg hh', if_neg hno, if_pos q3, mf_set_fails] at h
        exact s_M_fails (d := d + 68) hr0 hr1 (by omega) (by omega) h
  · rw [z_gl_hi (by omega)] at q
    have hz : ¬ t0 707 key = 0 := q
    rw [if_pos hz] at h hok
    refine ⟨by omega, by omega, ⟨k0, k1⟩, ⟨k0, k1⟩, ⟨k0, k1⟩, ⟨k0, k1⟩, ⟨k0, k1⟩, ?_⟩
    have hH : z_up (z_up (z_up (z_gl c t0) 717 0 (z_wr (z_gl c t0 717 0 + 1))) 711 key (z_up (z_gl c t0) 717 0 (z_wr (z_gl c t0 717 0 + 1)) 701 26)) 712 key (z_wr (z_up (z_up (z_gl c t0) 717 0 (z_wr (z_gl c t0 717 0 + 1))) 711 key (z_up (z_gl c t0) 717 0 (z_wr (z_gl c t0 717 0 + 1)) 701 26) 712 key + 1)) = z_gl c (mf_hit key t0) := by
      simp (disch := omega) only [z_gl_hi, z_gl_up, z_up_ne]
      rfl
    rw [hH, z_gl_hi (by omega), z_gl_hi (by omega)]
    have g8 : mf_hit key t0 708 key = t0 708 key := by unfold mf_hit; rw [z_up_ne (by omega), z_up_ne (by omega), z_up_ne (by omega)]
    have g13 : mf_hit key t0 713 key = t0 713 key := by unfold mf_hit; rw [z_up_ne (by omega), z_up_ne (by omega), z_up_ne (by omega)]
    have g22 : mf_hit key t0 722 r = t0 722 r := by unfold mf_hit; rw [z_up_ne (by omega), z_up_ne (by omega), z_up_ne (by omega)]
    have g30 : ∀ i, mf_hit key t0 730 i = t0 730 i := fun i => by unfold mf_hit; rw [z_up_ne (by omega), z_up_ne (by omega), z_up_ne (by omega)]
    have g32 : ∀ i, mf_hit key t0 732 i = t0 732 i := fun i => by unfold mf_hit; rw [z_up_ne (by omega), z_up_ne (by omega), z_up_ne (by omega)]
    rw [g8, g13]
    unfold mf_gt at h hok
    refine s_M_gets (d := d + 67) hr0 hr1 (by omega) (by omega) (fun q2 => ?_) (fun q2 => ?_) (fun q2 => ?_)
    · have p8 := p0.2.2.2.2 (by omega)
      obtain ⟨v1, v2, v3, -⟩ := z_FP_sz x0.1 p8
      have v4 := p8.1
      rw [g30, g32]
      unfold mf_top
      rw [g22]
      exact ⟨v4.2.2, by omega, v4.2.1, by omega⟩
    · rw [if_pos q2] at h
      have hset : mf_set r (z_up (z_up (mf_hit key t0) 719 r 3) 720 r (t0 708 key)) = z_up (z_up (mf_hit key t0) 719 r 3) 720 r (t0 708 key) := by
        unfold mf_set; rw [if_neg (by rw [z_up_ne (by omega), z_up_eq]; omega)]
      rw [hset] at h
      exact h
    · rw [if_neg q2] at h hok
      have h19 : mf_give r key (t0 708 key) (t0 713 key) (mf_hit key t0) 719 r = 1 := by
        rw [(mf_give_fr (r := r) (key := key) (v := t0 708 key) (u := t0 713 key) (t := mf_hit key t0) rfl).1 _ _ (by omega) (by omega) (by omega) (by omega) (by omega)]
        unfold mf_hit; rw [z_up_ne (by omega), z_up_ne (by omega), z_up_ne (by omega)]; exact s0
      obtain ⟨o1, o2, o3, o4⟩ := hok.1
      have o4 : mf_give r key (t0 708 key) (t0 713 key) (mf_hit key t0) 722 r = t0 722 r := by
        rw [(mf_give_fr (r := r) (key := key) (v := t0 708 key) (u := t0 713 key) (t := mf_hit key t0) rfl).1 _ _ (by omega) (by omega) (by omega) (by omega) (by omega)]
        exact g22
      rcases o2 with ⟨w3, w4, w5⟩ | ⟨w3, -⟩
      · rw [show mf_set r (mf_give r key (t0 708 key) (t0 713 key) (mf_hit key t0)) = mf_go 30 r (mf_give r key (t0 708 key) (t0 713 key) (mf_hit key t0)) from if_pos h19] at h
        exact s_M_goesOn (d := d + 3) hr0 hr1 30 _ _ o1 w4 w5 (by have := w4.1; omega) (by omega) h
      · exact absurd h19 w3
end MAS
