/-! the reference: stepsOnce -/
theorem z_mul_rng {a b : Int} (ha : -9999 ≤ a ∧ a ≤ 9999) (hb : -9999 ≤ b ∧ b ≤ 9999) : -99980001 ≤ a * b ∧ a * b ≤ 99980001 := by
  have h1 : a.natAbs ≤ 9999 := by omega
  have h2 : b.natAbs ≤ 9999 := by omega
  have h3 := Nat.mul_le_mul h1 h2
  rw [← Int.natAbs_mul] at h3
  omega
theorem z_tdiv_rng {a b : Int} (ha : -9999 ≤ a ∧ a ≤ 9999) : -9999 ≤ Int.tdiv a b ∧ Int.tdiv a b ≤ 9999 := by
  have h1 : (Int.tdiv a b).natAbs ≤ a.natAbs := by
    rw [Int.natAbs_tdiv]; exact Nat.div_le_self _ _
  omega
theorem z_lcmp_lt {a b : Int} : z_lcmp a b < 0 ↔ a < b := by unfold z_lcmp; split <;> (try split) <;> omega
theorem z_lcmp_eq {a b : Int} : z_lcmp a b = 0 ↔ a = b := by unfold z_lcmp; split <;> (try split) <;> omega
section MWS
variable {e : z_E} {d : Nat} {c σ : z_M} {Q : Int → z_M → Prop}
theorem s_M_joined {op l r : Int} (hl : -9999 ≤ l ∧ l ≤ 9999) (hr : -9999 ≤ r ∧ r ≤ 9999) (h8 : op = 8 → ¬ r = 0) (h : Q (z_jn op l r) σ) : z_C e (d + 1) m_M_joined [z_I op, z_J l, z_J r] σ Q := by
  have hm := z_mul_rng hl hr
  have hd := z_tdiv_rng (b := r) hl
  unfold z_jn at h
  refine b_M_joined_0 ⟨fun q => ?_, fun q5 => ⟨fun q => ?_, fun q6 => ⟨fun q => ?_, fun q7 => ⟨fun q => ⟨h8 q, ?_⟩, fun q8 => ⟨fun q => ⟨fun q2 => ?_, fun q2 => ?_⟩, fun q9 => ⟨fun q2 => ?_, fun q2 => ?_⟩⟩⟩⟩⟩⟩
  · rw [if_pos q] at h; rw [z_wl_id (by omega) (by omega)]; exact h
  · rw [if_neg q5, if_pos q] at h; rw [z_wl_id (by omega) (by omega)]; exact h
  · rw [if_neg q5, if_neg q6, if_pos q] at h; rw [z_wl_id (by omega) (by omega)]; exact h
  · rw [if_neg q5, if_neg q6, if_neg q7, if_pos q] at h; rw [z_wl_id (by omega) (by omega)]; exact h
  · rw [if_neg q5, if_neg q6, if_neg q7, if_neg q8, if_pos q, if_neg (fun z => by have := z_lcmp_lt.mpr z; omega)] at h; exact h
  · rw [if_neg q5, if_neg q6, if_neg q7, if_neg q8, if_pos q, if_pos (z_lcmp_lt.mp q2)] at h; exact h
  · rw [if_neg q5, if_neg q6, if_neg q7, if_neg q8, if_neg q9, if_neg (fun z => q2 (z_lcmp_eq.mpr z))] at h; exact h
  · rw [if_neg q5, if_neg q6, if_neg q7, if_neg q8, if_neg q9, if_pos (z_lcmp_eq.mp q2)] at h; exact h
/-- the value of a node comes -/
theorem s_M_res {t : z_M} {r f v : Int} (hr0 : 0 ≤ r) (hr1 : r < 5) (hf0 : 0 ≤ f) (hf1 : f < 150) (h32 : 0 ≤ t 732 f ∧ t 732 f < 64) (hv0 : -100000000 ≤ v ∧ v ≤ 100000000)
    (hgo : -9999 ≤ v ∧ v ≤ 9999 → z_MX (mf_holds f v t) r ∧ z_RR (mf_holds f v t) r ∧ z_HT (mf_holds f v t) r ∧ mf_holds f v t 719 r = 1 ∧ mf_holds f v t 701 21 + mf_holds f v t 722 r < 100000000)
    (h : Q 0 (z_gl c (mf_set r (mf_res r f v t)))) : z_T e (d + 70) m_M_stepsOnce 318 [some (z_R 701), some (z_I r), some (z_I f), none, none, some (z_J v), none, none, none] (z_gl c t) Q := by
  unfold mf_res at h
  refine b_M_stepsOnce_318 (s_M_in (d := d + 69) (fun q1 q2 => ⟨fun _ => ?_, fun z => by omega⟩) (fun q => ⟨fun z => absurd rfl z, fun _ => ?_⟩))
  · rw [z_wr_id (by omega) (by omega)]
    rw [if_pos ⟨q1, q2⟩] at h
    obtain ⟨g1, g2, g3, g4, g5⟩ := hgo ⟨q1, q2⟩
    refine s_M_holds (d := d + 69) hf0 hf1 h32.1 h32.2 ?_
    rw [show mf_set r (mf_holds f v t) = mf_go 30 r (mf_holds f v t) from if_pos g4] at h
    exact s_M_goesOn (d := d + 5) hr0 hr1 30 _ _ g1 g2 g3 (by have := g2.1; omega) g5 h
  · rw [if_neg q, mf_set_fails] at h
    exact s_M_fails (d := d + 69) hr0 hr1 (by omega) (by omega) h
theorem s_M_stepsOnce {r : Int} {t : z_M} (hr0 : 0 ≤ r) (hr1 : r < 5) (hx : z_MX t r) (hr : z_RR t r) (hs : z_HT t r) (hse : z_SE t r) (h19 : t 719 r = 1) (hd30 : ∀ q, 0 ≤ q → q < 4 → t 722 q ≤ 30) (hc : t 701 21 + t 722 r < 99999999) (h : Q 0 (z_gl c (mf_set r (mf_st r t)))) : z_C e (d + 72) m_M_stepsOnce [z_R 701, z_I r] (z_gl c t) Q := by
  obtain ⟨D, ⟨k1, k2⟩, k3, k4, k5, k6, ⟨k7, k8, k9, k10, k11⟩, k12⟩ := z_NK_of hx hr hs hse
  have hok := mf_st_ok hx hr hr0 hr1 hs hse h19
  obtain ⟨a1, a2, a3⟩ := mf_adv_at (r := r) (t := t)
  have n1 := mf_adv_nd (r := r) (t := t)
  have n2 := z_nd_taken n1
  have n3 := z_nd_taken n2
  have hb := hr.1
  have hb2 := hr.2.1
  have ht : mf_top r t = 30 * r + t 722 r - 1 := rfl
  obtain ⟨R0, R1⟩ := z_kr k6.1 k6.2
  have f0 : 0 ≤ mf_top r t := by omega
  have f1 : mf_top r t < 150 := by omega
  unfold mf_st at h hok
  refine b_M_stepsOnce_0 (d := d + 71) ⟨⟨hr0, hr1⟩, fun h2 => ⟨⟨hr0, hr1⟩, ⟨hr0, hr1⟩, ?_⟩, fun h2 => ?_⟩
  rotate_left
  · rw [z_gl_hi (by omega)] at h2
    rw [if_pos h2, mf_set_fails] at h
    exact s_M_fails (d := d + 70) hr0 hr1 (by omega) (by omega) h
  rw [z_gl_hi (by omega)] at h2
  rw [if_neg h2] at h hok
  rw [z_gl_hi (by omega), z_wr_id (by omega) (by omega), z_gl_up (by omega)]
  have hT1 : mf_top r (z_up t 721 r (t 721 r + 1)) = mf_top r t := by unfold mf_top; rw [z_up_ne (by omega)]
  refine s_M_top (d := d + 70) hr0 hr1 (by rw [z_up_ne (by omega)]; omega) (by rw [z_up_ne (by omega)]; omega) ?_
  rw [hT1]
  refine ⟨⟨f0, f1⟩, ?_⟩
  have g25 : z_gl c (z_up t 721 r (t 721 r + 1)) 725 (mf_top r t) = t 725 (mf_top r t) := by rw [z_gl_hi (by omega), z_up_ne (by omega)]
  have g26 : z_gl c (z_up t 721 r (t 721 r + 1)) 726 (mf_top r t) = t 726 (mf_top r t) := by rw [z_gl_hi (by omega), z_up_ne (by omega)]
  rw [g25]
  refine s_M_ruleOf (d := d + 70) k6.1 k6.2 ?_
  have w1 : z_wr (400 * (t 725 (mf_top r t) / 101)) = 400 * (t 725 (mf_top r t) / 101) := z_wr_id (by omega) (by omega)
  have w2 : z_wr (400 * (t 725 (mf_top r t) / 101) + t 726 (mf_top r t)) = 400 * (t 725 (mf_top r t) / 101) + t 726 (mf_top r t) := z_wr_id (by omega) (by omega)
  have w3 : z_wr (400 * (t 725 (mf_top r t) / 101) + t 726 (mf_top r t) + 1) = 400 * (t 725 (mf_top r t) / 101) + t 726 (mf_top r t) + 1 := z_wr_id (by omega) (by omega)
  have w4 : z_wr (t 726 (mf_top r t) + 2) = t 726 (mf_top r t) + 2 := z_wr_id (by omega) (by omega)
  have g04 : z_gl c (z_up t 721 r (t 721 r + 1)) 704 (400 * (t 725 (mf_top r t) / 101) + t 726 (mf_top r t)) = mf_op r t := by rw [z_gl_hi (by omega), z_up_ne (by omega)]; rfl
  have hadv : z_up (z_gl c (z_up t 721 r (t 721 r + 1))) 726 (mf_top r t) (t 726 (mf_top r t) + 2) = z_gl c (mf_adv r t) := by rw [z_gl_up (by omega)]; rfl
  have har : ∀ x : z_M, z_nd t x r → z_gl c x 704 (400 * (t 725 (mf_top r t) / 101) + t 726 (mf_top r t) + 1) = mf_arg r t := fun x hx => by rw [z_gl_hi (by omega), hx _ _ (by omega) (by omega) (by omega)]; rfl
  rw [w1, g26, w2, w3, w4, g04, hadv]
  rw [har _ n1]
  have b25 : z_gl c (mf_adv r t) 725 (mf_top r t) = t 725 (mf_top r t) := by rw [z_gl_hi (by omega)]; exact a3 _ _ (by omega) (by omega)
  have b29 : z_gl c (mf_adv r t) 729 (mf_top r t) = t 729 (mf_top r t) := by rw [z_gl_hi (by omega)]; exact a3 _ _ (by omega) (by omega)
  have hv1 : mf_val (mf_top r t) (mf_adv r t) = mf_val (mf_top r t) t := by unfold mf_val; rw [a3 732 _ (by omega) (by omega), a3 733 _ (by omega) (by omega)]
  have e32 : mf_adv r t 732 (mf_top r t) = t 732 (mf_top r t) := a3 _ _ (by omega) (by omega)
  have e321 : mf_taken (mf_top r t) (mf_adv r t) 732 (mf_top r t) = t 732 (mf_top r t) - 1 := by rw [mf_taken_at, e32]
  have e322 : mf_taken (mf_top r t) (mf_taken (mf_top r t) (mf_adv r t)) 732 (mf_top r t) = t 732 (mf_top r t) - 2 := by rw [mf_taken_at, e321]; omega
  have hvr : 1 ≤ t 732 (mf_top r t) → -9999 ≤ mf_val (mf_top r t) t ∧ mf_val (mf_top r t) t ≤ 9999 := fun q => by
    have := k12 (t 732 (mf_top r t) - 1) (by omega) (by omega)
    unfold mf_val
    rw [show 64 * mf_top r t + t 732 (mf_top r t) - 1 = 64 * mf_top r t + (t 732 (mf_top r t) - 1) by omega]
    exact this
  -- what a good value leaves
  have hres : ∀ v tx, z_nd t tx r → z_RO t (mf_res r (mf_top r t) v tx) r ∧ z_S21 t (mf_res r (mf_top r t) v tx) r → -9999 ≤ v ∧ v ≤ 9999 → z_MX (mf_holds (mf_top r t) v tx) r ∧ z_RR (mf_holds (mf_top r t) v tx) r ∧ z_HT (mf_holds (mf_top r t) v tx) r ∧ mf_holds (mf_top r t) v tx 719 r = 1 ∧ mf_holds (mf_top r t) v tx 701 21 + mf_holds (mf_top r t) v tx 722 r < 100000000 := fun v tx n q hv => by
    have q := q.1
    unfold mf_res at q
    rw [if_pos hv] at q
    obtain ⟨q1, q2, q3, q4⟩ := q
    have h19' : mf_holds (mf_top r t) v tx 719 r = 1 := by unfold mf_holds; rw [z_up_ne (by omega), z_up_ne (by omega), n _ _ (by omega) (by omega) (by omega)]; exact h19
    rcases q2 with ⟨-, q5, q6⟩ | ⟨q5, -⟩
    · exact ⟨q1, q5, q6, h19', by omega⟩
    · exact absurd h19' q5
  unfold mf_st1 at h hok
  unfold z_TO at k5
  refine ⟨⟨f0, f1⟩, by omega, ⟨f0, f1⟩, ⟨f0, f1⟩, fun o4 => ?_, fun o4 => ?_⟩
  rotate_left
  · -- a call
    rw [if_pos o4] at h hok
    have hd1 : 1 ≤ t 732 (mf_top r t) := by omega
    refine s_M_taken (d := d + 70) f0 f1 (by omega) (by omega) (s_M_in (d := d + 70) (fun q1 q2 => ⟨fun z => by omega, fun _ => ?_⟩) (fun q => ⟨fun _ => ?_, fun z => absurd rfl z⟩))
    · have hvv : -50 ≤ mf_val (mf_top r t) (mf_adv r t) ∧ mf_val (mf_top r t) (mf_adv r t) ≤ 50 := ⟨q1, q2⟩
      rw [if_pos hvv] at h hok
      rw [har _ n2]
      refine ⟨by omega, s_M_keyOf (d := d + 70) (by omega) (by omega) q1 q2 ?_⟩
      have hp := z_nd_RP n2 hx hr hs hse (by rw [mf_taken_ne (by omega)]; exact a1) h2 o4 hv1.symm hvv (by rw [mf_taken_ne (by omega)]; exact a2) (by rw [mf_taken_ne (by omega)]; exact a3 _ _ (by omega) (by omega)) e321 (fun i => by rw [mf_taken_ne (by omega), a3 _ _ (by omega) (by omega)])
      exact s_M_asksFor (d := d + 1) hr0 hr1 (z_nd_MX n2 hx hr0 hr1 hb) hp (fun q q0 q1 => by rw [n2 _ _ (by omega) (by omega) (by omega)]; exact hd30 q q0 q1) (by rw [n2 _ _ (by omega) (by omega) (by omega), n2 _ _ (by omega) (by omega) (by omega)]; omega) h
    · rw [if_neg (show ¬ (-50 ≤ mf_val (mf_top r t) (mf_adv r t) ∧ mf_val (mf_top r t) (mf_adv r t) ≤ 50) from q), mf_set_fails] at h
      exact s_M_fails (d := d + 70) hr0 hr1 (by omega) (by omega) h
  rw [if_neg o4] at h hok
  refine ⟨fun o12 => ⟨by omega, fun o2 => ⟨fun o3 => ⟨fun o11 => ⟨fun o1 => ?_, fun o1 => ?_⟩, fun o11 => ?_⟩, fun o3 => ⟨⟨f0, f1⟩, by omega, ⟨f0, f1⟩, by omega, ?_⟩⟩, fun o2 => ⟨⟨f0, f1⟩, ?_⟩⟩, fun o12 => ?_⟩
  · rw [if_neg o12, if_neg o2, if_neg o3, if_neg o11, if_pos o1] at h hok
    exact s_M_res (d := d + 1) hr0 hr1 f0 f1 (by omega) (by omega) (hres _ _ n1 ⟨hok.1, hok.2.1⟩) h
  · rw [if_neg o12, if_neg o2, if_neg o3, if_neg o11, if_neg o1] at h hok
    have hd2 : 2 ≤ t 732 (mf_top r t) := by omega
    have hvl := k12 (t 732 (mf_top r t) - 2) (by omega) (by omega)
    have hv2 : mf_val (mf_top r t) (mf_taken (mf_top r t) (mf_adv r t)) = t 733 (64 * mf_top r t + (t 732 (mf_top r t) - 2)) := by
      unfold mf_val
      rw [e321, mf_taken_ne (by omega), a3 _ _ (by omega) (by omega)]
      congr 1; omega
    have hvr := hvr (by omega)
    rw [← hv1] at hvr
    rw [← hv2] at hvl
    refine s_M_taken (d := d + 70) f0 f1 (by omega) (by omega) (s_M_taken (d := d + 70) f0 f1 (by omega) (by omega) ?_)
    show (_ → z_T e _ m_M_stepsOnce 305 [some (z_R 701), some (z_I r), some (z_I (mf_top r t)), none, some (z_I (mf_op r t)), none, none, some (z_I (mf_val (mf_top r t) (mf_adv r t))), some (z_I (mf_val (mf_top r t) (mf_taken (mf_top r t) (mf_adv r t))))] _ Q) ∧ (_ → (¬ mf_val (mf_top r t) (mf_adv r t) = 0 → z_T e _ m_M_stepsOnce 305 [some (z_R 701), some (z_I r), some (z_I (mf_top r t)), none, some (z_I (mf_op r t)), none, none, some (z_I (mf_val (mf_top r t) (mf_adv r t))), some (z_I (mf_val (mf_top r t) (mf_taken (mf_top r t) (mf_adv r t))))] _ Q) ∧ (mf_val (mf_top r t) (mf_adv r t) = 0 → _))
    have hjr : -100000000 ≤ z_jn (mf_op r t) (mf_val (mf_top r t) (mf_taken (mf_top r t) (mf_adv r t))) (mf_val (mf_top r t) (mf_adv r t)) ∧ z_jn (mf_op r t) (mf_val (mf_top r t) (mf_taken (mf_top r t) (mf_adv r t))) (mf_val (mf_top r t) (mf_adv r t)) ≤ 100000000 := by
      have h1 := z_mul_rng hvl hvr
      have h2 := z_tdiv_rng (b := mf_val (mf_top r t) (mf_adv r t)) hvl
      unfold z_jn
      split
      · omega
      · split
        · omega
        · split
          · omega
          · split
            · omega
            · split
              · split <;> omega
              · split <;> omega
    refine ⟨fun o8 => ?_, fun o8 => ⟨fun q => ?_, fun q => ?_⟩⟩
    · rw [if_neg (fun z => o8 z.1)] at h hok
      exact b_M_stepsOnce_305 (s_M_joined (d := d + 70) hvl hvr (fun z => absurd z o8) (s_M_res (d := d + 1) hr0 hr1 f0 f1 (by omega) hjr (hres _ _ n3 ⟨hok.1, hok.2.1⟩) h))
    · rw [if_neg (fun z => q z.2)] at h hok
      exact b_M_stepsOnce_305 (s_M_joined (d := d + 70) hvl hvr (fun _ => q) (s_M_res (d := d + 1) hr0 hr1 f0 f1 (by omega) hjr (hres _ _ n3 ⟨hok.1, hok.2.1⟩) h))
    · rw [if_pos ⟨o8, q⟩, mf_set_fails] at h
      exact s_M_fails (d := d + 70) hr0 hr1 (by omega) (by omega) h
  · rw [if_neg o12, if_neg o2, if_neg o3, if_pos o11] at h hok
    have hd1 : 1 ≤ t 732 (mf_top r t) := by omega
    have hvr := hvr hd1
    rw [← hv1] at hvr
    refine s_M_taken (d := d + 70) f0 f1 (by omega) (by omega) ?_
    show z_T e _ m_M_stepsOnce 318 [some (z_R 701), some (z_I r), some (z_I (mf_top r t)), none, none, some (z_J (z_wr (-mf_val (mf_top r t) (mf_adv r t)))), none, none, none] _ Q
    rw [z_wr_id (by omega) (by omega)]
    exact s_M_res (d := d + 1) hr0 hr1 f0 f1 (by omega) (by omega) (hres _ _ n2 ⟨hok.1, hok.2.1⟩) h
  · rw [if_neg o12, if_neg o2, if_pos o3] at h hok
    have n4 : z_nd t (z_up (mf_adv r t) 729 (mf_top r t) (z_or (t 729 (mf_top r t)) (z_shl 1 (mf_arg r t)))) r := fun a i c1 c2 c3 => by rw [z_up_ne (by omega)]; exact n1 a i c1 c2 c3
    have hcl := hx.1.1 (mf_arg r t) (by omega) (by omega)
    rw [b29, z_gl_up (by omega), har _ n4, z_gl_hi (by omega), n4 702 _ (by omega) (by omega) (by omega)]
    exact ⟨by omega, s_M_res (d := d + 1) hr0 hr1 f0 f1 (by rw [z_up_ne (by omega)]; omega) (by omega) (hres _ _ n4 ⟨hok.1, hok.2.1⟩) h⟩
  · rw [if_neg o12, if_pos o2] at h hok
    rw [b25]
    exact s_M_argumentOf (d := d + 70) k6.1 k6.2 (s_M_res (d := d + 1) hr0 hr1 f0 f1 (by omega) (by omega) (hres _ _ n1 ⟨hok.1, hok.2.1⟩) h)
  · rw [if_pos o12] at h hok
    have hd1 : 1 ≤ t 732 (mf_top r t) := by omega
    obtain ⟨w5, w6, w7⟩ := hok.2.2 h2 o12
    have hset : mf_set r (z_up (mf_taken (mf_top r t) (mf_adv r t)) 726 (mf_top r t) (if mf_val (mf_top r t) (mf_adv r t) = 0 then mf_arg r t else t 726 (mf_top r t) + 2)) = z_up (mf_taken (mf_top r t) (mf_adv r t)) 726 (mf_top r t) (if mf_val (mf_top r t) (mf_adv r t) = 0 then mf_arg r t else t 726 (mf_top r t) + 2) := by
      unfold mf_set; rw [if_pos w6]; exact mf_go_id w7 w5
    rw [hset] at h
    refine s_M_taken (d := d + 70) f0 f1 (by omega) (by omega) ?_
    show (mf_val (mf_top r t) (mf_adv r t) = 0 → _) ∧ (¬ mf_val (mf_top r t) (mf_adv r t) = 0 → _)
    refine ⟨fun q => ⟨by omega, ⟨f0, f1⟩, ?_⟩, fun q => ⟨⟨f0, f1⟩, ⟨f0, f1⟩, ?_⟩⟩
    · rw [if_pos q] at h
      rw [har _ n2, z_gl_up (by omega)]
      exact h
    · rw [if_neg q] at h
      have : z_gl c (mf_taken (mf_top r t) (mf_adv r t)) 726 (mf_top r t) = t 726 (mf_top r t) + 2 := by rw [z_gl_hi (by omega), mf_taken_ne (by omega)]; exact a2
      rw [this, z_gl_up (by omega)]
      exact h
end MWS
