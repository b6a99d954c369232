/-! the reference: goesOn -/
theorem z_up_up {σ : z_M} {a i v w : Int} : z_up (z_up σ a i v) a i w = z_up σ a i w := by
  funext b j
  unfold z_up
  by_cases h : b = a ∧ j = i
  · rw [if_pos h, if_pos h]
  · rw [if_neg h, if_neg h, if_neg h]
theorem z_up_self {σ : z_M} {a i : Int} : z_up σ a i (σ a i) = σ := by
  funext b j
  unfold z_up
  by_cases h : b = a ∧ j = i
  · rw [if_pos h, h.1, h.2]
  · rw [if_neg h]
def mf_go : Nat → Int → z_M → z_M
  | 0, _, t => t
  | n + 1, r, t => if t 705 (t 725 (mf_top r t) / 101) ≤ mf_jmp r t 726 (mf_top r t) then (if t 722 r = 1 then mf_end r (mf_jmp r t) else mf_go n r (mf_end r (mf_jmp r t))) else mf_jmp r t
theorem mf_jmp_top {r : Int} {t : z_M} : mf_top r (mf_jmp r t) = mf_top r t := by
  show 30 * r + mf_jmp r t 722 r - 1 = 30 * r + t 722 r - 1
  rw [mf_jmp_ne (Or.inl (by omega))]
theorem mf_pop_22 {r : Int} {t : z_M} : mf_pop r t 722 r = t 722 r - 1 := z_up_eq
theorem mf_end_last {r : Int} {t : z_M} (h : t 722 r = 1) : mf_end r t = z_up (z_up (mf_pop r t) 719 r 3) 720 r (mf_val (mf_top r t) t) := by
  unfold mf_end mf_gt
  rw [if_pos (by rw [mf_pop_22, h]; rfl)]
theorem mf_end_more {r : Int} {t : z_M} (h : ¬ t 722 r = 1) : mf_end r t = mf_give r (t 725 (mf_top r t)) (mf_val (mf_top r t) t) (t 729 (mf_top r t)) (mf_pop r t) := by
  unfold mf_end mf_gt
  rw [if_neg (by rw [mf_pop_22]; omega)]
/-- a frame with a text -/
def z_HT (t : z_M) (r : Int) : Prop := ¬ t 705 (t 725 (mf_top r t) / 101) = 0
theorem z_FP_text {t : z_M} {f key : Int} (hT : z_TT t) (h : z_FP t f key) : ¬ t 705 (t 725 f / 101) = 0 := by
  have := (z_FP_sz hT h).1
  omega
theorem mf_end_ok {r : Int} {t : z_M} (hr0 : 0 ≤ r) (hr1 : r < 5) (hx : z_MX t r) (h : z_RR t r) (hs : z_HT t r) (hf : mf_fin r t) (hd : ¬ t 722 r = 1) : z_MX (mf_end r t) r ∧ z_RR (mf_end r t) r ∧ z_HT (mf_end r t) r ∧ mf_end r t 722 r = t 722 r - 1 ∧ (t 701 21 ≤ mf_end r t 701 21 ∧ mf_end r t 701 21 ≤ t 701 21 + 1) ∧ mf_end r t 721 r = t 721 r ∧ mf_end r t 719 r = t 719 r := by
  obtain ⟨p1, p2, ⟨n, a, p3⟩, p4, p5, p6, p7⟩ := mf_pop_ok hr0 hr1 hx h hs hf
  have hb := h.1
  have hd0 : ¬ mf_pop r t 722 r = 0 := by omega
  obtain ⟨q1, q2, q3⟩ := mf_give_ok hr0 hr1 p1 p2 hd0 ⟨n, a, p3⟩
  rw [mf_end_more hd]
  refine ⟨q1, q2, ?_, by rw [q3 _ _ (by omega)]; exact p4, by rw [q3 _ _ (by omega)]; exact p5, by rw [q3 _ _ (by omega)]; exact p6, by rw [q3 _ _ (by omega)]; exact p7⟩
  have h5 := p2.2.2.2.2 hd0
  have := z_FP_text p1.1 h5
  have hh : ∀ g : z_M, (∀ a i, ¬ (729 ≤ a ∧ a ≤ 733) → g a i = mf_pop r t a i) → z_HT g r := fun g hg => by
    unfold z_HT mf_top
    rw [hg 722 r (by omega), hg 725 _ (by omega), hg 705 _ (by omega)]
    exact this
  exact hh _ q3
section MGO
variable {e : z_E} {d : Nat} {c : z_M} {Q : Int → z_M → Prop}
theorem s_M_go_loop {t : z_M} {r f k R : Int} (hf0 : 0 ≤ f) (hf1 : f < 150) (hk : t 725 f = k) (hk0 : 0 ≤ k) (hk1 : k < 1212) (hR : k / 101 = R) (hT : z_TI t R) : ∀ (m : Nat) (p : Int), 0 ≤ p → p ≤ t 705 R → p % 2 = 0 → t 705 R - p ≤ 2 * (m : Int) →
    z_T e (d + 1) m_M_goesOn 85 [some (z_R 701), some (z_I r), some (z_I f), none, none, none, none] (z_gl c (z_up t 726 f (mf_jp t R m p))) Q → z_T e (d + 1) m_M_goesOn 20 [some (z_R 701), some (z_I r), some (z_I f), some (z_I (400 * R)), none, none, none] (z_gl c (z_up t 726 f p)) Q
  | 0, p, h0, h1, h2, h3, h => by
    refine b_M_goesOn_20 ⟨⟨hf0, hf1⟩, ⟨hf0, hf1⟩, ?_⟩
    simp (disch := omega) only [z_gl_hi, z_up_ne, z_up_eq, hk]
    refine s_M_ruleOf hk0 hk1 ⟨by omega, ?_⟩
    rw [hR]
    simp (disch := omega) only [z_gl_hi, z_up_ne, z_up_eq, hk]
    unfold mf_jp at h
    exact ⟨fun _ => h, fun w => by omega⟩
  | m + 1, p, h0, h1, h2, h3, h => by
    obtain ⟨t1, t2, t3, t4⟩ := hT
    refine b_M_goesOn_20 ⟨⟨hf0, hf1⟩, ⟨hf0, hf1⟩, ?_⟩
    simp (disch := omega) only [z_gl_hi, z_up_ne, z_up_eq, hk]
    refine s_M_ruleOf hk0 hk1 ⟨by omega, ?_⟩
    rw [hR]
    simp (disch := omega) only [z_gl_hi, z_gl_up, z_up_ne, z_up_eq, z_wr_id, z_up_up, hk]
    unfold mf_jp at h
    refine ⟨fun w => ?_, fun w => ⟨⟨hf0, hf1⟩, by omega, fun w2 => ?_, fun w2 => ⟨⟨hf0, hf1⟩, by omega, ⟨hf0, hf1⟩, ?_⟩⟩⟩
    · rw [if_neg (by omega)] at h; exact h
    · rw [if_neg (fun q => w2 q.2)] at h; exact h
    · rw [if_pos ⟨w, w2⟩] at h
      obtain ⟨-, -, D, hD⟩ := t4 (by omega)
      have hTO := hD.2.2.2 p h0 w h2
      rw [w2] at hTO
      unfold z_TO at hTO
      exact s_M_go_loop hf0 hf1 hk hk0 hk1 hR ⟨t1, t2, t3, t4⟩ m _ (by omega) (by omega) (by omega) (by omega) h
theorem s_M_goesOn {r : Int} (hr0 : 0 ≤ r) (hr1 : r < 5) : ∀ (n : Nat) (d : Nat) (t : z_M) (Q : Int → z_M → Prop), z_MX t r → z_RR t r → z_HT t r → t 722 r ≤ (n : Int) → t 701 21 + t 722 r < 100000000 → Q 0 (z_gl c (mf_go n r t)) → z_C e (d + 2 * n + 5) m_M_goesOn [z_R 701, z_I r] (z_gl c t) Q
  | 0, d, t, Q, hx, hr, hs, hn, hc, h => by have := hr.1; omega
  | n + 1, d, t, Q, hx, hr, hs, hn, hc, h => by
    have hd := hr.1
    have ht : mf_top r t = 30 * r + t 722 r - 1 := rfl
    have hfr := hr.2.2.2
    rw [← ht] at hfr
    obtain ⟨s1, -⟩ := z_FR_sz hx.1 hfr
    obtain ⟨⟨⟨k0, k1⟩, -⟩, -⟩ := hfr
    obtain ⟨R0, R1⟩ := z_kr k0 k1
    have hTI := hx.1.2 _ R0 R1
    have f0 : 0 ≤ mf_top r t := by omega
    have f1 : mf_top r t < 150 := by omega
    refine b_M_goesOn_0 (d := d + 2 * n + 6) (s_M_top hr0 hr1 (by omega) (by omega) ⟨⟨f0, f1⟩, ?_⟩)
    rw [z_gl_hi (by omega)]
    refine s_M_ruleOf (d := d + 2 * n + 5) k0 k1 ?_
    rw [z_wr_id (by omega) (by omega)]
    obtain ⟨j1, j2, j3⟩ := mf_jmp_ok hr0 hr1 hx hr
    have hl := s_M_go_loop (e := e) (d := d + 2 * n + 5) (c := c) (Q := Q) (t := t) (r := r) f0 f1 rfl k0 k1 rfl hTI 101 (t 726 (mf_top r t)) s1.1 s1.2.1 s1.2.2.2.2 (by omega)
    rw [z_up_self] at hl
    refine hl ?_
    show z_T e (d + 2 * n + 6) m_M_goesOn 85 _ (z_gl c (mf_jmp r t)) Q
    have jt : mf_top r (mf_jmp r t) = mf_top r t := mf_jmp_top
    have j22 : mf_jmp r t 722 r = t 722 r := j3 _ _ (by omega)
    have j25 : mf_jmp r t 725 (mf_top r t) = t 725 (mf_top r t) := j3 _ _ (by omega)
    have j05 : mf_jmp r t 705 = t 705 := funext fun i => j3 _ _ (by omega)
    have jfr := j2.2.2.2
    rw [show 30 * r + mf_jmp r t 722 r - 1 = mf_top r t by rw [j22]; rfl] at jfr
    obtain ⟨u1, u2, u3, u4, u5, u6⟩ := z_FR_sz j1.1 jfr
    rw [j05, j25] at u6
    unfold mf_go at h
    refine b_M_goesOn_85 ⟨⟨f0, f1⟩, ⟨f0, f1⟩, ?_⟩
    simp (disch := omega) only [z_gl_hi, j25]
    refine s_M_ruleOf (d := d + 2 * n + 5) k0 k1 ⟨by omega, ?_⟩
    simp (disch := omega) only [z_gl_hi, j05, j25]
    refine ⟨fun w => ⟨⟨f0, f1⟩, ?_⟩, fun w => ?_⟩
    · rw [if_pos w] at h
      have u6 := u6 hs w
      have hft : z_HT (mf_jmp r t) r := by unfold z_HT; rw [jt, j05, j25]; exact hs
      have hff : mf_fin r (mf_jmp r t) := by unfold mf_fin; rw [jt, j05, j25]; exact w
      have e1 : ∀ a i, ¬ (a = 732 ∧ i = mf_top r t) → mf_taken (mf_top r t) (mf_jmp r t) a i = mf_jmp r t a i := fun a i ha => z_up_ne (by omega)
      have hv := u4 0 (by omega) (by omega)
      have hval : mf_val (mf_top r t) (mf_jmp r t) = mf_jmp r t 733 (64 * mf_top r t + 0) := by unfold mf_val; rw [u6]; congr 1; omega
      refine s_M_taken (d := d + 2 * n + 5) f0 f1 (by omega) (by omega) ⟨⟨f0, f1⟩, ?_⟩
      refine s_M_keeps (d := d + 2 * n + 2) hr0 hr1 f0 f1 (by rw [e1 _ _ (by omega), j25]; exact k0) (by rw [e1 _ _ (by omega), j25]; exact k1) (by rw [e1 _ _ (by omega)]; exact jfr.1.2.2) (by rw [e1 _ _ (by omega)]; exact u3) ?_ ?_ ?_ (by rw [e1 _ _ (by omega)]; have := j1.2.2.1; omega) (by rw [e1 _ _ (by omega)]; exact j1.2.2.2.1) (by rw [e1 _ _ (by omega), j3 _ _ (by omega)]; omega) ?_
      · show -9999 ≤ mf_val (mf_top r t) (mf_jmp r t); rw [hval]; exact hv.1
      · show mf_val (mf_top r t) (mf_jmp r t) ≤ 9999; rw [hval]; exact hv.2
      · exact z_sumx_congr j1.2.1 (fun k => e1 _ _ (by omega)) (fun k => e1 _ _ (by omega)) (e1 _ _ (by omega)) (e1 _ _ (by omega)) (e1 _ _ (by omega))
      refine ⟨⟨hr0, hr1⟩, ⟨hr0, hr1⟩, ?_⟩
      obtain ⟨p1, p2, p3, p4, p5, p6, p7⟩ := mf_pop_ok hr0 hr1 j1 j2 hft hff
      have hpop : z_up (mf_keeps r (mf_top r t) (mf_val (mf_top r t) (mf_jmp r t)) (mf_taken (mf_top r t) (mf_jmp r t))) 722 r (z_wr (mf_keeps r (mf_top r t) (mf_val (mf_top r t) (mf_jmp r t)) (mf_taken (mf_top r t) (mf_jmp r t)) 722 r - 1)) = mf_pop r (mf_jmp r t) := by
        unfold mf_pop
        rw [jt, mf_keeps_ne (by omega) (by omega) (by omega), e1 _ _ (by omega), z_wr_id (by omega) (by omega)]
      rw [z_gl_up (by omega), z_gl_hi (by omega), e1 729 _ (by omega), z_gl_hi (by omega)]
      show z_C e (d + 2 * n + 6) m_M_gets [z_R 701, z_I r, _, z_I (mf_val (mf_top r t) (mf_jmp r t)), _] _ _
      rw [show z_up (mf_keeps r (mf_top r t) (mf_jmp r t 733 (64 * mf_top r t + mf_jmp r t 732 (mf_top r t) - 1)) (mf_taken (mf_top r t) (mf_jmp r t))) 722 r (z_wr (mf_keeps r (mf_top r t) (mf_jmp r t 733 (64 * mf_top r t + mf_jmp r t 732 (mf_top r t) - 1)) (mf_taken (mf_top r t) (mf_jmp r t)) 722 r - 1)) = mf_pop r (mf_jmp r t) from hpop]
      rw [j22] at p4
      refine s_M_gets (d := d + 2 * n + 4) hr0 hr1 (by omega) (by omega) (fun q => ?_) (fun q => ?_) (fun q => ?_)
      · have p8 := p2.2.2.2.2 q
        obtain ⟨v1, v2, v3, -⟩ := z_FP_sz p1.1 p8
        have v4 := p8.1
        show 0 ≤ mf_pop r (mf_jmp r t) 730 (30 * r + mf_pop r (mf_jmp r t) 722 r - 1) ∧ _ ∧ 0 ≤ mf_pop r (mf_jmp r t) 732 (30 * r + mf_pop r (mf_jmp r t) 722 r - 1) ∧ _
        exact ⟨v4.2.2, by show mf_pop r (mf_jmp r t) 730 (30 * r + mf_pop r (mf_jmp r t) 722 r - 1) < 32; omega, v4.2.1, by show mf_pop r (mf_jmp r t) 732 (30 * r + mf_pop r (mf_jmp r t) 722 r - 1) < 64; omega⟩
      · have hd1 : t 722 r = 1 := by omega
        rw [if_pos hd1, mf_end_last (by rw [j22]; exact hd1), jt] at h
        exact h
      · have hd1 : ¬ t 722 r = 1 := by omega
        have hd2 : ¬ mf_jmp r t 722 r = 1 := by rw [j22]; exact hd1
        rw [if_neg hd1] at h
        obtain ⟨m1, m2, m3, m4, m5, m6, m7⟩ := mf_end_ok hr0 hr1 j1 j2 hft hff hd2
        have he := mf_end_more (r := r) hd2
        rw [jt, j25] at he
        rw [← he]
        refine s_M_goesOn hr0 hr1 n d _ _ m1 m2 m3 (by omega) ?_ h
        have j21 : mf_jmp r t 701 21 = t 701 21 := j3 _ _ (by omega)
        omega
    · rw [if_neg (by omega)] at h
      exact h
end MGO
