/-! class and reference: settle, goesOn -/
theorem z_KC_jmp {b : Bool} {r : Int} {s t : z_M} (r0 : 0 ≤ r) (r1 : r < 5) (h : z_KC b r s t) (hx : z_MX t r) (hr : z_RR t r) : z_KC b r (z_up s (z_fA r (t 722 r - 1)) 6 (mf_jp t (t 725 (mf_top r t) / 101) 101 (t 726 (mf_top r t)) / 2)) (mf_jmp r t) ∧ z_fz b s (z_up s (z_fA r (t 722 r - 1)) 6 (mf_jp t (t 725 (mf_top r t) / 101) 101 (t 726 (mf_top r t)) / 2)) := by
  have hb := hr.1
  have hru := z_ru_rng r0 r1
  have hft : mf_top r t = 30 * r + (t 722 r - 1) := by unfold mf_top; omega
  have hfr := hr.2.2.2
  rw [show 30 * r + t 722 r - 1 = mf_top r t from rfl] at hfr
  have hFF := h.2.1.2.2 (t 722 r - 1) (by omega) (by omega)
  rw [← hft] at hFF
  obtain ⟨q1, -⟩ := z_FR_sz hx.1 hfr
  obtain ⟨⟨⟨k0, k1⟩, -⟩, -⟩ := hfr
  obtain ⟨R0, R1⟩ := z_kr k0 k1
  have hje := (mf_jp_end (hx.1.2 _ R0 R1) 101 _ q1.1 q1.2.1 q1.2.2.2.2 (by omega)).1
  have hj : mf_jmp r t 726 (mf_top r t) = mf_jp t (t 725 (mf_top r t) / 101) 101 (t 726 (mf_top r t)) := z_up_eq
  generalize mf_jp t (t 725 (mf_top r t) / 101) 101 (t 726 (mf_top r t)) = p at *
  have m : ∀ a i, ¬ (a = 726 ∧ i = mf_top r t) → mf_jmp r t a i = t a i := fun a i x => mf_jmp_ne (by omega)
  have hFb : z_ru r + 2 ≤ z_fA r (t 722 r - 1) ∧ z_fA r (t 722 r - 1) + 2 < z_ru r + 92 := by unfold z_fA; omega
  have u : ∀ a i, ¬ (a = z_fA r (t 722 r - 1) ∧ i = 6) → z_up s (z_fA r (t 722 r - 1)) 6 (p / 2) a i = s a i := fun a i x => z_up_ne (by omega)
  refine z_KC_top (i := t 722 r - 1) r0 r1 h (by omega) (by omega) (fun a j x y => u a j (by omega)) (by rw [u _ _ (by omega), m _ _ (by omega)]; exact h.2.1.1.2) (fun a i x1 x2 x3 x4 => m a i (by omega)) ?_
  rw [← hft]
  obtain ⟨⟨f1, f2, f3, f4, f5, f6⟩, ⟨b1, b2, b3⟩, c1, c2, c3⟩ := hFF
  unfold z_cF
  rw [z_up_eq, u _ 3 (by omega), u _ 5 (by omega), u _ 8 (by omega), u _ 9 (by omega), u _ 2 (by omega), u _ 4 (by omega), u _ 7 (by omega), hj, m 725 _ (by omega), m 727 _ (by omega), m 728 _ (by omega), m 729 _ (by omega), m 730 _ (by omega), m 732 _ (by omega)]
  exact ⟨⟨f1, f2, by omega, f4, f5, f6⟩, ⟨b1, b2, b3⟩, fun i i0 i1 => by rw [u _ _ (by omega), m _ _ (by omega)]; exact c1 i i0 i1, fun i i0 i1 => by rw [u _ _ (by omega), m _ _ (by omega)]; exact c2 i i0 i1, c3⟩
def mf_gs (n : Nat) (r : Int) (t : z_M) : z_M := if t 719 r = 1 then mf_go n r t else t
/-- a text that a runner's top frame reads, in the class -/
theorem z_cX_of {b : Bool} {r R : Int} {s t : z_M} (h : z_cE b r s t) (R0 : 0 ≤ R) (R1 : R < 12) : z_cX s t R := by
  cases b
  · exact (h.2.1 rfl).1.1.2 R R0 R1
  · exact (h.2.2 rfl).2.1.2 R R0 R1
section SL
variable {e : z_E} {d : Nat} {c : z_M} {Q : Int → z_M → Prop}
/-- a value is given, in class and reference -/
theorem s_U_gives {b : Bool} {r key v u w : Int} {s t : z_M} (r0 : 0 ≤ r) (r1 : r < 5) (h : z_K0 b r s t) (hx : z_MX t r) (hp : z_RP t r key) (h19 : t 719 r = 1) (hu : b = false → u = w) (hq : ∀ s', z_KC b r s' (mf_gt r key v w t) → z_fz b s s' → Q 0 (z_gl s' c)) : z_C e (d + 3) m_U_give [z_R (z_ru r), z_I key, z_I v, z_I u] (z_gl s c) Q := by
  have hG := h.2
  have e3 := hG.1.1
  have hd := hG.2.1
  refine s_U_give (z_isU_ru r0 r1) (by omega) (by omega) (fun q => ?_) (fun q => ?_) (fun q hy => ?_) (fun q hy => ?_)
  · have hz : t 722 r = 0 := by omega
    obtain ⟨a1, a2⟩ := z_KC_done (v := v) r0 r1 h hz
    have hq := hq _ (by unfold mf_gt; rw [if_pos hz]; exact a1) a2
    exact hq
  all_goals
    have hz : ¬ t 722 r = 0 := by omega
    have h5 := hp.2.2.2.2 hz
    obtain ⟨v1, v2, v3, -⟩ := z_FP_sz hx.1 h5
    have hFF := hG.2.2 (t 722 r - 1) (by omega) (by omega)
    rw [show 30 * r + (t 722 r - 1) = 30 * r + t 722 r - 1 by omega] at hFF
    have hFd : z_ru r + 1 + 1 + 3 * (s (z_ru r) 3 - 1) = z_fA r (t 722 r - 1) := by unfold z_fA; rw [e3]
    obtain ⟨⟨f1, f2, f3, f4, f5, f6⟩, ⟨b1, b2, b3⟩, c1, c2, c3⟩ := id hFF
  · rw [hFd]
    exact ⟨z_isF_fA r0 r1 (by omega) (by omega), by omega, by omega⟩
  · rw [hFd] at hy ⊢
    obtain ⟨a1, a2⟩ := z_KC_give (v := v) r0 r1 h hz h19 hu (by show t 730 (30 * r + t 722 r - 1) < 25; omega) (by show t 732 (30 * r + t 722 r - 1) < 19; omega) (Or.inl ⟨hy, rfl⟩)
    exact hq _ (by unfold mf_gt; rw [if_neg hz]; exact a1) a2
  · rw [hFd] at hy ⊢
    obtain ⟨a1, a2⟩ := z_KC_give (v := v) r0 r1 h hz h19 hu (by show t 730 (30 * r + t 722 r - 1) < 25; omega) (by show t 732 (30 * r + t 722 r - 1) < 19; omega) (Or.inr ⟨hy, rfl⟩)
    exact hq _ (by unfold mf_gt; rw [if_neg hz]; exact a1) a2
theorem s_C_settle_loop {b : Bool} {r : Int} (r0 : 0 ≤ r) (r1 : r < 5) : ∀ (n : Nat) (i : Int) (s t : z_M), z_KC b r s t → z_MX t r → (t 719 r = 1 → z_RR t r ∧ z_HT t r ∧ t 722 r ≤ (n : Int)) → 0 ≤ i → i + (n : Int) ≤ 30 → (∀ s', z_KC b r s' (mf_gs n r t) → z_fz b s s' → Q 0 (z_gl s' c)) → z_T e (d + 6) m_C_settle 2 [some (z_R 0), some (z_R (z_ru r)), some (z_I i), none] (z_gl s c) Q
  | n, i, s, t, h, hx, hr, i0, i1, hq => by
    have hE := h.1
    have hG := h.2.1
    have hV := h.2.2
    have hru := z_ru_rng r0 r1
    have hU := z_isU_ru r0 r1
    obtain ⟨u1, u2, u3, u4, u5⟩ := id hU
    by_cases h1 : t 719 r = 1
    · obtain ⟨hrr, hs, hn⟩ := hr h1
      have hb := hrr.1
      obtain ⟨m, rfl⟩ : ∃ m, n = m + 1 := ⟨n - 1, by omega⟩
      have hft : mf_top r t = 30 * r + (t 722 r - 1) := by unfold mf_top; omega
      have hfr := hrr.2.2.2
      rw [show 30 * r + t 722 r - 1 = mf_top r t from rfl] at hfr
      have hFF := hG.2.2 (t 722 r - 1) (by omega) (by omega)
      rw [← hft] at hFF
      have hF := z_isF_fA (i := t 722 r - 1) r0 r1 (by omega) (by omega)
      have hFd : z_ru r + 1 + 1 + 3 * (s (z_ru r) 3 - 1) = z_fA r (t 722 r - 1) := by unfold z_fA; rw [hG.1.1]
      obtain ⟨q1, q2, q3, q4, q5, q6⟩ := z_FR_sz hx.1 hfr
      have hfr' := hfr
      obtain ⟨⟨⟨k0, k1⟩, -⟩, -⟩ := hfr
      obtain ⟨R0, R1⟩ := z_kr k0 k1
      obtain ⟨⟨f1, f2, f3, f4, f5, f6⟩, ⟨b1, b2, b3⟩, c1, c2, c3⟩ := hFF
      obtain ⟨g1, g2⟩ := z_KC_jmp r0 r1 h hx hrr
      obtain ⟨j1, j2, j3⟩ := mf_jmp_ok r0 r1 hx hrr
      have jt : mf_top r (mf_jmp r t) = mf_top r t := mf_jmp_top
      have j22 : mf_jmp r t 722 r = t 722 r := j3 _ _ (by omega)
      have j19 : mf_jmp r t 719 r = t 719 r := j3 _ _ (by omega)
      have j25 : mf_jmp r t 725 (mf_top r t) = t 725 (mf_top r t) := j3 _ _ (by omega)
      have j05 : mf_jmp r t 705 = t 705 := funext fun i => j3 _ _ (by omega)
      have hft2 : z_HT (mf_jmp r t) r := by unfold z_HT; rw [jt, j05, j25]; exact hs
      have hjv : mf_jmp r t 726 (mf_top r t) = mf_jp t (t 725 (mf_top r t) / 101) 101 (t 726 (mf_top r t)) := z_up_eq
      have hgs : mf_gs (m + 1) r t = if t 705 (t 725 (mf_top r t) / 101) ≤ mf_jmp r t 726 (mf_top r t) then (if t 722 r = 1 then mf_end r (mf_jmp r t) else mf_go m r (mf_end r (mf_jmp r t))) else mf_jmp r t := by
        unfold mf_gs; rw [if_pos h1]; rfl
      rw [hgs] at hq
      refine b_C_settle_2 ⟨fun w => by omega, fun _ => ?_⟩
      simp (disch := omega) only [u1, z_ckT, z_gl_lo]
      rw [hV.1, h1]
      refine ⟨fun w => absurd rfl w, fun _ => s_U_top hU (by rw [hG.1.1]; omega) (fun w => by rw [hG.1.1] at w; omega) (fun _ => ?_)⟩
      rw [hFd]
      obtain ⟨x1, x2, x3, x4, x5⟩ := id hF
      refine ⟨fun w => by omega, fun _ => ?_⟩
      simp only [x1, z_ckT]
      refine s_F_isWorkedOut (d := d + 3) (R := t 725 (mf_top r t) / 101) (p := t 726 (mf_top r t)) hF R0 R1 f6 (z_cX_of hE R0 R1) (hx.1.2 _ R0 R1) f3 q1.1 q1.2.1 (fun w => absurd w hs) (fun _ => ?_)
      rw [← hjv] at g1 g2 ⊢
      generalize hs1 : z_up s (z_fA r (t 722 r - 1)) 6 (mf_jmp r t 726 (mf_top r t) / 2) = s1 at *
      have e1 : ∀ a i, ¬ (a = z_fA r (t 722 r - 1) ∧ i = 6) → s1 a i = s a i := fun a i x => by rw [← hs1, z_up_ne (by omega)]
      by_cases w : t 705 (t 725 (mf_top r t) / 101) ≤ mf_jmp r t 726 (mf_top r t)
      · rw [if_pos w]
        rw [if_pos w] at hq
        have hff : mf_fin r (mf_jmp r t) := by unfold mf_fin; rw [jt, j05, j25]; exact w
        refine ⟨fun _ => ?_, fun z => by omega⟩
        have e3 : s1 (z_ru r) 3 = t 722 r := by rw [e1 _ _ (by unfold z_fA; omega)]; exact hG.1.1
        rw [z_gl_lo (by omega), e3, z_wr_id (by omega) (by omega), z_gl_ul (by omega)]
        have hkeep := s_C_keep (e := e) (d := d) (c := c) (Q := fun _ σ3 => z_T e (d + 6) m_C_settle 93 [some (z_R 0), some (z_R (z_ru r)), some (z_I i), some (z_R (z_fA r (t 722 r - 1)))] σ3 Q) r0 r1 g1 j1 j2 hft2 hff
        rw [j22] at hkeep
        simp only [u1, x1, z_ckT] at hkeep ⊢
        refine hkeep (fun s3 w1 w2 w3 w4 => ?_)
        have hj2 := j2.2.2.2
        rw [show 30 * r + mf_jmp r t 722 r - 1 = mf_top r t by rw [j22]; rfl] at hj2
        obtain ⟨y1, y2, y3, y4, y5, y6⟩ := z_FR_sz j1.1 hj2
        rw [j05, j25] at y6
        have y6 := y6 hs w
        have hFF1 := g1.2.1.2.2 (t 722 r - 1) (by omega) (by rw [j22]; omega)
        rw [← hft] at hFF1
        obtain ⟨⟨f1', f2', f3', f4', f5', f6'⟩, ⟨b1', b2', b3'⟩, c1', c2', c3'⟩ := hFF1
        have hval : s3 (z_fA r (t 722 r - 1) + 2) (s3 (z_fA r (t 722 r - 1)) 9 - 1) = mf_val (mf_top r t) (mf_jmp r t) := by
          rw [w4, w3, f5', y6, show (1 : Int) - 1 = 0 from rfl, c2' 0 (by omega) (by omega)]
          unfold mf_val; rw [y6]; congr 1; omega
        refine b_C_settle_93 ?_
        simp only [u1, x1, z_ckT]
        refine s_F_value (d := d + 5) hF (by rw [w3, f5']; omega) (by rw [w3, f5']; omega) ?_
        rw [hval, z_gl_lo (by omega), z_gl_lo (by omega), w3, w3, f1']
        obtain ⟨p1, p2, ⟨pn, pa, p3⟩, p4, p5, p6, p7⟩ := mf_pop_ok r0 r1 j1 j2 hft2 hff
        have hend : mf_end r (mf_jmp r t) = mf_gt r (mf_jmp r t 725 (mf_top r t)) (mf_val (mf_top r t) (mf_jmp r t)) (mf_jmp r t 729 (mf_top r t)) (mf_pop r (mf_jmp r t)) := by unfold mf_end; rw [jt]
        rw [jt] at p2
        refine s_U_gives (d := d + 3) (w := mf_jmp r t 729 (mf_top r t)) r0 r1 w1 p1 p2 (by rw [p7, j19]; exact h1) (fun hb => (c3' hb).2) (fun s5 v1 v2 => ?_)
        rw [← hend] at v1
        rw [z_wr_id (by omega) (by omega)]
        refine s_C_settle_loop r0 r1 m (i + 1) s5 _ v1 ?_ (fun v3 => ?_) (by omega) (by omega) (fun s' v4 v5 => ?_)
        · by_cases hd : mf_jmp r t 722 r = 1
          · rw [mf_end_last hd]; exact mf_done_ok r0 p1
          · exact (mf_end_ok r0 r1 j1 j2 hft2 hff hd).1
        · by_cases hd : mf_jmp r t 722 r = 1
          · rw [mf_end_last hd, z_up_ne (by omega), z_up_eq] at v3; omega
          · obtain ⟨o1, o2, o3, o4, -⟩ := mf_end_ok r0 r1 j1 j2 hft2 hff hd
            exact ⟨o2, o3, by omega⟩
        · refine hq s' ?_ (z_fz_tr g2 (z_fz_tr w2 (z_fz_tr v2 v5)))
          by_cases hd : t 722 r = 1
          · rw [if_pos hd]
            have hd' : mf_jmp r t 722 r = 1 := by rw [j22]; exact hd
            have h3 : mf_end r (mf_jmp r t) 719 r = 3 := by rw [mf_end_last hd', z_up_ne (by omega), z_up_eq]
            rw [show mf_gs m r (mf_end r (mf_jmp r t)) = mf_end r (mf_jmp r t) by unfold mf_gs; rw [if_neg (by omega)]] at v4
            exact v4
          · rw [if_neg hd]
            have hd' : ¬ mf_jmp r t 722 r = 1 := by rw [j22]; exact hd
            have h3 := (mf_end_ok r0 r1 j1 j2 hft2 hff hd').2.2.2.2.2.2
            rw [show mf_gs m r (mf_end r (mf_jmp r t)) = mf_go m r (mf_end r (mf_jmp r t)) by unfold mf_gs; rw [if_pos (by omega)]] at v4
            exact v4
      · rw [if_neg w]
        rw [if_neg w] at hq
        exact ⟨fun z => absurd rfl z, fun _ => hq s1 g1 g2⟩
    · have hgs : mf_gs n r t = t := by unfold mf_gs; rw [if_neg h1]
      rw [hgs] at hq
      have hq := hq s h z_fz_rf
      refine b_C_settle_2 ⟨fun _ => hq, fun _ => ?_⟩
      simp (disch := omega) only [u1, z_ckT, z_gl_lo]
      rw [hV.1]
      exact ⟨fun _ => hq, fun w => absurd w h1⟩
termination_by n => n
theorem s_C_settle {b : Bool} {r : Int} {s t : z_M} (r0 : 0 ≤ r) (r1 : r < 5) (h : z_KC b r s t) (hx : z_MX t r) (hr : t 719 r = 1 → z_RR t r ∧ z_HT t r) (hq : ∀ s', z_KC b r s' (mf_set r t) → z_fz b s s' → Q 0 (z_gl s' c)) : z_C e (d + 7) m_C_settle [z_R 0, z_R (z_ru r)] (z_gl s c) Q :=
  b_C_settle_0 (s_C_settle_loop r0 r1 30 0 s t h hx (fun w => ⟨(hr w).1, (hr w).2, (hr w).1.1.2⟩) (by omega) (by omega) hq)
end SL
