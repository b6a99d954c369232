/-! class and reference: frames end -/
theorem mf_pop_ne {r a i : Int} {t : z_M} (h : ¬ (707 ≤ a ∧ a ≤ 716)) (h2 : ¬ (a = 701 ∧ 21 ≤ i ∧ i ≤ 23)) (h3 : ¬ (a = 717 ∧ (i = 4 ∨ i = 5))) (h4 : ¬ (a = 732 ∧ i = mf_top r t)) (h5 : ¬ (a = 722 ∧ i = r)) : mf_pop r t a i = t a i := by
  unfold mf_pop
  rw [z_up_ne (by omega), mf_keeps_ne h h2 h3, mf_taken_ne (by omega)]
theorem mf_pop_kp {r a i : Int} {t : z_M} (h : ¬ (a = 722 ∧ i = r)) : mf_pop r t a i = mf_keeps r (mf_top r t) (mf_val (mf_top r t) t) (mf_taken (mf_top r t) t) a i := z_up_ne (by omega)
/-- frames below the one that ends -/
theorem z_cG_pop {b : Bool} {s s1 t : z_M} {r : Int} (h : z_cG b s t r) (hd : 1 ≤ t 722 r) (h3 : s1 (z_ru r) 3 = t 722 r - 1) (hs : ∀ a i, z_ru r ≤ a → a < z_ru r + 92 → ¬ (a = z_ru r ∧ i = 3) → s1 a i = s a i) : z_cG b s1 (mf_pop r t) r := by
  obtain ⟨⟨a1, a2⟩, a3, a4⟩ := h
  have e22 : mf_pop r t 722 r = t 722 r - 1 := mf_pop_22
  have e21 : mf_pop r t 721 r = t 721 r := mf_pop_ne (by omega) (by omega) (by omega) (by omega) (by omega)
  unfold z_cG
  rw [e22, e21, h3, hs _ _ (by omega) (by omega) (by omega)]
  refine ⟨⟨rfl, a2⟩, by omega, fun i i0 i1 => ?_⟩
  have hf : ¬ 30 * r + i = mf_top r t := by unfold mf_top; omega
  exact z_cF_c (fun a j x y => hs a j (by unfold z_fA at x; omega) (by unfold z_fA at y; omega) (by unfold z_fA at x; omega)) ⟨fun a x y z => mf_pop_ne (by omega) (by omega) (by omega) (by omega) (by omega), fun j _ _ => mf_pop_ne (by omega) (by omega) (by omega) (by omega) (by omega), fun j _ _ => mf_pop_ne (by omega) (by omega) (by omega) (by omega) (by omega)⟩ (a4 i i0 (by omega))
theorem mf_pop_me {r : Int} {t : z_M} : z_me t (mf_pop r t) := by
  refine ⟨?_, ?_, ?_⟩ <;> (funext i; exact mf_pop_ne (by omega) (by omega) (by omega) (by omega) (by omega))
theorem mf_hold_id30 {t : z_M} (h : t 701 30 = 0) : ∀ {n : Nat}, mf_hold n t = t
  | 0 => rfl
  | n + 1 => if_pos h
section SE
variable {e : z_E} {d : Nat} {s c t : z_M} {Q : Int → z_M → Prop}
/-- the run's depth goes down and its topmost key is kept -/
theorem s_C_keep {b : Bool} {r : Int} (r0 : 0 ≤ r) (r1 : r < 5) (h : z_KC b r s t) (hx : z_MX t r) (hr : z_RR t r) (hs : z_HT t r) (hf : mf_fin r t) (hq : ∀ s', z_K0 b r s' (mf_pop r t) → z_fz b s s' → (∀ i, s' (z_fA r (t 722 r - 1)) i = s (z_fA r (t 722 r - 1)) i) → (∀ i, s' (z_fA r (t 722 r - 1) + 2) i = s (z_fA r (t 722 r - 1) + 2) i) → Q 0 (z_gl s' c)) : z_ck (z_ok z_NT 4 (z_ru r)) ((¬ ((z_gl (z_up s (z_ru r) 3 (t 722 r - 1)) c) (z_ru r) 1) = 2 → z_ck (z_ok z_NT 4 (z_ru r)) (z_ck (z_ok z_NT 1 (z_fA r (t 722 r - 1))) (z_C e (d + 6) m_S_keep [z_R 7, z_R (z_fA r (t 722 r - 1)), z_I (z_wr (((z_gl (z_up s (z_ru r) 3 (t 722 r - 1)) c) (z_ru r) 4) - ((z_gl (z_up s (z_ru r) 3 (t 722 r - 1)) c) (z_fA r (t 722 r - 1)) 5)))] (z_gl (z_up s (z_ru r) 3 (t 722 r - 1)) c) (fun _ σ3 => z_C e (d + 6) m_S_shrink [z_R 7] σ3 Q)))) ∧ (((z_gl (z_up s (z_ru r) 3 (t 722 r - 1)) c) (z_ru r) 1) = 2 → z_ck (z_ok z_NT 1 (z_fA r (t 722 r - 1))) (z_ck (z_ok z_NT 1 (z_fA r (t 722 r - 1))) (z_C e (d + 6) m_F_value [z_R (z_fA r (t 722 r - 1))] (z_gl (z_up s (z_ru r) 3 (t 722 r - 1)) c) (fun r5 σ5 => z_C e (d + 6) m_H_hold [z_R 213, z_I ((z_gl (z_up s (z_ru r) 3 (t 722 r - 1)) c) (z_fA r (t 722 r - 1)) 3), z_I r5] σ5 Q))))) := by
  obtain ⟨hE, hG, hV⟩ := h
  have hb := hr.1
  have hru := z_ru_rng r0 r1
  have hft : mf_top r t = 30 * r + (t 722 r - 1) := by unfold mf_top; omega
  have hfr := hr.2.2.2
  rw [show 30 * r + t 722 r - 1 = mf_top r t from rfl] at hfr
  have hFF := hG.2.2 (t 722 r - 1) (by omega) (by omega)
  rw [← hft] at hFF
  have hU := z_isU_ru r0 r1
  have hF := z_isF_fA (i := t 722 r - 1) r0 r1 (by omega) (by omega)
  have hFd : z_fA r (t 722 r - 1) = z_ru r + 1 + 1 + 3 * (t 722 r - 1) := rfl
  obtain ⟨s1, s2, s3, s4, s5, s6⟩ := z_FR_sz hx.1 hfr
  have s6 := s6 hs hf
  have hev := mf_fin_ev hx.1 hfr hs hf
  obtain ⟨⟨f1, f2, f3, f4, f5, f6⟩, ⟨b1, b2, b3⟩, c1, c2, c3⟩ := hFF
  have hv := s4 0 (by omega) (by omega)
  have hval : mf_val (mf_top r t) t = t 733 (64 * mf_top r t + 0) := by unfold mf_val; rw [s6]; congr 1; omega
  have hvr : -9999 ≤ mf_val (mf_top r t) t ∧ mf_val (mf_top r t) t ≤ 9999 := by rw [hval]; exact hv
  have hval2 : s (z_fA r (t 722 r - 1) + 2) (s (z_fA r (t 722 r - 1)) 9 - 1) = mf_val (mf_top r t) t := by rw [f5, s6, show (1 : Int) - 1 = 0 from rfl, c2 0 (by omega) (by omega), hval]
  have u : ∀ a i, ¬ (a = z_ru r ∧ i = 3) → z_up s (z_ru r) 3 (t 722 r - 1) a i = s a i := fun a i x => z_up_ne (by omega)
  have hF' := hF
  obtain ⟨k1, k2, k3, k4, k5⟩ := hF
  obtain ⟨u1, u2, u3, u4, u5⟩ := id hU
  generalize hFn : z_fA r (t 722 r - 1) = F at *
  have hkd := hE.1
  simp (disch := omega) only [u1, k1, z_ckT, z_gl_lo, u]
  rw [hkd]
  refine ⟨fun w => ?_, fun w => ?_⟩
  · have hbf : b = false := by
      cases b
      · rfl
      · exact absurd (z_kd_two.mpr rfl) w
    subst hbf
    obtain ⟨⟨hT, hS, hN, hB⟩, ho⟩ := hE.2.1 rfl
    obtain ⟨c4, c5⟩ := c3 rfl
    have hn100 : s 7 2 ≤ 100 := by
      have h1 := z_sums_rng (z_sumx_to hx.2.1 (by rw [hB.1]; decide))
      have h2 := hS.1.1
      have h3 := hx.2.2.1
      omega
    have t1 : ∀ a i, ¬ (a = 732 ∧ i = mf_top r t) → mf_taken (mf_top r t) t a i = t a i := fun a i x => mf_taken_ne (by omega)
    have xS : z_cS (z_up s (z_ru r) 3 (t 722 r - 1)) (mf_taken (mf_top r t) t) := z_cS_c (fun a i x y _ => u a i (by omega)) (fun i x y _ => u 7 i (by omega)) (fun a i x y => t1 a i (by omega)) (fun i x y => t1 _ i (by omega)) hS
    have xs : z_sums (mf_taken (mf_top r t) t) := z_sums_congr (z_sumx_to hx.2.1 (by rw [hB.1]; decide)) (fun k => t1 _ _ (by omega)) (fun k => t1 _ _ (by omega)) (t1 _ _ (by omega)) (t1 _ _ (by omega))
    have xm : z_me t (mf_taken (mf_top r t) t) := by refine ⟨?_, ?_, ?_⟩ <;> (funext i; exact t1 _ _ (by omega))
    have xK : z_KK (mf_taken (mf_top r t) t) := z_KK_eq xm hx.2.2.2.2.1 (fun a k x y _ _ _ => t1 a k (by omega)) (by rw [t1 _ _ (by omega)]; exact Int.le_refl _)
    have xF : z_cFk (z_up s (z_ru r) 3 (t 722 r - 1)) (mf_taken (mf_top r t) t) F (mf_top r t) := by
      unfold z_cFk
      rw [u _ _ (by omega), u _ _ (by omega), u _ _ (by omega), u _ _ (by omega), t1 _ _ (by omega), t1 _ _ (by omega), t1 _ _ (by omega), t1 _ _ (by omega)]
      exact ⟨⟨f1, f4⟩, ⟨b1, b2⟩, fun i i0 i1 => by rw [u _ _ (by omega), t1 _ _ (by omega)]; exact c1 i i0 i1, c4, c5⟩
    rw [hG.1.2, f2]
    refine s_S_keep (d := d + 1) (r := r) (v := mf_val (mf_top r t) t) hF' xF (by rw [u _ _ (by omega)]; omega) (by rw [u _ _ (by omega), u _ _ (by omega)]; exact hval2) hvr.1 hvr.2 xS (by rw [u _ _ (by omega)]; exact hn100) (by rw [u _ _ (by omega), t1 _ _ (by omega)]; exact hN.1.2.2.2.2.2.1) (by rw [u _ _ (by omega), t1 _ _ (by omega)]; exact hN.1.2.2.2.2.2.2.1) xs (by rw [t1 _ _ (by omega)]; have := hx.2.2.1; omega) (by rw [t1 _ _ (by omega)]; omega) (by rw [t1 _ _ (by omega), t1 _ _ (by omega)]; exact hB.2) xK (by rw [t1 _ _ (by omega), t1 _ _ (by omega)]) (fun s' w1 w2 w3 w4 => ?_)
    have ws : ∀ a i, ¬ a = 8 → ¬ a = 10 → ¬ (11 ≤ a ∧ a ≤ 212) → ¬ (a = 7 ∧ (i = 2 ∨ i = 3 ∨ i = 8 ∨ i = 9)) → ¬ (a = z_ru r ∧ i = 3) → s' a i = s a i := fun a i x1 x2 x3 x4 x5 => by rw [w4 a i x1 x2 x3 x4, u a i x5]
    have p1 : ∀ a i, ¬ (a = 722 ∧ i = r) → mf_pop r t a i = mf_keeps r (mf_top r t) (mf_val (mf_top r t) t) (mf_taken (mf_top r t) t) a i := fun a i x => mf_pop_kp x
    refine hq s' ⟨⟨by rw [ws _ _ (by omega) (by omega) (by omega) (by omega) (by omega)]; exact hkd, fun _ => ⟨⟨z_cT_c (fun a i x => ws a i (by omega) (by omega) (by omega) (by omega) (by omega)) mf_pop_me hT, z_cS_c (fun _ _ _ _ _ => rfl) (fun _ _ _ _ => rfl) (fun a i x y => p1 a i (by omega)) (fun i x y => p1 _ i (by omega)) w1, ?_, ?_⟩, fun q q0 q1 q2 => ?_⟩, fun q => (by cases q)⟩, ?_⟩ ⟨fun q => (by cases q), fun _ a i x y => ws a i (by omega) (by omega) (by omega) (by omega) (by omega)⟩ (fun i => ws _ _ (by omega) (by omega) (by omega) (by omega) (by omega)) (fun i => ws _ _ (by omega) (by omega) (by omega) (by omega) (by omega))
    · obtain ⟨⟨n1, n2, n3, n4, n5, n6, n7, n8, n9⟩, ⟨m1, m2, m3⟩, l1, l2, l3⟩ := hN
      have pn : ∀ a i, (a = 701 ∧ ¬ (21 ≤ i ∧ i ≤ 23)) ∨ a = 703 ∨ a = 718 ∨ (a = 717 ∧ ¬ i = 4 ∧ ¬ i = 5) → mf_pop r t a i = t a i := fun a i x => mf_pop_ne (by omega) (by omega) (by omega) (by omega) (by omega)
      have wn : ∀ a i, (a = 0 ∨ a = 3 ∨ a = 4 ∨ a = 9 ∨ (a = 7 ∧ (i = 4 ∨ i = 7))) → s' a i = s a i := fun a i x => ws a i (by omega) (by omega) (by omega) (by omega) (by omega)
      unfold z_cN
      rw [wn 0 7 (by omega), wn 0 9 (by omega), wn 0 10 (by omega), wn 0 11 (by omega), wn 7 7 (by omega), wn 0 12 (by omega), wn 0 8 (by omega), wn 3 2 (by omega), wn 7 4 (by omega), pn 701 26 (by omega), pn 717 0 (by omega), pn 717 1 (by omega), pn 717 2 (by omega), pn 717 3 (by omega), pn 717 6 (by omega), pn 701 46 (by omega), pn 701 2 (by omega), pn 701 29 (by omega), p1 717 4 (by omega), p1 717 5 (by omega)]
      exact ⟨⟨n1, n2, n3, n4, n5, w2, w3, n8, n9⟩, ⟨m1, m2, fun i i0 i1 => by rw [wn 4 i (by omega), pn 703 i (by omega)]; exact m3 i i0 i1⟩, l1, l2, fun i i0 i1 => by rw [wn 9 i (by omega), pn 718 i (by omega)]; exact l3 i i0 i1⟩
    · refine ⟨by rw [mf_pop_ne (by omega) (by omega) (by omega) (by omega) (by omega)]; exact hB.1, ?_⟩
      rw [p1 701 22 (by omega), p1 701 24 (by omega)]
      unfold mf_keeps
      split
      · next hk =>
        have hk0 := mf_keep0_sums (r := r) (f := mf_top r t) (v := mf_val (mf_top r t) t) xs (by rw [t1 _ _ (by omega)]; exact b1.1) (by rw [t1 _ _ (by omega)]; exact b1.2) hk (by rw [t1 _ _ (by omega)]; exact b2.1) (by rw [t1 _ _ (by omega)]; exact b2.2)
        have h1 := z_sums_rng hk0.1
        exact mf_hold_le 1213 _ hk0.1 (by rw [mf_keep0_ne (by omega) (by omega) (by omega), t1 _ _ (by omega)]; have := hx.2.2.1; omega) (by rw [mf_keep0_ne (by omega) (by omega) (by omega), t1 _ _ (by omega)]; omega) (by have := h1.2.2.2.1; omega)
      · rw [t1 _ _ (by omega), t1 _ _ (by omega)]; exact hB.2
    · have hfa := z_ru_far r0 r1 q0 q1 q2
      have hrq := z_ru_rng (r := q) q0 (by omega)
      have hw : ∀ a i, z_ru q ≤ a → a < z_ru q + 92 → s' a i = s a i := fun a i x y => ws a i (by omega) (by omega) (by omega) (by omega) (by omega)
      have hp : ∀ a i, 718 ≤ a → ¬ (a = 732 ∧ i = mf_top r t) → ¬ (a = 722 ∧ i = r) → mf_pop r t a i = t a i := fun a i x y z => mf_pop_ne (by omega) (by omega) (by omega) y z
      obtain ⟨oG, oV⟩ := (ho q q0 q1 q2).1
      refine ⟨⟨z_cG_c (hw _ _ (by omega) (by omega)) (hw _ _ (by omega) (by omega)) (fun a i x y => hw a i (by omega) y) (hp _ _ (by omega) (by omega) (by omega)) (hp _ _ (by omega) (by omega) (by omega)) (fun f x y => ⟨fun a x2 y2 z2 => hp _ _ (by omega) (by omega) (by omega), fun i _ _ => hp _ _ (by omega) (by omega) (by omega), fun i _ _ => hp _ _ (by omega) (by omega) (by omega)⟩) oG, z_cV_c oV (fun i => hw _ _ (by omega) (by omega)) (fun a x y => hp _ _ (by omega) (by omega) (by omega))⟩, by rw [hw _ _ (by omega) (by omega)]; exact (ho q q0 q1 q2).2⟩
    · exact z_cG_pop hG hb.1 (by rw [w4 _ _ (by omega) (by omega) (by omega) (by omega), z_up_eq]) (fun a i x y z => ws a i (by omega) (by omega) (by omega) (by omega) z)
  · have hbt : b = true := z_kd_two.mp w
    subst hbt
    obtain ⟨rfl, hT, hH, h30⟩ := hE.2.2 rfl
    have h4 : z_ru 4 = 216 := rfl
    refine s_F_value (d := d + 5) hF' (by rw [u _ _ (by omega)]; omega) (by rw [u _ _ (by omega)]; omega) ?_
    rw [u (F + 2) _ (by omega), u F 9 (by omega), hval2, f1]
    refine b_H_hold_0 ⟨fun w2 => by omega, fun _ => ⟨fun w2 => by omega, fun _ => ⟨b1, b1, ?_⟩⟩⟩
    simp (disch := omega) only [z_gl_lo, z_gl_ul, z_up_ne]
    generalize hs' : z_up (z_up (z_up s (z_ru 4) 3 (t 722 4 - 1)) 214 (t 725 (mf_top 4 t)) (mf_val (mf_top 4 t) t)) 215 (t 725 (mf_top 4 t)) (s 213 2) = s'
    have ws : ∀ a i, ¬ (a = z_ru 4 ∧ i = 3) → ¬ (a = 214 ∧ i = t 725 (mf_top 4 t)) → ¬ (a = 215 ∧ i = t 725 (mf_top 4 t)) → s' a i = s a i := fun a i x y z => by rw [← hs', z_up_ne (by omega), z_up_ne (by omega), u a i x]
    have w14 : s' 214 (t 725 (mf_top 4 t)) = mf_val (mf_top 4 t) t := by rw [← hs', z_up_ne (by omega), z_up_eq]
    have w15 : s' 215 (t 725 (mf_top 4 t)) = s 213 2 := by rw [← hs', z_up_eq]
    refine hq s' ⟨⟨by rw [ws _ _ (by omega) (by omega) (by omega)]; exact hkd, fun q => (by cases q), fun _ => ⟨rfl, z_cT_c (fun a i x => ws a i (by omega) (by omega) (by omega)) mf_pop_me hT, fun k k0 k1 => ?_, by rw [mf_pop_ne (by omega) (by omega) (by omega) (by omega) (by omega)]; exact h30⟩⟩, ?_⟩ ⟨fun _ a i x y z => ws a i (by omega) (by omega) (by omega), fun q => (by cases q)⟩ (fun i => ws _ _ (by omega) (by omega) (by omega)) (fun i => ws _ _ (by omega) (by omega) (by omega))
    · rw [ws 213 2 (by omega) (by omega) (by omega), mf_pop_kp (by omega), mf_pop_kp (by omega)]
      have t1 : ∀ a i, ¬ (a = 732 ∧ i = mf_top 4 t) → mf_taken (mf_top 4 t) t a i = t a i := fun a i x => mf_taken_ne (by omega)
      unfold mf_keeps
      rw [t1 707 _ (by omega), t1 725 _ (by omega)]
      by_cases hk : t 707 (t 725 (mf_top 4 t)) = 0
      · rw [if_pos hk, mf_hold_id30 (by rw [mf_keep0_ne (by omega) (by omega) (by omega), t1 _ _ (by omega)]; exact h30)]
        obtain ⟨m1, m2, -⟩ := mf_keep0_new (r := 4) (f := mf_top 4 t) (v := mf_val (mf_top 4 t) t) (t := mf_taken (mf_top 4 t) t)
        rw [t1 725 _ (by omega)] at m1 m2
        by_cases hkk : k = t 725 (mf_top 4 t)
        · rw [hkk, w15, w14, m1, m2]
          exact ⟨⟨fun _ => by decide, fun _ => rfl⟩, fun _ => rfl, Int.le_refl _⟩
        · rw [ws 215 k (by omega) (by omega) (by omega), ws 214 k (by omega) (by omega) (by omega), mf_keep0_row (by rw [t1 725 _ (by omega)]; exact hkk) (by omega) (by omega), mf_keep0_row (by rw [t1 725 _ (by omega)]; exact hkk) (by omega) (by omega), t1 _ _ (by omega), t1 _ _ (by omega)]
          exact hH k k0 k1
      · rw [if_neg hk, t1 _ _ (by omega), t1 _ _ (by omega)]
        by_cases hkk : k = t 725 (mf_top 4 t)
        · rw [hkk, w15, w14]
          obtain ⟨-, -, -, -, n, hn⟩ := hx.2.2.2.2.1.1 _ b1.1 b1.2 hk
          obtain ⟨n', hn'⟩ := hev
          have := z_ev_un hn' hn
          exact ⟨⟨fun _ => hk, fun _ => rfl⟩, fun _ => congrArg Prod.fst this, Int.le_refl _⟩
        · rw [ws 215 k (by omega) (by omega) (by omega), ws 214 k (by omega) (by omega) (by omega)]
          exact hH k k0 k1
    · exact z_cG_pop hG hb.1 (by rw [← hs', z_up_ne (by omega), z_up_ne (by omega), z_up_eq]) (fun a i x y z => ws a i z (by omega) (by omega))
end SE
