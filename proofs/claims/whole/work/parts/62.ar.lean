/-! class and reference: a key is recalled, asked -/
theorem z_K0_ask0 {b : Bool} {r : Int} {s t : z_M} (r0 : 0 ≤ r) (r1 : r < 5) (h : z_K0 b r s t) : z_K0 b r (if b = true then s else z_up s 0 7 (z_wr (s 0 7 + 1))) (mf_ask0 r t) := by
  obtain ⟨hE, hG⟩ := h
  have hru := z_ru_rng r0 r1
  have m : ∀ a i, ¬ (a = 701 ∧ i = 26) → ¬ (a = 719 ∧ i = r) → mf_ask0 r t a i = t a i := fun a i x y => by unfold mf_ask0; rw [z_up_ne (by omega), z_up_ne (by omega)]
  have hu : ∀ a i, ¬ a = 0 → (if b = true then s else z_up s 0 7 (z_wr (s 0 7 + 1))) a i = s a i := fun a i x => by
    split
    · rfl
    · exact z_up_ne (by omega)
  refine ⟨z_cE_c r0 r1 (fun a i x y => hu a i y) (hu _ _ (by omega)) (fun a i x1 x2 x3 x4 x5 x6 => m a i x1 (by omega)) (fun hb hN => ?_) hE, z_cG_c (hu _ _ (by omega)) (hu _ _ (by omega)) (fun a i x y => hu a i (by omega)) (m _ _ (by omega) (by omega)) (m _ _ (by omega) (by omega)) (fun f _ _ => z_fe_of fun a i _ _ => m a i (by omega) (by omega)) hG⟩
  subst hb
  have e7 : s 0 7 = t 701 26 := hN.1.1
  simp only [Bool.false_eq_true, if_false]
  rw [e7]
  unfold mf_ask0
  have := z_cN_up (i := 7) (a := 701) (j := 26) (v := z_wr (t 701 26 + 1)) hN (by omega)
  exact z_cN_c (fun i _ _ => rfl) (fun a i _ => rfl) (fun a i x => z_up_ne (by omega)) this
def cf_hit (A : Int) (s : z_M) : z_M := z_up (z_up (z_up s 0 9 (z_wr (s 0 9 + 1))) A 5 (s 0 7)) A 6 (z_wr (s A 6 + 1))
theorem z_K0_hit {r key : Int} {s t : z_M} (r0 : 0 ≤ r) (r1 : r < 5) (h : z_K0 false r s t) (hk : 0 ≤ key ∧ key < 1212) (hkp : ¬ t 707 key = 0) : z_K0 false r (cf_hit (s 10 key) s) (mf_hit key t) ∧ z_isK (s 10 key) ∧ s (s 10 key) 2 = t 708 key ∧ s (s 10 key) 7 = t 713 key := by
  obtain ⟨hE, hG⟩ := h
  obtain ⟨⟨hT, hS, hN, hB⟩, ho⟩ := hE.2.1 rfl
  have hru := z_ru_rng r0 r1
  obtain ⟨⟨a1, a2, a3, a4⟩, a5, ⟨a6, a7⟩, a8, a9, a10⟩ := hS
  obtain ⟨p, p0, p1, p2⟩ := (a9 key hk.1 hk.2).2 hkp
  obtain ⟨d1, d2, d3, d4⟩ := a8 p p0 p1
  rw [p2] at d1 d2 d3 d4
  rw [d3]
  have hA := a6 p p0 (by omega)
  obtain ⟨-, -, x3, x4, x5⟩ := id hA
  have e7 : s 0 7 = t 701 26 := hN.1.1
  have u : ∀ a i, ¬ (a = 0 ∧ i = 9) → ¬ (a = s 8 p ∧ (i = 5 ∨ i = 6)) → cf_hit (s 8 p) s a i = s a i := fun a i x y => by unfold cf_hit; rw [z_up_ne (by omega), z_up_ne (by omega), z_up_ne (by omega)]
  have u5 : cf_hit (s 8 p) s (s 8 p) 5 = t 701 26 := by unfold cf_hit; rw [z_up_ne (by omega), z_up_eq, e7]
  have u6 : cf_hit (s 8 p) s (s 8 p) 6 = z_wr (t 712 key + 1) := by unfold cf_hit; rw [z_up_eq, d4.2.2.2.2.2.1]
  have m : ∀ a i, ¬ (a = 717 ∧ i = 0) → ¬ ((a = 711 ∨ a = 712) ∧ i = key) → mf_hit key t a i = t a i := fun a i x y => by unfold mf_hit; rw [z_up_ne (by omega), z_up_ne (by omega), z_up_ne (by omega)]
  have m11 : mf_hit key t 711 key = t 701 26 := by unfold mf_hit; rw [z_up_ne (by omega), z_up_eq]
  have m12 : mf_hit key t 712 key = z_wr (t 712 key + 1) := by unfold mf_hit; rw [z_up_eq]
  have hme : z_me t (mf_hit key t) := by refine ⟨?_, ?_, ?_⟩ <;> (funext i; exact m _ _ (by omega) (by omega))
  have hK : ∀ i, 0 ≤ i → i < 101 → ∀ j, ¬ (j = 5 ∨ j = 6) → cf_hit (s 8 p) s (s 8 i) j = s (s 8 i) j := fun i i0 i1 j hj => by
    obtain ⟨-, -, y3, y4, -⟩ := a6 i i0 i1
    exact u _ _ (by omega) (by omega)
  refine ⟨⟨⟨by rw [u _ _ (by omega) (by omega)]; exact hE.1, fun _ => ⟨⟨z_cT_c (fun a i x => u a i (by omega) (by omega)) hme hT, ?_, ?_, by rw [m _ _ (by omega) (by omega), m _ _ (by omega) (by omega), m _ _ (by omega) (by omega)]; exact hB⟩, fun q q0 q1 q2 => ?_⟩, fun q => (by cases q)⟩, z_cG_c (u _ _ (by omega) (by omega)) (u _ _ (by omega) (by omega)) (fun a i x y => u a i (by omega) (by omega)) (m _ _ (by omega) (by omega)) (m _ _ (by omega) (by omega)) (fun f _ _ => z_fe_of fun a i _ _ => m a i (by omega) (by omega)) hG⟩, hA, d4.2.1, d4.2.2.2.2.2.2.1⟩
  · have e8 : ∀ i, cf_hit (s 8 p) s 8 i = s 8 i := fun i => u _ _ (by omega) (by omega)
    have e10 : ∀ i, cf_hit (s 8 p) s 10 i = s 10 i := fun i => u _ _ (by omega) (by omega)
    have e72 : cf_hit (s 8 p) s 7 2 = s 7 2 := u _ _ (by omega) (by omega)
    have m7 : ∀ k, mf_hit key t 707 k = t 707 k := fun k => m _ _ (by omega) (by omega)
    unfold z_cS
    simp only [e8, e10, e72, m7]
    rw [u 7 3 (by omega) (by omega), u 7 5 (by omega) (by omega), u 7 6 (by omega) (by omega), m 701 22 (by omega) (by omega), m 701 23 (by omega) (by omega), m 701 24 (by omega) (by omega), m 701 25 (by omega) (by omega)]
    refine ⟨⟨a1, a2, a3, a4⟩, a5, ⟨a6, a7⟩, fun i i0 i1 => ?_, fun k k0 k1 => ⟨fun q => (a9 k k0 k1).1 q, fun q => ?_⟩, fun i j i0 ij j1 => ?_⟩
    · rw [hK i i0 (by omega) 1 (by omega)]
      obtain ⟨g1, g2, g3, g4⟩ := a8 i i0 i1
      refine ⟨g1, g2, g3, ?_⟩
      by_cases hi : i = p
      · subst hi
        obtain ⟨w1, w2, w3, w4, w5, w6, w7, w8, w9⟩ := g4
        rw [p2] at w2 w3 w4 w5 w6 w7 w8 w9 ⊢
        unfold z_cW
        rw [hK i i0 (by omega) 1 (by omega), hK i i0 (by omega) 2 (by omega), hK i i0 (by omega) 3 (by omega), hK i i0 (by omega) 4 (by omega), hK i i0 (by omega) 7 (by omega), hK i i0 (by omega) 8 (by omega), u5, u6, m11, m12, m 708 _ (by omega) (by omega), m 709 _ (by omega) (by omega), m 710 _ (by omega) (by omega), m 713 _ (by omega) (by omega), m 715 _ (by omega) (by omega)]
        exact ⟨p2, w2, w3, w4, rfl, rfl, w7, w8, fun j j0 j1 => by rw [u _ _ (by omega) (by omega), m _ _ (by omega) (by omega)]; exact w9 j j0 j1⟩
      · have hne : ¬ s (s 8 i) 1 = key := fun q => by
          rw [q, d3] at g3
          rcases Int.lt_trichotomy i p with h | h | h
          · exact a7 i p i0 h (by omega) g3.symm
          · exact hi h
          · exact a7 p i p0 h (by omega) g3
        have hAi : ¬ s 8 i = s 8 p := fun q => by
          rcases Int.lt_trichotomy i p with h | h | h
          · exact a7 i p i0 h (by omega) q
          · exact hi h
          · exact a7 p i p0 h (by omega) q.symm
        obtain ⟨-, -, y3, y4, y5⟩ := a6 i i0 (by omega)
        exact z_cW_c (fun j => u _ _ (by omega) (by omega)) (fun j => u _ _ (by omega) (by omega)) (fun a x y => m _ _ (by omega) (by omega)) (fun j _ _ => m _ _ (by omega) (by omega)) g4
    · obtain ⟨i, i0, i1, i2⟩ := (a9 k k0 k1).2 q
      exact ⟨i, i0, i1, by rw [hK i i0 (by omega) 1 (by omega)]; exact i2⟩
    · rw [hK i i0 (by omega) 1 (by omega), hK j (by omega) (by omega) 1 (by omega), m _ _ (by omega) (by omega), m _ _ (by omega) (by omega)]
      exact a10 i j i0 ij j1
  · have e9 : s 0 9 = t 717 0 := hN.1.2.1
    have h1 := z_cN_up (i := 9) (a := 717) (j := 0) (v := z_wr (t 717 0 + 1)) hN (by omega)
    refine z_cN_c (s := z_up s 0 9 (z_wr (t 717 0 + 1))) (t := z_up t 717 0 (z_wr (t 717 0 + 1))) (fun i x y => ?_) (fun a i x => ?_) (fun a i x => ?_) h1
    · unfold cf_hit; rw [z_up_ne (by omega), z_up_ne (by omega), e9]
    · unfold cf_hit; rw [z_up_ne (by omega), z_up_ne (by omega), e9]
    · unfold mf_hit; rw [z_up_ne (by omega), z_up_ne (by omega)]
  · have hfa := z_ru_far r0 r1 q0 q1 q2
    have hrq := z_ru_rng (r := q) q0 (by omega)
    have hw : ∀ a i, z_ru q ≤ a → a < z_ru q + 92 → cf_hit (s 8 p) s a i = s a i := fun a i x y => u a i (by omega) (by omega)
    obtain ⟨⟨oG, oV⟩, ok⟩ := ho q q0 q1 q2
    exact ⟨⟨z_cG_c (hw _ _ (by omega) (by omega)) (hw _ _ (by omega) (by omega)) (fun a i x y => hw a i (by omega) y) (m _ _ (by omega) (by omega)) (m _ _ (by omega) (by omega)) (fun f x y => z_fe_of fun a i _ _ => m a i (by omega) (by omega)) oG, z_cV_c oV (fun i => hw _ _ (by omega) (by omega)) (fun a x y => m _ _ (by omega) (by omega))⟩, by rw [hw _ _ (by omega) (by omega)]; exact ok⟩
theorem z_K0_hit_th {r key : Int} {s t : z_M} (r0 : 0 ≤ r) (r1 : r < 5) (h : z_K0 true r s t) : z_K0 true r s (mf_hit key t) := by
  obtain ⟨hE, hG⟩ := h
  obtain ⟨e1, e2, e3, e4⟩ := hE.2.2 rfl
  have m : ∀ a i, ¬ a = 717 → ¬ a = 711 → ¬ a = 712 → mf_hit key t a i = t a i := fun a i x y z => by unfold mf_hit; rw [z_up_ne (by omega), z_up_ne (by omega), z_up_ne (by omega)]
  refine ⟨⟨hE.1, fun q => (by cases q), fun _ => ⟨e1, z_cT_c (fun _ _ _ => rfl) (by refine ⟨?_, ?_, ?_⟩ <;> (funext i; exact m _ _ (by omega) (by omega) (by omega))) e2, fun k k0 k1 => ?_, by rw [m _ _ (by omega) (by omega) (by omega)]; exact e4⟩⟩, z_cG_c rfl rfl (fun _ _ _ _ => rfl) (m _ _ (by omega) (by omega) (by omega)) (m _ _ (by omega) (by omega) (by omega)) (fun f _ _ => z_fe_of fun a i _ _ => m a i (by omega) (by omega) (by omega)) hG⟩
  rw [m 707 _ (by omega) (by omega) (by omega), m 708 _ (by omega) (by omega) (by omega)]
  exact e3 k k0 k1
section AR
variable {e : z_E} {d : Nat} {c : z_M} {Q : Int → z_M → Prop}
theorem s_C_recalls {b : Bool} {r key : Int} {s t : z_M} (r0 : 0 ≤ r) (r1 : r < 5) (h : z_K0 b r s t) (hx : z_MX t r) (hp : z_RP t r key) (h19 : t 719 r = 1) (hy : ¬ t 707 key = 0 → ∀ s', z_KC b r s' (mf_gt r key (t 708 key) (t 713 key) (mf_hit key t)) → z_fz b s s' → Q 1 (z_gl s' c)) (hn : t 707 key = 0 → Q 0 (z_gl s c)) : z_C e (d + 4) m_C_recalls [z_R 0, z_R (z_ru r), z_I key] (z_gl s c) Q := by
  have hE := h.1
  have hk := hp.2.2.2.1
  have hU := z_isU_ru r0 r1
  have hru := z_ru_rng r0 r1
  obtain ⟨u1, u2, u3, u4, u5⟩ := id hU
  have h21 : mf_hit key t 721 r = t 721 r := by unfold mf_hit; rw [z_up_ne (by omega), z_up_ne (by omega), z_up_ne (by omega)]
  have h22 : mf_hit key t 722 r = t 722 r := by unfold mf_hit; rw [z_up_ne (by omega), z_up_ne (by omega), z_up_ne (by omega)]
  have g19 : mf_hit key t 719 r = 1 := by unfold mf_hit; rw [z_up_ne (by omega), z_up_ne (by omega), z_up_ne (by omega)]; exact h19
  have hx1 : z_MX (mf_hit key t) r := z_ro_MX mf_hit_ro hx
  have hp1 : z_RP (mf_hit key t) r key := z_ro_RP (mf_hit_ro (r := r)) hx.1 h21 h22 hp
  refine b_C_recalls_0 ?_
  simp (disch := omega) only [u1, z_ckT, z_gl_lo]
  rw [hE.1]
  refine ⟨fun w => ?_, fun w => ?_⟩
  · have hbf : b = false := by
      cases b
      · rfl
      · exact absurd (z_kd_two.mpr rfl) w
    subst hbf
    have hS := (hE.2.1 rfl).1.2.1
    refine s_S_find (d := d + 2) hk.1 hk.2 ⟨fun q => ?_, fun q => ?_⟩
    · have hkp : ¬ t 707 key = 0 := fun z => by have := (hS.2.2.2.2.1 key hk.1 hk.2).1 z; omega
      obtain ⟨a1, a2, a3, a4⟩ := z_K0_hit r0 r1 h hk hkp
      obtain ⟨x1, -, x3, x4, -⟩ := id a2
      simp (disch := omega) only [x1, z_ckT, z_gl_lo, z_gl_ul, z_up_ne, z_up_eq]
      rw [a3, a4]
      exact s_U_gives (d := d) (b := false) (w := t 713 key) r0 r1 a1 hx1 hp1 g19 (fun _ => rfl) (fun s' v1 v2 => hy hkp s' v1 (z_fz_tr ⟨fun q => (by cases q), fun _ a i x y => by rw [z_up_ne (by omega), z_up_ne (by omega), z_up_ne (by omega)]⟩ v2))
    · refine hn ?_
      by_cases hkp : t 707 key = 0
      · exact hkp
      · obtain ⟨-, a2, -⟩ := z_K0_hit r0 r1 h hk hkp
        obtain ⟨-, -, x3, -⟩ := a2
        omega
  · have hbt : b = true := z_kd_two.mp w
    subst hbt
    obtain ⟨e1, e2, e3, e4⟩ := hE.2.2 rfl
    have hkk := e3 key hk.1 hk.2
    refine b_H_holds_0 ⟨fun z => by omega, fun _ => ⟨fun z => by omega, fun _ => ⟨hk, ?_⟩⟩⟩
    simp (disch := omega) only [z_gl_lo]
    refine ⟨fun q => ⟨fun z => absurd trivial z, fun _ => hn ?_⟩, fun q => ⟨fun _ => ?_, fun z => (by omega)⟩⟩
    · by_cases hkp : t 707 key = 0
      · exact hkp
      · exact absurd (hkk.1.mpr hkp) q
    · have hkp := hkk.1.mp q
      refine b_H_valueOf_0 ⟨fun z => by omega, fun _ => ⟨fun z => by omega, fun _ => ⟨hk, ?_⟩⟩⟩
      simp (disch := omega) only [z_gl_lo]
      rw [hkk.2.1 hkp]
      exact s_U_gives (d := d) (b := true) (w := t 713 key) r0 r1 (z_K0_hit_th r0 r1 h) hx1 hp1 g19 (fun q => (by cases q)) (fun s' v1 v2 => hy hkp s' v1 v2)
theorem s_C_askKey {b : Bool} {r key w : Int} {s t : z_M} (r0 : 0 ≤ r) (r1 : r < 5) (h : z_K0 b r s t) (hx : z_MX t r) (hp : z_RP t r key) (hbr : r < 4 → b = false) (hw : r < 4 → (w = 0 ↔ ¬ s (z_ru r) 2 = 2)) (hq : ∀ s', z_KC b r s' (mf_ask r key w t) → z_fz b s s' → Q 0 (z_gl s' c)) : z_C e (d + 6) m_C_askKey [z_R 0, z_R (z_ru r), z_I key] (z_gl s c) Q := by
  have hE := h.1
  have hU := z_isU_ru r0 r1
  have hru := z_ru_rng r0 r1
  obtain ⟨u1, u2, u3, u4, u5⟩ := id hU
  have h0 := z_K0_ask0 r0 r1 h
  have x0 : z_MX (mf_ask0 r t) r := z_ro_MX mf_ask0_ro hx
  have a2 : mf_ask0 r t 722 r = t 722 r := by unfold mf_ask0; rw [z_up_ne (by omega), z_up_ne (by omega)]
  have a3 : mf_ask0 r t 721 r = t 721 r := by unfold mf_ask0; rw [z_up_ne (by omega), z_up_ne (by omega)]
  have p0 : z_RP (mf_ask0 r t) r key := z_ro_RP mf_ask0_ro hx.1 a3 a2 hp
  have g19 : mf_ask0 r t 719 r = 1 := by unfold mf_ask0; rw [z_up_eq]
  have hfz : z_fz b s (if b = true then s else z_up s 0 7 (z_wr (s 0 7 + 1))) := ⟨fun hb a i _ _ _ => by rw [if_pos hb], fun hb a i x y => by
    split
    · rfl
    · exact z_up_ne (by omega)⟩
  have hs2 : (if b = true then s else z_up s 0 7 (z_wr (s 0 7 + 1))) (z_ru r) 2 = s (z_ru r) 2 := by
    split
    · rfl
    · exact z_up_ne (by omega)
  have hk := hp.2.2.2.1
  have main : ∀ s0, s0 = (if b = true then s else z_up s 0 7 (z_wr (s 0 7 + 1))) → z_T e (d + 5) m_C_askKey 18 [some (z_R 0), some (z_R (z_ru r)), some (z_I key)] (z_gl s0 c) Q := by
    intro s0 hs0
    rw [← hs0] at h0 hfz hs2
    rw [← hs2] at hw
    unfold mf_ask at hq
    generalize mf_ask0 r t = t0 at *
    have hE0 := h0.1
    unfold mf_ask1 at hq
    have hbeg : (t0 707 key = 0) → ¬ mf_has t0 r key = true → ¬ (¬ r = 4 ∧ ¬ mf_tk t0 key r = -1) → z_C e (d + 5) m_C_beginFrame [z_R 0, z_R (z_ru r), z_I key] (z_gl s0 c) (fun _ σ => Q 0 σ) := fun q1 q2 q3 => by
      rw [if_neg (fun z => z q1), if_neg q2, if_neg q3] at hq
      exact s_C_beginFrame (d := d + 2) r0 r1 h0 x0 g19 hk (fun s' v1 v2 => hq s' v1 (z_fz_tr hfz v2))
    refine b_C_askKey_18 (s_C_recalls (d := d + 1) r0 r1 h0 x0 p0 g19 (fun q s' v1 v2 => ⟨fun z => by omega, fun _ => ?_⟩) (fun q => ⟨fun _ => ?_, fun z => absurd rfl z⟩))
    · rw [if_pos q] at hq
      exact hq s' v1 (z_fz_tr hfz v2)
    · simp only [u1, z_ckT]
      refine s_U_has (d := d + 4) r0 r1 h0.2 (fun hh => ⟨fun z => by omega, fun _ => ?_⟩) (fun hh => ⟨fun _ => ?_, fun z => absurd rfl z⟩)
      · rw [if_neg (fun z => z q), if_pos (mf_has_iff.mpr hh)] at hq
        obtain ⟨f1, f2⟩ := z_KC_fail (why := 1) r0 r1 (by omega) h0
        exact s_C_fail (d := d + 3) (b := b) (r := r) hU hE0.1 (hq _ f1 (z_fz_tr hfz f2))
      · have hh' : ¬ mf_has t0 r key = true := fun z => hh (mf_has_iff.mp z)
        rw [z_gl_lo (by omega), hE0.1]
        refine ⟨fun w1 => ?_, fun w1 => ?_⟩
        · have hr4 : r = 4 := by
            by_cases h4 : r = 4
            · exact h4
            · rw [hbr (by omega)] at w1
              unfold z_kd at w1
              simp only [Bool.false_eq_true, if_false] at w1
              rw [if_neg h4] at w1
              exact absurd rfl w1
          exact hbeg q hh' (fun z => z.1 hr4)
        · have hr4 : r < 4 := by
            by_cases h4 : r = 4
            · rw [h4] at w1
              unfold z_kd at w1
              split at w1
              · omega
              · rw [if_pos rfl] at w1; omega
            · omega
          have hbf := hbr hr4
          subst hbf
          refine s_C_meetsOther (d := d + 2) (w := w) r0 hr4 h0 x0 (hw hr4) (fun hno => ⟨fun z => absurd rfl z, fun _ => hbeg q hh' (fun z => z.2 hno)⟩) (fun s' hno v1 v2 => ⟨fun _ => ?_, fun z => by omega⟩)
          rw [if_neg (fun z => z q), if_neg hh', if_pos ⟨by omega, hno⟩] at hq
          exact hq s' v1 (z_fz_tr hfz v2)
  refine b_C_askKey_0 ?_
  simp (disch := omega) only [u1, z_ckT, z_gl_lo, z_gl_ul]
  rw [hE.1]
  refine ⟨fun w1 => main s (by rw [if_pos (z_kd_two.mp w1)]), fun w1 => main _ (by rw [if_neg (fun q => w1 (z_kd_two.mpr q))])⟩
end AR
