/-! class and reference: a key is kept -/
def z_cFk (s t : z_M) (F f : Int) : Prop := (s F 3 = t 725 f ∧ s F 8 = t 730 f) ∧ ((0 ≤ t 725 f ∧ t 725 f < 1212) ∧ 0 ≤ t 730 f ∧ t 730 f ≤ 25) ∧ (∀ i, 0 ≤ i → i < t 730 f → s (F + 1) i = t 731 (32 * f + i)) ∧ s F 4 = t 728 f ∧ s F 7 = t 729 f
theorem z_cS_add {s s' t : z_M} {F f r v cost : Int} (hS : z_cS s t) (hn : s 7 2 ≤ 100) (hfr : z_cFk s t F f) (hF : z_isF F) (hs : z_sums t) (hKK : z_KK t) (hkn : t 707 (t 725 f) = 0) (hcost : cost = z_wr (t 721 r - t 727 f))
    (q1 : ∀ a i, ¬ a = s 8 (s 7 2) → ¬ a = s 8 (s 7 2) + 1 → ¬ (a = 7 ∧ (i = 2 ∨ i = 3 ∨ i = 9)) → ¬ (a = 10 ∧ i = t 725 f) → s' a i = s a i)
    (q2 : s' (s 8 (s 7 2)) 1 = s F 3 ∧ s' (s 8 (s 7 2)) 2 = v ∧ s' (s 8 (s 7 2)) 3 = cost ∧ s' (s 8 (s 7 2)) 4 = 2 + z_dig v + s F 8 ∧ s' (s 8 (s 7 2)) 5 = s F 4 ∧ s' (s 8 (s 7 2)) 6 = 1 ∧ s' (s 8 (s 7 2)) 7 = s F 7 ∧ s' (s 8 (s 7 2)) 8 = s F 8) (q3 : ∀ i, 0 ≤ i → i < s F 8 → s' (s 8 (s 7 2) + 1) i = s (F + 1) i)
    (q4 : s' 7 2 = s 7 2 + 1 ∧ s' 7 3 = z_wr (s 7 3 + (2 + z_dig v + s F 8)) ∧ s' 10 (t 725 f) = s 8 (s 7 2)) : z_cS s' (mf_keep0 r f v t) := by
  obtain ⟨⟨a1, a2, a3, a4⟩, a5, ⟨a6, a7⟩, a8, a9, a10⟩ := hS
  obtain ⟨⟨f1, f4⟩, ⟨b1, b2⟩, c1, c4, c5⟩ := hfr
  obtain ⟨-, -, x3, x4, x5⟩ := a6 (s 7 2) a5.1 (by omega)
  obtain ⟨-, -, -, y4, y5⟩ := hF
  obtain ⟨m1, m2, m3, m4, m5, m6, m7, m8, m9, m10⟩ := mf_keep0_new (r := r) (f := f) (v := v) (t := t)
  obtain ⟨ms, m23⟩ := mf_keep0_sums (r := r) (v := v) hs b1.1 b1.2 hkn b2.1 b2.2
  have hd := z_dig_rng v
  have hsr := z_sums_rng hs
  have hsr2 := z_sums_rng ms
  have m22 : mf_keep0 r f v t 701 22 = t 701 22 + (2 + z_dig v + t 730 f) := by
    unfold mf_keep0 mf_keep2
    rw [z_up_ne (by omega), z_up_eq, mf_cpa_ne (by omega), mf_cpa_ne (by omega)]
    unfold mf_keep1
    simp [z_upd]
  have mrow : ∀ k, ¬ k = t 725 f → ∀ a, 707 ≤ a → a ≤ 715 → mf_keep0 r f v t a k = t a k := fun k hk a x y => mf_keep0_row hk x y
  have e8 : ∀ i, s' 8 i = s 8 i := fun i => q1 _ _ (by omega) (by omega) (by omega) (by omega)
  have hold : ∀ i, 0 ≤ i → i < s 7 2 → ¬ s 8 i = s 8 (s 7 2) := fun i i0 i1 => a7 i _ i0 i1 (by omega)
  have hcell : ∀ i j, 0 ≤ i → i < s 7 2 → s' (s 8 i) j = s (s 8 i) j ∧ s' (s 8 i + 1) j = s (s 8 i + 1) j := fun i j i0 i1 => by
    have := hold i i0 i1
    obtain ⟨-, -, k3, k4, k5⟩ := a6 i i0 (by omega)
    exact ⟨q1 _ _ this (by omega) (by omega) (by omega), q1 _ _ (by omega) (by omega) (by omega) (by omega)⟩
  have hkey : ∀ i, 0 ≤ i → i < s 7 2 → ¬ s (s 8 i) 1 = t 725 f := fun i i0 i1 z => by
    have := (a8 i i0 i1).2.1
    rw [z] at this
    exact this hkn
  refine ⟨⟨by rw [q4.1, m23, a1], by rw [q4.2.1, m22, a2, f4]; exact z_wr_id (by omega) (by omega), by rw [q1 _ _ (by omega) (by omega) (by omega) (by omega), mf_keep0_ne (by omega) (by omega) (by omega)]; exact a3, by rw [q1 _ _ (by omega) (by omega) (by omega) (by omega), mf_keep0_ne (by omega) (by omega) (by omega)]; exact a4⟩, by omega, ⟨fun i i0 i1 => by rw [e8]; exact a6 i i0 i1, fun i j i0 ij j1 => by rw [e8, e8]; exact a7 i j i0 ij j1⟩, fun i i0 i1 => ?_, fun k k0 k1 => ⟨fun q => ?_, fun q => ?_⟩, fun i j i0 ij j1 => ?_⟩
  · rw [e8]
    by_cases hi : i = s 7 2
    · rw [hi, q2.1, f1]
      refine ⟨b1, by rw [m1]; decide, q4.2.2, ?_⟩
      unfold z_cW
      rw [q2.1, q2.2.1, q2.2.2.1, q2.2.2.2.1, q2.2.2.2.2.1, q2.2.2.2.2.2.1, q2.2.2.2.2.2.2.1, q2.2.2.2.2.2.2.2, m2, m3, m4, m5, m6, m7, m9]
      refine ⟨f1, rfl, hcost, by rw [f4], c4, rfl, c5, f4, fun j j0 j1 => ?_⟩
      rw [q3 j j0 (by omega), mf_keep0_716, mf_cpa_in _ j0 (by omega), mf_keep1_hi (by omega)]
      exact c1 j j0 j1
    · have hi2 : i < s 7 2 := by omega
      obtain ⟨d1, d2, d3, d4⟩ := a8 i i0 hi2
      have hk := hkey i i0 hi2
      rw [(hcell i 1 i0 hi2).1]
      refine ⟨d1, by rw [mrow _ hk 707 (by omega) (by omega)]; exact d2, by rw [q1 _ _ (by omega) (by omega) (by omega) (by omega)]; exact d3, ?_⟩
      refine z_cW_c (fun j => (hcell i j i0 hi2).1) (fun j => (hcell i j i0 hi2).2) (fun a x y => mrow _ hk a (by omega) y) (fun j j0 j1 => ?_) d4
      have h31 := (hs.2.2 _ d1.1 d1.2 d2).2
      have hkr := hKK.1 _ d1.1 d1.2 d2
      have h10 : t 710 (s (s 8 i) 1) = 2 + z_dig (t 708 (s (s 8 i) 1)) + t 715 (s (s 8 i) 1) := hkr.2.2.1
      have := z_dig_rng (t 708 (s (s 8 i) 1))
      rw [mf_keep0_716, mf_cpa_out _ (by omega), mf_keep1_hi (by omega)]
  · by_cases hk : k = t 725 f
    · rw [hk, m1] at q; omega
    · rw [mrow k hk 707 (by omega) (by omega)] at q
      rw [q1 _ _ (by omega) (by omega) (by omega) (by omega)]
      exact (a9 k k0 k1).1 q
  · by_cases hk : k = t 725 f
    · exact ⟨s 7 2, a5.1, by omega, by rw [e8, q2.1, f1, hk]⟩
    · rw [mrow k hk 707 (by omega) (by omega)] at q
      obtain ⟨i, i0, i1, i2⟩ := (a9 k k0 k1).2 q
      exact ⟨i, i0, by omega, by rw [e8, (hcell i 1 i0 i1).1]; exact i2⟩
  · rw [e8, e8]
    have hi2 : i < s 7 2 := by omega
    rw [(hcell i 1 i0 hi2).1, mrow _ (hkey i i0 hi2) 714 (by omega) (by omega)]
    by_cases hj : j = s 7 2
    · rw [hj, q2.1, f1, m8]
      have := (hKK.1 _ (a8 i i0 hi2).1.1 (a8 i i0 hi2).1.2 (a8 i i0 hi2).2.1).2.2.2.1.2
      omega
    · have hj2 : j < s 7 2 := by omega
      rw [(hcell j 1 (by omega) hj2).1, mrow _ (hkey j (by omega) hj2) 714 (by omega) (by omega)]
      exact a10 i j i0 ij hj2
section KQ
variable {e : z_E} {d : Nat} {s c t : z_M} {Q : Int → z_M → Prop}
theorem s_S_keep {F f r v cost : Int} (hF : z_isF F) (hfr : z_cFk s t F f) (h9 : 0 < s F 9 ∧ s F 9 ≤ 19) (hv : s (F + 2) (s F 9 - 1) = v) (hv0 : -9999 ≤ v) (hv1 : v ≤ 9999) (hS : z_cS s t) (hn : s 7 2 ≤ 100) (h8 : s 7 8 = t 717 4) (h79 : s 7 9 = t 717 5) (hs : z_sums t) (hb : 0 ≤ t 701 24) (h3 : ¬ t 701 30 = 0) (hw : t 701 22 ≤ t 701 24) (hKK : z_KK t) (hcost : cost = z_wr (t 721 r - t 727 f)) (h : ∀ s', z_cS s' (mf_keeps r f v t) → s' 7 8 = mf_keeps r f v t 717 4 → s' 7 9 = mf_keeps r f v t 717 5 → z_sf s s' → Q 0 (z_gl s' c)) : z_C e (d + 5) m_S_keep [z_R 7, z_R F, z_I cost] (z_gl s c) (fun _ σ => z_C e (d + 5) m_S_shrink [z_R 7] σ Q) := by
  have hF' := hF
  obtain ⟨k1, k2, k3, k4, k5⟩ := hF
  have hS' := hS
  obtain ⟨⟨a1, a2, a3, a4⟩, a5, ⟨a6, a7⟩, a8, a9, a10⟩ := hS
  have hfr' := hfr
  obtain ⟨⟨f1, f4⟩, ⟨b1, b2⟩, c1, c4, c5⟩ := hfr
  refine b_S_keep_0 ?_
  simp (disch := omega) only [k1, z_ckT, z_gl_lo, f1]
  refine s_S_find b1.1 b1.2 ⟨fun w => ?_, fun w => ?_⟩
  · have hk : ¬ t 707 (t 725 f) = 0 := fun q => by have := (a9 _ b1.1 b1.2).1 q; omega
    unfold mf_keeps at h
    rw [if_neg hk] at h
    refine s_S_shrink (d := d + 2) hS' h8 hs hb h3 (fun s' w1 w2 w3 w4 => ?_)
    rw [mf_hold_stop hw 1213] at w1 w2
    exact h s' w1 w2 (by rw [w4]; exact h79) w3
  have hk : t 707 (t 725 f) = 0 := by
    by_cases q : t 707 (t 725 f) = 0
    · exact q
    · obtain ⟨i, i0, i1, i2⟩ := (a9 _ b1.1 b1.2).2 q
      have := (a8 i i0 i1).2.2.1
      rw [i2] at this
      obtain ⟨-, -, x3, -⟩ := a6 i i0 (by omega)
      omega
  rw [z_gl_lo (show F < 701 by omega), f1]
  refine s_C_within (fun _ _ => ⟨fun z => by omega, fun _ => ?_⟩) (fun z => absurd b1 z)
  have hA := a6 (s 7 2) a5.1 (by omega)
  obtain ⟨x1, x2, x3, x4, x5⟩ := id hA
  simp (disch := omega) only [z_gl_lo, z_gl_ul, x1, z_ckT, z_wr_id]
  refine ⟨fun _ => ⟨by omega, ?_⟩, fun w => by omega⟩
  have u1 : ∀ a i, ¬ (a = 7 ∧ i = 2) → z_up s 7 2 (s 7 2 + 1) a i = s a i := fun a i z => z_up_ne (by omega)
  refine s_K_fill (d := d + 2) (v := v) hA hF' ⟨by rw [u1 _ _ (by omega)]; exact h9.1, by rw [u1 _ _ (by omega)]; exact h9.2⟩ (by rw [u1 _ _ (by omega), u1 _ _ (by omega)]; exact hv) hv0 hv1 ⟨by rw [u1 _ _ (by omega)]; omega, by rw [u1 _ _ (by omega)]; omega⟩ (fun s3 hs3 => ?_)
  obtain ⟨p1, p2, p3⟩ := hs3
  rw [u1 F 3 (by omega), u1 F 4 (by omega), u1 F 7 (by omega), u1 F 8 (by omega)] at p2
  rw [u1 F 8 (by omega)] at p3
  have p1' : ∀ a i, ¬ a = s 8 (s 7 2) → ¬ a = s 8 (s 7 2) + 1 → ¬ (a = 7 ∧ i = 2) → s3 a i = s a i := fun a i x y z => by rw [p1 a i x y, u1 a i z]
  have e1 : s3 (s 8 (s 7 2)) 1 = t 725 f := by rw [p2.1]; exact f1
  simp (disch := omega) only [z_gl_lo, z_gl_ul, z_up_ne, e1]
  refine ⟨b1, Or.inr trivial, by unfold z_ir; omega, ?_⟩
  generalize hs4 : z_up (z_up (z_up s3 10 (t 725 f) (s 8 (s 7 2))) 7 3 (z_wr (s3 7 3 + s3 (s 8 (s 7 2)) 4))) 7 9 (z_wr (s3 7 9 + 1)) = s4
  have g1 : ∀ a i, ¬ a = s 8 (s 7 2) → ¬ a = s 8 (s 7 2) + 1 → ¬ (a = 7 ∧ (i = 2 ∨ i = 3 ∨ i = 9)) → ¬ (a = 10 ∧ i = t 725 f) → s4 a i = s a i := fun a i x y z w => by
    rw [← hs4, z_up_ne (by omega), z_up_ne (by omega), z_up_ne (by omega)]; exact p1' a i x y (by omega)
  have gA : ∀ i, s4 (s 8 (s 7 2)) i = s3 (s 8 (s 7 2)) i := fun i => by rw [← hs4, z_up_ne (by omega), z_up_ne (by omega), z_up_ne (by omega)]
  have gA1 : ∀ i, s4 (s 8 (s 7 2) + 1) i = s3 (s 8 (s 7 2) + 1) i := fun i => by rw [← hs4, z_up_ne (by omega), z_up_ne (by omega), z_up_ne (by omega)]
  have gadd := z_cS_add (s' := s4) (r := r) (v := v) (cost := cost) hS' hn hfr' hF' hs hKK hk hcost g1 (by simp only [gA]; exact p2) (fun i i0 i1 => by rw [gA1, p3 i i0 i1]; exact u1 _ _ (by omega)) ⟨by rw [← hs4, z_up_ne (by omega), z_up_ne (by omega), z_up_ne (by omega), p1 _ _ (by omega) (by omega), z_up_eq], by rw [← hs4, z_up_ne (by omega), z_up_eq, p1' 7 3 (by omega) (by omega) (by omega), p2.2.2.2.1], by rw [← hs4, z_up_ne (by omega), z_up_ne (by omega), z_up_eq]⟩
  have m17 : ∀ i, ¬ i = 5 → mf_keep0 r f v t 717 i = t 717 i := fun i x => mf_keep0_ne (by omega) (by omega) (by omega)
  have m5 : mf_keep0 r f v t 717 5 = z_wr (t 717 5 + 1) := by
    unfold mf_keep0 mf_keep2
    rw [z_up_eq, mf_cpa_ne (by omega)]
    unfold mf_keep1
    simp [z_upd]
  refine s_S_shrink (d := d + 2) gadd ?_ (mf_keep0_sums (r := r) (v := v) hs b1.1 b1.2 hk b2.1 b2.2).1 ?_ ?_ (fun s' w1 w2 w3 w4 => ?_)
  · rw [g1 _ _ (by omega) (by omega) (by omega) (by omega), m17 4 (by omega)]; exact h8
  · rw [mf_keep0_ne (by omega) (by omega) (by omega)]; exact hb
  · rw [mf_keep0_ne (by omega) (by omega) (by omega)]; exact h3
  · have h := h s'
    unfold mf_keeps at h
    rw [if_pos hk] at h
    refine h w1 w2 ?_ (z_sf_tr (fun a i x y z w => g1 a i (by omega) (by omega) (by omega) (by omega)) w3)
    rw [w4, mf_hold_ne (by omega) (by omega) (by omega), m5, ← hs4, z_up_eq, p1' 7 9 (by omega) (by omega) (by omega), h79]
end KQ
