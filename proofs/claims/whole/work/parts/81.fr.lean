/-! fresh: nothing is left of a thought -/
theorem z_sums_rg {t t' : z_M} (h : z_sums t) (h1 : ∀ k, 0 ≤ k → k < 1212 → t' 707 k = t 707 k) (h2 : ∀ k, 0 ≤ k → k < 1212 → t' 710 k = t 710 k) (h3 : t' 701 22 = t 701 22) (h4 : t' 701 23 = t 701 23) : z_sums t' := by
  obtain ⟨e1, e2, e3⟩ := h
  refine ⟨?_, ?_, fun k a b q => ?_⟩
  · rw [h3, e1]; exact (z_sum_congr 1212 (fun k a b => by rw [h1 k a (by omega)]) (fun k a b _ => h2 k a (by omega))).symm
  · rw [h4, e2]; exact (z_sum_congr 1212 (fun k a b => by rw [h1 k a (by omega)]) (fun k _ _ _ => rfl)).symm
  · rw [h2 k a b]; rw [h1 k a b] at q; exact e3 k a b q
theorem z_KK_rg {t t' : z_M} (hT : z_TT t) (hm : z_me t t') (h : z_KK t) (h0 : ∀ a k, 707 ≤ a → a ≤ 715 → 0 ≤ k → k < 1212 → t' a k = t a k) (h6 : ∀ i, 0 ≤ i → i < 38784 → t' 716 i = t 716 i) (h2 : t 701 21 ≤ t' 701 21) : z_KK t' := by
  obtain ⟨a, b⟩ := h
  refine ⟨fun k k0 k1 k2 => ?_, fun k k' k0 k1 k2 k3 k4 k5 k6 => ?_⟩
  · rw [h0 707 k (by omega) (by omega) k0 k1] at k2
    have hk := a k k0 k1 k2
    have hz := (z_KR_sz hT k0 k1 hk).1
    exact z_KR_eq hm hk (fun a x y _ _ _ => h0 a k x y k0 k1) (fun i i0 i1 => h6 _ (by omega) (by omega)) h2
  · rw [h0 707 k (by omega) (by omega) k0 k1] at k4
    rw [h0 707 k' (by omega) (by omega) k2 k3] at k5
    rw [h0 714 k (by omega) (by omega) k0 k1, h0 714 k' (by omega) (by omega) k2 k3] at k6
    exact b k k' k0 k1 k2 k3 k4 k5 k6
theorem z_cS_rg {s t t' : z_M} (h25 : ∀ k, 0 ≤ k → k < 1212 → ¬ t 707 k = 0 → t 715 k ≤ 25) (h0 : ∀ a k, 707 ≤ a → a ≤ 715 → 0 ≤ k → k < 1212 → t' a k = t a k) (h6 : ∀ i, 0 ≤ i → i < 38784 → t' 716 i = t 716 i) (ht1 : ∀ i, 22 ≤ i → i ≤ 25 → t' 701 i = t 701 i) (h : z_cS s t) : z_cS s t' := by
  obtain ⟨⟨a1, a2, a3, a4⟩, a5, a6, a8, a9, a10⟩ := h
  unfold z_cS
  rw [ht1 22 (by omega) (by omega), ht1 23 (by omega) (by omega), ht1 24 (by omega) (by omega), ht1 25 (by omega) (by omega)]
  refine ⟨⟨a1, a2, a3, a4⟩, a5, a6, fun i i0 i1 => ?_, fun k k0 k1 => ?_, fun i j i0 ij j1 => ?_⟩
  · obtain ⟨⟨b1, b2⟩, b3, b4, b5⟩ := a8 i i0 i1
    have g := fun a (x : 707 ≤ a) (y : a ≤ 715) => h0 a _ x y b1 b2
    have hz := h25 _ b1 b2 b3
    unfold z_cW at b5 ⊢
    rw [g 707 (by omega) (by omega), g 708 (by omega) (by omega), g 709 (by omega) (by omega), g 710 (by omega) (by omega), g 711 (by omega) (by omega), g 712 (by omega) (by omega), g 713 (by omega) (by omega), g 715 (by omega) (by omega)]
    obtain ⟨w1, w2, w3, w4, w5, w6, w7, w8, w9⟩ := b5
    exact ⟨⟨b1, b2⟩, b3, b4, w1, w2, w3, w4, w5, w6, w7, w8, fun j j0 j1 => by rw [h6 _ (by omega) (by omega)]; exact w9 j j0 j1⟩
  · rw [h0 707 k (by omega) (by omega) k0 k1]; exact a9 k k0 k1
  · obtain ⟨⟨b1, b2⟩, -⟩ := a8 i i0 (by omega)
    obtain ⟨⟨c1, c2⟩, -⟩ := a8 j (by omega) j1
    rw [h0 714 _ (by omega) (by omega) b1 b2, h0 714 _ (by omega) (by omega) c1 c2]
    exact a10 i j i0 ij j1
theorem z_cN_rg {s t t' : z_M} (ht : ∀ a i, a = 701 ∨ a = 703 ∨ a = 718 → t' a i = t a i) (h7 : ∀ i, 0 ≤ i → i < 7 → t' 717 i = t 717 i) (h : z_cN s t) : z_cN s t' := by
  unfold z_cN at h ⊢
  simp only [ht 701 _ (Or.inl rfl), ht 703 _ (Or.inr (Or.inl rfl)), ht 718 _ (Or.inr (Or.inr rfl))]
  rw [h7 0 (by omega) (by omega), h7 1 (by omega) (by omega), h7 2 (by omega) (by omega), h7 3 (by omega) (by omega), h7 4 (by omega) (by omega), h7 5 (by omega) (by omega), h7 6 (by omega) (by omega)]
  exact h
/-- a thought leaves this alone -/
def z_r5 (t t' : z_M) : Prop := (∀ a i, 707 ≤ a → a ≤ 715 → 0 ≤ i → i < 1212 → t' a i = t a i) ∧ (∀ i, 0 ≤ i → i < 38784 → t' 716 i = t 716 i) ∧ (∀ i, 0 ≤ i → i < 7 → t' 717 i = t 717 i) ∧ ∀ a i, ¬ (707 ≤ a ∧ a ≤ 717) → ¬ (719 ≤ a ∧ a ≤ 724 ∧ i = 4) → ¬ (725 ≤ a ∧ a ≤ 733 ∧ 120 ≤ i ∧ (a = 731 → 3840 ≤ i) ∧ (a = 733 → 7680 ≤ i)) → ¬ (734 ≤ a ∧ a ≤ 737) → t' a i = t a i
theorem z_RCs_r5 {n : Nat} {s s' t t' : z_M} (h : z_RCs n s t) (hs : ∀ a i, ¬ (213 ≤ a ∧ a < 308) → s' a i = s a i) (hr : s' 213 2 = s 213 2 + 1) (hh : ∀ k, 0 ≤ k → k < 1212 → s' 215 k ≤ s' 213 2) (h5 : z_r5 t t') : z_RCs (n + 1) s' t' := by
  obtain ⟨⟨hT, hS, hN, hB⟩, ho, hx, hc, th1, th2, th3⟩ := h
  obtain ⟨g7, g6, g17, g⟩ := h5
  have hm : z_me t t' := by refine ⟨?_, ?_, ?_⟩ <;> (funext i; exact g _ _ (by omega) (by omega) (by omega) (by omega))
  have g1 : ∀ i, t' 701 i = t 701 i := fun i => g _ _ (by omega) (by omega) (by omega) (by omega)
  have fe : ∀ f, 0 ≤ f → f < 120 → z_fe t t' f := fun f f0 f1 => ⟨fun a x y z => g a f (by omega) (by omega) (by omega) (by omega), fun i i0 i1 => g _ _ (by omega) (by omega) (by omega) (by omega), fun i i0 i1 => g _ _ (by omega) (by omega) (by omega) (by omega)⟩
  have hss := z_sumx_to hx.2.1 (by rw [hB.1]; decide)
  have hKK := hx.2.2.2.2.1
  refine ⟨⟨z_cT_c (fun a i x => hs a i (by omega)) hm hT, z_cS_rg (fun k k0 k1 k2 => (z_KR_sz hx.1 k0 k1 (hKK.1 k k0 k1 k2)).1) g7 g6 (fun i _ _ => g1 i) (z_cS_c (fun a i x y _ => hs a i (by omega)) (fun i x y _ => hs 7 i (by omega)) (fun _ _ _ _ => rfl) (fun _ _ _ => rfl) hS), z_cN_rg (fun a i x => g a i (by omega) (by omega) (by omega) (by omega)) g17 (z_cN_c (fun i _ _ => hs _ _ (by omega)) (fun a i x => hs a i (by omega)) (fun _ _ _ => rfl) hN), by rw [g1, g1, g1]; exact hB⟩, fun q q0 q1 => ?_, ⟨z_me_TT hm hx.1, z_sumx_of (z_sums_rg hss (fun k k0 k1 => g7 707 k (by omega) (by omega) k0 k1) (fun k k0 k1 => g7 710 k (by omega) (by omega) k0 k1) (g1 _) (g1 _)), by rw [g1]; exact hx.2.2.1, by rw [g1]; exact hx.2.2.2.1, z_KK_rg hx.1 hm hKK g7 g6 (by rw [g1]; exact Int.le_refl _), fun q q0 q1 q2 => z_RI_re hx.1 hm ⟨fun a _ _ _ => g a q (by omega) (by omega) (by omega) (by omega), fun f _ _ => fe f (by omega) (by omega)⟩ (hx.2.2.2.2.2 q q0 q1 q2)⟩, by rw [g1]; omega, by omega, by omega, hh⟩
  have hrq := z_ru_rng (r := q) q0 (by omega)
  have hrl := z_ru_lt q1
  obtain ⟨⟨oG, oV⟩, ok⟩ := ho q q0 q1
  exact ⟨⟨z_cG_c (hs _ _ (by omega)) (hs _ _ (by omega)) (fun a i x y => hs a i (by omega)) (g _ _ (by omega) (by omega) (by omega) (by omega)) (g _ _ (by omega) (by omega) (by omega) (by omega)) (fun f _ _ => fe f (by omega) (by omega)) oG, z_cV_c oV (fun i => hs _ _ (by omega)) (fun a _ _ => g _ _ (by omega) (by omega) (by omega) (by omega))⟩, by rw [hs _ _ (by omega)]; exact ok⟩
theorem mf_f0_ne {t : z_M} {a i : Int} (h : ¬ a = 707) (h2 : ¬ (734 ≤ a ∧ a ≤ 737)) (h3 : ¬ (a = 701 ∧ i = 30)) : mf_f0 t a i = t a i := by
  unfold mf_f0
  rw [z_up_ne (by omega), mf_c7_ne h, mf_sv_ne h2]
theorem mf_f0_707 {t : z_M} {i : Int} (h0 : 0 ≤ i) (h1 : i < 1212) : mf_f0 t 707 i = 0 := by
  unfold mf_f0
  rw [z_up_ne (by omega)]; exact mf_c7_at 1212 h0 (by omega)
theorem mf_f0_30 {t : z_M} : mf_f0 t 701 30 = 0 := z_up_eq
theorem mf_f0_MX {t : z_M} (hx : z_MX t 4) (h30 : ¬ t 701 30 = 0) : z_MX (mf_f0 t) 4 := by
  have hss := z_sumx_to hx.2.1 h30
  have hrg := z_sums_rng hss
  have hne := fun a i x y z => mf_f0_ne (t := t) (a := a) (i := i) x y z
  have hm : z_me t (mf_f0 t) := by refine ⟨?_, ?_, ?_⟩ <;> (funext i; exact hne _ _ (by omega) (by omega) (by omega))
  have h0 : ∀ k, 0 ≤ k → k < 1212 → mf_f0 t 707 k = 0 := fun k k0 k1 => mf_f0_707 k0 k1
  obtain ⟨e1, e2⟩ := z_sh2_at (o := t 701 22) (p := t 701 23) (t := mf_f0 t)
  have hz : ∀ k, 0 ≤ k → k < 1212 → z_sh2 (t 701 22) (t 701 23) (mf_f0 t) 707 k = 0 := fun k k0 k1 => by rw [z_sh2_ne (by omega)]; exact h0 k k0 k1
  refine ⟨z_me_TT hm hx.1, ⟨t 701 22, t 701 23, ⟨by omega, by omega, fun q => absurd mf_f0_30 q⟩, ?_, ?_, fun k k0 k1 k2 => absurd (hz k k0 k1) k2⟩, by rw [hne _ _ (by omega) (by omega) (by omega)]; exact hx.2.2.1, by rw [hne _ _ (by omega) (by omega) (by omega)]; exact hx.2.2.2.1, ⟨fun k k0 k1 k2 => absurd (h0 k k0 k1) k2, fun k k' k0 k1 _ _ k4 _ _ => absurd (h0 k k0 k1) k4⟩, fun q q0 q1 q2 => z_RI_re hx.1 hm ⟨fun a _ _ _ => hne a q (by omega) (by omega) (by omega), fun f _ _ => z_fe_of fun a i _ _ => hne a i (by omega) (by omega) (by omega)⟩ (hx.2.2.2.2.2 q q0 q1 q2)⟩
  · rw [e1, hne _ _ (by omega) (by omega) (by omega), z_sum_none 1212 (fun k k0 k1 => hz k k0 (by omega))]; omega
  · rw [e2, hne _ _ (by omega) (by omega) (by omega), z_sum_none 1212 (fun k k0 k1 => hz k k0 (by omega))]; omega
theorem mf_f2_r5 {t : z_M} {k : Int} (hx : z_MX t 4) (h30 : t 701 30 = 1) (hk : 0 ≤ k ∧ k < 1212) : z_r5 t (mf_f2 k t) := by
  have h4 : z_r4 (mf_f0 t) (mf_f1 k t) := mf_whole_r4 (mf_f0_MX hx (by omega)) hk
  have u3 : ∀ j a, 734 ≤ a → a ≤ 737 → z_up (z_up (mf_f1 k t) 722 4 0) 701 30 1 a j = mf_sv t a j := fun j a x y => by
    rw [z_up_ne (by omega), z_up_ne (by omega), h4 _ _ (by omega) (by omega) (by omega) (by omega)]
    unfold mf_f0
    rw [z_up_ne (by omega), mf_c7_ne (by omega)]
  have o : ∀ a i, ¬ a = 701 → mf_f2 k t a i = mf_bk (z_up (z_up (mf_f1 k t) 722 4 0) 701 30 1) a i := fun a i x => by
    unfold mf_f2
    rw [z_up_ne (by omega), z_up_ne (by omega), z_up_ne (by omega), z_up_ne (by omega)]
  refine ⟨fun a i x y i0 i1 => ?_, fun i i0 i1 => ?_, fun i i0 i1 => ?_, fun a i x y z w => ?_⟩
  · rw [o a i (by omega)]
    by_cases h7 : a = 707
    · subst h7; rw [mf_bk_707 i0 i1, u3 _ _ (by omega) (by omega)]; exact mf_sv_734 i0 i1
    · exact mf_sv_bk (by omega) y i0 i1 (fun j => u3 j _ (by omega) (by omega))
  · rw [o _ _ (by omega), mf_bk_716 i0 i1, u3 _ _ (by omega) (by omega)]; exact mf_sv_736 i0 i1
  · rw [o _ _ (by omega), mf_bk_717 i0 i1, u3 _ _ (by omega) (by omega)]; exact mf_sv_737 i0 i1
  · by_cases h1 : a = 701
    · subst h1
      unfold mf_f2
      by_cases i26 : i = 26
      · subst i26; rw [z_up_eq]
      by_cases i21 : i = 21
      · subst i21; rw [z_up_ne (by omega), z_up_eq]
      by_cases i22 : i = 22
      · subst i22; rw [z_up_ne (by omega), z_up_ne (by omega), z_up_eq]
      by_cases i23 : i = 23
      · subst i23; rw [z_up_ne (by omega), z_up_ne (by omega), z_up_ne (by omega), z_up_eq]
      rw [z_up_ne (by omega), z_up_ne (by omega), z_up_ne (by omega), z_up_ne (by omega), mf_bk_ne (by omega)]
      by_cases i30 : i = 30
      · subst i30; rw [z_up_eq, h30]
      rw [z_up_ne (by omega), z_up_ne (by omega), h4 _ _ (by omega) (by omega) (by omega) (by omega)]
      exact mf_f0_ne (by omega) (by omega) (by omega)
    · rw [o a i h1, mf_bk_ne x, z_up_ne (by omega), z_up_ne (by omega), h4 _ _ (by omega) (by omega) (by omega) (by omega)]
      exact mf_f0_ne (by omega) (by omega) (by omega)
theorem mf_f2_720 {t : z_M} {k : Int} : mf_f2 k t 720 4 = mf_f1 k t 720 4 := by
  unfold mf_f2
  rw [z_up_ne (by omega), z_up_ne (by omega), z_up_ne (by omega), z_up_ne (by omega), mf_bk_ne (by omega), z_up_ne (by omega), z_up_ne (by omega)]
