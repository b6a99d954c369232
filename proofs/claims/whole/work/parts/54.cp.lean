/-! class and reference: failing, ending, giving, beginning, waiting -/
theorem z_fz_U {b : Bool} {r : Int} {s s' t : z_M} (hR : 0 ≤ r) (hE : z_cE b r s t) (hs : ∀ a i, ¬ (z_ru r ≤ a ∧ a < z_ru r + 92) → (b = true ∨ ¬ a = 0) → s' a i = s a i) : z_fz b s s' := by
  refine ⟨fun hb a i x _ _ => ?_, fun hb a i x y => hs a i (fun q => ?_) (Or.inr (by omega))⟩
  · obtain ⟨h1, -⟩ := hE.2.2 hb
    refine hs a i (fun q => x ?_) (Or.inl hb)
    rw [h1] at q
    have : z_ru 4 = 216 := rfl
    omega
  · have : 216 ≤ z_ru r := by
      unfold z_ru
      split <;> omega
    omega
theorem cf_fail_ne {b : Bool} {U why : Int} {s : z_M} {a i : Int} (h : ¬ (a = U ∧ (i = 2 ∨ i = 8 ∨ i = 3))) (h2 : b = true ∨ ¬ (a = 0 ∧ i = 11)) : cf_fail b U why s a i = s a i := by
  unfold cf_fail cf_fail0
  cases b
  · simp only [Bool.false_eq_true, if_false, false_or] at h2 ⊢
    rw [z_up_ne (by omega), z_up_ne (by omega), z_up_ne (by omega), z_up_ne (by omega)]
  · simp only [if_true]
    rw [z_up_ne (by omega), z_up_ne (by omega), z_up_ne (by omega)]
theorem cf_fail_at {b : Bool} {U why : Int} {s : z_M} (hU : ¬ U = 0) : cf_fail b U why s U 2 = 4 ∧ cf_fail b U why s U 8 = why ∧ cf_fail b U why s U 3 = 0 := by
  unfold cf_fail cf_fail0
  cases b
  · simp only [Bool.false_eq_true, if_false]
    refine ⟨?_, ?_, ?_⟩ <;> (simp [z_upd]; try omega)
  · simp only [if_true]
    refine ⟨?_, ?_, ?_⟩ <;> simp [z_upd]
theorem z_KC_fail {b : Bool} {r why : Int} {s t : z_M} (r0 : 0 ≤ r) (r1 : r < 5) (hw : 0 ≤ why ∧ why ≤ 6) (h : z_K0 b r s t) : z_KC b r (cf_fail b (z_ru r) why s) (mf_fails r why t) ∧ z_fz b s (cf_fail b (z_ru r) why s) := by
  obtain ⟨hE, hG⟩ := h
  have hr := z_ru_rng r0 r1
  obtain ⟨c1, c2, c3⟩ := cf_fail_at (b := b) (why := why) (s := s) (show ¬ z_ru r = 0 by omega)
  obtain ⟨m1, m2, m3, m4⟩ := mf_fails_at (r := r) (why := why) (t := t)
  have mne : ∀ a i, ¬ ((a = 719 ∨ a = 720 ∨ a = 722) ∧ i = r) → ¬ (a = 717 ∧ i = 2) → mf_fails r why t a i = t a i := fun a i h1 h2 => by unfold mf_fails; rw [z_up_ne (by omega), z_up_ne (by omega), z_up_ne (by omega), z_up_ne (by omega)]
  refine ⟨⟨z_cE_c r0 r1 (fun a i x y => cf_fail_ne (by omega) (Or.inr (by omega))) (cf_fail_ne (by omega) (Or.inr (by omega))) (fun a i x1 x2 x3 x4 x5 x6 => mne a i (by omega) (by omega)) (fun hb hN => ?_) hE, ⟨⟨by rw [c3, m2], by rw [cf_fail_ne (by omega) (Or.inr (by omega)), m3]; exact hG.1.2⟩, by omega, fun i i0 i1 => by omega⟩, by rw [c1, m1], fun q => by omega, fun q => by omega, fun _ => ⟨by rw [m4, c2], by omega, by omega⟩⟩, z_fz_U r0 hE (fun a i x y => cf_fail_ne (by omega) (y.imp id (fun q z => q z.1)))⟩
  subst hb
  have e : s 0 11 = t 717 2 := hN.1.2.2.2.1
  unfold cf_fail mf_fails
  simp only [Bool.false_eq_true, if_false]
  rw [e]
  refine z_cN_up (z_cN_c (fun i x y => ?_) (fun a i x => ?_) (fun a i x => ?_) hN) (by omega)
  · unfold cf_fail0; rw [z_up_ne (by omega), z_up_ne (by omega), z_up_ne (by omega)]
  · unfold cf_fail0; rw [z_up_ne (by omega), z_up_ne (by omega), z_up_ne (by omega)]
  · rw [z_up_ne (by omega), z_up_ne (by omega), z_up_ne (by omega)]
theorem z_KC_done {b : Bool} {r v : Int} {s t : z_M} (r0 : 0 ≤ r) (r1 : r < 5) (h : z_K0 b r s t) (hd : t 722 r = 0) : z_KC b r (z_up (z_up s (z_ru r) 2 3) (z_ru r) 7 v) (z_up (z_up t 719 r 3) 720 r v) ∧ z_fz b s (z_up (z_up s (z_ru r) 2 3) (z_ru r) 7 v) := by
  obtain ⟨hE, hG⟩ := h
  have hr := z_ru_rng r0 r1
  have hs : ∀ a i, ¬ (a = z_ru r ∧ (i = 2 ∨ i = 7)) → z_up (z_up s (z_ru r) 2 3) (z_ru r) 7 v a i = s a i := fun a i x => by rw [z_up_ne (by omega), z_up_ne (by omega)]
  have ht : ∀ a i, ¬ ((a = 719 ∨ a = 720) ∧ i = r) → z_up (z_up t 719 r 3) 720 r v a i = t a i := fun a i x => by rw [z_up_ne (by omega), z_up_ne (by omega)]
  refine ⟨⟨z_cE_c r0 r1 (fun a i x y => hs a i (by omega)) (hs _ _ (by omega)) (fun a i x1 x2 x3 x4 x5 x6 => ht a i (by omega)) (fun _ hN => z_cN_c (fun i _ _ => hs _ _ (by omega)) (fun a i x => hs _ _ (by omega)) (fun a i x => ht _ _ (by omega)) hN) hE, ⟨⟨by rw [hs _ _ (by omega), ht _ _ (by omega)]; exact hG.1.1, by rw [hs _ _ (by omega), ht _ _ (by omega)]; exact hG.1.2⟩, by rw [ht _ _ (by omega)]; exact hG.2.1, fun i i0 i1 => by rw [ht _ _ (by omega)] at i1; omega⟩, ?_, ?_, ?_, ?_⟩, z_fz_U r0 hE (fun a i x y => hs a i (by omega))⟩
  · rw [z_up_ne (by omega), z_up_eq, z_up_ne (by omega), z_up_eq]
  · intro q; rw [z_up_ne (by omega), z_up_eq] at q; omega
  · intro q; rw [z_up_eq, z_up_eq]
  · intro q; rw [z_up_ne (by omega), z_up_eq] at q; omega
/-- the frame that takes, in the class -/
theorem cf_take_fr {F v u key : Int} {s : z_M} {s' : z_M} (hs : (z_fas F key s ∧ s' = cf_take0 F v u s) ∨ (¬ z_fas F key s ∧ s' = cf_take1 F key (cf_take0 F v u s))) : (∀ a i, ¬ a = F → ¬ a = F + 1 → ¬ a = F + 2 → s' a i = s a i) ∧ (∀ i, ¬ i = 7 → ¬ i = 8 → ¬ i = 9 → s' F i = s F i) ∧ s' F 7 = z_or (s F 7) u ∧ s' F 9 = s F 9 + 1 ∧ (∀ i, ¬ i = s F 9 → s' (F + 2) i = s (F + 2) i) ∧ s' (F + 2) (s F 9) = v ∧ (∀ i, ¬ i = s F 8 → s' (F + 1) i = s (F + 1) i) ∧ (z_fas F key s → s' F 8 = s F 8) ∧ (¬ z_fas F key s → s' F 8 = s F 8 + 1 ∧ s' (F + 1) (s F 8) = key) := by
  have e8 : cf_take0 F v u s F 8 = s F 8 := by unfold cf_take0 cf_push; rw [z_up_ne (by omega), z_up_ne (by omega), z_up_ne (by omega)]
  rcases hs with ⟨hf, rfl⟩ | ⟨hf, rfl⟩
  · unfold cf_take0 cf_push
    refine ⟨fun a i x y z => ?_, fun i x y z => ?_, ?_, ?_, fun i x => ?_, ?_, fun i x => ?_, fun _ => ?_, fun q => absurd hf q⟩
    · rw [z_up_ne (by omega), z_up_ne (by omega), z_up_ne (by omega)]
    · rw [z_up_ne (by omega), z_up_ne (by omega), z_up_ne (by omega)]
    · rw [z_up_eq]
    · rw [z_up_ne (by omega), z_up_eq]
    · rw [z_up_ne (by omega), z_up_ne (by omega), z_up_ne (by omega)]
    · rw [z_up_ne (by omega), z_up_ne (by omega), z_up_eq]
    · rw [z_up_ne (by omega), z_up_ne (by omega), z_up_ne (by omega)]
    · rw [z_up_ne (by omega), z_up_ne (by omega), z_up_ne (by omega)]
  · unfold cf_take1
    rw [e8]
    unfold cf_take0 cf_push
    refine ⟨fun a i x y z => ?_, fun i x y z => ?_, ?_, ?_, fun i x => ?_, ?_, fun i x => ?_, fun q => absurd q hf, fun _ => ⟨?_, ?_⟩⟩
    · rw [z_up_ne (by omega), z_up_ne (by omega), z_up_ne (by omega), z_up_ne (by omega), z_up_ne (by omega)]
    · rw [z_up_ne (by omega), z_up_ne (by omega), z_up_ne (by omega), z_up_ne (by omega), z_up_ne (by omega)]
    · rw [z_up_ne (by omega), z_up_ne (by omega), z_up_eq]
    · rw [z_up_ne (by omega), z_up_ne (by omega), z_up_ne (by omega), z_up_eq]
    · rw [z_up_ne (by omega), z_up_ne (by omega), z_up_ne (by omega), z_up_ne (by omega), z_up_ne (by omega)]
    · rw [z_up_ne (by omega), z_up_ne (by omega), z_up_ne (by omega), z_up_ne (by omega), z_up_eq]
    · rw [z_up_ne (by omega), z_up_ne (by omega), z_up_ne (by omega), z_up_ne (by omega), z_up_ne (by omega)]
    · rw [z_up_eq]
    · rw [z_up_ne (by omega), z_up_eq]
theorem z_fas_iff {b : Bool} {s t : z_M} {F f key : Int} (h : z_cF b s t F f) : z_fas F key s ↔ mf_asked t f key = true := by
  obtain ⟨⟨a1, a2, a3, a4, a5, a6⟩, ⟨b1, b2, b3⟩, c1, c2, c3⟩ := h
  rw [mf_asked_iff]
  unfold z_fas
  constructor
  · rintro ⟨i, i0, i1, i2⟩; exact ⟨i, i0, by omega, by rw [← c1 i i0 (by omega)]; exact i2⟩
  · rintro ⟨i, i0, i1, i2⟩; exact ⟨i, i0, by omega, by rw [c1 i i0 i1]; exact i2⟩
theorem z_KC_give {b : Bool} {r key v u w : Int} {s s' t : z_M} (r0 : 0 ≤ r) (r1 : r < 5) (h : z_K0 b r s t) (hd : ¬ t 722 r = 0) (h19 : t 719 r = 1) (hu : b = false → u = w) (h30 : t 730 (mf_top r t) < 25) (h32 : t 732 (mf_top r t) < 19) (hs : (z_fas (z_fA r (t 722 r - 1)) key s ∧ s' = cf_take0 (z_fA r (t 722 r - 1)) v u (z_up s (z_ru r) 2 1)) ∨ (¬ z_fas (z_fA r (t 722 r - 1)) key s ∧ s' = cf_take1 (z_fA r (t 722 r - 1)) key (cf_take0 (z_fA r (t 722 r - 1)) v u (z_up s (z_ru r) 2 1)))) : z_KC b r s' (mf_give r key v w t) ∧ z_fz b s s' := by
  obtain ⟨hE, hG⟩ := h
  have hr := z_ru_rng r0 r1
  have hG3 := hG.2.1
  have hFF := hG.2.2 (t 722 r - 1) (by omega) (by omega)
  have ht : mf_top r t = 30 * r + (t 722 r - 1) := by unfold mf_top; omega
  rw [← ht] at hFF
  have hfas := z_fas_iff (key := key) hFF
  have hFd : z_fA r (t 722 r - 1) = z_ru r + 1 + 1 + 3 * (t 722 r - 1) := rfl
  generalize hF : z_fA r (t 722 r - 1) = F at *
  have hfas2 : z_fas F key (z_up s (z_ru r) 2 1) ↔ z_fas F key s := by
    unfold z_fas
    rw [z_up_ne (by omega)]
    constructor
    · rintro ⟨i, i0, i1, i2⟩; rw [z_up_ne (by omega)] at i2; exact ⟨i, i0, i1, i2⟩
    · rintro ⟨i, i0, i1, i2⟩; exact ⟨i, i0, i1, by rw [z_up_ne (by omega)]; exact i2⟩
  rw [← hfas2] at hs
  obtain ⟨k1, k2, k3, k4, k5, k6, k7, k8, k9⟩ := cf_take_fr hs
  obtain ⟨g1, g2, g3, g4, g5, g6, g7, g8, g9⟩ := mf_give_fr (r := r) (key := key) (v := v) (u := w) (t := t) rfl
  have eF : ∀ a i, ¬ (a = z_ru r ∧ i = 2) → z_up s (z_ru r) 2 1 a i = s a i := fun a i x => z_up_ne (by omega)
  rw [hfas2, hfas, eF F 8 (by omega)] at k8
  rw [hfas2, hfas, eF F 8 (by omega)] at k9
  rw [eF F 9 (by omega)] at k4 k6
  rw [eF F 7 (by omega)] at k3
  have k5' : ∀ i, ¬ i = s F 9 → s' (F + 2) i = s (F + 2) i := fun i x => by rw [k5 i (by rw [eF F 9 (by omega)]; exact x), eF _ _ (by omega)]
  have k7' : ∀ i, ¬ i = s F 8 → s' (F + 1) i = s (F + 1) i := fun i x => by rw [k7 i (by rw [eF F 8 (by omega)]; exact x), eF _ _ (by omega)]
  have k2' : ∀ i, ¬ i = 7 → ¬ i = 8 → ¬ i = 9 → s' F i = s F i := fun i x y z => by rw [k2 i x y z, eF _ _ (by omega)]
  have k1' : ∀ a i, ¬ a = F → ¬ a = F + 1 → ¬ a = F + 2 → ¬ (a = z_ru r ∧ i = 2) → s' a i = s a i := fun a i x y z q => by rw [k1 a i x y z, eF _ _ q]
  have gne : ∀ a i, ¬ (729 ≤ a ∧ a ≤ 733) → mf_give r key v w t a i = t a i := fun a i ha => g1 a i (by omega) (by omega) (by omega) (by omega) (by omega)
  obtain ⟨⟨a1, a2, a3, a4, a5, a6⟩, ⟨b1, b2, b3⟩, c1, c2, c3⟩ := hFF
  have hF' : z_cF b s' (mf_give r key v w t) F (mf_top r t) := by
    unfold z_cF
    rw [k2' 3 (by omega) (by omega) (by omega), k2' 5 (by omega) (by omega) (by omega), k2' 6 (by omega) (by omega) (by omega), k2' 2 (by omega) (by omega) (by omega), k2' 4 (by omega) (by omega) (by omega), k3, k4, g5, g6, gne 725 _ (by omega), gne 726 _ (by omega), gne 727 _ (by omega), gne 728 _ (by omega)]
    by_cases hq : mf_asked t (mf_top r t) key = true
    · rw [k8 hq, g8 hq]
      refine ⟨⟨a1, a2, a3, a4, by omega, a6⟩, ⟨b1, by omega, by omega⟩, fun i i0 i1 => ?_, fun i i0 i1 => ?_, fun hb => ⟨(c3 hb).1, by rw [(c3 hb).2, hu hb]⟩⟩
      · rw [k7' i (by omega), g3 _ (by omega)]; exact c1 i i0 i1
      · by_cases hi : i = t 732 (mf_top r t)
        · rw [hi, g7, ← a5, k6]
        · rw [k5' i (by omega), g4 _ (by omega)]; exact c2 i i0 (by omega)
    · obtain ⟨q1, q2⟩ := k9 hq
      obtain ⟨q3, q4⟩ := g9 hq
      rw [q1, q3]
      refine ⟨⟨a1, a2, a3, by omega, by omega, a6⟩, ⟨b1, by omega, by omega⟩, fun i i0 i1 => ?_, fun i i0 i1 => ?_, fun hb => ⟨(c3 hb).1, by rw [(c3 hb).2, hu hb]⟩⟩
      · by_cases hi : i = t 730 (mf_top r t)
        · rw [hi, q4, ← a4, q2]
        · rw [k7' i (by omega), g3 _ (by omega)]; exact c1 i i0 (by omega)
      · by_cases hi : i = t 732 (mf_top r t)
        · rw [hi, g7, ← a5, k6]
        · rw [k5' i (by omega), g4 _ (by omega)]; exact c2 i i0 (by omega)
  have hG' : z_cG b s' (mf_give r key v w t) r := by
    refine z_cG_fr (i := t 722 r - 1) hG (k1' _ _ (by omega) (by omega) (by omega) (by omega)) (by rw [k1' _ _ (by omega) (by omega) (by omega) (by omega), gne _ _ (by omega)]; exact hG.1.2) (fun a j x y z => k1' a j (by omega) (by omega) (by omega) (by omega)) (gne _ _ (by omega)) (fun g x y z => mf_give_fe (by omega) (by omega) (by omega) (by omega) (by omega)) ?_
    rw [hF, ← ht]
    exact hF'
  refine ⟨⟨z_cE_c r0 r1 (fun a i x y => k1' a i (by omega) (by omega) (by omega) (by omega)) (k1' _ _ (by omega) (by omega) (by omega) (by omega)) (fun a i x1 x2 x3 x4 x5 x6 => ?_) (fun _ hN => z_cN_c (fun i _ _ => k1' _ _ (by omega) (by omega) (by omega) (by omega)) (fun a i x => k1' _ _ (by omega) (by omega) (by omega) (by omega)) (fun a i x => gne _ _ (by omega)) hN) hE, hG', ?_, ?_, ?_, ?_⟩, z_fz_U r0 hE (fun a i x y => k1' a i (by omega) (by omega) (by omega) (by omega))⟩
  · by_cases ha : 729 ≤ a ∧ a ≤ 733
    · by_cases h31 : a = 731
      · rw [h31]; exact g3 _ (by omega)
      by_cases h33 : a = 733
      · rw [h33]; exact g4 _ (by omega)
      exact g2 a i (by omega) (by omega) (by omega) h31
    · exact gne a i ha
  · rw [k1 _ _ (by omega) (by omega) (by omega), z_up_eq, gne _ _ (by omega), h19]
  · intro q; rw [gne _ _ (by omega), h19] at q; omega
  · intro q; rw [gne _ _ (by omega), h19] at q; omega
  · intro q; rw [gne _ _ (by omega), h19] at q; omega
