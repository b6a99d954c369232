/-! class and reference: beginning, waiting, one frame -/
def cf_beg (b : Bool) (U key T : Int) (s : z_M) : z_M := if b = true then cf_ubeg U key T (s 0 7) s else z_up (cf_ubeg U key T (s 0 7) s) 0 10 (z_wr (s 0 10 + 1))
theorem cf_ubeg_fr {U F key T tm : Int} {s : z_M} (hF : F = U + 1 + 1 + 3 * s U 3) (h0 : 0 ≤ s U 3) : let s' := cf_ubeg U key T tm s; (∀ a i, ¬ a = F → ¬ (a = U ∧ (i = 2 ∨ i = 3)) → s' a i = s a i) ∧ s' U 2 = 1 ∧ s' U 3 = s U 3 + 1 ∧ s' F 2 = T ∧ s' F 3 = key ∧ s' F 4 = tm ∧ s' F 5 = s U 4 ∧ s' F 6 = 0 ∧ s' F 7 = z_shl 1 (12 + key / 101) ∧ s' F 8 = 0 ∧ s' F 9 = 0 := by
  have e3 : cf_ubeg0 U key T tm s F 3 = key := by unfold cf_ubeg0; rw [← hF, z_up_ne (by omega), z_up_ne (by omega), z_up_eq]
  have e0 : ∀ a i, ¬ a = F → ¬ (a = U ∧ i = 3) → cf_ubeg0 U key T tm s a i = s a i := fun a i x y => by unfold cf_ubeg0; rw [← hF, z_up_ne (by omega), z_up_ne (by omega), z_up_ne (by omega), z_up_ne (by omega)]
  intro s'
  show (∀ a i, _ → _ → cf_ubeg U key T tm s a i = s a i) ∧ cf_ubeg U key T tm s U 2 = 1 ∧ cf_ubeg U key T tm s U 3 = _ ∧ cf_ubeg U key T tm s F 2 = _ ∧ cf_ubeg U key T tm s F 3 = _ ∧ cf_ubeg U key T tm s F 4 = _ ∧ cf_ubeg U key T tm s F 5 = _ ∧ cf_ubeg U key T tm s F 6 = _ ∧ cf_ubeg U key T tm s F 7 = _ ∧ cf_ubeg U key T tm s F 8 = _ ∧ cf_ubeg U key T tm s F 9 = _
  unfold cf_ubeg cf_begin
  rw [← hF, e3]
  refine ⟨fun a i x y => ?_, ?_, ?_, ?_, ?_, ?_, ?_, ?_, ?_, ?_, ?_⟩
  · rw [z_up_ne (by omega), z_up_ne (by omega), z_up_ne (by omega), z_up_ne (by omega), z_up_ne (by omega), z_up_ne (by omega)]; exact e0 a i x (by omega)
  · rw [z_up_eq]
  · rw [z_up_ne (by omega), z_up_ne (by omega), z_up_ne (by omega), z_up_ne (by omega), z_up_ne (by omega), z_up_ne (by omega)]; unfold cf_ubeg0; rw [← hF, z_up_ne (by omega), z_up_ne (by omega), z_up_ne (by omega), z_up_eq]
  · rw [z_up_ne (by omega), z_up_ne (by omega), z_up_ne (by omega), z_up_ne (by omega), z_up_ne (by omega), z_up_ne (by omega)]; unfold cf_ubeg0; rw [← hF, z_up_ne (by omega), z_up_eq]
  · rw [z_up_ne (by omega), z_up_ne (by omega), z_up_ne (by omega), z_up_ne (by omega), z_up_ne (by omega), z_up_ne (by omega)]; exact e3
  · rw [z_up_ne (by omega), z_up_ne (by omega), z_up_ne (by omega), z_up_ne (by omega), z_up_ne (by omega), z_up_ne (by omega)]; unfold cf_ubeg0; rw [← hF, z_up_eq]
  · rw [z_up_ne (by omega), z_up_ne (by omega), z_up_ne (by omega), z_up_ne (by omega), z_up_ne (by omega), z_up_eq]
  · rw [z_up_ne (by omega), z_up_ne (by omega), z_up_ne (by omega), z_up_ne (by omega), z_up_eq]
  · rw [z_up_ne (by omega), z_up_ne (by omega), z_up_ne (by omega), z_up_eq]
  · rw [z_up_ne (by omega), z_up_ne (by omega), z_up_eq]
  · rw [z_up_ne (by omega), z_up_eq]
theorem z_KC_beg {b : Bool} {r key : Int} {s t : z_M} (r0 : 0 ≤ r) (r1 : r < 5) (h : z_K0 b r s t) (hd : ¬ t 722 r = 30) (h19 : t 719 r = 1) (hk : 0 ≤ key ∧ key < 1212) : z_KC b r (cf_beg b (z_ru r) key (309 + 2 * (key / 101)) s) (mf_beg r key t) ∧ z_fz b s (cf_beg b (z_ru r) key (309 + 2 * (key / 101)) s) := by
  obtain ⟨hE, hG⟩ := h
  have hr := z_ru_rng r0 r1
  have hG3 := hG.2.1
  have e3 : s (z_ru r) 3 = t 722 r := hG.1.1
  have hFd : z_fA r (t 722 r) = z_ru r + 1 + 1 + 3 * s (z_ru r) 3 := by unfold z_fA; rw [e3]
  obtain ⟨k1, k2, k3, k4, k5, k6, k7, k8, k9, k10, k11⟩ := cf_ubeg_fr (key := key) (T := 309 + 2 * (key / 101)) (tm := s 0 7) hFd (by omega)
  obtain ⟨g1, g2, g3, g4, g5, g6, g7, g8⟩ := mf_beg_at (r := r) (key := key) (t := t)
  have hb0 : ∀ a i, (b = true ∨ ¬ (a = 0 ∧ i = 10)) → cf_beg b (z_ru r) key (309 + 2 * (key / 101)) s a i = cf_ubeg (z_ru r) key (309 + 2 * (key / 101)) (s 0 7) s a i := fun a i x => by
    unfold cf_beg
    cases b
    · simp only [Bool.false_eq_true, if_false, false_or] at x ⊢
      rw [z_up_ne (by omega)]
    · simp only [if_true]
  have hU : ∀ i, cf_beg b (z_ru r) key (309 + 2 * (key / 101)) s (z_ru r) i = cf_ubeg (z_ru r) key (309 + 2 * (key / 101)) (s 0 7) s (z_ru r) i := fun i => hb0 _ _ (Or.inr (by omega))
  have hFF : ∀ i, cf_beg b (z_ru r) key (309 + 2 * (key / 101)) s (z_fA r (t 722 r)) i = cf_ubeg (z_ru r) key (309 + 2 * (key / 101)) (s 0 7) s (z_fA r (t 722 r)) i := fun i => hb0 _ _ (Or.inr (by unfold z_fA; omega))
  have hne : ∀ a i, ¬ a = z_fA r (t 722 r) → ¬ (a = z_ru r ∧ (i = 2 ∨ i = 3)) → (b = true ∨ ¬ (a = 0 ∧ i = 10)) → cf_beg b (z_ru r) key (309 + 2 * (key / 101)) s a i = s a i := fun a i x y z => by rw [hb0 a i z]; exact k1 a i x y
  have hFb : z_ru r + 2 ≤ z_fA r (t 722 r) ∧ z_fA r (t 722 r) + 2 < z_ru r + 92 := by unfold z_fA; omega
  have hfe : ∀ f, ¬ f = 30 * r + t 722 r → z_fe t (mf_beg r key t) f := fun f hf => ⟨fun a x y z => mf_beg_ne (by omega) (by omega) (by omega), fun i _ _ => mf_beg_ne (by omega) (by omega) (by omega), fun i _ _ => mf_beg_ne (by omega) (by omega) (by omega)⟩
  refine ⟨⟨z_cE_c r0 r1 (fun a i x y => hne a i (by omega) (by omega) (Or.inr (by omega))) (hne _ _ (by omega) (by omega) (Or.inr (by omega))) (fun a i x1 x2 x3 x4 x5 x6 => mf_beg_ne (by omega) (by omega) (by omega)) (fun hb hN => ?_) hE, ⟨⟨by rw [hU, k3, g1, e3], by rw [hU, k1 _ _ (by omega) (by omega), mf_beg_ne (by omega) (by omega) (by omega)]; exact hG.1.2⟩, by omega, fun i i0 i1 => ?_⟩, ?_, ?_, ?_, ?_⟩, z_fz_U r0 hE (fun a i x y => hne a i (by omega) (by omega) (y.imp id (fun q z => q z.1)))⟩
  · subst hb
    have e7 : s 0 10 = t 717 1 := hN.1.2.2.1
    unfold cf_beg mf_beg
    simp only [Bool.false_eq_true, if_false]
    rw [e7]
    have hcl : ∀ a i, a = 701 ∨ a = 703 ∨ a = 717 ∨ a = 718 → mf_clears (30 * r + t 722 r) (mf_beg1 r key t) a i = t a i := fun a i x => by
      unfold mf_clears mf_beg1
      rw [z_up_ne (by omega), z_up_ne (by omega), z_up_ne (by omega), z_up_ne (by omega), z_up_ne (by omega), z_up_ne (by omega), z_up_ne (by omega), z_up_ne (by omega)]
    exact z_cN_up (z_cN_c (fun i x y => k1 _ _ (by omega) (by omega)) (fun a i x => k1 _ _ (by omega) (by omega)) hcl hN) (by omega)
  · by_cases hi : i = t 722 r
    · subst hi
      unfold z_cF
      simp only [hFF]
      rw [k4, k5, k6, k7, k8, k9, k10, k11, g2, g3, g4, g5, g6, g7, g8]
      refine ⟨⟨rfl, hG.1.2, rfl, rfl, rfl, rfl⟩, ⟨hk, by omega, by omega⟩, fun i i0 i1 => by omega, fun i i0 i1 => by omega, fun hb => ⟨?_, rfl⟩⟩
      exact (hE.2.1 hb).1.2.2.1.1.1
    · refine z_cF_c (fun a x y z => hne a x (by unfold z_fA at *; omega) (by unfold z_fA at *; omega) (Or.inr (by unfold z_fA at *; omega))) (hfe _ (by omega)) (hG.2.2 i i0 (by omega))
  · rw [hU, k2, mf_beg_ne (by omega) (by omega) (by omega), h19]
  · intro q; rw [mf_beg_ne (by omega) (by omega) (by omega), h19] at q; omega
  · intro q; rw [mf_beg_ne (by omega) (by omega) (by omega), h19] at q; omega
  · intro q; rw [mf_beg_ne (by omega) (by omega) (by omega), h19] at q; omega
def cf_wait (U o key w : Int) (s : z_M) : z_M := z_up (z_up (z_up (z_up s 0 12 (z_wr (s 0 12 + (if w = 0 then 1 else 0)))) U 2 2) U 5 o) U 6 key
theorem z_KC_wait {r o key w : Int} {s t : z_M} (r0 : 0 ≤ r) (r1 : r < 5) (h : z_K0 false r s t) : z_KC false r (cf_wait (z_ru r) o key w s) (mf_wait r o key w t) := by
  obtain ⟨hE, hG⟩ := h
  have hr := z_ru_rng r0 r1
  obtain ⟨g1, g2, g3, g4, g5⟩ := mf_wait_at (r := r) (o := o) (key := key) (w := w) (t := t)
  have k1 : ∀ a i, ¬ (a = z_ru r ∧ (i = 2 ∨ i = 5 ∨ i = 6)) → ¬ (a = 0 ∧ i = 12) → cf_wait (z_ru r) o key w s a i = s a i := fun a i x y => by unfold cf_wait; rw [z_up_ne (by omega), z_up_ne (by omega), z_up_ne (by omega), z_up_ne (by omega)]
  have m1 : ∀ a i, ¬ ((a = 719 ∨ a = 723 ∨ a = 724) ∧ i = r) → ¬ (a = 717 ∧ i = 6) → mf_wait r o key w t a i = t a i := fun a i x y => by unfold mf_wait; rw [z_up_ne (by omega), z_up_ne (by omega), z_up_ne (by omega), z_up_ne (by omega)]
  refine ⟨z_cE_c r0 r1 (fun a i x y => k1 a i (by omega) (by omega)) (k1 _ _ (by omega) (by omega)) (fun a i x1 x2 x3 x4 x5 x6 => m1 a i (by omega) (by omega)) (fun _ hN => ?_) hE, z_cG_c (k1 _ _ (by omega) (by omega)) (k1 _ _ (by omega) (by omega)) (fun a i x y => k1 a i (by omega) (by omega)) g5 g4 (fun f _ _ => z_fe_of fun a i _ _ => m1 a i (by omega) (by omega)) hG, ?_, ?_, ?_, ?_⟩
  · have e7 : s 0 12 = t 717 6 := hN.1.2.2.2.2.2.2.2.1
    have hc : cf_wait (z_ru r) o key w s = z_up (z_up (z_up (z_up s (z_ru r) 2 2) (z_ru r) 5 o) (z_ru r) 6 key) 0 12 (z_wr (t 717 6 + (if w = 0 then 1 else 0))) := by
      unfold cf_wait
      rw [e7]
      funext a i
      by_cases ha : a = 0 ∧ i = 12
      · rw [ha.1, ha.2, z_up_ne (by omega), z_up_ne (by omega), z_up_ne (by omega), z_up_eq, z_up_eq]
      · rw [z_up_ne (show a ≠ 0 ∨ i ≠ 12 by omega)]
        simp only [z_upd]
        rw [if_neg ha]
    rw [hc]
    unfold mf_wait
    refine z_cN_up (z_cN_c (fun i x y => ?_) (fun a i x => ?_) (fun a i x => ?_) hN) (by omega)
    · rw [z_up_ne (by omega), z_up_ne (by omega), z_up_ne (by omega)]
    · rw [z_up_ne (by omega), z_up_ne (by omega), z_up_ne (by omega)]
    · rw [z_up_ne (by omega), z_up_ne (by omega), z_up_ne (by omega)]
  · rw [g1]; unfold cf_wait; rw [z_up_ne (by omega), z_up_ne (by omega), z_up_eq]
  · intro _; rw [g2, g3]; unfold cf_wait; rw [z_up_eq, z_up_ne (by omega), z_up_eq]; exact ⟨rfl, rfl⟩
  · intro q; omega
  · intro q; omega
/-- the top frame changes -/
def z_tf (t t' : z_M) (f r : Int) : Prop := ∀ a i, ¬ (725 ≤ a ∧ a ≤ 732 ∧ ¬ a = 731 ∧ i = f) → ¬ (a = 731 ∧ 32 * f ≤ i ∧ i < 32 * f + 32) → ¬ (a = 733 ∧ 64 * f ≤ i ∧ i < 64 * f + 64) → ¬ (a = 721 ∧ i = r) → t' a i = t a i
theorem z_KC_top {b : Bool} {r i : Int} {s s' t t' : z_M} (r0 : 0 ≤ r) (r1 : r < 5) (h : z_KC b r s t) (i0 : 0 ≤ i) (i1 : i < t 722 r) (hs : ∀ a j, ¬ (z_fA r i ≤ a ∧ a ≤ z_fA r i + 2) → ¬ (a = z_ru r ∧ j = 4) → s' a j = s a j) (h4 : s' (z_ru r) 4 = t' 721 r) (ht : z_tf t t' (30 * r + i) r) (hF : z_cF b s' t' (z_fA r i) (30 * r + i)) : z_KC b r s' t' ∧ z_fz b s s' := by
  obtain ⟨hE, hG, hV⟩ := h
  have hr := z_ru_rng r0 r1
  have hG3 := hG.2.1
  have hFb : z_ru r + 2 ≤ z_fA r i ∧ z_fA r i + 2 < z_ru r + 92 := by unfold z_fA; omega
  have m : ∀ a, 719 ≤ a → a ≤ 724 → ¬ a = 721 → t' a r = t a r := fun a x y z => ht a r (by omega) (by omega) (by omega) (by omega)
  have hsU : ∀ j, ¬ j = 4 → s' (z_ru r) j = s (z_ru r) j := fun j x => hs _ _ (by omega) (by omega)
  refine ⟨⟨z_cE_c r0 r1 (fun a j x y => hs a j (by omega) (by omega)) (hsU _ (by omega)) (fun a j x1 x2 x3 x4 x5 x6 => ht a j (by omega) (by omega) (by omega) (by omega)) (fun _ hN => z_cN_c (fun j _ _ => hs _ _ (by omega) (by omega)) (fun a j x => hs _ _ (by omega) (by omega)) (fun a j x => ht _ _ (by omega) (by omega) (by omega) (by omega)) hN) hE, z_cG_fr hG (hsU _ (by omega)) h4 (fun a j x y z => hs a j (by omega) (by omega)) (m 722 (by omega) (by omega) (by omega)) (fun g x y z => ⟨fun a p q w => ht a g (by omega) (by omega) (by omega) (by omega), fun j _ _ => ht _ _ (by omega) (by omega) (by omega) (by omega), fun j _ _ => ht _ _ (by omega) (by omega) (by omega) (by omega)⟩) hF, ?_⟩, z_fz_U r0 hE (fun a j x y => hs a j (by omega) (by omega))⟩
  unfold z_cV
  rw [hsU 2 (by omega), hsU 5 (by omega), hsU 6 (by omega), hsU 7 (by omega), hsU 8 (by omega), m 719 (by omega) (by omega) (by omega), m 720 (by omega) (by omega) (by omega), m 723 (by omega) (by omega) (by omega), m 724 (by omega) (by omega) (by omega)]
  exact hV
