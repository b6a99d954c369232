/-! sums where a thought counts on -/
def z_sh2 (o p : Int) (t : z_M) : z_M := z_up (z_up t 701 22 (t 701 22 - o)) 701 23 (t 701 23 - p)
theorem z_sh2_ne {o p a i : Int} {t : z_M} (h : ¬ (a = 701 ∧ (i = 22 ∨ i = 23))) : z_sh2 o p t a i = t a i := by unfold z_sh2; rw [z_up_ne (by omega), z_up_ne (by omega)]
theorem z_sh2_at {o p : Int} {t : z_M} : z_sh2 o p t 701 22 = t 701 22 - o ∧ z_sh2 o p t 701 23 = t 701 23 - p := by
  unfold z_sh2; exact ⟨by rw [z_up_ne (by omega), z_up_eq], z_up_eq⟩
def z_sumx (t : z_M) : Prop := ∃ o p, ((0 ≤ o ∧ o ≤ 37572) ∧ (0 ≤ p ∧ p ≤ 1212) ∧ (¬ t 701 30 = 0 → o = 0 ∧ p = 0)) ∧ z_sums (z_sh2 o p t)
theorem z_sumx_to {t : z_M} (h : z_sumx t) (h3 : ¬ t 701 30 = 0) : z_sums t := by
  obtain ⟨o, p, ⟨h1, h2, h4⟩, hs⟩ := h
  obtain ⟨e1, e2⟩ := z_sh2_at (o := o) (p := p) (t := t)
  have := h4 h3
  exact z_sums_congr hs (fun k => (z_sh2_ne (by omega)).symm) (fun k => (z_sh2_ne (by omega)).symm) (by omega) (by omega)
theorem z_sumx_of {t : z_M} (h : z_sums t) : z_sumx t := by
  obtain ⟨e1, e2⟩ := z_sh2_at (o := 0) (p := 0) (t := t)
  exact ⟨0, 0, ⟨by omega, by omega, fun _ => ⟨rfl, rfl⟩⟩, z_sums_congr h (fun k => z_sh2_ne (by omega)) (fun k => z_sh2_ne (by omega)) (by omega) (by omega)⟩
theorem z_sumx_congr {t t' : z_M} (h : z_sumx t) (h1 : ∀ k, t' 707 k = t 707 k) (h2 : ∀ k, t' 710 k = t 710 k) (h3 : t' 701 22 = t 701 22) (h4 : t' 701 23 = t 701 23) (h5 : t' 701 30 = t 701 30) : z_sumx t' := by
  obtain ⟨o, p, ⟨g1, g2, g3⟩, hs⟩ := h
  obtain ⟨e1, e2⟩ := z_sh2_at (o := o) (p := p) (t := t)
  obtain ⟨e3, e4⟩ := z_sh2_at (o := o) (p := p) (t := t')
  refine ⟨o, p, ⟨g1, g2, by rw [h5]; exact g3⟩, z_sums_congr hs (fun k => ?_) (fun k => ?_) (by omega) (by omega)⟩
  · rw [z_sh2_ne (by omega), z_sh2_ne (by omega)]; exact h1 k
  · rw [z_sh2_ne (by omega), z_sh2_ne (by omega)]; exact h2 k
theorem z_sumx_rng {t : z_M} (h : z_sumx t) : 0 ≤ t 701 22 ∧ t 701 22 ≤ 75144 ∧ 0 ≤ t 701 23 ∧ t 701 23 ≤ 2424 := by
  obtain ⟨o, p, ⟨g1, g2, g3⟩, hs⟩ := h
  obtain ⟨e1, e2⟩ := z_sh2_at (o := o) (p := p) (t := t)
  have := z_sums_rng hs
  omega
theorem mf_keep0_ne' {r f v : Int} {t : z_M} {a i : Int} (h : ¬ (707 ≤ a ∧ a ≤ 716)) (h2 : ¬ (a = 701 ∧ 21 ≤ i ∧ i ≤ 23)) (h3 : ¬ (a = 717 ∧ i = 5)) : mf_keep0 r f v t a i = t a i := by
  unfold mf_keep0 mf_keep2
  rw [z_up_ne (by omega), z_up_ne (by omega), z_up_ne (by omega), z_up_ne (by omega), z_up_ne (by omega), mf_cpa_ne (by omega)]
  unfold mf_keep1
  rw [z_up_ne (by omega), z_up_ne (by omega), z_up_ne (by omega), z_up_ne (by omega), z_up_ne (by omega), z_up_ne (by omega), z_up_ne (by omega), z_up_ne (by omega)]
theorem mf_keep0_vals {r f v : Int} {t : z_M} : (∀ k, mf_keep0 r f v t 707 k = if k = t 725 f then 1 else t 707 k) ∧ (∀ k, mf_keep0 r f v t 710 k = if k = t 725 f then 2 + z_dig v + t 730 f else t 710 k) ∧ mf_keep0 r f v t 701 22 = t 701 22 + (2 + z_dig v + t 730 f) ∧ mf_keep0 r f v t 701 23 = t 701 23 + 1 := by
  have g710 : mf_cpa (t 725 f) f (t 730 f).toNat (mf_keep1 r f v t) 710 (t 725 f) = 2 + z_dig v + t 730 f := by
    rw [mf_cpa_ne (by omega)]; unfold mf_keep1; simp [z_upd]
  have g22 : mf_cpa (t 725 f) f (t 730 f).toNat (mf_keep1 r f v t) 701 22 = t 701 22 := by rw [mf_cpa_ne (by omega)]; unfold mf_keep1; simp [z_upd]
  have g23 : mf_cpa (t 725 f) f (t 730 f).toNat (mf_keep1 r f v t) 701 23 = t 701 23 := by rw [mf_cpa_ne (by omega)]; unfold mf_keep1; simp [z_upd]
  refine ⟨fun k => ?_, fun k => ?_, ?_, ?_⟩
  · unfold mf_keep0 mf_keep2; rw [z_up_ne (by omega), z_up_ne (by omega), z_up_ne (by omega), z_up_ne (by omega), z_up_ne (by omega), mf_cpa_ne (by omega)]
    unfold mf_keep1; simp [z_upd]
  · unfold mf_keep0 mf_keep2; rw [z_up_ne (by omega), z_up_ne (by omega), z_up_ne (by omega), z_up_ne (by omega), z_up_ne (by omega), mf_cpa_ne (by omega)]
    unfold mf_keep1; simp [z_upd]
  · unfold mf_keep0 mf_keep2; rw [z_up_ne (by omega), z_up_eq, g22, g710]
  · unfold mf_keep0 mf_keep2; rw [z_up_ne (by omega), z_up_ne (by omega), z_up_eq, g23]
theorem mf_keep0_sumx {r f v : Int} {t : z_M} (h : z_sumx t) (h0 : 0 ≤ t 725 f) (h1 : t 725 f < 1212) (hk : t 707 (t 725 f) = 0) (hn0 : 0 ≤ t 730 f) (hn1 : t 730 f ≤ 25) : z_sumx (mf_keep0 r f v t) ∧ mf_keep0 r f v t 701 23 = t 701 23 + 1 := by
  obtain ⟨o, p, ⟨g1, g2, g3⟩, hs⟩ := h
  obtain ⟨v1, v2, v3, v4⟩ := mf_keep0_vals (r := r) (f := f) (v := v) (t := t)
  obtain ⟨w1, w2, w3, w4⟩ := mf_keep0_vals (r := r) (f := f) (v := v) (t := z_sh2 o p t)
  obtain ⟨e1, e2⟩ := z_sh2_at (o := o) (p := p) (t := t)
  obtain ⟨e3, e4⟩ := z_sh2_at (o := o) (p := p) (t := mf_keep0 r f v t)
  have e25 : z_sh2 o p t 725 f = t 725 f := z_sh2_ne (by omega)
  have e30 : z_sh2 o p t 730 f = t 730 f := z_sh2_ne (by omega)
  have hs2 := (mf_keep0_sums (r := r) (f := f) (v := v) hs (by rw [e25]; exact h0) (by rw [e25]; exact h1) (by rw [e25, z_sh2_ne (by omega)]; exact hk) (by rw [e30]; exact hn0) (by rw [e30]; exact hn1)).1
  rw [e25, e30] at w2
  rw [e25] at w1
  rw [e30] at w3
  refine ⟨⟨o, p, ⟨g1, g2, by rw [mf_keep0_ne' (by omega) (by omega) (by omega)]; exact g3⟩, z_sums_congr hs2 (fun k => ?_) (fun k => ?_) (by omega) (by omega)⟩, v4⟩
  · rw [z_sh2_ne (by omega), w1, v1, z_sh2_ne (by omega)]
  · rw [z_sh2_ne (by omega), w2, v2, z_sh2_ne (by omega)]
theorem mf_bd1_30 {t : z_M} : mf_bd1 t 701 30 = t 701 30 ∧ mf_bd1 t 701 24 = t 701 24 := by
  unfold mf_bd1 mf_goes
  constructor <;> rw [z_up_ne (by omega), z_up_ne (by omega), z_up_ne (by omega), z_up_ne (by omega)]
theorem mf_hold_sumx : ∀ (n : Nat) (t : z_M), z_sumx t → 0 ≤ t 701 24 → z_sumx (mf_hold n t)
  | 0, t, h, _ => h
  | n + 1, t, h, hb => by
    show z_sumx (if t 701 30 = 0 then t else if t 701 22 ≤ t 701 24 then t else mf_hold n (mf_bd1 t))
    by_cases h3 : t 701 30 = 0
    · rw [if_pos h3]; exact h
    · rw [if_neg h3]
      by_cases hw : t 701 22 ≤ t 701 24
      · rw [if_pos hw]; exact h
      · rw [if_neg hw]
        have hs := z_sumx_to h h3
        exact mf_hold_sumx n _ (z_sumx_of (mf_bd1_sums hs (by omega)).1) (by rw [mf_bd1_30.2]; exact hb)
section SX
variable {e : z_E} {d : Nat} {c : z_M} {Q : Int → z_M → Prop}
theorem s_M_holdsBoundx {t : z_M} (hs : z_sumx t) (hb : 0 ≤ t 701 24) (h : Q 0 (z_gl c (mf_hold 1213 t))) : z_C e (d + 3) m_M_holdsBound [z_R 701] (z_gl c t) Q := by
  by_cases h3 : t 701 30 = 0
  · refine z_ent k_M_holdsBound l_M_holdsBound rfl (Nat.le_refl _) ?_
    refine b_M_holdsBound_c0 (d := d + 2) ?_
    simp (disch := omega) only [z_gl_hi]
    rw [show mf_hold 1213 t = t from if_pos h3] at h
    exact ⟨fun _ => h, fun w => absurd h3 w⟩
  · have hs' := z_sumx_to hs h3
    have := z_sums_rng hs'
    exact s_M_holdsBound 1213 hs' hb (by omega) h
end SX
