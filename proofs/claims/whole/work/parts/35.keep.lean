/-! the reference: what is kept, the bound -/
theorem z_sums_congr {t t' : z_M} (h : z_sums t) (h1 : ∀ k, t' 707 k = t 707 k) (h2 : ∀ k, t' 710 k = t 710 k) (h3 : t' 701 22 = t 701 22) (h4 : t' 701 23 = t 701 23) : z_sums t' := by
  obtain ⟨e1, e2, e3⟩ := h
  refine ⟨?_, ?_, fun k a b q => ?_⟩
  · rw [h3, e1]; exact (z_sum_congr 1212 (fun k _ _ => by rw [h1]) (fun k _ _ _ => h2 k)).symm
  · rw [h4, e2]; exact (z_sum_congr 1212 (fun k _ _ => by rw [h1]) (fun k _ _ _ => rfl)).symm
  · rw [h2]; rw [h1] at q; exact e3 k a b q
theorem mf_lw_kept {t : z_M} (h : z_sums t) (hw : 0 < t 701 22) : 0 ≤ mf_lw t 1212 ∧ mf_lw t 1212 < 1212 ∧ ¬ t 707 (mf_lw t 1212) = 0 := by
  rcases mf_lw_sp t 1212 with ⟨h1, h2⟩ | ⟨h1, h2, h3, h4⟩
  · have := z_sum_none (t := t) (g := t 710) 1212 h2
    rw [← h.1] at this; omega
  · exact ⟨h1, h2, h3⟩
def mf_bd1 (t : z_M) : z_M := z_up (mf_goes (mf_lw t 1212) t) 717 4 (z_wr (t 717 4 + 1))
def mf_hold : Nat → z_M → z_M
  | 0, t => t
  | n + 1, t => if t 701 30 = 0 then t else if t 701 22 ≤ t 701 24 then t else mf_hold n (mf_bd1 t)
theorem mf_bd1_sums {t : z_M} (h : z_sums t) (hw : 0 < t 701 22) : z_sums (mf_bd1 t) ∧ mf_bd1 t 701 23 = t 701 23 - 1 := by
  obtain ⟨k0, k1, k2⟩ := mf_lw_kept h hw
  obtain ⟨g1, g2, g3⟩ := z_sums_goes h k0 k1 k2
  have e : ∀ a i, ¬ a = 717 → mf_bd1 t a i = mf_goes (mf_lw t 1212) t a i := fun a i ha => z_up_ne (Or.inl ha)
  exact ⟨z_sums_congr g1 (fun k => e _ _ (by omega)) (fun k => e _ _ (by omega)) (e _ _ (by omega)) (e _ _ (by omega)), by rw [e _ _ (by omega)]; exact g2⟩
section MK
variable {e : z_E} {d : Nat} {c : z_M} {Q : Int → z_M → Prop}
theorem s_M_hold_loop : ∀ (n : Nat) (t : z_M), z_sums t → 0 ≤ t 701 24 → t 701 23 ≤ (n : Int) → Q 0 (z_gl c (mf_hold n t)) → z_T e (d + 2) m_M_holdsBound 0 [some (z_R 701)] (z_gl c t) Q := by
  intro n
  induction n with
  | zero =>
    intro t hs hb hn h
    have hr := z_sums_rng hs
    refine b_M_holdsBound_c0 ?_
    simp (disch := omega) only [z_gl_hi]
    refine ⟨fun _ => h, fun _ => ⟨fun _ => h, fun w => ?_⟩⟩
    obtain ⟨k0, k1, k2⟩ := mf_lw_kept hs (by omega)
    have := z_sum_one k2 k0 (show mf_lw t 1212 < ((1212 : Nat) : Int) from k1)
    have := hs.2.1
    omega
  | succ n ih =>
    intro t hs hb hn h
    refine b_M_holdsBound_c0 ?_
    simp (disch := omega) only [z_gl_hi]
    unfold mf_hold at h
    refine ⟨fun w => ?_, fun w => ⟨fun w2 => ?_, fun w2 => ?_⟩⟩
    · rw [if_pos w] at h; exact h
    · rw [if_neg w, if_pos w2] at h; exact h
    · rw [if_neg w, if_neg (by omega)] at h
      obtain ⟨k0, k1, k2⟩ := mf_lw_kept hs (by omega)
      obtain ⟨g1, g2⟩ := mf_bd1_sums hs (by omega)
      refine s_M_leastF (s_M_goes k0 k1 ⟨by omega, by omega, ?_⟩)
      rw [z_gl_up (by omega), z_gl_hi (by omega), show mf_goes (mf_lw t 1212) t 717 4 = t 717 4 by unfold mf_goes; simp [z_upd]]
      exact ih (mf_bd1 t) g1 (by rw [show mf_bd1 t 701 24 = t 701 24 by unfold mf_bd1 mf_goes; simp [z_upd]]; exact hb) (by omega) h
theorem s_M_holdsBound {t : z_M} (n : Nat) (hs : z_sums t) (hb : 0 ≤ t 701 24) (hn : t 701 23 ≤ (n : Int)) (h : Q 0 (z_gl c (mf_hold n t))) : z_C e (d + 3) m_M_holdsBound [z_R 701] (z_gl c t) Q := by
  have hl := s_M_hold_loop (e := e) (d := d) (Q := Q) n t hs hb hn h
  refine z_ent k_M_holdsBound l_M_holdsBound rfl (Nat.le_refl _) hl
/-- the keys that a frame asked go to a kept key -/
def mf_cpa (key f : Int) : Nat → z_M → z_M
  | 0, t => t
  | n + 1, t => z_up (mf_cpa key f n t) 716 (32 * key + (n : Int)) (t 731 (32 * f + (n : Int)))
theorem mf_cpa_ne {key f a i : Int} {t : z_M} (ha : ¬ a = 716) : ∀ n, mf_cpa key f n t a i = t a i
  | 0 => rfl
  | n + 1 => by unfold mf_cpa; rw [z_up_ne (Or.inl ha)]; exact mf_cpa_ne ha n
def mf_keep1 (r f v : Int) (t : z_M) : z_M := z_up (z_up (z_up (z_up (z_up (z_up (z_up (z_up t 707 (t 725 f) 1) 708 (t 725 f) v) 709 (t 725 f) (z_wr (t 721 r - t 727 f))) 710 (t 725 f) (2 + z_dig v + t 730 f)) 711 (t 725 f) (t 728 f)) 712 (t 725 f) 1) 713 (t 725 f) (t 729 f)) 715 (t 725 f) (t 730 f)
def mf_keep2 (key : Int) (t : z_M) : z_M := z_up (z_up (z_up (z_up (z_up t 701 21 (t 701 21 + 1)) 714 key (t 701 21 + 1)) 701 23 (t 701 23 + 1)) 701 22 (t 701 22 + t 710 key)) 717 5 (z_wr (t 717 5 + 1))
/-- a key is kept, without the bound -/
def mf_keep0 (r f v : Int) (t : z_M) : z_M := mf_keep2 (t 725 f) (mf_cpa (t 725 f) f (t 730 f).toNat (mf_keep1 r f v t))
def mf_keeps (r f v : Int) (t : z_M) : z_M := if t 707 (t 725 f) = 0 then mf_hold 1213 (mf_keep0 r f v t) else t
theorem z_dig_rng (v : Int) : 1 ≤ z_dig v ∧ z_dig v ≤ 4 := by unfold z_dig; split; omega; split; omega; split <;> omega
theorem mf_keep0_sums {r f v : Int} {t : z_M} (h : z_sums t) (h0 : 0 ≤ t 725 f) (h1 : t 725 f < 1212) (hk : t 707 (t 725 f) = 0) (hn0 : 0 ≤ t 730 f) (hn1 : t 730 f ≤ 25) : z_sums (mf_keep0 r f v t) ∧ mf_keep0 r f v t 701 23 = t 701 23 + 1 := by
  have hr := z_sums_rng h
  have hd := z_dig_rng v
  obtain ⟨e1, e2, e3⟩ := h
  have f707 : ∀ k, mf_keep0 r f v t 707 k = if k = t 725 f then 1 else t 707 k := fun k => by
    unfold mf_keep0 mf_keep2; rw [z_up_ne (by omega), z_up_ne (by omega), z_up_ne (by omega), z_up_ne (by omega), z_up_ne (by omega), mf_cpa_ne (by omega)]
    unfold mf_keep1; simp [z_upd]
  have f710 : ∀ k, mf_keep0 r f v t 710 k = if k = t 725 f then 2 + z_dig v + t 730 f else t 710 k := fun k => by
    unfold mf_keep0 mf_keep2; rw [z_up_ne (by omega), z_up_ne (by omega), z_up_ne (by omega), z_up_ne (by omega), z_up_ne (by omega), mf_cpa_ne (by omega)]
    unfold mf_keep1; simp [z_upd]
  have g710 : mf_cpa (t 725 f) f (t 730 f).toNat (mf_keep1 r f v t) 710 (t 725 f) = 2 + z_dig v + t 730 f := by
    rw [mf_cpa_ne (by omega)]; unfold mf_keep1; simp [z_upd]
  have g22 : mf_cpa (t 725 f) f (t 730 f).toNat (mf_keep1 r f v t) 701 22 = t 701 22 := by rw [mf_cpa_ne (by omega)]; unfold mf_keep1; simp [z_upd]
  have g23 : mf_cpa (t 725 f) f (t 730 f).toNat (mf_keep1 r f v t) 701 23 = t 701 23 := by rw [mf_cpa_ne (by omega)]; unfold mf_keep1; simp [z_upd]
  have f22 : mf_keep0 r f v t 701 22 = t 701 22 + (2 + z_dig v + t 730 f) := by
    unfold mf_keep0 mf_keep2; rw [z_up_ne (by omega), z_up_eq, g22, g710]
  have f23 : mf_keep0 r f v t 701 23 = t 701 23 + 1 := by
    unfold mf_keep0 mf_keep2; rw [z_up_ne (by omega), z_up_ne (by omega), z_up_eq, g23]
  have ha := z_sum_add (t := t) (t' := mf_keep0 r f v t) (g := t 710) (g' := mf_keep0 r f v t 710) hk (by rw [f707, if_pos rfl]; decide) (fun k hk => ⟨by rw [f707, if_neg hk], by rw [f710, if_neg hk]⟩) h0 1212
  have hb := z_sum_add (t := t) (t' := mf_keep0 r f v t) (g := fun _ => 1) (g' := fun _ => 1) hk (by rw [f707, if_pos rfl]; decide) (fun k hk => ⟨by rw [f707, if_neg hk], rfl⟩) h0 1212
  rw [if_pos (show t 725 f < ((1212 : Nat) : Int) by omega)] at ha hb
  refine ⟨⟨?_, ?_, fun k a1 a2 a3 => ?_⟩, f23⟩
  · rw [f22, ha, e1, f710, if_pos rfl]
  · rw [f23, hb, e2]
  · rw [f710]
    by_cases hkk : k = t 725 f
    · rw [if_pos hkk]; omega
    · rw [if_neg hkk]; rw [f707, if_neg hkk] at a3; exact e3 k a1 a2 a3
end MK
