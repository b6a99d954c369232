section MK2
variable {e : z_E} {d : Nat} {c : z_M} {Q : Int → z_M → Prop}
theorem s_M_keeps_loop {f key m : Int} {t0 : z_M} (hf0 : 0 ≤ f) (hf1 : f < 150) (hk0 : 0 ≤ key) (hk1 : key < 1212) (hm : t0 730 f = m) (hm0 : 0 ≤ m) (hm1 : m ≤ 25)
    (h : z_T e d m_M_keeps 125 [some (z_R 701), none, some (z_I f), none, some (z_I key), some (z_I m)] (z_gl c (mf_cpa key f m.toNat t0)) Q) :
    ∀ (n : Nat) (i : Int), 0 ≤ i → i + (n : Int) = m → z_T e d m_M_keeps 125 [some (z_R 701), none, some (z_I f), none, some (z_I key), some (z_I i)] (z_gl c (mf_cpa key f i.toNat t0)) Q := by
  intro n
  induction n with
  | zero =>
    intro i hi hn
    obtain rfl : i = m := by omega
    exact h
  | succ n ih =>
    intro i hi hn
    refine b_M_keeps_125 ⟨⟨hf0, hf1⟩, ?_⟩
    simp (disch := omega) only [z_gl_hi, z_gl_up, z_wr_id, mf_cpa_ne]
    refine ⟨fun w => by omega, fun w => ⟨by omega, by omega, ?_⟩⟩
    have := ih (i + 1) (by omega) (by omega)
    rw [show (i + 1).toNat = i.toNat + 1 by omega] at this
    unfold mf_cpa at this
    rw [show ((i.toNat : Nat) : Int) = i by omega] at this
    exact this
theorem s_M_keeps {r f v : Int} {t : z_M} (hr0 : 0 ≤ r) (hr1 : r < 5) (hf0 : 0 ≤ f) (hf1 : f < 150) (hk0 : 0 ≤ t 725 f) (hk1 : t 725 f < 1212) (hn0 : 0 ≤ t 730 f) (hn1 : t 730 f ≤ 25) (hv0 : -9999 ≤ v) (hv1 : v ≤ 9999) (hs : z_sumx t) (hb : 0 ≤ t 701 24) (hc0 : 0 ≤ t 701 21) (hc1 : t 701 21 < 100000000) (h : Q 0 (z_gl c (mf_keeps r f v t))) : z_C e (d + 4) m_M_keeps [z_R 701, z_I r, z_I f, z_I v] (z_gl c t) Q := by
  have hd := z_dig_rng v
  unfold mf_keeps at h
  refine b_M_keeps_0 ⟨⟨hf0, hf1⟩, ?_⟩
  simp (disch := omega) only [z_gl_hi, z_gl_up, z_up_ne]
  refine ⟨⟨hk0, hk1⟩, fun hk => ?_, fun hk => ?_⟩
  · rw [if_pos hk] at h
    refine ⟨⟨hk0, hk1⟩, Or.inr trivial, ⟨hk0, hk1⟩, ⟨hr0, hr1⟩, ⟨hf0, hf1⟩, ⟨hk0, hk1⟩, s_M_digits hv0 hv1 ?_⟩
    simp (disch := omega) only [z_gl_hi, z_gl_up, z_up_ne, z_wr_id]
    refine ⟨⟨hf0, hf1⟩, ⟨hk0, hk1⟩, ⟨hf0, hf1⟩, ⟨hk0, hk1⟩, ⟨hk0, hk1⟩, ⟨hf0, hf1⟩, ⟨hk0, hk1⟩, ⟨hf0, hf1⟩, ⟨hk0, hk1⟩, ?_⟩
    have hl := s_M_keeps_loop (e := e) (d := d + 3) (c := c) (Q := Q) (f := f) (key := t 725 f) (m := t 730 f) (t0 := mf_keep1 r f v t) hf0 hf1 hk0 hk1 (by unfold mf_keep1; simp [z_upd]) hn0 hn1 ?_ (t 730 f).toNat 0 (by omega) (by omega)
    · exact hl
    · obtain ⟨g1, g2⟩ := mf_keep0_sumx (v := v) (r := r) hs hk0 hk1 hk hn0 hn1
      have hr := z_sumx_rng hs
      have g710 : mf_keep1 r f v t 710 (t 725 f) = 2 + z_dig v + t 730 f := by unfold mf_keep1; simp [z_upd]
      have g : ∀ a i, (a = 701 ∨ a = 717 ∨ a = 730) → mf_keep1 r f v t a i = t a i := fun a i ha => by
        unfold mf_keep1
        rcases ha with rfl | rfl | rfl <;> simp [z_upd]
      refine b_M_keeps_125 ⟨⟨hf0, hf1⟩, ?_⟩
      simp (disch := omega) only [z_gl_hi, z_gl_up, mf_cpa_ne, z_up_ne, z_up_eq, g, g710]
      refine ⟨fun _ => ⟨⟨hk0, hk1⟩, ⟨hk0, hk1⟩, by omega, by omega, ?_⟩, fun w => by omega⟩
      rw [z_wr_id (x := t 701 21 + 1) (by omega) (by omega), z_wr_id (x := t 701 23 + 1) (by omega) (by omega), z_wr_id (x := t 701 22 + (2 + z_dig v + t 730 f)) (by omega) (by omega)]
      have he : z_up (z_up (z_up (z_up (z_up (mf_cpa (t 725 f) f (t 730 f).toNat (mf_keep1 r f v t)) 701 21 (t 701 21 + 1)) 714 (t 725 f) (t 701 21 + 1)) 701 23 (t 701 23 + 1)) 701 22 (t 701 22 + (2 + z_dig v + t 730 f))) 717 5 (z_wr (t 717 5 + 1)) = mf_keep0 r f v t := by
        unfold mf_keep0 mf_keep2
        simp (disch := omega) only [mf_cpa_ne, g, g710]
      rw [he]
      exact s_M_holdsBoundx g1 (by
        unfold mf_keep0 mf_keep2
        simp (disch := omega) only [z_up_ne, mf_cpa_ne, g]
        exact hb) h
  · rw [if_neg hk] at h; exact h
end MK2
