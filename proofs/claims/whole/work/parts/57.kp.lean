/-! the class: keeping -/
section KP
variable {e : z_E} {d : Nat} {s c t : z_M} {Q : Int → z_M → Prop}
theorem s_K_digits {v : Int} {σ : z_M} (h0 : -9999 ≤ v) (h1 : v ≤ 9999) (h : Q (z_dig v) σ) : z_C e (d + 1) m_K_digits [z_I (z_abs v)] σ Q := by
  have ha : 0 ≤ z_abs v ∧ z_abs v ≤ 9999 ∧ z_dig v = (if z_abs v ≤ 9 then 1 else if z_abs v ≤ 99 then 2 else if z_abs v ≤ 999 then 3 else 4) := by
    unfold z_abs z_dig
    by_cases hv : 0 ≤ v
    · simp only [if_pos hv]
      exact ⟨hv, h1, by split <;> split <;> (try split) <;> (try split) <;> (try split) <;> (try split) <;> omega⟩
    · simp only [if_neg hv]
      rw [z_wr_id (by omega) (by omega)]
      exact ⟨by omega, by omega, by split <;> split <;> (try split) <;> (try split) <;> (try split) <;> (try split) <;> omega⟩
  obtain ⟨a0, a1, a2⟩ := ha
  rw [a2] at h
  generalize z_abs v = x at *
  refine b_K_digits_0 ⟨fun w => ⟨fun w2 => ⟨fun w3 => ?_, fun w3 => ?_⟩, fun w2 => ?_⟩, fun w => ?_⟩
  · rw [if_pos w3] at h; exact h
  · rw [if_neg (by omega), if_pos w2] at h; exact h
  · rw [if_neg (by omega), if_neg (by omega), if_pos w] at h; exact h
  · rw [if_neg (by omega), if_neg (by omega), if_neg (by omega)] at h; exact h
def z_fl (A F v cost : Int) (s s' : z_M) : Prop := (∀ a i, ¬ a = A → ¬ a = A + 1 → s' a i = s a i) ∧ (s' A 1 = s F 3 ∧ s' A 2 = v ∧ s' A 3 = cost ∧ s' A 4 = 2 + z_dig v + s F 8 ∧ s' A 5 = s F 4 ∧ s' A 6 = 1 ∧ s' A 7 = s F 7 ∧ s' A 8 = s F 8) ∧ ∀ i, 0 ≤ i → i < s F 8 → s' (A + 1) i = s (F + 1) i
theorem s_K_fill {A F v cost : Int} (hA : z_isK A) (hF : z_isF F) (h9 : 0 < s F 9 ∧ s F 9 ≤ 19) (hv : s (F + 2) (s F 9 - 1) = v) (hv0 : -9999 ≤ v) (hv1 : v ≤ 9999) (h8 : 0 ≤ s F 8 ∧ s F 8 ≤ 25) (h : ∀ s', z_fl A F v cost s s' → Q 0 (z_gl s' c)) : z_C e (d + 2) m_K_fill [z_R A, z_R F, z_I cost] (z_gl s c) Q := by
  have hF' := hF
  obtain ⟨k1, k2, k3, k4, k5⟩ := hA
  obtain ⟨f1, f2, f3, f4, f5⟩ := hF
  refine b_K_fill_0 ?_
  simp only [k1, k2, f1, f2, z_ckT, Bool.and_self]
  rw [z_gl_lo (by omega), z_gl_ul (by omega)]
  refine s_F_value hF' (by rw [z_up_ne (by omega)]; exact h9.1) (by rw [z_up_ne (by omega)]; exact h9.2) ?_
  have hval : z_up s A 1 (s F 3) (F + 2) (z_up s A 1 (s F 3) F 9 - 1) = v := by rw [z_up_ne (by omega), z_up_ne (by omega)]; exact hv
  rw [hval]
  simp (disch := omega) only [z_gl_lo, z_gl_ul, z_up_ne, z_up_eq]
  generalize hs1 : z_up (z_up (z_up (z_up (z_up (z_up (z_up s A 1 (s F 3)) A 2 v) A 3 cost) A 5 (s F 4)) A 6 1) A 7 (s F 7)) A 8 (s F 8) = s1
  have g : ∀ a i, ¬ a = A → s1 a i = s a i := fun a i ha => by
    rw [← hs1, z_up_ne (by omega), z_up_ne (by omega), z_up_ne (by omega), z_up_ne (by omega), z_up_ne (by omega), z_up_ne (by omega), z_up_ne (by omega)]
  have gA : s1 A 1 = s F 3 ∧ s1 A 2 = v ∧ s1 A 3 = cost ∧ s1 A 5 = s F 4 ∧ s1 A 6 = 1 ∧ s1 A 7 = s F 7 ∧ s1 A 8 = s F 8 := by
    rw [← hs1]; simp [z_upd]
  refine ⟨⟨by omega, by omega, by omega, h8.1, by omega, by omega⟩, fun w => absurd w (by decide), by omega, ?_⟩
  rw [z_gl_cl (by omega) (by omega)]
  have e2 : z_gl (z_cp s1 (F + 1) 0 (A + 1) 0 (s F 8)) c A 2 = v := by
    rw [z_gl_lo (by omega)]; unfold z_cp; rw [if_neg (by omega)]; exact gA.2.1
  have e8 : z_cp s1 (F + 1) 0 (A + 1) 0 (s F 8) A 8 = s F 8 := by unfold z_cp; rw [if_neg (by omega)]; exact gA.2.2.2.2.2.2
  rw [e2]
  refine s_K_digits (d := d) hv0 hv1 ?_
  have hd := z_dig_rng v
  rw [z_gl_lo (by omega), e8, z_wr_id (x := 2 + z_dig v) (by omega) (by omega), z_wr_id (by omega) (by omega), z_gl_ul (by omega)]
  have gc : ∀ a i, ¬ a = A + 1 → z_cp s1 (F + 1) 0 (A + 1) 0 (s F 8) a i = s1 a i := fun a i ha => by unfold z_cp; rw [if_neg (by omega)]
  refine h _ ⟨fun a i x y => by rw [z_up_ne (by omega), gc a i y, g a i x], ⟨?_, ?_, ?_, z_up_eq, ?_, ?_, ?_, ?_⟩, fun i i0 i1 => ?_⟩
  · rw [z_up_ne (by omega), gc _ _ (by omega)]; exact gA.1
  · rw [z_up_ne (by omega), gc _ _ (by omega)]; exact gA.2.1
  · rw [z_up_ne (by omega), gc _ _ (by omega)]; exact gA.2.2.1
  · rw [z_up_ne (by omega), gc _ _ (by omega)]; exact gA.2.2.2.1
  · rw [z_up_ne (by omega), gc _ _ (by omega)]; exact gA.2.2.2.2.1
  · rw [z_up_ne (by omega), gc _ _ (by omega)]; exact gA.2.2.2.2.2.1
  · rw [z_up_ne (by omega), gc _ _ (by omega)]; exact gA.2.2.2.2.2.2
  · rw [z_up_ne (by omega)]
    unfold z_cp
    rw [if_pos (by omega), g _ _ (by omega), show 0 + (i - 0) = i by omega]
/-- what the store's work leaves -/
def z_sf (s s' : z_M) : Prop := ∀ a i, ¬ a = 8 → ¬ a = 10 → ¬ (11 ≤ a ∧ a ≤ 212) → ¬ (a = 7 ∧ (i = 2 ∨ i = 3 ∨ i = 8 ∨ i = 9)) → s' a i = s a i
theorem z_sf_tr {s s' s2 : z_M} (h : z_sf s s') (h2 : z_sf s' s2) : z_sf s s2 := fun a i x y z w => by rw [h2 a i x y z w, h a i x y z w]
theorem mf_hold_le : ∀ (n : Nat) (t : z_M), z_sums t → 0 ≤ t 701 24 → ¬ t 701 30 = 0 → t 701 23 ≤ (n : Int) → mf_hold n t 701 22 ≤ mf_hold n t 701 24
  | 0, t, hs, hb, h3, hn => by
    have hr := z_sums_rng hs
    show t 701 22 ≤ t 701 24
    have h0 : ∀ k : Int, 0 ≤ k → k < ((1212 : Nat) : Int) → t 707 k = 0 := fun k k0 k1 => by
      by_cases hk : t 707 k = 0
      · exact hk
      · have := z_sum_one hk k0 k1
        have := hs.2.1
        omega
    have := z_sum_none (t := t) (g := t 710) 1212 h0
    have := hs.1
    omega
  | n + 1, t, hs, hb, h3, hn => by
    unfold mf_hold
    rw [if_neg h3]
    by_cases hw : t 701 22 ≤ t 701 24
    · rw [if_pos hw]; exact hw
    · rw [if_neg hw]
      obtain ⟨g1, g2⟩ := mf_bd1_sums hs (by omega)
      exact mf_hold_le n _ g1 (by rw [mf_bd1_ne (by omega) (by omega) (by omega)]; exact hb) (by rw [mf_bd1_ne (by omega) (by omega) (by omega)]; exact h3) (by omega)
theorem mf_hold_stop {t : z_M} (hs : t 701 22 ≤ t 701 24) : ∀ N, mf_hold N t = t
  | 0 => rfl
  | N + 1 => by
    show (if t 701 30 = 0 then t else if t 701 22 ≤ t 701 24 then t else mf_hold N (mf_bd1 t)) = t
    by_cases h : t 701 30 = 0
    · rw [if_pos h]
    · rw [if_neg h, if_pos hs]
theorem s_S_shrink_loop : ∀ (n : Nat) (i : Int) (N : Nat) (s t : z_M), z_cS s t → s 7 8 = t 717 4 → z_sums t → 0 ≤ t 701 24 → ¬ t 701 30 = 0 → t 701 23 ≤ (n : Int) → 0 ≤ i → i + (n : Int) ≤ 101 → n ≤ N → (∀ s', z_cS s' (mf_hold N t) → s' 7 8 = mf_hold N t 717 4 → z_sf s s' → s' 7 9 = s 7 9 → Q 0 (z_gl s' c)) → z_T e (d + 2) m_S_shrink 2 [some (z_R 7), some (z_I i)] (z_gl s c) Q
  | 0, i, N, s, t, hS, h8, hs, hb, h3, hn, i0, i1, hN, h => by
    have hr := z_sums_rng hs
    have hle : t 701 22 ≤ t 701 24 := mf_hold_le 0 t hs hb h3 hn
    have h := h s
    rw [mf_hold_stop hle N] at h
    have h := h hS h8 (fun _ _ _ _ _ _ => rfl) rfl
    refine b_S_shrink_2 ⟨fun _ => h, fun _ => ?_⟩
    simp (disch := omega) only [z_gl_lo]
    have := hS.1.1
    exact ⟨fun _ => h, fun w => by omega⟩
  | n + 1, i, N, s, t, hS, h8, hs, hb, h3, hn, i0, i1, hN, h => by
    have hr := z_sums_rng hs
    obtain ⟨⟨a1, a2, a3, a4⟩, a5, ⟨a6, a7⟩, a8, a9, a10⟩ := id hS
    have stop : t 701 22 ≤ t 701 24 → Q 0 (z_gl s c) := fun w => by
      have h := h s
      rw [mf_hold_stop w N] at h
      exact h hS h8 (fun _ _ _ _ _ _ => rfl) rfl
    refine b_S_shrink_2 ⟨fun w => by omega, fun _ => ?_⟩
    simp (disch := omega) only [z_gl_lo]
    refine ⟨fun w => stop ?_, fun w => ⟨fun w2 => stop (by omega), fun w2 => ?_⟩⟩
    · exact mf_hold_le 0 t hs hb h3 (by omega)
    obtain ⟨N', rfl⟩ : ∃ N', N = N' + 1 := ⟨N - 1, by omega⟩
    refine s_S_leastWorth (d := d) hS w (fun p p0 p1 p2 => ?_)
    have hk := a8 p p0 p1
    refine s_S_remove (d := d + 1) a6 a5 p0 p1 hk.1 ?_
    rw [z_gl_lo (by omega), z_gl_ul (by omega), z_wr_id (x := i + 1) (by omega) (by omega)]
    have hm : mf_hold (N' + 1) t = mf_hold N' (mf_bd1 t) := by
      show (if t 701 30 = 0 then t else if t 701 22 ≤ t 701 24 then t else mf_hold N' (mf_bd1 t)) = _
      rw [if_neg h3, if_neg (by omega)]
    rw [hm] at h
    have hr2 := z_cS_rem hS hs p0 p1
    rw [p2] at hr2
    obtain ⟨g1, g2⟩ := mf_bd1_sums hs (by omega)
    have e78 : cf_rem p s 7 8 = s 7 8 := cf_rem_ne (by omega) (by omega) (by omega)
    have m174 : mf_goes (mf_lw t 1212) t 717 4 = t 717 4 := mf_goes_ne (by omega) (by omega)
    refine s_S_shrink_loop n (i + 1) N' _ _ ?_ ?_ g1 (by rw [mf_bd1_ne (by omega) (by omega) (by omega)]; exact hb) (by rw [mf_bd1_ne (by omega) (by omega) (by omega)]; exact h3) (by omega) (by omega) (by omega) (by omega) (fun s' q1 q2 q3 q4 => h s' q1 q2 (z_sf_tr (fun a j x y z w => ?_) q3) (by rw [q4, z_up_ne (by omega), cf_rem_ne (by omega) (by omega) (by omega)]))
    · exact z_cS_c (fun a j x y _ => z_up_ne (by omega)) (fun j x y _ => z_up_ne (by omega)) (fun a j x y => z_up_ne (by omega)) (fun j x y => z_up_ne (by omega)) hr2
    · rw [z_up_eq, e78, h8]
      unfold mf_bd1
      rw [z_up_eq]
    · rw [z_up_ne (by omega), cf_rem_ne (by omega) (by omega) (by omega)]
theorem s_S_shrink (hS : z_cS s t) (h8 : s 7 8 = t 717 4) (hs : z_sums t) (hb : 0 ≤ t 701 24) (h3 : ¬ t 701 30 = 0) (h : ∀ s', z_cS s' (mf_hold 1213 t) → s' 7 8 = mf_hold 1213 t 717 4 → z_sf s s' → s' 7 9 = s 7 9 → Q 0 (z_gl s' c)) : z_C e (d + 3) m_S_shrink [z_R 7] (z_gl s c) Q :=
  b_S_shrink_0 (s_S_shrink_loop 101 0 1213 s t hS h8 hs hb h3 (by have := hS.1.1; have := hS.2.1; omega) (by omega) (by omega) (by omega) h)
end KP
