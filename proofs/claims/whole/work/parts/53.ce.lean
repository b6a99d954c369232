/-! the class: small methods of runs -/
theorem z_kd_two {b : Bool} {r : Int} : z_kd b r = 2 ↔ b = true := by
  unfold z_kd
  cases b
  · simp only [Bool.false_eq_true, if_false]; constructor
    · intro h; split at h <;> omega
    · intro h; cases h
  · simp
section CE
variable {e : z_E} {d : Nat} {s c t : z_M} {Q : Int → z_M → Prop} {U : Int}
theorem s_U_top (hU : z_isU U) (h30 : s U 3 ≤ 30) (hn : s U 3 ≤ 0 → Q (-1) (z_gl s c)) (hp : 0 < s U 3 → Q (U + 1 + 1 + 3 * (s U 3 - 1)) (z_gl s c)) : z_C e (d + 1) m_U_top [z_R U] (z_gl s c) Q := by
  obtain ⟨k1, k2, k3, k4, k5⟩ := hU
  refine b_U_top_0 ?_
  simp (disch := omega) only [k1, k2, z_ckT, z_gl_lo, z_wr_id]
  exact ⟨hn, fun w => ⟨fun w2 => by omega, fun _ => by rw [z_wr_id (by omega) (by omega)]; exact ⟨by omega, hp w⟩⟩⟩
theorem s_U_isBusy (hU : z_isU U) (hb : s U 2 = 1 ∨ s U 2 = 2 → Q 1 (z_gl s c)) (hn : ¬ (s U 2 = 1 ∨ s U 2 = 2) → Q 0 (z_gl s c)) : z_C e (d + 1) m_U_isBusy [z_R U] (z_gl s c) Q := by
  obtain ⟨k1, k2, k3, k4, k5⟩ := hU
  refine b_U_isBusy_0 ?_
  simp (disch := omega) only [k1, z_ckT, z_gl_lo]
  exact ⟨fun w => hb (Or.inl w), fun w => ⟨fun w2 => hn (by omega), fun w2 => hb (Or.inr w2)⟩⟩
theorem s_U_renew {k : Int} (hU : z_isU U) (h : Q 0 (z_gl (z_up (z_up (z_up (z_up s U 1 k) U 2 0) U 3 0) U 4 0) c)) : z_C e (d + 1) m_U_renew [z_R U, z_I k] (z_gl s c) Q := by
  obtain ⟨k1, k2, k3, k4, k5⟩ := hU
  refine b_U_renew_0 ?_
  simp (disch := omega) only [k1, z_ckT, z_gl_lo, z_gl_ul]
  exact h
theorem s_U_outcome (hU : z_isU U) (h1 : ¬ s U 2 = 4 → Q (s U 7) (z_gl s c)) (h2 : s U 2 = 4 → 0 ≤ s U 8 ∧ s U 8 ≤ 6 ∧ Q (-10000 - s U 8) (z_gl s c)) : z_C e (d + 1) m_U_outcome [z_R U] (z_gl s c) Q := by
  obtain ⟨k1, k2, k3, k4, k5⟩ := hU
  refine b_U_outcome_0 ?_
  simp (disch := omega) only [k1, z_ckT, z_gl_lo]
  exact ⟨h1, fun w => by obtain ⟨a, b, q⟩ := h2 w; rw [z_wr_id (by omega) (by omega)]; exact q⟩
theorem s_U_hasFrameOf {key : Int} (hU : z_isU U) (h30 : s U 3 ≤ 30) (hy : (∃ i, 0 ≤ i ∧ i < s U 3 ∧ s (U + 1 + 1 + 3 * i) 3 = key) → Q 1 (z_gl s c)) (hn : ¬ (∃ i, 0 ≤ i ∧ i < s U 3 ∧ s (U + 1 + 1 + 3 * i) 3 = key) → Q 0 (z_gl s c)) (hF : ∀ i, 0 ≤ i → i < 30 → z_isF (U + 1 + 1 + 3 * i)) : z_C e (d + 1) m_U_hasFrameOf [z_R U, z_I key] (z_gl s c) Q := by
  obtain ⟨k1, k2, k3, k4, k5⟩ := hU
  refine b_U_hasFrameOf_0 ?_
  have loop : ∀ (n : Nat) (i : Int), 0 ≤ i → s U 3 - i ≤ (n : Int) → (∀ j, 0 ≤ j → j < i → ¬ s (U + 1 + 1 + 3 * j) 3 = key) → z_T e d m_U_hasFrameOf 2 [some (z_R U), some (z_I key), some (z_I i)] (z_gl s c) Q := by
    intro n
    induction n with
    | zero =>
      intro i hi hm hj
      refine b_U_hasFrameOf_2 ?_
      simp (disch := omega) only [k1, z_ckT, z_gl_lo]
      refine ⟨fun _ => hn ?_, fun w => by omega⟩
      rintro ⟨j, j0, j1, j2⟩
      exact hj j j0 (by omega) j2
    | succ n ih =>
      intro i hi hm hj
      refine b_U_hasFrameOf_2 ?_
      simp (disch := omega) only [k1, k2, z_ckT, z_gl_lo]
      refine ⟨fun _ => hn ?_, fun w => ⟨fun w2 => by omega, fun w2 => ⟨by omega, ?_⟩⟩⟩
      · rintro ⟨j, j0, j1, j2⟩
        exact hj j j0 (by omega) j2
      · obtain ⟨f1, -, -, f4, f5⟩ := hF i hi w2
        simp (disch := omega) only [f1, z_ckT, z_gl_lo, z_wr_id]
        refine ⟨fun w3 => ih (i + 1) (by omega) (by omega) (fun j j0 j1 => ?_), fun w3 => hy ⟨i, hi, w, w3⟩⟩
        by_cases hji : j = i
        · rw [hji]; exact w3
        · exact hj j j0 (by omega)
  exact loop (s U 3).toNat 0 (by omega) (by omega) (fun j a b => by omega)
def cf_fail0 (U why : Int) (s : z_M) : z_M := z_up (z_up (z_up s U 2 4) U 8 why) U 3 0
def cf_fail (b : Bool) (U why : Int) (s : z_M) : z_M := if b = true then cf_fail0 U why s else z_up (cf_fail0 U why s) 0 11 (z_wr (s 0 11 + 1))
theorem s_C_fail {b : Bool} {r why : Int} (hU : z_isU U) (hk : s U 1 = z_kd b r) (h : Q 0 (z_gl (cf_fail b U why s) c)) : z_C e (d + 2) m_C_fail [z_R 0, z_R U, z_I why] (z_gl s c) Q := by
  obtain ⟨k1, k2, k3, k4, k5⟩ := hU
  refine b_C_fail_0 ?_
  simp only [k1, z_ckT]
  refine b_U_failBy_0 ?_
  simp (disch := omega) only [k1, z_ckT, z_gl_lo, z_gl_ul, z_up_ne, hk]
  unfold cf_fail cf_fail0 at h
  refine ⟨fun w => ?_, fun w => ?_⟩
  · rw [if_pos (z_kd_two.mp w)] at h; exact h
  · rw [if_neg (fun q => w (z_kd_two.mpr q))] at h; exact h
/-- a frame begins -/
def cf_ubeg0 (U key T tm : Int) (s : z_M) : z_M := z_up (z_up (z_up (z_up s U 3 (s U 3 + 1)) (U + 1 + 1 + 3 * s U 3) 3 key) (U + 1 + 1 + 3 * s U 3) 2 T) (U + 1 + 1 + 3 * s U 3) 4 tm
def cf_ubeg (U key T tm : Int) (s : z_M) : z_M := z_up (cf_begin (U + 1 + 1 + 3 * s U 3) (s U 4) (cf_ubeg0 U key T tm s)) U 2 1
theorem s_U_begin {key T tm : Int} (hU : z_isU U) (h0 : 0 ≤ s U 3) (h1 : s U 3 < 30) (hF : z_isF (U + 1 + 1 + 3 * s U 3)) (hk0 : 0 ≤ key) (hk1 : key < 1212) (hT : 0 ≤ T ∧ T < 1000) (h : Q 0 (z_gl (cf_ubeg U key T tm s) c)) : z_C e (d + 2) m_U_begin [z_R U, z_I key, z_R T, z_I tm] (z_gl s c) Q := by
  have hF' := hF
  obtain ⟨k1, k2, k3, k4, k5⟩ := hU
  obtain ⟨f1, f2, f3, f4, f5⟩ := hF
  refine b_U_begin_0 ?_
  simp (disch := omega) only [k1, k2, f1, z_ckT, z_gl_lo, z_gl_ul, z_wr_id, z_up_ne]
  refine ⟨fun w => by omega, fun _ => ⟨fun _ => ⟨⟨h0, h1⟩, by unfold z_ir; omega, ?_⟩, fun w => by omega⟩⟩
  have e3 : cf_ubeg0 U key T tm s (U + 1 + 1 + 3 * s U 3) 3 = key := by unfold cf_ubeg0; rw [z_up_ne (by omega), z_up_ne (by omega), z_up_eq]
  refine s_F_begin hF' (by show 0 ≤ cf_ubeg0 U key T tm s (U + 1 + 1 + 3 * s U 3) 3; rw [e3]; exact hk0) (by show cf_ubeg0 U key T tm s (U + 1 + 1 + 3 * s U 3) 3 < 1212; rw [e3]; exact hk1) ?_
  rw [z_gl_ul (by omega)]
  exact h
theorem s_U_give {key v u : Int} (hU : z_isU U) (h0 : 0 ≤ s U 3) (h30 : s U 3 ≤ 30) (hn : s U 3 = 0 → Q 0 (z_gl (z_up (z_up s U 2 3) U 7 v) c)) (hF : 0 < s U 3 → z_isF (U + 1 + 1 + 3 * (s U 3 - 1)) ∧ (0 ≤ s (U + 1 + 1 + 3 * (s U 3 - 1)) 9 ∧ s (U + 1 + 1 + 3 * (s U 3 - 1)) 9 < 19) ∧ (0 ≤ s (U + 1 + 1 + 3 * (s U 3 - 1)) 8 ∧ s (U + 1 + 1 + 3 * (s U 3 - 1)) 8 < 25)) (hy : 0 < s U 3 → z_fas (U + 1 + 1 + 3 * (s U 3 - 1)) key s → Q 0 (z_gl (cf_take0 (U + 1 + 1 + 3 * (s U 3 - 1)) v u (z_up s U 2 1)) c)) (hy2 : 0 < s U 3 → ¬ z_fas (U + 1 + 1 + 3 * (s U 3 - 1)) key s → Q 0 (z_gl (cf_take1 (U + 1 + 1 + 3 * (s U 3 - 1)) key (cf_take0 (U + 1 + 1 + 3 * (s U 3 - 1)) v u (z_up s U 2 1))) c)) : z_C e (d + 3) m_U_give [z_R U, z_I key, z_I v, z_I u] (z_gl s c) Q := by
  have hU' := hU
  obtain ⟨k1, k2, k3, k4, k5⟩ := hU
  refine b_U_give_0 ?_
  simp only [k1, z_ckT]
  refine s_U_top hU' h30 (fun w => ⟨fun w2 => by omega, fun _ => ?_⟩) (fun w => ⟨fun _ => ?_, fun w2 => by omega⟩)
  · simp (disch := omega) only [z_gl_ul]
    exact hn (by omega)
  · obtain ⟨f, f1, f2⟩ := hF w
    have hy := hy w
    have hy2 := hy2 w
    generalize U + 1 + 1 + 3 * (s U 3 - 1) = F at *
    have f' := f
    obtain ⟨g1, g2, g3, g4, g5⟩ := f'
    have hUF : ¬ F = U := fun q => by rw [q] at g1; rw [z_ok, Bool.and_eq_true] at g1 k1; simp only [beq_iff_eq] at g1 k1; omega
    have hUF1 : ¬ F + 1 = U := fun q => by rw [q] at g2; rw [z_ok, Bool.and_eq_true] at g2 k1; simp only [beq_iff_eq] at g2 k1; omega
    have hfa : z_fas F key (z_up s U 2 1) ↔ z_fas F key s := by
      unfold z_fas
      rw [z_up_ne (by omega)]
      constructor
      · rintro ⟨i, i0, i1, i2⟩; rw [z_up_ne (by omega)] at i2; exact ⟨i, i0, i1, i2⟩
      · rintro ⟨i, i0, i1, i2⟩; exact ⟨i, i0, i1, by rw [z_up_ne (by omega)]; exact i2⟩
    simp (disch := omega) only [g1, z_ckT, z_gl_ul]
    exact s_F_take (d := d + 1) (Q := fun _ σ3 => Q 0 σ3) f (by rw [z_up_ne (by omega)]; exact f1.1) (by rw [z_up_ne (by omega)]; exact f1.2) (by rw [z_up_ne (by omega)]; exact f2.1) (by rw [z_up_ne (by omega)]; exact f2.2) (fun q => hy (hfa.mp q)) (fun q => hy2 (fun z => q (hfa.mpr z)))
end CE
/-! counters -/
theorem z_cN_up {s t : z_M} {i a j v : Int} (h : z_cN s t) (hi : (i = 7 ∧ a = 701 ∧ j = 26) ∨ (i = 9 ∧ a = 717 ∧ j = 0) ∨ (i = 10 ∧ a = 717 ∧ j = 1) ∨ (i = 11 ∧ a = 717 ∧ j = 2) ∨ (i = 12 ∧ a = 717 ∧ j = 6)) : z_cN (z_up s 0 i v) (z_up t a j v) := by
  obtain ⟨⟨a1, a2, a3, a4, a5, a6, a7, a8, a9⟩, ⟨b1, b2, b3⟩, c1, c2, c3⟩ := h
  have hr : ∀ x, z_up t a j v 703 x = t 703 x := fun x => z_up_ne (by omega)
  have hw : ∀ x, z_up t a j v 718 x = t 718 x := fun x => z_up_ne (by omega)
  have h4 : ∀ x, z_up s 0 i v 4 x = s 4 x := fun x => z_up_ne (by omega)
  have h9 : ∀ x, z_up s 0 i v 9 x = s 9 x := fun x => z_up_ne (by omega)
  unfold z_cN
  simp only [hr, hw, h4, h9]
  rw [z_up_ne (show (3 : Int) ≠ 0 ∨ (2 : Int) ≠ i by omega), z_up_ne (show (7 : Int) ≠ 0 ∨ (4 : Int) ≠ i by omega), z_up_ne (show (701 : Int) ≠ a ∨ (2 : Int) ≠ j by omega), z_up_ne (show (701 : Int) ≠ a ∨ (29 : Int) ≠ j by omega)]
  refine ⟨?_, ⟨b1, b2, b3⟩, c1, c2, c3⟩
  rcases hi with ⟨rfl, rfl, rfl⟩ | ⟨rfl, rfl, rfl⟩ | ⟨rfl, rfl, rfl⟩ | ⟨rfl, rfl, rfl⟩ | ⟨rfl, rfl, rfl⟩ <;> (simp [z_upd]; omega)
/-- a frame of a runner changes alone -/
theorem z_cG_fr {b : Bool} {s s' t t' : z_M} {r i : Int} (h : z_cG b s t r) (h3 : s' (z_ru r) 3 = s (z_ru r) 3) (h4 : s' (z_ru r) 4 = t' 721 r) (hs : ∀ a j, z_ru r + 2 ≤ a → a < z_ru r + 92 → ¬ (z_fA r i ≤ a ∧ a ≤ z_fA r i + 2) → s' a j = s a j) (e22 : t' 722 r = t 722 r) (hfe : ∀ g, 30 * r ≤ g → g < 30 * r + 30 → ¬ g = 30 * r + i → z_fe t t' g) (hF : z_cF b s' t' (z_fA r i) (30 * r + i)) : z_cG b s' t' r := by
  obtain ⟨⟨a1, a2⟩, a3, a4⟩ := h
  unfold z_cG
  rw [h3, h4, e22]
  refine ⟨⟨a1, rfl⟩, a3, fun j j0 j1 => ?_⟩
  by_cases hj : j = i
  · rw [hj]; exact hF
  · exact z_cF_c (fun a x y z => hs a x (by unfold z_fA at y; omega) (by unfold z_fA at z; omega) (by unfold z_fA at y z ⊢; omega)) (hfe _ (by omega) (by omega) (by omega)) (a4 j j0 j1)
