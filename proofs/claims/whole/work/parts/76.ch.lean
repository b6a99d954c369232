/-! changes, in class and reference -/
theorem z_C_rM {e : z_E} {d y : Nat} {args : List z_V} {σ : z_M} {Q : Int → z_M → Prop} (h : z_rM σ → z_C e d y args σ Q) : z_C e d y args σ Q := fun r1 r2 => h r2 r1 r2
theorem mf_anq_ne {r w : Int} {t : z_M} {a j : Int} (hd : t 722 r ≤ 30) (h1 : ¬ ((a = 719 ∨ a = 722) ∧ j = r)) (h2 : ¬ (a = 717 ∧ j = 1)) (h3 : ¬ (725 ≤ a ∧ a ≤ 732 ∧ ¬ a = 731 ∧ 30 * r ≤ j ∧ j < 30 * r + 30)) : mf_anq r w t a j = t a j := by
  unfold mf_anq
  rcases mf_fi_sp t r w (t 722 r).toNat 0 (by omega) with ⟨f1, -⟩ | ⟨f1, f2, -⟩
  · rw [if_pos f1]
  · rw [if_neg (by omega)]; exact mf_an1_ne h1 h2 (by omega)
theorem mf_an_ne {r w : Int} {t : z_M} {a j : Int} (hd : t 722 r ≤ 30) (h1 : ¬ ((a = 719 ∨ a = 722) ∧ j = r)) (h2 : ¬ (a = 717 ∧ j = 1)) (h3 : ¬ (725 ≤ a ∧ a ≤ 732 ∧ ¬ a = 731 ∧ 30 * r ≤ j ∧ j < 30 * r + 30)) : mf_an r w t a j = t a j := by
  unfold mf_an
  split
  · exact mf_anq_ne hd h1 h2 h3
  · rfl
def z_d30 (t : z_M) : Prop := ∀ q, 0 ≤ q → q < 4 → t 722 q ≤ 30
theorem mf_an_22 {r w q : Int} {t : z_M} (hd : t 722 r ≤ 30) (hq : t 722 q ≤ 30) : mf_an r w t 722 q ≤ 30 := by
  by_cases hqr : q = r
  · subst hqr
    unfold mf_an mf_anq
    split
    · rcases mf_fi_sp t q w (t 722 q).toNat 0 (by omega) with ⟨f1, -⟩ | ⟨f1, f2, -⟩
      · rw [if_pos f1]; exact hq
      · rw [if_neg (by omega)]; rw [mf_an1_at.2.1]; omega
    · exact hq
  · rw [mf_an_ne hd (by omega) (by omega) (by omega)]; exact hq
theorem mf_ans_22 {w : Int} {t : z_M} (hd : z_d30 t) : ∀ n : Nat, n ≤ 4 → z_d30 (mf_ans w n t)
  | 0, _ => hd
  | n + 1, hn => fun q q0 q1 => mf_an_22 (mf_ans_22 hd n (by omega) n (by omega) (by omega)) (mf_ans_22 hd n (by omega) q q0 q1)
theorem mf_ans_ne {w : Int} {t : z_M} (hd : z_d30 t) {a j : Int} : ∀ n : Nat, n ≤ 4 → ¬ ((a = 719 ∨ a = 722) ∧ 0 ≤ j ∧ j < (n : Int)) → ¬ (a = 717 ∧ j = 1) → ¬ (725 ≤ a ∧ a ≤ 732 ∧ ¬ a = 731 ∧ 0 ≤ j ∧ j < 30 * (n : Int)) → mf_ans w n t a j = t a j
  | 0, _, _, _, _ => rfl
  | n + 1, hn, h1, h2, h3 => by
    show mf_an (n : Int) w (mf_ans w n t) a j = t a j
    rw [mf_an_ne (mf_ans_22 hd n (by omega) n (by omega) (by omega)) (by omega) h2 (by omega), mf_ans_ne hd n (by omega) (by omega) h2 (by omega)]
/-- the same where runners live -/
def z_rs5 (t t' : z_M) : Prop := (∀ a i, 719 ≤ a → a ≤ 733 → t' a i = t a i) ∧ t' 717 1 = t 717 1
theorem mf_fi_congr {t t' : z_M} {r w : Int} (h : ∀ i, t' 729 i = t 729 i) : ∀ (n : Nat) (i : Int), mf_fi t' r w n i = mf_fi t r w n i
  | 0, _ => rfl
  | n + 1, i => by unfold mf_fi; rw [h, mf_fi_congr h n]
theorem mf_an1_congr {t t' : z_M} {r i : Int} (h : z_rs5 t t') : z_rs5 (mf_an1 r i t) (mf_an1 r i t') := by
  obtain ⟨h1, h2⟩ := h
  refine ⟨fun a j a0 a1 => ?_, ?_⟩
  · unfold mf_an1 mf_clears
    rw [z_up_ne (b := a) (show a ≠ 717 ∨ j ≠ 1 by omega), z_up_ne (b := a) (show a ≠ 717 ∨ j ≠ 1 by omega), h1 721 r (by omega) (by omega), z_up_ne (b := 725) (show (725 : Int) ≠ 722 ∨ _ from Or.inl (by decide)), z_up_ne (b := 725) (show (725 : Int) ≠ 722 ∨ _ from Or.inl (by decide)), h1 725 _ (by omega) (by omega)]
    simp only [z_upd, h1 a j a0 a1]
  · rw [mf_an1_at.2.2.1, mf_an1_at.2.2.1, h2]
theorem mf_an_congr {t t' : z_M} {r w : Int} (h : z_rs5 t t') : z_rs5 (mf_an r w t) (mf_an r w t') := by
  have e19 := h.1 719 r (by omega) (by omega)
  have e22 := h.1 722 r (by omega) (by omega)
  have hf := mf_fi_congr (r := r) (w := w) (fun i => h.1 729 i (by omega) (by omega)) (t 722 r).toNat 0
  unfold mf_an mf_anq
  rw [e19, e22, hf]
  split
  · split
    · exact h
    · exact mf_an1_congr h
  · exact h
theorem mf_ans_congr {t t' : z_M} {w : Int} (h : z_rs5 t t') : ∀ n, z_rs5 (mf_ans w n t) (mf_ans w n t')
  | 0 => h
  | n + 1 => mf_an_congr (mf_ans_congr h n)
theorem z_sum_sub {t t' : z_M} {g : Int → Int} (hk : ∀ k, ¬ t' 707 k = 0 → t' 707 k = t 707 k) : ∀ n : Nat, (∀ k : Int, 0 ≤ k → k < (n : Int) → ¬ t 707 k = 0 → 0 ≤ g k) → z_sum t' g n ≤ z_sum t g n
  | 0, _ => Int.le_refl _
  | n + 1, h => by
    have ih := z_sum_sub hk n (fun k a b => h k a (by omega))
    unfold z_sum
    by_cases h1 : t' 707 (n : Int) = 0
    · rw [if_pos h1]
      by_cases h2 : t 707 (n : Int) = 0
      · rw [if_pos h2]; omega
      · rw [if_neg h2]; have := h n (by omega) (by omega) h2; omega
    · have := hk _ h1
      rw [if_neg h1, if_neg (by omega)]; omega
section CH
variable {e : z_E}
theorem s_M_beginsAnew {c t : z_M} {r w : Int} {d : Nat} {Q : Int → z_M → Prop} (r0 : 0 ≤ r) (r1 : r < 5) (w0 : 0 ≤ w) (w1 : w < 24) (hd : 0 ≤ t 722 r ∧ t 722 r ≤ 30) (hk : ∀ i, 0 ≤ i → i < t 722 r → 0 ≤ t 725 (30 * r + i) ∧ t 725 (30 * r + i) < 1212) (hq : Q 0 (z_gl c (mf_anq r w t))) : z_C e (d + 3) m_M_beginsAnew [z_R 701, z_I r, z_I w] (z_gl c t) Q := by
  unfold mf_anq at hq
  refine b_M_beginsAnew_0 ?_
  have loop : ∀ (n : Nat) (i : Int), 0 ≤ i → i + (n : Int) = t 722 r → mf_fi t r w (t 722 r).toNat 0 = mf_fi t r w n i → z_T e (d + 2) m_M_beginsAnew 2 [some (z_R 701), some (z_I r), some (z_I w), some (z_I i), none] (z_gl c t) Q := by
    intro n
    induction n with
    | zero =>
      intro i i0 i1 hf
      refine b_M_beginsAnew_2 ⟨⟨r0, r1⟩, ?_⟩
      simp (disch := omega) only [z_gl_hi]
      rw [hf, if_pos (show mf_fi t r w 0 i = -1 from rfl)] at hq
      exact ⟨fun _ => hq, fun z => by omega⟩
    | succ n ih =>
      intro i i0 i1 hf
      refine b_M_beginsAnew_2 ⟨⟨r0, r1⟩, ?_⟩
      simp (disch := omega) only [z_gl_hi, z_wr_id]
      refine ⟨fun z => by omega, fun _ => ⟨by omega, fun q => ?_, fun q => ⟨⟨r0, r1⟩, ?_⟩⟩⟩
      · refine ih (i + 1) (by omega) (by omega) (by rw [hf]; exact if_neg (fun z => q ((z_bt_M w0 (by omega)).mpr z)))
      · rw [hf, show mf_fi t r w (n + 1) i = i from if_pos ((z_bt_M w0 (show w < 32 by omega)).mp q), if_neg (by omega)] at hq
        rw [z_gl_up (by omega)]
        have e25 : z_up t 722 r (i + 1) 725 (30 * r + i) = t 725 (30 * r + i) := z_up_ne (by omega)
        have e21 : ∀ m : z_M, mf_clears (30 * r + i) m 721 r = m 721 r := fun m => by unfold mf_clears; rw [z_up_ne (by omega), z_up_ne (by omega), z_up_ne (by omega), z_up_ne (by omega)]
        have e17 : ∀ m : z_M, mf_clears (30 * r + i) m 717 1 = m 717 1 := fun m => by unfold mf_clears; rw [z_up_ne (by omega), z_up_ne (by omega), z_up_ne (by omega), z_up_ne (by omega)]
        refine s_M_clears (d := d) (by omega) (by omega) (by rw [e25]; exact (hk i i0 (by omega)).1) (by rw [e25]; exact (hk i i0 (by omega)).2) ⟨⟨r0, r1⟩, by omega, ⟨r0, r1⟩, by omega, by omega, ?_⟩
        simp (disch := omega) only [z_gl_hi, z_gl_up, z_up_ne, e21, e17]
        exact hq
  exact loop (t 722 r).toNat 0 (by omega) (by omega) rfl
theorem s_M_ans {c t : z_M} {w : Int} {d : Nat} {Q : Int → z_M → Prop} (w0 : 0 ≤ w) (w1 : w < 24) (hd : ∀ q, 0 ≤ q → q < 4 → (0 ≤ t 722 q ∧ t 722 q ≤ 30) ∧ ∀ i, 0 ≤ i → i < t 722 q → 0 ≤ t 725 (30 * q + i) ∧ t 725 (30 * q + i) < 1212) (hq : Q (t 701 29) (z_gl c (mf_ans w 4 t))) : z_T e (d + 3) m_M_changed 86 [some (z_R 701), some (z_I w), none, none, some (z_I 0)] (z_gl c t) Q := by
  have h30 : z_d30 t := fun q q0 q1 => (hd q q0 q1).1.2
  have loop : ∀ (m i : Nat), i + m = 4 → z_T e (d + 3) m_M_changed 86 [some (z_R 701), some (z_I w), none, none, some (z_I (i : Int))] (z_gl c (mf_ans w i t)) Q := by
    intro m
    induction m with
    | zero =>
      intro i hi
      obtain rfl : i = 4 := by omega
      refine b_M_changed_86 ⟨fun _ => ?_, fun z => by omega⟩
      rw [z_gl_hi (by omega), mf_ans_ne h30 4 (by omega) (by omega) (by omega) (by omega)]
      exact hq
    | succ m ih =>
      intro i hi
      have nx := ih (i + 1) (by omega)
      rw [show ((i + 1 : Nat) : Int) = (i : Int) + 1 by omega] at nx
      have e19 : mf_ans w i t 719 (i : Int) = t 719 (i : Int) := mf_ans_ne h30 i (by omega) (by omega) (by omega) (by omega)
      have e22 : mf_ans w i t 722 (i : Int) = t 722 (i : Int) := mf_ans_ne h30 i (by omega) (by omega) (by omega) (by omega)
      obtain ⟨hd1, hd2⟩ := hd i (by omega) (by omega)
      have an : t 719 (i : Int) = 1 ∨ t 719 (i : Int) = 2 → z_T e (d + 3) m_M_changed 114 [some (z_R 701), some (z_I w), none, none, some (z_I (i : Int))] (z_gl c (mf_ans w i t)) Q := fun hb => by
        refine b_M_changed_114 (s_M_beginsAnew (d := d) (by omega) (by omega) w0 w1 (by rw [e22]; exact hd1) (fun j j0 j1 => ?_) ?_)
        · rw [e22] at j1
          rw [mf_ans_ne h30 i (by omega) (by omega) (by omega) (by omega)]; exact hd2 j j0 j1
        · refine b_M_changed_121 ?_
          rw [z_wr_id (by omega) (by omega)]
          rw [show mf_ans w (i + 1) t = mf_anq (i : Int) w (mf_ans w i t) by
            show mf_an (i : Int) w (mf_ans w i t) = _
            unfold mf_an; rw [e19, if_pos hb]] at nx
          exact nx
      refine b_M_changed_86 ⟨fun z => by omega, fun _ => ⟨by omega, ?_⟩⟩
      simp (disch := omega) only [z_gl_hi, e19]
      refine ⟨fun q => an (Or.inl q), fun q => ⟨by omega, fun q2 => ?_, fun q2 => an (Or.inr q2)⟩⟩
      refine b_M_changed_121 ?_
      rw [z_wr_id (by omega) (by omega)]
      rw [show mf_ans w (i + 1) t = mf_ans w i t by
        show mf_an (i : Int) w (mf_ans w i t) = _
        unfold mf_an; rw [e19, if_neg (by omega)]] at nx
      exact nx
  exact loop 4 0 (by omega)
/-- the class: a run begins anew -/
def cf_an (r i : Int) (s : z_M) : z_M := z_up (z_up (cf_begin (z_fA r i) (s (z_ru r) 4) s) (z_ru r) 3 (i + 1)) (z_ru r) 2 1
theorem s_U_beginsAnew {c s t : z_M} {r w : Int} {d : Nat} {Q : Int → z_M → Prop} (r0 : 0 ≤ r) (r1 : r < 5) (w0 : 0 ≤ w) (w1 : w < 24) (hG : z_cG false s t r) (hn : mf_fi t r w (t 722 r).toNat 0 = -1 → Q 0 (z_gl s c)) (hy : ¬ mf_fi t r w (t 722 r).toNat 0 = -1 → Q 1 (z_gl (cf_an r (mf_fi t r w (t 722 r).toNat 0) s) c)) : z_C e (d + 2) m_U_beginsAnew [z_R (z_ru r), z_I (z_shl 1 w)] (z_gl s c) Q := by
  have hU := z_isU_ru r0 r1
  obtain ⟨u1, u2, u3, u4, u5⟩ := id hU
  obtain ⟨⟨g1, g2⟩, g3, g4⟩ := hG
  refine b_U_beginsAnew_0 ?_
  have loop : ∀ (n : Nat) (i : Int), 0 ≤ i → i + (n : Int) = t 722 r → mf_fi t r w (t 722 r).toNat 0 = mf_fi t r w n i → z_T e (d + 1) m_U_beginsAnew 2 [some (z_R (z_ru r)), some (z_I (z_shl 1 w)), some (z_I i)] (z_gl s c) Q := by
    intro n
    induction n with
    | zero =>
      intro i i0 i1 hf
      refine b_U_beginsAnew_2 ?_
      simp (disch := omega) only [u1, z_ckT, z_gl_lo]
      rw [g1]
      exact ⟨fun _ => hn (by rw [hf]; rfl), fun z => by omega⟩
    | succ n ih =>
      intro i i0 i1 hf
      have hF := z_isF_fA (r := r) (i := i) r0 r1 i0 (by omega)
      obtain ⟨x1, x2, x3, x4, x5⟩ := id hF
      have hfr := g4 i i0 (by omega)
      have h7 : s (z_fA r i) 7 = t 729 (30 * r + i) := (hfr.2.2.2.2 rfl).2
      have h3 : s (z_fA r i) 3 = t 725 (30 * r + i) := hfr.1.1
      refine b_U_beginsAnew_2 ?_
      rw [show z_ru r + 1 + 1 + 3 * i = z_fA r i from rfl]
      simp (disch := omega) only [u1, u2, x1, z_ckT, z_gl_lo, h7]
      rw [g1]
      refine ⟨fun z => by omega, fun _ => ⟨fun z => by omega, fun _ => ⟨by omega, fun q => ?_, fun q => ⟨by omega, ?_⟩⟩⟩⟩
      · rw [z_wr_id (by omega) (by omega)]
        have hb := (z_bt_C w0 (show w < 32 by omega)).mp q
        exact ih (i + 1) (by omega) (by omega) (by rw [hf]; exact if_neg (fun z => by rw [hb] at z; cases z))
      · have hb : z_bb (t 729 (30 * r + i)) w.toNat = true := by
          cases hb : z_bb (t 729 (30 * r + i)) w.toNat with
          | true => rfl
          | false => exact absurd ((z_bt_C w0 (show w < 32 by omega)).mpr hb) q
        have hfi : mf_fi t r w (t 722 r).toNat 0 = i := by rw [hf]; exact if_pos hb
        have hy := hy (by omega)
        rw [hfi] at hy
        refine s_F_begin (d := d) hF (by rw [h3]; exact hfr.2.1.1.1) (by rw [h3]; exact hfr.2.1.1.2) ?_
        rw [z_wr_id (by omega) (by omega), z_gl_ul (by omega), z_gl_ul (by omega)]
        exact hy
  exact loop (t 722 r).toNat 0 (by omega) (by omega) rfl
theorem cf_an_ne {r i : Int} {s : z_M} {a j : Int} (h1 : ¬ (a = z_ru r ∧ (j = 2 ∨ j = 3))) (h2 : ¬ (a = z_fA r i ∧ 5 ≤ j ∧ j ≤ 9)) : cf_an r i s a j = s a j := by
  unfold cf_an cf_begin
  rw [z_up_ne (by omega), z_up_ne (by omega), z_up_ne (by omega), z_up_ne (by omega), z_up_ne (by omega), z_up_ne (by omega), z_up_ne (by omega)]
theorem z_cR_an {s t : z_M} {r i : Int} (r0 : 0 ≤ r) (r1 : r < 4) (h : z_cR false s t r) (i0 : 0 ≤ i) (i1 : i < t 722 r) : z_cR false (cf_an r i s) (mf_an1 r i t) r := by
  obtain ⟨⟨⟨g1, g2⟩, g3, g4⟩, hV⟩ := h
  have hru := z_ru_rng (r := r) r0 (by omega)
  obtain ⟨a1, a2, a3, a4, a5, a6, a7, a8⟩ := mf_an1_at (r := r) (i := i) (t := t)
  have hne := fun a j x y z => mf_an1_ne (r := r) (i := i) (t := t) (a := a) (j := j) x y z
  have hFd : z_fA r i = z_ru r + 1 + 1 + 3 * i := rfl
  have c2 : cf_an r i s (z_ru r) 2 = 1 := by unfold cf_an; rw [z_up_eq]
  have c3 : cf_an r i s (z_ru r) 3 = i + 1 := by unfold cf_an; rw [z_up_ne (by omega), z_up_eq]
  have cF : cf_an r i s (z_fA r i) 5 = s (z_ru r) 4 ∧ cf_an r i s (z_fA r i) 6 = 0 ∧ cf_an r i s (z_fA r i) 7 = z_shl 1 (12 + s (z_fA r i) 3 / 101) ∧ cf_an r i s (z_fA r i) 8 = 0 ∧ cf_an r i s (z_fA r i) 9 = 0 := by
    unfold cf_an cf_begin
    refine ⟨?_, ?_, ?_, ?_, ?_⟩
    · rw [z_up_ne (by omega), z_up_ne (by omega), z_up_ne (by omega), z_up_ne (by omega), z_up_ne (by omega), z_up_ne (by omega), z_up_eq]
    · rw [z_up_ne (by omega), z_up_ne (by omega), z_up_ne (by omega), z_up_ne (by omega), z_up_ne (by omega), z_up_eq]
    · rw [z_up_ne (by omega), z_up_ne (by omega), z_up_ne (by omega), z_up_ne (by omega), z_up_eq]
    · rw [z_up_ne (by omega), z_up_ne (by omega), z_up_ne (by omega), z_up_eq]
    · rw [z_up_ne (by omega), z_up_ne (by omega), z_up_eq]
  refine ⟨⟨⟨by rw [c3, a2], by rw [cf_an_ne (by omega) (by omega), hne _ _ (by omega) (by omega) (by omega)]; exact g2⟩, by omega, fun j j0 j1 => ?_⟩, by rw [c2, a1], fun q => by omega, fun q => by omega, fun q => by omega⟩
  rw [a2] at j1
  by_cases hj : j = i
  · subst hj
    obtain ⟨⟨f1, f2, f3, f4, f5, f6⟩, ⟨b1, b2, b3⟩, k1, k2, k3⟩ := g4 j j0 i1
    unfold z_cF
    rw [cF.1, cF.2.1, cF.2.2.1, cF.2.2.2.1, cF.2.2.2.2, cf_an_ne (j := 3) (by omega) (by omega), cf_an_ne (j := 2) (by omega) (by omega), cf_an_ne (j := 4) (by omega) (by omega), a4, a5, a6, a7, a8, hne 725 _ (by omega) (by omega) (by omega), hne 728 _ (by omega) (by omega) (by omega), f1]
    exact ⟨⟨rfl, g2, rfl, rfl, rfl, f6⟩, ⟨b1, by omega, by omega⟩, fun p p0 p1 => by omega, fun p p0 p1 => by omega, fun hb => ⟨(k3 hb).1, rfl⟩⟩
  · exact z_cF_c (fun a p x y => cf_an_ne (by unfold z_fA at *; omega) (by unfold z_fA at *; omega)) ⟨fun a x y z => hne _ _ (by omega) (by omega) (by omega), fun p _ _ => hne _ _ (by omega) (by omega) (by omega), fun p _ _ => hne _ _ (by omega) (by omega) (by omega)⟩ (g4 j j0 (by omega))
end CH
