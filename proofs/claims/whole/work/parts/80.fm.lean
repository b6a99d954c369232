/-! thinking afresh: the reference sets aside and takes back -/
theorem z_cp_ne {t : z_M} {a sp x dp n b j : Int} (h : ¬ (b = x ∧ dp ≤ j ∧ j < dp + n)) : z_cp t a sp x dp n b j = t b j := if_neg h
theorem z_cp_in {t : z_M} {a sp x dp n j : Int} (h : dp ≤ j ∧ j < dp + n) : z_cp t a sp x dp n x j = t a (sp + (j - dp)) := if_pos ⟨rfl, h⟩
def mf_sv (t : z_M) : z_M := z_cp (z_cp (z_cp (z_cp (z_cp (z_cp (z_cp (z_cp (z_cp (z_cp (z_cp t 707 0 734 0 1212) 716 0 736 0 38784) 717 0 737 0 7) 708 0 735 0 1212) 709 0 735 1212 1212) 710 0 735 2424 1212) 711 0 735 3636 1212) 712 0 735 4848 1212) 713 0 735 6060 1212) 714 0 735 7272 1212) 715 0 735 8484 1212
def mf_bk (t : z_M) : z_M := z_cp (z_cp (z_cp (z_cp (z_cp (z_cp (z_cp (z_cp (z_cp (z_cp (z_cp t 734 0 707 0 1212) 736 0 716 0 38784) 737 0 717 0 7) 735 0 708 0 1212) 735 1212 709 0 1212) 735 2424 710 0 1212) 735 3636 711 0 1212) 735 4848 712 0 1212) 735 6060 713 0 1212) 735 7272 714 0 1212) 735 8484 715 0 1212
theorem mf_sv_ne {t : z_M} {a i : Int} (h : ¬ (734 ≤ a ∧ a ≤ 737)) : mf_sv t a i = t a i := by
  unfold mf_sv
  rw [z_cp_ne (by omega), z_cp_ne (by omega), z_cp_ne (by omega), z_cp_ne (by omega), z_cp_ne (by omega), z_cp_ne (by omega), z_cp_ne (by omega), z_cp_ne (by omega), z_cp_ne (by omega), z_cp_ne (by omega), z_cp_ne (by omega)]
theorem mf_bk_ne {t : z_M} {a i : Int} (h : ¬ (707 ≤ a ∧ a ≤ 717)) : mf_bk t a i = t a i := by
  unfold mf_bk
  rw [z_cp_ne (by omega), z_cp_ne (by omega), z_cp_ne (by omega), z_cp_ne (by omega), z_cp_ne (by omega), z_cp_ne (by omega), z_cp_ne (by omega), z_cp_ne (by omega), z_cp_ne (by omega), z_cp_ne (by omega), z_cp_ne (by omega)]
theorem mf_sv_734 {t : z_M} {i : Int} (h0 : 0 ≤ i) (h1 : i < 1212) : mf_sv t 734 i = t 707 i := by
  unfold mf_sv
  simp (disch := omega) only [z_cp_ne, z_cp_in]
  rw [show (0 : Int) + (i - 0) = i by omega]
theorem mf_sv_736 {t : z_M} {i : Int} (h0 : 0 ≤ i) (h1 : i < 38784) : mf_sv t 736 i = t 716 i := by
  unfold mf_sv
  simp (disch := omega) only [z_cp_ne, z_cp_in]
  rw [show (0 : Int) + (i - 0) = i by omega]
theorem mf_sv_737 {t : z_M} {i : Int} (h0 : 0 ≤ i) (h1 : i < 7) : mf_sv t 737 i = t 717 i := by
  unfold mf_sv
  simp (disch := omega) only [z_cp_ne, z_cp_in]
  rw [show (0 : Int) + (i - 0) = i by omega]
theorem mf_bk_707 {t : z_M} {i : Int} (h0 : 0 ≤ i) (h1 : i < 1212) : mf_bk t 707 i = t 734 i := by
  unfold mf_bk
  simp (disch := omega) only [z_cp_ne, z_cp_in]
  rw [show (0 : Int) + (i - 0) = i by omega]
theorem mf_bk_716 {t : z_M} {i : Int} (h0 : 0 ≤ i) (h1 : i < 38784) : mf_bk t 716 i = t 736 i := by
  unfold mf_bk
  simp (disch := omega) only [z_cp_ne, z_cp_in]
  rw [show (0 : Int) + (i - 0) = i by omega]
theorem mf_bk_717 {t : z_M} {i : Int} (h0 : 0 ≤ i) (h1 : i < 7) : mf_bk t 717 i = t 737 i := by
  unfold mf_bk
  simp (disch := omega) only [z_cp_ne, z_cp_in]
  rw [show (0 : Int) + (i - 0) = i by omega]
/-- a row set aside comes back -/
theorem mf_sv_bk {t u : z_M} {a i : Int} (a0 : 708 ≤ a) (a1 : a ≤ 715) (h0 : 0 ≤ i) (h1 : i < 1212) (h : ∀ j, u 735 j = mf_sv t 735 j) : mf_bk u a i = t a i := by
  rcases (show a = 708 ∨ a = 709 ∨ a = 710 ∨ a = 711 ∨ a = 712 ∨ a = 713 ∨ a = 714 ∨ a = 715 by omega) with rfl | rfl | rfl | rfl | rfl | rfl | rfl | rfl <;>
  · unfold mf_bk
    simp (disch := omega) only [z_cp_ne, z_cp_in, h]
    unfold mf_sv
    simp (disch := omega) only [z_cp_ne, z_cp_in]
    congr 1
    omega
def mf_c7 : Nat → z_M → z_M
  | 0, t => t
  | n + 1, t => z_up (mf_c7 n t) 707 n 0
theorem mf_c7_ne {t : z_M} {a i : Int} (h : ¬ a = 707) : ∀ n, mf_c7 n t a i = t a i
  | 0 => rfl
  | n + 1 => by unfold mf_c7; rw [z_up_ne (by omega)]; exact mf_c7_ne h n
theorem mf_c7_at {t : z_M} {i : Int} : ∀ n : Nat, 0 ≤ i → i < (n : Int) → mf_c7 n t 707 i = 0
  | 0, h0, h1 => by omega
  | n + 1, h0, h1 => by
    unfold mf_c7
    by_cases hi : i = (n : Int)
    · rw [hi, z_up_eq]
    · rw [z_up_ne (by omega)]; exact mf_c7_at n h0 (by omega)
/-- the memory of a thought, its end, and what is then taken back -/
def mf_f0 (t : z_M) : z_M := z_up (mf_c7 1212 (mf_sv t)) 701 30 0
def mf_f1 (k : Int) (t : z_M) : z_M := mf_run 2001 4 (mf_ask 4 k 0 (z_up (z_up (mf_f0 t) 721 4 0) 722 4 0))
def mf_f2 (k : Int) (t : z_M) : z_M := z_up (z_up (z_up (z_up (mf_bk (z_up (z_up (mf_f1 k t) 722 4 0) 701 30 1)) 701 23 (t 701 23)) 701 22 (t 701 22)) 701 21 (t 701 21)) 701 26 (t 701 26)
section FM
variable {e : z_E} {c t : z_M}
theorem s_M_aside {i x p : Int} {d : Nat} {Q : Int → z_M → Prop} (i0 : 0 ≤ i) (i1 : i < 8) (hx : z_ok z_NT 101212 x = true) (x0 : 701 ≤ x) (hp : 1212 * i = p) (h : Q 0 (z_gl c (z_cp t x 0 735 p 1212))) : z_C e (d + 2) m_M_aside [z_R 701, z_I i, z_R x] (z_gl c t) Q := by
  have h5 : z_ok z_NT 109696 735 = true := by decide +kernel
  refine b_M_aside_0 ?_
  rw [z_wr_id (by omega) (by omega), hp, z_gl_cp x0 (by omega)]
  simp only [hx, h5, Bool.and_true, Bool.true_and, z_ckT]
  exact ⟨by omega, fun q => absurd q (by decide), h⟩
theorem s_M_again {i x p : Int} {d : Nat} {Q : Int → z_M → Prop} (i0 : 0 ≤ i) (i1 : i < 8) (hx : z_ok z_NT 101212 x = true) (x0 : 701 ≤ x) (hp : 1212 * i = p) (h : Q 0 (z_gl c (z_cp t 735 p x 0 1212))) : z_C e (d + 2) m_M_again [z_R 701, z_I i, z_R x] (z_gl c t) Q := by
  have h5 : z_ok z_NT 109696 735 = true := by decide +kernel
  refine b_M_again_0 ?_
  rw [z_wr_id (by omega) (by omega), hp, z_gl_cp (by omega) x0]
  simp only [hx, h5, Bool.and_true, Bool.true_and, z_ckT]
  exact ⟨by omega, fun q => absurd q (by decide), h⟩
theorem s_M_fresh {rl ar : Int} {Q : Int → z_M → Prop} (hx : z_MX (mf_f0 t) 4) (hc : t 701 21 < 90000000) (hb : ∀ i, 0 ≤ i → i < 1212 → t 707 i = 0 ∨ t 707 i = 1) (r0 : 0 ≤ rl) (r1 : rl < 12) (a0 : -50 ≤ ar) (a1 : ar ≤ 50) (hq : Q (mf_f2 (101 * rl + ar + 50) t 720 4) (z_gl c (mf_f2 (101 * rl + ar + 50) t))) : z_C e 1000 m_M_fresh [z_R 701, z_I rl, z_I ar] (z_gl c t) Q := by
  have k8 : z_ok z_NT 101212 708 = true := by decide +kernel
  have k9 : z_ok z_NT 101212 709 = true := by decide +kernel
  have k10 : z_ok z_NT 101212 710 = true := by decide +kernel
  have k11 : z_ok z_NT 101212 711 = true := by decide +kernel
  have k12 : z_ok z_NT 101212 712 = true := by decide +kernel
  have k13 : z_ok z_NT 101212 713 = true := by decide +kernel
  have k14 : z_ok z_NT 101212 714 = true := by decide +kernel
  have k15 : z_ok z_NT 101212 715 = true := by decide +kernel
  refine b_M_fresh_0 (d := 999) (s_M_mayAsk (d := 997) (fun _ _ _ _ => ⟨fun _ => ⟨by omega, fun _ i i0 i1 => by rw [z_gl_hi (by omega)]; exact hb i i0 i1, by omega, fun q => absurd q (by decide), by omega, fun q => absurd q (by decide), ?_⟩, fun z => by omega⟩) (fun z => by omega))
  rw [z_gl_cp (by omega) (by omega), z_gl_cp (by omega) (by omega), z_gl_cp (by omega) (by omega)]
  refine s_M_aside (d := 997) (p := 0) (by omega) (by omega) k8 (by omega) (by omega) (s_M_aside (d := 997) (p := 1212) (by omega) (by omega) k9 (by omega) (by omega) (s_M_aside (d := 997) (p := 2424) (by omega) (by omega) k10 (by omega) (by omega) (s_M_aside (d := 997) (p := 3636) (by omega) (by omega) k11 (by omega) (by omega) (s_M_aside (d := 997) (p := 4848) (by omega) (by omega) k12 (by omega) (by omega) (s_M_aside (d := 997) (p := 6060) (by omega) (by omega) k13 (by omega) (by omega) (s_M_aside (d := 997) (p := 7272) (by omega) (by omega) k14 (by omega) (by omega) (s_M_aside (d := 997) (p := 8484) (by omega) (by omega) k15 (by omega) (by omega) ?_)))))))
  simp (disch := omega) only [z_gl_hi]
  show z_T e 999 m_M_fresh 158 [some (z_R 701), some (z_I rl), some (z_I ar), some (z_I (t 701 23)), some (z_I (t 701 22)), some (z_I (t 701 21)), some (z_I (t 701 26)), some (z_I 0)] (z_gl c (mf_sv t)) Q
  have loop : ∀ (m i : Nat), i + m = 1212 → z_T e 999 m_M_fresh 158 [some (z_R 701), some (z_I rl), some (z_I ar), some (z_I (t 701 23)), some (z_I (t 701 22)), some (z_I (t 701 21)), some (z_I (t 701 26)), some (z_I (i : Int))] (z_gl c (mf_c7 i (mf_sv t))) Q := by
    intro m
    induction m with
    | zero =>
      intro i hi
      obtain rfl : i = 1212 := by omega
      refine b_M_fresh_158 ⟨fun _ => ⟨Or.inl rfl, ?_⟩, fun z => by omega⟩
      rw [z_gl_up (by omega), show z_up (mf_c7 1212 (mf_sv t)) 701 30 0 = mf_f0 t from rfl]
      have e21 : mf_f0 t 701 21 = t 701 21 := by unfold mf_f0; rw [z_up_ne (by omega), mf_c7_ne (by omega), mf_sv_ne (by omega)]
      refine s_M_runs (d := 925) hx (by omega) r0 r1 a0 a1 ?_
      rw [show mf_run 2001 4 (mf_ask 4 (101 * rl + ar + 50) 0 (z_up (z_up (mf_f0 t) 721 4 0) 722 4 0)) = mf_f1 (101 * rl + ar + 50) t from rfl]
      have h4 : z_r4 (mf_f0 t) (mf_f1 (101 * rl + ar + 50) t) := mf_whole_r4 hx (by omega)
      refine ⟨Or.inr rfl, by omega, fun _ i i0 i1 => ?_, by omega, fun q => absurd q (by decide), by omega, fun q => absurd q (by decide), ?_⟩
      · rw [z_gl_up (by omega), z_gl_hi (by omega), z_up_ne (by omega), z_up_ne (by omega), h4 _ _ (by omega) (by omega) (by omega) (by omega)]
        unfold mf_f0
        rw [z_up_ne (by omega), mf_c7_ne (by omega), mf_sv_734 i0 i1]
        exact hb i i0 i1
      rw [z_gl_up (by omega), z_gl_cp (by omega) (by omega), z_gl_cp (by omega) (by omega), z_gl_cp (by omega) (by omega)]
      refine s_M_again (d := 997) (p := 0) (by omega) (by omega) k8 (by omega) (by omega) (s_M_again (d := 997) (p := 1212) (by omega) (by omega) k9 (by omega) (by omega) (s_M_again (d := 997) (p := 2424) (by omega) (by omega) k10 (by omega) (by omega) (s_M_again (d := 997) (p := 3636) (by omega) (by omega) k11 (by omega) (by omega) (s_M_again (d := 997) (p := 4848) (by omega) (by omega) k12 (by omega) (by omega) (s_M_again (d := 997) (p := 6060) (by omega) (by omega) k13 (by omega) (by omega) (s_M_again (d := 997) (p := 7272) (by omega) (by omega) k14 (by omega) (by omega) (s_M_again (d := 997) (p := 8484) (by omega) (by omega) k15 (by omega) (by omega) ?_)))))))
      refine ⟨by omega, ?_⟩
      simp (disch := omega) only [z_gl_up, z_gl_hi]
      exact hq
    | succ m ih =>
      intro i hi
      have nx := ih (i + 1) (by omega)
      rw [show ((i + 1 : Nat) : Int) = (i : Int) + 1 by omega] at nx
      refine b_M_fresh_158 ⟨fun z => by omega, fun _ => ⟨by omega, Or.inl rfl, ?_⟩⟩
      rw [z_wr_id (by omega) (by omega), z_gl_up (by omega)]
      exact nx
  exact loop 1212 0 (by omega)
end FM
