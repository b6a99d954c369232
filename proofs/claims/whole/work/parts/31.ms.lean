/-! the reference: small methods -/
def z_gl (c t : z_M) (a i : Int) : Int := if a < 701 then c a i else t a i
theorem z_gl_lo {c t : z_M} {a i : Int} (h : a < 701) : z_gl c t a i = c a i := by unfold z_gl; rw [if_pos h]
theorem z_gl_hi {c t : z_M} {a i : Int} (h : 701 ≤ a) : z_gl c t a i = t a i := by unfold z_gl; rw [if_neg (by omega)]
theorem z_gl_up {c t : z_M} {a i v : Int} (h : 701 ≤ a) : z_up (z_gl c t) a i v = z_gl c (z_up t a i v) := by
  funext b j
  unfold z_up z_gl
  by_cases hb : b < 701
  · rw [if_pos hb, if_pos hb, if_neg (by omega)]
  · rw [if_neg hb, if_neg hb]
theorem z_gl_cp {c t : z_M} {a sp d dp n : Int} (ha : 701 ≤ a) (h : 701 ≤ d) : z_cp (z_gl c t) a sp d dp n = z_gl c (z_cp t a sp d dp n) := by
  funext b j
  unfold z_cp z_gl
  by_cases hb : b < 701
  · rw [if_pos hb, if_pos hb, if_neg (by omega)]
  · rw [if_neg hb, if_neg hb, if_neg (show ¬ a < 701 by omega)]
section MS
variable {e : z_E} {d : Nat} {σ c t : z_M} {Q : Int → z_M → Prop}
theorem s_M_in {v lo hi : Int} (h1 : lo ≤ v → v ≤ hi → Q 1 σ) (h0 : ¬ (lo ≤ v ∧ v ≤ hi) → Q 0 σ) : z_C e (d + 1) m_M_in [z_J v, z_J lo, z_J hi] σ Q := by
  refine b_M_in_0 ?_
  unfold z_lcmp
  by_cases g1 : lo ≤ v <;> by_cases g2 : v ≤ hi
  all_goals (repeat' (first | apply And.intro | intro _))
  all_goals first | exact h1 g1 g2 | (exact h0 (by omega)) | (exfalso; revert ‹_›; split <;> (try split) <;> omega) | skip
theorem z_div {k : Int} (h0 : 0 ≤ k) (h1 : k < 1212) : z_wr (Int.tdiv k 101) = k / 101 := by
  rw [Int.tdiv_eq_ediv_of_nonneg h0, z_wr_id (by omega) (by omega)]
theorem s_M_ruleOf {k : Int} (h0 : 0 ≤ k) (h1 : k < 1212) (h : Q (k / 101) σ) : z_C e (d + 1) m_M_ruleOf [z_I k] σ Q := by
  refine b_M_ruleOf_0 ⟨by omega, ?_⟩
  rw [z_div h0 h1]; exact h
theorem s_M_argumentOf {k : Int} (h0 : 0 ≤ k) (h1 : k < 1212) (h : Q (k % 101 - 50) σ) : z_C e (d + 1) m_M_argumentOf [z_I k] σ Q := by
  refine b_M_argumentOf_0 ⟨by omega, ?_⟩
  rw [Int.tdiv_eq_ediv_of_nonneg h0, z_wr_id (x := k - k / 101 * 101) (by omega) (by omega), z_wr_id (by omega) (by omega), show k - k / 101 * 101 - 50 = k % 101 - 50 by omega]
  exact h
theorem s_M_keyOf {r a : Int} (h0 : 0 ≤ r) (h1 : r < 12) (h2 : -50 ≤ a) (h3 : a ≤ 50) (h : Q (101 * r + a + 50) σ) : z_C e (d + 1) m_M_keyOf [z_I r, z_I a] σ Q := by
  refine b_M_keyOf_0 ?_
  simp (disch := omega) only [z_wr_id]
  exact h
theorem s_M_isKey {k : Int} (h1 : 0 ≤ k → k < 1212 → Q 1 σ) (h0 : ¬ (0 ≤ k ∧ k < 1212) → Q 0 σ) : z_C e (d + 2) m_M_isKey [z_J k] σ Q := by
  refine b_M_isKey_0 (s_M_in (fun a b => ?_) (fun a => ?_))
  · exact h1 a (by omega)
  · exact h0 (by omega)
theorem s_M_isTask {k : Int} (h1 : 0 ≤ k → k < 4 → Q 1 σ) (h0 : ¬ (0 ≤ k ∧ k < 4) → Q 0 σ) : z_C e (d + 2) m_M_isTask [z_I k] σ Q := by
  refine b_M_isTask_0 (s_M_in (fun a b => ?_) (fun a => ?_))
  · exact h1 a (by omega)
  · exact h0 (by omega)
theorem s_M_mayAsk {r a : Int} (h1 : 0 ≤ r → r < 12 → -50 ≤ a → a ≤ 50 → Q 1 σ) (h0 : ¬ ((0 ≤ r ∧ r < 12) ∧ -50 ≤ a ∧ a ≤ 50) → Q 0 σ) : z_C e (d + 2) m_M_mayAsk [z_I r, z_I a] σ Q := by
  refine b_M_mayAsk_0 (s_M_in (fun a b => ?_) (fun a => ?_))
  · refine ⟨fun w => absurd w (by omega), fun _ => s_M_in (fun a2 b2 => ?_) (fun a2 => ?_)⟩
    · exact ⟨fun w => absurd w (by omega), fun _ => h1 a (by omega) a2 b2⟩
    · exact ⟨fun _ => h0 (by omega), fun w => absurd rfl w⟩
  · exact ⟨fun _ => h0 (by omega), fun w => absurd rfl w⟩
def mf_top (r : Int) (t : z_M) : Int := 30 * r + t 722 r - 1
theorem s_M_top {r : Int} (h0 : 0 ≤ r) (h1 : r < 5) (h2 : 0 ≤ t 722 r) (h3 : t 722 r ≤ 30) (h : Q (mf_top r t) (z_gl c t)) : z_C e (d + 1) m_M_top [z_R 701, z_I r] (z_gl c t) Q := by
  refine b_M_top_0 ⟨⟨h0, h1⟩, ?_⟩
  simp (disch := omega) only [z_gl_hi, z_wr_id]
  exact h
def mf_clears (f : Int) (t : z_M) : z_M := z_up (z_up (z_up (z_up t 726 f 0) 729 f (z_shl 1 (12 + t 725 f / 101))) 730 f 0) 732 f 0
theorem s_M_clears {f : Int} (h0 : 0 ≤ f) (h1 : f < 150) (h2 : 0 ≤ t 725 f) (h3 : t 725 f < 1212) (h : Q 0 (z_gl c (mf_clears f t))) : z_C e (d + 2) m_M_clears [z_R 701, z_I f] (z_gl c t) Q := by
  refine b_M_clears_0 ⟨⟨h0, h1⟩, ⟨h0, h1⟩, ?_⟩
  simp (disch := omega) only [z_gl_hi, z_gl_up, z_up_ne]
  refine s_M_ruleOf h2 h3 ⟨⟨h0, h1⟩, ⟨h0, h1⟩, ⟨h0, h1⟩, ?_⟩
  simp (disch := omega) only [z_gl_hi, z_gl_up, z_wr_id]
  exact h
def mf_fails (r why : Int) (t : z_M) : z_M := z_up (z_up (z_up (z_up t 719 r 4) 720 r (-10000 - why)) 722 r 0) 717 2 (z_wr (t 717 2 + 1))
theorem s_M_fails {r why : Int} (h0 : 0 ≤ r) (h1 : r < 5) (h2 : 0 ≤ why) (h3 : why ≤ 6) (h : Q 0 (z_gl c (mf_fails r why t))) : z_C e (d + 1) m_M_fails [z_R 701, z_I r, z_I why] (z_gl c t) Q := by
  refine b_M_fails_0 ⟨⟨h0, h1⟩, ⟨h0, h1⟩, ⟨h0, h1⟩, by omega, by omega, ?_⟩
  rw [z_wr_id (x := -10000 - why) (by omega) (by omega)]
  simp (disch := omega) only [z_gl_hi, z_gl_up, z_up_ne]
  exact h
def mf_holds (f v : Int) (t : z_M) : z_M := z_up (z_up t 733 (64 * f + t 732 f) v) 732 f (t 732 f + 1)
theorem s_M_holds {f v : Int} (h0 : 0 ≤ f) (h1 : f < 150) (h2 : 0 ≤ t 732 f) (h3 : t 732 f < 64) (h : Q 0 (z_gl c (mf_holds f v t))) : z_C e (d + 1) m_M_holds [z_R 701, z_I f, z_I v] (z_gl c t) Q := by
  refine b_M_holds_0 ?_
  simp (disch := omega) only [z_gl_hi, z_gl_up, z_up_ne, z_wr_id]
  exact ⟨⟨h0, h1⟩, by omega, ⟨h0, h1⟩, ⟨h0, h1⟩, h⟩
def mf_taken (f : Int) (t : z_M) : z_M := z_up t 732 f (t 732 f - 1)
theorem s_M_taken {f : Int} (h0 : 0 ≤ f) (h1 : f < 150) (h2 : 1 ≤ t 732 f) (h3 : t 732 f ≤ 64) (h : Q (t 733 (64 * f + t 732 f - 1)) (z_gl c (mf_taken f t))) : z_C e (d + 1) m_M_taken [z_R 701, z_I f] (z_gl c t) Q := by
  refine b_M_taken_0 ?_
  simp (disch := omega) only [z_gl_hi, z_gl_up, z_up_ne, z_wr_id, z_up_eq]
  rw [show 64 * f + (t 732 f - 1) = 64 * f + t 732 f - 1 by omega]
  exact ⟨⟨h0, h1⟩, ⟨h0, h1⟩, ⟨h0, h1⟩, by omega, h⟩
def mf_goes (k : Int) (t : z_M) : z_M := z_up (z_up (z_up t 707 k 0) 701 22 (z_wr (t 701 22 - t 710 k))) 701 23 (z_wr (t 701 23 - 1))
theorem s_M_goes {k : Int} (h0 : 0 ≤ k) (h1 : k < 1212) (h : Q 0 (z_gl c (mf_goes k t))) : z_C e (d + 1) m_M_goes [z_R 701, z_I k] (z_gl c t) Q := by
  refine b_M_goes_0 ?_
  simp (disch := omega) only [z_gl_hi, z_gl_up, z_up_ne]
  exact ⟨⟨h0, h1⟩, Or.inl trivial, ⟨h0, h1⟩, h⟩
def mf_worth (k : Int) (t : z_M) : Int := if t 701 25 = 0 then t 711 k else if t 701 25 = 1 then t 712 k else if t 701 25 = 2 then t 709 k else z_wr (-(t 710 k))
theorem s_M_worth {k : Int} (h0 : 0 ≤ k) (h1 : k < 1212) (h : Q (mf_worth k t) (z_gl c t)) : z_C e (d + 1) m_M_worth [z_R 701, z_I k] (z_gl c t) Q := by
  refine b_M_worth_0 ?_
  simp (disch := omega) only [z_gl_hi]
  unfold mf_worth at h
  refine ⟨fun w => ⟨fun w2 => ⟨fun w3 => ⟨⟨h0, h1⟩, ?_⟩, fun w3 => ⟨⟨h0, h1⟩, ?_⟩⟩, fun w2 => ⟨⟨h0, h1⟩, ?_⟩⟩, fun w => ⟨⟨h0, h1⟩, ?_⟩⟩
  · rw [if_neg w, if_neg w2, if_neg w3] at h; exact h
  · rw [if_neg w, if_neg w2, if_pos w3] at h; exact h
  · rw [if_neg w, if_pos w2] at h; exact h
  · rw [if_pos w] at h; exact h
theorem s_M_isBusy {r : Int} (h0 : 0 ≤ r) (h1 : r < 5) (hb : t 719 r = 1 ∨ t 719 r = 2 → Q 1 (z_gl c t)) (hn : ¬ (t 719 r = 1 ∨ t 719 r = 2) → Q 0 (z_gl c t)) : z_C e (d + 1) m_M_isBusy [z_R 701, z_I r] (z_gl c t) Q := by
  refine b_M_isBusy_0 ?_
  simp (disch := omega) only [z_gl_hi]
  refine ⟨⟨h0, h1⟩, ?_⟩
  by_cases g1 : t 719 r = 1 <;> by_cases g2 : t 719 r = 2
  all_goals (repeat' (first | apply And.intro | intro _))
  all_goals first | exact hb (by omega) | exact hn (by omega) | omega
end MS
