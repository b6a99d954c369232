/-! the reference: searches -/
section ML
variable {e : z_E} {d : Nat} {σ c t : z_M} {Q : Int → z_M → Prop}
def z_has (t : z_M) (r key : Int) : Prop := ∃ i, 0 ≤ i ∧ i < t 722 r ∧ t 725 (30 * r + i) = key
theorem s_M_hasFrame {r key : Int} (h0 : 0 ≤ r) (h1 : r < 5) (h3 : t 722 r ≤ 30) (hy : z_has t r key → Q 1 (z_gl c t)) (hn : ¬ z_has t r key → Q 0 (z_gl c t)) : z_C e (d + 1) m_M_hasFrame [z_R 701, z_I r, z_I key] (z_gl c t) Q := by
  refine b_M_hasFrame_0 ?_
  have loop : ∀ (n : Nat) (i : Int), 0 ≤ i → t 722 r - i ≤ (n : Int) → (∀ j, 0 ≤ j → j < i → ¬ t 725 (30 * r + j) = key) → z_T e d m_M_hasFrame 2 [some (z_R 701), some (z_I r), some (z_I key), some (z_I i)] (z_gl c t) Q := by
    intro n
    induction n with
    | zero =>
      intro i hi hm hj
      refine b_M_hasFrame_2 ⟨⟨h0, h1⟩, ?_⟩
      simp (disch := omega) only [z_gl_hi]
      refine ⟨fun _ => hn ?_, fun w => by omega⟩
      rintro ⟨j, j0, j1, j2⟩
      exact hj j j0 (by omega) j2
    | succ n ih =>
      intro i hi hm hj
      refine b_M_hasFrame_2 ⟨⟨h0, h1⟩, ?_⟩
      simp (disch := omega) only [z_gl_hi]
      refine ⟨fun _ => hn ?_, fun w => ?_⟩
      · rintro ⟨j, j0, j1, j2⟩
        exact hj j j0 (by omega) j2
      · simp (disch := omega) only [z_wr_id]
        refine ⟨by omega, fun w2 => ih (i + 1) (by omega) (by omega) (fun j j0 j1 => ?_), fun w2 => hy ⟨i, hi, w, w2⟩⟩
        by_cases hji : j = i
        · rw [hji]; exact w2
        · exact hj j j0 (by omega)
  exact loop (t 722 r).toNat 0 (by omega) (by omega) (fun j j0 j1 => by omega)
def z_tkOf (t : z_M) (key but b : Int) : Prop := (b = -1 ∧ ∀ r, 0 ≤ r → r < 4 → ¬ r = but → ¬ z_has t r key) ∨ (0 ≤ b ∧ b < 4 ∧ ¬ b = but ∧ z_has t b key ∧ ∀ r, 0 ≤ r → r < b → ¬ r = but → ¬ z_has t r key)
theorem s_M_taskOf {key but : Int} (h3 : ∀ r, 0 ≤ r → r < 4 → t 722 r ≤ 30) (h : ∀ b, z_tkOf t key but b → Q b (z_gl c t)) : z_C e (d + 2) m_M_taskOf [z_R 701, z_I key, z_I but] (z_gl c t) Q := by
  refine b_M_taskOf_0 ?_
  have loop : ∀ (n : Nat) (i : Int), 0 ≤ i → i + (n : Int) = 4 → (∀ r, 0 ≤ r → r < i → ¬ r = but → ¬ z_has t r key) → z_T e (d + 1) m_M_taskOf 2 [some (z_R 701), some (z_I key), some (z_I but), some (z_I i)] (z_gl c t) Q := by
    intro n
    induction n with
    | zero =>
      intro i hi hm hj
      refine b_M_taskOf_2 ⟨fun _ => h _ (Or.inl ⟨rfl, fun r a b => hj r a (by omega)⟩), fun w => by omega⟩
    | succ n ih =>
      intro i hi hm hj
      have nxt : (i = but ∨ ¬ z_has t i key) → z_T e (d + 1) m_M_taskOf 23 [some (z_R 701), some (z_I key), some (z_I but), some (z_I i)] (z_gl c t) Q := fun hq => by
        refine b_M_taskOf_23 ?_
        rw [z_wr_id (by omega) (by omega)]
        refine ih (i + 1) (by omega) (by omega) (fun r a b hr => ?_)
        by_cases hri : r = i
        · subst hri; exact hq.resolve_left hr
        · exact hj r a (by omega) hr
      refine b_M_taskOf_2 ⟨fun w => by omega, fun w => ⟨fun w2 => nxt (Or.inl w2), fun w2 => s_M_hasFrame hi (by omega) (h3 i hi (by omega)) (fun w3 => ⟨fun w4 => by omega, fun _ => h i (Or.inr ⟨hi, w, w2, w3, hj⟩)⟩) (fun w3 => ⟨fun _ => nxt (Or.inr w3), fun w4 => absurd rfl w4⟩)⟩⟩
  exact loop 4 0 (by omega) (by omega) (fun r a b => by omega)
/-- whether a chain of waits comes to a task -/
def z_wal (t : z_M) (whom : Int) : Nat → Int → Prop
  | 0, _ => False
  | n + 1, one => t 719 one = 2 ∧ (t 723 one = whom ∨ (¬ t 723 one = whom ∧ z_wal t whom n (t 723 one)))
theorem s_M_waitsAtLast {one whom : Int} (h0 : 0 ≤ one) (h1 : one < 4) (hw : ∀ r, 0 ≤ r → r < 4 → t 719 r = 2 → 0 ≤ t 723 r ∧ t 723 r < 4) (hy : z_wal t whom 4 one → Q 1 (z_gl c t)) (hn : ¬ z_wal t whom 4 one → Q 0 (z_gl c t)) : z_C e (d + 1) m_M_waitsAtLast [z_R 701, z_I one, z_I whom] (z_gl c t) Q := by
  refine b_M_waitsAtLast_0 ?_
  have loop : ∀ (n : Nat) (i o : Int), 0 ≤ i → i + (n : Int) = 4 → 0 ≤ o → o < 4 → (z_wal t whom n o → Q 1 (z_gl c t)) → (¬ z_wal t whom n o → Q 0 (z_gl c t)) → z_T e d m_M_waitsAtLast 5 [some (z_R 701), none, some (z_I whom), some (z_I o), some (z_I i)] (z_gl c t) Q := by
    intro n
    induction n with
    | zero => intro i o hi hm o0 o1 gy gn; exact b_M_waitsAtLast_5 ⟨fun _ => gn id, fun w => by omega⟩
    | succ n ih =>
      intro i o hi hm o0 o1 gy gn
      refine b_M_waitsAtLast_5 ⟨fun w => by omega, fun w => ⟨⟨o0, by omega⟩, ?_⟩⟩
      simp (disch := omega) only [z_gl_hi, z_wr_id]
      refine ⟨fun w2 => gn (fun q => w2 q.1), fun w2 => ⟨⟨o0, by omega⟩, fun w3 => ?_, fun w3 => gy ⟨w2, Or.inl w3⟩⟩⟩
      obtain ⟨q0, q1⟩ := hw o o0 o1 w2
      exact ih (i + 1) _ (by omega) (by omega) q0 q1 (fun q => gy ⟨w2, Or.inr ⟨w3, q⟩⟩) (fun q => gn (fun q2 => q (q2.2.resolve_left w3).2))
  exact loop 4 0 one (by omega) (by omega) h0 h1 hy hn
def z_dig (v : Int) : Int := if -9 ≤ v ∧ v ≤ 9 then 1 else if -99 ≤ v ∧ v ≤ 99 then 2 else if -999 ≤ v ∧ v ≤ 999 then 3 else 4
theorem s_M_digits {v : Int} (h0 : -9999 ≤ v) (h1 : v ≤ 9999) (h : Q (z_dig v) σ) : z_C e (d + 2) m_M_digits [z_I v] σ Q := by
  refine b_M_digits_0 ⟨by omega, by omega, ?_⟩
  have ha : ∃ a, z_abs v = a ∧ 0 ≤ a ∧ a ≤ 9999 ∧ z_dig v = (if a ≤ 9 then 1 else if a ≤ 99 then 2 else if a ≤ 999 then 3 else 4) := by
    unfold z_abs z_dig
    by_cases hv : 0 ≤ v
    · rw [if_pos hv]
      exact ⟨v, rfl, hv, h1, by split <;> split <;> (try split) <;> (try split) <;> (try split) <;> (try split) <;> omega⟩
    · rw [if_neg hv, z_wr_id (by omega) (by omega)]
      exact ⟨0 - v, rfl, by omega, by omega, by split <;> split <;> (try split) <;> (try split) <;> (try split) <;> (try split) <;> omega⟩
  obtain ⟨a, e1, a0, a1, e2⟩ := ha
  rw [e1]
  rw [e2] at h
  have hd : ∀ x : Int, 0 ≤ x → x ≤ 9999 → z_wr (Int.tdiv x 10) = x / 10 := fun x x0 x1 => by rw [Int.tdiv_eq_ediv_of_nonneg x0, z_wr_id (by omega) (by omega)]
  rw [hd a a0 a1]
  refine b_M_digits_10 ⟨fun w => ?_, fun w => ⟨by omega, ?_⟩⟩
  · rw [if_pos (by omega)] at h; exact h
  rw [if_neg (by omega)] at h
  rw [hd (a / 10) (by omega) (by omega), z_wr_id (by omega) (by omega)]
  refine b_M_digits_10 ⟨fun w => ?_, fun w => ⟨by omega, ?_⟩⟩
  · rw [if_pos (by omega)] at h; exact h
  rw [if_neg (by omega)] at h
  rw [hd (a / 10 / 10) (by omega) (by omega), z_wr_id (by omega) (by omega)]
  refine b_M_digits_10 ⟨fun w => ?_, fun w => ⟨by omega, ?_⟩⟩
  · rw [if_pos (by omega)] at h; exact h
  rw [if_neg (by omega)] at h
  rw [hd (a / 10 / 10 / 10) (by omega) (by omega), z_wr_id (by omega) (by omega)]
  exact b_M_digits_10 ⟨fun w => h, fun w => by omega⟩
/-- the kept key below n that is worth least, the least key of like ones -/
def z_lw (t : z_M) (n b : Int) : Prop := (b = -1 ∧ ∀ k, 0 ≤ k → k < n → t 707 k = 0) ∨ (0 ≤ b ∧ b < n ∧ ¬ t 707 b = 0 ∧ ∀ k, 0 ≤ k → k < n → ¬ t 707 k = 0 → mf_worth b t < mf_worth k t ∨ (mf_worth b t = mf_worth k t ∧ b ≤ k))
theorem s_M_leastWorth (h : ∀ b, z_lw t 1212 b → Q b (z_gl c t)) : z_C e (d + 2) m_M_leastWorth [z_R 701] (z_gl c t) Q := by
  refine b_M_leastWorth_0 ?_
  have loop : ∀ (n : Nat) (i b : Int), 0 ≤ i → i + (n : Int) = 1212 → z_lw t i b → z_T e (d + 1) m_M_leastWorth 4 [some (z_R 701), some (z_I b), some (z_I i)] (z_gl c t) Q := by
    intro n
    induction n with
    | zero =>
      intro i b hi hm hb
      obtain rfl : i = 1212 := by omega
      exact b_M_leastWorth_4 ⟨fun _ => h b hb, fun w => by omega⟩
    | succ n ih =>
      intro i b hi hm hb
      have nxt : ∀ b', z_lw t (i + 1) b' → z_T e (d + 1) m_M_leastWorth 40 [some (z_R 701), some (z_I b'), some (z_I i)] (z_gl c t) Q := fun b' hb' => by
        refine b_M_leastWorth_40 ?_
        rw [z_wr_id (by omega) (by omega)]
        exact ih (i + 1) b' (by omega) (by omega) hb'
      refine b_M_leastWorth_4 ⟨fun w => by omega, fun w => ⟨⟨hi, w⟩, ?_⟩⟩
      simp (disch := omega) only [z_gl_hi]
      refine ⟨fun w2 => nxt b ?_, fun w2 => ⟨fun w3 => b_M_leastWorth_38 (nxt i ?_), fun w3 => ?_⟩⟩
      · rcases hb with ⟨rfl, hb⟩ | ⟨b0, b1, b2, b3⟩
        · refine Or.inl ⟨rfl, fun k k0 k1 => ?_⟩
          by_cases hk : k = i
          · rw [hk]; exact w2
          · exact hb k k0 (by omega)
        · refine Or.inr ⟨b0, by omega, b2, fun k k0 k1 k2 => ?_⟩
          by_cases hk : k = i
          · rw [hk] at k2; exact absurd w2 k2
          · exact b3 k k0 (by omega) k2
      · rcases hb with ⟨rfl, hb⟩ | ⟨b0, b1, b2, b3⟩
        · refine Or.inr ⟨hi, by omega, w2, fun k k0 k1 k2 => ?_⟩
          by_cases hk : k = i
          · exact Or.inr ⟨by rw [hk], by omega⟩
          · exact absurd (hb k k0 (by omega)) k2
        · omega
      · rcases hb with ⟨rfl, hb⟩ | ⟨b0, b1, b2, b3⟩
        · exact absurd rfl w3
        · refine s_M_worth hi w (s_M_worth b0 (by omega) ⟨fun w4 => nxt b (Or.inr ⟨b0, by omega, b2, fun k k0 k1 k2 => ?_⟩), fun w4 => b_M_leastWorth_38 (nxt i (Or.inr ⟨hi, by omega, w2, fun k k0 k1 k2 => ?_⟩))⟩)
          · by_cases hk : k = i
            · subst hk
              rcases Int.lt_or_eq_of_le w4 with q | q
              · exact Or.inl q
              · exact Or.inr ⟨q, by omega⟩
            · exact b3 k k0 (by omega) k2
          · by_cases hk : k = i
            · exact Or.inr ⟨by rw [hk], by omega⟩
            · rcases b3 k k0 (by omega) k2 with q | q
              · exact Or.inl (by omega)
              · exact Or.inl (by omega)
  exact loop 1212 0 (-1) (by omega) (by omega) (Or.inl ⟨rfl, fun k a b => by omega⟩)
/-- the kept key below n that came first behind a number of coming -/
def z_cb (t : z_M) (last n b : Int) : Prop := (b = -1 ∧ ∀ k, 0 ≤ k → k < n → ¬ t 707 k = 0 → t 714 k ≤ last) ∨ (0 ≤ b ∧ b < n ∧ ¬ t 707 b = 0 ∧ last < t 714 b ∧ ∀ k, 0 ≤ k → k < n → ¬ t 707 k = 0 → last < t 714 k → t 714 b ≤ t 714 k)
theorem s_M_cameBehind {last : Int} (h : ∀ b, z_cb t last 1212 b → Q b (z_gl c t)) : z_C e (d + 1) m_M_cameBehind [z_R 701, z_I last] (z_gl c t) Q := by
  refine b_M_cameBehind_0 ?_
  have loop : ∀ (n : Nat) (i b : Int), 0 ≤ i → i + (n : Int) = 1212 → z_cb t last i b → z_T e d m_M_cameBehind 4 [some (z_R 701), some (z_I last), some (z_I b), some (z_I i)] (z_gl c t) Q := by
    intro n
    induction n with
    | zero =>
      intro i b hi hm hb
      obtain rfl : i = 1212 := by omega
      exact b_M_cameBehind_4 ⟨fun _ => h b hb, fun w => by omega⟩
    | succ n ih =>
      intro i b hi hm hb
      have nxt : ∀ b', z_cb t last (i + 1) b' → z_T e d m_M_cameBehind 52 [some (z_R 701), some (z_I last), some (z_I b'), some (z_I i)] (z_gl c t) Q := fun b' hb' => by
        refine b_M_cameBehind_52 ?_
        rw [z_wr_id (by omega) (by omega)]
        exact ih (i + 1) b' (by omega) (by omega) hb'
      have same : (¬ t 707 i = 0 → last < t 714 i → ¬ b = -1 ∧ t 714 b ≤ t 714 i) → z_cb t last (i + 1) b := fun hq => by
        rcases hb with ⟨rfl, hb⟩ | ⟨b0, b1, b2, b3, b4⟩
        · refine Or.inl ⟨rfl, fun k k0 k1 k2 => ?_⟩
          by_cases hk : k = i
          · subst hk
            by_cases hl : last < t 714 k
            · exact absurd rfl (hq k2 hl).1
            · omega
          · exact hb k k0 (by omega) k2
        · refine Or.inr ⟨b0, by omega, b2, b3, fun k k0 k1 k2 k3 => ?_⟩
          by_cases hk : k = i
          · subst hk; exact (hq k2 k3).2
          · exact b4 k k0 (by omega) k2 k3
      refine b_M_cameBehind_4 ⟨fun w => by omega, fun w => ⟨⟨hi, w⟩, ?_⟩⟩
      simp (disch := omega) only [z_gl_hi]
      refine ⟨fun w2 => nxt b (same fun q => absurd w2 q), fun w2 => ⟨⟨hi, w⟩, fun w3 => nxt b (same fun _ q => by omega), fun w3 => ⟨fun w4 => b_M_cameBehind_50 (nxt i ?_), fun w4 => ⟨⟨hi, w⟩, ?_, fun w5 => nxt b (same fun _ _ => ⟨w4, w5⟩), fun w5 => b_M_cameBehind_50 (nxt i ?_)⟩⟩⟩⟩
      · rcases hb with ⟨rfl, hb⟩ | ⟨b0, b1, b2, b3, b4⟩
        · refine Or.inr ⟨hi, by omega, w2, w3, fun k k0 k1 k2 k3 => ?_⟩
          by_cases hk : k = i
          · rw [hk]; omega
          · have := hb k k0 (by omega) k2; omega
        · omega
      · rcases hb with ⟨rfl, hb⟩ | ⟨b0, b1, b2, b3, b4⟩
        · exact absurd rfl w4
        · omega
      · rcases hb with ⟨rfl, hb⟩ | ⟨b0, b1, b2, b3, b4⟩
        · exact absurd rfl w4
        · refine Or.inr ⟨hi, by omega, w2, w3, fun k k0 k1 k2 k3 => ?_⟩
          by_cases hk : k = i
          · rw [hk]; omega
          · have := b4 k k0 (by omega) k2 k3; omega
  exact loop 1212 0 (-1) (by omega) (by omega) (Or.inl ⟨rfl, fun k a b => by omega⟩)
end ML
