/-! the reference: a value comes -/
def mf_asked (t : z_M) (f key : Int) : Bool := (List.range (t 730 f).toNat).any fun i => decide (t 731 (32 * f + (i : Int)) = key)
theorem mf_asked_iff {t : z_M} {f key : Int} : mf_asked t f key = true ↔ ∃ i, 0 ≤ i ∧ i < t 730 f ∧ t 731 (32 * f + i) = key := by
  unfold mf_asked
  simp only [List.any_eq_true, List.mem_range, decide_eq_true_eq]
  constructor
  · rintro ⟨i, h1, h2⟩
    exact ⟨(i : Int), by omega, by omega, h2⟩
  · rintro ⟨i, h0, h1, h2⟩
    exact ⟨i.toNat, by omega, by rw [show ((i.toNat : Nat) : Int) = i by omega]; exact h2⟩
def mf_give1 (f key : Int) (t : z_M) : z_M := if mf_asked t f key = true then t else z_up (z_up t 731 (32 * f + t 730 f) key) 730 f (t 730 f + 1)
def mf_give (r key v u : Int) (t : z_M) : z_M := mf_holds (mf_top r t) v (z_up (mf_give1 (mf_top r t) key t) 729 (mf_top r t) (z_or (t 729 (mf_top r t)) u))
theorem mf_give1_ne {f key a i : Int} {t : z_M} (h1 : ¬ a = 730) (h2 : ¬ a = 731) : mf_give1 f key t a i = t a i := by
  unfold mf_give1
  split
  · rfl
  · rw [z_up_ne (Or.inl h1), z_up_ne (Or.inl h2)]
section MG
variable {e : z_E} {d : Nat} {c t : z_M} {Q : Int → z_M → Prop}
theorem s_M_gets {r key v u : Int} (hr0 : 0 ≤ r) (hr1 : r < 5) (hf0 : 0 ≤ t 722 r) (hf1 : t 722 r ≤ 30) (hn : ¬ t 722 r = 0 → 0 ≤ t 730 (mf_top r t) ∧ t 730 (mf_top r t) < 32 ∧ 0 ≤ t 732 (mf_top r t) ∧ t 732 (mf_top r t) < 64)
    (h0 : t 722 r = 0 → Q 0 (z_gl c (z_up (z_up t 719 r 3) 720 r v))) (h1 : ¬ t 722 r = 0 → z_C e (d + 1) m_M_goesOn [z_R 701, z_I r] (z_gl c (mf_give r key v u t)) (fun _ σ2 => Q 0 σ2)) : z_C e (d + 2) m_M_gets [z_R 701, z_I r, z_I key, z_I v, z_I u] (z_gl c t) Q := by
  refine b_M_gets_0 ⟨⟨hr0, hr1⟩, ?_⟩
  simp (disch := omega) only [z_gl_hi, z_gl_up]
  refine ⟨fun w => ?_, fun w => ⟨⟨hr0, hr1⟩, ⟨hr0, hr1⟩, h0 w⟩⟩
  obtain ⟨n0, n1, n2, n3⟩ := hn w
  have h1 := h1 w
  refine s_M_top hr0 hr1 hf0 hf1 ?_
  have ff0 : 0 ≤ mf_top r t := by unfold mf_top; omega
  have ff1 : mf_top r t < 150 := by unfold mf_top; omega
  unfold mf_give at h1
  generalize mf_top r t = f at h1 n0 n1 n2 n3 ff0 ff1 ⊢
  have fin : ∀ t1, t1 = mf_give1 f key t → z_T e (d + 1) m_M_gets 119 [some (z_R 701), some (z_I r), none, some (z_I v), some (z_I u), some (z_I f), none, none] (z_gl c t1) Q := by
    intro t1 ht
    subst ht
    refine b_M_gets_119 ⟨⟨ff0, ff1⟩, ⟨ff0, ff1⟩, ?_⟩
    have e1 : mf_give1 f key t 729 f = t 729 f := mf_give1_ne (by omega) (by omega)
    have e2 : z_up (mf_give1 f key t) 729 f (z_or (t 729 f) u) 732 f = t 732 f := by rw [z_up_ne (by omega)]; exact mf_give1_ne (by omega) (by omega)
    simp (disch := omega) only [z_gl_hi, z_gl_up, e1]
    refine s_M_holds ff0 ff1 (by rw [e2]; exact n2) (by rw [e2]; exact n3) ?_
    exact h1
  have loop : ∀ (n : Nat) (i b : Int), 0 ≤ i → i + (n : Int) = t 730 f → ((b = 1 ∧ mf_asked t f key = true) ∨ (b = 0 ∧ ∀ j, 0 ≤ j → j < i → ¬ t 731 (32 * f + j) = key)) → z_T e (d + 1) m_M_gets 37 [some (z_R 701), some (z_I r), some (z_I key), some (z_I v), some (z_I u), some (z_I f), some (z_I b), some (z_I i)] (z_gl c t) Q := by
    intro n
    induction n with
    | zero =>
      intro i b hi hm hb
      refine b_M_gets_37 ⟨⟨ff0, ff1⟩, ?_⟩
      simp (disch := omega) only [z_gl_hi, z_gl_up, z_wr_id, z_up_ne]
      refine ⟨fun _ => ⟨fun w2 => fin t ?_, fun w2 => ⟨⟨ff0, ff1⟩, by omega, ⟨ff0, ff1⟩, ⟨ff0, ff1⟩, fin _ ?_⟩⟩, fun w2 => by omega⟩
      · rcases hb with ⟨b1, b2⟩ | ⟨b1, b2⟩
        · unfold mf_give1; rw [if_pos b2]
        · exact absurd b1 w2
      · rcases hb with ⟨b1, b2⟩ | ⟨b1, b2⟩
        · omega
        · unfold mf_give1
          rw [if_neg]
          intro q
          obtain ⟨j, j0, j1, j2⟩ := mf_asked_iff.mp q
          exact b2 j j0 (by omega) j2
    | succ n ih =>
      intro i b hi hm hb
      have yes : mf_asked t f key = true → z_T e (d + 1) m_M_gets 71 [some (z_R 701), some (z_I r), some (z_I key), some (z_I v), some (z_I u), some (z_I f), none, some (z_I i)] (z_gl c t) Q := fun q => by
        refine b_M_gets_71 ?_
        rw [z_wr_id (by omega) (by omega)]
        exact ih (i + 1) 1 (by omega) (by omega) (Or.inl ⟨rfl, q⟩)
      refine b_M_gets_37 ⟨⟨ff0, ff1⟩, ?_⟩
      simp (disch := omega) only [z_gl_hi, z_wr_id]
      refine ⟨fun w2 => by omega, fun w2 => ⟨fun w3 => yes ?_, fun w3 => ⟨by omega, fun w4 => ih (i + 1) 0 (by omega) (by omega) (Or.inr ⟨rfl, fun j j0 j1 => ?_⟩), fun w4 => yes (mf_asked_iff.mpr ⟨i, hi, w2, w4⟩)⟩⟩⟩
      · rcases hb with ⟨b1, b2⟩ | ⟨b1, b2⟩
        · exact b2
        · exact absurd b1 w3
      · rcases hb with ⟨b1, b2⟩ | ⟨b1, b2⟩
        · omega
        · by_cases hji : j = i
          · rw [hji]; exact w4
          · exact b2 j j0 (by omega)
  exact loop (t 730 f).toNat 0 0 (by omega) (by omega) (Or.inr ⟨rfl, fun j a b => by omega⟩)
end MG
