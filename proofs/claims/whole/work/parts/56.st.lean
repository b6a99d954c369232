/-! the class: what is kept -/
section ST
variable {e : z_E} {d : Nat} {s c t : z_M} {Q : Int → z_M → Prop}
theorem s_S_find {k : Int} (h0 : 0 ≤ k) (h1 : k < 1212) (h : Q (s 10 k) (z_gl s c)) : z_C e (d + 1) m_S_find [z_R 7, z_I k] (z_gl s c) Q := by
  refine b_S_find_0 ?_
  rw [z_gl_lo (by omega)]
  exact ⟨fun w => by omega, fun _ => ⟨fun w => by omega, fun _ => ⟨⟨h0, h1⟩, h⟩⟩⟩
theorem s_C_within {x n : Int} {σ : z_M} (h1 : 0 ≤ x → x < n → Q 1 σ) (h0 : ¬ (0 ≤ x ∧ x < n) → Q 0 σ) : z_C e (d + 1) m_C_within [z_I x, z_I n] σ Q :=
  b_C_within_0 ⟨fun w => h0 (by omega), fun w => ⟨fun w2 => h0 (by omega), fun w2 => h1 w w2⟩⟩
/-- the reference's weight of an order is the class's -/
theorem s_K_worth {A k : Int} (hA : z_isK A) (hW : z_cW s t A k) (h : Q (mf_worth k t) (z_gl s c)) : z_C e (d + 1) m_K_worth [z_R A, z_I (t 701 25)] (z_gl s c) Q := by
  obtain ⟨k1, k2, k3, k4, k5⟩ := hA
  obtain ⟨a1, a2, a3, a4, a5, a6, a7, a8, a9⟩ := hW
  refine b_K_worth_0 ?_
  simp (disch := omega) only [k1, z_ckT, z_gl_lo, a3, a4, a5, a6]
  unfold mf_worth at h
  refine ⟨fun w => ?_, fun w => ⟨fun w2 => ?_, fun w2 => ⟨fun w3 => ?_, fun w3 => ?_⟩⟩⟩
  · rw [if_pos w] at h; exact h
  · rw [if_neg w, if_pos w2] at h; exact h
  · rw [if_neg w, if_neg w2, if_pos w3] at h; exact h
  · rw [if_neg w, if_neg w2, if_neg w3] at h; exact h
theorem s_S_leastWorth (hS : z_cS s t) (hn : 0 < s 7 2) (h : ∀ p, 0 ≤ p → p < s 7 2 → s (s 8 p) 1 = mf_lw t 1212 → Q p (z_gl s c)) : z_C e (d + 2) m_S_leastWorth [z_R 7] (z_gl s c) Q := by
  obtain ⟨⟨a1, a2, a3, a4⟩, a5, ⟨a6, a7⟩, a8, a9, a10⟩ := hS
  refine b_S_leastWorth_0 ?_
  have loop : ∀ (n : Nat) (i p : Int), 1 ≤ i → i + (n : Int) = s 7 2 → 0 ≤ p → p < i → (∀ j, 0 ≤ j → j < i → mf_worth (s (s 8 p) 1) t < mf_worth (s (s 8 j) 1) t ∨ (mf_worth (s (s 8 p) 1) t = mf_worth (s (s 8 j) 1) t ∧ s (s 8 p) 1 ≤ s (s 8 j) 1)) → z_T e (d + 1) m_S_leastWorth 4 [some (z_R 7), some (z_I p), some (z_I i), none, none] (z_gl s c) Q := by
    intro n
    induction n with
    | zero =>
      intro i p i0 i1 p0 p1 hp
      refine b_S_leastWorth_4 ?_
      simp (disch := omega) only [z_gl_lo]
      refine ⟨fun _ => h p p0 (by omega) ?_, fun w => by omega⟩
      refine (z_lw_un (Or.inr ⟨(a8 p p0 (by omega)).1.1, (a8 p p0 (by omega)).1.2, (a8 p p0 (by omega)).2.1, fun k k0 k1 k2 => ?_⟩) (mf_lw_sp t 1212))
      obtain ⟨j, j0, j1, j2⟩ := (a9 k k0 k1).2 k2
      have := hp j j0 (by omega)
      rw [j2] at this
      exact this
    | succ n ih =>
      intro i p i0 i1 p0 p1 hp
      have nxt : ∀ q, 0 ≤ q → q < i + 1 → (∀ j, 0 ≤ j → j < i + 1 → mf_worth (s (s 8 q) 1) t < mf_worth (s (s 8 j) 1) t ∨ (mf_worth (s (s 8 q) 1) t = mf_worth (s (s 8 j) 1) t ∧ s (s 8 q) 1 ≤ s (s 8 j) 1)) → z_T e (d + 1) m_S_leastWorth 82 [some (z_R 7), some (z_I q), some (z_I i), none, none] (z_gl s c) Q := fun q q0 q1 hq => by
        refine b_S_leastWorth_82 ?_
        rw [z_wr_id (by omega) (by omega)]
        exact ih (i + 1) q (by omega) (by omega) q0 q1 hq
      have hKi := a6 i (by omega) (by omega)
      have hKp := a6 p p0 (by omega)
      have hWi := (a8 i (by omega) (by omega)).2.2.2
      have hWp := (a8 p p0 (by omega)).2.2.2
      have hKi' := hKi
      have hKp' := hKp
      obtain ⟨x1, -, x3, x4, -⟩ := hKi
      obtain ⟨y1, -, y3, y4, -⟩ := hKp
      have hi : (∀ j, 0 ≤ j → j < i → mf_worth (s (s 8 i) 1) t < mf_worth (s (s 8 j) 1) t ∨ (mf_worth (s (s 8 i) 1) t = mf_worth (s (s 8 j) 1) t ∧ s (s 8 i) 1 ≤ s (s 8 j) 1)) → z_T e (d + 1) m_S_leastWorth 80 [some (z_R 7), none, some (z_I i), none, none] (z_gl s c) Q := fun hq => by
        refine b_S_leastWorth_80 (nxt i (by omega) (by omega) (fun j j0 j1 => ?_))
        by_cases hj : j = i
        · rw [hj]; exact Or.inr ⟨rfl, Int.le_refl _⟩
        · exact hq j j0 (by omega)
      have hp' : (mf_worth (s (s 8 p) 1) t < mf_worth (s (s 8 i) 1) t ∨ (mf_worth (s (s 8 p) 1) t = mf_worth (s (s 8 i) 1) t ∧ s (s 8 p) 1 ≤ s (s 8 i) 1)) → z_T e (d + 1) m_S_leastWorth 82 [some (z_R 7), some (z_I p), some (z_I i), none, none] (z_gl s c) Q := fun hq => by
        refine nxt p p0 (by omega) (fun j j0 j1 => ?_)
        by_cases hj : j = i
        · rw [hj]; exact hq
        · exact hp j j0 (by omega)
      refine b_S_leastWorth_4 ?_
      simp (disch := omega) only [z_gl_lo, x1, z_ckT, a4]
      refine ⟨fun w => by omega, fun w => ⟨fun w2 => by omega, fun w2 => ⟨by omega, s_K_worth hKi' hWi ⟨by omega, ?_⟩⟩⟩⟩
      simp (disch := omega) only [z_gl_lo, y1, z_ckT, a4]
      refine s_K_worth hKp' hWp ⟨fun w3 => hi (fun j j0 j1 => ?_), fun w3 => ⟨fun w4 => hp' (Or.inl (by omega)), fun w4 => ⟨by omega, ?_⟩⟩⟩
      · have := hp j j0 j1; omega
      simp (disch := omega) only [z_gl_lo, x1, y1, z_ckT]
      refine ⟨by omega, fun w5 => hp' (Or.inr ⟨w4.symm, w5⟩), fun w5 => hi (fun j j0 j1 => ?_)⟩
      have := hp j j0 j1
      omega
  exact loop (s 7 2 - 1).toNat 1 0 (by omega) (by omega) (by omega) (by omega) (fun j j0 j1 => by
    have : j = 0 := by omega
    rw [this]; exact Or.inr ⟨rfl, Int.le_refl _⟩)
/-- rows from a place on move up -/
def z_sh (p i : Int) (s : z_M) : z_M := fun a j => if a = 8 ∧ p ≤ j ∧ j < i then s 8 (j + 1) else s a j
def cf_rem0 (p : Int) (s : z_M) : z_M := z_up (z_up (z_up s 10 (s (s 8 p) 1) (-1)) 7 3 (z_wr (s 7 3 - s (s 8 p) 4))) 7 2 (s 7 2 - 1)
def cf_rem (p : Int) (s : z_M) : z_M := z_up (z_sh p (s 7 2 - 1) (cf_rem0 p s)) 8 (s 7 2 - 1) (s 8 p)
theorem z_sh_ne {p i a j : Int} {s : z_M} (h : ¬ (a = 8 ∧ p ≤ j ∧ j < i)) : z_sh p i s a j = s a j := if_neg h
theorem s_S_remove {p : Int} (hK : ∀ i, 0 ≤ i → i < 101 → z_isK (s 8 i)) (hn : 0 ≤ s 7 2 ∧ s 7 2 ≤ 101) (p0 : 0 ≤ p) (p1 : p < s 7 2) (hk : 0 ≤ s (s 8 p) 1 ∧ s (s 8 p) 1 < 1212) (h : Q 0 (z_gl (cf_rem p s) c)) : z_C e (d + 1) m_S_remove [z_R 7, z_I p] (z_gl s c) Q := by
  obtain ⟨k1, k2, k3, k4, k5⟩ := hK p p0 (by omega)
  refine b_S_remove_0 ?_
  simp (disch := omega) only [z_gl_lo, z_gl_ul, k1, z_ckT, z_up_ne, z_wr_id]
  refine ⟨fun w => by omega, fun _ => ⟨fun _ => ⟨by omega, hk, Or.inl (by omega), by unfold z_ir; omega, ?_⟩, fun w => by omega⟩⟩
  show z_T e d m_S_remove 55 _ (z_gl (cf_rem0 p s) c) Q
  have e2 : cf_rem0 p s 7 2 = s 7 2 - 1 := by unfold cf_rem0; rw [z_up_eq]
  have e8 : ∀ i, cf_rem0 p s 8 i = s 8 i := fun i => by unfold cf_rem0; rw [z_up_ne (by omega), z_up_ne (by omega), z_up_ne (by omega)]
  unfold cf_rem at h
  generalize cf_rem0 p s = s0 at *
  have loop : ∀ (n : Nat) (i : Int), p ≤ i → i + (n : Int) = s 7 2 - 1 → z_T e d m_S_remove 55 [some (z_R 7), none, some (z_R (s 8 p)), some (z_I i)] (z_gl (z_sh p i s0) c) Q := by
    intro n
    induction n with
    | zero =>
      intro i i0 i1
      refine b_S_remove_55 ?_
      simp (disch := omega) only [z_gl_lo, z_gl_ul, z_sh_ne, e2]
      refine ⟨fun _ => ⟨by omega, Or.inr k1, by unfold z_ir; omega, ?_⟩, fun w => by omega⟩
      rw [show i = s 7 2 - 1 by omega]
      exact h
    | succ n ih =>
      intro i i0 i1
      obtain ⟨x1, x2, x3, x4, x5⟩ := hK (i + 1) (by omega) (by omega)
      refine b_S_remove_55 ?_
      simp (disch := omega) only [z_gl_lo, z_gl_ul, z_sh_ne, e2, z_wr_id, e8]
      refine ⟨fun w => by omega, fun _ => ⟨by omega, by omega, Or.inr x1, by unfold z_ir; omega, ?_⟩⟩
      have hst : z_up (z_sh p i s0) 8 i (s 8 (i + 1)) = z_sh p (i + 1) s0 := by
        funext a j
        rw [z_upd]
        unfold z_sh
        by_cases hj : a = 8 ∧ j = i
        · rw [if_pos hj, if_pos (by omega), hj.2, e8]
        · rw [if_neg hj]
          by_cases hq : a = 8 ∧ p ≤ j ∧ j < i
          · rw [if_pos hq, if_pos (by omega)]
          · rw [if_neg hq, if_neg (by omega)]
      rw [hst]
      exact ih (i + 1) (by omega) (by omega)
  have := loop (s 7 2 - 1 - p).toNat p (Int.le_refl _) (by omega)
  rw [show z_sh p p s0 = s0 from funext fun a => funext fun j => if_neg (by omega)] at this
  exact this
end ST
theorem cf_rem_ne {p a i : Int} {s : z_M} (h8 : ¬ a = 8) (h10 : ¬ (a = 10 ∧ i = s (s 8 p) 1)) (h7 : ¬ (a = 7 ∧ (i = 2 ∨ i = 3))) : cf_rem p s a i = s a i := by
  unfold cf_rem
  rw [z_up_ne (by omega), z_sh_ne (by omega)]
  unfold cf_rem0
  rw [z_up_ne (by omega), z_up_ne (by omega), z_up_ne (by omega)]
theorem cf_rem_at {p : Int} {s : z_M} : cf_rem p s 7 2 = s 7 2 - 1 ∧ cf_rem p s 7 3 = z_wr (s 7 3 - s (s 8 p) 4) ∧ cf_rem p s 10 (s (s 8 p) 1) = -1 ∧ cf_rem p s 8 (s 7 2 - 1) = s 8 p ∧ (∀ i, p ≤ i → i < s 7 2 - 1 → cf_rem p s 8 i = s 8 (i + 1)) ∧ (∀ i, ¬ (p ≤ i ∧ i ≤ s 7 2 - 1) → ¬ i = s 7 2 - 1 → cf_rem p s 8 i = s 8 i) := by
  have e8 : ∀ i, cf_rem0 p s 8 i = s 8 i := fun i => by unfold cf_rem0; rw [z_up_ne (by omega), z_up_ne (by omega), z_up_ne (by omega)]
  refine ⟨?_, ?_, ?_, ?_, fun i i0 i1 => ?_, fun i i0 i1 => ?_⟩
  · unfold cf_rem; rw [z_up_ne (by omega), z_sh_ne (by omega)]; unfold cf_rem0; rw [z_up_eq]
  · unfold cf_rem; rw [z_up_ne (by omega), z_sh_ne (by omega)]; unfold cf_rem0; rw [z_up_ne (by omega), z_up_eq]
  · unfold cf_rem; rw [z_up_ne (by omega), z_sh_ne (by omega)]; unfold cf_rem0; rw [z_up_ne (by omega), z_up_ne (by omega), z_up_eq]
  · unfold cf_rem; rw [z_up_eq]
  · unfold cf_rem; rw [z_up_ne (by omega)]; unfold z_sh; rw [if_pos ⟨rfl, i0, i1⟩, e8]
  · unfold cf_rem; rw [z_up_ne (by omega), z_sh_ne (by omega), e8]
/-- one key goes on both sides -/
theorem z_cS_rem {s t : z_M} {p : Int} (hS : z_cS s t) (hs : z_sums t) (p0 : 0 ≤ p) (p1 : p < s 7 2) : z_cS (cf_rem p s) (mf_goes (s (s 8 p) 1) t) := by
  obtain ⟨⟨a1, a2, a3, a4⟩, a5, ⟨a6, a7⟩, a8, a9, a10⟩ := hS
  obtain ⟨b1, b2, b3, b4⟩ := a8 p p0 p1
  obtain ⟨r1, r2, r3, r4, r5, r6⟩ := cf_rem_at (p := p) (s := s)
  obtain ⟨-, g2, g3⟩ := z_sums_goes hs b1.1 b1.2 b2
  have hne := fun a i x y z => cf_rem_ne (p := p) (s := s) (a := a) (i := i) x y z
  have hA : s (s 8 p) 4 = t 710 (s (s 8 p) 1) := b4.2.2.2.1
  have hsr := z_sums_rng hs
  have hsg := hs.2.2 _ b1.1 b1.2 b2
  have m7 : ∀ k, ¬ k = s (s 8 p) 1 → mf_goes (s (s 8 p) 1) t 707 k = t 707 k := fun k hk => by unfold mf_goes; rw [z_up_ne (by omega), z_up_ne (by omega), z_up_ne (by omega)]
  have m7' : mf_goes (s (s 8 p) 1) t 707 (s (s 8 p) 1) = 0 := by unfold mf_goes; rw [z_up_ne (by omega), z_up_ne (by omega), z_up_eq]
  have mo : ∀ a i, ¬ a = 707 → ¬ (a = 701 ∧ (i = 22 ∨ i = 23)) → mf_goes (s (s 8 p) 1) t a i = t a i := fun a i x y => mf_goes_ne x y
  -- the map of places
  have hmap : ∀ i, 0 ≤ i → i < 101 → ∃ j, 0 ≤ j ∧ j < 101 ∧ cf_rem p s 8 i = s 8 j ∧ (i < s 7 2 - 1 → j < s 7 2 ∧ ¬ j = p ∧ (i < p → j = i) ∧ (p ≤ i → j = i + 1)) ∧ (i = s 7 2 - 1 → j = p) ∧ (s 7 2 ≤ i → j = i) := fun i i0 i1 => by
    by_cases q1 : i = s 7 2 - 1
    · exact ⟨p, p0, by omega, by rw [q1]; exact r4, fun _ => by omega, fun _ => rfl, fun _ => by omega⟩
    · by_cases q2 : p ≤ i ∧ i < s 7 2 - 1
      · exact ⟨i + 1, by omega, by omega, r5 i q2.1 q2.2, fun _ => by omega, fun _ => by omega, fun _ => by omega⟩
      · exact ⟨i, i0, i1, r6 i (by omega) q1, fun _ => by omega, fun _ => by omega, fun _ => rfl⟩
  have hK1 : ∀ i, 0 ≤ i → i < 101 → z_isK (cf_rem p s 8 i) := fun i i0 i1 => by
    obtain ⟨j, j0, j1, j2, -⟩ := hmap i i0 i1
    rw [j2]; exact a6 j j0 j1
  have hcell : ∀ i j, 0 ≤ i → i < 101 → cf_rem p s (s 8 i) j = s (s 8 i) j := fun i j x y => by
    obtain ⟨-, -, k3, k4, -⟩ := a6 i x y
    exact hne _ _ (by omega) (by omega) (by omega)
  have hinj : ∀ i j, 0 ≤ i → i < 101 → 0 ≤ j → j < 101 → s 8 i = s 8 j → i = j := fun i j i0 i1 j0 j1 q => by
    rcases Int.lt_trichotomy i j with h | h | h
    · exact absurd q (a7 i j i0 h j1)
    · exact h
    · exact absurd q.symm (a7 j i j0 h i1)
  have hkinj : ∀ i j, 0 ≤ i → i < s 7 2 → 0 ≤ j → j < s 7 2 → s (s 8 i) 1 = s (s 8 j) 1 → i = j := fun i j i0 i1 j0 j1 q => by
    have e1 := (a8 i i0 i1).2.2.1
    have e2 := (a8 j j0 j1).2.2.1
    rw [q, e2] at e1
    exact hinj i j i0 (by omega) j0 (by omega) e1.symm
  refine ⟨⟨by rw [r1, g2, a1], by rw [r2, g3, hA, a2]; exact z_wr_id (by omega) (by omega), by rw [hne _ _ (by omega) (by omega) (by omega), mo _ _ (by omega) (by omega)]; exact a3, by rw [hne _ _ (by omega) (by omega) (by omega), mo _ _ (by omega) (by omega)]; exact a4⟩, by omega, ⟨hK1, fun i j i0 ij j1 => ?_⟩, fun i i0 i1 => ?_, fun k k0 k1 => ⟨fun q => ?_, fun q => ?_⟩, fun i j i0 ij j1 => ?_⟩
  · obtain ⟨x, x0, x1, x2, x3, x4, x5⟩ := hmap i i0 (by omega)
    obtain ⟨y, y0, y1, y2, y3, y4, y5⟩ := hmap j (by omega) j1
    rw [x2, y2]
    intro q
    have := hinj x y x0 x1 y0 y1 q
    omega
  · rw [r1] at i1
    obtain ⟨x, x0, x1, x2, x3, x4, x5⟩ := hmap i i0 (by omega)
    obtain ⟨x6, x7, -⟩ := x3 i1
    obtain ⟨c1, c2, c3, c4⟩ := a8 x x0 x6
    rw [x2, hcell x _ x0 x1]
    have hkk : ¬ s (s 8 x) 1 = s (s 8 p) 1 := fun q => x7 (hkinj x p x0 x6 p0 p1 q)
    refine ⟨c1, by rw [m7 _ hkk]; exact c2, by rw [hne _ _ (by omega) (by omega) (by omega)]; exact c3, ?_⟩
    refine z_cW_c (fun j => hcell x j x0 x1) (fun j => ?_) (fun a p q => mo _ _ (by omega) (by omega)) (fun j _ _ => mo _ _ (by omega) (by omega)) c4
    obtain ⟨-, -, k3, k4, k5⟩ := a6 x x0 x1
    exact hne _ _ (by omega) (by omega) (by omega)
  · by_cases hk : k = s (s 8 p) 1
    · rw [hk]; exact r3
    · rw [m7 k hk] at q
      rw [hne _ _ (by omega) (by omega) (by omega)]
      exact (a9 k k0 k1).1 q
  · by_cases hk : k = s (s 8 p) 1
    · rw [hk, m7'] at q; exact absurd rfl q
    · rw [m7 k hk] at q
      obtain ⟨j, j0, j1, j2⟩ := (a9 k k0 k1).2 q
      have hjp : ¬ j = p := fun z => hk (by rw [← j2, z])
      by_cases hl : j < p
      · refine ⟨j, j0, by omega, ?_⟩
        rw [r6 j (by omega) (by omega), hcell j _ j0 (by omega)]; exact j2
      · refine ⟨j - 1, by omega, by omega, ?_⟩
        rw [r5 (j - 1) (by omega) (by omega), show j - 1 + 1 = j by omega, hcell j _ j0 (by omega)]; exact j2
  · rw [r1] at j1
    obtain ⟨x, x0, x1, x2, x3, x4, x5⟩ := hmap i i0 (by omega)
    obtain ⟨y, y0, y1, y2, y3, y4, y5⟩ := hmap j (by omega) (by omega)
    have x6 := x3 (by omega)
    have y6 := y3 j1
    rw [x2, y2, hcell x _ x0 x1, hcell y _ y0 y1, mo _ _ (by omega) (by omega), mo _ _ (by omega) (by omega)]
    exact a10 x y x0 (by omega) y6.1
