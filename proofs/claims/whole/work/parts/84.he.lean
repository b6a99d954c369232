/-! heirs -/
/-- what is marked is reached, and the start is marked -/
def z_hA (t : z_M) (key : Int) (g : Int → Int) : Prop := ¬ g key = 0 ∧ ∀ S : Int → Prop, S key → (∀ k i, 0 ≤ k → k < 1212 → ¬ t 707 k = 0 → 0 ≤ i → i < t 715 k → ¬ t 707 (t 716 (32 * k + i)) = 0 → S (t 716 (32 * k + i)) → S k) → ∀ k, 0 ≤ k → k < 1212 → ¬ t 707 k = 0 → ¬ g k = 0 → S k
/-- what asked a marked one is marked -/
def z_hC (t : z_M) (g : Int → Int) : Prop := ∀ k i, 0 ≤ k → k < 1212 → ¬ t 707 k = 0 → 0 ≤ i → i < t 715 k → ¬ t 707 (t 716 (32 * k + i)) = 0 → ¬ g (t 716 (32 * k + i)) = 0 → ¬ g k = 0
theorem z_h_un {t : z_M} {key : Int} {g g' : Int → Int} (h1 : z_hA t key g) (h2 : z_hC t g) (h3 : z_hA t key g') (h4 : z_hC t g') {k : Int} (k0 : 0 ≤ k) (k1 : k < 1212) (hk : ¬ t 707 k = 0) : g' k = 0 ↔ g k = 0 := by
  have a := h1.2 (fun j => ¬ g' j = 0) h3.1 (fun k i x1 x2 x3 x4 x5 x6 x7 => h4 k i x1 x2 x3 x4 x5 x6 x7) k k0 k1 hk
  have b := h3.2 (fun j => ¬ g j = 0) h1.1 (fun k i x1 x2 x3 x4 x5 x6 x7 => h2 k i x1 x2 x3 x4 x5 x6 x7) k k0 k1 hk
  exact ⟨fun q => Classical.byContradiction fun z => a z q, fun q => Classical.byContradiction fun z => b z q⟩
theorem z_hA_up {t : z_M} {key k i : Int} {g g' : Int → Int} (h : z_hA t key g) (k0 : 0 ≤ k) (k1 : k < 1212) (hk : ¬ t 707 k = 0) (i0 : 0 ≤ i) (i1 : i < t 715 k) (hj : ¬ t 707 (t 716 (32 * k + i)) = 0) (hr : 0 ≤ t 716 (32 * k + i) ∧ t 716 (32 * k + i) < 1212) (hg : ¬ g (t 716 (32 * k + i)) = 0) (h1 : ¬ g' k = 0) (hs : ∀ j, ¬ j = k → g' j = g j) : z_hA t key g' := by
  refine ⟨?_, fun S s1 s2 j j0 j1 j2 j3 => ?_⟩
  · by_cases q : key = k
    · rw [q]; exact h1
    · rw [hs _ q]; exact h.1
  · by_cases q : j = k
    · rw [q]
      exact s2 k i k0 k1 hk i0 i1 hj (h.2 S s1 s2 _ hr.1 hr.2 hj hg)
    · rw [hs _ q] at j3
      exact h.2 S s1 s2 j j0 j1 j2 j3
/-- where to start -/
theorem z_hA_0 {t : z_M} {key : Int} {g : Int → Int} (h0 : ¬ g key = 0) (h : ∀ k, 0 ≤ k → k < 1212 → ¬ k = key → g k = 0) : z_hA t key g :=
  ⟨h0, fun S s1 _ j j0 j1 _ j3 => by
    by_cases q : j = key
    · rw [q]; exact s1
    · exact absurd (h j j0 j1 q) j3⟩
section HE
variable {e : z_E} {c s t : z_M} {Q : Int → z_M → Prop}
/-- the class's way -/
theorem s_S_heirsOf {key : Int} {d : Nat} (hS : z_cS s t) (hT : z_TT t) (hKK : z_KK t) (hss : z_sums t) (hn : s 7 2 ≤ 100) (k0 : 0 ≤ key) (k1 : key < 1212) (hk : ¬ t 707 key = 0) (h : ∀ s' g, z_mkd s s' t g → z_hA t key g → z_hC t g → Q (z_cn t g 1212 - 1) (z_gl s' c)) : z_C e (d + 4) m_S_heirsOf [z_R 7, z_R (s 10 key)] (z_gl s c) Q := by
  have hsz : s 7 2 = z_sum t (fun _ => 1) 1212 := by rw [hS.1.1]; exact hss.2.1
  have hcn : ∀ g, z_cn t g 1212 ≤ 100 := fun g => by have := (z_cn_le (t := t) (g := g) 1212).2; omega
  refine b_S_heirsOf_0 (s_S_markAll hS (fun s0 m0 => ?_))
  obtain ⟨i0, -, -, -, hK, -⟩ := z_cS_row hS k0 k1 hk
  obtain ⟨x1, x2, x3, x4, x5⟩ := hK
  simp only [x1, z_ckT]
  rw [z_gl_ul (by omega)]
  have m1 := z_mkd_up (v := 1) hS m0 k0 k1 hk
  have c1 : z_cn t (fun j => if j = key then 1 else (fun _ => (0 : Int)) j) 1212 = 1 := by
    rw [z_cn_add (g := fun _ => (0 : Int)) (x := key) k0 hk rfl (by dsimp only; rw [if_pos rfl]; decide) (fun j hj => by dsimp only; rw [if_neg hj]) 1212, z_cn_none 1212 (fun _ _ _ => rfl), if_pos (by omega)]; rfl
  have a1 : z_hA t key (fun j => if j = key then 1 else (fun _ => (0 : Int)) j) := z_hA_0 (by dsimp only; rw [if_pos rfl]; decide) (fun j _ _ hj => by dsimp only; rw [if_neg hj])
  have b1 : ∀ k, 0 ≤ (fun j => if j = key then 1 else (fun _ => (0 : Int)) j) k := fun k => by dsimp only; split <;> omega
  generalize (fun j => if j = key then 1 else (fun _ => (0 : Int)) j) = g1 at m1 c1 a1 b1
  generalize z_up s0 (s 10 key) 9 1 = s1 at m1
  have loop : ∀ (m : Nat) (r x2 x3 : Int) (sx : z_M) (g : Int → Int), 0 ≤ r → r + (m : Int) = 101 → z_mkd s sx t g → z_hA t key g → (∀ k, 0 ≤ g k) → z_cn t g 1212 = x2 + 1 → 0 ≤ x2 → 0 ≤ x3 → (x3 ≤ 0 → z_hC t g) → r ≤ x2 + (if x3 ≤ 0 then 1 else 0) → z_T e (d + 3) m_S_heirsOf 17 [some (z_R 7), none, some (z_I x2), some (z_I x3), some (z_I r), none] (z_gl sx c) Q := by
    intro m
    induction m with
    | zero =>
      intro r x2 x3 sx g r0 r1 hm hA hg hc y2 y3 hC hr
      have := hcn g
      split at hr <;> omega
    | succ m ih =>
      intro r x2 x3 sx g r0 r1 hm hA hg hc y2 y3 hC hr
      refine b_S_heirsOf_17 ⟨fun z => by omega, fun _ => ⟨fun q => ?_, fun q => ?_⟩⟩
      · have := h sx g hm hA (hC q)
        rw [show z_cn t g 1212 - 1 = x2 by omega] at this
        exact this
      rw [if_neg (by omega)] at hr
      have inner : ∀ (l : Nat) (i y : Int) (sy : z_M) (gy : Int → Int), 0 ≤ i → i + (l : Int) = s 7 2 → z_mkd s sy t gy → z_hA t key gy → (∀ k, 0 ≤ gy k) → z_cn t gy 1212 = x2 + y + 1 → 0 ≤ y → (y ≤ 0 → ∀ p, 0 ≤ p → p < i → ∀ a, 0 ≤ a → a < t 715 (s (s 8 p) 1) → ¬ t 707 (t 716 (32 * s (s 8 p) 1 + a)) = 0 → ¬ gy (t 716 (32 * s (s 8 p) 1 + a)) = 0 → ¬ gy (s (s 8 p) 1) = 0) → z_T e (d + 3) m_S_heirsOf 33 [some (z_R 7), none, some (z_I x2), some (z_I y), some (z_I r), some (z_I i)] (z_gl sy c) Q := by
        intro l
        induction l with
        | zero =>
          intro i y sy gy j0 j1 hm hA hg hc y0 hC
          have h72 : sy 7 2 = s 7 2 := hm.1 _ _ (by omega)
          have := hcn gy
          refine b_S_heirsOf_33 ?_
          rw [z_gl_lo (by omega), h72]
          refine ⟨fun _ => ?_, fun z => by omega⟩
          rw [z_wr_id (by omega) (by omega), z_wr_id (by omega) (by omega)]
          refine ih (r + 1) (x2 + y) y sy gy (by omega) (by omega) hm hA hg hc (by omega) y0 (fun q k a u0 u1 u2 u3 u4 u5 u6 => ?_) (by split <;> omega)
          obtain ⟨p, p0, p1, p2, -⟩ := z_cS_row hS u0 u1 u2
          have hp := hC q p p0.1 (by omega)
          rw [p1, p2] at hp
          exact hp a u3 u4 u5 u6
        | succ l ihl =>
          intro i y sy gy j0 j1 hm hA hg hc y0 hC
          have h72 : sy 7 2 = s 7 2 := hm.1 _ _ (by omega)
          have h8 : sy 8 i = s 8 i := hm.1 _ _ (by omega)
          obtain ⟨⟨b1, b2⟩, b3, b4, b5⟩ := hS.2.2.2.1 i j0 (by omega)
          obtain ⟨z1, z2, z3, z4, z5⟩ := hS.2.2.1.1 i j0 (by omega)
          have h9 := hm.2 _ b1 b2 b3
          rw [b4] at h9
          have hkr := hKK.1 _ b1 b2 b3
          obtain ⟨w1, -, w3⟩ := z_KR_sz hT b1 b2 hkr
          have w0 := hkr.2.1
          have := hcn gy
          have next : (¬ gy (s (s 8 i) 1) = 0 ∨ z_mm t gy (s (s 8 i) 1) (t 715 (s (s 8 i) 1)).toNat ≤ 0) → z_T e (d + 3) m_S_heirsOf 83 [some (z_R 7), none, some (z_I x2), some (z_I y), some (z_I r), some (z_I i)] (z_gl sy c) Q := fun hor => by
            refine b_S_heirsOf_83 ?_
            rw [z_wr_id (by omega) (by omega)]
            refine ihl (i + 1) y sy gy (by omega) (by omega) hm hA hg hc y0 (fun q p p0 p1 a u3 u4 u5 u6 => ?_)
            by_cases hp : p = i
            · rw [hp] at u4 u5 u6 ⊢
              rcases hor with v | v
              · exact v
              · have v1 := z_mm_ge (g := gy) (t := t) (k := s (s 8 i) 1) (t 715 (s (s 8 i) 1)).toNat u3 (by omega) u5
                have v2 := hg (t 716 (32 * s (s 8 i) 1 + a))
                omega
            · exact hC q p p0 (by omega) a u3 u4 u5 u6
          refine b_S_heirsOf_33 ?_
          rw [z_gl_lo (by omega), h72, z_gl_lo (by omega), h8, z_gl_lo (by omega), h9]
          simp only [z1, z_ckT]
          refine ⟨fun z => by omega, fun _ => ⟨by omega, fun q => next (Or.inl q), fun q => ⟨by omega, ?_⟩⟩⟩
          rw [← b4]
          refine s_S_mostMark (d := d + 1) hS hT hKK hm b1 b2 b3 ⟨fun q2 => next (Or.inr q2), fun q2 => ⟨by omega, ?_⟩⟩
          rw [z_gl_lo (by omega), h8]
          simp only [z1, z_ckT]
          rw [z_gl_ul (by omega), z_wr_id (by omega) (by omega)]
          have m2 := z_mkd_up (v := 1) hS hm b1 b2 b3
          rw [b4] at m2
          refine b_S_heirsOf_83 ?_
          rw [z_wr_id (by omega) (by omega)]
          refine ihl (i + 1) (y + 1) _ (fun j => if j = s (s 8 i) 1 then 1 else gy j) (by omega) (by omega) m2 ?_ (fun k => by have := hg k; split <;> omega) ?_ (by omega) (fun z => by omega)
          · rcases z_mm_at (t := t) (g := gy) (k := s (s 8 i) 1) (t 715 (s (s 8 i) 1)).toNat with v | ⟨a, v0, v1, v2, v3⟩
            · omega
            · exact z_hA_up hA b1 b2 b3 v0 (by omega) v2 (w3 a v0 (by omega)) (by omega) (by rw [if_pos rfl]; decide) (fun j hj => if_neg hj)
          · rw [z_cn_add (g := gy) (x := s (s 8 i) 1) b1 b3 q (by rw [if_pos rfl]; decide) (fun j hj => by rw [if_neg hj]) 1212, hc, if_pos (by omega)]; omega
      exact inner (s 7 2).toNat 0 0 sx g (by omega) (by have := hS.2.1; omega) hm hA hg (by omega) (by omega) (fun _ p p0 p1 => by omega)
  exact loop 101 0 0 1 s1 g1 (by omega) (by omega) m1 a1 b1 (by omega) (by omega) (by omega) (fun z => by omega) (by split <;> omega)
/-- the reference's way -/
theorem s_M_asksHeir {tx : z_M} {k : Int} {d : Nat} (k0 : 0 ≤ k) (k1 : k < 1212) (h15 : 0 ≤ tx 715 k ∧ tx 715 k ≤ 25) (h16 : ∀ i, 0 ≤ i → i < tx 715 k → 0 ≤ tx 716 (32 * k + i) ∧ tx 716 (32 * k + i) < 1212) (h1 : ∀ i, 0 ≤ i → i < tx 715 k → ¬ tx 738 (tx 716 (32 * k + i)) = 0 → Q 1 (z_gl c tx)) (h0 : (∀ i, 0 ≤ i → i < tx 715 k → tx 738 (tx 716 (32 * k + i)) = 0) → Q 0 (z_gl c tx)) : z_C e (d + 1) m_M_asksHeir [z_R 701, z_I k] (z_gl c tx) Q := by
  refine b_M_asksHeir_0 ?_
  have loop : ∀ (m : Nat) (i : Int), 0 ≤ i → i + (m : Int) = tx 715 k → (∀ j, 0 ≤ j → j < i → tx 738 (tx 716 (32 * k + j)) = 0) → z_T e d m_M_asksHeir 2 [some (z_R 701), some (z_I k), some (z_I i)] (z_gl c tx) Q := by
    intro m
    induction m with
    | zero =>
      intro i i0 i1 hz
      refine b_M_asksHeir_2 ⟨⟨k0, k1⟩, ?_⟩
      rw [z_gl_hi (by omega)]
      exact ⟨fun _ => h0 (fun j j0 j1 => hz j j0 (by omega)), fun z => by omega⟩
    | succ m ih =>
      intro i i0 i1 hz
      have hj := h16 i i0 (by omega)
      refine b_M_asksHeir_2 ⟨⟨k0, k1⟩, ?_⟩
      rw [z_gl_hi (by omega), z_gl_hi (by omega), z_gl_hi (by omega), z_wr_id (x := 32 * k) (by omega) (by omega), z_wr_id (x := 32 * k + i) (by omega) (by omega), z_wr_id (x := i + 1) (by omega) (by omega)]
      refine ⟨fun z => by omega, fun _ => ⟨by omega, hj, fun q => ih (i + 1) (by omega) (by omega) (fun j j0 j1 => ?_), fun q => h1 i i0 (by omega) q⟩⟩
      by_cases hji : j = i
      · rw [hji]; exact q
      · exact hz j j0 (by omega)
  exact loop (tx 715 k).toNat 0 (by omega) (by omega) (fun j j0 j1 => by omega)
end HE
