/-! chain -/
section CC
variable {e : z_E} {n : Nat} {c s t : z_M} {Q : Int → z_M → Prop}
theorem s_S_chainFrom {key : Int} {d : Nat} {L : Int → Int} (hL : z_LL t L) (hle : ∀ k, 0 ≤ k → k < 1212 → ¬ t 707 k = 0 → L k ≤ 100) (hS : z_cS s t) (hT : z_TT t) (hKK : z_KK t) (k0 : 0 ≤ key) (k1 : key < 1212) (hk : ¬ t 707 key = 0) (h : ∀ s' g, z_mkd s s' t g → Q (L key) (z_gl s' c)) : z_C e (d + 4) m_S_chainFrom [z_R 7, z_R (s 10 key)] (z_gl s c) Q := by
  refine b_S_chainFrom_0 (s_S_markAll hS (fun s1 m1 => ?_))
  obtain ⟨i0, -, -, -, hK, -⟩ := z_cS_row hS k0 k1 hk
  obtain ⟨x1, x2, x3, x4, x5⟩ := hK
  have fin : ∀ (sx : z_M) (g : Int → Int), z_mkd s sx t g → g key = L key → Q (sx (s 10 key) 9) (z_gl sx c) := fun sx g hm hg => by
    rw [hm.2 key k0 k1 hk, hg]; exact h sx g hm
  have loop : ∀ (m : Nat) (r x2 : Int) (sx : z_M) (g : Int → Int), 0 ≤ r → r + (m : Int) = 101 → z_mkd s sx t g → (∀ k, 0 ≤ k → k < 1212 → ¬ t 707 k = 0 → g k ≤ L k ∧ 1 ≤ g k) → (∀ k, 0 ≤ k → k < 1212 → ¬ t 707 k = 0 → L k ≤ r + 1 → L k ≤ g k) → (x2 = 0 → ∀ k, 0 ≤ k → k < 1212 → ¬ t 707 k = 0 → 1 + z_mm t g k (t 715 k).toNat ≤ g k) → z_T e (d + 3) m_S_chainFrom 9 [some (z_R 7), some (z_R (s 10 key)), some (z_I x2), some (z_I r), none, none] (z_gl sx c) Q := by
    intro m
    induction m with
    | zero =>
      intro r x2 sx g r0 r1 hm hu hA hC
      refine b_S_chainFrom_9 ⟨fun _ => ?_, fun z => by omega⟩
      simp only [x1, z_ckT]
      rw [z_gl_lo (by omega)]
      have a := hu key k0 k1 hk
      have b := hA key k0 k1 hk (by have := hle key k0 k1 hk; omega)
      exact fin sx g hm (by omega)
    | succ m ih =>
      intro r x2 sx g r0 r1 hm hu hA hC
      refine b_S_chainFrom_9 ⟨fun z => by omega, fun _ => ⟨fun q => ?_, fun q => ?_⟩⟩
      · simp only [x1, z_ckT]
        rw [z_gl_lo (by omega)]
        have a := hu key k0 k1 hk
        have b := hL.2.2 g (hC q) key k0 k1 hk
        exact fin sx g hm (by omega)
      have inner : ∀ (l : Nat) (i y : Int) (sy : z_M) (gy : Int → Int), 0 ≤ i → i + (l : Int) = s 7 2 → z_mkd s sy t gy → (∀ k, 0 ≤ k → k < 1212 → ¬ t 707 k = 0 → gy k ≤ L k ∧ 1 ≤ gy k) → (∀ k, 0 ≤ k → k < 1212 → ¬ t 707 k = 0 → L k ≤ r + 1 → L k ≤ gy k) → (∀ p, 0 ≤ p → p < i → L (s (s 8 p) 1) ≤ r + 2 → L (s (s 8 p) 1) ≤ gy (s (s 8 p) 1)) → (y = 0 → ∀ p, 0 ≤ p → p < i → 1 + z_mm t gy (s (s 8 p) 1) (t 715 (s (s 8 p) 1)).toNat ≤ gy (s (s 8 p) 1)) → z_T e (d + 3) m_S_chainFrom 24 [some (z_R 7), some (z_R (s 10 key)), some (z_I y), some (z_I r), some (z_I i), none] (z_gl sy c) Q := by
        intro l
        induction l with
        | zero =>
          intro i y sy gy j0 j1 hm hu hA hB hC
          have h72 : sy 7 2 = s 7 2 := hm.1 _ _ (by omega)
          refine b_S_chainFrom_24 ?_
          rw [z_gl_lo (by omega), h72, z_wr_id (by omega) (by omega)]
          refine ⟨fun _ => ih (r + 1) y sy gy (by omega) (by omega) hm hu (fun k u0 u1 u2 u3 => ?_) (fun q k u0 u1 u2 => ?_), fun z => by omega⟩
          · obtain ⟨p, p0, p1, p2, -⟩ := z_cS_row hS u0 u1 u2
            have hp := hB p p0.1 (by omega)
            rw [p1, p2] at hp
            exact hp (by omega)
          · obtain ⟨p, p0, p1, p2, -⟩ := z_cS_row hS u0 u1 u2
            have hp := hC q p p0.1 (by omega)
            rw [p1, p2] at hp
            exact hp
        | succ l ihl =>
          intro i y sy gy j0 j1 hm hu hA hB hC
          have h72 : sy 7 2 = s 7 2 := hm.1 _ _ (by omega)
          have h8 : sy 8 i = s 8 i := hm.1 _ _ (by omega)
          obtain ⟨⟨b1, b2⟩, b3, b4, b5⟩ := hS.2.2.2.1 i j0 (by omega)
          have hs5 := hS.2.1
          obtain ⟨z1, z2, z3, z4, z5⟩ := hS.2.2.1.1 i j0 (by omega)
          have h9 := hm.2 _ b1 b2 b3
          rw [b4] at h9
          have hkr := hKK.1 _ b1 b2 b3
          obtain ⟨w1, -, w3⟩ := z_KR_sz hT b1 b2 hkr
          have w0 := hkr.2.1
          have hLi := hL.2.1 _ b1 b2 b3
          have hLe := hle _ b1 b2 b3
          have hui := hu _ b1 b2 b3
          have hnn := z_mm_nn (t := t) (g := gy) (k := s (s 8 i) 1) (t 715 (s (s 8 i) 1)).toNat
          have mle : z_mm t gy (s (s 8 i) 1) (t 715 (s (s 8 i) 1)).toNat ≤ z_mm t L (s (s 8 i) 1) (t 715 (s (s 8 i) 1)).toNat := z_mm_mono _ (fun a a0 a1 a2 => by
            obtain ⟨v0, v1⟩ := w3 a a0 (by omega)
            exact (hu _ v0 v1 a2).1)
          -- what the row knows if its length is small
          have low : L (s (s 8 i) 1) ≤ r + 2 → L (s (s 8 i) 1) ≤ 1 + z_mm t gy (s (s 8 i) 1) (t 715 (s (s 8 i) 1)).toNat := fun hr => by
            rcases z_mm_at (t := t) (g := L) (k := s (s 8 i) 1) (t 715 (s (s 8 i) 1)).toNat with v | ⟨a, v0, v1, v2, v3⟩
            · omega
            · obtain ⟨u0, u1⟩ := w3 a v0 (by omega)
              have c1 := hA _ u0 u1 v2 (by omega)
              have c2 := z_mm_ge (g := gy) (t := t) (k := s (s 8 i) 1) (t 715 (s (s 8 i) 1)).toNat v0 v1 v2
              omega
          refine b_S_chainFrom_24 ?_
          rw [z_gl_lo (by omega), h72, z_gl_lo (by omega), h8]
          refine ⟨fun z => by omega, fun _ => ⟨by omega, ?_⟩⟩
          rw [← b4]
          refine s_S_mostMark (d := d + 1) hS hT hKK hm b1 b2 b3 ⟨by omega, ?_⟩
          rw [z_gl_lo (by omega), h8, z_gl_lo (by omega), h9, z_wr_id (by omega) (by omega)]
          simp only [z1, z_ckT]
          refine ⟨fun q2 => b_S_chainFrom_77 ?_, fun q2 => ⟨by omega, b_S_chainFrom_77 ?_⟩⟩
          · rw [z_wr_id (by omega) (by omega)]
            refine ihl (i + 1) y sy gy (by omega) (by omega) hm hu hA (fun p p0 p1 p2 => ?_) (fun q p p0 p1 => ?_)
            · by_cases hp : p = i
              · rw [hp] at p2 ⊢; have := low p2; omega
              · exact hB p p0 (by omega) p2
            · by_cases hp : p = i
              · rw [hp]; exact q2
              · exact hC q p p0 (by omega)
          · rw [z_wr_id (by omega) (by omega), z_gl_ul (by omega)]
            have m2 := z_mkd_up (v := 1 + z_mm t gy (s (s 8 i) 1) (t 715 (s (s 8 i) 1)).toNat) hS hm b1 b2 b3
            rw [b4] at m2
            have up : ∀ k, gy k ≤ (if k = s (s 8 i) 1 then 1 + z_mm t gy (s (s 8 i) 1) (t 715 (s (s 8 i) 1)).toNat else gy k) := fun k => by
              by_cases hkk : k = s (s 8 i) 1
              · rw [if_pos hkk, hkk]; omega
              · rw [if_neg hkk]; exact Int.le_refl _
            refine ihl (i + 1) 1 _ _ (by omega) (by omega) m2 (fun k u0 u1 u2 => ?_) (fun k u0 u1 u2 u3 => ?_) (fun p p0 p1 p2 => ?_) (fun q => absurd q (by decide))
            · have := hu k u0 u1 u2
              by_cases hkk : k = s (s 8 i) 1
              · rw [if_pos hkk, hkk]; omega
              · rw [if_neg hkk]; exact this
            · have := hA k u0 u1 u2 u3
              have := up k
              omega
            · by_cases hp : p = i
              · rw [hp] at p2 ⊢; rw [if_pos rfl]; exact low p2
              · have a := hB p p0 (by omega) p2
                have b := up (s (s 8 p) 1)
                omega
      exact inner (s 7 2).toNat 0 0 sx g (by omega) (by have := hS.2.1; omega) hm hu hA (fun p p0 p1 => by omega) (fun _ p p0 p1 => by omega)
  exact loop 101 0 1 s1 _ (by omega) (by omega) m1 (fun k _ _ _ => ⟨hL.1 k, Int.le_refl _⟩) (fun k _ _ _ z => by omega) (fun q => absurd q (by decide))
end CC
