/-! the first memory -/
theorem z_Inv0 : ∀ σ, z_q 740 σ (fun _ _ => False) → z_rM σ → z_Inv 0 σ := fun σ hq _ => by
  have g : ∀ k i, 0 ≤ k → k < 740 → 0 ≤ i → i < z_nsl (z_knd k) → σ k i = z_m0 k i := fun k i a b c d => (hq k i a (by omega) c d).2 (fun z => z)
  have arr : ∀ (k : Int) (kd : Nat), z_knd k = kd → 0 ≤ k → k < 740 → ¬ kd < 100000 → kd < 300000 → ∀ i, 0 ≤ i → i < ((kd % 100000 : Nat) : Int) → σ k i = 0 := fun k kd hk k0 k1 h1 h2 i i0 i1 => by
    rw [g k i k0 k1 i0 (by rw [hk]; unfold z_nsl; rw [if_neg h1]; exact i1)]
    unfold z_m0; rw [hk]; unfold z_m0k; rw [if_neg h1, if_pos h2]
  have ru : ∀ q i, 0 ≤ q → q < 4 → 1 ≤ i → i ≤ 4 → σ (z_ru q) i = 0 := by
    intro q i a b c d
    rcases (show q = 0 ∨ q = 1 ∨ q = 2 ∨ q = 3 by omega) with rfl | rfl | rfl | rfl <;> rcases (show i = 1 ∨ i = 2 ∨ i = 3 ∨ i = 4 by omega) with rfl | rfl | rfl | rfl <;> (rw [g _ _ (by decide +kernel) (by decide +kernel) (by omega) (by decide +kernel)]; decide +kernel)
  have tx : ∀ R, 0 ≤ R → R < 12 → σ (309 + 2 * R) 1 = 0 := by
    intro R a b
    rcases (show R = 0 ∨ R = 1 ∨ R = 2 ∨ R = 3 ∨ R = 4 ∨ R = 5 ∨ R = 6 ∨ R = 7 ∨ R = 8 ∨ R = 9 ∨ R = 10 ∨ R = 11 by omega) with rfl | rfl | rfl | rfl | rfl | rfl | rfl | rfl | rfl | rfl | rfl | rfl <;> (rw [g _ _ (by decide +kernel) (by decide +kernel) (by omega) (by decide +kernel)]; decide +kernel)
  have row : ∀ i, 0 ≤ i → i < 101 → σ 8 i = 11 + 2 * i := fun i i0 i1 => by
    have hk : z_knd 8 = 600101 := by decide +kernel
    rw [g 8 i (by omega) (by omega) i0 (by rw [hk]; exact i1)]
    unfold z_m0; rw [hk]; unfold z_m0k
    rw [if_neg (by decide), if_neg (by decide), if_pos (by decide), if_pos rfl]
  have byk : ∀ i, 0 ≤ i → i < 1212 → σ 10 i = -1 := fun i i0 i1 => by
    have hk : z_knd 10 = 601212 := by decide +kernel
    rw [g 10 i (by omega) (by omega) i0 (by rw [hk]; exact i1)]
    unfold z_m0; rw [hk]; unfold z_m0k
    rw [if_neg (by decide), if_neg (by decide), if_pos (by decide), if_neg (by decide)]
  have a1 := arr 1 100012 (by decide +kernel) (by omega) (by omega) (by decide) (by decide)
  have a702 := arr 702 100012 (by decide +kernel) (by omega) (by omega) (by decide) (by decide)
  have a705 := arr 705 100012 (by decide +kernel) (by omega) (by omega) (by decide) (by decide)
  have a707 := arr 707 201212 (by decide +kernel) (by omega) (by omega) (by decide) (by decide)
  have a717 := arr 717 100007 (by decide +kernel) (by omega) (by omega) (by decide) (by decide)
  have a719 := arr 719 100005 (by decide +kernel) (by omega) (by omega) (by decide) (by decide)
  have a721 := arr 721 100005 (by decide +kernel) (by omega) (by omega) (by decide) (by decide)
  have a722 := arr 722 100005 (by decide +kernel) (by omega) (by omega) (by decide) (by decide)
  have a215 := arr 215 101212 (by decide +kernel) (by omega) (by omega) (by decide) (by decide)
  have m12 : ((100012 % 100000 : Nat) : Int) = 12 := by decide
  have m1212 : ((201212 % 100000 : Nat) : Int) = 1212 := by decide
  have m1213 : ((101212 % 100000 : Nat) : Int) = 1212 := by decide
  have m7 : ((100007 % 100000 : Nat) : Int) = 7 := by decide
  have m5 : ((100005 % 100000 : Nat) : Int) = 5 := by decide
  rw [m12] at a1 a702 a705
  rw [m1212] at a707
  rw [m1213] at a215
  rw [m7] at a717
  rw [m5] at a719 a721 a722
  have f : ∀ k i v, 0 ≤ k → k < 740 → 0 ≤ i → i < z_nsl (z_knd k) → z_m0 k i = v → σ k i = v := fun k i v a b c d e => by rw [g k i a b c d]; exact e
  have c7 := f 0 7 0 (by omega) (by omega) (by omega) (by decide +kernel) (by decide +kernel)
  have c8 := f 0 8 0 (by omega) (by omega) (by omega) (by decide +kernel) (by decide +kernel)
  have c9 := f 0 9 0 (by omega) (by omega) (by omega) (by decide +kernel) (by decide +kernel)
  have c10 := f 0 10 0 (by omega) (by omega) (by omega) (by decide +kernel) (by decide +kernel)
  have c11 := f 0 11 0 (by omega) (by omega) (by omega) (by decide +kernel) (by decide +kernel)
  have c12 := f 0 12 0 (by omega) (by omega) (by omega) (by decide +kernel) (by decide +kernel)
  have r2 := f 3 2 0 (by omega) (by omega) (by omega) (by decide +kernel) (by decide +kernel)
  have s2 := f 7 2 0 (by omega) (by omega) (by omega) (by decide +kernel) (by decide +kernel)
  have s3 := f 7 3 0 (by omega) (by omega) (by omega) (by decide +kernel) (by decide +kernel)
  have s4 := f 7 4 0 (by omega) (by omega) (by omega) (by decide +kernel) (by decide +kernel)
  have s5 := f 7 5 60 (by omega) (by omega) (by omega) (by decide +kernel) (by decide +kernel)
  have s6 := f 7 6 0 (by omega) (by omega) (by omega) (by decide +kernel) (by decide +kernel)
  have s7 := f 7 7 0 (by omega) (by omega) (by omega) (by decide +kernel) (by decide +kernel)
  have s8 := f 7 8 0 (by omega) (by omega) (by omega) (by decide +kernel) (by decide +kernel)
  have s9 := f 7 9 0 (by omega) (by omega) (by omega) (by decide +kernel) (by decide +kernel)
  have h2 := f 213 2 0 (by omega) (by omega) (by omega) (by decide +kernel) (by decide +kernel)
  have m2 := f 701 2 0 (by omega) (by omega) (by omega) (by decide +kernel) (by decide +kernel)
  have m21 := f 701 21 0 (by omega) (by omega) (by omega) (by decide +kernel) (by decide +kernel)
  have m22 := f 701 22 0 (by omega) (by omega) (by omega) (by decide +kernel) (by decide +kernel)
  have m23 := f 701 23 0 (by omega) (by omega) (by omega) (by decide +kernel) (by decide +kernel)
  have m24 := f 701 24 60 (by omega) (by omega) (by omega) (by decide +kernel) (by decide +kernel)
  have m25 := f 701 25 0 (by omega) (by omega) (by omega) (by decide +kernel) (by decide +kernel)
  have m26 := f 701 26 0 (by omega) (by omega) (by omega) (by decide +kernel) (by decide +kernel)
  have m29 := f 701 29 0 (by omega) (by omega) (by omega) (by decide +kernel) (by decide +kernel)
  have m30 := f 701 30 1 (by omega) (by omega) (by omega) (by decide +kernel) (by decide +kernel)
  have m46 := f 701 46 0 (by omega) (by omega) (by omega) (by decide +kernel) (by decide +kernel)
  refine ⟨⟨⟨fun k k0 k1 => by rw [a1 k k0 k1, a702 k k0 k1], fun R R0 R1 => ?_⟩, ⟨⟨by rw [s2, m23], by rw [s3, m22], by rw [s5, m24], by rw [s6, m25]⟩, by omega, ⟨fun i i0 i1 => by rw [row i i0 i1]; exact z_isK_of (by omega) (by omega) (by omega), fun i j i0 ij j1 => by rw [row i i0 (by omega), row j (by omega) j1]; omega⟩, fun i i0 i1 => by omega, fun k k0 k1 => ⟨fun _ => byk k k0 k1, fun z => absurd (a707 k k0 k1) z⟩, fun i j i0 ij j1 => by omega⟩, ⟨⟨by rw [c7, m26], by rw [c9, a717 0 (by omega) (by omega)], by rw [c10, a717 1 (by omega) (by omega)], by rw [c11, a717 2 (by omega) (by omega)], by rw [s7, a717 3 (by omega) (by omega)], by rw [s8, a717 4 (by omega) (by omega)], by rw [s9, a717 5 (by omega) (by omega)], by rw [c12, a717 6 (by omega) (by omega)], by rw [c8, m46]⟩, ⟨by rw [r2, m2], by omega, fun i i0 i1 => by omega⟩, by rw [s4, m29], by omega, fun i i0 i1 => by omega⟩, m30, by omega⟩, fun q q0 q1 => ⟨⟨⟨⟨by rw [ru q 3 q0 q1 (by omega) (by omega), a722 q q0 (by omega)], by rw [ru q 4 q0 q1 (by omega) (by omega), a721 q q0 (by omega)]⟩, by have := a722 q q0 (by omega); omega, fun i i0 i1 => by have := a722 q q0 (by omega); omega⟩, by rw [ru q 2 q0 q1 (by omega) (by omega), a719 q q0 (by omega)], fun z => by have := a719 q q0 (by omega); omega, fun z => by have := a719 q q0 (by omega); omega, fun z => by have := a719 q q0 (by omega); omega⟩, ?_⟩, ⟨⟨fun k k0 k1 => by rw [a702 k k0 k1]; omega, fun R R0 R1 => ?_⟩, z_sumx_of ⟨?_, ?_, fun k k0 k1 k2 => absurd (a707 k k0 k1) k2⟩, by omega, by omega, ⟨fun k k0 k1 k2 => absurd (a707 k k0 k1) k2, fun k k' k0 k1 _ _ k4 _ _ => absurd (a707 k k0 k1) k4⟩, fun q q0 q1 _ => Or.inr (Or.inr ⟨Or.inl (a719 q q0 (by omega)), a722 q q0 (by omega), by have := a721 q q0 (by omega); omega⟩)⟩, by omega, by omega, by omega, fun k k0 k1 => by rw [a215 k k0 k1]; omega⟩
  · have := a705 R R0 R1
    have := tx R R0 R1
    exact ⟨by omega, fun p p0 p1 => by omega⟩
  · exact ru q 1 q0 q1 (by omega) (by omega)
  · have := a705 R R0 R1
    exact ⟨by omega, by omega, by omega, fun z => absurd this z⟩
  · rw [m22, z_sum_none 1212 (fun k k0 k1 => a707 k k0 (by omega))]
  · rw [m23, z_sum_none 1212 (fun k k0 k1 => a707 k k0 (by omega))]
theorem z_Invm : ∀ n σ, z_Inv n σ → z_Inv (n + 1) σ := fun _ _ h => z_RCs_up h
