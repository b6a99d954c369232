/-! calls that change: bound, clear, stop -/
theorem z_cN_st {s s' t t' : z_M} (hN : z_cN s t) (us : ∀ a i, a = 0 ∨ a = 3 ∨ a = 4 ∨ a = 9 ∨ (a = 7 ∧ (i = 4 ∨ i = 7)) → s' a i = s a i) (ut : ∀ a i, (a = 701 ∧ (i = 2 ∨ i = 26 ∨ i = 29 ∨ i = 46)) ∨ a = 703 ∨ a = 718 ∨ (a = 717 ∧ ¬ i = 4 ∧ ¬ i = 5) → t' a i = t a i) (h4 : s' 7 8 = t' 717 4) (h5 : s' 7 9 = t' 717 5) : z_cN s' t' := by
  unfold z_cN at hN ⊢
  rw [us 0 7 (by omega), us 0 9 (by omega), us 0 10 (by omega), us 0 11 (by omega), us 7 7 (by omega), us 0 12 (by omega), us 0 8 (by omega), us 7 4 (by omega), us 3 2 (by omega), ut 701 26 (by omega), ut 717 0 (by omega), ut 717 1 (by omega), ut 717 2 (by omega), ut 717 3 (by omega), ut 717 6 (by omega), ut 701 46 (by omega), ut 701 29 (by omega), ut 701 2 (by omega)]
  obtain ⟨⟨n1, n2, n3, n4, n5, n6, n7, n8, n9⟩, ⟨m1, m2, m3⟩, l1, l2, l3⟩ := hN
  exact ⟨⟨n1, n2, n3, n4, n5, h4, h5, n8, n9⟩, ⟨m1, m2, fun i i0 i1 => by rw [us 4 i (by omega), ut 703 i (by omega)]; exact m3 i i0 i1⟩, l1, l2, fun i i0 i1 => by rw [us 9 i (by omega), ut 718 i (by omega)]; exact l3 i i0 i1⟩
section UQ
variable {e : z_E} {n : Nat} {s t : z_M}
theorem z2_bound {x : Int} (h : z_RCs n s t) : z_two e n z_Inv m_C_bound m_M_bound [z_I x] (z_gl s t) := by
  have inv := z_RCs_gl (z_RCs_up h)
  obtain ⟨⟨hT, hS, hN, hB⟩, ho, hx, hc, -⟩ := id h
  have bad : ¬ (1 ≤ x ∧ x ≤ 300) → z_C e 1000 m_M_bound [z_R 701, z_I x] (z_gl s t) (fun r2 σ2 => -20001 = r2 ∧ z_Inv (n + 1) σ2) := fun q =>
    b_M_bound_0 (d := 999) (s_M_in (d := 998) (fun a b => absurd ⟨a, b⟩ q) (fun _ => ⟨fun z => absurd rfl z, fun _ => ⟨rfl, inv⟩⟩))
  refine b_C_bound_0 (d := 999) ⟨fun q => bad (by omega), fun x0 => ⟨fun x1 => ?_, fun q => bad (by omega)⟩⟩
  have us : ∀ a i, ¬ (a = 7 ∧ i = 5) → z_up s 7 5 x a i = s a i := fun a i y => z_up_ne (by omega)
  have ut : ∀ a i, ¬ (a = 701 ∧ i = 24) → z_up t 701 24 x a i = t a i := fun a i y => z_up_ne (by omega)
  have xs : z_sumx (z_up t 701 24 x) := z_sumx_congr hx.2.1 (fun k => ut _ _ (by omega)) (fun k => ut _ _ (by omega)) (ut _ _ (by omega)) (ut _ _ (by omega)) (ut _ _ (by omega))
  have h30 : ¬ z_up t 701 24 x 701 30 = 0 := by rw [ut _ _ (by omega), hB.1]; decide
  have hss := z_sumx_to xs h30
  have hrg := z_sums_rng hss
  have me : z_me t (z_up t 701 24 x) := by refine ⟨?_, ?_, ?_⟩ <;> (funext i; exact ut _ _ (by omega))
  have xK : z_KK (z_up t 701 24 x) := z_KK_same me hx.2.2.2.2.1 (fun a k _ _ => ut _ _ (by omega)) (ut _ _ (by omega))
  have xS : z_cS (z_up s 7 5 x) (z_up t 701 24 x) := by
    obtain ⟨⟨a1, a2, a3, a4⟩, c1, ⟨c2, c3⟩, c4, c5, c6⟩ := hS
    have e8 : ∀ i, z_up s 7 5 x 8 i = s 8 i := fun i => us _ _ (by omega)
    have e10 : ∀ i, z_up s 7 5 x 10 i = s 10 i := fun i => us _ _ (by omega)
    have e2 : z_up s 7 5 x 7 2 = s 7 2 := us _ _ (by omega)
    have t7 : ∀ i, z_up t 701 24 x 707 i = t 707 i := fun i => ut _ _ (by omega)
    have t14 : ∀ i, z_up t 701 24 x 714 i = t 714 i := fun i => ut _ _ (by omega)
    have eK : ∀ i j, 0 ≤ i → i < 101 → z_up s 7 5 x (s 8 i) j = s (s 8 i) j := fun i j x y => by obtain ⟨-, -, k3, k4, -⟩ := c2 i x y; exact us _ _ (by omega)
    unfold z_cS
    simp only [e8, e10, e2, t7, t14]
    rw [us 7 3 (by omega), us 7 6 (by omega), z_up_eq, ut 701 22 (by omega), ut 701 23 (by omega), ut 701 25 (by omega), z_up_eq]
    refine ⟨⟨a1, a2, rfl, a4⟩, c1, ⟨c2, c3⟩, fun i i0 i1 => ?_, fun k k0 k1 => ⟨(c5 k k0 k1).1, fun q => ?_⟩, fun i j i0 ij j1 => ?_⟩
    · rw [eK i _ i0 (by omega)]
      obtain ⟨d1, d2, d3, d4⟩ := c4 i i0 i1
      obtain ⟨-, -, k3, k4, -⟩ := c2 i i0 (by omega)
      exact ⟨d1, d2, d3, z_cW_c (fun j => eK i j i0 (by omega)) (fun j => us _ _ (by omega)) (fun a p q => ut _ _ (by omega)) (fun j _ _ => ut _ _ (by omega)) d4⟩
    · obtain ⟨i, i0, i1, i2⟩ := (c5 k k0 k1).2 q
      exact ⟨i, i0, i1, by rw [eK i _ i0 (by omega)]; exact i2⟩
    · rw [eK i _ i0 (by omega), eK j _ (by omega) (by omega)]; exact c6 i j i0 ij j1
  rw [z_gl_lo (by omega), z_gl_ul (by omega)]
  refine s_S_shrink (d := 996) xS (by rw [us _ _ (by omega), ut _ _ (by omega)]; exact hN.1.2.2.2.2.2.1) hss (by rw [z_up_eq]; omega) h30 (fun s' w1 w2 w3 w4 => ?_)
  refine b_M_bound_0 (d := 999) (s_M_in (d := 998) (fun _ _ => ⟨fun _ => ?_, fun z => by omega⟩) (fun z => absurd ⟨x0, x1⟩ z))
  rw [z_gl_hi (by omega), z_gl_up (by omega)]
  refine s_M_holdsBoundx (d := 996) xs (by rw [z_up_eq]; omega) ?_
  have mh : ∀ a i, ¬ a = 707 → ¬ (a = 701 ∧ (i = 22 ∨ i = 23)) → ¬ (a = 717 ∧ i = 4) → ¬ (a = 701 ∧ i = 24) → mf_hold 1213 (z_up t 701 24 x) a i = t a i := fun a i x1 x2 x3 x4 => by rw [mf_hold_ne x1 x2 x3, ut a i x4]
  refine ⟨hS.1.2.2.1, z_RCs_gl (z_RCs_up (z_RCs_mk h (fun a i ha => by rw [w3 a i (by omega) (by omega) (by omega) (by omega), us a i (by omega)]) (fun a i ha => mh a i (by omega) (by omega) (by omega) (by omega)) w1 ?_ ?_ ?_ ?_ ?_ ?_))⟩
  · exact z_cN_st hN (fun a i ha => by rw [w3 a i (by omega) (by omega) (by omega) (by omega), us a i (by omega)]) (fun a i ha => mh a i (by omega) (by omega) (by omega) (by omega)) w2 (by rw [w4, us _ _ (by omega), mh _ _ (by omega) (by omega) (by omega) (by omega)]; exact hN.1.2.2.2.2.2.2.1)
  · exact ⟨by rw [mh _ _ (by omega) (by omega) (by omega) (by omega)]; exact hB.1, mf_hold_le 1213 _ hss (by rw [z_up_eq]; omega) h30 (by omega)⟩
  · exact mf_hold_sumx _ _ xs (by rw [z_up_eq]; omega)
  · rw [mf_hold_ne (by omega) (by omega) (by omega), z_up_eq]; exact ⟨x0, x1⟩
  · exact z_KK_less mf_hold_me xK (fun a k _ _ _ _ _ => mf_hold_ne (by omega) (by omega) (by omega) _ _) (fun k => mf_hold_707 _ _) (by rw [mf_hold_ne (by omega) (by omega) (by omega)]; exact Int.le_refl _)
  · rw [mh _ _ (by omega) (by omega) (by omega) (by omega)]; exact ⟨hx.2.2.2.1, hc⟩
/-! clear -/
def mf_clr : Nat → z_M → z_M
  | 0, t => t
  | i + 1, t => if mf_clr i t 707 (i : Int) = 0 then mf_clr i t else mf_goes (i : Int) (mf_clr i t)
theorem mf_clr_ne {t : z_M} {a j : Int} (h : ¬ a = 707) (h2 : ¬ (a = 701 ∧ (j = 22 ∨ j = 23))) : ∀ i, mf_clr i t a j = t a j
  | 0 => rfl
  | i + 1 => by
    unfold mf_clr
    split
    · exact mf_clr_ne h h2 i
    · rw [mf_goes_ne h h2]; exact mf_clr_ne h h2 i
theorem mf_clr_707 {t : z_M} {k : Int} : ∀ i : Nat, (0 ≤ k → k < (i : Int) → mf_clr i t 707 k = 0) ∧ (¬ (0 ≤ k ∧ k < (i : Int)) → mf_clr i t 707 k = t 707 k)
  | 0 => ⟨fun a b => by omega, fun _ => rfl⟩
  | i + 1 => by
    obtain ⟨h1, h2⟩ := mf_clr_707 (t := t) (k := k) i
    have hg : ∀ m : z_M, ¬ k = (i : Int) → mf_goes (i : Int) m 707 k = m 707 k := fun m hk => by unfold mf_goes; rw [z_up_ne (by omega), z_up_ne (by omega), z_up_ne (by omega)]
    have hg0 : ∀ m : z_M, mf_goes (i : Int) m 707 (i : Int) = 0 := fun m => by unfold mf_goes; rw [z_up_ne (by omega), z_up_ne (by omega), z_up_eq]
    unfold mf_clr
    by_cases hz : mf_clr i t 707 (i : Int) = 0
    · rw [if_pos hz]
      refine ⟨fun a b => ?_, fun q => h2 (by omega)⟩
      by_cases hk : k = (i : Int)
      · rw [hk]; exact hz
      · exact h1 a (by omega)
    · rw [if_neg hz]
      refine ⟨fun a b => ?_, fun q => ?_⟩
      · by_cases hk : k = (i : Int)
        · rw [hk]; exact hg0 _
        · rw [hg _ hk]; exact h1 a (by omega)
      · rw [hg _ (by omega)]; exact h2 (by omega)
theorem mf_clr_sums {t : z_M} (h : z_sums t) : ∀ i : Nat, i ≤ 1212 → z_sums (mf_clr i t)
  | 0, _ => h
  | i + 1, hi => by
    have ih := mf_clr_sums h i (by omega)
    unfold mf_clr
    by_cases hz : mf_clr i t 707 (i : Int) = 0
    · rw [if_pos hz]; exact ih
    · rw [if_neg hz]; exact (z_sums_goes ih (by omega) (by omega) hz).1
theorem z2_clear (h : z_RCs n s t) : z_two e n z_Inv m_C_clear m_M_clear [] (z_gl s t) := by
  obtain ⟨⟨hT, hS, hN, hB⟩, ho, hx, hc, -⟩ := id h
  obtain ⟨⟨a1, a2, a3, a4⟩, c1, ⟨c2, c3⟩, c4, c5, c6⟩ := id hS
  have hss := z_sumx_to hx.2.1 (by rw [hB.1]; decide)
  have hsc := mf_clr_sums hss 1212 (by omega)
  have hz : ∀ k, 0 ≤ k → k < 1212 → mf_clr 1212 t 707 k = 0 := fun k k0 k1 => (mf_clr_707 1212).1 k0 (by omega)
  have h22 : mf_clr 1212 t 701 22 = 0 := by rw [hsc.1]; exact z_sum_none 1212 (fun k k0 k1 => hz k k0 k1)
  have h23 : mf_clr 1212 t 701 23 = 0 := by rw [hsc.2.1]; exact z_sum_none 1212 (fun k k0 k1 => hz k k0 k1)
  have mc : ∀ a i, ¬ a = 707 → ¬ (a = 701 ∧ (i = 22 ∨ i = 23)) → mf_clr 1212 t a i = t a i := fun a i x y => mf_clr_ne x y 1212
  -- the reference
  have M : ∀ (c : z_M) (Q : Int → z_M → Prop), Q (t 701 23) (z_gl c (mf_clr 1212 t)) → z_C e 1000 m_M_clear [z_R 701] (z_gl c t) Q := fun c Q hq => by
    refine b_M_clear_0 (d := 999) ?_
    rw [z_gl_hi (by omega)]
    have loop : ∀ (m i : Nat), i + m = 1212 → z_T e 999 m_M_clear 7 [some (z_R 701), some (z_I (t 701 23)), some (z_I (i : Int))] (z_gl c (mf_clr i t)) Q := by
      intro m
      induction m with
      | zero =>
        intro i hi
        obtain rfl : i = 1212 := by omega
        exact b_M_clear_7 ⟨fun _ => hq, fun z => by omega⟩
      | succ m ih =>
        intro i hi
        have nx := ih (i + 1) (by omega)
        rw [show ((i + 1 : Nat) : Int) = (i : Int) + 1 by omega] at nx
        refine b_M_clear_7 ⟨fun z => by omega, fun _ => ⟨by omega, ?_⟩⟩
        rw [z_gl_hi (by omega)]
        refine ⟨fun q => ?_, fun q => s_M_goes (d := 998) (by omega) (by omega) ?_⟩
        · refine b_M_clear_28 ?_
          rw [z_wr_id (by omega) (by omega)]
          rw [show mf_clr (i + 1) t = mf_clr i t from if_pos q] at nx
          exact nx
        · refine b_M_clear_28 ?_
          rw [z_wr_id (by omega) (by omega)]
          rw [show mf_clr (i + 1) t = mf_goes (i : Int) (mf_clr i t) from if_neg q] at nx
          exact nx
    exact loop 1212 0 (by omega)
  refine b_C_clear_0 (d := 999) (b_S_empty_0 (d := 998) ?_)
  rw [z_gl_lo (by omega)]
  have loop : ∀ (m : Nat) (i : Int) (s1 : z_M), 0 ≤ i → i + (m : Int) = s 7 2 → (∀ a j, ¬ a = 10 → s1 a j = s a j) → (∀ k, 0 ≤ k → k < 1212 → (s1 10 k = -1 ∨ s1 10 k = s 10 k) ∧ ((∃ j, 0 ≤ j ∧ j < i ∧ s (s 8 j) 1 = k) → s1 10 k = -1)) → z_T e 998 m_S_empty 7 [some (z_R 7), some (z_I (s 7 2)), some (z_I i)] (z_gl s1 t) (fun r σ1 => z_C e 1000 m_M_clear [z_R 701] σ1 (fun r2 σ2 => r = r2 ∧ z_Inv (n + 1) σ2)) := by
    intro m
    induction m with
    | zero =>
      intro i s1 i0 i1 q1 q2
      obtain rfl : i = s 7 2 := by omega
      refine b_S_empty_7 ⟨fun _ => ?_, fun z => by omega⟩
      rw [z_gl_ul (by omega), z_gl_ul (by omega)]
      refine M _ _ ⟨a1, ?_⟩
      have us : ∀ a j, ¬ a = 10 → ¬ (a = 7 ∧ (j = 2 ∨ j = 3)) → z_up (z_up s1 7 2 0) 7 3 0 a j = s a j := fun a j x y => by rw [z_up_ne (by omega), z_up_ne (by omega), q1 a j x]
      refine z_RCs_gl (z_RCs_up (z_RCs_mk h (fun a j ha => us a j (by omega) (by omega)) (fun a j ha => mc a j (by omega) (by omega)) ?_ ?_ ?_ ?_ ?_ ?_ ?_))
      · have u2 : z_up (z_up s1 7 2 0) 7 3 0 7 2 = 0 := by rw [z_up_ne (by omega), z_up_eq]
        refine ⟨⟨by rw [u2, h23], by rw [z_up_eq, h22], by rw [us _ _ (by omega) (by omega), mc _ _ (by omega) (by omega)]; exact a3, by rw [us _ _ (by omega) (by omega), mc _ _ (by omega) (by omega)]; exact a4⟩, by rw [u2]; omega, ⟨fun j j0 j1 => by rw [us _ _ (by omega) (by omega)]; exact c2 j j0 j1, fun j k j0 jk k1 => by rw [us _ _ (by omega) (by omega), us _ _ (by omega) (by omega)]; exact c3 j k j0 jk k1⟩, fun j j0 j1 => by rw [u2] at j1; omega, fun k k0 k1 => ⟨fun _ => ?_, fun q => absurd (hz k k0 k1) q⟩, fun j k j0 jk k1 => by rw [u2] at k1; omega⟩
        rw [z_up_ne (by omega), z_up_ne (by omega)]
        obtain ⟨g1, g2⟩ := q2 k k0 k1
        by_cases hk : t 707 k = 0
        · rcases g1 with g | g
          · exact g
          · rw [g]; exact (c5 k k0 k1).1 hk
        · obtain ⟨j, j0, j1, j2⟩ := (c5 k k0 k1).2 hk
          exact g2 ⟨j, j0, j1, j2⟩
      · exact z_cN_st hN (fun a j ha => us a j (by omega) (by omega)) (fun a j ha => mc a j (by omega) (by omega)) (by rw [us _ _ (by omega) (by omega), mc _ _ (by omega) (by omega)]; exact hN.1.2.2.2.2.2.1) (by rw [us _ _ (by omega) (by omega), mc _ _ (by omega) (by omega)]; exact hN.1.2.2.2.2.2.2.1)
      · rw [mc 701 30 (by omega) (by omega), mc 701 24 (by omega) (by omega), h22]
        exact ⟨hB.1, by have := hx.2.2.1; omega⟩
      · exact z_sumx_of hsc
      · rw [mc 701 24 (by omega) (by omega)]; exact hx.2.2.1
      · exact ⟨fun k k0 k1 k2 => absurd (hz k k0 k1) k2, fun k k' k0 k1 k2 k3 k4 => absurd (hz k k0 k1) k4⟩
      · rw [mc 701 21 (by omega) (by omega)]; exact ⟨hx.2.2.2.1, hc⟩
    | succ m ih =>
      intro i s1 i0 i1 q1 q2
      obtain ⟨x1, x2, x3, x4, x5⟩ := c2 i i0 (by omega)
      have hk := (c4 i i0 (by omega)).1
      refine b_S_empty_7 ⟨fun z => by omega, fun _ => ?_⟩
      rw [z_gl_lo (show (8 : Int) < 701 by omega), q1 8 i (by omega)]
      simp (disch := omega) only [x1, z_ckT, z_gl_lo, z_gl_ul, q1, z_wr_id]
      refine ⟨by omega, hk, Or.inl (by omega), by unfold z_ir; omega, ?_⟩
      refine ih (i + 1) _ (by omega) (by omega) (fun a j x => by rw [z_up_ne (by omega)]; exact q1 a j x) (fun k k0 k1 => ?_)
      rw [z_upd]
      by_cases hkk : k = s (s 8 i) 1
      · rw [if_pos ⟨rfl, hkk⟩]; exact ⟨Or.inl rfl, fun _ => rfl⟩
      · rw [if_neg (fun q => hkk q.2)]
        obtain ⟨g1, g2⟩ := q2 k k0 k1
        refine ⟨g1, fun ⟨j, j0, j1, j2⟩ => g2 ⟨j, j0, ?_, j2⟩⟩
        by_cases hj : j = i
        · rw [hj] at j2; exact absurd j2.symm hkk
        · omega
  exact loop (s 7 2).toNat 0 s (by omega) (by omega) (fun _ _ _ => rfl) (fun k _ _ => ⟨Or.inr rfl, fun ⟨j, j0, j1, _⟩ => by omega⟩)
end UQ
