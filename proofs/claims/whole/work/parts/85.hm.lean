/-! heirs, in the reference, and both -/
section HM
variable {e : z_E} {n : Nat} {c s t : z_M} {Q : Int → z_M → Prop}
theorem s_M_heirs {key : Int} {d : Nat} (hT : z_TT t) (hKK : z_KK t) (k0 : 0 ≤ key) (k1 : key < 1212) (hk : ¬ t 707 key = 0) (h : ∀ t', (∀ a i, ¬ a = 738 → t' a i = t a i) → z_hA t key (t' 738) → z_hC t (t' 738) → Q (z_cn t (t' 738) 1212 - 1) (z_gl c t')) : z_C e (d + 3) m_M_heirs [z_R 701, z_I key] (z_gl c t) Q := by
  refine b_M_heirs_0 (s_M_isKey (d := d) (fun _ _ => ⟨fun _ => ⟨⟨k0, k1⟩, ?_⟩, fun z => by omega⟩) (fun z => by omega))
  rw [z_gl_hi (by omega)]
  refine ⟨fun _ => ?_, fun z => absurd z hk⟩
  have inn : ∀ (N : Nat) (x2 x3 : Int) (tx : z_M), (∀ a i, ¬ a = 738 → tx a i = t a i) → z_hA t key (tx 738) → (∀ k, 0 ≤ k → k < 1212 → ¬ tx 738 k = 0 → ¬ t 707 k = 0) → z_cn t (tx 738) 1212 = x2 + 1 → (x3 = 0 → z_hC t (tx 738)) → (¬ x3 = 0 → 1213 ≤ x2 + 1 + (N : Int)) → z_T e (d + 2) m_M_heirs 60 [some (z_R 701), none, some (z_I x2), some (z_I x3), none] (z_gl c tx) Q := by
    intro N
    induction N with
    | zero =>
      intro x2 x3 tx g1 hA hz hc hC hN
      have hr := z_cn_rng (t := t) (g := tx 738) 1212
      refine b_M_heirs_60 ⟨fun q => ?_, fun q => by have := hN q; omega⟩
      have := h tx g1 hA (hC q)
      rw [hc, show x2 + 1 - 1 = x2 by omega] at this
      exact this
    | succ N ihN =>
      intro x2 x3 tx g1 hA hz hc hC hN
      refine b_M_heirs_60 ⟨fun q => ?_, fun q => ?_⟩
      · have := h tx g1 hA (hC q)
        rw [hc, show x2 + 1 - 1 = x2 by omega] at this
        exact this
      have hN := hN q
      have inner : ∀ (l : Nat) (i : Int) (y x : Int) (ty : z_M), 0 ≤ i → i + (l : Int) = 1212 → (∀ a i, ¬ a = 738 → ty a i = t a i) → z_hA t key (ty 738) → (∀ k, 0 ≤ k → k < 1212 → ¬ ty 738 k = 0 → ¬ t 707 k = 0) → z_cn t (ty 738) 1212 = x + 1 → (y = 0 → x = x2 ∧ ∀ p, 0 ≤ p → p < i → ¬ t 707 p = 0 → ∀ a, 0 ≤ a → a < t 715 p → ¬ ty 738 (t 716 (32 * p + a)) = 0 → ¬ ty 738 p = 0) → (¬ y = 0 → x2 < x) → z_T e (d + 2) m_M_heirs 69 [some (z_R 701), none, some (z_I x), some (z_I y), some (z_I i)] (z_gl c ty) Q := by
        intro l
        induction l with
        | zero =>
          intro i y x ty i0 i1 g1 hA hz hc hC hy
          refine b_M_heirs_69 ⟨fun _ => ?_, fun z => by omega⟩
          exact ihN x y ty g1 hA hz hc (fun q k a u0 u1 u2 u3 u4 u5 u6 => (hC q).2 k u0 (by omega) u2 a u3 u4 u6) (fun q => by have := hy q; omega)
        | succ l ihl =>
          intro i y x ty i0 i1 g1 hA hz hc hC hy
          have hr := z_cn_rng (t := t) (g := ty 738) 1212
          have hr0 := (z_cn_le (t := t) (g := ty 738) 1212).1
          have next : (¬ t 707 i = 0 → ∀ a, 0 ≤ a → a < t 715 i → ¬ ty 738 (t 716 (32 * i + a)) = 0 → ¬ ty 738 i = 0) → z_T e (d + 2) m_M_heirs 119 [some (z_R 701), none, some (z_I x), some (z_I y), some (z_I i)] (z_gl c ty) Q := fun hor => by
            refine b_M_heirs_119 ?_
            rw [z_wr_id (by omega) (by omega)]
            refine ihl (i + 1) y x ty (by omega) (by omega) g1 hA hz hc (fun q => ⟨(hC q).1, fun p p0 p1 p2 a u3 u4 u6 => ?_⟩) hy
            by_cases hp : p = i
            · rw [hp] at p2 u4 u6 ⊢
              exact hor p2 a u3 u4 u6
            · exact (hC q).2 p p0 (by omega) p2 a u3 u4 u6
          refine b_M_heirs_69 ⟨fun z => by omega, fun _ => ⟨by omega, ?_⟩⟩
          rw [z_gl_hi (by omega), z_gl_hi (by omega), g1 _ _ (by omega)]
          refine ⟨fun q => next (fun z => absurd q z), fun hki => ⟨by omega, fun q => next (fun _ _ _ _ _ => q), fun q => ?_⟩⟩
          have hkr := hKK.1 i i0 (by omega) hki
          obtain ⟨w1, -, w3⟩ := z_KR_sz hT i0 (by omega) hkr
          have w0 := hkr.2.1
          have e15 : ty 715 i = t 715 i := g1 _ _ (by omega)
          have e16 : ∀ j, ty 716 j = t 716 j := fun j => g1 _ _ (by omega)
          refine s_M_asksHeir (d := d + 1) i0 (by omega) (by omega) (fun j j0 j1 => by rw [e16]; exact w3 j j0 (by omega)) (fun j j0 j1 j2 => ⟨fun z => by omega, fun _ => ⟨by omega, Or.inr rfl, ?_⟩⟩) (fun hz0 => ⟨fun _ => next (fun _ a u3 u4 u6 => absurd (by rw [← e16]; exact hz0 a u3 (by omega)) u6), fun z => absurd rfl z⟩)
          rw [e15] at j1
          rw [e16] at j2
          obtain ⟨v0, v1⟩ := w3 j j0 j1
          rw [z_gl_up (by omega), z_wr_id (by omega) (by omega)]
          refine b_M_heirs_119 ?_
          rw [z_wr_id (by omega) (by omega)]
          have hs : ∀ k, ¬ k = i → z_up ty 738 i 1 738 k = ty 738 k := fun k hki => z_up_ne (by omega)
          have hi1 : ¬ z_up ty 738 i 1 738 i = 0 := by rw [z_up_eq]; decide
          refine ihl (i + 1) 1 (x + 1) (z_up ty 738 i 1) (by omega) (by omega) (fun a p hp => by rw [z_up_ne (by omega)]; exact g1 a p hp) (z_hA_up hA i0 (by omega) hki j0 j1 (hz _ v0 v1 j2) ⟨v0, v1⟩ j2 hi1 hs) (fun k k0 k1 k2 => ?_) ?_ (fun z => by omega) (fun _ => ?_)
          · by_cases hki2 : k = i
            · rw [hki2]; exact hki
            · rw [hs k hki2] at k2; exact hz k k0 k1 k2
          · rw [z_cn_add (g := ty 738) (x := i) i0 hki q hi1 (fun k hk2 => by rw [hs k hk2]) 1212, hc, if_pos (by omega)]
          · by_cases hy0 : y = 0
            · have := (hC hy0).1; omega
            · have := hy hy0; omega
      exact inner 1212 0 0 x2 tx (by omega) (by omega) g1 hA hz hc (fun _ => ⟨rfl, fun p p0 p1 => by omega⟩) (fun z => absurd rfl z)
  have loop0 : ∀ (m i : Nat) (tx : z_M), i + m = 1212 → (∀ a i, ¬ a = 738 → tx a i = t a i) → (∀ j, 0 ≤ j → j < (i : Int) → tx 738 j = if j = key then 1 else 0) → z_T e (d + 2) m_M_heirs 27 [some (z_R 701), some (z_I key), some (z_I (i : Int)), none, none] (z_gl c tx) Q := by
    intro m
    induction m with
    | zero =>
      intro i tx hi g1 g2
      obtain rfl : i = 1212 := by omega
      refine b_M_heirs_27 ⟨fun _ => ?_, fun z => by omega⟩
      have e0 : ¬ tx 738 key = 0 := by rw [g2 key k0 (by omega), if_pos rfl]; decide
      have e1 : ∀ k, 0 ≤ k → k < 1212 → ¬ k = key → tx 738 k = 0 := fun k z0 z1 z2 => by rw [g2 k z0 (by omega), if_neg z2]
      refine inn 1212 0 1 tx g1 (z_hA_0 e0 e1) (fun k z0 z1 z2 => ?_) ?_ (fun z => by omega) (fun _ => by omega)
      · by_cases hq : k = key
        · rw [hq]; exact hk
        · exact absurd (e1 k z0 z1 hq) z2
      · have hc2 := z_cn_congr (t := t) (t' := t) (g := fun j => if j = key then 1 else 0) (g' := tx 738) (fun _ => rfl) 1212 (fun k z0 z1 _ => by rw [g2 k z0 z1])
        rw [hc2, z_cn_add (g := fun _ => (0 : Int)) (x := key) k0 hk rfl (by rw [if_pos rfl]; decide) (fun j hj => by rw [if_neg hj]) 1212, z_cn_none 1212 (fun _ _ _ => rfl), if_pos (by omega), Int.zero_add]
    | succ m ih =>
      intro i tx hi g1 g2
      have step : ∀ v, v = (if (i : Int) = key then 1 else 0) → z_T e (d + 2) m_M_heirs 27 [some (z_R 701), some (z_I key), some (z_I ((i : Int) + 1)), none, none] (z_gl c (z_up tx 738 (i : Int) v)) Q := fun v hv => by
        have nx := ih (i + 1) (z_up tx 738 (i : Int) v) (by omega) (fun a j hj => by rw [z_up_ne (by omega)]; exact g1 a j hj) (fun j j0 j1 => by
          by_cases hji : j = (i : Int)
          · rw [hji, z_up_eq]; exact hv
          · rw [z_up_ne (by omega)]; exact g2 j j0 (by omega))
        rw [show ((i + 1 : Nat) : Int) = (i : Int) + 1 by omega] at nx
        exact nx
      refine b_M_heirs_27 ⟨fun z => by omega, fun _ => ⟨fun q => ⟨by omega, Or.inl rfl, ?_⟩, fun q => ⟨by omega, Or.inr rfl, ?_⟩⟩⟩
      · rw [z_wr_id (by omega) (by omega), z_gl_up (by omega)]
        exact step 0 (by rw [if_neg q])
      · rw [z_wr_id (by omega) (by omega), z_gl_up (by omega)]
        exact step 1 (by rw [if_pos q])
  exact loop0 1212 0 t (by omega) (fun _ _ _ => rfl) (fun j j0 j1 => by omega)
theorem z_RCs_100 (h : z_RCs n s t) : z_sums t ∧ s 7 2 ≤ 100 := by
  obtain ⟨⟨hT, hS, hN, hB⟩, ho, hx, -⟩ := h
  have hss := z_sumx_to hx.2.1 (by rw [hB.1]; decide)
  have := z_sums_rng hss
  have := hS.1.1
  have := hx.2.2.1
  exact ⟨hss, by omega⟩
theorem z2_heirs {k : Int} (h : z_RCs n s t) : z_two e n z_Inv m_C_heirs m_M_heirs [z_I k] (z_gl s t) := by
  have inv := z_RCs_gl (z_RCs_up h)
  have hx := h.2.2.1
  have hS := h.1.2.1
  have hKK := hx.2.2.2.2.1
  obtain ⟨hss, hn⟩ := z_RCs_100 h
  refine b_C_heirs_0 (d := 999) (s_C_within (d := 998) (fun k0 k1 => ⟨fun _ => s_S_find (d := 998) k0 k1 ?_, fun z => by omega⟩) (fun q => ⟨fun z => absurd rfl z, fun _ => b_M_heirs_0 (d := 999) (s_M_isKey (d := 997) (fun _ _ => by omega) (fun _ => ⟨fun z => absurd rfl z, fun _ => ⟨rfl, inv⟩⟩))⟩))
  by_cases hk : t 707 k = 0
  · rw [(hS.2.2.2.2.1 k k0 k1).1 hk]
    refine ⟨fun z => by omega, fun _ => b_M_heirs_0 (d := 999) (s_M_isKey (d := 997) (fun _ _ => ⟨fun _ => ⟨⟨k0, k1⟩, ?_⟩, fun z => by omega⟩) (fun z => by omega))⟩
    rw [z_gl_hi (by omega)]
    exact ⟨fun z => absurd hk z, fun _ => ⟨rfl, inv⟩⟩
  · obtain ⟨i, -, -, -, hK, -⟩ := z_cS_row hS k0 k1 hk
    have hK3 := hK.2.2.1
    refine ⟨fun _ => s_S_heirsOf (d := 995) hS hx.1 hKK hss hn k0 k1 hk (fun s' g hm hA hC => ?_), fun z => by omega⟩
    refine s_M_heirs (d := 997) hx.1 hKK k0 k1 hk (fun t' ht hA' hC' => ⟨?_, z_RCs_gl (z_RCs_mkd h hm (fun a i q => ht a i (by omega)))⟩)
    rw [z_cn_congr (t := t) (t' := t) (g := g) (g' := t' 738) (fun _ => rfl) 1212 (fun j j0 j1 j2 => z_h_un hA hC hA' hC' j0 (by omega) j2)]
end HM
