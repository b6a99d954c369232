/-! chain, in the reference, and both -/
section CM
variable {e : z_E} {n : Nat} {c s t : z_M} {Q : Int → z_M → Prop}
theorem s_M_chain {key : Int} {d : Nat} {L : Int → Int} (hL : z_LL t L) (hle : ∀ k, 0 ≤ k → k < 1212 → ¬ t 707 k = 0 → L k ≤ 100) (hT : z_TT t) (hKK : z_KK t) (k0 : 0 ≤ key) (k1 : key < 1212) (hk : ¬ t 707 key = 0) (h : ∀ t', (∀ a i, ¬ a = 739 → t' a i = t a i) → Q (L key) (z_gl c t')) : z_C e (d + 3) m_M_chain [z_R 701, z_I key] (z_gl c t) Q := by
  refine b_M_chain_0 (s_M_isKey (d := d) (fun _ _ => ⟨fun _ => ⟨⟨k0, k1⟩, ?_⟩, fun z => by omega⟩) (fun z => by omega))
  rw [z_gl_hi (by omega)]
  refine ⟨fun _ => ?_, fun z => absurd z hk⟩
  -- what a memory of lengths keeps
  have fin : ∀ tx : z_M, (∀ a i, ¬ a = 739 → tx a i = t a i) → tx 739 key = L key → Q (z_gl c tx 739 key) (z_gl c tx) := fun tx g1 hg => by
    rw [z_gl_hi (by omega), hg]; exact h tx g1
  have loop : ∀ (m : Nat) (r x2 : Int) (tx : z_M), 0 ≤ r → r + (m : Int) = 1212 → (∀ a i, ¬ a = 739 → tx a i = t a i) → (∀ k, 0 ≤ k → k < 1212 → (t 707 k = 0 → tx 739 k = 0) ∧ (¬ t 707 k = 0 → tx 739 k ≤ L k ∧ 1 ≤ tx 739 k)) → (∀ k, 0 ≤ k → k < 1212 → ¬ t 707 k = 0 → L k ≤ r + 1 → L k ≤ tx 739 k) → (x2 = 0 → ∀ k, 0 ≤ k → k < 1212 → ¬ t 707 k = 0 → ∀ a, 0 ≤ a → a < t 715 k → ¬ t 707 (t 716 (32 * k + a)) = 0 → tx 739 (t 716 (32 * k + a)) + 1 ≤ tx 739 k) → z_T e (d + 2) m_M_chain 64 [some (z_R 701), some (z_I key), some (z_I x2), some (z_I r), none, none, none] (z_gl c tx) Q := by
    intro m
    induction m with
    | zero =>
      intro r x2 tx r0 r1 g1 hu hA hC
      refine b_M_chain_64 ⟨fun _ => ⟨⟨k0, k1⟩, ?_⟩, fun z => by omega⟩
      have a := (hu key k0 k1).2 hk
      have b := hA key k0 k1 hk (by have := hle key k0 k1 hk; omega)
      exact fin tx g1 (by omega)
    | succ m ih =>
      intro r x2 tx r0 r1 g1 hu hA hC
      refine b_M_chain_64 ⟨fun z => by omega, fun _ => ⟨fun q => ⟨⟨k0, k1⟩, ?_⟩, fun q => ?_⟩⟩
      · have a := (hu key k0 k1).2 hk
        have b := hL.2.2 (tx 739) (fun k u0 u1 u2 => by
          have hkr := hKK.1 k u0 u1 u2
          have h15 := hkr.2.1
          have uk := (hu k u0 u1).2 u2
          rcases z_mm_at (t := t) (g := tx 739) (k := k) (t 715 k).toNat with v | ⟨a, v0, v1, v2, v3⟩
          · omega
          · have := hC q k u0 u1 u2 a v0 (by omega) v2
            omega) key k0 k1 hk
        exact fin tx g1 (by omega)
      have outer : ∀ (l : Nat) (i y : Int) (ty : z_M), 0 ≤ i → i + (l : Int) = 1212 → (∀ a i, ¬ a = 739 → ty a i = t a i) → (∀ k, 0 ≤ k → k < 1212 → (t 707 k = 0 → ty 739 k = 0) ∧ (¬ t 707 k = 0 → ty 739 k ≤ L k ∧ 1 ≤ ty 739 k)) → (∀ k, 0 ≤ k → k < 1212 → ¬ t 707 k = 0 → L k ≤ r + 1 → L k ≤ ty 739 k) → (∀ k, 0 ≤ k → k < i → ¬ t 707 k = 0 → L k ≤ r + 2 → L k ≤ ty 739 k) → (y = 0 → ∀ k, 0 ≤ k → k < i → ¬ t 707 k = 0 → ∀ a, 0 ≤ a → a < t 715 k → ¬ t 707 (t 716 (32 * k + a)) = 0 → ty 739 (t 716 (32 * k + a)) + 1 ≤ ty 739 k) → z_T e (d + 2) m_M_chain 80 [some (z_R 701), some (z_I key), some (z_I y), some (z_I r), some (z_I i), none, none] (z_gl c ty) Q := by
        intro l
        induction l with
        | zero =>
          intro i y ty i0 i1 g1 hu hA hB hC
          refine b_M_chain_80 ⟨fun _ => ?_, fun z => by omega⟩
          rw [z_wr_id (by omega) (by omega)]
          exact ih (r + 1) y ty (by omega) (by omega) g1 hu (fun k u0 u1 u2 u3 => hB k u0 (by omega) u2 (by omega)) (fun q k u0 u1 u2 => hC q k u0 (by omega) u2)
        | succ l ihl =>
          intro i y ty i0 i1 g1 hu hA hB hC
          -- to the next key
          have next : ∀ (y : Int) (ty : z_M), (∀ a i, ¬ a = 739 → ty a i = t a i) → (∀ k, 0 ≤ k → k < 1212 → (t 707 k = 0 → ty 739 k = 0) ∧ (¬ t 707 k = 0 → ty 739 k ≤ L k ∧ 1 ≤ ty 739 k)) → (∀ k, 0 ≤ k → k < 1212 → ¬ t 707 k = 0 → L k ≤ r + 1 → L k ≤ ty 739 k) → (∀ k, 0 ≤ k → k < i → ¬ t 707 k = 0 → L k ≤ r + 2 → L k ≤ ty 739 k) → (y = 0 → ∀ k, 0 ≤ k → k < i → ¬ t 707 k = 0 → ∀ a, 0 ≤ a → a < t 715 k → ¬ t 707 (t 716 (32 * k + a)) = 0 → ty 739 (t 716 (32 * k + a)) + 1 ≤ ty 739 k) → (¬ t 707 i = 0 → ∀ a, 0 ≤ a → a < t 715 i → ¬ t 707 (t 716 (32 * i + a)) = 0 → ty 739 (t 716 (32 * i + a)) + 1 ≤ ty 739 i) → z_T e (d + 2) m_M_chain 171 [some (z_R 701), some (z_I key), some (z_I y), some (z_I r), some (z_I i), none, none] (z_gl c ty) Q := fun y ty g1 hu hA hB hC hi => by
            refine b_M_chain_171 ?_
            rw [z_wr_id (by omega) (by omega)]
            refine ihl (i + 1) y ty (by omega) (by omega) g1 hu hA (fun k u0 u1 u2 u3 => ?_) (fun q k u0 u1 u2 => ?_)
            · by_cases hki : k = i
              · rw [hki] at u2 u3 ⊢
                have uk := (hu i i0 (by omega)).2 u2
                have e := hL.2.1 i i0 (by omega) u2
                have hkr := hKK.1 i i0 (by omega) u2
                have h15 := hkr.2.1
                obtain ⟨-, -, w3⟩ := z_KR_sz hT i0 (by omega) hkr
                rcases z_mm_at (t := t) (g := L) (k := i) (t 715 i).toNat with v | ⟨a, v0, v1, v2, v3⟩
                · omega
                · obtain ⟨p0, p1⟩ := w3 a v0 (by omega)
                  have c1 := hA _ p0 p1 v2 (by omega)
                  have c2 := hi u2 a v0 (by omega) v2
                  omega
              · exact hB k u0 (by omega) u2 u3
            · by_cases hki : k = i
              · rw [hki] at u2 ⊢; exact hi u2
              · exact hC q k u0 (by omega) u2
          have inner : ∀ (w : Nat) (a y : Int) (tz : z_M), ¬ t 707 i = 0 → 0 ≤ a → a + (w : Int) = t 715 i → (∀ a i, ¬ a = 739 → tz a i = t a i) → (∀ k, 0 ≤ k → k < 1212 → (t 707 k = 0 → tz 739 k = 0) ∧ (¬ t 707 k = 0 → tz 739 k ≤ L k ∧ 1 ≤ tz 739 k)) → (∀ k, 0 ≤ k → k < 1212 → ¬ t 707 k = 0 → L k ≤ r + 1 → L k ≤ tz 739 k) → (∀ k, 0 ≤ k → k < i → ¬ t 707 k = 0 → L k ≤ r + 2 → L k ≤ tz 739 k) → (y = 0 → ∀ k, 0 ≤ k → k < i → ¬ t 707 k = 0 → ∀ a, 0 ≤ a → a < t 715 k → ¬ t 707 (t 716 (32 * k + a)) = 0 → tz 739 (t 716 (32 * k + a)) + 1 ≤ tz 739 k) → (∀ b, 0 ≤ b → b < a → ¬ t 707 (t 716 (32 * i + b)) = 0 → tz 739 (t 716 (32 * i + b)) + 1 ≤ tz 739 i) → z_T e (d + 2) m_M_chain 91 [some (z_R 701), some (z_I key), some (z_I y), some (z_I r), some (z_I i), some (z_I a), none] (z_gl c tz) Q := by
            intro w
            induction w with
            | zero =>
              intro a y tz hki a0 a1 g1 hu hA hB hC hi
              have e15 : tz 715 i = t 715 i := g1 _ _ (by omega)
              refine b_M_chain_91 ⟨⟨i0, by omega⟩, ?_⟩
              rw [z_gl_hi (by omega), z_gl_hi (by omega), g1 707 _ (by omega), e15]
              exact ⟨fun z => absurd z hki, fun _ => ⟨by omega, fun _ => next y tz g1 hu hA hB hC (fun _ b b0 b1 b2 => hi b b0 (by omega) b2), fun z => by omega⟩⟩
            | succ w ihw =>
              intro a y tz hki a0 a1 g1 hu hA hB hC hi
              have e15 : tz 715 i = t 715 i := g1 _ _ (by omega)
              have e16 : tz 716 (32 * i + a) = t 716 (32 * i + a) := g1 _ _ (by omega)
              have hkr := hKK.1 i i0 (by omega) hki
              obtain ⟨w1, -, w3⟩ := z_KR_sz hT i0 (by omega) hkr
              obtain ⟨j0, j1⟩ := w3 a a0 (by omega)
              have uj := hu _ j0 j1
              have ui := (hu i i0 (by omega)).2 hki
              have li := hle i i0 (by omega) hki
              refine b_M_chain_91 ⟨⟨i0, by omega⟩, ?_⟩
              rw [z_gl_hi (by omega), z_gl_hi (by omega), g1 707 _ (by omega), e15, z_wr_id (x := 32 * i) (by omega) (by omega), z_wr_id (x := 32 * i + a) (by omega) (by omega), z_gl_hi (by omega), e16, z_gl_hi (by omega), z_gl_hi (by omega)]
              refine ⟨fun z => absurd z hki, fun _ => ⟨by omega, fun z => by omega, fun _ => ⟨by omega, ⟨j0, j1⟩, fun q => ?_, fun q => ?_⟩⟩⟩
              · refine b_M_chain_165 ?_
                rw [z_wr_id (by omega) (by omega)]
                refine ihw (a + 1) y tz hki (by omega) (by omega) g1 hu hA hB hC (fun b b0 b1 b2 => ?_)
                by_cases hb : b = a
                · rw [hb] at b2; have := uj.2 b2; omega
                · exact hi b b0 (by omega) b2
              · have hj : ¬ t 707 (t 716 (32 * i + a)) = 0 := fun z => by have := uj.1 z; omega
                have hj2 := uj.2 hj
                have hlj := hle _ j0 j1 hj
                rw [z_wr_id (x := tz 739 (t 716 (32 * i + a)) + 1) (by omega) (by omega)]
                refine ⟨⟨i0, by omega⟩, fun q2 => ?_, fun q2 => ⟨⟨i0, by omega⟩, ?_⟩⟩
                · refine b_M_chain_165 ?_
                  rw [z_wr_id (by omega) (by omega)]
                  refine ihw (a + 1) y tz hki (by omega) (by omega) g1 hu hA hB hC (fun b b0 b1 b2 => ?_)
                  by_cases hb : b = a
                  · rw [hb]; exact q2
                  · exact hi b b0 (by omega) b2
                · rw [z_gl_up (by omega)]
                  refine b_M_chain_165 ?_
                  rw [z_wr_id (by omega) (by omega)]
                  have hLi := hL.2.1 i i0 (by omega) hki
                  have hge := z_mm_ge (g := L) (t := t) (k := i) (t 715 i).toNat a0 (by omega) hj
                  have hji : ¬ t 716 (32 * i + a) = i := fun z => by rw [z] at hge; omega
                  generalize hv : tz 739 (t 716 (32 * i + a)) + 1 = v at q2 ⊢
                  have ze : z_up tz 739 i v 739 i = v := z_up_eq
                  have zn : ∀ k, ¬ k = i → z_up tz 739 i v 739 k = tz 739 k := fun k z => z_up_ne (by omega)
                  have zu : ∀ k, tz 739 k ≤ z_up tz 739 i v 739 k := fun k => by
                    by_cases hki2 : k = i
                    · rw [hki2, ze]; omega
                    · rw [zn k hki2]; exact Int.le_refl _
                  refine ihw (a + 1) 1 (z_up tz 739 i v) hki (by omega) (by omega) (fun a p hp => by rw [z_up_ne (by omega)]; exact g1 a p hp) (fun k u0 u1 => ⟨fun u2 => ?_, fun u2 => ?_⟩) (fun k u0 u1 u2 u3 => by have := hA k u0 u1 u2 u3; have := zu k; omega) (fun k u0 u1 u2 u3 => by have := hB k u0 u1 u2 u3; have := zu k; omega) (fun q => absurd q (by decide)) (fun b b0 b1 b2 => ?_)
                  · rw [zn k (fun z => hki (by rw [← z]; exact u2))]; exact (hu k u0 u1).1 u2
                  · by_cases hki2 : k = i
                    · rw [hki2, ze]; omega
                    · rw [zn k hki2]; exact (hu k u0 u1).2 u2
                  · rw [ze]
                    have hgb := z_mm_ge (g := L) (t := t) (k := i) (t 715 i).toNat b0 (by omega) b2
                    have hbi : ¬ t 716 (32 * i + b) = i := fun z => by rw [z] at hgb; omega
                    rw [zn _ hbi]
                    by_cases hb : b = a
                    · rw [hb]; omega
                    · have := hi b b0 (by omega) b2; omega
          refine b_M_chain_80 ⟨fun z => by omega, fun _ => ?_⟩
          by_cases hki : t 707 i = 0
          · refine b_M_chain_91 ⟨⟨i0, by omega⟩, ?_⟩
            rw [z_gl_hi (by omega), g1 707 _ (by omega)]
            exact ⟨fun _ => next y ty g1 hu hA hB hC (fun z => absurd hki z), fun z => absurd hki z⟩
          · have h15 := (hKK.1 i i0 (by omega) hki).2.1
            exact inner (t 715 i).toNat 0 y ty hki (by omega) (by omega) g1 hu hA hB hC (fun b b0 b1 => by omega)
      exact outer 1212 0 0 tx (by omega) (by omega) g1 hu hA (fun k u0 u1 => by omega) (fun _ k u0 u1 => by omega)
  have loop0 : ∀ (m i : Nat) (tx : z_M), i + m = 1212 → (∀ a i, ¬ a = 739 → tx a i = t a i) → (∀ j, 0 ≤ j → j < (i : Int) → tx 739 j = if t 707 j = 0 then 0 else 1) → z_T e (d + 2) m_M_chain 27 [some (z_R 701), some (z_I key), some (z_I (i : Int)), none, none, none, none] (z_gl c tx) Q := by
    intro m
    induction m with
    | zero =>
      intro i tx hi g1 g2
      obtain rfl : i = 1212 := by omega
      refine b_M_chain_27 ⟨fun _ => ?_, fun z => by omega⟩
      refine loop 1212 0 1 tx (by omega) (by omega) g1 (fun k u0 u1 => ⟨fun u2 => ?_, fun u2 => ?_⟩) (fun k u0 u1 u2 u3 => ?_) (fun q => absurd q (by decide))
      · rw [g2 k u0 (by omega), if_pos u2]
      · rw [g2 k u0 (by omega), if_neg u2]; exact ⟨hL.1 k, Int.le_refl _⟩
      · rw [g2 k u0 (by omega), if_neg u2]; omega
    | succ m ih =>
      intro i tx hi g1 g2
      have step : ∀ v, v = (if t 707 (i : Int) = 0 then 0 else 1) → z_T e (d + 2) m_M_chain 27 [some (z_R 701), some (z_I key), some (z_I ((i : Int) + 1)), none, none, none, none] (z_gl c (z_up tx 739 (i : Int) v)) Q := fun v hv => by
        have nx := ih (i + 1) (z_up tx 739 (i : Int) v) (by omega) (fun a j hj => by rw [z_up_ne (by omega)]; exact g1 a j hj) (fun j j0 j1 => by
          by_cases hji : j = (i : Int)
          · rw [hji, z_up_eq]; exact hv
          · rw [z_up_ne (by omega)]; exact g2 j j0 (by omega))
        rw [show ((i + 1 : Nat) : Int) = (i : Int) + 1 by omega] at nx
        exact nx
      refine b_M_chain_27 ⟨fun z => by omega, fun _ => ⟨by omega, ?_⟩⟩
      rw [z_gl_hi (by omega), g1 707 _ (by omega)]
      refine ⟨fun q => ⟨by omega, ?_⟩, fun q => ⟨by omega, ?_⟩⟩
      · rw [z_wr_id (by omega) (by omega), z_gl_up (by omega)]
        exact step 0 (by rw [if_pos q])
      · rw [z_wr_id (by omega) (by omega), z_gl_up (by omega)]
        exact step 1 (by rw [if_neg q])
  exact loop0 1212 0 t (by omega) (fun _ _ _ => rfl) (fun j j0 j1 => by omega)
theorem z2_chain {k : Int} (h : z_RCs n s t) : z_two e n z_Inv m_C_chain m_M_chain [z_I k] (z_gl s t) := by
  have inv := z_RCs_gl (z_RCs_up h)
  have hx := h.2.2.1
  have hS := h.1.2.1
  have hKK := hx.2.2.2.2.1
  obtain ⟨hss, hn⟩ := z_RCs_100 h
  obtain ⟨L, hL⟩ := z_LL_ex hx.1 hKK
  have hle : ∀ k, 0 ≤ k → k < 1212 → ¬ t 707 k = 0 → L k ≤ 100 := fun k k0 k1 hk => by
    have := z_LL_le hx.1 hKK hL k0 k1 hk
    have := hss.2.1
    have := hS.1.1
    omega
  refine b_C_chain_0 (d := 999) (s_C_within (d := 998) (fun k0 k1 => ⟨fun _ => s_S_find (d := 998) k0 k1 ?_, fun z => by omega⟩) (fun q => ⟨fun z => absurd rfl z, fun _ => b_M_chain_0 (d := 999) (s_M_isKey (d := 997) (fun _ _ => by omega) (fun _ => ⟨fun z => absurd rfl z, fun _ => ⟨rfl, inv⟩⟩))⟩))
  by_cases hk : t 707 k = 0
  · rw [(hS.2.2.2.2.1 k k0 k1).1 hk]
    refine ⟨fun z => by omega, fun _ => b_M_chain_0 (d := 999) (s_M_isKey (d := 997) (fun _ _ => ⟨fun _ => ⟨⟨k0, k1⟩, ?_⟩, fun z => by omega⟩) (fun z => by omega))⟩
    rw [z_gl_hi (by omega)]
    exact ⟨fun z => absurd hk z, fun _ => ⟨rfl, inv⟩⟩
  · obtain ⟨i, -, -, -, hK, -⟩ := z_cS_row hS k0 k1 hk
    have hK3 := hK.2.2.1
    refine ⟨fun _ => s_S_chainFrom (d := 995) hL hle hS hx.1 hKK k0 k1 hk (fun s' g hm => ?_), fun z => by omega⟩
    exact s_M_chain (d := 997) hL hle hx.1 hKK k0 k1 hk (fun t' ht => ⟨rfl, z_RCs_gl (z_RCs_mkd h hm (fun a i q => ht a i (by omega)))⟩)
end CM
