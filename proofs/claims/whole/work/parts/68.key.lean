/-! key -/
section KY
variable {e : z_E} {n : Nat} {s t : z_M}
/-- the kept key behind a row's, in the order of coming -/
theorem z_cb_next {s t : z_M} (hS : z_cS s t) (hK : z_KK t) {i : Int} (i0 : 0 ≤ i) (i1 : i < s 7 2) {last : Int} (hl : (i = 0 ∧ last = 0) ∨ (0 < i ∧ last = t 714 (s (s 8 (i - 1)) 1))) {b : Int} (hb : z_cb t last 1212 b) : b = s (s 8 i) 1 := by
  obtain ⟨-, a5, ⟨a6, a7⟩, a8, a9, a10⟩ := hS
  obtain ⟨d1, d2, d3, d4⟩ := a8 i i0 i1
  have hlt : last < t 714 (s (s 8 i) 1) := by
    rcases hl with ⟨-, h⟩ | ⟨h, h2⟩
    · have := (hK.1 _ d1.1 d1.2 d2).2.2.2.1.1; omega
    · have := a10 (i - 1) i (by omega) (by omega) i1; omega
  have hmin : ∀ k, 0 ≤ k → k < 1212 → ¬ t 707 k = 0 → last < t 714 k → t 714 (s (s 8 i) 1) ≤ t 714 k := fun k k0 k1 k2 k3 => by
    obtain ⟨j, j0, j1, j2⟩ := (a9 k k0 k1).2 k2
    rw [← j2] at k3 ⊢
    rcases Int.lt_trichotomy i j with h | h | h
    · have := a10 i j i0 h j1; omega
    · rw [h]; exact Int.le_refl _
    · rcases hl with ⟨h1, -⟩ | ⟨h1, h2⟩
      · omega
      · by_cases hj : j = i - 1
        · rw [hj] at k3; omega
        · have := a10 j (i - 1) j0 (by omega) (by omega); omega
  rcases hb with ⟨-, h⟩ | ⟨h0, h1, h2, h3, h4⟩
  · have := h _ d1.1 d1.2 d2; omega
  · have e1 := h4 _ d1.1 d1.2 d2 hlt
    have e2 := hmin b h0 h1 h2 h3
    exact hK.2 b _ h0 h1 d1.1 d1.2 h2 d2 (by omega)
theorem z_cnt_mono (t : z_M) (n : Nat) : ∀ i, z_sum t (fun _ => 1) n ≤ z_sum t (fun _ => 1) (n + i)
  | 0 => Int.le_refl _
  | i + 1 => by
    have := z_cnt_mono t n i
    show _ ≤ z_sum t (fun _ => 1) (n + i) + (if t 707 ((n + i : Nat) : Int) = 0 then 0 else 1)
    split <;> omega
theorem z2_key {w i : Int} (hi : z_ir i) (h : z_RCs n s t) : z_two e n z_Inv m_C_key m_M_key [z_I w, z_I i] (z_gl s t) := by
  have inv := z_RCs_gl (z_RCs_up h)
  have hS := h.1.2.1
  have hx := h.2.2.1
  obtain ⟨⟨hn1, hn2⟩, hK⟩ := z_RCs_K h
  have hn := hS.2.1
  have bad : ¬ (0 ≤ w ∧ w ≤ 1 ∧ 0 ≤ i) → z_C e 1000 m_M_key [z_R 701, z_I w, z_I i] (z_gl s t) (fun r2 σ2 => -20001 = r2 ∧ z_Inv (n + 1) σ2) := fun q => by
    refine b_M_key_0 (d := 999) (s_M_in (d := 998) (fun _ _ => ⟨fun z => by omega, fun _ => ⟨fun z => by omega, fun _ => ⟨rfl, inv⟩⟩⟩) (fun _ => ⟨fun _ => ⟨rfl, inv⟩, fun z => absurd rfl z⟩))
  refine b_C_key_0 (d := 999) ?_
  simp (disch := omega) only [z_gl_lo]
  refine ⟨fun q => bad (by omega), fun w0 => ⟨fun q => bad (by omega), fun w1 => ⟨fun i0 => ⟨fun i1 => ⟨fun w2 => ⟨by omega, ?_⟩, fun w2 => ?_⟩, fun i1 => ?_⟩, fun q => bad (by omega)⟩⟩⟩
  · -- in the order of keeping
    obtain rfl : w = 1 := by omega
    obtain ⟨x1, x2, x3, x4, x5⟩ := hS.2.2.1.1 i i0 (by omega)
    simp (disch := omega) only [z_gl_lo, x1, z_ckT]
    refine b_M_key_0 (d := 999) (s_M_in (d := 998) (fun _ _ => ⟨fun z => by omega, fun _ => ⟨fun _ => ?_, fun z => by omega⟩⟩) (fun q => by omega))
    simp (disch := omega) only [z_gl_hi]
    refine ⟨fun _ => ⟨fun _ => s_M_cameBehind (d := 998) (fun b hb => ⟨fun _ => ?_, fun z => by omega⟩), fun z => by omega⟩, fun z => by omega⟩
    rw [z_cb_next hS hx.2.2.2.2.1 (show (0 : Int) ≤ 0 by omega) (by omega) (Or.inl ⟨rfl, rfl⟩) hb]
    have loop : ∀ (m : Nat) (j : Int), 0 ≤ j → j + (m : Int) = i → z_T e 999 m_M_key 55 [some (z_R 701), some (z_I 1), some (z_I i), some (z_I (s (s 8 j) 1)), some (z_I j)] (z_gl s t) (fun r2 σ2 => s (s 8 i) 1 = r2 ∧ z_Inv (n + 1) σ2) := by
      intro m
      induction m with
      | zero =>
        intro j j0 j1
        obtain rfl : j = i := by omega
        exact b_M_key_55 ⟨fun _ => ⟨rfl, inv⟩, fun z => by omega⟩
      | succ m ih =>
        intro j j0 j1
        have hd := hS.2.2.2.1 j j0 (by omega)
        refine b_M_key_55 ⟨fun z => by omega, fun _ => ⟨fun _ => ⟨hd.1, ?_⟩, fun z => by omega⟩⟩
        simp (disch := omega) only [z_gl_hi]
        refine s_M_cameBehind (d := 998) (fun b hb => ⟨fun _ => ?_, fun z => absurd trivial z⟩)
        rw [z_cb_next hS hx.2.2.2.2.1 (show 0 ≤ j + 1 by omega) (by omega) (Or.inr ⟨by omega, by rw [show j + 1 - 1 = j by omega]⟩) hb, z_wr_id (by omega) (by omega)]
        exact ih (j + 1) (by omega) (by omega)
    exact loop i.toNat 0 (by omega) (by omega)
  · -- by their numbers
    obtain rfl : w = 0 := w2
    have cnt : ∀ k : Nat, z_sum t (fun _ => 1) (k + 1) = z_sum t (fun _ => 1) k + (if t 707 (k : Int) = 0 then 0 else 1) := fun k => rfl
    have crng : ∀ k : Nat, 0 ≤ z_sum t (fun _ => 1) k ∧ z_sum t (fun _ => 1) k ≤ (k : Int) := fun k => by
      have h1 := z_sum_nn (t := t) (g := fun _ => 1) k (fun _ _ _ _ => by omega)
      have h2 := z_sum_le (t := t) (g := fun _ => 1) (m := 1) (by omega) k (fun _ _ _ _ => by omega)
      omega
    have hsum := (z_sumx_to hx.2.1 (by rw [h.1.2.2.2.1]; decide)).2.1
    refine b_S_byNumber_0 (d := 998) ?_
    have M : ∀ k : Nat, k < 1212 → ¬ t 707 (k : Int) = 0 → z_sum t (fun _ => 1) k = i → z_C e 1000 m_M_key [z_R 701, z_I 0, z_I i] (z_gl s t) (fun r2 σ2 => (k : Int) = r2 ∧ z_Inv (n + 1) σ2) := fun k k1 k2 k3 => by
      refine b_M_key_0 (d := 999) (s_M_in (d := 998) (fun _ _ => ⟨fun z => by omega, fun _ => ⟨fun _ => ?_, fun z => by omega⟩⟩) (fun q => by omega))
      simp (disch := omega) only [z_gl_hi]
      refine ⟨fun _ => ⟨fun z => absurd trivial z, fun _ => ⟨fun z => absurd trivial z, fun _ => ?_⟩⟩, fun z => by omega⟩
      have loop : ∀ (m j : Nat), j + m = k + 1 → z_T e 999 m_M_key 55 [some (z_R 701), some (z_I 0), some (z_I i), some (z_I ((j : Int) - 1)), some (z_I (z_sum t (fun _ => 1) j - 1))] (z_gl s t) (fun r2 σ2 => (k : Int) = r2 ∧ z_Inv (n + 1) σ2) := by
        intro m
        induction m with
        | zero =>
          intro j j1
          obtain rfl : j = k + 1 := by omega
          have hc := cnt k
          rw [if_neg k2] at hc
          refine b_M_key_55 ⟨fun _ => ⟨by omega, inv⟩, fun z => by omega⟩
        | succ m ih =>
          intro j j1
          have hc := crng j
          have hm : z_sum t (fun _ => 1) j ≤ z_sum t (fun _ => 1) k := by
            obtain ⟨q, rfl⟩ := Nat.exists_eq_add_of_le (show j ≤ k by omega)
            exact z_cnt_mono t j q
          have nx := ih (j + 1) (by omega)
          rw [cnt j, show ((j + 1 : Nat) : Int) - 1 = (j : Int) by omega] at nx
          refine b_M_key_55 ⟨fun z => by omega, fun _ => ⟨fun z => absurd rfl z, fun _ => ⟨fun z => by omega, fun _ => ?_⟩⟩⟩
          rw [z_wr_id (x := (j : Int) - 1 + 1) (by omega) (by omega), show (j : Int) - 1 + 1 = (j : Int) by omega]
          simp (disch := omega) only [z_gl_hi, z_wr_id]
          refine ⟨by omega, fun q => ?_, fun q => ?_⟩
          · rw [if_pos q, show z_sum t (fun _ => 1) j + 0 - 1 = z_sum t (fun _ => 1) j - 1 + 0 by omega] at nx; exact nx
          · rw [if_neg q, show z_sum t (fun _ => 1) j + 1 - 1 = z_sum t (fun _ => 1) j - 1 + 1 by omega] at nx; exact nx
      exact loop (k + 1) 0 (by omega)
    have loop : ∀ (m j : Nat), j + m = 1212 → z_sum t (fun _ => 1) j ≤ i → z_T e 998 m_S_byNumber 14 [none, none, some (z_I (i - z_sum t (fun _ => 1) j)), some (z_R 10), some (z_I 1212), some (z_I (j : Int)), none] (z_gl s t) (fun r σ1 => z_C e 1000 m_M_key [z_R 701, z_I 0, z_I i] σ1 (fun r2 σ2 => r = r2 ∧ z_Inv (n + 1) σ2)) := by
      intro m
      induction m with
      | zero =>
        intro j j1 j2
        obtain rfl : j = 1212 := by omega
        omega
      | succ m ih =>
        intro j j1 j2
        have hc := crng j
        obtain ⟨q0, q1⟩ := hK j (by omega) (by omega)
        have nx := ih (j + 1) (by omega)
        rw [cnt j, show ((j + 1 : Nat) : Int) = (j : Int) + 1 by omega] at nx
        refine b_S_byNumber_14 ⟨fun z => by omega, fun _ => ?_⟩
        rw [show z_ok z_NT 601212 10 = true by decide +kernel]
        simp (disch := omega) only [z_gl_lo, z_ckT]
        refine ⟨by omega, fun q => ?_, fun q => ?_⟩
        · have hk : t 707 (j : Int) = 0 := by
            by_cases hz : t 707 (j : Int) = 0
            · exact hz
            · obtain ⟨⟨-, -, x3, -⟩, -⟩ := q1 hz; omega
          refine b_S_byNumber_45 ?_
          rw [z_wr_id (by omega) (by omega)]
          rw [if_pos hk, Int.add_zero] at nx
          exact nx j2
        · have hk : ¬ t 707 (j : Int) = 0 := fun z => by have := q0 z; omega
          obtain ⟨⟨x1, x2, x3, x4, x5⟩, hW, -⟩ := q1 hk
          rw [if_neg hk] at nx
          refine ⟨fun q2 => ?_, fun q2 => ?_⟩
          · refine b_S_byNumber_45 ?_
            rw [z_wr_id (x := i - z_sum t (fun _ => 1) j + -1) (by unfold z_ir at hi; omega) (by unfold z_ir at hi; omega), z_wr_id (x := (j : Int) + 1) (by omega) (by omega)]
            rw [show i - (z_sum t (fun _ => 1) j + 1) = i - z_sum t (fun _ => 1) j + -1 by omega] at nx
            exact nx (by omega)
          · simp only [x1, z_ckT]
            rw [z_gl_lo (by omega), hW.1]
            exact M j (by omega) hk (by omega)
    have := loop 1212 0 (by omega) i0
    rw [show z_sum t (fun _ => 1) 0 = 0 from rfl, Int.sub_zero] at this
    exact this
  · refine b_M_key_0 (d := 999) (s_M_in (d := 998) (fun _ _ => ⟨fun z => by omega, fun _ => ⟨fun _ => ?_, fun z => by omega⟩⟩) (fun q => by omega))
    simp (disch := omega) only [z_gl_hi]
    exact ⟨fun z => by omega, fun _ => ⟨trivial, inv⟩⟩
end KY
