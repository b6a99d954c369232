/-! a change throws out -/
theorem z_cb_nx {s t : z_M} (hS : z_cS s t) (hpos : ∀ k, 0 ≤ k → k < 1212 → ¬ t 707 k = 0 → 0 < t 714 k) (hinj : ∀ k k', 0 ≤ k → k < 1212 → 0 ≤ k' → k' < 1212 → ¬ t 707 k = 0 → ¬ t 707 k' = 0 → t 714 k = t 714 k' → k = k') {p last b : Int} (p0 : 0 ≤ p) (p1 : p ≤ s 7 2) (hlo : ∀ j, 0 ≤ j → j < p → t 714 (s (s 8 j) 1) ≤ last) (hhi : ∀ j, p ≤ j → j < s 7 2 → last < t 714 (s (s 8 j) 1)) (hb : z_cb t last 1212 b) : (p < s 7 2 → b = s (s 8 p) 1) ∧ (p = s 7 2 → b = -1) := by
  obtain ⟨-, a5, ⟨a6, a7⟩, a8, a9, a10⟩ := hS
  refine ⟨fun hp => ?_, fun hp => ?_⟩
  · obtain ⟨d1, d2, d3, d4⟩ := a8 p p0 hp
    have hlt := hhi p (Int.le_refl _) hp
    have hmin : ∀ k, 0 ≤ k → k < 1212 → ¬ t 707 k = 0 → last < t 714 k → t 714 (s (s 8 p) 1) ≤ t 714 k := fun k k0 k1 k2 k3 => by
      obtain ⟨j, j0, j1, j2⟩ := (a9 k k0 k1).2 k2
      rw [← j2] at k3 ⊢
      by_cases hj : j < p
      · have := hlo j j0 hj; omega
      · by_cases hjp : j = p
        · rw [hjp]; exact Int.le_refl _
        · have := a10 p j p0 (by omega) j1; omega
    rcases hb with ⟨-, h⟩ | ⟨h0, h1, h2, h3, h4⟩
    · have := h _ d1.1 d1.2 d2; omega
    · have e1 := h4 _ d1.1 d1.2 d2 hlt
      have e2 := hmin b h0 h1 h2 h3
      exact hinj b _ h0 h1 d1.1 d1.2 h2 d2 (by omega)
  · rcases hb with ⟨h, -⟩ | ⟨h0, h1, h2, h3, h4⟩
    · exact h
    · obtain ⟨j, j0, j1, j2⟩ := (a9 b h0 h1).2 h2
      have := hlo j j0 (by omega)
      rw [j2] at this
      omega
/-- what the throwing out leaves alone -/
def z_tkp (t t' : z_M) : Prop := (∀ a i, ¬ a = 707 → ¬ (a = 701 ∧ (i = 22 ∨ i = 23 ∨ i = 29)) → ¬ a = 718 → ¬ (a = 717 ∧ i = 3) → t' a i = t a i) ∧ ∀ k, ¬ t' 707 k = 0 → t' 707 k = t 707 k
theorem z_tkp_rf {t : z_M} : z_tkp t t := ⟨fun _ _ _ _ _ _ => rfl, fun _ _ => rfl⟩
theorem z_tkp_tr {t t' t2 : z_M} (h : z_tkp t t') (h2 : z_tkp t' t2) : z_tkp t t2 := ⟨fun a i x y z w => by rw [h2.1 a i x y z w, h.1 a i x y z w], fun k q => by
  have := h2.2 k q
  rw [this] at q ⊢
  exact h.2 k q⟩
/-- what the store's throwing out leaves alone -/
def z_sk (s s' : z_M) : Prop := ∀ a i, ¬ a = 8 → ¬ a = 9 → ¬ a = 10 → ¬ (a = 7 ∧ (i = 2 ∨ i = 3 ∨ i = 4 ∨ i = 7)) → s' a i = s a i
section TH
variable {e : z_E} {c : z_M}
theorem s_S_throw_loop {w : Int} (w0 : 0 ≤ w) (w1 : w < 24) : ∀ (l : Nat) (p last : Int) (s t : z_M) (d : Nat) (Q : Int → z_M → Prop), z_cS s t → z_sums t → z_ir (t 717 3) → (∀ k, 0 ≤ k → k < 1212 → ¬ t 707 k = 0 → 0 < t 714 k) → (∀ k k', 0 ≤ k → k < 1212 → 0 ≤ k' → k' < 1212 → ¬ t 707 k = 0 → ¬ t 707 k' = 0 → t 714 k = t 714 k' → k = k') → 0 ≤ p → p + (l : Int) = s 7 2 → (s 7 4 = t 701 29 ∧ 0 ≤ t 701 29 ∧ t 701 29 + s 7 2 ≤ 100 ∧ ∀ i, 0 ≤ i → i < t 701 29 → s 9 i = t 718 i) → (∀ j, 0 ≤ j → j < p → t 714 (s (s 8 j) 1) ≤ last ∧ z_bb (t 713 (s (s 8 j) 1)) w.toNat = false) → (∀ j, p ≤ j → j < s 7 2 → last < t 714 (s (s 8 j) 1)) →
    (∀ s' t', z_cS s' t' → z_sums t' → z_tkp t t' → (∀ k, 0 ≤ k → k < 1212 → ¬ t' 707 k = 0 → z_bb (t' 713 k) w.toNat = false) → z_sk s s' → (s' 7 4 = t' 701 29 ∧ 0 ≤ t' 701 29 ∧ t' 701 29 ≤ 100 ∧ ∀ i, 0 ≤ i → i < t' 701 29 → s' 9 i = t' 718 i) → t' 717 3 = z_wr (t 717 3 + (t' 701 29 - t 701 29)) → s' 7 7 = z_wr (s 7 7 + s' 7 4) → (∀ (c : z_M) (d : Nat) (Q : Int → z_M → Prop) (b : Int), z_cb t last 1212 b → z_T e (d + 2) m_M_changed 86 [some (z_R 701), some (z_I w), none, none, some (z_I 0)] (z_gl c t') Q → z_T e (d + 2) m_M_changed 13 [some (z_R 701), some (z_I w), none, some (z_I b), none] (z_gl c t) Q) → Q (s' 7 4) (z_gl s' c)) →
    z_T e (d + 1) m_S_throwOut 12 [some (z_R 7), some (z_I (z_shl 1 w)), some (z_I p), some (z_I (l : Int))] (z_gl s c) Q := by
  intro l
  induction l with
  | zero =>
    intro p last s t d Q hS hs hz hpos hinj p0 p1 hw hlo hhi hq
    refine b_S_throwOut_12 ⟨fun _ => ?_, fun z => by omega⟩
    rw [z_gl_lo (by omega), z_gl_lo (by omega), z_gl_ul (by omega), z_gl_lo (by omega)]
    have u : ∀ a i, ¬ (a = 7 ∧ i = 7) → z_up s 7 7 (z_wr (s 7 7 + s 7 4)) a i = s a i := fun a i x => z_up_ne (by omega)
    refine hq _ t (z_cS_c (fun a i x y z => u a i (by omega)) (fun i x y z => u 7 i (by omega)) (fun _ _ _ _ => rfl) (fun _ _ _ => rfl) hS) hs z_tkp_rf (fun k k0 k1 k2 => ?_) (fun a i x y z q => u a i (by omega)) ⟨by rw [u _ _ (by omega)]; exact hw.1, hw.2.1, by have := hS.2.1; omega, fun i i0 i1 => by rw [u _ _ (by omega)]; exact hw.2.2.2 i i0 i1⟩ (by rw [Int.sub_self, Int.add_zero]; exact (z_wr_id hz.1 hz.2).symm) (by rw [z_up_eq, u _ _ (by omega)]) (fun c d Q b hb hQ => ?_)
    · obtain ⟨j, j0, j1, j2⟩ := (hS.2.2.2.2.1 k k0 k1).2 k2
      have := (hlo j j0 (by omega)).2
      rw [j2] at this
      exact this
    · have hb1 := (z_cb_nx hS hpos hinj p0 (by omega) (fun j a b => (hlo j a b).1) hhi hb).2 (by omega)
      exact b_M_changed_13 ⟨fun _ => hQ, fun z => absurd hb1 z⟩
  | succ l ih =>
    intro p last s t d Q hS hs hz hpos hinj p0 p1 hw hlo hhi hq
    have hS' := hS
    obtain ⟨⟨a1, a2, a3, a4⟩, a5, ⟨a6, a7⟩, a8, a9, a10⟩ := hS
    obtain ⟨hw1, hw2, hw3, hw4⟩ := hw
    have hp : p < s 7 2 := by omega
    obtain ⟨d1, d2, d3, d4⟩ := a8 p p0 hp
    obtain ⟨x1, x2, x3, x4, x5⟩ := a6 p p0 (by omega)
    have h7 : s (s 8 p) 7 = t 713 (s (s 8 p) 1) := d4.2.2.2.2.2.2.1
    have hnb : ∀ b, z_cb t last 1212 b → b = s (s 8 p) 1 := fun b hb => (z_cb_nx hS' hpos hinj p0 (by omega) (fun j a b => (hlo j a b).1) hhi hb).1 hp
    refine b_S_throwOut_12 ⟨fun z => by omega, fun _ => ?_⟩
    simp (disch := omega) only [x1, z_ckT, z_gl_lo, h7]
    refine ⟨by omega, fun q => ⟨by omega, ?_⟩, fun q => ?_⟩
    · -- thrown out
      have hbit : z_bb (t 713 (s (s 8 p) 1)) w.toNat = true := by
        cases hb : z_bb (t 713 (s (s 8 p) 1)) w.toNat with
        | true => rfl
        | false => exact absurd ((z_bt_C w0 (show w < 32 by omega)).mpr hb) q
      simp (disch := omega) only [z_gl_lo, z_gl_ul, z_up_ne, hw1, z_wr_id]
      refine ⟨by omega, ?_⟩
      generalize hs1 : z_up (z_up s 9 (t 701 29) (s (s 8 p) 1)) 7 4 (t 701 29 + 1) = s1
      have u : ∀ a i, ¬ (a = 9 ∧ i = t 701 29) → ¬ (a = 7 ∧ i = 4) → s1 a i = s a i := fun a i x y => by rw [← hs1, z_up_ne (by omega), z_up_ne (by omega)]
      have u8 : ∀ i, s1 8 i = s 8 i := fun i => u _ _ (by omega) (by omega)
      have u72 : s1 7 2 = s 7 2 := u _ _ (by omega) (by omega)
      have uK : ∀ i j, 0 ≤ i → i < 101 → s1 (s 8 i) j = s (s 8 i) j := fun i j i0 i1 => by obtain ⟨-, -, k3, k4, -⟩ := a6 i i0 i1; exact u _ _ (by omega) (by omega)
      -- the reference's memory
      generalize ht1 : z_up (z_up t 718 (t 701 29) (s (s 8 p) 1)) 701 29 (t 701 29 + 1) = t1
      have v : ∀ a i, ¬ (a = 718 ∧ i = t 701 29) → ¬ (a = 701 ∧ i = 29) → t1 a i = t a i := fun a i x y => by rw [← ht1, z_up_ne (by omega), z_up_ne (by omega)]
      have hS1 : z_cS s1 t1 := z_cS_c (fun a i x y z => u a i (by omega) (by omega)) (fun i x y z => u 7 i (by omega) (by omega)) (fun a i x y => v a i (by omega) (by omega)) (fun i x y => v _ i (by omega) (by omega)) hS'
      have hss1 : z_sums t1 := z_sums_congr hs (fun k => v _ _ (by omega) (by omega)) (fun k => v _ _ (by omega) (by omega)) (v _ _ (by omega) (by omega)) (v _ _ (by omega) (by omega))
      have hrem := z_cS_rem hS1 hss1 p0 (by rw [u72]; exact hp)
      have hk1 : s1 (s1 8 p) 1 = s (s 8 p) 1 := by rw [u8, uK p 1 p0 (by omega)]
      rw [hk1] at hrem
      have hgs := z_sums_goes hss1 d1.1 d1.2 (by rw [v _ _ (by omega) (by omega)]; exact d2)
      refine s_S_remove (d := d) (fun i i0 i1 => by rw [u8]; exact a6 i i0 i1) (by rw [u72]; exact a5) p0 (by rw [u72]; exact hp) (by rw [hk1]; exact d1) ?_
      refine b_S_throwOut_69 ?_
      rw [z_wr_id (by omega) (by omega), show ((l + 1 : Nat) : Int) + -1 = (l : Int) by omega]
      -- behind
      generalize ht2 : z_up (mf_goes (s (s 8 p) 1) t1) 717 3 (z_wr (mf_goes (s (s 8 p) 1) t1 717 3 + 1)) = t2
      have g7 : ∀ k, ¬ k = s (s 8 p) 1 → t2 707 k = t 707 k := fun k hk => by
        rw [← ht2, z_up_ne (by omega)]; unfold mf_goes; rw [z_up_ne (by omega), z_up_ne (by omega), z_up_ne (by omega), v _ _ (by omega) (by omega)]
      have g70 : t2 707 (s (s 8 p) 1) = 0 := by
        rw [← ht2, z_up_ne (by omega)]; unfold mf_goes; rw [z_up_ne (by omega), z_up_ne (by omega), z_up_eq]
      have g : ∀ a i, ¬ a = 707 → ¬ (a = 701 ∧ (i = 22 ∨ i = 23 ∨ i = 29)) → ¬ a = 718 → ¬ (a = 717 ∧ i = 3) → t2 a i = t a i := fun a i y1 y2 y3 y4 => by
        rw [← ht2, z_up_ne (by omega), mf_goes_ne (by omega) (by omega), v _ _ (by omega) (by omega)]
      have g29 : t2 701 29 = t 701 29 + 1 := by rw [← ht2, z_up_ne (by omega), mf_goes_ne (by omega) (by omega), ← ht1, z_up_eq]
      have g18 : ∀ i, t2 718 i = t1 718 i := fun i => by rw [← ht2, z_up_ne (by omega), mf_goes_ne (by omega) (by omega)]
      have g173 : t2 717 3 = z_wr (t 717 3 + 1) := by rw [← ht2, z_up_eq, mf_goes_ne (by omega) (by omega), v _ _ (by omega) (by omega)]
      have hkept : ∀ k, ¬ t2 707 k = 0 → t2 707 k = t 707 k := fun k hk => by
        by_cases hkk : k = s (s 8 p) 1
        · rw [hkk, g70] at hk; exact absurd rfl hk
        · exact g7 k hkk
      have hne := fun a i y1 y2 y3 => cf_rem_ne (p := p) (s := s1) (a := a) (i := i) y1 y2 y3
      rw [hk1] at hne
      obtain ⟨r1, r2, r3, r4, r5, r6⟩ := cf_rem_at (p := p) (s := s1)
      rw [u72] at r1 r4 r5 r6
      have c8lo : ∀ j, 0 ≤ j → j < p → cf_rem p s1 8 j = s 8 j := fun j j0 j1 => by rw [r6 j (by omega) (by omega), u8]
      have c8hi : ∀ j, p ≤ j → j < s 7 2 - 1 → cf_rem p s1 8 j = s 8 (j + 1) := fun j j0 j1 => by rw [r5 j j0 j1, u8]
      have cK : ∀ i j, 0 ≤ i → i < 101 → cf_rem p s1 (s 8 i) j = s (s 8 i) j := fun i j i0 i1 => by
        obtain ⟨-, -, k3, k4, -⟩ := a6 i i0 i1
        rw [hne _ _ (by omega) (by omega) (by omega)]; exact uK i j i0 i1
      have c74 : cf_rem p s1 7 4 = t 701 29 + 1 := by rw [hne _ _ (by omega) (by omega) (by omega), ← hs1, z_up_eq]
      have hkne : ∀ j, 0 ≤ j → j < s 7 2 → ¬ j = p → ¬ s (s 8 j) 1 = s (s 8 p) 1 := fun j j0 j1 hj z => hj (z_cS_inj hS' j0 j1 p0 hp z)
      refine ih p (t 714 (s (s 8 p) 1)) (cf_rem p s1) t2 d Q (z_cS_c (fun _ _ _ _ _ => rfl) (fun _ _ _ _ => rfl) (fun a i y1 y2 => by rw [← ht2, z_up_ne (by omega)]) (fun i y1 y2 => by rw [← ht2, z_up_ne (by omega)]) hrem) (z_sums_congr hgs.1 (fun k => by rw [← ht2, z_up_ne (by omega)]) (fun k => by rw [← ht2, z_up_ne (by omega)]) (by rw [← ht2, z_up_ne (by omega)]) (by rw [← ht2, z_up_ne (by omega)])) (by rw [g173]; exact z_wr_ir _) (fun k k0 k1 k2 => by rw [g _ _ (by omega) (by omega) (by omega) (by omega)]; exact hpos k k0 k1 (by rw [← hkept k k2]; exact k2)) (fun k k' k0 k1 k2 k3 k4 k5 k6 => by rw [g _ _ (by omega) (by omega) (by omega) (by omega), g _ _ (by omega) (by omega) (by omega) (by omega)] at k6; exact hinj k k' k0 k1 k2 k3 (by rw [← hkept k k4]; exact k4) (by rw [← hkept k' k5]; exact k5) k6) p0 (by omega) ⟨by omega, by omega, by omega, fun i i0 i1 => ?_⟩ (fun j j0 j1 => ?_) (fun j j0 j1 => ?_) (fun s' t' y1 y2 y3 y4 y5 y6 y7 y8 y9 => ?_)
      · rw [hne _ _ (by omega) (by omega) (by omega), g18]
        by_cases hi : i = t 701 29
        · rw [hi, ← hs1, ← ht1, z_up_ne (by omega), z_up_eq, z_up_ne (by omega), z_up_eq]
        · rw [u _ _ (by omega) (by omega), v _ _ (by omega) (by omega)]; exact hw4 i i0 (by omega)
      · rw [c8lo j j0 j1, cK j _ j0 (by omega), g _ _ (by omega) (by omega) (by omega) (by omega), g _ _ (by omega) (by omega) (by omega) (by omega)]
        have h1 := hlo j j0 j1
        have h2 := a10 j p j0 j1 hp
        exact ⟨by omega, h1.2⟩
      · rw [r1] at j1
        rw [c8hi j j0 j1, cK (j + 1) _ (by omega) (by omega), g _ _ (by omega) (by omega) (by omega) (by omega)]
        exact a10 p (j + 1) p0 (by omega) (by omega)
      · refine hq s' t' y1 y2 (z_tkp_tr ⟨g, hkept⟩ y3) y4 (fun a i z1 z2 z3 z4 => by rw [y5 a i z1 z2 z3 z4, hne _ _ (by omega) (by omega) (by omega), u _ _ (by omega) (by omega)]) y6 ?_ (by rw [y8, hne _ _ (by omega) (by omega) (by omega), u _ _ (by omega) (by omega)]) (fun c d Q b hb hQ => ?_)
        · rw [y7, g173, g29]
          unfold z_wr; omega
        · rw [hnb b hb]
          refine b_M_changed_13 ⟨fun z => by omega, fun _ => ⟨d1, d1, ?_, ?_⟩⟩
          · rw [z_gl_hi (by omega)]
            exact fun z => absurd ((z_bt_M w0 (show w < 32 by omega)).mpr hbit) z
          · intro _
            simp (disch := omega) only [z_gl_hi, z_gl_up, z_up_ne, z_wr_id]
            refine ⟨by omega, s_M_goes (d := d + 1) d1.1 d1.2 ⟨by omega, by omega, ?_⟩⟩
            rw [ht1, z_gl_hi (by omega), z_gl_up (by omega), ht2]
            refine b_M_changed_74 (s_M_cameBehind (d := d + 1) (fun b' hb' => ?_))
            refine y9 c d Q b' ?_ hQ
            exact hb'
    · -- it stays
      have hbit : z_bb (t 713 (s (s 8 p) 1)) w.toNat = false := (z_bt_C w0 (show w < 32 by omega)).mp q
      rw [z_wr_id (x := p + 1) (by omega) (by omega)]
      refine b_S_throwOut_69 ?_
      rw [z_wr_id (by omega) (by omega), show ((l + 1 : Nat) : Int) + -1 = (l : Int) by omega]
      refine ih (p + 1) (t 714 (s (s 8 p) 1)) s t d Q hS' hs hz hpos hinj (by omega) (by omega) ⟨hw1, hw2, hw3, hw4⟩ (fun j j0 j1 => ?_) (fun j j0 j1 => a10 p j p0 (by omega) j1) (fun s' t' y1 y2 y3 y4 y5 y6 y7 y8 y9 => ?_)
      · by_cases hj : j = p
        · rw [hj]; exact ⟨Int.le_refl _, hbit⟩
        · have h1 := hlo j j0 (by omega)
          have h2 := a10 j p j0 (by omega) hp
          exact ⟨by omega, h1.2⟩
      · refine hq s' t' y1 y2 y3 y4 y5 y6 y7 y8 (fun c d Q b hb hQ => ?_)
        rw [hnb b hb]
        refine b_M_changed_13 ⟨fun z => by omega, fun _ => ⟨d1, d1, ?_, ?_⟩⟩
        · intro _
          rw [z_gl_hi (by omega)]
          refine b_M_changed_74 (s_M_cameBehind (d := d + 1) (fun b' hb' => ?_))
          exact y9 c d Q b' hb' hQ
        · rw [z_gl_hi (by omega)]
          exact fun z => absurd ((z_bt_M w0 (show w < 32 by omega)).mp z) (by rw [hbit]; decide)
end TH
