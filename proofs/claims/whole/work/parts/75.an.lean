/-! frames begin anew -/
def mf_fi (t : z_M) (r w : Int) : Nat → Int → Int
  | 0, _ => -1
  | n + 1, i => if z_bb (t 729 (30 * r + i)) w.toNat = true then i else mf_fi t r w n (i + 1)
theorem mf_fi_sp (t : z_M) (r w : Int) : ∀ (n : Nat) (i : Int), 0 ≤ i → (mf_fi t r w n i = -1 ∧ ∀ j, i ≤ j → j < i + (n : Int) → z_bb (t 729 (30 * r + j)) w.toNat = false) ∨ (i ≤ mf_fi t r w n i ∧ mf_fi t r w n i < i + (n : Int) ∧ z_bb (t 729 (30 * r + mf_fi t r w n i)) w.toNat = true ∧ ∀ j, i ≤ j → j < mf_fi t r w n i → z_bb (t 729 (30 * r + j)) w.toNat = false)
  | 0, i, h => Or.inl ⟨rfl, fun j a b => by omega⟩
  | n + 1, i, h => by
    by_cases hb : z_bb (t 729 (30 * r + i)) w.toNat = true
    · rw [show mf_fi t r w (n + 1) i = i from if_pos hb]
      exact Or.inr ⟨Int.le_refl _, by omega, hb, fun j a b => by omega⟩
    · rw [show mf_fi t r w (n + 1) i = mf_fi t r w n (i + 1) from if_neg hb]
      have hf : z_bb (t 729 (30 * r + i)) w.toNat = false := by
        cases hq : z_bb (t 729 (30 * r + i)) w.toNat with
        | true => exact absurd hq hb
        | false => rfl
      have ext : ∀ m : Int, (∀ j, i + 1 ≤ j → j < m → z_bb (t 729 (30 * r + j)) w.toNat = false) → ∀ j, i ≤ j → j < m → z_bb (t 729 (30 * r + j)) w.toNat = false := fun m hm j a b => by
        by_cases hj : j = i
        · rw [hj]; exact hf
        · exact hm j (by omega) b
      rcases mf_fi_sp t r w n (i + 1) (by omega) with ⟨a, b⟩ | ⟨a, b, c, d⟩
      · exact Or.inl ⟨a, fun j x y => ext (i + 1 + (n : Int)) b j x (by omega)⟩
      · exact Or.inr ⟨by omega, by omega, c, ext _ d⟩
def mf_an1 (r i : Int) (t : z_M) : z_M := z_up (z_up (z_up (mf_clears (30 * r + i) (z_up t 722 r (i + 1))) 727 (30 * r + i) (t 721 r)) 719 r 1) 717 1 (z_wr (t 717 1 + 1))
def mf_anq (r w : Int) (t : z_M) : z_M := if mf_fi t r w (t 722 r).toNat 0 = -1 then t else mf_an1 r (mf_fi t r w (t 722 r).toNat 0) t
def mf_an (r w : Int) (t : z_M) : z_M := if t 719 r = 1 ∨ t 719 r = 2 then mf_anq r w t else t
def mf_ans (w : Int) : Nat → z_M → z_M
  | 0, t => t
  | n + 1, t => mf_an (n : Int) w (mf_ans w n t)
theorem mf_an1_ne {r i : Int} {t : z_M} {a j : Int} (h1 : ¬ ((a = 719 ∨ a = 722) ∧ j = r)) (h2 : ¬ (a = 717 ∧ j = 1)) (h3 : ¬ ((a = 726 ∨ a = 727 ∨ a = 729 ∨ a = 730 ∨ a = 732) ∧ j = 30 * r + i)) : mf_an1 r i t a j = t a j := by
  unfold mf_an1 mf_clears
  rw [z_up_ne (by omega), z_up_ne (by omega), z_up_ne (by omega), z_up_ne (by omega), z_up_ne (by omega), z_up_ne (by omega), z_up_ne (by omega), z_up_ne (by omega)]
theorem mf_an1_at {r i : Int} {t : z_M} : let t' := mf_an1 r i t; let f := 30 * r + i; t' 719 r = 1 ∧ t' 722 r = i + 1 ∧ t' 717 1 = z_wr (t 717 1 + 1) ∧ t' 726 f = 0 ∧ t' 727 f = t 721 r ∧ t' 729 f = z_shl 1 (12 + t 725 f / 101) ∧ t' 730 f = 0 ∧ t' 732 f = 0 := by
  unfold mf_an1 mf_clears
  refine ⟨?_, ?_, ?_, ?_, ?_, ?_, ?_, ?_⟩
  · rw [z_up_ne (by omega), z_up_eq]
  · rw [z_up_ne (by omega), z_up_ne (by omega), z_up_ne (by omega), z_up_ne (by omega), z_up_ne (by omega), z_up_ne (by omega), z_up_ne (by omega), z_up_eq]
  · rw [z_up_eq]
  · rw [z_up_ne (by omega), z_up_ne (by omega), z_up_ne (by omega), z_up_ne (by omega), z_up_ne (by omega), z_up_ne (by omega), z_up_eq]
  · rw [z_up_ne (by omega), z_up_ne (by omega), z_up_eq]
  · rw [z_up_ne (by omega), z_up_ne (by omega), z_up_ne (by omega), z_up_ne (by omega), z_up_ne (by omega), z_up_eq, z_up_ne (by omega)]
  · rw [z_up_ne (by omega), z_up_ne (by omega), z_up_ne (by omega), z_up_ne (by omega), z_up_eq]
  · rw [z_up_ne (by omega), z_up_ne (by omega), z_up_ne (by omega), z_up_eq]
/-! what a change leaves of frames -/
theorem z_FR_ag {t t' : z_M} {f w : Int} (hT : z_TT t) (ha : z_ag t t' w) (w0 : 0 ≤ w) (w1 : w < 24) (he : z_fe t t' f) (h : z_FR t f) (hb : z_bb (t 729 f) w.toNat = false) : z_FR t' f ∧ ¬ 12 + t 725 f / 101 = w := by
  obtain ⟨-, s2, s3, -⟩ := z_FR_sz hT h
  obtain ⟨hB, n, j, e⟩ := h
  have h2 := z_it_ag hT ha w0 w1 n (z_ev_ag hT ha w0 w1 n) hB.1.1 hB.1.2 j e hb
  have hown := z_it_own hB.1.1 hB.1.2 j e
  refine ⟨⟨z_FB_fe he hB, n, j, ?_⟩, fun q => ?_⟩
  · rw [z_FS_fe he (by omega) (by omega), he.1 725 (by omega) (by omega) (by omega)]; exact h2
  · rw [q] at hown
    rw [show z_bb (t 729 f) w.toNat = true from hown] at hb; cases hb
theorem z_FP_ag {t t' : z_M} {f key w : Int} (hT : z_TT t) (ha : z_ag t t' w) (w0 : 0 ≤ w) (w1 : w < 24) (he : z_fe t t' f) (h : z_FP t f key) (hb : z_bb (t 729 f) w.toNat = false) : z_FP t' f key ∧ ¬ 12 + t 725 f / 101 = w := by
  obtain ⟨q1, s2, s3, -⟩ := z_FP_sz hT h
  obtain ⟨hB, n, j, v, e, e2, e3, e4, e5⟩ := h
  have h2 := z_it_ag hT ha w0 w1 n (z_ev_ag hT ha w0 w1 n) hB.1.1 hB.1.2 j e hb
  have hown := z_it_own hB.1.1 hB.1.2 j e
  have hne : ¬ 12 + t 725 f / 101 = w := fun q => by
    rw [q] at hown
    rw [show z_bb (t 729 f) w.toNat = true from hown] at hb; cases hb
  obtain ⟨R0, R1⟩ := z_kr hB.1.1 hB.1.2
  obtain ⟨g5, g4⟩ := ha.2 _ R0 R1 hne
  refine ⟨⟨z_FB_fe he hB, n, j, v, ?_⟩, hne⟩
  rw [z_FS_fe he (by omega) (by omega), he.1 725 (by omega) (by omega) (by omega), he.1 726 (by omega) (by omega) (by omega), he.1 729 (by omega) (by omega) (by omega), g5, g4 _ (by omega) (by omega), show 400 * (t 725 f / 101) + (t 726 f - 2) + 1 = 400 * (t 725 f / 101) + (t 726 f - 2 + 1) by omega, g4 _ (by omega) (by omega)]
  exact ⟨h2, e2, e3, e4, by rw [show 400 * (t 725 f / 101) + (t 726 f - 2 + 1) = 400 * (t 725 f / 101) + (t 726 f - 2) + 1 by omega]; exact e5⟩
theorem z_an_core {t t1 : z_M} {q w i : Int} (q0 : 0 ≤ q) (hT : z_TT t) (hT1 : z_TT t1) (ha : z_ag t t1 w) (w0 : 0 ≤ w) (w1 : w < 24) (hre : (∀ a, 719 ≤ a → a ≤ 724 → t1 a q = t a q) ∧ ∀ f, 30 * q ≤ f → f < 30 * q + 30 → z_fe t t1 f) (hd : t 722 q ≤ 30) (hs : 0 ≤ t 721 q ∧ t 721 q ≤ 2000) (i0 : 0 ≤ i) (i1 : i < t 722 q) (hfp : ∀ j, 0 ≤ j → j + 1 < t 722 q → z_FP t (30 * q + j) (t 725 (30 * q + j + 1))) (hk : 0 ≤ t 725 (30 * q + i) ∧ t 725 (30 * q + i) < 1212) (hu : ∀ j, 0 ≤ j → j < i → z_bb (t 729 (30 * q + j)) w.toNat = false) : z_RI (mf_an1 q i t1) q := by
  obtain ⟨a1, a2, a3, a4, a5, a6, a7, a8⟩ := mf_an1_at (r := q) (i := i) (t := t1)
  have hne := fun a j x y z => mf_an1_ne (r := q) (i := i) (t := t1) (a := a) (j := j) x y z
  have hme : z_me t1 (mf_an1 q i t1) := by refine ⟨?_, ?_, ?_⟩ <;> (funext j; exact hne _ _ (by omega) (by omega) (by omega))
  have hT2 := z_me_TT hme hT1
  have ha2 : z_ag t (mf_an1 q i t1) w := ⟨fun c c0 c1 c2 => by rw [hme.1]; exact ha.1 c c0 c1 c2, fun R R0 R1 R2 => by rw [hme.2.1, hme.2.2]; exact ha.2 R R0 R1 R2⟩
  have hfe : ∀ j, 0 ≤ j → j < 30 → ¬ j = i → z_fe t (mf_an1 q i t1) (30 * q + j) := fun j j0 j1 hj => by
    have h1 := hre.2 (30 * q + j) (by omega) (by omega)
    exact ⟨fun a x y z => by rw [hne _ _ (by omega) (by omega) (by omega)]; exact h1.1 a x y z, fun p x y => by rw [hne _ _ (by omega) (by omega) (by omega)]; exact h1.2.1 p x y, fun p x y => by rw [hne _ _ (by omega) (by omega) (by omega)]; exact h1.2.2 p x y⟩
  have e25 : ∀ j, 0 ≤ j → j < 30 → mf_an1 q i t1 725 (30 * q + j) = t 725 (30 * q + j) := fun j j0 j1 => by
    rw [hne _ _ (by omega) (by omega) (by omega)]; exact (hre.2 (30 * q + j) (by omega) (by omega)).1 725 (by omega) (by omega) (by omega)
  have e25' : t1 725 (30 * q + i) = t 725 (30 * q + i) := (hre.2 (30 * q + i) (by omega) (by omega)).1 725 (by omega) (by omega) (by omega)
  have e21 : mf_an1 q i t1 721 q = t 721 q := by rw [hne _ _ (by omega) (by omega) (by omega)]; exact hre.1 721 (by omega) (by omega)
  have htop : mf_top q (mf_an1 q i t1) = 30 * q + i := by unfold mf_top; omega
  obtain ⟨R0, R1⟩ := z_kr hk.1 hk.2
  obtain ⟨t1', t2', t3', t4'⟩ := hT2.2 _ R0 R1
  refine Or.inl ⟨a1, ⟨by omega, by omega, fun j j0 j1 => ?_, ?_⟩, ?_⟩
  · rw [a2] at j1
    rw [show 30 * q + j + 1 = 30 * q + (j + 1) by omega, e25 (j + 1) (by omega) (by omega)]
    have := hfp j j0 (by omega)
    rw [show 30 * q + j + 1 = 30 * q + (j + 1) by omega] at this
    exact (z_FP_ag hT ha2 w0 w1 (hfe j j0 (by omega) (by omega)) this (hu j j0 (by omega))).1
  · rw [a2, show 30 * q + (i + 1) - 1 = 30 * q + i by omega]
    refine ⟨⟨by rw [e25 i i0 (by omega)]; exact hk, by rw [a8]; exact Int.le_refl _, by rw [a7]; exact Int.le_refl _⟩, 0, 0, ?_⟩
    unfold z_FS
    rw [a4, a6, a7, a8, e25 i i0 (by omega), e25']
    rfl
  · unfold z_SE
    rw [htop, e25 i i0 (by omega), a4]
    by_cases hz : mf_an1 q i t1 705 (t 725 (30 * q + i) / 101) = 0
    · exact Or.inl hz
    · exact Or.inr ⟨by omega, by rw [Int.add_zero]; exact (t4' hz).1⟩
/-- a runner behind a change -/
theorem z_RI_an {t t1 : z_M} {q w : Int} (q0 : 0 ≤ q) (hT : z_TT t) (hT1 : z_TT t1) (ha : z_ag t t1 w) (w0 : 0 ≤ w) (w1 : w < 24) (hre : (∀ a, 719 ≤ a → a ≤ 724 → t1 a q = t a q) ∧ ∀ f, 30 * q ≤ f → f < 30 * q + 30 → z_fe t t1 f) (h : z_RI t q) : z_RI (mf_an q w t1) q := by
  have hdp := z_RI_dep h
  have e19 := hre.1 719 (by omega) (by omega)
  have e22 := hre.1 722 (by omega) (by omega)
  have e21 := hre.1 721 (by omega) (by omega)
  have e29 : ∀ j, 0 ≤ j → j < 30 → t1 729 (30 * q + j) = t 729 (30 * q + j) := fun j j0 j1 => (hre.2 (30 * q + j) (by omega) (by omega)).1 729 (by omega) (by omega) (by omega)
  have e25 : ∀ j, 0 ≤ j → j < 30 → t1 725 (30 * q + j) = t 725 (30 * q + j) := fun j j0 j1 => (hre.2 (30 * q + j) (by omega) (by omega)).1 725 (by omega) (by omega) (by omega)
  have e26 : ∀ j, 0 ≤ j → j < 30 → t1 726 (30 * q + j) = t 726 (30 * q + j) := fun j j0 j1 => (hre.2 (30 * q + j) (by omega) (by omega)).1 726 (by omega) (by omega) (by omega)
  have hfi := mf_fi_sp t1 q w (t1 722 q).toNat 0 (by omega)
  have hn : ((t1 722 q).toNat : Int) = t 722 q := by rw [e22]; omega
  unfold mf_an
  rw [e19]
  rcases h with ⟨hst, ⟨b1, b2, b3, b4⟩, hse⟩ | ⟨hst, hw, b1, b2, b3, b5, b4⟩ | ⟨hst, b1, b2⟩
  · rw [if_pos (Or.inl hst)]
    unfold mf_anq
    rcases hfi with ⟨f1, f2⟩ | ⟨f1, f2, f3, f4⟩
    · rw [if_pos f1]
      have hu : ∀ j, 0 ≤ j → j < t 722 q → z_bb (t 729 (30 * q + j)) w.toNat = false := fun j j0 j1 => by rw [← e29 j j0 (by omega)]; exact f2 j (by omega) (by omega)
      have htop : mf_top q t = 30 * q + (t 722 q - 1) := by unfold mf_top; omega
      have htop1 : mf_top q t1 = mf_top q t := by unfold mf_top; rw [e22]
      rw [show 30 * q + t 722 q - 1 = 30 * q + (t 722 q - 1) by omega] at b4
      obtain ⟨c1, c2⟩ := z_FR_ag hT ha w0 w1 (hre.2 _ (by omega) (by omega)) b4 (hu _ (by omega) (by omega))
      refine Or.inl ⟨by rw [e19]; exact hst, ⟨by rw [e22]; exact b1, by rw [e21]; exact b2, fun j j0 j1 => ?_, ?_⟩, ?_⟩
      · rw [e22] at j1
        rw [show 30 * q + j + 1 = 30 * q + (j + 1) by omega, e25 (j + 1) (by omega) (by omega)]
        have := b3 j j0 j1
        rw [show 30 * q + j + 1 = 30 * q + (j + 1) by omega] at this
        exact (z_FP_ag hT ha w0 w1 (hre.2 _ (by omega) (by omega)) this (hu j j0 (by omega))).1
      · rw [e22, show 30 * q + t 722 q - 1 = 30 * q + (t 722 q - 1) by omega]; exact c1
      · have hsz := (z_FR_sz hT b4).1
        obtain ⟨⟨k, -⟩, -⟩ := b4
        obtain ⟨R0, R1⟩ := z_kr k.1 k.2
        obtain ⟨g5, g4⟩ := ha.2 _ R0 R1 c2
        unfold z_SE at hse ⊢
        rw [htop1, htop, e25 _ (by omega) (by omega), e26 _ (by omega) (by omega), g5]
        rw [htop] at hse
        rcases hse with hse | ⟨hse, hse2⟩
        · exact Or.inl hse
        · exact Or.inr ⟨hse, by rw [g4 _ (by omega) (by omega)]; exact hse2⟩
    · rw [if_neg (by omega)]
      refine z_an_core q0 hT hT1 ha w0 w1 hre b1.2 b2 (by omega) (by omega) b3 ?_ (fun j j0 j1 => by rw [← e29 j j0 (by omega)]; exact f4 j (by omega) (by omega))
      by_cases hj : mf_fi t1 q w (t1 722 q).toNat 0 = t 722 q - 1
      · rw [hj, show 30 * q + (t 722 q - 1) = 30 * q + t 722 q - 1 by omega]; exact b4.1.1
      · exact (b3 _ (by omega) (by omega)).1.1
  · rw [if_pos (Or.inr hst)]
    unfold mf_anq
    rcases hfi with ⟨f1, f2⟩ | ⟨f1, f2, f3, f4⟩
    · rw [if_pos f1]
      have hu : ∀ j, 0 ≤ j → j < t 722 q → z_bb (t 729 (30 * q + j)) w.toNat = false := fun j j0 j1 => by rw [← e29 j j0 (by omega)]; exact f2 j (by omega) (by omega)
      have e23 := hre.1 723 (by omega) (by omega)
      have e24 := hre.1 724 (by omega) (by omega)
      refine Or.inr (Or.inl ⟨by rw [e19]; exact hst, by rw [e23]; exact hw, by rw [e22]; exact b1, by rw [e21]; exact b2, fun j j0 j1 => ?_, by rw [e24]; exact b5, fun hz => ?_⟩)
      · rw [e22] at j1
        rw [show 30 * q + j + 1 = 30 * q + (j + 1) by omega, e25 (j + 1) (by omega) (by omega)]
        have := b3 j j0 j1
        rw [show 30 * q + j + 1 = 30 * q + (j + 1) by omega] at this
        exact (z_FP_ag hT ha w0 w1 (hre.2 _ (by omega) (by omega)) this (hu j j0 (by omega))).1
      · rw [e22] at hz
        have := b4 hz
        rw [e22, e24, show 30 * q + t 722 q - 1 = 30 * q + (t 722 q - 1) by omega]
        rw [show 30 * q + t 722 q - 1 = 30 * q + (t 722 q - 1) by omega] at this
        exact (z_FP_ag hT ha w0 w1 (hre.2 _ (by omega) (by omega)) this (hu _ (by omega) (by omega))).1
    · rw [if_neg (by omega)]
      refine z_an_core q0 hT hT1 ha w0 w1 hre b1.2 b2 (by omega) (by omega) b3 ?_ (fun j j0 j1 => by rw [← e29 j j0 (by omega)]; exact f4 j (by omega) (by omega))
      by_cases hj : mf_fi t1 q w (t1 722 q).toNat 0 = t 722 q - 1
      · rw [hj, show 30 * q + (t 722 q - 1) = 30 * q + t 722 q - 1 by omega]; exact (b4 (by omega)).1.1
      · exact (b3 _ (by omega) (by omega)).1.1
  · rw [if_neg (by omega)]
    exact Or.inr (Or.inr ⟨by rw [e19]; exact hst, by rw [e22]; exact b1, by rw [e21]; exact b2⟩)
