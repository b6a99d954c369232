/-! the reference: a step leaves all well -/
theorem z_RO_of {t t1 t' : z_M} {r : Int} (h : z_RO t1 t' r) (h1 : t1 701 21 = t 701 21) (h2 : t1 722 r = t 722 r) : z_RO t t' r := by
  obtain ⟨a, b, c, d⟩ := h
  exact ⟨a, b, by rw [c, h1], by rw [← h2]; exact d⟩
theorem z_ll_top {t : z_M} {f : Int} (h : 1 ≤ t 732 f) : z_ll (t 733) (64 * f) (t 732 f).toNat = mf_val f t :: z_ll (t 733) (64 * f) (t 732 f - 1).toNat := by
  rw [show (t 732 f).toNat = (t 732 f - 1).toNat + 1 by omega]
  unfold mf_val
  show t 733 (64 * f + (((t 732 f - 1).toNat : Nat) : Int)) :: _ = _
  rw [show 64 * f + (((t 732 f - 1).toNat : Nat) : Int) = 64 * f + t 732 f - 1 by omega]
/-- what is known of a node that is to be worked out -/
def z_NK (t : z_M) (r : Int) (D : Int → Int) : Prop := (t 726 (mf_top r t) < t 705 (t 725 (mf_top r t) / 101) ∧ ¬ mf_op r t = 13) ∧ z_TD t (t 725 (mf_top r t) / 101) D ∧ t 732 (mf_top r t) = D (t 726 (mf_top r t)) ∧ z_TO t (t 725 (mf_top r t) / 101) D (t 726 (mf_top r t)) (mf_op r t) (mf_arg r t) ∧ (0 ≤ t 725 (mf_top r t) ∧ t 725 (mf_top r t) < 1212) ∧ ((0 ≤ t 726 (mf_top r t) ∧ t 726 (mf_top r t) ≤ t 705 (t 725 (mf_top r t) / 101) ∧ t 705 (t 725 (mf_top r t) / 101) ≤ 200 ∧ t 705 (t 725 (mf_top r t) / 101) % 2 = 0 ∧ t 726 (mf_top r t) % 2 = 0) ∧ t 732 (mf_top r t) ≤ 19 ∧ t 730 (mf_top r t) ≤ 25 ∧ 0 ≤ t 732 (mf_top r t) ∧ 0 ≤ t 730 (mf_top r t)) ∧ ∀ i, 0 ≤ i → i < t 732 (mf_top r t) → -9999 ≤ t 733 (64 * mf_top r t + i) ∧ t 733 (64 * mf_top r t + i) ≤ 9999
theorem z_NK_of {t : z_M} {r : Int} (hx : z_MX t r) (hr : z_RR t r) (hs : z_HT t r) (hse : z_SE t r) : ∃ D, z_NK t r D := by
  obtain ⟨b1, b2, b3, b4⟩ := hr
  have ht : mf_top r t = 30 * r + t 722 r - 1 := rfl
  rw [← ht] at b4
  obtain ⟨s1, s2, s3, s4, s5, s6⟩ := z_FR_sz hx.1 b4
  obtain ⟨⟨c1, c2, c3⟩, n, j, e⟩ := b4
  obtain ⟨R0, R1⟩ := z_kr c1.1 c1.2
  obtain ⟨t1, t2, t3, t4⟩ := hx.1.2 _ R0 R1
  obtain ⟨-, -, D, hD⟩ := t4 hs
  have hpl := hse.resolve_left hs
  have hgd := (z_gd_it t1 t3 hD (z_ev_gd hx.1 n) j e).2.2.2.1
  unfold z_FS at hgd
  dsimp only at hgd
  rw [z_ll_len] at hgd
  exact ⟨D, hpl, hD, by omega, hD.2.2.2 _ s1.1 hpl.1 s1.2.2.2.2, c1, ⟨s1, s2, s3, c2, c3⟩, s4⟩
/-- a node that leaves a value -/
theorem z_nd_push {t tx : z_M} {r v : Int} {m : Int} (hx : z_MX t r) (hr : z_RR t r) (hr0 : 0 ≤ r) (hr1 : r < 5) (hs : z_HT t r) (hse : z_SE t r) (h : z_nd t tx r) (h1 : tx 721 r = t 721 r + 1) (h2 : ¬ t 721 r = 2000) (h3 : ¬ mf_op r t = 12 ∧ ¬ mf_op r t = 4) (e26 : tx 726 (mf_top r t) = t 726 (mf_top r t) + 2) (e29 : tx 729 (mf_top r t) = if mf_op r t = 3 then z_or (t 729 (mf_top r t)) (z_shl 1 (mf_arg r t)) else t 729 (mf_top r t)) (e32 : tx 732 (mf_top r t) = m) (hm : 0 ≤ m ∧ m < 64) (e33 : ∀ i, tx 733 i = t 733 i) (hv : -9999 ≤ v ∧ v ≤ 9999) (hw : z_wk t (t 725 (mf_top r t)) (mf_op r t) (mf_arg r t) (z_ll (t 733) (64 * mf_top r t) (t 732 (mf_top r t)).toNat) = some (v, z_ll (t 733) (64 * mf_top r t) m.toNat)) (h19 : t 719 r = 1) : z_RO t (mf_holds (mf_top r t) v tx) r ∧ mf_holds (mf_top r t) v tx 719 r = 1 ∧ mf_holds (mf_top r t) v tx 721 r = t 721 r + 1 := by
  have hb := hr.1
  have ht : mf_top r t = 30 * r + t 722 r - 1 := rfl
  have hp := hse.resolve_left hs
  have hn : z_nd t (mf_holds (mf_top r t) v tx) r := fun a i a1 a2 a3 => by
    unfold mf_holds
    rw [z_up_ne (by omega), z_up_ne (by omega)]
    exact h a i a1 a2 a3
  have g : ∀ a i, ¬ a = 732 → ¬ a = 733 → mf_holds (mf_top r t) v tx a i = tx a i := fun a i a1 a2 => by unfold mf_holds; rw [z_up_ne (by omega), z_up_ne (by omega)]
  have g32 : mf_holds (mf_top r t) v tx 732 (mf_top r t) = m + 1 := by unfold mf_holds; rw [z_up_eq, e32]
  have hm' : (m + 1).toNat = m.toNat + 1 := by omega
  have hFS : z_FS (mf_holds (mf_top r t) v tx) (mf_top r t) = (t 726 (mf_top r t) + 2, v :: z_ll (t 733) (64 * mf_top r t) m.toNat, (if mf_op r t = 3 then z_or (t 729 (mf_top r t)) (z_shl 1 (mf_arg r t)) else t 729 (mf_top r t)), (z_FS t (mf_top r t)).2.2.2) := by
    unfold z_FS
    dsimp only
    rw [g32, hm', g 726 _ (by omega) (by omega), g 729 _ (by omega) (by omega), e26, e29, hn 730 _ (by omega) (by omega) (by omega), show mf_holds (mf_top r t) v tx 731 = t 731 from funext fun i => hn _ _ (by omega) (by omega) (by omega)]
    show (_, mf_holds (mf_top r t) v tx 733 (64 * mf_top r t + ((m.toNat : Nat) : Int)) :: z_ll (mf_holds (mf_top r t) v tx 733) (64 * mf_top r t) m.toNat, _, _) = _
    have g33 : ∀ i, mf_holds (mf_top r t) v tx 733 i = if i = 64 * mf_top r t + m then v else t 733 i := fun i => by
      unfold mf_holds
      rw [z_up_ne (by omega), e32, z_upd, e33]
      by_cases hi : i = 64 * mf_top r t + m
      · rw [if_pos ⟨rfl, hi⟩, if_pos hi]
      · rw [if_neg (fun q => hi q.2), if_neg hi]
    rw [show 64 * mf_top r t + ((m.toNat : Nat) : Int) = 64 * mf_top r t + m by omega, g33, if_pos rfl, z_ll_congr (g := t 733) (b := 64 * mf_top r t) m.toNat (fun i i0 i1 => by rw [g33, if_neg (by omega)])]
  have hRR := z_nd_RR hn hx hr (by rw [g _ _ (by omega) (by omega)]; exact h1) h2 (by rw [g32]; omega) (fun O => by
    rw [hFS]
    unfold z_sp z_sq z_FS
    dsimp only
    have hop : t 704 (400 * (t 725 (mf_top r t) / 101) + t 726 (mf_top r t)) = mf_op r t := rfl
    have har : t 704 (400 * (t 725 (mf_top r t) / 101) + t 726 (mf_top r t) + 1) = mf_arg r t := rfl
    rw [if_neg (by omega), hop, har, if_neg (show ¬ mf_op r t = 13 from hp.2), if_neg h3.1, if_neg h3.2, hw]
    dsimp only
    rw [if_pos hv])
  have h19' : mf_holds (mf_top r t) v tx 719 r = 1 := by rw [hn _ _ (by omega) (by omega) (by omega)]; exact h19
  refine ⟨⟨z_nd_MX hn hx hr0 hr1 hb, Or.inl ⟨h19', hRR, (z_nd_HT hn hs).1⟩, hn _ _ (by omega) (by omega) (by omega), by rw [hn _ _ (by omega) (by omega) (by omega)]; omega⟩, h19', by rw [g _ _ (by omega) (by omega)]; exact h1⟩
theorem mf_adv_nd {r : Int} {t : z_M} : z_nd t (mf_adv r t) r := fun a i a1 a2 a3 => by unfold mf_adv; rw [z_up_ne (by omega), z_up_ne (by omega)]
theorem z_nd_taken {r : Int} {t tx : z_M} (h : z_nd t tx r) : z_nd t (mf_taken (mf_top r t) tx) r := fun a i a1 a2 a3 => by unfold mf_taken; rw [z_up_ne (by omega)]; exact h a i a1 a2 a3
theorem mf_taken_ne {f : Int} {t : z_M} {a i : Int} (h : ¬ a = 732 ∨ ¬ i = f) : mf_taken f t a i = t a i := z_up_ne h
theorem mf_taken_at {f : Int} {t : z_M} : mf_taken f t 732 f = t 732 f - 1 := z_up_eq
theorem mf_adv_at {r : Int} {t : z_M} : mf_adv r t 721 r = t 721 r + 1 ∧ mf_adv r t 726 (mf_top r t) = t 726 (mf_top r t) + 2 ∧ (∀ a i, ¬ a = 721 → ¬ a = 726 → mf_adv r t a i = t a i) := by
  unfold mf_adv
  exact ⟨by rw [z_up_ne (by omega), z_up_eq], z_up_eq, fun a i a1 a2 => by rw [z_up_ne (by omega), z_up_ne (by omega)]⟩
theorem z_nd_fails {t tx : z_M} {r why : Int} (hx : z_MX t r) (hr : z_RR t r) (hr0 : 0 ≤ r) (hr1 : r < 5) (h : z_nd t tx r) (h1 : tx 721 r = t 721 r + 1) (h2 : ¬ t 721 r = 2000) : z_RO t (mf_fails r why tx) r := by
  have hb := hr.1
  have hb2 := hr.2.1
  have e22 : tx 722 r = t 722 r := h _ _ (by omega) (by omega) (by omega)
  exact z_RO_of (mf_fails_ok (z_nd_MX h hx hr0 hr1 hb) (by omega) (by omega)) (h _ _ (by omega) (by omega) (by omega)) e22
/-- the steps of a runner behind one -/
theorem mf_give_21 {r key v u q : Int} {t : z_M} : mf_give r key v u t 721 q = t 721 q := (mf_give_fr rfl).1 _ _ (by omega) (by omega) (by omega) (by omega) (by omega)
theorem mf_ask_21 {r key w : Int} {t : z_M} : mf_ask r key w t 721 r = t 721 r := by
  have h0 : mf_ask0 r t 721 r = t 721 r := by unfold mf_ask0; rw [z_up_ne (by omega), z_up_ne (by omega)]
  have hf : ∀ why, mf_fails r why (mf_ask0 r t) 721 r = t 721 r := fun why => by rw [mf_fails_at.2.2.1, h0]
  unfold mf_ask mf_ask1
  split
  · have hh : mf_hit key (mf_ask0 r t) 721 r = t 721 r := by unfold mf_hit; rw [z_up_ne (by omega), z_up_ne (by omega), z_up_ne (by omega)]; exact h0
    unfold mf_gt
    split
    · rw [z_up_ne (by omega), z_up_ne (by omega)]; exact hh
    · rw [mf_give_21]; exact hh
  · split
    · exact hf 1
    · split
      · split
        · exact hf 1
        · rw [mf_wait_at.2.2.2.1]; exact h0
      · split
        · exact hf 4
        · split
          · exact hf 5
          · rw [mf_beg_ne (by omega) (by omega) (by omega)]; exact h0
