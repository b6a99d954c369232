/-! what a run of the asker leaves alone, in the reference -/
def z_r4 (t t' : z_M) : Prop := ∀ a i, ¬ (a = 701 ∧ (i = 21 ∨ i = 22 ∨ i = 23 ∨ i = 26)) → ¬ (707 ≤ a ∧ a ≤ 717) → ¬ (719 ≤ a ∧ a ≤ 724 ∧ i = 4) → ¬ (725 ≤ a ∧ a ≤ 733 ∧ 120 ≤ i ∧ (a = 731 → 3840 ≤ i) ∧ (a = 733 → 7680 ≤ i)) → t' a i = t a i
theorem z_r4_rf {t : z_M} : z_r4 t t := fun _ _ _ _ _ _ => rfl
theorem z_r4_tr {t t1 t2 : z_M} (h : z_r4 t t1) (h2 : z_r4 t1 t2) : z_r4 t t2 := fun a i x y z w => by rw [h2 a i x y z w, h a i x y z w]
theorem z_r4_ro {t t' : z_M} (h : z_ro t t' 4) : z_r4 t t' := fun a i x y z w => h a i (by omega) z (by omega) (by omega) (by omega)
theorem z_r4_up {t : z_M} {a0 i0 v : Int} (h : (a0 = 701 ∧ (i0 = 21 ∨ i0 = 22 ∨ i0 = 23 ∨ i0 = 26)) ∨ (707 ≤ a0 ∧ a0 ≤ 717) ∨ (719 ≤ a0 ∧ a0 ≤ 724 ∧ i0 = 4) ∨ (725 ≤ a0 ∧ a0 ≤ 733 ∧ 120 ≤ i0 ∧ ¬ a0 = 731 ∧ ¬ a0 = 733)) : z_r4 t (z_up t a0 i0 v) := fun a i x y z w => z_up_ne (by omega)
theorem z_r4_nd {t t' : z_M} (h : z_nd t t' 4) (hd : 1 ≤ t 722 4) : z_r4 t t' := fun a i x y z w => by
  have ht : mf_top 4 t = 30 * 4 + t 722 4 - 1 := rfl
  exact h a i (by omega) (by omega) (by omega)
theorem mf_give_r4 {key v u : Int} {t : z_M} (hd : 1 ≤ t 722 4) (hb : z_FB t (mf_top 4 t)) : z_r4 t (mf_give 4 key v u t) := fun a i x y z w => by
  have ht : mf_top 4 t = 30 * 4 + t 722 4 - 1 := rfl
  obtain ⟨g1, g2, g3, g4, -⟩ := mf_give_fr (r := 4) (key := key) (v := v) (u := u) (t := t) rfl
  obtain ⟨-, b1, b2⟩ := hb
  by_cases h1 : a = 731
  · subst h1; exact g3 i (by omega)
  by_cases h3 : a = 733
  · subst h3; exact g4 i (by omega)
  by_cases h2 : 729 ≤ a ∧ a ≤ 732
  · exact g2 a i (by omega) h2.1 h2.2 h1
  · exact g1 a i (by omega) (by omega) (by omega) (by omega) (by omega)
theorem mf_gt_r4 {key v u : Int} {t : z_M} (hd : 0 ≤ t 722 4) (hb : ¬ t 722 4 = 0 → z_FB t (mf_top 4 t)) : z_r4 t (mf_gt 4 key v u t) := by
  unfold mf_gt
  split
  · exact z_r4_tr (z_r4_up (by omega)) (z_r4_up (by omega))
  · rename_i q
    exact mf_give_r4 (by omega) (hb q)
theorem mf_pop_r4 {t : z_M} (hd : 1 ≤ t 722 4) : z_r4 t (mf_pop 4 t) := fun a i x y z w => by
  have ht : mf_top 4 t = 30 * 4 + t 722 4 - 1 := rfl
  unfold mf_pop
  rw [z_up_ne (by omega), mf_keeps_ne (by omega) (by omega) (by omega), mf_taken_ne (by omega)]
theorem mf_end_r4 {t : z_M} (hx : z_MX t 4) (h : z_RR t 4) (hs : z_HT t 4) (hf : mf_fin 4 t) : z_r4 t (mf_end 4 t) := by
  obtain ⟨p1, p2, ⟨n, a, p3⟩, p4, p5, p6, p7⟩ := mf_pop_ok (by omega) (by omega) hx h hs hf
  have hb := h.1
  unfold mf_end
  refine z_r4_tr (mf_pop_r4 hb.1) (mf_gt_r4 (by omega) (fun q => ?_))
  exact (p2.2.2.2.2 q).1
theorem mf_jmp_r4 {t : z_M} (hd : 1 ≤ t 722 4) : z_r4 t (mf_jmp 4 t) := fun a i x y z w => by
  have ht : mf_top 4 t = 30 * 4 + t 722 4 - 1 := rfl
  exact mf_jmp_ne (by omega)
theorem mf_go_r4 : ∀ (n : Nat) (t : z_M), z_MX t 4 → z_RR t 4 → z_HT t 4 → z_r4 t (mf_go n 4 t)
  | 0, t, _, _, _ => z_r4_rf
  | n + 1, t, hx, hr, hs => by
    obtain ⟨j1, j2, j3⟩ := mf_jmp_ok (by omega) (by omega) hx hr
    have hb := hr.1
    have jt : mf_top 4 (mf_jmp 4 t) = mf_top 4 t := mf_jmp_top
    have j22 : mf_jmp 4 t 722 4 = t 722 4 := j3 _ _ (by omega)
    have j25 : mf_jmp 4 t 725 (mf_top 4 t) = t 725 (mf_top 4 t) := j3 _ _ (by omega)
    have j05 : mf_jmp 4 t 705 = t 705 := funext fun i => j3 _ _ (by omega)
    have hft : z_HT (mf_jmp 4 t) 4 := by unfold z_HT; rw [jt, j05, j25]; exact hs
    have hj := mf_jmp_r4 hb.1
    unfold mf_go
    by_cases w : t 705 (t 725 (mf_top 4 t) / 101) ≤ mf_jmp 4 t 726 (mf_top 4 t)
    · rw [if_pos w]
      have hff : mf_fin 4 (mf_jmp 4 t) := by unfold mf_fin; rw [jt, j05, j25]; exact w
      have he := mf_end_r4 j1 j2 hft hff
      by_cases hd : t 722 4 = 1
      · rw [if_pos hd]
        exact z_r4_tr hj he
      · rw [if_neg hd]
        obtain ⟨m1, m2, m3, -⟩ := mf_end_ok (by omega) (by omega) j1 j2 hft hff (by rw [j22]; exact hd)
        exact z_r4_tr hj (z_r4_tr he (mf_go_r4 n _ m1 m2 m3))
    · rw [if_neg w]; exact hj
theorem mf_ask_r4 {key : Int} {t : z_M} (hd : 0 ≤ t 722 4) (hb : ¬ t 722 4 = 0 → z_FB t (mf_top 4 t)) : z_r4 t (mf_ask 4 key 0 t) := by
  have h0 : z_r4 t (mf_ask0 4 t) := z_r4_ro mf_ask0_ro
  have a2 : mf_ask0 4 t 722 4 = t 722 4 := by unfold mf_ask0; rw [z_up_ne (by omega), z_up_ne (by omega)]
  unfold mf_ask mf_ask1
  refine z_r4_tr h0 ?_
  split
  · have hh : ∀ a i, 722 ≤ a → mf_hit key (mf_ask0 4 t) a i = t a i := fun a i y => by unfold mf_hit mf_ask0; rw [z_up_ne (by omega), z_up_ne (by omega), z_up_ne (by omega), z_up_ne (by omega), z_up_ne (by omega)]
    refine z_r4_tr (z_r4_ro mf_hit_ro) (mf_gt_r4 (by rw [hh _ _ (by omega)]; exact hd) (fun q => ?_))
    rw [hh _ _ (by omega)] at q
    have hq := hb q
    unfold z_FB mf_top at hq ⊢
    rw [hh 722 _ (by omega), hh 725 _ (by omega), hh 730 _ (by omega), hh 732 _ (by omega)]
    exact hq
  · split
    · exact z_r4_ro mf_fails_ro
    · split
      · split
        · exact z_r4_ro mf_fails_ro
        · exact z_r4_ro mf_wait_ro
      · split
        · exact z_r4_ro mf_fails_ro
        · split
          · exact z_r4_ro mf_fails_ro
          · exact fun a i x y z w => mf_beg_ne (by omega) (by omega) (by omega)
theorem mf_res_r4 {t tx : z_M} {v : Int} (h : z_nd t tx 4) (hd : 1 ≤ t 722 4) (h32 : 0 ≤ tx 732 (mf_top 4 t)) : z_r4 t (mf_res 4 (mf_top 4 t) v tx) := by
  have ht : mf_top 4 t = 30 * 4 + t 722 4 - 1 := rfl
  unfold mf_res
  split
  · refine z_r4_tr (z_r4_nd h hd) (fun a i x y z w => ?_)
    unfold mf_holds
    rw [z_up_ne (by omega), z_up_ne (by omega)]
  · exact z_r4_tr (z_r4_nd h hd) (z_r4_ro mf_fails_ro)
theorem mf_st_r4 {t : z_M} (hx : z_MX t 4) (hr : z_RR t 4) (hs : z_HT t 4) (hse : z_SE t 4) : z_r4 t (mf_st 4 t) := by
  obtain ⟨D, ⟨k1, k2⟩, k3, k4, k5, k6, ⟨k7, k8, k9, k10, k11⟩, k12⟩ := z_NK_of hx hr hs hse
  obtain ⟨a1, a2, a3⟩ := mf_adv_at (r := 4) (t := t)
  have n1 := mf_adv_nd (r := 4) (t := t)
  have n2 := z_nd_taken n1
  have n3 := z_nd_taken n2
  have hb := hr.1
  have ht : mf_top 4 t = 30 * 4 + t 722 4 - 1 := rfl
  have e32 : mf_adv 4 t 732 (mf_top 4 t) = t 732 (mf_top 4 t) := a3 _ _ (by omega) (by omega)
  have e321 : mf_taken (mf_top 4 t) (mf_adv 4 t) 732 (mf_top 4 t) = t 732 (mf_top 4 t) - 1 := by rw [mf_taken_at, e32]
  have e322 : mf_taken (mf_top 4 t) (mf_taken (mf_top 4 t) (mf_adv 4 t)) 732 (mf_top 4 t) = t 732 (mf_top 4 t) - 2 := by rw [mf_taken_at, e321]; omega
  unfold z_TO at k5
  unfold mf_st
  split
  · exact z_r4_ro mf_fails_ro
  unfold mf_st1
  split
  · have hd1 : 1 ≤ t 732 (mf_top 4 t) := by omega
    split
    · have e22 : mf_taken (mf_top 4 t) (mf_adv 4 t) 722 4 = t 722 4 := n2 _ _ (by omega) (by omega) (by omega)
      refine z_r4_tr (z_r4_nd n2 hb.1) (mf_ask_r4 (by omega) (fun _ => ?_))
      rw [show mf_top 4 (mf_taken (mf_top 4 t) (mf_adv 4 t)) = mf_top 4 t by unfold mf_top; rw [show mf_taken (30 * 4 + t 722 4 - 1) (mf_adv 4 t) 722 4 = t 722 4 from e22]]
      unfold z_FB
      rw [e321, n2 725 _ (by omega) (by omega) (by omega), n2 730 _ (by omega) (by omega) (by omega)]
      exact ⟨k6, by omega, by omega⟩
    · exact z_r4_tr (z_r4_nd n2 hb.1) (z_r4_ro mf_fails_ro)
  · split
    · refine z_r4_tr (z_r4_nd n2 hb.1) (z_r4_up (by omega))
    · split
      · exact mf_res_r4 n1 hb.1 (by omega)
      · split
        · exact mf_res_r4 (fun a i c1 c2 c3 => by rw [z_up_ne (by omega)]; exact n1 a i c1 c2 c3) hb.1 (by rw [z_up_ne (by omega)]; omega)
        · split
          · exact mf_res_r4 n2 hb.1 (by omega)
          · split
            · exact mf_res_r4 n1 hb.1 (by omega)
            · split
              · exact z_r4_tr (z_r4_nd n3 hb.1) (z_r4_ro mf_fails_ro)
              · exact mf_res_r4 n3 hb.1 (by omega)
theorem mf_set_r4 {t t' : z_M} (h : z_RO t t' 4) : z_r4 t' (mf_set 4 t') := by
  unfold mf_set
  split
  · rename_i q
    rcases h.2.1 with ⟨-, b, c⟩ | ⟨b, -⟩
    · exact mf_go_r4 30 _ h.1 b c
    · exact absurd q b
  · exact z_r4_rf
theorem mf_run_r4 : ∀ (m : Nat) (t : z_M), z_RW t 4 → z_r4 t (mf_run m 4 t)
  | 0, t, _ => z_r4_rf
  | m + 1, t, h => by
    by_cases h1 : t 719 4 = 1
    · rw [show mf_run (m + 1) 4 t = mf_run m 4 (mf_set 4 (mf_st 4 t)) from if_pos h1]
      obtain ⟨g1, -⟩ := z_RW_step (by omega) (by omega) h h1
      obtain ⟨hx, hi, ht⟩ := h
      obtain ⟨hr, hse⟩ := z_RI_run hi h1
      have hok := mf_st_ok hx hr (by omega) (by omega) (ht h1) hse h1
      exact z_r4_tr (mf_st_r4 hx hr (ht h1) hse) (z_r4_tr (mf_set_r4 hok.1) (mf_run_r4 m _ g1))
    · rw [show mf_run (m + 1) 4 t = t from if_neg h1]; exact z_r4_rf
/-- a whole run -/
theorem mf_whole_r4 {k : Int} {t : z_M} (hx : z_MX t 4) (hk : 0 ≤ k ∧ k < 1212) : z_r4 t (mf_run 2001 4 (mf_ask 4 k 0 (z_up (z_up t 721 4 0) 722 4 0))) := by
  have x1 : z_MX (z_up (z_up t 721 4 0) 722 4 0) 4 := z_ro_MX mf_first_ro hx
  have e22 : z_up (z_up t 721 4 0) 722 4 0 722 4 = 0 := z_up_eq
  have e21 : z_up (z_up t 721 4 0) 722 4 0 721 4 = 0 := by rw [z_up_ne (by omega), z_up_eq]
  obtain ⟨-, f1, -⟩ := mf_ask_first (r := 4) (w := 0) (by omega) (by omega) x1 e22 (by omega) hk
  exact z_r4_tr (z_r4_ro mf_first_ro) (z_r4_tr (mf_ask_r4 (by omega) (fun q => absurd e22 q)) (mf_run_r4 2001 _ f1))
