/-! the reference: every step leaves all well -/
def z_S21 (t t' : z_M) (r : Int) : Prop := (t 721 r ≤ t' 721 r ∧ t' 721 r ≤ t 721 r + 1) ∧ (t' 719 r = 1 → t' 721 r = t 721 r + 1)
theorem mf_res_ok {t tx : z_M} {r v : Int} {m : Int} (hx : z_MX t r) (hr : z_RR t r) (hr0 : 0 ≤ r) (hr1 : r < 5) (hs : z_HT t r) (hse : z_SE t r) (h : z_nd t tx r) (h1 : tx 721 r = t 721 r + 1) (h2 : ¬ t 721 r = 2000) (h3 : ¬ mf_op r t = 12 ∧ ¬ mf_op r t = 4) (e26 : tx 726 (mf_top r t) = t 726 (mf_top r t) + 2) (e29 : tx 729 (mf_top r t) = if mf_op r t = 3 then z_or (t 729 (mf_top r t)) (z_shl 1 (mf_arg r t)) else t 729 (mf_top r t)) (e32 : tx 732 (mf_top r t) = m) (hm : 0 ≤ m ∧ m < 64) (e33 : ∀ i, tx 733 i = t 733 i) (hw : z_wk t (t 725 (mf_top r t)) (mf_op r t) (mf_arg r t) (z_ll (t 733) (64 * mf_top r t) (t 732 (mf_top r t)).toNat) = some (v, z_ll (t 733) (64 * mf_top r t) m.toNat)) (h19 : t 719 r = 1) : z_RO t (mf_res r (mf_top r t) v tx) r ∧ z_S21 t (mf_res r (mf_top r t) v tx) r := by
  unfold mf_res
  by_cases hv : -9999 ≤ v ∧ v ≤ 9999
  · rw [if_pos hv]
    obtain ⟨a, b, c⟩ := z_nd_push hx hr hr0 hr1 hs hse h h1 h2 h3 e26 e29 e32 hm e33 hv hw h19
    exact ⟨a, by unfold z_S21; omega⟩
  · rw [if_neg hv]
    have := (mf_fails_at (r := r) (why := 3) (t := tx))
    exact ⟨z_nd_fails hx hr hr0 hr1 h h1 h2, by unfold z_S21; omega⟩
theorem mf_st_ok {t : z_M} {r : Int} (hx : z_MX t r) (hr : z_RR t r) (hr0 : 0 ≤ r) (hr1 : r < 5) (hs : z_HT t r) (hse : z_SE t r) (h19 : t 719 r = 1) : z_RO t (mf_st r t) r ∧ z_S21 t (mf_st r t) r ∧ (¬ t 721 r = 2000 → mf_op r t = 12 → z_SE (mf_st r t) r ∧ mf_st r t 719 r = 1 ∧ z_HT (mf_st r t) r) := by
  obtain ⟨D, ⟨k1, k2⟩, k3, k4, k5, k6, ⟨k7, k8, k9, k10, k11⟩, k12⟩ := z_NK_of hx hr hs hse
  obtain ⟨a1, a2, a3⟩ := mf_adv_at (r := r) (t := t)
  have n1 := mf_adv_nd (r := r) (t := t)
  have n2 := z_nd_taken n1
  have n3 := z_nd_taken n2
  have hb := hr.1
  have hb2 := hr.2.1
  have ht : mf_top r t = 30 * r + t 722 r - 1 := rfl
  unfold mf_st
  by_cases h2 : t 721 r = 2000
  · rw [if_pos h2]
    have := (mf_fails_at (r := r) (why := 6) (t := t))
    exact ⟨mf_fails_ok hx hb2 (by omega), by unfold z_S21; omega, fun q => absurd h2 q⟩
  rw [if_neg h2]
  have e1 : ∀ f, mf_taken f (mf_adv r t) 721 r = t 721 r + 1 := fun f => by rw [mf_taken_ne (by omega)]; exact a1
  have e2 : ∀ f, mf_taken f (mf_taken f (mf_adv r t)) 721 r = t 721 r + 1 := fun f => by rw [mf_taken_ne (by omega)]; exact e1 f
  have hv1 : mf_val (mf_top r t) (mf_adv r t) = mf_val (mf_top r t) t := by unfold mf_val; rw [a3 732 _ (by omega) (by omega), a3 733 _ (by omega) (by omega)]
  have e32 : mf_adv r t 732 (mf_top r t) = t 732 (mf_top r t) := a3 _ _ (by omega) (by omega)
  have e321 : mf_taken (mf_top r t) (mf_adv r t) 732 (mf_top r t) = t 732 (mf_top r t) - 1 := by rw [mf_taken_at, e32]
  have e322 : mf_taken (mf_top r t) (mf_taken (mf_top r t) (mf_adv r t)) 732 (mf_top r t) = t 732 (mf_top r t) - 2 := by rw [mf_taken_at, e321]; omega
  have t33 : ∀ i, mf_taken (mf_top r t) (mf_adv r t) 733 i = t 733 i := fun i => by rw [mf_taken_ne (by omega), a3 _ _ (by omega) (by omega)]
  have t332 : ∀ i, mf_taken (mf_top r t) (mf_taken (mf_top r t) (mf_adv r t)) 733 i = t 733 i := fun i => by rw [mf_taken_ne (by omega), t33]
  have hff : ∀ why tx, z_nd t tx r → tx 721 r = t 721 r + 1 → z_RO t (mf_fails r why tx) r ∧ z_S21 t (mf_fails r why tx) r := fun why tx q q1 => by
    have := (mf_fails_at (r := r) (why := why) (t := tx))
    exact ⟨z_nd_fails hx hr hr0 hr1 q q1 h2, by unfold z_S21; omega⟩
  unfold z_TO at k5
  unfold mf_st1
  by_cases o4 : mf_op r t = 4
  · rw [if_pos o4, hv1]
    have hd1 : 1 ≤ t 732 (mf_top r t) := by omega
    by_cases hv : -50 ≤ mf_val (mf_top r t) t ∧ mf_val (mf_top r t) t ≤ 50
    · rw [if_pos hv]
      have hp := z_nd_RP n2 hx hr hs hse (e1 _) h2 o4 rfl hv (by rw [mf_taken_ne (by omega)]; exact a2) (by rw [mf_taken_ne (by omega)]; exact a3 _ _ (by omega) (by omega)) e321 t33
      have x2 : z_MX (mf_taken (mf_top r t) (mf_adv r t)) r := z_nd_MX n2 hx hr0 hr1 hb
      have x0 : z_MX (mf_ask0 r (mf_taken (mf_top r t) (mf_adv r t))) r := z_ro_MX mf_ask0_ro x2
      have b2 : mf_ask0 r (mf_taken (mf_top r t) (mf_adv r t)) 722 r = t 722 r := by unfold mf_ask0; rw [z_up_ne (by omega), z_up_ne (by omega)]; exact n2 _ _ (by omega) (by omega) (by omega)
      have b3 : mf_ask0 r (mf_taken (mf_top r t) (mf_adv r t)) 721 r = mf_taken (mf_top r t) (mf_adv r t) 721 r := by unfold mf_ask0; rw [z_up_ne (by omega), z_up_ne (by omega)]
      have p0 := z_ro_RP (mf_ask0_ro (r := r)) x2.1 b3 (by rw [b2]; exact (n2 _ _ (by omega) (by omega) (by omega)).symm) hp
      have hok := mf_ask1_ok (w := 0) hr0 hr1 x0 p0 (by unfold mf_ask0; rw [z_up_eq])
      refine ⟨z_RO_of hok.1 (by unfold mf_ask0; rw [z_up_ne (by omega), z_up_ne (by omega)]; exact n2 _ _ (by omega) (by omega) (by omega)) b2, ?_, fun _ q => by omega⟩
      unfold z_S21
      rw [mf_ask_21, e1]
      omega
    · rw [if_neg hv]
      exact ⟨(hff 3 _ n2 (e1 _)).1, (hff 3 _ n2 (e1 _)).2, fun _ q => by omega⟩
  rw [if_neg o4]
  by_cases o12 : mf_op r t = 12
  · rw [if_pos o12, hv1]
    have hd1 : 1 ≤ t 732 (mf_top r t) := by omega
    have hq : mf_arg r t % 2 = 0 ∧ t 726 (mf_top r t) + 2 < mf_arg r t ∧ mf_arg r t < t 705 (t 725 (mf_top r t) / 101) ∧ ¬ t 704 (400 * (t 725 (mf_top r t) / 101) + (t 726 (mf_top r t) + 2)) = 13 ∧ ¬ t 704 (400 * (t 725 (mf_top r t) / 101) + mf_arg r t) = 13 := by omega
    generalize hp : (if mf_val (mf_top r t) t = 0 then mf_arg r t else t 726 (mf_top r t) + 2) = p
    have hpp : p = mf_arg r t ∨ p = t 726 (mf_top r t) + 2 := by
      by_cases hz : mf_val (mf_top r t) t = 0
      · rw [if_pos hz] at hp; exact Or.inl hp.symm
      · rw [if_neg hz] at hp; exact Or.inr hp.symm
    have n4 : z_nd t (z_up (mf_taken (mf_top r t) (mf_adv r t)) 726 (mf_top r t) p) r := fun a i c1 c2 c3 => by rw [z_up_ne (by omega)]; exact n2 a i c1 c2 c3
    have g26 : z_up (mf_taken (mf_top r t) (mf_adv r t)) 726 (mf_top r t) p 726 (mf_top r t) = p := z_up_eq
    have g : ∀ a i, ¬ a = 726 → z_up (mf_taken (mf_top r t) (mf_adv r t)) 726 (mf_top r t) p a i = mf_taken (mf_top r t) (mf_adv r t) a i := fun a i q => z_up_ne (by omega)
    obtain ⟨m1, m2⟩ := z_nd_HT n4 hs
    have m3 : z_up (mf_taken (mf_top r t) (mf_adv r t)) 726 (mf_top r t) p 719 r = 1 := by rw [n4 _ _ (by omega) (by omega) (by omega)]; exact h19
    have m4 : z_up (mf_taken (mf_top r t) (mf_adv r t)) 726 (mf_top r t) p 721 r = t 721 r + 1 := by rw [g _ _ (by omega)]; exact e1 _
    refine ⟨⟨z_nd_MX n4 hx hr0 hr1 hb, Or.inl ⟨m3, ?_, m1⟩, n4 _ _ (by omega) (by omega) (by omega), by rw [n4 _ _ (by omega) (by omega) (by omega)]; omega⟩, by unfold z_S21; omega, fun _ _ => ⟨?_, m3, m1⟩⟩
    · refine z_nd_RR n4 hx hr m4 h2 (by rw [g _ _ (by omega), e321]; omega) (fun O => ?_)
      have hFS : z_FS (z_up (mf_taken (mf_top r t) (mf_adv r t)) 726 (mf_top r t) p) (mf_top r t) = (p, z_ll (t 733) (64 * mf_top r t) (t 732 (mf_top r t) - 1).toNat, t 729 (mf_top r t), z_ll (t 731) (32 * mf_top r t) (t 730 (mf_top r t)).toNat) := by
        unfold z_FS
        rw [g26, g 732 _ (by omega), e321, g 729 _ (by omega), mf_taken_ne (by omega), a3 729 _ (by omega) (by omega), n4 730 _ (by omega) (by omega) (by omega), show z_up (mf_taken (mf_top r t) (mf_adv r t)) 726 (mf_top r t) p 731 = t 731 from funext fun i => n4 _ _ (by omega) (by omega) (by omega), show z_up (mf_taken (mf_top r t) (mf_adv r t)) 726 (mf_top r t) p 733 = t 733 from funext fun i => by rw [g _ _ (by omega)]; exact t33 i]
      rw [hFS]
      unfold z_sp z_sq z_FS
      dsimp only
      have hop : t 704 (400 * (t 725 (mf_top r t) / 101) + t 726 (mf_top r t)) = mf_op r t := rfl
      have har : t 704 (400 * (t 725 (mf_top r t) / 101) + t 726 (mf_top r t) + 1) = mf_arg r t := rfl
      rw [if_neg (by omega), hop, har, if_neg k2, if_pos o12, z_ll_top hd1]
      dsimp only
      rw [hp]
    · unfold z_SE
      rw [m2, g26, n4 725 _ (by omega) (by omega) (by omega), (z_nd_me n4).2.1, (z_nd_me n4).2.2]
      refine Or.inr ?_
      rcases hpp with rfl | rfl
      · exact ⟨hq.2.2.1, hq.2.2.2.2⟩
      · exact ⟨by omega, hq.2.2.2.1⟩
  rw [if_neg o12]
  have h3 : ¬ mf_op r t = 12 ∧ ¬ mf_op r t = 4 := ⟨o12, o4⟩
  have fin : ∀ {P : Prop} {tx : z_M}, z_RO t tx r ∧ z_S21 t tx r → z_RO t tx r ∧ z_S21 t tx r ∧ (¬ t 721 r = 2000 → mf_op r t = 12 → P) := fun q => ⟨q.1, q.2, fun _ q2 => absurd q2 o12⟩
  by_cases o2 : mf_op r t = 2
  · rw [if_pos o2]
    refine fin (mf_res_ok hx hr hr0 hr1 hs hse n1 a1 h2 h3 a2 (by rw [if_neg (by omega)]; exact a3 _ _ (by omega) (by omega)) e32 (by omega) (fun i => a3 _ _ (by omega) (by omega)) ?_ h19)
    unfold z_wk
    rw [if_neg (by omega), if_pos o2]
  rw [if_neg o2]
  by_cases o3 : mf_op r t = 3
  · rw [if_pos o3]
    have n4 : z_nd t (z_up (mf_adv r t) 729 (mf_top r t) (z_or (t 729 (mf_top r t)) (z_shl 1 (mf_arg r t)))) r := fun a i c1 c2 c3 => by rw [z_up_ne (by omega)]; exact n1 a i c1 c2 c3
    refine fin (mf_res_ok (m := t 732 (mf_top r t)) hx hr hr0 hr1 hs hse n4 (by rw [z_up_ne (by omega)]; exact a1) h2 h3 (by rw [z_up_ne (by omega)]; exact a2) (by rw [if_pos o3, z_up_eq]) (by rw [z_up_ne (by omega)]; exact e32) (by omega) (fun i => by rw [z_up_ne (by omega)]; exact a3 _ _ (by omega) (by omega)) ?_ h19)
    unfold z_wk
    rw [if_neg (by omega), if_neg (by omega), if_pos o3]
  rw [if_neg o3]
  by_cases o11 : mf_op r t = 11
  · rw [if_pos o11, hv1]
    refine fin (mf_res_ok hx hr hr0 hr1 hs hse n2 (e1 _) h2 h3 (by rw [mf_taken_ne (by omega)]; exact a2) (by rw [if_neg o3, mf_taken_ne (by omega)]; exact a3 _ _ (by omega) (by omega)) e321 (by omega) t33 ?_ h19)
    unfold z_wk
    rw [if_neg (by omega), if_neg o2, if_neg o3, z_ll_top (by omega)]
    dsimp only
    rw [if_pos o11]
  rw [if_neg o11]
  by_cases o1 : mf_op r t = 1
  · rw [if_pos o1]
    refine fin (mf_res_ok hx hr hr0 hr1 hs hse n1 a1 h2 h3 a2 (by rw [if_neg (by omega)]; exact a3 _ _ (by omega) (by omega)) e32 (by omega) (fun i => a3 _ _ (by omega) (by omega)) ?_ h19)
    unfold z_wk
    rw [if_pos o1]
  rw [if_neg o1]
  have hd2 : 2 ≤ t 732 (mf_top r t) := by omega
  have hv2 : mf_val (mf_top r t) (mf_taken (mf_top r t) (mf_adv r t)) = t 733 (64 * mf_top r t + (t 732 (mf_top r t) - 1) - 1) := by
    unfold mf_val; rw [e321, t33]
  rw [hv1]
  by_cases o8 : mf_op r t = 8 ∧ mf_val (mf_top r t) t = 0
  · rw [if_pos o8]
    exact fin (hff 2 _ n3 (e2 _))
  rw [if_neg o8]
  refine fin (mf_res_ok hx hr hr0 hr1 hs hse n3 (e2 _) h2 h3 (by rw [mf_taken_ne (by omega), mf_taken_ne (by omega)]; exact a2) (by rw [if_neg o3, mf_taken_ne (by omega), mf_taken_ne (by omega)]; exact a3 _ _ (by omega) (by omega)) e322 (by omega) t332 ?_ h19)
  unfold z_wk
  rw [if_neg o1, if_neg o2, if_neg o3, z_ll_top (by omega)]
  dsimp only
  rw [if_neg o11, show (t 732 (mf_top r t) - 1).toNat = (t 732 (mf_top r t) - 2).toNat + 1 by omega]
  show (match t 733 (64 * mf_top r t + (((t 732 (mf_top r t) - 2).toNat : Nat) : Int)) :: z_ll (t 733) (64 * mf_top r t) (t 732 (mf_top r t) - 2).toNat with
    | [] => none
    | l :: h2 => if mf_op r t = 8 ∧ mf_val (mf_top r t) t = 0 then none else some (z_jn (mf_op r t) l (mf_val (mf_top r t) t), h2)) = _
  dsimp only
  rw [if_neg o8, hv2, show 64 * mf_top r t + (((t 732 (mf_top r t) - 2).toNat : Nat) : Int) = 64 * mf_top r t + (t 732 (mf_top r t) - 1) - 1 by omega]
