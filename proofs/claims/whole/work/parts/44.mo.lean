/-! the reference: what goesOn leaves -/
theorem mf_jmp_ends {r : Int} {t : z_M} (hx : z_MX t r) (h : z_RR t r) : ¬ (mf_jmp r t 726 (mf_top r t) < t 705 (t 725 (mf_top r t) / 101) ∧ t 704 (400 * (t 725 (mf_top r t) / 101) + mf_jmp r t 726 (mf_top r t)) = 13) := by
  have hfr := h.2.2.2
  rw [show 30 * r + t 722 r - 1 = mf_top r t from rfl] at hfr
  obtain ⟨s1, -⟩ := z_FR_sz hx.1 hfr
  obtain ⟨⟨⟨k0, k1⟩, -⟩, -⟩ := hfr
  obtain ⟨R0, R1⟩ := z_kr k0 k1
  rw [show mf_jmp r t 726 (mf_top r t) = mf_jp t (t 725 (mf_top r t) / 101) 101 (t 726 (mf_top r t)) from z_up_eq]
  exact (mf_jp_end (hx.1.2 _ R0 R1) 101 _ s1.1 s1.2.1 s1.2.2.2.2 (by omega)).2
theorem mf_go_ok {r : Int} (hr0 : 0 ≤ r) (hr1 : r < 5) : ∀ (n : Nat) (t : z_M), z_MX t r → z_RR t r → z_HT t r → t 722 r ≤ (n : Int) → t 719 r = 1 →
    z_MX (mf_go n r t) r ∧ z_RI (mf_go n r t) r ∧ (mf_go n r t 719 r = 1 ∧ z_HT (mf_go n r t) r ∨ mf_go n r t 719 r = 3) ∧ (t 701 21 ≤ mf_go n r t 701 21 ∧ mf_go n r t 701 21 + mf_go n r t 722 r ≤ t 701 21 + t 722 r) ∧ mf_go n r t 721 r = t 721 r
  | 0, t, hx, hr, hs, hn, h1 => by have := hr.1; omega
  | n + 1, t, hx, hr, hs, hn, h1 => by
    obtain ⟨j1, j2, j3⟩ := mf_jmp_ok hr0 hr1 hx hr
    have hb := hr.1
    have jt : mf_top r (mf_jmp r t) = mf_top r t := mf_jmp_top
    have j22 : mf_jmp r t 722 r = t 722 r := j3 _ _ (by omega)
    have j21 : mf_jmp r t 701 21 = t 701 21 := j3 _ _ (by omega)
    have j19 : mf_jmp r t 719 r = t 719 r := j3 _ _ (by omega)
    have js : mf_jmp r t 721 r = t 721 r := j3 _ _ (by omega)
    have j25 : mf_jmp r t 725 (mf_top r t) = t 725 (mf_top r t) := j3 _ _ (by omega)
    have j05 : mf_jmp r t 705 = t 705 := funext fun i => j3 _ _ (by omega)
    have j04 : mf_jmp r t 704 = t 704 := funext fun i => j3 _ _ (by omega)
    have hft : z_HT (mf_jmp r t) r := by unfold z_HT; rw [jt, j05, j25]; exact hs
    unfold mf_go
    by_cases w : t 705 (t 725 (mf_top r t) / 101) ≤ mf_jmp r t 726 (mf_top r t)
    · rw [if_pos w]
      have hff : mf_fin r (mf_jmp r t) := by unfold mf_fin; rw [jt, j05, j25]; exact w
      by_cases hd : t 722 r = 1
      · rw [if_pos hd, mf_end_last (by rw [j22]; exact hd)]
        obtain ⟨p1, p2, p3, p4, p5, p6, p7⟩ := mf_pop_ok hr0 hr1 j1 j2 hft hff
        generalize mf_val (mf_top r (mf_jmp r t)) (mf_jmp r t) = v
        have k1 : ∀ a i, ¬ (a = 719 ∧ i = r) → ¬ (a = 720 ∧ i = r) → z_up (z_up (mf_pop r (mf_jmp r t)) 719 r 3) 720 r v a i = mf_pop r (mf_jmp r t) a i := fun a i h h2 => by rw [z_up_ne (by omega), z_up_ne (by omega)]
        have k2 : z_up (z_up (mf_pop r (mf_jmp r t)) 719 r 3) 720 r v 719 r = 3 := by rw [z_up_ne (by omega), z_up_eq]
        have hst := p2.2.1
        refine ⟨mf_done_ok hr0 p1, Or.inr (Or.inr ⟨Or.inr (Or.inl k2), by rw [k1 _ _ (by omega) (by omega)]; omega, by rw [k1 _ _ (by omega) (by omega)]; exact hst.1, by rw [k1 _ _ (by omega) (by omega)]; exact hst.2⟩), Or.inr k2, ?_, by rw [k1 _ _ (by omega) (by omega), p6, js]⟩
        rw [k1 701 21 (by omega) (by omega), k1 722 r (by omega) (by omega)]
        omega
      · rw [if_neg hd]
        obtain ⟨m1, m2, m3, m4, m5, m6, m7⟩ := mf_end_ok hr0 hr1 j1 j2 hft hff (by rw [j22]; exact hd)
        obtain ⟨q1, q2, q3, q4, q5⟩ := mf_go_ok hr0 hr1 n _ m1 m2 m3 (by omega) (by rw [m7, j19]; exact h1)
        exact ⟨q1, q2, q3, by omega, by rw [q5, m6, js]⟩
    · rw [if_neg w]
      have he := mf_jmp_ends hx hr
      refine ⟨j1, Or.inl ⟨by rw [j19]; exact h1, j2, Or.inr ?_⟩, Or.inl ⟨by rw [j19]; exact h1, hft⟩, by omega, js⟩
      rw [jt, j05, j25, j04]
      omega
/-- a runner whose top frame is at a node goes nowhere -/
theorem mf_go_id {r : Int} {n : Nat} {t : z_M} (hs : z_HT t r) (h : z_SE t r) : mf_go (n + 1) r t = t := by
  rcases h with h | ⟨h1, h2⟩
  · exact absurd h hs
  have hj : mf_jmp r t = t := by
    unfold mf_jmp
    rw [show mf_jp t (t 725 (mf_top r t) / 101) 101 (t 726 (mf_top r t)) = t 726 (mf_top r t) from if_neg (fun q => h2 q.2)]
    exact z_up_self
  unfold mf_go
  rw [hj, if_neg (by omega)]
/-- the ends of frames, where a runner runs -/
def mf_set (r : Int) (t : z_M) : z_M := if t 719 r = 1 then mf_go 30 r t else t
