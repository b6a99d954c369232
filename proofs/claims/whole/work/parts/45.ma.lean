/-! the reference: asking -/
def mf_ask0 (r : Int) (t : z_M) : z_M := z_up (z_up t 701 26 (z_wr (t 701 26 + 1))) 719 r 1
def mf_hit (key : Int) (t : z_M) : z_M := z_up (z_up (z_up t 717 0 (z_wr (t 717 0 + 1))) 711 key (t 701 26)) 712 key (z_wr (t 712 key + 1))
def mf_beg1 (r key : Int) (t : z_M) : z_M := z_up (z_up (z_up (z_up t 722 r (t 722 r + 1)) 725 (30 * r + t 722 r) key) 727 (30 * r + t 722 r) (t 721 r)) 728 (30 * r + t 722 r) (t 701 26)
def mf_beg (r key : Int) (t : z_M) : z_M := z_up (mf_clears (30 * r + t 722 r) (mf_beg1 r key t)) 717 1 (z_wr (t 717 1 + 1))
def mf_wait (r o key w : Int) (t : z_M) : z_M := z_up (z_up (z_up (z_up t 719 r 2) 723 r o) 724 r key) 717 6 (z_wr (t 717 6 + (if w = 0 then 1 else 0)))
def mf_ask1 (r key w : Int) (t : z_M) : z_M :=
  if ¬ t 707 key = 0 then mf_gt r key (t 708 key) (t 713 key) (mf_hit key t)
  else if mf_has t r key = true then mf_fails r 1 t
  else if ¬ r = 4 ∧ ¬ mf_tk t key r = -1 then (if mf_wal t r 4 (mf_tk t key r) = true then mf_fails r 1 t else mf_wait r (mf_tk t key r) key w t)
  else if t 722 r = 30 then mf_fails r 4 t
  else if t 705 (key / 101) = 0 then mf_fails r 5 t
  else mf_beg r key t
def mf_ask (r key w : Int) (t : z_M) : z_M := mf_ask1 r key w (mf_ask0 r t)
/-- only a runner's own numbers change -/
def z_ro (t t' : z_M) (r : Int) : Prop := ∀ a i, ¬ (a = 701 ∧ i = 26) → ¬ (719 ≤ a ∧ a ≤ 724 ∧ i = r) → ¬ a = 717 → ¬ a = 711 → ¬ a = 712 → t' a i = t a i
theorem z_ro_me {t t' : z_M} {r : Int} (h : z_ro t t' r) : z_me t t' := by
  refine ⟨?_, ?_, ?_⟩ <;> (funext i; exact h _ _ (by omega) (by omega) (by omega) (by omega) (by omega))
theorem z_ro_fe {t t' : z_M} {r : Int} (h : z_ro t t' r) (f : Int) : z_fe t t' f := z_fe_of fun a i x y => h a i (by omega) (by omega) (by omega) (by omega) (by omega)
theorem z_ro_MX {t t' : z_M} {r : Int} (h : z_ro t t' r) (hx : z_MX t r) : z_MX t' r :=
  z_MX_eq (z_ro_me h) hx (fun a k x y _ z1 z2 => h a k (by omega) (by omega) (by omega) z1 z2) (h _ _ (by omega) (by omega) (by omega) (by omega) (by omega)) (h _ _ (by omega) (by omega) (by omega) (by omega) (by omega)) (h _ _ (by omega) (by omega) (by omega) (by omega) (by omega)) (h _ _ (by omega) (by omega) (by omega) (by omega) (by omega)) (h _ _ (by omega) (by omega) (by omega) (by omega) (by omega)) (fun q q0 q1 q2 => ⟨fun a x y z => h a q (by omega) (by omega) (by omega) (by omega) (by omega), fun f _ _ => z_ro_fe h f⟩)
theorem z_ro_RP {t t' : z_M} {r key : Int} (h : z_ro t t' r) (hT : z_TT t) (h1 : t' 721 r = t 721 r) (h2 : t' 722 r = t 722 r) (hp : z_RP t r key) : z_RP t' r key := z_RP_re hT (z_ro_me h) h1 h2 (fun f _ _ => z_ro_fe h f) hp
theorem mf_ask0_ro {r : Int} {t : z_M} : z_ro t (mf_ask0 r t) r := fun a i h1 h2 _ _ _ => by unfold mf_ask0; rw [z_up_ne (by omega), z_up_ne (by omega)]
theorem mf_hit_ro {r key : Int} {t : z_M} : z_ro t (mf_hit key t) r := fun a i h1 h2 _ _ _ => by unfold mf_hit; rw [z_up_ne (by omega), z_up_ne (by omega), z_up_ne (by omega)]
theorem mf_fails_ro {r why : Int} {t : z_M} : z_ro t (mf_fails r why t) r := fun a i h1 h2 _ _ _ => by unfold mf_fails; rw [z_up_ne (by omega), z_up_ne (by omega), z_up_ne (by omega), z_up_ne (by omega)]
theorem mf_wait_ro {r o key w : Int} {t : z_M} : z_ro t (mf_wait r o key w t) r := fun a i h1 h2 _ _ _ => by unfold mf_wait; rw [z_up_ne (by omega), z_up_ne (by omega), z_up_ne (by omega), z_up_ne (by omega)]
theorem mf_fails_at {r why : Int} {t : z_M} : mf_fails r why t 719 r = 4 ∧ mf_fails r why t 722 r = 0 ∧ mf_fails r why t 721 r = t 721 r ∧ mf_fails r why t 720 r = -10000 - why := by
  unfold mf_fails
  refine ⟨?_, ?_, ?_, ?_⟩
  · rw [z_up_ne (by omega), z_up_ne (by omega), z_up_ne (by omega), z_up_eq]
  · rw [z_up_ne (by omega), z_up_eq]
  · rw [z_up_ne (by omega), z_up_ne (by omega), z_up_ne (by omega), z_up_ne (by omega)]
  · rw [z_up_ne (by omega), z_up_ne (by omega), z_up_eq]
theorem mf_wait_at {r o key w : Int} {t : z_M} : mf_wait r o key w t 719 r = 2 ∧ mf_wait r o key w t 723 r = o ∧ mf_wait r o key w t 724 r = key ∧ mf_wait r o key w t 721 r = t 721 r ∧ mf_wait r o key w t 722 r = t 722 r := by
  unfold mf_wait
  refine ⟨?_, ?_, ?_, ?_, ?_⟩
  · rw [z_up_ne (by omega), z_up_ne (by omega), z_up_ne (by omega), z_up_eq]
  · rw [z_up_ne (by omega), z_up_ne (by omega), z_up_eq]
  · rw [z_up_ne (by omega), z_up_eq]
  · rw [z_up_ne (by omega), z_up_ne (by omega), z_up_ne (by omega), z_up_ne (by omega)]
  · rw [z_up_ne (by omega), z_up_ne (by omega), z_up_ne (by omega), z_up_ne (by omega)]
/-- how a runner stands behind an asking or a step, before frames end -/
def z_RO (t t' : z_M) (r : Int) : Prop := z_MX t' r ∧ ((t' 719 r = 1 ∧ z_RR t' r ∧ z_HT t' r) ∨ (¬ t' 719 r = 1 ∧ z_RI t' r)) ∧ (t' 701 21 = t 701 21 ∧ t' 722 r ≤ t 722 r + 1)
theorem mf_fails_ok {r why : Int} {t : z_M} (hx : z_MX t r) (hs : 0 ≤ t 721 r ∧ t 721 r ≤ 2000) (hd : 0 ≤ t 722 r) : z_RO t (mf_fails r why t) r := by
  obtain ⟨a1, a2, a3, -⟩ := mf_fails_at (r := r) (why := why) (t := t)
  refine ⟨z_ro_MX mf_fails_ro hx, Or.inr ⟨by omega, Or.inr (Or.inr ⟨Or.inr (Or.inr a1), a2, by omega, by omega⟩)⟩, mf_fails_ro _ _ (by omega) (by omega) (by omega) (by omega) (by omega), by omega⟩
theorem mf_beg_ne {r key : Int} {t : z_M} {a i : Int} (h1 : ¬ (a = 722 ∧ i = r)) (h2 : ¬ (725 ≤ a ∧ a ≤ 732 ∧ ¬ a = 731 ∧ i = 30 * r + t 722 r)) (h3 : ¬ (a = 717 ∧ i = 1)) : mf_beg r key t a i = t a i := by
  unfold mf_beg mf_clears mf_beg1
  rw [z_up_ne (by omega), z_up_ne (by omega), z_up_ne (by omega), z_up_ne (by omega), z_up_ne (by omega), z_up_ne (by omega), z_up_ne (by omega), z_up_ne (by omega), z_up_ne (by omega)]
theorem mf_beg_at {r key : Int} {t : z_M} : let t' := mf_beg r key t; let f := 30 * r + t 722 r; t' 722 r = t 722 r + 1 ∧ t' 725 f = key ∧ t' 726 f = 0 ∧ t' 727 f = t 721 r ∧ t' 728 f = t 701 26 ∧ t' 729 f = z_shl 1 (12 + key / 101) ∧ t' 730 f = 0 ∧ t' 732 f = 0 := by
  have e25 : mf_beg1 r key t 725 (30 * r + t 722 r) = key := by unfold mf_beg1; rw [z_up_ne (by omega), z_up_ne (by omega), z_up_eq]
  unfold mf_beg mf_clears
  rw [e25]
  refine ⟨?_, ?_, ?_, ?_, ?_, ?_, ?_, ?_⟩
  · rw [z_up_ne (by omega), z_up_ne (by omega), z_up_ne (by omega), z_up_ne (by omega), z_up_ne (by omega)]; unfold mf_beg1; rw [z_up_ne (by omega), z_up_ne (by omega), z_up_ne (by omega), z_up_eq]
  · rw [z_up_ne (by omega), z_up_ne (by omega), z_up_ne (by omega), z_up_ne (by omega), z_up_ne (by omega), e25]
  · rw [z_up_ne (by omega), z_up_ne (by omega), z_up_ne (by omega), z_up_ne (by omega), z_up_eq]
  · rw [z_up_ne (by omega), z_up_ne (by omega), z_up_ne (by omega), z_up_ne (by omega), z_up_ne (by omega)]; unfold mf_beg1; rw [z_up_ne (by omega), z_up_eq]
  · rw [z_up_ne (by omega), z_up_ne (by omega), z_up_ne (by omega), z_up_ne (by omega), z_up_ne (by omega)]; unfold mf_beg1; rw [z_up_eq]
  · rw [z_up_ne (by omega), z_up_ne (by omega), z_up_ne (by omega), z_up_eq]
  · rw [z_up_ne (by omega), z_up_ne (by omega), z_up_eq]
  · rw [z_up_ne (by omega), z_up_eq]
theorem mf_beg_ok {r key : Int} {t : z_M} (hr0 : 0 ≤ r) (hr1 : r < 5) (hx : z_MX t r) (hp : z_RP t r key) (hd : ¬ t 722 r = 30) (hz : ¬ t 705 (key / 101) = 0) (h1 : t 719 r = 1) : z_RO t (mf_beg r key t) r ∧ z_SE (mf_beg r key t) r := by
  obtain ⟨b1, b2, b3, b4, b5⟩ := hp
  obtain ⟨c1, c2, c3, c4, c5, c6, c7, c8⟩ := mf_beg_at (r := r) (key := key) (t := t)
  have hm : z_me t (mf_beg r key t) := by refine ⟨?_, ?_, ?_⟩ <;> (funext i; exact mf_beg_ne (by omega) (by omega) (by omega))
  have hfo : ∀ f, ¬ f = 30 * r + t 722 r → z_fe t (mf_beg r key t) f := fun f hf => ⟨fun a x y z => mf_beg_ne (by omega) (by omega) (by omega), fun i _ _ => mf_beg_ne (by omega) (by omega) (by omega), fun i _ _ => mf_beg_ne (by omega) (by omega) (by omega)⟩
  have ht : mf_top r (mf_beg r key t) = 30 * r + t 722 r := by unfold mf_top; omega
  have h05 : mf_beg r key t 705 = t 705 := hm.2.2
  have h04 : mf_beg r key t 704 = t 704 := hm.2.1
  obtain ⟨R0, R1⟩ := z_kr b4.1 b4.2
  obtain ⟨t1, t2, t3, t4⟩ := hx.1.2 _ R0 R1
  refine ⟨⟨z_MX_eq hm hx (fun a k x y _ _ _ => mf_beg_ne (by omega) (by omega) (by omega)) (mf_beg_ne (by omega) (by omega) (by omega)) (mf_beg_ne (by omega) (by omega) (by omega)) (mf_beg_ne (by omega) (by omega) (by omega)) (mf_beg_ne (by omega) (by omega) (by omega)) (mf_beg_ne (by omega) (by omega) (by omega)) (fun q q0 q1 q2 => ⟨fun a x y z => mf_beg_ne (by omega) (by omega) (by omega), fun f x y => hfo f (by omega)⟩), Or.inl ⟨by rw [mf_beg_ne (by omega) (by omega) (by omega)]; exact h1, ?_, ?_⟩, mf_beg_ne (by omega) (by omega) (by omega), by omega⟩, ?_⟩
  · unfold z_RR
    rw [c1, mf_beg_ne (a := 721) (by omega) (by omega) (by omega)]
    refine ⟨by omega, b2, fun i i0 i1 => ?_, ?_⟩
    · by_cases hi : i + 1 = t 722 r
      · rw [show 30 * r + i + 1 = 30 * r + t 722 r by omega, c2]
        have := b5 (by omega)
        rw [show 30 * r + t 722 r - 1 = 30 * r + i by omega] at this
        exact z_FP_fe hx.1 hm (hfo _ (by omega)) this
      · rw [mf_beg_ne (by omega) (by omega) (by omega)]
        exact z_FP_fe hx.1 hm (hfo _ (by omega)) (b3 i i0 (by omega))
    · rw [show 30 * r + (t 722 r + 1) - 1 = 30 * r + t 722 r by omega]
      refine ⟨⟨by rw [c2]; exact b4, by rw [c8]; exact Int.le_refl _, by rw [c7]; exact Int.le_refl _⟩, 0, 0, ?_⟩
      unfold z_FS
      rw [c2, c3, c6, c7, c8]
      rfl
  · unfold z_HT; rw [ht, c2, h05]; exact hz
  · unfold z_SE
    rw [ht, c2, c3, h05, h04]
    exact Or.inr ⟨by omega, by rw [Int.add_zero]; exact (t4 hz).1⟩
theorem mf_tk_rng (t : z_M) (key but : Int) : mf_tk t key but = -1 ∨ (0 ≤ mf_tk t key but ∧ mf_tk t key but < 4 ∧ ¬ mf_tk t key but = but) := by
  rcases mf_tk_sp t key but with ⟨h, -⟩ | ⟨h1, h2, h3, -⟩
  · exact Or.inl h
  · exact Or.inr ⟨h1, h2, h3⟩
theorem mf_ask1_ok {r key w : Int} {t : z_M} (hr0 : 0 ≤ r) (hr1 : r < 5) (hx : z_MX t r) (hp : z_RP t r key) (h1 : t 719 r = 1) : z_RO t (mf_ask1 r key w t) r ∧ (t 707 key = 0 → mf_ask1 r key w t 719 r = 1 → z_SE (mf_ask1 r key w t) r) := by
  have hp0 := hp
  obtain ⟨b1, b2, b3, b4, b5⟩ := hp
  unfold mf_ask1
  have hf : ∀ why, z_RO t (mf_fails r why t) r ∧ (t 707 key = 0 → mf_fails r why t 719 r = 1 → z_SE (mf_fails r why t) r) := fun why => ⟨mf_fails_ok hx b2 b1.1, fun _ q => by rw [mf_fails_at.1] at q; omega⟩
  by_cases hk : t 707 key = 0
  · rw [if_neg (fun q => q hk)]
    by_cases hh : mf_has t r key = true
    · rw [if_pos hh]; exact hf 1
    rw [if_neg hh]
    by_cases ho : ¬ r = 4 ∧ ¬ mf_tk t key r = -1
    · rw [if_pos ho]
      by_cases hw : mf_wal t r 4 (mf_tk t key r) = true
      · rw [if_pos hw]; exact hf 1
      rw [if_neg hw]
      obtain ⟨c1, c2, c3, c4, c5⟩ := mf_wait_at (r := r) (o := mf_tk t key r) (key := key) (w := w) (t := t)
      have hq := (mf_tk_rng t key r).resolve_left ho.2
      refine ⟨⟨z_ro_MX mf_wait_ro hx, Or.inr ⟨by omega, Or.inr (Or.inl ⟨c1, by rw [c2]; exact ⟨hq.1, hq.2.1⟩, ?_⟩)⟩, mf_wait_ro _ _ (by omega) (by omega) (by omega) (by omega) (by omega), by omega⟩, fun _ q => by omega⟩
      rw [c3]
      exact z_ro_RP mf_wait_ro hx.1 c4 c5 hp0
    rw [if_neg ho]
    by_cases hd : t 722 r = 30
    · rw [if_pos hd]; exact hf 4
    rw [if_neg hd]
    by_cases hz : t 705 (key / 101) = 0
    · rw [if_pos hz]; exact hf 5
    rw [if_neg hz]
    obtain ⟨q1, q2⟩ := mf_beg_ok hr0 hr1 hx hp0 hd hz h1
    exact ⟨q1, fun _ _ => q2⟩
  · rw [if_pos hk]
    refine ⟨?_, fun q => absurd q hk⟩
    obtain ⟨-, -, -, -, n, hn⟩ := hx.2.2.2.2.1.1 key b4.1 b4.2 hk
    have hx1 : z_MX (mf_hit key t) r := z_ro_MX mf_hit_ro hx
    have h22 : mf_hit key t 722 r = t 722 r := by unfold mf_hit; rw [z_up_ne (by omega), z_up_ne (by omega), z_up_ne (by omega)]
    have h21 : mf_hit key t 721 r = t 721 r := by unfold mf_hit; rw [z_up_ne (by omega), z_up_ne (by omega), z_up_ne (by omega)]
    have h19 : mf_hit key t 719 r = t 719 r := by unfold mf_hit; rw [z_up_ne (by omega), z_up_ne (by omega), z_up_ne (by omega)]
    have hc : mf_hit key t 701 21 = t 701 21 := mf_hit_ro (r := r) _ _ (by omega) (by omega) (by omega) (by omega) (by omega)
    have hp1 : z_RP (mf_hit key t) r key := z_ro_RP (mf_hit_ro (r := r)) hx.1 h21 h22 hp0
    unfold mf_gt
    rw [h22]
    by_cases hd : t 722 r = 0
    · rw [if_pos hd]
      have k1 : ∀ a i, ¬ (a = 719 ∧ i = r) → ¬ (a = 720 ∧ i = r) → z_up (z_up (mf_hit key t) 719 r 3) 720 r (t 708 key) a i = mf_hit key t a i := fun a i h h2 => by rw [z_up_ne (by omega), z_up_ne (by omega)]
      have k2 : z_up (z_up (mf_hit key t) 719 r 3) 720 r (t 708 key) 719 r = 3 := by rw [z_up_ne (by omega), z_up_eq]
      refine ⟨mf_done_ok hr0 hx1, Or.inr ⟨by omega, Or.inr (Or.inr ⟨Or.inr (Or.inl k2), ?_, ?_, ?_⟩)⟩, ?_, ?_⟩
      · rw [k1 _ _ (by omega) (by omega), h22]; exact hd
      · rw [k1 _ _ (by omega) (by omega), h21]; exact b2.1
      · rw [k1 _ _ (by omega) (by omega), h21]; exact b2.2
      · rw [k1 _ _ (by omega) (by omega), hc]
      · rw [k1 _ _ (by omega) (by omega), h22]; omega
    · rw [if_neg hd]
      obtain ⟨g1, g2, g3⟩ := mf_give_ok (v := t 708 key) (u := t 713 key) hr0 hr1 hx1 hp1 (by rw [h22]; exact hd) ⟨n, _, by rw [z_me_ev (z_ro_me (mf_hit_ro (r := r)))]; exact hn⟩
      refine ⟨g1, Or.inl ⟨by rw [g3 _ _ (by omega), h19]; exact h1, g2, ?_⟩, by rw [g3 _ _ (by omega), hc], by rw [g3 _ _ (by omega), h22]; omega⟩
      have h5 := z_FP_text hx.1 (b5 hd)
      unfold z_HT mf_top
      rw [g3 722 r (by omega), h22, g3 725 _ (by omega), g3 705 _ (by omega), mf_hit_ro (r := r) 725 _ (by omega) (by omega) (by omega) (by omega) (by omega), mf_hit_ro (r := r) 705 _ (by omega) (by omega) (by omega) (by omega) (by omega)]
      exact h5
