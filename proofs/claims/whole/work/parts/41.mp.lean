/-! the reference: jumps, ends of frames -/
def mf_jp (t : z_M) (R : Int) : Nat → Int → Int
  | 0, p => p
  | n + 1, p => if p < t 705 R ∧ t 704 (400 * R + p) = 13 then mf_jp t R n (t 704 (400 * R + p + 1)) else p
def mf_jmp (r : Int) (t : z_M) : z_M := z_up t 726 (mf_top r t) (mf_jp t (t 725 (mf_top r t) / 101) 101 (t 726 (mf_top r t)))
def mf_gt (r key v u : Int) (t : z_M) : z_M := if t 722 r = 0 then z_up (z_up t 719 r 3) 720 r v else mf_give r key v u t
def mf_val (f : Int) (t : z_M) : Int := t 733 (64 * f + t 732 f - 1)
def mf_pop (r : Int) (t : z_M) : z_M := z_up (mf_keeps r (mf_top r t) (mf_val (mf_top r t) t) (mf_taken (mf_top r t) t)) 722 r (t 722 r - 1)
def mf_end (r : Int) (t : z_M) : z_M := mf_gt r (t 725 (mf_top r t)) (mf_val (mf_top r t) t) (t 729 (mf_top r t)) (mf_pop r t)
def mf_fin (r : Int) (t : z_M) : Prop := t 705 (t 725 (mf_top r t) / 101) ≤ t 726 (mf_top r t)
theorem z_it_jp {t : z_M} {O : z_Or} {k u : Int} {h a : List Int} : ∀ (n j : Nat) (p : Int), z_it t O k j = some (p, h, u, a) → ∃ j', z_it t O k j' = some (mf_jp t (k / 101) n p, h, u, a)
  | 0, j, p, e => ⟨j, e⟩
  | n + 1, j, p, e => by
    unfold mf_jp
    by_cases hq : p < t 705 (k / 101) ∧ t 704 (400 * (k / 101) + p) = 13
    · rw [if_pos hq]
      refine z_it_jp n (j + 1) _ ?_
      show (z_it t O k j).bind _ = _
      rw [e]
      show z_sp t O k (p, h, u, a) = _
      unfold z_sp z_sq
      rw [if_neg (by dsimp only; omega), if_pos hq.2]
    · rw [if_neg hq]; exact ⟨j, e⟩
theorem mf_jp_end {t : z_M} {R : Int} (hT : z_TI t R) : ∀ (n : Nat) (p : Int), 0 ≤ p → p ≤ t 705 R → p % 2 = 0 → t 705 R - p ≤ 2 * (n : Int) → (0 ≤ mf_jp t R n p ∧ mf_jp t R n p ≤ t 705 R ∧ mf_jp t R n p % 2 = 0) ∧ ¬ (mf_jp t R n p < t 705 R ∧ t 704 (400 * R + mf_jp t R n p) = 13)
  | 0, p, h0, h1, h2, h3 => by unfold mf_jp; omega
  | n + 1, p, h0, h1, h2, h3 => by
    unfold mf_jp
    by_cases hq : p < t 705 R ∧ t 704 (400 * R + p) = 13
    · rw [if_pos hq]
      obtain ⟨-, -, D, hD⟩ := hT.2.2.2 (by omega)
      have hTO := hD.2.2.2 p h0 hq.1 h2
      rw [hq.2] at hTO
      unfold z_TO at hTO
      exact mf_jp_end hT n _ (by omega) (by omega) (by omega) (by omega)
    · rw [if_neg hq]; exact ⟨⟨h0, h1, h2⟩, hq⟩
theorem mf_jmp_ne {r : Int} {t : z_M} {a i : Int} (h : ¬ a = 726 ∨ ¬ i = mf_top r t) : mf_jmp r t a i = t a i := z_up_ne h
theorem mf_jmp_me {r : Int} {t : z_M} : z_me t (mf_jmp r t) := by
  refine ⟨?_, ?_, ?_⟩ <;> (funext i; exact mf_jmp_ne (Or.inl (by decide)))
theorem z_fe_of {t t' : z_M} {f : Int} (h : ∀ a i, 725 ≤ a → a ≤ 733 → t' a i = t a i) : z_fe t t' f :=
  ⟨fun a x y _ => h a f x (by omega), fun i _ _ => h 731 _ (by omega) (by omega), fun i _ _ => h 733 _ (by omega) (by omega)⟩
theorem z_KK_eq {t t' : z_M} (hm : z_me t t') (h : z_KK t) (h0 : ∀ a k, 707 ≤ a → a ≤ 716 → ¬ a = 709 → ¬ a = 711 → ¬ a = 712 → t' a k = t a k) (h2 : t 701 21 ≤ t' 701 21) : z_KK t' := by
  obtain ⟨a, b⟩ := h
  refine ⟨fun k k0 k1 k2 => ?_, fun k k' k0 k1 k2 k3 k4 k5 k6 => ?_⟩
  · rw [h0 707 k (by omega) (by omega) (by omega) (by omega) (by omega)] at k2
    exact z_KR_eq hm (a k k0 k1 k2) (fun a x y z1 z2 z3 => h0 a k x (by omega) z1 z2 z3) (fun i _ _ => h0 716 _ (by omega) (by omega) (by omega) (by omega) (by omega)) h2
  · rw [h0 707 k (by omega) (by omega) (by omega) (by omega) (by omega)] at k4
    rw [h0 707 k' (by omega) (by omega) (by omega) (by omega) (by omega)] at k5
    rw [h0 714 k (by omega) (by omega) (by omega) (by omega) (by omega), h0 714 k' (by omega) (by omega) (by omega) (by omega) (by omega)] at k6
    exact b k k' k0 k1 k2 k3 k4 k5 k6
/-- everything but a runner stays, where only that runner's rows change -/
theorem z_MX_eq {t t' : z_M} {r : Int} (hm : z_me t t') (h : z_MX t r) (h0 : ∀ a k, 707 ≤ a → a ≤ 716 → ¬ a = 709 → ¬ a = 711 → ¬ a = 712 → t' a k = t a k) (h1 : t' 701 21 = t 701 21) (h2 : t' 701 22 = t 701 22) (h3 : t' 701 23 = t 701 23) (h4 : t' 701 24 = t 701 24) (h5 : t' 701 30 = t 701 30) (hr : ∀ q, 0 ≤ q → q < 4 → ¬ q = r → z_re t t' q) : z_MX t' r := by
  obtain ⟨a1, a2, a3, a4, a5, a6⟩ := h
  refine ⟨z_me_TT hm a1, z_sumx_congr a2 (fun k => h0 707 k (by omega) (by omega) (by omega) (by omega) (by omega)) (fun k => h0 710 k (by omega) (by omega) (by omega) (by omega) (by omega)) h2 h3 h5, by rw [h4]; exact a3, by rw [h1]; exact a4, z_KK_eq hm a5 h0 (by rw [h1]; exact Int.le_refl _), fun q q0 q1 q2 => z_RI_re a1 hm (hr q q0 q1 q2) (a6 q q0 q1 q2)⟩
theorem mf_jmp_ok {r : Int} {t : z_M} (hr0 : 0 ≤ r) (hr1 : r < 5) (hx : z_MX t r) (h : z_RR t r) : z_MX (mf_jmp r t) r ∧ z_RR (mf_jmp r t) r ∧ (∀ a i, ¬ a = 726 → mf_jmp r t a i = t a i) := by
  have hne : ∀ a i, ¬ a = 726 → mf_jmp r t a i = t a i := fun a i ha => mf_jmp_ne (Or.inl ha)
  have hd := h.1
  have ht : mf_top r t = 30 * r + t 722 r - 1 := rfl
  have hfo : ∀ f, ¬ f = mf_top r t → z_fe t (mf_jmp r t) f := fun f hf => ⟨fun a x y z => mf_jmp_ne (Or.inr hf), fun i _ _ => hne _ _ (by omega), fun i _ _ => hne _ _ (by omega)⟩
  refine ⟨z_MX_eq mf_jmp_me hx (fun a k x y _ _ _ => hne a k (by omega)) (hne _ _ (by omega)) (hne _ _ (by omega)) (hne _ _ (by omega)) (hne _ _ (by omega)) (hne _ _ (by omega)) (fun q q0 q1 q2 => ⟨fun a x y z => hne a q (by omega), fun f x y => hfo f (by omega)⟩), ?_, hne⟩
  obtain ⟨b1, b2, b3, b4⟩ := h
  unfold z_RR
  rw [hne 722 r (by omega), hne 721 r (by omega)]
  refine ⟨b1, b2, fun i i0 i1 => ?_, ?_⟩
  · rw [hne 725 _ (by omega)]
    exact z_FP_fe hx.1 mf_jmp_me (hfo _ (by omega)) (b3 i i0 i1)
  · rw [← ht] at b4 ⊢
    obtain ⟨⟨c1, c2, c3⟩, n, j, e⟩ := b4
    refine ⟨⟨by rw [hne 725 _ (by omega)]; exact c1, by rw [hne 732 _ (by omega)]; exact c2, by rw [hne 730 _ (by omega)]; exact c3⟩, ?_⟩
    have e2 : z_FS (mf_jmp r t) (mf_top r t) = (mf_jp t (t 725 (mf_top r t) / 101) 101 (t 726 (mf_top r t)), (z_FS t (mf_top r t)).2) := by
      unfold z_FS
      rw [hne 732 _ (by omega), hne 729 _ (by omega), hne 730 _ (by omega), show mf_jmp r t 726 (mf_top r t) = mf_jp t (t 725 (mf_top r t) / 101) 101 (t 726 (mf_top r t)) from z_up_eq, show mf_jmp r t 733 = t 733 from funext fun i => hne _ _ (by omega), show mf_jmp r t 731 = t 731 from funext fun i => hne _ _ (by omega)]
    obtain ⟨j', e3⟩ := z_it_jp 101 j _ e
    refine ⟨n, j', ?_⟩
    rw [z_me_ev mf_jmp_me, z_me_it mf_jmp_me, e2, hne 725 _ (by omega)]
    exact e3
/-! keeping -/
theorem mf_goes_ne {k : Int} {t : z_M} {a i : Int} (h : ¬ a = 707) (h2 : ¬ (a = 701 ∧ (i = 22 ∨ i = 23))) : mf_goes k t a i = t a i := by
  unfold mf_goes; rw [z_up_ne (by omega), z_up_ne (by omega), z_up_ne (by omega)]
theorem mf_bd1_ne {t : z_M} {a i : Int} (h : ¬ a = 707) (h2 : ¬ (a = 701 ∧ (i = 22 ∨ i = 23))) (h3 : ¬ (a = 717 ∧ i = 4)) : mf_bd1 t a i = t a i := by
  unfold mf_bd1; rw [z_up_ne (by omega)]; exact mf_goes_ne h h2
theorem mf_hold_ne {a i : Int} (h : ¬ a = 707) (h2 : ¬ (a = 701 ∧ (i = 22 ∨ i = 23))) (h3 : ¬ (a = 717 ∧ i = 4)) : ∀ (n : Nat) (t : z_M), mf_hold n t a i = t a i
  | 0, t => rfl
  | n + 1, t => by
    unfold mf_hold
    split
    · rfl
    · split
      · rfl
      · rw [mf_hold_ne h h2 h3 n, mf_bd1_ne h h2 h3]
theorem mf_bd1_707 {t : z_M} {k : Int} : mf_bd1 t 707 k = if k = mf_lw t 1212 then 0 else t 707 k := by
  unfold mf_bd1 mf_goes
  rw [z_up_ne (by omega), z_up_ne (by omega), z_up_ne (by omega), z_upd]
  by_cases hk : k = mf_lw t 1212
  · rw [if_pos ⟨rfl, hk⟩, if_pos hk]
  · rw [if_neg (fun q => hk q.2), if_neg hk]
theorem mf_hold_707 {k : Int} : ∀ (n : Nat) (t : z_M), mf_hold n t 707 k = 0 ∨ mf_hold n t 707 k = t 707 k
  | 0, t => Or.inr rfl
  | n + 1, t => by
    unfold mf_hold
    split
    · exact Or.inr rfl
    · split
      · exact Or.inr rfl
      · rcases mf_hold_707 n (mf_bd1 t) (k := k) with h | h
        · exact Or.inl h
        · rw [h, mf_bd1_707]
          split
          · exact Or.inl rfl
          · exact Or.inr rfl
/-- rows that go leave the others -/
theorem z_KK_less {t t' : z_M} (hm : z_me t t') (h : z_KK t) (h0 : ∀ a k, 708 ≤ a → a ≤ 716 → ¬ a = 709 → ¬ a = 711 → ¬ a = 712 → t' a k = t a k) (h7 : ∀ k, t' 707 k = 0 ∨ t' 707 k = t 707 k) (h2 : t 701 21 ≤ t' 701 21) : z_KK t' := by
  obtain ⟨a, b⟩ := h
  have h77 : ∀ k, ¬ t' 707 k = 0 → t' 707 k = t 707 k := fun k hk => (h7 k).resolve_left hk
  refine ⟨fun k k0 k1 k2 => ?_, fun k k' k0 k1 k2 k3 k4 k5 k6 => ?_⟩
  · have h78 := h77 k k2
    rw [h78] at k2
    exact z_KR_eq hm (a k k0 k1 k2) (fun a x y z1 z2 z3 => by
      by_cases ha : a = 707
      · rw [ha]; exact h78
      · exact h0 a k (by omega) (by omega) z1 z2 z3) (fun i _ _ => h0 716 _ (by omega) (by omega) (by omega) (by omega) (by omega)) h2
  · rw [h77 k k4] at k4
    rw [h77 k' k5] at k5
    rw [h0 714 k (by omega) (by omega) (by omega) (by omega) (by omega), h0 714 k' (by omega) (by omega) (by omega) (by omega) (by omega)] at k6
    exact b k k' k0 k1 k2 k3 k4 k5 k6
theorem mf_keep0_ne {r f v : Int} {t : z_M} {a i : Int} (h : ¬ (707 ≤ a ∧ a ≤ 716)) (h2 : ¬ (a = 701 ∧ 21 ≤ i ∧ i ≤ 23)) (h3 : ¬ (a = 717 ∧ i = 5)) : mf_keep0 r f v t a i = t a i := by
  unfold mf_keep0 mf_keep2
  rw [z_up_ne (by omega), z_up_ne (by omega), z_up_ne (by omega), z_up_ne (by omega), z_up_ne (by omega), mf_cpa_ne (by omega)]
  unfold mf_keep1
  rw [z_up_ne (by omega), z_up_ne (by omega), z_up_ne (by omega), z_up_ne (by omega), z_up_ne (by omega), z_up_ne (by omega), z_up_ne (by omega), z_up_ne (by omega)]
theorem mf_keeps_ne {r f v : Int} {t : z_M} {a i : Int} (h : ¬ (707 ≤ a ∧ a ≤ 716)) (h2 : ¬ (a = 701 ∧ 21 ≤ i ∧ i ≤ 23)) (h3 : ¬ (a = 717 ∧ (i = 4 ∨ i = 5))) : mf_keeps r f v t a i = t a i := by
  unfold mf_keeps
  split
  · rw [mf_hold_ne (by omega) (by omega) (by omega), mf_keep0_ne h h2 (by omega)]
  · rfl
theorem mf_keep0_row {r f v : Int} {t : z_M} {k : Int} (hk : ¬ k = t 725 f) {a : Int} (h : 707 ≤ a) (h2 : a ≤ 715) : mf_keep0 r f v t a k = t a k := by
  unfold mf_keep0 mf_keep2
  rw [z_up_ne (by omega), z_up_ne (by omega), z_up_ne (by omega), z_up_ne (by omega), z_up_ne (by omega), mf_cpa_ne (by omega)]
  unfold mf_keep1
  rw [z_up_ne (by omega), z_up_ne (by omega), z_up_ne (by omega), z_up_ne (by omega), z_up_ne (by omega), z_up_ne (by omega), z_up_ne (by omega), z_up_ne (by omega)]
theorem mf_cpa_in {key f i : Int} {t : z_M} : ∀ (n : Nat), 0 ≤ i → i < (n : Int) → mf_cpa key f n t 716 (32 * key + i) = t 731 (32 * f + i)
  | 0, h0, h1 => by omega
  | n + 1, h0, h1 => by
    unfold mf_cpa
    by_cases hi : i = (n : Int)
    · subst hi; rw [z_up_eq]
    · rw [z_up_ne (by omega)]; exact mf_cpa_in n h0 (by omega)
theorem mf_cpa_out {key f i : Int} {t : z_M} : ∀ (n : Nat), (i < 32 * key ∨ 32 * key + (n : Int) ≤ i) → mf_cpa key f n t 716 i = t 716 i
  | 0, h0 => rfl
  | n + 1, h0 => by
    unfold mf_cpa
    rw [z_up_ne (by omega)]; exact mf_cpa_out n (by omega)
/-- the row of a key that comes -/
theorem mf_keep0_new {r f v : Int} {t : z_M} : let t' := mf_keep0 r f v t; let k := t 725 f; t' 707 k = 1 ∧ t' 708 k = v ∧ t' 709 k = z_wr (t 721 r - t 727 f) ∧ t' 710 k = 2 + z_dig v + t 730 f ∧ t' 711 k = t 728 f ∧ t' 712 k = 1 ∧ t' 713 k = t 729 f ∧ t' 714 k = t 701 21 + 1 ∧ t' 715 k = t 730 f ∧ t' 701 21 = t 701 21 + 1 := by
  have g : ∀ a i, ¬ a = 716 → mf_cpa (t 725 f) f (t 730 f).toNat (mf_keep1 r f v t) a i = mf_keep1 r f v t a i := fun a i ha => mf_cpa_ne ha _
  have g21 : mf_cpa (t 725 f) f (t 730 f).toNat (mf_keep1 r f v t) 701 21 = t 701 21 := by rw [g _ _ (by omega)]; unfold mf_keep1; simp [z_upd]
  refine ⟨?_, ?_, ?_, ?_, ?_, ?_, ?_, ?_, ?_, ?_⟩
  · unfold mf_keep0 mf_keep2
    rw [z_up_ne (by omega), z_up_ne (by omega), z_up_ne (by omega), z_up_ne (by omega), z_up_ne (by omega), g _ _ (by omega)]
    unfold mf_keep1; simp [z_upd]
  · unfold mf_keep0 mf_keep2
    rw [z_up_ne (by omega), z_up_ne (by omega), z_up_ne (by omega), z_up_ne (by omega), z_up_ne (by omega), g _ _ (by omega)]
    unfold mf_keep1; simp [z_upd]
  · unfold mf_keep0 mf_keep2
    rw [z_up_ne (by omega), z_up_ne (by omega), z_up_ne (by omega), z_up_ne (by omega), z_up_ne (by omega), g _ _ (by omega)]
    unfold mf_keep1; simp [z_upd]
  · unfold mf_keep0 mf_keep2
    rw [z_up_ne (by omega), z_up_ne (by omega), z_up_ne (by omega), z_up_ne (by omega), z_up_ne (by omega), g _ _ (by omega)]
    unfold mf_keep1; simp [z_upd]
  · unfold mf_keep0 mf_keep2
    rw [z_up_ne (by omega), z_up_ne (by omega), z_up_ne (by omega), z_up_ne (by omega), z_up_ne (by omega), g _ _ (by omega)]
    unfold mf_keep1; simp [z_upd]
  · unfold mf_keep0 mf_keep2
    rw [z_up_ne (by omega), z_up_ne (by omega), z_up_ne (by omega), z_up_ne (by omega), z_up_ne (by omega), g _ _ (by omega)]
    unfold mf_keep1; simp [z_upd]
  · unfold mf_keep0 mf_keep2
    rw [z_up_ne (by omega), z_up_ne (by omega), z_up_ne (by omega), z_up_ne (by omega), z_up_ne (by omega), g _ _ (by omega)]
    unfold mf_keep1; simp [z_upd]
  · unfold mf_keep0 mf_keep2
    rw [z_up_ne (by omega), z_up_ne (by omega), z_up_ne (by omega), z_up_eq, g21]
  · unfold mf_keep0 mf_keep2
    rw [z_up_ne (by omega), z_up_ne (by omega), z_up_ne (by omega), z_up_ne (by omega), z_up_ne (by omega), g _ _ (by omega)]
    unfold mf_keep1; simp [z_upd]
  · unfold mf_keep0 mf_keep2
    rw [z_up_ne (by omega), z_up_ne (by omega), z_up_ne (by omega), z_up_ne (by omega), z_up_eq, g21]
theorem mf_keep0_716 {r f v : Int} {t : z_M} (i : Int) : mf_keep0 r f v t 716 i = mf_cpa (t 725 f) f (t 730 f).toNat (mf_keep1 r f v t) 716 i := by
  unfold mf_keep0 mf_keep2
  rw [z_up_ne (by omega), z_up_ne (by omega), z_up_ne (by omega), z_up_ne (by omega), z_up_ne (by omega)]
theorem mf_keep1_hi {r f v : Int} {t : z_M} {a i : Int} (h : 716 ≤ a) : mf_keep1 r f v t a i = t a i := by
  unfold mf_keep1
  rw [z_up_ne (by omega), z_up_ne (by omega), z_up_ne (by omega), z_up_ne (by omega), z_up_ne (by omega), z_up_ne (by omega), z_up_ne (by omega), z_up_ne (by omega)]
theorem mf_keep0_KK {r f v : Int} {t : z_M} (h : z_KK t) (hc : 0 ≤ t 701 21) (hf : 0 ≤ t 725 f ∧ t 725 f < 1212) (hn : 0 ≤ t 730 f) (hn1 : t 730 f ≤ 25) (h25 : ∀ k, 0 ≤ k → k < 1212 → ¬ t 707 k = 0 → t 715 k ≤ 25) (hev : ∃ n, z_ev t n (t 725 f) = some (v, t 729 f, z_ll (t 731) (32 * f) (t 730 f).toNat)) : z_KK (mf_keep0 r f v t) := by
  obtain ⟨a, b⟩ := h
  have hm : z_me t (mf_keep0 r f v t) := by
    refine ⟨?_, ?_, ?_⟩ <;> (funext i; exact mf_keep0_ne (by omega) (by omega) (by omega))
  obtain ⟨c1, c2, c3, c4, c5, c6, c7, c8, c9, c10⟩ := mf_keep0_new (r := r) (f := f) (v := v) (t := t)
  have hrow : ∀ k, ¬ k = t 725 f → ∀ a, 707 ≤ a → a ≤ 715 → mf_keep0 r f v t a k = t a k := fun k hk a x y => mf_keep0_row hk x y
  refine ⟨fun k k0 k1 k2 => ?_, fun k k' k0 k1 k2 k3 k4 k5 k6 => ?_⟩
  · by_cases hk : k = t 725 f
    · subst hk
      refine ⟨c1, by rw [c9]; exact hn, by rw [c4, c2, c9], ⟨by rw [c8]; omega, by rw [c8, c10]; exact Int.le_refl _⟩, ?_⟩
      obtain ⟨n, e⟩ := hev
      refine ⟨n, ?_⟩
      rw [z_me_ev hm, e, c2, c7, c9]
      rw [z_ll_congr (g := t 731) (g' := mf_keep0 r f v t 716) (b := 32 * f) (b' := 32 * t 725 f) (t 730 f).toNat (fun i i0 i1 => by
        rw [mf_keep0_716, mf_cpa_in _ i0 i1]; exact mf_keep1_hi (by omega))]
    · rw [hrow k hk 707 (by omega) (by omega)] at k2
      have h5 := h25 k k0 k1 k2
      refine z_KR_eq hm (a k k0 k1 k2) (fun a x y _ _ _ => hrow k hk a x y) (fun i i0 i1 => ?_) (by rw [c10]; omega)
      rw [mf_keep0_716, mf_cpa_out _ (by omega)]
      exact mf_keep1_hi (by omega)
  · by_cases hk : k = t 725 f
    · by_cases hk' : k' = t 725 f
      · omega
      · rw [hrow k' hk' 707 (by omega) (by omega)] at k5
        rw [hrow k' hk' 714 (by omega) (by omega), hk, c8] at k6
        have := (a k' k2 k3 k5).2.2.2.1.2
        omega
    · rw [hrow k hk 707 (by omega) (by omega)] at k4
      by_cases hk' : k' = t 725 f
      · rw [hrow k hk 714 (by omega) (by omega), hk', c8] at k6
        have := (a k k0 k1 k4).2.2.2.1.2
        omega
      · rw [hrow k' hk' 707 (by omega) (by omega)] at k5
        rw [hrow k hk 714 (by omega) (by omega), hrow k' hk' 714 (by omega) (by omega)] at k6
        exact b k k' k0 k1 k2 k3 k4 k5 k6
/-- how large a kept row is -/
theorem z_KR_sz {t : z_M} (hT : z_TT t) {k : Int} (h0 : 0 ≤ k) (h1 : k < 1212) (h : z_KR t k) : t 715 k ≤ 25 ∧ (-9999 ≤ t 708 k ∧ t 708 k ≤ 9999) ∧ ∀ i, 0 ≤ i → i < t 715 k → 0 ≤ t 716 (32 * k + i) ∧ t 716 (32 * k + i) < 1212 := by
  obtain ⟨-, h2, -, -, n, e⟩ := h
  have hv := z_ev_gd hT n _ _ e
  cases n with
  | zero => cases e
  | succ n =>
    obtain ⟨-, p, hh, e1, e2⟩ := z_rz_sp e
    obtain ⟨c1, c2, c3, c4, c5, c6, c7, c8, c9, c10⟩ := z_it_sz hT h0 h1 e1
    dsimp only at c7 c9
    rw [z_ll_len] at c7
    exact ⟨by omega, hv, fun i i0 i1 => c9 _ ((z_ll_mem _).mpr ⟨i, i0, by omega, rfl⟩)⟩
