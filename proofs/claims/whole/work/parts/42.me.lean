/-! the reference: keeping, giving, ends of frames leave all well -/
theorem mf_keeps_me {r f v : Int} {t : z_M} : z_me t (mf_keeps r f v t) := by
  refine ⟨?_, ?_, ?_⟩ <;> (funext i; exact mf_keeps_ne (by omega) (by omega) (by omega))
theorem mf_keep0_me {r f v : Int} {t : z_M} : z_me t (mf_keep0 r f v t) := by
  refine ⟨?_, ?_, ?_⟩ <;> (funext i; exact mf_keep0_ne (by omega) (by omega) (by omega))
theorem mf_hold_me {n : Nat} {t : z_M} : z_me t (mf_hold n t) := by
  refine ⟨?_, ?_, ?_⟩ <;> (funext i; exact mf_hold_ne (by omega) (by omega) (by omega) n t)
theorem z_me_tr {a b c : z_M} (h : z_me a b) (h' : z_me b c) : z_me a c := ⟨h'.1.trans h.1, h'.2.1.trans h.2.1, h'.2.2.trans h.2.2⟩
theorem mf_keeps_21 {r f v : Int} {t : z_M} : t 701 21 ≤ mf_keeps r f v t 701 21 ∧ mf_keeps r f v t 701 21 ≤ t 701 21 + 1 := by
  unfold mf_keeps
  split
  · rw [mf_hold_ne (by omega) (by omega) (by omega), (mf_keep0_new (r := r) (f := f) (v := v) (t := t)).2.2.2.2.2.2.2.2.2]; omega
  · omega
theorem mf_keeps_KK {r f v : Int} {t : z_M} (hT : z_TT t) (h : z_KK t) (hs : z_sumx t) (hb : 0 ≤ t 701 24) (hc : 0 ≤ t 701 21) (hf : 0 ≤ t 725 f ∧ t 725 f < 1212) (hn : 0 ≤ t 730 f) (hn1 : t 730 f ≤ 25) (hev : ∃ n, z_ev t n (t 725 f) = some (v, t 729 f, z_ll (t 731) (32 * f) (t 730 f).toNat)) : z_KK (mf_keeps r f v t) ∧ z_sumx (mf_keeps r f v t) := by
  unfold mf_keeps
  split
  · next hk =>
    have h0 := mf_keep0_KK (r := r) (v := v) h hc hf hn hn1 (fun k k0 k1 k2 => (z_KR_sz hT k0 k1 (h.1 k k0 k1 k2)).1) hev
    have h1 := (mf_keep0_sumx (r := r) (v := v) hs hf.1 hf.2 hk hn hn1).1
    refine ⟨z_KK_less mf_hold_me h0 (fun a k x y z1 z2 z3 => mf_hold_ne (by omega) (by omega) (by omega) _ _) (fun k => mf_hold_707 _ _) ?_, mf_hold_sumx _ _ h1 ?_⟩
    · rw [mf_hold_ne (by omega) (by omega) (by omega)]; exact Int.le_refl _
    · rw [mf_keep0_ne (by omega) (by omega) (by omega)]; exact hb
  · exact ⟨h, hs⟩
/-- what a runner's frames are, and the rest, after a key was kept -/
theorem mf_keeps_MX {r q f v : Int} {t : z_M} (hx : z_MX t r) (hf : 0 ≤ t 725 f ∧ t 725 f < 1212) (hn : 0 ≤ t 730 f) (hn1 : t 730 f ≤ 25) (hev : ∃ n, z_ev t n (t 725 f) = some (v, t 729 f, z_ll (t 731) (32 * f) (t 730 f).toNat)) : z_MX (mf_keeps q f v t) r := by
  obtain ⟨a1, a2, a3, a4, a5, a6⟩ := hx
  obtain ⟨k1, k2⟩ := mf_keeps_KK (r := q) a1 a5 a2 (by omega) a4 hf hn hn1 hev
  have h21 := mf_keeps_21 (r := q) (f := f) (v := v) (t := t)
  have hne : ∀ a i, 718 ≤ a → mf_keeps q f v t a i = t a i := fun a i ha => mf_keeps_ne (by omega) (by omega) (by omega)
  refine ⟨z_me_TT mf_keeps_me a1, k2, by rw [mf_keeps_ne (by omega) (by omega) (by omega)]; exact a3, by omega, k1, fun p p0 p1 p2 => ?_⟩
  exact z_RI_re a1 mf_keeps_me ⟨fun a x y _ => hne a p (by omega), fun f _ _ => z_fe_of fun a i x y => hne a i (by omega)⟩ (a6 p p0 p1 p2)
theorem mf_asked_mem {t : z_M} {f key : Int} : mf_asked t f key = true ↔ key ∈ z_ll (t 731) (32 * f) (t 730 f).toNat := by
  rw [mf_asked_iff, z_ll_mem]
  constructor
  · rintro ⟨i, h0, h1, h2⟩; exact ⟨i, h0, by omega, h2⟩
  · rintro ⟨i, h0, h1, h2⟩; exact ⟨i, h0, by omega, h2⟩
/-- the frame that takes a value -/
theorem mf_give_fr {r key v u : Int} {t : z_M} {f : Int} (hf : f = mf_top r t) : (∀ a i, ¬ a = 729 → ¬ a = 730 → ¬ a = 731 → ¬ a = 732 → ¬ a = 733 → mf_give r key v u t a i = t a i) ∧ (∀ a i, ¬ i = f → 729 ≤ a → a ≤ 732 → ¬ a = 731 → mf_give r key v u t a i = t a i) ∧ (∀ i, ¬ i = 32 * f + t 730 f → mf_give r key v u t 731 i = t 731 i) ∧ (∀ i, ¬ i = 64 * f + t 732 f → mf_give r key v u t 733 i = t 733 i) ∧ mf_give r key v u t 729 f = z_or (t 729 f) u ∧ mf_give r key v u t 732 f = t 732 f + 1 ∧ mf_give r key v u t 733 (64 * f + t 732 f) = v ∧ (mf_asked t f key = true → mf_give r key v u t 730 f = t 730 f) ∧ (¬ mf_asked t f key = true → mf_give r key v u t 730 f = t 730 f + 1 ∧ mf_give r key v u t 731 (32 * f + t 730 f) = key) := by
  subst hf
  unfold mf_give mf_holds
  generalize mf_top r t = f
  have g1 : ∀ a i, ¬ a = 730 → ¬ a = 731 → mf_give1 f key t a i = t a i := fun a i h1 h2 => mf_give1_ne h1 h2
  have e32 : z_up (mf_give1 f key t) 729 f (z_or (t 729 f) u) 732 f = t 732 f := by rw [z_up_ne (by omega), g1 _ _ (by omega) (by omega)]
  rw [e32]
  refine ⟨fun a i h1 h2 h3 h4 h5 => ?_, fun a i h1 h2 h3 h4 => ?_, fun i h1 => ?_, fun i h1 => ?_, ?_, ?_, ?_, fun hq => ?_, fun hq => ⟨?_, ?_⟩⟩
  · rw [z_up_ne (by omega), z_up_ne (by omega), z_up_ne (by omega), g1 a i h2 h3]
  · rw [z_up_ne (by omega), z_up_ne (by omega), z_up_ne (by omega)]
    by_cases ha : a = 730
    · unfold mf_give1; split
      · rfl
      · rw [z_up_ne (by omega), z_up_ne (by omega)]
    · exact g1 a i ha h4
  · rw [z_up_ne (by omega), z_up_ne (by omega), z_up_ne (by omega)]
    unfold mf_give1; split
    · rfl
    · rw [z_up_ne (by omega), z_up_ne (by omega)]
  · rw [z_up_ne (by omega), z_up_ne (by omega), z_up_ne (by omega), g1 _ _ (by omega) (by omega)]
  · rw [z_up_ne (by omega), z_up_ne (by omega), z_up_eq]
  · rw [z_up_eq]
  · rw [z_up_ne (by omega), z_up_eq]
  · rw [z_up_ne (by omega), z_up_ne (by omega), z_up_ne (by omega)]
    unfold mf_give1; rw [if_pos hq]
  · rw [z_up_ne (by omega), z_up_ne (by omega), z_up_ne (by omega)]
    unfold mf_give1; rw [if_neg hq, z_up_eq]
  · rw [z_up_ne (by omega), z_up_ne (by omega), z_up_ne (by omega)]
    unfold mf_give1; rw [if_neg hq, z_up_ne (by omega), z_up_eq]
theorem mf_give_me {r key v u : Int} {t : z_M} : z_me t (mf_give r key v u t) := by
  obtain ⟨h, -⟩ := mf_give_fr (r := r) (key := key) (v := v) (u := u) (t := t) rfl
  refine ⟨?_, ?_, ?_⟩ <;> (funext i; exact h _ _ (by omega) (by omega) (by omega) (by omega) (by omega))
theorem mf_give_fe {r key v u : Int} {t : z_M} {g : Int} (hg : ¬ g = mf_top r t) (h2 : 0 ≤ t 732 (mf_top r t)) (h3 : t 732 (mf_top r t) < 64) (h4 : 0 ≤ t 730 (mf_top r t)) (h5 : t 730 (mf_top r t) < 32) : z_fe t (mf_give r key v u t) g := by
  obtain ⟨a1, a2, a3, a4, -⟩ := mf_give_fr (r := r) (key := key) (v := v) (u := u) (t := t) rfl
  refine ⟨fun a x y z => ?_, fun i i0 i1 => a3 _ (by omega), fun i i0 i1 => a4 _ (by omega)⟩
  by_cases ha : a ≤ 728
  · exact a1 a g (by omega) (by omega) (by omega) (by omega) (by omega)
  · exact a2 a g hg (by omega) y z
theorem mf_give_ok {r key v u : Int} {t : z_M} (hr0 : 0 ≤ r) (hr1 : r < 5) (hx : z_MX t r) (hp : z_RP t r key) (hd : ¬ t 722 r = 0) (hev : ∃ n a, z_ev t n key = some (v, u, a)) : z_MX (mf_give r key v u t) r ∧ z_RR (mf_give r key v u t) r ∧ (∀ a i, ¬ (729 ≤ a ∧ a ≤ 733) → mf_give r key v u t a i = t a i) := by
  obtain ⟨b1, b2, b3, b4, b5⟩ := hp
  have b5 := b5 hd
  have ht : mf_top r t = 30 * r + t 722 r - 1 := rfl
  rw [← ht] at b5
  obtain ⟨s1, s2, s3, s4, s5, s6⟩ := z_FP_sz hx.1 b5
  obtain ⟨⟨c1, c2, c3⟩, n, j, w, e1, e2, e3, e4, e5⟩ := b5
  obtain ⟨g1, g2, g3, g4, g5, g6, g7, g8, g9⟩ := mf_give_fr (r := r) (key := key) (v := v) (u := u) (t := t) rfl
  have hne : ∀ a i, ¬ (729 ≤ a ∧ a ≤ 733) → mf_give r key v u t a i = t a i := fun a i ha => g1 a i (by omega) (by omega) (by omega) (by omega) (by omega)
  have hfo : ∀ f, ¬ f = mf_top r t → z_fe t (mf_give r key v u t) f := fun f hf => mf_give_fe hf (by omega) (by omega) (by omega) (by omega)
  refine ⟨z_MX_eq mf_give_me hx (fun a k x y _ _ _ => hne a k (by omega)) (hne _ _ (by omega)) (hne _ _ (by omega)) (hne _ _ (by omega)) (hne _ _ (by omega)) (hne _ _ (by omega)) (fun q q0 q1 q2 => ⟨fun a x y z => hne a q (by omega), fun f x y => hfo f (by omega)⟩), ?_, hne⟩
  unfold z_RR
  rw [hne 722 r (by omega), hne 721 r (by omega)]
  refine ⟨by omega, b2, fun i i0 i1 => ?_, ?_⟩
  · rw [hne 725 _ (by omega)]
    exact z_FP_fe hx.1 mf_give_me (hfo _ (by omega)) (b3 i i0 i1)
  rw [← ht]
  generalize hF : mf_top r t = f at *
  have h30 : 0 ≤ mf_give r key v u t 730 f := by
    by_cases hq : mf_asked t f key = true
    · rw [g8 hq]; exact c3
    · rw [(g9 hq).1]; omega
  refine ⟨⟨by rw [hne 725 _ (by omega)]; exact c1, by rw [g6]; omega, h30⟩, ?_⟩
  obtain ⟨m, al, hm⟩ := hev
  refine ⟨n + m, j + 1, ?_⟩
  rw [z_me_ev mf_give_me, z_me_it mf_give_me, hne 725 _ (by omega)]
  show (z_it t (z_ev t (n + m)) (t 725 f) j).bind _ = _
  rw [z_it_mono (z_ev_mono t n m) j e1]
  show z_sp t (z_ev t (n + m)) (t 725 f) _ = _
  unfold z_sp z_sq
  dsimp only
  rw [if_neg (by omega), if_neg (by omega), if_neg (by omega), if_pos e3, if_pos e4, ← e5, z_ev_le (Nat.le_add_left m n) _ _ hm]
  dsimp only
  have q1 : z_ll (mf_give r key v u t 733) (64 * f) (mf_give r key v u t 732 f).toNat = v :: z_ll (t 733) (64 * f) (t 732 f).toNat := by
    rw [g6, show (t 732 f + 1).toNat = (t 732 f).toNat + 1 by omega]
    show mf_give r key v u t 733 (64 * f + (((t 732 f).toNat : Nat) : Int)) :: z_ll _ _ _ = _
    rw [show (((t 732 f).toNat : Nat) : Int) = t 732 f by omega, g7, z_ll_congr (g := t 733) (b := 64 * f) (t 732 f).toNat (fun i i0 i1 => g4 _ (by omega))]
  have q2 : z_ll (mf_give r key v u t 731) (32 * f) (mf_give r key v u t 730 f).toNat = z_aj (z_ll (t 731) (32 * f) (t 730 f).toNat) key := by
    unfold z_aj
    by_cases hq : mf_asked t f key = true
    · rw [if_pos (mf_asked_mem.mp hq), g8 hq, z_ll_congr (g := t 731) (b := 32 * f) (t 730 f).toNat (fun i i0 i1 => g3 _ (by omega))]
    · obtain ⟨g91, g92⟩ := g9 hq
      rw [if_neg (fun z => hq (mf_asked_mem.mpr z)), g91, show (t 730 f + 1).toNat = (t 730 f).toNat + 1 by omega]
      show mf_give r key v u t 731 (32 * f + (((t 730 f).toNat : Nat) : Int)) :: z_ll _ _ _ = _
      rw [show (((t 730 f).toNat : Nat) : Int) = t 730 f by omega, g92, z_ll_congr (g := t 731) (b := 32 * f) (t 730 f).toNat (fun i i0 i1 => g3 _ (by omega))]
  unfold z_FS
  rw [q1, q2, g5, hne 726 _ (by omega), show t 726 f - 2 + 2 = t 726 f by omega]
/-- a frame that is worked out ends -/
theorem mf_fin_ev {t : z_M} {f : Int} (hT : z_TT t) (h : z_FR t f) (hs : ¬ t 705 (t 725 f / 101) = 0) (hf : t 705 (t 725 f / 101) ≤ t 726 f) : ∃ n, z_ev t n (t 725 f) = some (mf_val f t, t 729 f, z_ll (t 731) (32 * f) (t 730 f).toNat) := by
  obtain ⟨s1, s2, s3, s4, s5, s6⟩ := z_FR_sz hT h
  have s6 := s6 hs hf
  obtain ⟨⟨c1, c2, c3⟩, n, j, e⟩ := h
  refine ⟨n + j + 1, z_ev_of c1 (p := t 726 f) (h := []) ?_ hf⟩
  rw [e]
  unfold z_FS mf_val
  rw [s6, show 64 * f + 1 - 1 = 64 * f + ((0 : Nat) : Int) by omega]
  rfl
theorem mf_pop_ok {r : Int} {t : z_M} (hr0 : 0 ≤ r) (hr1 : r < 5) (hx : z_MX t r) (h : z_RR t r) (hs : ¬ t 705 (t 725 (mf_top r t) / 101) = 0) (hf : mf_fin r t) : z_MX (mf_pop r t) r ∧ z_RP (mf_pop r t) r (t 725 (mf_top r t)) ∧ (∃ n a, z_ev (mf_pop r t) n (t 725 (mf_top r t)) = some (mf_val (mf_top r t) t, t 729 (mf_top r t), a)) ∧ mf_pop r t 722 r = t 722 r - 1 ∧ (t 701 21 ≤ mf_pop r t 701 21 ∧ mf_pop r t 701 21 ≤ t 701 21 + 1) ∧ mf_pop r t 721 r = t 721 r ∧ mf_pop r t 719 r = t 719 r := by
  obtain ⟨b1, b2, b3, b4⟩ := h
  have ht : mf_top r t = 30 * r + t 722 r - 1 := rfl
  rw [← ht] at b4
  obtain ⟨s1, s2, s3, s4, s5, s6⟩ := z_FR_sz hx.1 b4
  have hev := mf_fin_ev hx.1 b4 hs hf
  obtain ⟨⟨c1, c2, c3⟩, -⟩ := b4
  unfold mf_pop
  generalize hF : mf_top r t = f at *
  -- the memory behind taken
  have k1 : ∀ a i, ¬ (a = 732 ∧ i = f) → mf_taken f t a i = t a i := fun a i ha => z_up_ne (by omega)
  have hm1 : z_me t (mf_taken f t) := by refine ⟨?_, ?_, ?_⟩ <;> (funext i; exact k1 _ _ (by omega))
  have hfo : ∀ g, ¬ g = f → z_fe t (mf_taken f t) g := fun g hg => ⟨fun a _ _ _ => k1 a g (by omega), fun i _ _ => k1 _ _ (by omega), fun i _ _ => k1 _ _ (by omega)⟩
  have x1 : z_MX (mf_taken f t) r := z_MX_eq hm1 hx (fun a k x y _ _ _ => k1 a k (by omega)) (k1 _ _ (by omega)) (k1 _ _ (by omega)) (k1 _ _ (by omega)) (k1 _ _ (by omega)) (k1 _ _ (by omega)) (fun q q0 q1 q2 => ⟨fun a x y z => k1 a q (by omega), fun g x y => hfo g (by omega)⟩)
  have e25 : mf_taken f t 725 f = t 725 f := k1 _ _ (by omega)
  have e29 : mf_taken f t 729 f = t 729 f := k1 _ _ (by omega)
  have e30 : mf_taken f t 730 f = t 730 f := k1 _ _ (by omega)
  have e31 : mf_taken f t 731 = t 731 := funext fun i => k1 _ _ (by omega)
  have x2 : z_MX (mf_keeps r f (mf_val f t) (mf_taken f t)) r := mf_keeps_MX x1 (by rw [e25]; exact c1) (by rw [e30]; exact c3) (by rw [e30]; exact s3) (by obtain ⟨n, hn⟩ := hev; refine ⟨n, ?_⟩; rw [z_me_ev hm1, e25, e29, e30, e31]; exact hn)
  have k2 : ∀ a i, 718 ≤ a → ¬ (a = 732 ∧ i = f) → ¬ (a = 722 ∧ i = r) → z_up (mf_keeps r f (mf_val f t) (mf_taken f t)) 722 r (t 722 r - 1) a i = t a i := fun a i h1 h2 h3 => by
    rw [z_up_ne (by omega), mf_keeps_ne (by omega) (by omega) (by omega), k1 a i h2]
  have k3 : ∀ a i, ¬ (a = 722 ∧ i = r) → z_up (mf_keeps r f (mf_val f t) (mf_taken f t)) 722 r (t 722 r - 1) a i = mf_keeps r f (mf_val f t) (mf_taken f t) a i := fun a i h => z_up_ne (by omega)
  have hm3 : z_me (mf_keeps r f (mf_val f t) (mf_taken f t)) (z_up (mf_keeps r f (mf_val f t) (mf_taken f t)) 722 r (t 722 r - 1)) := by refine ⟨?_, ?_, ?_⟩ <;> (funext i; exact k3 _ _ (by omega))
  have hm : z_me t (z_up (mf_keeps r f (mf_val f t) (mf_taken f t)) 722 r (t 722 r - 1)) := z_me_tr hm1 (z_me_tr mf_keeps_me hm3)
  have h21 := mf_keeps_21 (r := r) (f := f) (v := mf_val f t) (t := mf_taken f t)
  rw [k1 701 21 (by omega)] at h21
  have hfo2 : ∀ g, ¬ g = f → z_fe t (z_up (mf_keeps r f (mf_val f t) (mf_taken f t)) 722 r (t 722 r - 1)) g := fun g hg => ⟨fun a _ _ _ => k2 a g (by omega) (by omega) (by omega), fun i _ _ => k2 _ _ (by omega) (by omega) (by omega), fun i _ _ => k2 _ _ (by omega) (by omega) (by omega)⟩
  refine ⟨z_MX_eq hm3 x2 (fun a k x y _ _ _ => k3 a k (by omega)) (k3 _ _ (by omega)) (k3 _ _ (by omega)) (k3 _ _ (by omega)) (k3 _ _ (by omega)) (k3 _ _ (by omega)) (fun q q0 q1 q2 => ⟨fun a x y z => k3 a q (by omega), fun g x y => z_fe_of fun a i _ _ => k3 a i (by omega)⟩), ?_, ?_, z_up_eq, by rw [k3 _ _ (by omega)]; exact h21, k2 _ _ (by omega) (by omega) (by omega), k2 _ _ (by omega) (by omega) (by omega)⟩
  · unfold z_RP
    rw [show z_up (mf_keeps r f (mf_val f t) (mf_taken f t)) 722 r (t 722 r - 1) 722 r = t 722 r - 1 from z_up_eq, k2 721 r (by omega) (by omega) (by omega)]
    refine ⟨by omega, b2, fun i i0 i1 => ?_, c1, fun hq => ?_⟩
    · rw [k2 725 _ (by omega) (by omega) (by omega)]
      exact z_FP_fe hx.1 hm (hfo2 _ (by omega)) (b3 i i0 (by omega))
    · have := b3 (t 722 r - 2) (by omega) (by omega)
      rw [show 30 * r + (t 722 r - 2) + 1 = f by omega] at this
      rw [show 30 * r + (t 722 r - 1) - 1 = 30 * r + (t 722 r - 2) by omega]
      exact z_FP_fe hx.1 hm (hfo2 _ (by omega)) this
  · obtain ⟨n, hn⟩ := hev
    exact ⟨n, _, by rw [z_me_ev hm]; exact hn⟩
/-- the runner ends -/
theorem mf_done_ok {r v : Int} {t : z_M} (hr0 : 0 ≤ r) (hx : z_MX t r) : z_MX (z_up (z_up t 719 r 3) 720 r v) r := by
  have k1 : ∀ a i, ¬ (a = 719 ∧ i = r) → ¬ (a = 720 ∧ i = r) → z_up (z_up t 719 r 3) 720 r v a i = t a i := fun a i h h2 => by rw [z_up_ne (by omega), z_up_ne (by omega)]
  exact z_MX_eq (by refine ⟨?_, ?_, ?_⟩ <;> (funext i; exact k1 _ _ (by omega) (by omega))) hx (fun a k x y _ _ _ => k1 a k (by omega) (by omega)) (k1 _ _ (by omega) (by omega)) (k1 _ _ (by omega) (by omega)) (k1 _ _ (by omega) (by omega)) (k1 _ _ (by omega) (by omega)) (k1 _ _ (by omega) (by omega)) (fun q q0 q1 q2 => ⟨fun a x y z => k1 a q (by omega) (by omega), fun g x y => z_fe_of fun a i _ _ => k1 a i (by omega) (by omega)⟩)
