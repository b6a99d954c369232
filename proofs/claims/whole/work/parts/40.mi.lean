/-! what always holds of the reference's memory -/
def z_ll (g : Int → Int) (b : Int) : Nat → List Int
  | 0 => []
  | n + 1 => g (b + (n : Int)) :: z_ll g b n
theorem z_ll_congr {g g' : Int → Int} {b b' : Int} : ∀ (n : Nat), (∀ i : Int, 0 ≤ i → i < (n : Int) → g' (b' + i) = g (b + i)) → z_ll g' b' n = z_ll g b n
  | 0, _ => rfl
  | n + 1, h => by
    unfold z_ll
    rw [h n (by omega) (by omega), z_ll_congr n (fun i a b => h i a (by omega))]
theorem z_ll_len {g : Int → Int} {b : Int} : ∀ (n : Nat), (z_ll g b n).length = n
  | 0 => rfl
  | n + 1 => by unfold z_ll; rw [List.length_cons, z_ll_len n]
theorem z_ll_mem {g : Int → Int} {b x : Int} : ∀ (n : Nat), x ∈ z_ll g b n ↔ ∃ i : Int, 0 ≤ i ∧ i < (n : Int) ∧ g (b + i) = x
  | 0 => ⟨fun h => (by cases h), fun ⟨i, h0, h1, h2⟩ => (by omega)⟩
  | n + 1 => by
    unfold z_ll
    rw [List.mem_cons, z_ll_mem n]
    constructor
    · rintro (h | ⟨i, h0, h1, h2⟩)
      · exact ⟨n, by omega, by omega, h.symm⟩
      · exact ⟨i, h0, by omega, h2⟩
    · rintro ⟨i, h0, h1, h2⟩
      by_cases hi : i = (n : Int)
      · subst hi; exact Or.inl h2.symm
      · exact Or.inr ⟨i, h0, by omega, h2⟩
def z_FS (t : z_M) (f : Int) : z_St := (t 726 f, z_ll (t 733) (64 * f) (t 732 f).toNat, t 729 f, z_ll (t 731) (32 * f) (t 730 f).toNat)
def z_FB (t : z_M) (f : Int) : Prop := (0 ≤ t 725 f ∧ t 725 f < 1212) ∧ 0 ≤ t 732 f ∧ 0 ≤ t 730 f
/-- a frame that runs -/
def z_FR (t : z_M) (f : Int) : Prop := z_FB t f ∧ ∃ n j, z_it t (z_ev t n) (t 725 f) j = some (z_FS t f)
/-- a frame that has asked a key -/
def z_FP (t : z_M) (f key : Int) : Prop := z_FB t f ∧ ∃ n j v, z_it t (z_ev t n) (t 725 f) j = some (t 726 f - 2, v :: (z_FS t f).2.1, t 729 f, (z_FS t f).2.2.2) ∧ t 726 f - 2 < t 705 (t 725 f / 101) ∧ t 704 (400 * (t 725 f / 101) + (t 726 f - 2)) = 4 ∧ (-50 ≤ v ∧ v ≤ 50) ∧ key = 101 * t 704 (400 * (t 725 f / 101) + (t 726 f - 2) + 1) + v + 50
/-- a runner whose frames have asked, the top one this key -/
def z_RP (t : z_M) (r key : Int) : Prop := (0 ≤ t 722 r ∧ t 722 r ≤ 30) ∧ (0 ≤ t 721 r ∧ t 721 r ≤ 2000) ∧ (∀ i, 0 ≤ i → i + 1 < t 722 r → z_FP t (30 * r + i) (t 725 (30 * r + i + 1))) ∧ (0 ≤ key ∧ key < 1212) ∧ (¬ t 722 r = 0 → z_FP t (30 * r + t 722 r - 1) key)
/-- a runner that runs -/
def z_RR (t : z_M) (r : Int) : Prop := (1 ≤ t 722 r ∧ t 722 r ≤ 30) ∧ (0 ≤ t 721 r ∧ t 721 r ≤ 2000) ∧ (∀ i, 0 ≤ i → i + 1 < t 722 r → z_FP t (30 * r + i) (t 725 (30 * r + i + 1))) ∧ z_FR t (30 * r + t 722 r - 1)
/-- the top frame of a runner is at a node, or has no text -/
def z_SE (t : z_M) (r : Int) : Prop := t 705 (t 725 (mf_top r t) / 101) = 0 ∨ (t 726 (mf_top r t) < t 705 (t 725 (mf_top r t) / 101) ∧ ¬ t 704 (400 * (t 725 (mf_top r t) / 101) + t 726 (mf_top r t)) = 13)
def z_RI (t : z_M) (r : Int) : Prop := (t 719 r = 1 ∧ z_RR t r ∧ z_SE t r) ∨ (t 719 r = 2 ∧ (0 ≤ t 723 r ∧ t 723 r < 4) ∧ z_RP t r (t 724 r)) ∨ ((t 719 r = 0 ∨ t 719 r = 3 ∨ t 719 r = 4) ∧ t 722 r = 0 ∧ 0 ≤ t 721 r ∧ t 721 r ≤ 2000)
/-- a kept key -/
def z_KR (t : z_M) (k : Int) : Prop := t 707 k = 1 ∧ 0 ≤ t 715 k ∧ t 710 k = 2 + z_dig (t 708 k) + t 715 k ∧ (0 < t 714 k ∧ t 714 k ≤ t 701 21) ∧ ∃ n, z_ev t n k = some (t 708 k, t 713 k, z_ll (t 716) (32 * k) (t 715 k).toNat)
def z_KK (t : z_M) : Prop := (∀ k, 0 ≤ k → k < 1212 → ¬ t 707 k = 0 → z_KR t k) ∧ ∀ k k', 0 ≤ k → k < 1212 → 0 ≤ k' → k' < 1212 → ¬ t 707 k = 0 → ¬ t 707 k' = 0 → t 714 k = t 714 k' → k = k'
/-- all but one runner -/
def z_MX (t : z_M) (r : Int) : Prop := z_TT t ∧ z_sumx t ∧ (1 ≤ t 701 24 ∧ t 701 24 ≤ 300) ∧ (0 ≤ t 701 21) ∧ z_KK t ∧ ∀ q, 0 ≤ q → q < 4 → ¬ q = r → z_RI t q
/-! what depends on what -/
def z_me (t t' : z_M) : Prop := t' 702 = t 702 ∧ t' 704 = t 704 ∧ t' 705 = t 705
/-- the same in a frame -/
def z_fe (t t' : z_M) (f : Int) : Prop := (∀ a, 725 ≤ a → a ≤ 732 → ¬ a = 731 → t' a f = t a f) ∧ (∀ i, 0 ≤ i → i < 32 → t' 731 (32 * f + i) = t 731 (32 * f + i)) ∧ ∀ i, 0 ≤ i → i < 64 → t' 733 (64 * f + i) = t 733 (64 * f + i)
theorem z_me_it {t t' : z_M} (h : z_me t t') (O : z_Or) (k : Int) (j : Nat) : z_it t' O k j = z_it t O k j := z_it_eq h.1 h.2.1 h.2.2 O k j
theorem z_me_ev {t t' : z_M} (h : z_me t t') (n : Nat) : z_ev t' n = z_ev t n := z_ev_eq h.1 h.2.1 h.2.2 n
theorem z_me_TI {t t' : z_M} (h : z_me t t') {R : Int} (g : z_TI t R) : z_TI t' R := by
  obtain ⟨h2, h4, h5⟩ := h
  unfold z_TI z_TD z_TO at *
  rw [h4, h5]; exact g
theorem z_me_TT {t t' : z_M} (h : z_me t t') (g : z_TT t) : z_TT t' := ⟨fun c a b => by rw [h.1]; exact g.1 c a b, fun R a b => z_me_TI h (g.2 R a b)⟩
/-- how large a frame that stands well is -/
theorem z_it_sz {t : z_M} (hT : z_TT t) {n j : Nat} {k : Int} {x : z_St} (h0 : 0 ≤ k) (h1 : k < 1212) (e : z_it t (z_ev t n) k j = some x) : 0 ≤ x.1 ∧ x.1 ≤ t 705 (k / 101) ∧ t 705 (k / 101) ≤ 200 ∧ t 705 (k / 101) % 2 = 0 ∧ x.1 % 2 = 0 ∧ x.2.1.length ≤ 19 ∧ x.2.2.2.length ≤ 25 ∧ (∀ v ∈ x.2.1, -9999 ≤ v ∧ v ≤ 9999) ∧ (∀ b ∈ x.2.2.2, 0 ≤ b ∧ b < 1212) ∧ (¬ t 705 (k / 101) = 0 → t 705 (k / 101) ≤ x.1 → x.2.1.length = 1) := by
  obtain ⟨k0, k1⟩ := z_kr h0 h1
  obtain ⟨a1, a2, a3, a4⟩ := hT.2 _ k0 k1
  by_cases hz : t 705 (k / 101) = 0
  · rw [z_it_no hz] at e
    cases e
    exact ⟨Int.le_refl _, a1, a2, a3, rfl, Nat.zero_le _, Nat.zero_le _, fun v hv => (by cases hv), fun v hv => (by cases hv), fun q => absurd hz q⟩
  · obtain ⟨-, a5, D, hD⟩ := a4 hz
    obtain ⟨g1, g2, g3, g4, g5, g6, g7⟩ := z_gd_it a1 a3 hD (z_ev_gd hT n) j e
    have g8 := hD.2.2.1 x.1 g1 g2
    have g9 : z_nc (t 704) (400 * (k / 101)) (x.1 / 2).toNat ≤ z_nc (t 704) (400 * (k / 101)) (t 705 (k / 101) / 2).toNat := z_nc_le (by omega)
    refine ⟨g1, g2, a2, a3, g3, by omega, by omega, g5, g7, fun _ q => ?_⟩
    have : x.1 = t 705 (k / 101) := by omega
    rw [this, hD.2.1] at g4
    omega
theorem z_FS_fe {t t' : z_M} {f : Int} (h : z_fe t t' f) (h1 : t 732 f ≤ 64) (h2 : t 730 f ≤ 32) : z_FS t' f = z_FS t f := by
  unfold z_FS
  rw [h.1 726 (by omega) (by omega) (by omega), h.1 729 (by omega) (by omega) (by omega), h.1 730 (by omega) (by omega) (by omega), h.1 732 (by omega) (by omega) (by omega),
    z_ll_congr (g := t 733) (g' := t' 733) (b := 64 * f) (b' := 64 * f) (t 732 f).toNat (fun i a b => h.2.2 i a (by omega)),
    z_ll_congr (g := t 731) (g' := t' 731) (b := 32 * f) (b' := 32 * f) (t 730 f).toNat (fun i a b => h.2.1 i a (by omega))]
theorem z_FR_sz {t : z_M} {f : Int} (hT : z_TT t) (h : z_FR t f) : (0 ≤ t 726 f ∧ t 726 f ≤ t 705 (t 725 f / 101) ∧ t 705 (t 725 f / 101) ≤ 200 ∧ t 705 (t 725 f / 101) % 2 = 0 ∧ t 726 f % 2 = 0) ∧ t 732 f ≤ 19 ∧ t 730 f ≤ 25 ∧ (∀ i, 0 ≤ i → i < t 732 f → -9999 ≤ t 733 (64 * f + i) ∧ t 733 (64 * f + i) ≤ 9999) ∧ (∀ i, 0 ≤ i → i < t 730 f → 0 ≤ t 731 (32 * f + i) ∧ t 731 (32 * f + i) < 1212) ∧ (¬ t 705 (t 725 f / 101) = 0 → t 705 (t 725 f / 101) ≤ t 726 f → t 732 f = 1) := by
  obtain ⟨⟨⟨k0, k1⟩, b1, b2⟩, n, j, e⟩ := h
  obtain ⟨c1, c2, c3, c4, c5, c6, c7, c8, c9, c10⟩ := z_it_sz hT k0 k1 e
  unfold z_FS at c1 c2 c5 c6 c7 c8 c9 c10
  dsimp only at c1 c2 c5 c6 c7 c8 c9 c10
  rw [z_ll_len] at c6 c7 c10
  refine ⟨⟨c1, c2, c3, c4, c5⟩, by omega, by omega, fun i i0 i1 => c8 _ ((z_ll_mem _).mpr ⟨i, i0, by omega, rfl⟩), fun i i0 i1 => c9 _ ((z_ll_mem _).mpr ⟨i, i0, by omega, rfl⟩), fun q1 q2 => ?_⟩
  have := c10 q1 q2
  omega
theorem z_FP_sz {t : z_M} {f key : Int} (hT : z_TT t) (h : z_FP t f key) : (2 ≤ t 726 f ∧ t 726 f ≤ t 705 (t 725 f / 101) ∧ t 705 (t 725 f / 101) ≤ 200 ∧ t 705 (t 725 f / 101) % 2 = 0 ∧ t 726 f % 2 = 0) ∧ t 732 f ≤ 18 ∧ t 730 f ≤ 24 ∧ (0 ≤ key ∧ key < 1212) ∧ (∀ i, 0 ≤ i → i < t 732 f → -9999 ≤ t 733 (64 * f + i) ∧ t 733 (64 * f + i) ≤ 9999) ∧ (∀ i, 0 ≤ i → i < t 730 f → 0 ≤ t 731 (32 * f + i) ∧ t 731 (32 * f + i) < 1212) := by
  obtain ⟨⟨⟨k0, k1⟩, b1, b2⟩, n, j, v, e, e2, e3, e4, e5⟩ := h
  obtain ⟨c1, c2, c3, c4, c5, c6, c7, c8, c9, c10⟩ := z_it_sz hT k0 k1 e
  obtain ⟨q0, q1⟩ := z_kr k0 k1
  obtain ⟨a1, a2, a3, a4⟩ := hT.2 _ q0 q1
  unfold z_FS at c6 c7 c8 c9
  dsimp only at c1 c2 c5 c6 c7 c8 c9
  obtain ⟨-, a5, D, hD⟩ := a4 (by omega)
  have hTO := hD.2.2.2 (t 726 f - 2) c1 e2 c5
  have hg := (z_gd_it a1 a3 hD (z_ev_gd hT n) j e).2.2.2.2.2.1
  have hnc : z_nc (t 704) (400 * (t 725 f / 101)) (((t 726 f - 2) / 2).toNat + 1) ≤ z_nc (t 704) (400 * (t 725 f / 101)) (t 705 (t 725 f / 101) / 2).toNat := z_nc_le (by omega)
  have hn1 : z_nc (t 704) (400 * (t 725 f / 101)) (((t 726 f - 2) / 2).toNat + 1) = z_nc (t 704) (400 * (t 725 f / 101)) ((t 726 f - 2) / 2).toNat + 1 := by
    show _ + (if t 704 (400 * (t 725 f / 101) + 2 * ((((t 726 f - 2) / 2).toNat : Nat) : Int)) = 4 then (1 : Int) else 0) = _
    rw [show 400 * (t 725 f / 101) + 2 * ((((t 726 f - 2) / 2).toNat : Nat) : Int) = 400 * (t 725 f / 101) + (t 726 f - 2) by omega, if_pos e3]
  unfold z_FS at hg
  dsimp only at hg
  rw [List.length_cons, z_ll_len] at c6
  rw [z_ll_len] at c7 hg
  unfold z_TO at hTO
  rw [e3] at hTO
  refine ⟨by omega, by omega, by omega, by omega, fun i i0 i1 => c8 _ (List.mem_cons_of_mem _ ((z_ll_mem _).mpr ⟨i, i0, by omega, rfl⟩)), fun i i0 i1 => c9 _ ((z_ll_mem _).mpr ⟨i, i0, by omega, rfl⟩)⟩
theorem z_FB_fe {t t' : z_M} {f : Int} (he : z_fe t t' f) (h : z_FB t f) : z_FB t' f := by
  unfold z_FB at h ⊢
  rw [he.1 725 (by omega) (by omega) (by omega), he.1 730 (by omega) (by omega) (by omega), he.1 732 (by omega) (by omega) (by omega)]
  exact h
theorem z_FR_fe {t t' : z_M} {f : Int} (hT : z_TT t) (hm : z_me t t') (he : z_fe t t' f) (h : z_FR t f) : z_FR t' f := by
  obtain ⟨-, s2, s3, -⟩ := z_FR_sz hT h
  obtain ⟨hb, n, j, e⟩ := h
  refine ⟨z_FB_fe he hb, n, j, ?_⟩
  rw [z_me_ev hm, z_me_it hm, z_FS_fe he (by omega) (by omega), he.1 725 (by omega) (by omega) (by omega)]
  exact e
theorem z_FP_fe {t t' : z_M} {f key : Int} (hT : z_TT t) (hm : z_me t t') (he : z_fe t t' f) (h : z_FP t f key) : z_FP t' f key := by
  obtain ⟨-, s2, s3, -⟩ := z_FP_sz hT h
  obtain ⟨hb, n, j, v, e⟩ := h
  refine ⟨z_FB_fe he hb, n, j, v, ?_⟩
  rw [z_me_ev hm, z_me_it hm, z_FS_fe he (by omega) (by omega), he.1 725 (by omega) (by omega) (by omega), he.1 726 (by omega) (by omega) (by omega), he.1 729 (by omega) (by omega) (by omega), hm.2.1, hm.2.2]
  exact e
/-- the same in a runner -/
def z_re (t t' : z_M) (r : Int) : Prop := (∀ a, 719 ≤ a → a ≤ 724 → ¬ a = 720 → t' a r = t a r) ∧ ∀ f, 30 * r ≤ f → f < 30 * r + 30 → z_fe t t' f
theorem z_RP_re {t t' : z_M} {r key : Int} (hT : z_TT t) (hm : z_me t t') (h1 : t' 721 r = t 721 r) (h2 : t' 722 r = t 722 r) (he : ∀ f, 30 * r ≤ f → f < 30 * r + t 722 r → z_fe t t' f) (h : z_RP t r key) : z_RP t' r key := by
  unfold z_RP at h ⊢
  rw [h1, h2]
  obtain ⟨a1, a2, a3, a4, a5⟩ := h
  refine ⟨a1, a2, fun i i0 i1 => ?_, a4, fun q => z_FP_fe hT hm (he _ (by omega) (by omega)) (a5 q)⟩
  rw [(he (30 * r + i + 1) (by omega) (by omega)).1 725 (by omega) (by omega) (by omega)]
  exact z_FP_fe hT hm (he _ (by omega) (by omega)) (a3 i i0 i1)
theorem z_RR_re {t t' : z_M} {r : Int} (hT : z_TT t) (hm : z_me t t') (h1 : t' 721 r = t 721 r) (h2 : t' 722 r = t 722 r) (he : ∀ f, 30 * r ≤ f → f < 30 * r + t 722 r → z_fe t t' f) (h : z_RR t r) : z_RR t' r := by
  unfold z_RR at h ⊢
  rw [h1, h2]
  obtain ⟨a1, a2, a3, a5⟩ := h
  refine ⟨a1, a2, fun i i0 i1 => ?_, z_FR_fe hT hm (he _ (by omega) (by omega)) a5⟩
  rw [(he (30 * r + i + 1) (by omega) (by omega)).1 725 (by omega) (by omega) (by omega)]
  exact z_FP_fe hT hm (he _ (by omega) (by omega)) (a3 i i0 i1)
theorem z_RI_re {t t' : z_M} {r : Int} (hT : z_TT t) (hm : z_me t t') (he : z_re t t' r) (h : z_RI t r) : z_RI t' r := by
  have e1 := he.1 721 (by omega) (by omega) (by omega)
  have e2 := he.1 722 (by omega) (by omega) (by omega)
  unfold z_RI at h ⊢
  rw [he.1 719 (by omega) (by omega) (by omega), he.1 723 (by omega) (by omega) (by omega), he.1 724 (by omega) (by omega) (by omega)]
  rcases h with ⟨a, b, b3⟩ | ⟨a, b, b2⟩ | ⟨a, b, b2⟩
  · refine Or.inl ⟨a, z_RR_re hT hm e1 e2 (fun f x y => he.2 f x (by have := b.1; omega)) b, ?_⟩
    have ht : mf_top r t' = mf_top r t := by unfold mf_top; rw [e2]
    have hf := he.2 (mf_top r t) (by have := b.1; unfold mf_top; omega) (by have := b.1; unfold mf_top; omega)
    unfold z_SE at b3 ⊢
    rw [ht, hm.2.1, hm.2.2, hf.1 725 (by omega) (by omega) (by omega), hf.1 726 (by omega) (by omega) (by omega)]
    exact b3
  · exact Or.inr (Or.inl ⟨a, b, z_RP_re hT hm e1 e2 (fun f x y => he.2 f x (by have := b2.1; omega)) b2⟩)
  · exact Or.inr (Or.inr ⟨a, by rw [e2]; exact b, by rw [e1]; exact b2⟩)
theorem z_KR_eq {t t' : z_M} {k : Int} (hm : z_me t t') (h : z_KR t k) (h0 : ∀ a, 707 ≤ a → a ≤ 715 → ¬ a = 709 → ¬ a = 711 → ¬ a = 712 → t' a k = t a k) (h1 : ∀ i, 0 ≤ i → i < t 715 k → t' 716 (32 * k + i) = t 716 (32 * k + i)) (h2 : t 701 21 ≤ t' 701 21) : z_KR t' k := by
  unfold z_KR at h ⊢
  rw [h0 707 (by omega) (by omega) (by omega) (by omega) (by omega), h0 708 (by omega) (by omega) (by omega) (by omega) (by omega), h0 710 (by omega) (by omega) (by omega) (by omega) (by omega), h0 713 (by omega) (by omega) (by omega) (by omega) (by omega), h0 714 (by omega) (by omega) (by omega) (by omega) (by omega), h0 715 (by omega) (by omega) (by omega) (by omega) (by omega)]
  obtain ⟨a1, a2, a3, a4, n, a5⟩ := h
  refine ⟨a1, a2, a3, by omega, n, ?_⟩
  rw [z_me_ev hm, a5, z_ll_congr (g := t 716) (g' := t' 716) (b := 32 * k) (b' := 32 * k) (t 715 k).toNat (fun i a b => h1 i a (by omega))]
