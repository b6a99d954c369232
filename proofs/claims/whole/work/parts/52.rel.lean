/-! the class against the reference -/
def z_cF (b : Bool) (s t : z_M) (F f : Int) : Prop :=
  (s F 3 = t 725 f ∧ s F 5 = t 727 f ∧ 2 * s F 6 = t 726 f ∧ s F 8 = t 730 f ∧ s F 9 = t 732 f ∧ s F 2 = 309 + 2 * (t 725 f / 101)) ∧ ((0 ≤ t 725 f ∧ t 725 f < 1212) ∧ (0 ≤ t 730 f ∧ t 730 f ≤ 25) ∧ 0 ≤ t 732 f ∧ t 732 f ≤ 19) ∧ (∀ i, 0 ≤ i → i < t 730 f → s (F + 1) i = t 731 (32 * f + i)) ∧ (∀ i, 0 ≤ i → i < t 732 f → s (F + 2) i = t 733 (64 * f + i)) ∧ (b = false → s F 4 = t 728 f ∧ s F 7 = t 729 f)
def z_cG (b : Bool) (s t : z_M) (r : Int) : Prop := (s (z_ru r) 3 = t 722 r ∧ s (z_ru r) 4 = t 721 r) ∧ (0 ≤ t 722 r ∧ t 722 r ≤ 30) ∧ ∀ i, 0 ≤ i → i < t 722 r → z_cF b s t (z_fA r i) (30 * r + i)
def z_cV (s t : z_M) (r : Int) : Prop := s (z_ru r) 2 = t 719 r ∧ (t 719 r = 2 → s (z_ru r) 5 = t 723 r ∧ s (z_ru r) 6 = t 724 r) ∧ (t 719 r = 3 → s (z_ru r) 7 = t 720 r) ∧ (t 719 r = 4 → t 720 r = -10000 - s (z_ru r) 8 ∧ 0 ≤ s (z_ru r) 8 ∧ s (z_ru r) 8 ≤ 6)
def z_cR (b : Bool) (s t : z_M) (r : Int) : Prop := z_cG b s t r ∧ z_cV s t r
/-- a row of what is kept -/
def z_cW (s t : z_M) (A k : Int) : Prop := s A 1 = k ∧ s A 2 = t 708 k ∧ s A 3 = t 709 k ∧ s A 4 = t 710 k ∧ s A 5 = t 711 k ∧ s A 6 = t 712 k ∧ s A 7 = t 713 k ∧ s A 8 = t 715 k ∧ ∀ i, 0 ≤ i → i < t 715 k → s (A + 1) i = t 716 (32 * k + i)
def z_cS (s t : z_M) : Prop :=
  (s 7 2 = t 701 23 ∧ s 7 3 = t 701 22 ∧ s 7 5 = t 701 24 ∧ s 7 6 = t 701 25) ∧ (0 ≤ s 7 2 ∧ s 7 2 ≤ 101) ∧
  ((∀ i, 0 ≤ i → i < 101 → z_isK (s 8 i)) ∧ ∀ i j, 0 ≤ i → i < j → j < 101 → ¬ s 8 i = s 8 j) ∧
  (∀ i, 0 ≤ i → i < s 7 2 → (0 ≤ s (s 8 i) 1 ∧ s (s 8 i) 1 < 1212) ∧ ¬ t 707 (s (s 8 i) 1) = 0 ∧ s 10 (s (s 8 i) 1) = s 8 i ∧ z_cW s t (s 8 i) (s (s 8 i) 1)) ∧
  (∀ k, 0 ≤ k → k < 1212 → (t 707 k = 0 → s 10 k = -1) ∧ (¬ t 707 k = 0 → ∃ i, 0 ≤ i ∧ i < s 7 2 ∧ s (s 8 i) 1 = k)) ∧
  ∀ i j, 0 ≤ i → i < j → j < s 7 2 → t 714 (s (s 8 i) 1) < t 714 (s (s 8 j) 1)
def z_cN (s t : z_M) : Prop :=
  (s 0 7 = t 701 26 ∧ s 0 9 = t 717 0 ∧ s 0 10 = t 717 1 ∧ s 0 11 = t 717 2 ∧ s 7 7 = t 717 3 ∧ s 7 8 = t 717 4 ∧ s 7 9 = t 717 5 ∧ s 0 12 = t 717 6 ∧ s 0 8 = t 701 46) ∧
  (s 3 2 = t 701 2 ∧ (0 ≤ t 701 2 ∧ t 701 2 ≤ 100) ∧ ∀ i, 0 ≤ i → i < t 701 2 → s 4 i = t 703 i ∧ 0 ≤ t 703 i ∧ t 703 i ≤ 255) ∧
  (s 7 4 = t 701 29 ∧ (0 ≤ t 701 29 ∧ t 701 29 ≤ 100) ∧ ∀ i, 0 ≤ i → i < t 701 29 → s 9 i = t 718 i)
def z_cT (s t : z_M) : Prop := (∀ k, 0 ≤ k → k < 12 → s 1 k = t 702 k) ∧ ∀ R, 0 ≤ R → R < 12 → z_cX s t R
def z_cH (s t : z_M) : Prop := ∀ k, 0 ≤ k → k < 1212 → (s 215 k = s 213 2 ↔ ¬ t 707 k = 0) ∧ (¬ t 707 k = 0 → s 214 k = t 708 k) ∧ s 215 k ≤ s 213 2
def z_cA (s t : z_M) : Prop := z_cT s t ∧ z_cS s t ∧ z_cN s t ∧ (t 701 30 = 1 ∧ t 701 22 ≤ t 701 24)
def z_kd (b : Bool) (r : Int) : Int := if b = true then 2 else if r = 4 then 1 else 0
def z_cE (b : Bool) (r : Int) (s t : z_M) : Prop := s (z_ru r) 1 = z_kd b r ∧ (b = false → z_cA s t ∧ ∀ q, 0 ≤ q → q < 4 → ¬ q = r → z_cR false s t q ∧ s (z_ru q) 1 = 0) ∧ (b = true → r = 4 ∧ z_cT s t ∧ z_cH s t ∧ t 701 30 = 0)
def z_K0 (b : Bool) (r : Int) (s t : z_M) : Prop := z_cE b r s t ∧ z_cG b s t r
def z_KC (b : Bool) (r : Int) (s t : z_M) : Prop := z_cE b r s t ∧ z_cR b s t r
/-- in thought only the asking run and the thought change -/
def z_fz (b : Bool) (s s' : z_M) : Prop := (b = true → ∀ a i, ¬ (216 ≤ a ∧ a < 308) → ¬ a = 214 → ¬ a = 215 → s' a i = s a i) ∧ (b = false → ∀ a i, 213 ≤ a → a ≤ 215 → s' a i = s a i)
theorem z_fz_rf {b : Bool} {s : z_M} : z_fz b s s := ⟨fun _ _ _ _ _ _ => rfl, fun _ _ _ _ _ => rfl⟩
theorem z_fz_tr {b : Bool} {s s' s2 : z_M} (h : z_fz b s s') (h2 : z_fz b s' s2) : z_fz b s s2 := ⟨fun q a i x y z => by rw [h2.1 q a i x y z, h.1 q a i x y z], fun q a i x y => by rw [h2.2 q a i x y, h.2 q a i x y]⟩
/-! what depends on what -/
theorem z_cF_c {b : Bool} {s s' t t' : z_M} {F f : Int} (hs : ∀ a i, F ≤ a → a ≤ F + 2 → s' a i = s a i) (ht : z_fe t t' f) (h : z_cF b s t F f) : z_cF b s' t' F f := by
  obtain ⟨⟨a1, a2, a3, a4, a5, a6⟩, ⟨b1, b2, b3⟩, c1, c2, c3⟩ := h
  have e := fun a (x : 725 ≤ a) (y : a ≤ 732) (z : ¬ a = 731) => ht.1 a x y z
  unfold z_cF
  rw [e 725 (by omega) (by omega) (by omega), e 726 (by omega) (by omega) (by omega), e 727 (by omega) (by omega) (by omega), e 728 (by omega) (by omega) (by omega), e 729 (by omega) (by omega) (by omega), e 730 (by omega) (by omega) (by omega), e 732 (by omega) (by omega) (by omega)]
  simp only [hs F _ (Int.le_refl F) (by omega)]
  refine ⟨⟨a1, a2, a3, a4, a5, a6⟩, ⟨b1, b2, b3⟩, fun i i0 i1 => ?_, fun i i0 i1 => ?_, c3⟩
  · rw [hs _ _ (by omega) (by omega), ht.2.1 i i0 (by omega)]; exact c1 i i0 i1
  · rw [hs _ _ (by omega) (by omega), ht.2.2 i i0 (by omega)]; exact c2 i i0 i1
theorem z_cG_c {b : Bool} {s s' t t' : z_M} {r : Int} (h3 : s' (z_ru r) 3 = s (z_ru r) 3) (h4 : s' (z_ru r) 4 = s (z_ru r) 4) (hF : ∀ a i, z_ru r + 2 ≤ a → a < z_ru r + 92 → s' a i = s a i) (e2 : t' 722 r = t 722 r) (e1 : t' 721 r = t 721 r) (hfe : ∀ f, 30 * r ≤ f → f < 30 * r + 30 → z_fe t t' f) (h : z_cG b s t r) : z_cG b s' t' r := by
  obtain ⟨⟨a1, a2⟩, a3, a4⟩ := h
  unfold z_cG
  rw [h3, h4, e2, e1]
  refine ⟨⟨a1, a2⟩, a3, fun i i0 i1 => ?_⟩
  exact z_cF_c (fun a j x y => hF a j (by unfold z_fA at x; omega) (by unfold z_fA at y; omega)) (hfe _ (by omega) (by omega)) (a4 i i0 i1)
theorem z_cV_c {s s' t t' : z_M} {r : Int} (h : z_cV s t r) (hs : ∀ i, s' (z_ru r) i = s (z_ru r) i) (ht : ∀ a, 719 ≤ a → a ≤ 724 → t' a r = t a r) : z_cV s' t' r := by
  unfold z_cV
  simp only [hs]
  rw [ht 719 (by omega) (by omega), ht 720 (by omega) (by omega), ht 723 (by omega) (by omega), ht 724 (by omega) (by omega)]
  exact h
/-- what a runner's doing may change in the reference -/
def z_mr (t t' : z_M) (r : Int) : Prop := ∀ a i, ¬ (a = 701 ∧ i = 26) → ¬ a = 717 → ¬ (719 ≤ a ∧ a ≤ 724 ∧ i = r) → ¬ (725 ≤ a ∧ a ≤ 732 ∧ ¬ a = 731 ∧ 30 * r ≤ i ∧ i < 30 * r + 30) → ¬ (a = 731 ∧ 960 * r ≤ i ∧ i < 960 * r + 960) → ¬ (a = 733 ∧ 1920 * r ≤ i ∧ i < 1920 * r + 1920) → t' a i = t a i
theorem z_mr_fe {t t' : z_M} {r q f : Int} (h : z_mr t t' r) (hq : ¬ q = r) (f0 : 30 * q ≤ f) (f1 : f < 30 * q + 30) : z_fe t t' f :=
  ⟨fun a x y z => h a f (by omega) (by omega) (by omega) (by omega) (by omega) (by omega), fun i _ _ => h _ _ (by omega) (by omega) (by omega) (by omega) (by omega) (by omega), fun i _ _ => h _ _ (by omega) (by omega) (by omega) (by omega) (by omega) (by omega)⟩
theorem z_ru_far {r q : Int} (h0 : 0 ≤ r) (h1 : r < 5) (q0 : 0 ≤ q) (q1 : q < 4) (h : ¬ q = r) : z_ru r + 92 ≤ z_ru q ∨ z_ru q + 92 ≤ z_ru r := by
  unfold z_ru
  rw [if_neg (show ¬ q = 4 by omega)]
  split <;> omega
theorem z_ru_rng {r : Int} (h0 : 0 ≤ r) (h1 : r < 5) : 216 ≤ z_ru r ∧ z_ru r + 92 ≤ 701 ∧ (z_ru r = 216 ∨ 333 ≤ z_ru r) := by
  unfold z_ru
  split <;> omega
theorem z_cR_o {s s' t t' : z_M} {r q : Int} (r0 : 0 ≤ r) (r1 : r < 5) (q0 : 0 ≤ q) (q1 : q < 4) (hq : ¬ q = r) (hs : ∀ a i, ¬ (z_ru r ≤ a ∧ a < z_ru r + 92) → ¬ a = 0 → s' a i = s a i) (ht : z_mr t t' r) (h : z_cR false s t q) : z_cR false s' t' q := by
  have hf := z_ru_far r0 r1 q0 q1 hq
  have hr := z_ru_rng (r := q) q0 (by omega)
  have hs2 : ∀ a i, z_ru q ≤ a → a < z_ru q + 92 → s' a i = s a i := fun a i x y => hs a i (by omega) (by omega)
  exact ⟨z_cG_c (hs2 _ _ (by omega) (by omega)) (hs2 _ _ (by omega) (by omega)) (fun a i x y => hs2 a i (by omega) y) (ht _ _ (by omega) (by omega) (by omega) (by omega) (by omega) (by omega)) (ht _ _ (by omega) (by omega) (by omega) (by omega) (by omega) (by omega)) (fun f x y => z_mr_fe ht hq x y) h.1,
    z_cV_c h.2 (fun i => hs2 _ _ (by omega) (by omega)) (fun a x y => ht _ _ (by omega) (by omega) (by omega) (by omega) (by omega) (by omega))⟩
theorem z_cX_c {s s' t t' : z_M} {R : Int} (h1 : ∀ i, s' (309 + 2 * R) i = s (309 + 2 * R) i) (h2 : ∀ i, s' (309 + 2 * R + 1) i = s (309 + 2 * R + 1) i) (h4 : t' 704 = t 704) (h5 : t' 705 = t 705) (h : z_cX s t R) : z_cX s' t' R := by
  unfold z_cX
  rw [h4, h5, h1]
  exact ⟨h.1, fun q q0 q1 => by rw [h2]; exact h.2 q q0 q1⟩
theorem z_cT_c {s s' t t' : z_M} (hs : ∀ a i, a = 1 ∨ (309 ≤ a ∧ a ≤ 332) → s' a i = s a i) (hm : z_me t t') (h : z_cT s t) : z_cT s' t' := by
  obtain ⟨m2, m4, m5⟩ := hm
  refine ⟨fun k k0 k1 => by rw [hs _ _ (Or.inl rfl), m2]; exact h.1 k k0 k1, fun R R0 R1 => z_cX_c (fun i => hs _ _ (by omega)) (fun i => hs _ _ (by omega)) m4 m5 (h.2 R R0 R1)⟩
theorem z_cW_c {s s' t t' : z_M} {A k : Int} (h1 : ∀ i, s' A i = s A i) (h2 : ∀ i, s' (A + 1) i = s (A + 1) i) (ht : ∀ a, 708 ≤ a → a ≤ 715 → t' a k = t a k) (h3 : ∀ i, 0 ≤ i → i < t 715 k → t' 716 (32 * k + i) = t 716 (32 * k + i)) (h : z_cW s t A k) : z_cW s' t' A k := by
  obtain ⟨a1, a2, a3, a4, a5, a6, a7, a8, a9⟩ := h
  unfold z_cW
  simp only [h1]
  rw [ht 708 (by omega) (by omega), ht 709 (by omega) (by omega), ht 710 (by omega) (by omega), ht 711 (by omega) (by omega), ht 712 (by omega) (by omega), ht 713 (by omega) (by omega), ht 715 (by omega) (by omega)]
  exact ⟨a1, a2, a3, a4, a5, a6, a7, a8, fun i i0 i1 => by rw [h2, h3 i i0 i1]; exact a9 i i0 i1⟩
theorem z_cS_c {s s' t t' : z_M} (hs : ∀ a i, 8 ≤ a → a ≤ 212 → ¬ a = 9 → s' a i = s a i) (h7 : ∀ i, 2 ≤ i → i ≤ 6 → ¬ i = 4 → s' 7 i = s 7 i) (ht : ∀ a i, 707 ≤ a → a ≤ 716 → t' a i = t a i) (ht1 : ∀ i, 22 ≤ i → i ≤ 25 → t' 701 i = t 701 i) (h : z_cS s t) : z_cS s' t' := by
  obtain ⟨⟨a1, a2, a3, a4⟩, a5, ⟨a6, a7⟩, a8, a9, a10⟩ := h
  have e8 : ∀ i, s' 8 i = s 8 i := fun i => hs _ _ (by omega) (by omega) (by omega)
  have e10 : ∀ i, s' 10 i = s 10 i := fun i => hs _ _ (by omega) (by omega) (by omega)
  have e72 := h7 2 (by omega) (by omega) (by omega)
  have eK : ∀ i j, 0 ≤ i → i < 101 → s' (s 8 i) j = s (s 8 i) j := fun i j x y => by obtain ⟨-, -, k3, k4, -⟩ := a6 i x y; exact hs _ _ (by omega) (by omega) (by omega)
  unfold z_cS
  simp only [e8, e10, e72]
  rw [h7 3 (by omega) (by omega) (by omega), h7 5 (by omega) (by omega) (by omega), h7 6 (by omega) (by omega) (by omega), ht1 22 (by omega) (by omega), ht1 23 (by omega) (by omega), ht1 24 (by omega) (by omega), ht1 25 (by omega) (by omega)]
  refine ⟨⟨a1, a2, a3, a4⟩, a5, ⟨a6, a7⟩, fun i i0 i1 => ?_, fun k k0 k1 => ⟨fun q => ?_, fun q => ?_⟩, fun i j i0 ij j1 => ?_⟩
  · have hi : i < 101 := by omega
    rw [eK i _ i0 hi, ht _ _ (by omega) (by omega)]
    obtain ⟨b1, b2, b3, b4⟩ := a8 i i0 i1
    have hk := a6 i i0 hi
    refine ⟨b1, b2, b3, z_cW_c (fun j => eK i j i0 hi) (fun j => hs _ _ (by unfold z_isK at hk; omega) (by unfold z_isK at hk; omega) (by unfold z_isK at hk; omega)) (fun a x y => ht _ _ (by omega) (by omega)) (fun j _ _ => ht _ _ (by omega) (by omega)) b4⟩
  · rw [ht _ _ (by omega) (by omega)] at q; exact (a9 k k0 k1).1 q
  · rw [ht _ _ (by omega) (by omega)] at q
    obtain ⟨i, i0, i1, i2⟩ := (a9 k k0 k1).2 q
    exact ⟨i, i0, i1, by rw [eK i _ i0 (by omega)]; exact i2⟩
  · rw [eK i _ i0 (by omega), eK j _ (by omega) (by omega), ht _ _ (by omega) (by omega), ht _ _ (by omega) (by omega)]
    exact a10 i j i0 ij j1
theorem z_cE_c {b : Bool} {s s' t t' : z_M} {r : Int} (r0 : 0 ≤ r) (r1 : r < 5) (hs : ∀ a i, ¬ (z_ru r ≤ a ∧ a < z_ru r + 92) → ¬ a = 0 → s' a i = s a i) (hk : s' (z_ru r) 1 = s (z_ru r) 1) (ht : z_mr t t' r) (hN : b = false → z_cN s t → z_cN s' t') (h : z_cE b r s t) : z_cE b r s' t' := by
  obtain ⟨h1, h2, h3⟩ := h
  have hr := z_ru_rng r0 r1
  have hme : z_me t t' := by refine ⟨?_, ?_, ?_⟩ <;> (funext i; exact ht _ _ (by omega) (by omega) (by omega) (by omega) (by omega) (by omega))
  have hT : z_cT s t → z_cT s' t' := z_cT_c (fun a i x => hs a i (by omega) (by omega)) hme
  have ht7 : ∀ a i, 707 ≤ a → a ≤ 716 → t' a i = t a i := fun a i x y => ht a i (by omega) (by omega) (by omega) (by omega) (by omega) (by omega)
  have ht1 : ∀ i, ¬ i = 26 → t' 701 i = t 701 i := fun i x => ht _ i (by omega) (by omega) (by omega) (by omega) (by omega) (by omega)
  refine ⟨by rw [hk]; exact h1, fun q => ?_, fun q => ?_⟩
  · obtain ⟨⟨a1, a2, a3, a4⟩, a5⟩ := h2 q
    refine ⟨⟨hT a1, z_cS_c (fun a i x y _ => hs a i (by omega) (by omega)) (fun i x y _ => hs 7 i (by omega) (by omega)) ht7 (fun i x y => ht1 i (by omega)) a2, hN q a3, by rw [ht1 30 (by omega), ht1 22 (by omega), ht1 24 (by omega)]; exact a4⟩, fun p p0 p1 p2 => ?_⟩
    have hf := z_ru_far r0 r1 p0 p1 p2
    exact ⟨z_cR_o r0 r1 p0 p1 p2 hs ht (a5 p p0 p1 p2).1, by rw [hs _ _ (by omega) (by have := z_ru_rng p0 (show p < 5 by omega); omega)]; exact (a5 p p0 p1 p2).2⟩
  · obtain ⟨a1, a2, a3, a4⟩ := h3 q
    refine ⟨a1, hT a2, fun k k0 k1 => ?_, by rw [ht1 30 (by omega)]; exact a4⟩
    rw [hs 215 _ (by omega) (by omega), hs 213 _ (by omega) (by omega), hs 214 _ (by omega) (by omega), ht7 707 _ (by omega) (by omega), ht7 708 _ (by omega) (by omega)]
    exact a3 k k0 k1
theorem z_cN_c {s s' t t' : z_M} (h0 : ∀ i, 7 ≤ i → i ≤ 12 → s' 0 i = s 0 i) (hs : ∀ a i, a = 3 ∨ a = 4 ∨ a = 7 ∨ a = 9 → s' a i = s a i) (ht : ∀ a i, a = 701 ∨ a = 703 ∨ a = 717 ∨ a = 718 → t' a i = t a i) (h : z_cN s t) : z_cN s' t' := by
  unfold z_cN at h ⊢
  simp only [hs 3 _ (Or.inl rfl), hs 4 _ (Or.inr (Or.inl rfl)), hs 7 _ (Or.inr (Or.inr (Or.inl rfl))), hs 9 _ (Or.inr (Or.inr (Or.inr rfl))), ht 701 _ (Or.inl rfl), ht 703 _ (Or.inr (Or.inl rfl)), ht 717 _ (Or.inr (Or.inr (Or.inl rfl))), ht 718 _ (Or.inr (Or.inr (Or.inr rfl)))]
  rw [h0 7 (by omega) (by omega), h0 8 (by omega) (by omega), h0 9 (by omega) (by omega), h0 10 (by omega) (by omega), h0 11 (by omega) (by omega), h0 12 (by omega) (by omega)]
  exact h
