/-! the lengths of chains -/
theorem z_mm_congr {t : z_M} {g g' : Int → Int} {k : Int} : ∀ n : Nat, (∀ i : Int, 0 ≤ i → i < (n : Int) → ¬ t 707 (t 716 (32 * k + i)) = 0 → g' (t 716 (32 * k + i)) = g (t 716 (32 * k + i))) → z_mm t g' k n = z_mm t g k n
  | 0, _ => rfl
  | n + 1, h => by
    unfold z_mm
    rw [z_mm_congr n (fun i a b => h i a (by omega))]
    by_cases hj : t 707 (t 716 (32 * k + (n : Int))) = 0
    · rw [if_neg (fun q => q.1 hj), if_neg (fun q => q.1 hj)]
    · rw [h n (by omega) (by omega) hj]
theorem z_mm_mono {t : z_M} {g g' : Int → Int} {k : Int} (n : Nat) (h : ∀ i : Int, 0 ≤ i → i < (n : Int) → ¬ t 707 (t 716 (32 * k + i)) = 0 → g (t 716 (32 * k + i)) ≤ g' (t 716 (32 * k + i))) : z_mm t g k n ≤ z_mm t g' k n := by
  rcases z_mm_at (t := t) (g := g) (k := k) n with q | ⟨i, i0, i1, i2, i3⟩
  · rw [q]; exact z_mm_nn n
  · rw [i3]
    have := h i i0 i1 i2
    have := z_mm_ge (g := g') n i0 i1 i2
    omega
def z_Lv (t : z_M) : Nat → Int → Int
  | 0 => fun _ => 1
  | n + 1 => fun k => 1 + z_mm t (z_Lv t n) k (t 715 k).toNat
theorem z_KR_asks {t : z_M} {k : Int} {n : Nat} {w : Int × Int × List Int} (h : z_KR t k) (e : z_ev t n k = some w) : ∃ n', n = n' + 1 ∧ ∀ i, 0 ≤ i → i < t 715 k → ∃ w', z_ev t n' (t 716 (32 * k + i)) = some w' := by
  obtain ⟨-, h2, -, -, m, hm⟩ := h
  have hw := z_ev_un e hm
  cases n with
  | zero => cases e
  | succ n =>
    refine ⟨n, rfl, fun i i0 i1 => ?_⟩
    refine z_ev_asks e _ ?_
    rw [hw]
    exact (z_ll_mem _).mpr ⟨i, i0, by omega, rfl⟩
theorem z_Lv_st {t : z_M} (hT : z_TT t) (hKK : z_KK t) : ∀ (n : Nat) (k : Int), 0 ≤ k → k < 1212 → ¬ t 707 k = 0 → (∃ w, z_ev t n k = some w) → ∀ m, n ≤ m → z_Lv t m k = z_Lv t n k
  | 0, k, k0, k1, hk, ⟨w, e⟩, m, hm => by cases e
  | n + 1, k, k0, k1, hk, ⟨w, e⟩, m, hm => by
    obtain ⟨m', rfl⟩ : ∃ m', m = m' + 1 := ⟨m - 1, by omega⟩
    have hkr := hKK.1 k k0 k1 hk
    have h15 := hkr.2.1
    obtain ⟨-, -, w3⟩ := z_KR_sz hT k0 k1 hkr
    obtain ⟨n', hn', ha⟩ := z_KR_asks hkr e
    obtain rfl : n = n' := by omega
    show 1 + z_mm t (z_Lv t m') k (t 715 k).toNat = 1 + z_mm t (z_Lv t n) k (t 715 k).toNat
    rw [z_mm_congr (t := t) (k := k) (g := z_Lv t n) (g' := z_Lv t m') (t 715 k).toNat (fun i i0 i1 i2 => ?_)]
    obtain ⟨j0, j1⟩ := w3 i i0 (by omega)
    exact z_Lv_st hT hKK n _ j0 j1 i2 (ha i i0 (by omega)) m' (by omega)
theorem z_ev_N {t : z_M} (hKK : z_KK t) : ∀ b : Nat, b ≤ 1212 → ∃ N, ∀ k : Int, 0 ≤ k → k < (b : Int) → ¬ t 707 k = 0 → ∃ w, z_ev t N k = some w
  | 0, _ => ⟨0, fun k a b => by omega⟩
  | b + 1, hb => by
    obtain ⟨N, hN⟩ := z_ev_N hKK b (by omega)
    by_cases hk : t 707 (b : Int) = 0
    · refine ⟨N, fun k a c q => ?_⟩
      by_cases hkb : k = (b : Int)
      · rw [hkb] at q; exact absurd hk q
      · exact hN k a (by omega) q
    · obtain ⟨-, -, -, -, m, hm⟩ := hKK.1 b (by omega) (by omega) hk
      refine ⟨max N m, fun k a c q => ?_⟩
      by_cases hkb : k = (b : Int)
      · rw [hkb]; exact ⟨_, z_ev_le (Nat.le_max_right N m) _ _ hm⟩
      · obtain ⟨w, hw⟩ := hN k a (by omega) q
        exact ⟨w, z_ev_le (Nat.le_max_left N m) _ _ hw⟩
/-- the lengths: what they keep -/
def z_LL (t : z_M) (L : Int → Int) : Prop := (∀ k, 1 ≤ L k) ∧ (∀ k, 0 ≤ k → k < 1212 → ¬ t 707 k = 0 → L k = 1 + z_mm t L k (t 715 k).toNat) ∧ ∀ g : Int → Int, (∀ k, 0 ≤ k → k < 1212 → ¬ t 707 k = 0 → 1 + z_mm t g k (t 715 k).toNat ≤ g k) → ∀ k, 0 ≤ k → k < 1212 → ¬ t 707 k = 0 → L k ≤ g k
theorem z_LL_ex {t : z_M} (hT : z_TT t) (hKK : z_KK t) : ∃ L, z_LL t L := by
  obtain ⟨N, hN⟩ := z_ev_N hKK 1212 (Nat.le_refl _)
  have h1 : ∀ n k, 1 ≤ z_Lv t n k := fun n k => by
    cases n with
    | zero => exact Int.le_refl _
    | succ n => show 1 ≤ 1 + z_mm t (z_Lv t n) k (t 715 k).toNat; have := z_mm_nn (t := t) (g := z_Lv t n) (k := k) (t 715 k).toNat; omega
  have h2 : ∀ k, 0 ≤ k → k < 1212 → ¬ t 707 k = 0 → z_Lv t N k = 1 + z_mm t (z_Lv t N) k (t 715 k).toNat := fun k k0 k1 hk => (z_Lv_st hT hKK N k k0 k1 hk (hN k k0 (by omega) hk) (N + 1) (by omega)).symm
  refine ⟨z_Lv t N, h1 N, h2, fun g hg => ?_⟩
  have key : ∀ (n : Nat) (k : Int), 0 ≤ k → k < 1212 → ¬ t 707 k = 0 → (∃ w, z_ev t n k = some w) → z_Lv t N k ≤ g k := by
    intro n
    induction n with
    | zero => intro k k0 k1 hk ⟨w, e⟩; cases e
    | succ n ih =>
      intro k k0 k1 hk ⟨w, e⟩
      have hkr := hKK.1 k k0 k1 hk
      obtain ⟨-, -, w3⟩ := z_KR_sz hT k0 k1 hkr
      obtain ⟨n', hn', ha⟩ := z_KR_asks hkr e
      obtain rfl : n = n' := by omega
      have a := hg k k0 k1 hk
      have b := z_mm_mono (t := t) (k := k) (g := z_Lv t N) (g' := g) (t 715 k).toNat (fun i i0 i1 i2 => by
        obtain ⟨j0, j1⟩ := w3 i i0 (by omega)
        exact ih _ j0 j1 i2 (ha i i0 (by omega)))
      have c := h2 k k0 k1 hk
      omega
  exact fun k k0 k1 hk => key N k k0 k1 hk (hN k k0 (by omega) hk)
theorem z_LL_dn {t : z_M} {L : Int → Int} (hT : z_TT t) (hKK : z_KK t) (h : z_LL t L) : ∀ (d : Nat) (k m : Int), 0 ≤ k → k < 1212 → ¬ t 707 k = 0 → 1 ≤ m → L k = m + (d : Int) → ∃ j, (0 ≤ j ∧ j < 1212) ∧ ¬ t 707 j = 0 ∧ L j = m
  | 0, k, m, k0, k1, hk, m1, hd => ⟨k, ⟨k0, k1⟩, hk, by omega⟩
  | d + 1, k, m, k0, k1, hk, m1, hd => by
    have hkr := hKK.1 k k0 k1 hk
    obtain ⟨-, -, w3⟩ := z_KR_sz hT k0 k1 hkr
    have e := h.2.1 k k0 k1 hk
    rcases z_mm_at (t := t) (g := L) (k := k) (t 715 k).toNat with q | ⟨i, i0, i1, i2, i3⟩
    · omega
    · obtain ⟨j0, j1⟩ := w3 i i0 (by omega)
      exact z_LL_dn hT hKK h d _ m j0 j1 i2 m1 (by omega)
theorem z_LL_le {t : z_M} {L : Int → Int} (hT : z_TT t) (hKK : z_KK t) (h : z_LL t L) {k : Int} (k0 : 0 ≤ k) (k1 : k < 1212) (hk : ¬ t 707 k = 0) : L k ≤ z_sum t (fun _ => 1) 1212 := by
  have key : ∀ m : Nat, (m : Int) ≤ L k → (m : Int) ≤ z_cn t (fun j => if L j ≤ (m : Int) then 1 else 0) 1212 := by
    intro m
    induction m with
    | zero => intro _; exact (z_cn_le 1212).1
    | succ m ih =>
      intro hm
      have a := ih (by omega)
      obtain ⟨j, ⟨j0, j1⟩, hj, hL⟩ := z_LL_dn hT hKK h (L k - ((m : Int) + 1)).toNat k ((m : Int) + 1) k0 k1 hk (by omega) (by omega)
      have b := z_cn_add (t := t) (x := j) (g := fun j => if L j ≤ (m : Int) then 1 else 0) (g' := fun x => if x = j then 1 else if L x ≤ (m : Int) then 1 else 0) j0 hj (if_neg (by omega)) (by rw [if_pos rfl]; decide) (fun x hx => by rw [if_neg hx]) 1212
      rw [if_pos (by omega)] at b
      have c := z_cn_sub (t := t) (g := fun x => if x = j then 1 else if L x ≤ (m : Int) then 1 else 0) (g' := fun x => if L x ≤ ((m + 1 : Nat) : Int) then 1 else 0) 1212 (fun x _ _ _ hx => by
        by_cases hxj : x = j
        · rw [hxj, if_pos (by omega)]; decide
        · rw [if_neg hxj] at hx
          by_cases hl : L x ≤ (m : Int)
          · rw [if_pos (by omega)]; decide
          · rw [if_neg hl] at hx; exact absurd rfl hx)
      omega
  have a := key (L k).toNat (by have := h.1 k; omega)
  have b := (z_cn_le (t := t) (g := fun j => if L j ≤ ((L k).toNat : Int) then 1 else 0) 1212).2
  have := h.1 k
  omega
