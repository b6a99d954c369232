/-! sums over the kept keys -/
def z_sum (t : z_M) (g : Int → Int) : Nat → Int
  | 0 => 0
  | n + 1 => z_sum t g n + (if t 707 (n : Int) = 0 then 0 else g (n : Int))
theorem z_sum_congr {t t' : z_M} {g g' : Int → Int} : ∀ (n : Nat), (∀ k : Int, 0 ≤ k → k < (n : Int) → (t' 707 k = 0 ↔ t 707 k = 0)) → (∀ k : Int, 0 ≤ k → k < (n : Int) → ¬ t 707 k = 0 → g' k = g k) → z_sum t' g' n = z_sum t g n
  | 0, _, _ => rfl
  | n + 1, h1, h2 => by
    unfold z_sum
    rw [z_sum_congr n (fun k a b => h1 k a (by omega)) (fun k a b => h2 k a (by omega))]
    by_cases hk : t 707 (n : Int) = 0
    · rw [if_pos hk, if_pos ((h1 n (by omega) (by omega)).mpr hk)]
    · rw [if_neg hk, if_neg (fun q => hk ((h1 n (by omega) (by omega)).mp q)), h2 n (by omega) (by omega) hk]
/-- one key is kept no more -/
theorem z_sum_del {t t' : z_M} {g : Int → Int} {b : Int} (hb : ¬ t 707 b = 0) (hb' : t' 707 b = 0) (ho : ∀ k, ¬ k = b → t' 707 k = t 707 k) (h0 : 0 ≤ b) : ∀ (n : Nat), z_sum t' g n = z_sum t g n - (if b < (n : Int) then g b else 0)
  | 0 => by unfold z_sum; rw [if_neg (by omega)]; rfl
  | n + 1 => by
    unfold z_sum
    rw [z_sum_del hb hb' ho h0 n]
    by_cases hk : (n : Int) = b
    · rw [hk, if_pos hb', if_neg hb, if_neg (by omega), if_pos (by omega)]; omega
    · rw [ho n hk]
      by_cases hlt : b < (n : Int)
      · rw [if_pos hlt, if_pos (show b < ((n + 1 : Nat) : Int) by omega)]; generalize (if t 707 (n : Int) = 0 then 0 else g (n : Int)) = w; omega
      · rw [if_neg hlt, if_neg (show ¬ b < ((n + 1 : Nat) : Int) by omega)]; generalize (if t 707 (n : Int) = 0 then 0 else g (n : Int)) = w; omega
/-- one key more is kept -/
theorem z_sum_add {t t' : z_M} {g g' : Int → Int} {b : Int} (hb : t 707 b = 0) (hb' : ¬ t' 707 b = 0) (ho : ∀ k, ¬ k = b → t' 707 k = t 707 k ∧ g' k = g k) (h0 : 0 ≤ b) : ∀ (n : Nat), z_sum t' g' n = z_sum t g n + (if b < (n : Int) then g' b else 0)
  | 0 => by unfold z_sum; rw [if_neg (by omega)]; rfl
  | n + 1 => by
    unfold z_sum
    rw [z_sum_add hb hb' ho h0 n]
    by_cases hk : (n : Int) = b
    · rw [hk, if_neg hb', if_pos hb, if_neg (by omega), if_pos (by omega)]; (try omega)
    · rw [(ho n hk).1, (ho n hk).2]
      by_cases hlt : b < (n : Int)
      · rw [if_pos hlt, if_pos (show b < ((n + 1 : Nat) : Int) by omega)]; generalize (if t 707 (n : Int) = 0 then 0 else g (n : Int)) = w; omega
      · rw [if_neg hlt, if_neg (show ¬ b < ((n + 1 : Nat) : Int) by omega)]; generalize (if t 707 (n : Int) = 0 then 0 else g (n : Int)) = w; omega
theorem z_sum_nn {t : z_M} {g : Int → Int} : ∀ (n : Nat), (∀ k : Int, 0 ≤ k → k < (n : Int) → ¬ t 707 k = 0 → 0 ≤ g k) → 0 ≤ z_sum t g n
  | 0, _ => Int.le_refl _
  | n + 1, h => by
    unfold z_sum
    have h1 := z_sum_nn n (fun k a b => h k a (by omega))
    by_cases hk : t 707 (n : Int) = 0
    · rw [if_pos hk]; omega
    · rw [if_neg hk]; have := h n (by omega) (by omega) hk; omega
theorem z_sum_none {t : z_M} {g : Int → Int} : ∀ (n : Nat), (∀ k : Int, 0 ≤ k → k < (n : Int) → t 707 k = 0) → z_sum t g n = 0
  | 0, _ => rfl
  | n + 1, h => by
    unfold z_sum
    rw [z_sum_none n (fun k a b => h k a (by omega)), if_pos (h n (by omega) (by omega))]; rfl
/-- the weights are m times the number at least -/
theorem z_sum_ge {t : z_M} {g : Int → Int} {m : Int} : ∀ (n : Nat), (∀ k : Int, 0 ≤ k → k < (n : Int) → ¬ t 707 k = 0 → m ≤ g k) → m * z_sum t (fun _ => 1) n ≤ z_sum t g n
  | 0, _ => by unfold z_sum; omega
  | n + 1, h => by
    unfold z_sum
    have h1 := z_sum_ge (m := m) n (fun k a b => h k a (by omega))
    by_cases hk : t 707 (n : Int) = 0
    · rw [if_pos hk, if_pos hk, Int.add_zero, Int.add_zero]; exact h1
    · rw [if_neg hk, if_neg hk]
      have := h n (by omega) (by omega) hk
      rw [Int.mul_add]; omega
theorem z_sum_one {t : z_M} {b : Int} {n : Nat} (hb : ¬ t 707 b = 0) (h0 : 0 ≤ b) (h1 : b < (n : Int)) : 1 ≤ z_sum t (fun _ => 1) n := by
  have h := z_sum_del (t := t) (t' := z_up t 707 b 0) (g := fun _ => 1) hb z_up_eq (fun k hk => z_up_ne (Or.inr hk)) h0 n
  have h2 := z_sum_nn (t := z_up t 707 b 0) (g := fun _ => 1) n (fun _ _ _ _ => by omega)
  rw [if_pos h1] at h
  omega
/-- the kept keys add up -/
def z_sums (t : z_M) : Prop := t 701 22 = z_sum t (t 710) 1212 ∧ t 701 23 = z_sum t (fun _ => 1) 1212 ∧ ∀ k, 0 ≤ k → k < 1212 → ¬ t 707 k = 0 → 3 ≤ t 710 k ∧ t 710 k ≤ 31
theorem z_sum_le {t : z_M} {g : Int → Int} {m : Int} (hm : 0 ≤ m) : ∀ (n : Nat), (∀ k : Int, 0 ≤ k → k < (n : Int) → ¬ t 707 k = 0 → g k ≤ m) → z_sum t g n ≤ m * (n : Int)
  | 0, _ => by unfold z_sum; omega
  | n + 1, h => by
    unfold z_sum
    have h1 := z_sum_le hm n (fun k a b => h k a (by omega))
    have h2 : m * ((n + 1 : Nat) : Int) = m * (n : Int) + m := by rw [show ((n + 1 : Nat) : Int) = (n : Int) + 1 by omega, Int.mul_add]; omega
    by_cases hk : t 707 (n : Int) = 0
    · rw [if_pos hk]; omega
    · rw [if_neg hk]; have := h n (by omega) (by omega) hk; omega
theorem z_sums_rng {t : z_M} (h : z_sums t) : 0 ≤ t 701 22 ∧ t 701 22 ≤ 37572 ∧ 0 ≤ t 701 23 ∧ t 701 23 ≤ 1212 ∧ 3 * t 701 23 ≤ t 701 22 := by
  obtain ⟨h1, h2, h3⟩ := h
  have a1 := z_sum_nn (t := t) (g := t 710) 1212 (fun k a b c => by have := h3 k a b c; omega)
  have a2 := z_sum_le (t := t) (g := t 710) (m := 31) (by omega) 1212 (fun k a b c => (h3 k a b c).2)
  have a3 := z_sum_nn (t := t) (g := fun _ => 1) 1212 (fun k a b c => by omega)
  have a4 := z_sum_le (t := t) (g := fun _ => 1) (m := 1) (by omega) 1212 (fun k a b c => by omega)
  have a5 := z_sum_ge (t := t) (g := t 710) (m := 3) 1212 (fun k a b c => (h3 k a b c).1)
  rw [h1, h2]
  omega
theorem z_sums_goes {t : z_M} {b : Int} (h : z_sums t) (h0 : 0 ≤ b) (h1 : b < 1212) (hb : ¬ t 707 b = 0) : z_sums (mf_goes b t) ∧ mf_goes b t 701 23 = t 701 23 - 1 ∧ mf_goes b t 701 22 = t 701 22 - t 710 b := by
  have hr := z_sums_rng h
  obtain ⟨e1, e2, e3⟩ := h
  have hw := e3 b h0 h1 hb
  have f707 : ∀ k, mf_goes b t 707 k = if k = b then 0 else t 707 k := fun k => by unfold mf_goes; simp [z_upd]
  have f710 : ∀ k, mf_goes b t 710 k = t 710 k := fun k => by unfold mf_goes; simp [z_upd]
  have f22 : mf_goes b t 701 22 = t 701 22 - t 710 b := by
    unfold mf_goes; simp [z_upd]; exact z_wr_id (by omega) (by omega)
  have f23 : mf_goes b t 701 23 = t 701 23 - 1 := by
    unfold mf_goes; simp [z_upd]; exact z_wr_id (by omega) (by omega)
  have hd := fun g => z_sum_del (t := t) (t' := mf_goes b t) (g := g) hb (by rw [f707, if_pos rfl]) (fun k hk => by rw [f707, if_neg hk]) h0 1212
  refine ⟨⟨?_, ?_, fun k a1 a2 a3 => ?_⟩, f23, f22⟩
  · rw [f22, show mf_goes b t 710 = t 710 from funext f710, hd, if_pos (by omega), e1]
  · rw [f23, hd, if_pos (by omega), e2]
  · rw [f710]
    rw [f707] at a3
    by_cases hk : k = b
    · rw [if_pos hk] at a3; exact absurd rfl a3
    · rw [if_neg hk] at a3; exact e3 k a1 a2 a3
