/-! the reference: its searches as functions -/
def mf_has (t : z_M) (r key : Int) : Bool := (List.range (t 722 r).toNat).any fun i => decide (t 725 (30 * r + (i : Int)) = key)
theorem mf_has_iff {t : z_M} {r key : Int} : mf_has t r key = true ↔ z_has t r key := by
  unfold mf_has z_has
  simp only [List.any_eq_true, List.mem_range, decide_eq_true_eq]
  constructor
  · rintro ⟨i, h1, h2⟩
    exact ⟨(i : Int), by omega, by omega, h2⟩
  · rintro ⟨i, h0, h1, h2⟩
    exact ⟨i.toNat, by omega, by rw [show ((i.toNat : Nat) : Int) = i by omega]; exact h2⟩
def mf_tk (t : z_M) (key but : Int) : Int :=
  if ¬ but = 0 ∧ mf_has t 0 key = true then 0 else if ¬ but = 1 ∧ mf_has t 1 key = true then 1 else if ¬ but = 2 ∧ mf_has t 2 key = true then 2 else if ¬ but = 3 ∧ mf_has t 3 key = true then 3 else -1
theorem mf_tk_sp (t : z_M) (key but : Int) : z_tkOf t key but (mf_tk t key but) := by
  unfold mf_tk z_tkOf
  have hh : ∀ r, z_has t r key ↔ mf_has t r key = true := fun r => mf_has_iff.symm
  simp only [hh]
  by_cases g0 : ¬ but = 0 ∧ mf_has t 0 key = true
  · rw [if_pos g0]; exact Or.inr ⟨by omega, by omega, by omega, g0.2, fun r a b => by omega⟩
  rw [if_neg g0]
  by_cases g1 : ¬ but = 1 ∧ mf_has t 1 key = true
  · rw [if_pos g1]
    refine Or.inr ⟨by omega, by omega, by omega, g1.2, fun r a b hr hh => ?_⟩
    obtain rfl : r = 0 := by omega
    exact g0 ⟨fun q => hr q.symm, hh⟩
  rw [if_neg g1]
  by_cases g2 : ¬ but = 2 ∧ mf_has t 2 key = true
  · rw [if_pos g2]
    refine Or.inr ⟨by omega, by omega, by omega, g2.2, fun r a b hr hh => ?_⟩
    rcases (show r = 0 ∨ r = 1 by omega) with rfl | rfl
    · exact g0 ⟨fun q => hr q.symm, hh⟩
    · exact g1 ⟨fun q => hr q.symm, hh⟩
  rw [if_neg g2]
  by_cases g3 : ¬ but = 3 ∧ mf_has t 3 key = true
  · rw [if_pos g3]
    refine Or.inr ⟨by omega, by omega, by omega, g3.2, fun r a b hr hh => ?_⟩
    rcases (show r = 0 ∨ r = 1 ∨ r = 2 by omega) with rfl | rfl | rfl
    · exact g0 ⟨fun q => hr q.symm, hh⟩
    · exact g1 ⟨fun q => hr q.symm, hh⟩
    · exact g2 ⟨fun q => hr q.symm, hh⟩
  rw [if_neg g3]
  refine Or.inl ⟨rfl, fun r a b hr hh => ?_⟩
  rcases (show r = 0 ∨ r = 1 ∨ r = 2 ∨ r = 3 by omega) with rfl | rfl | rfl | rfl
  · exact g0 ⟨fun q => hr q.symm, hh⟩
  · exact g1 ⟨fun q => hr q.symm, hh⟩
  · exact g2 ⟨fun q => hr q.symm, hh⟩
  · exact g3 ⟨fun q => hr q.symm, hh⟩
theorem z_tkOf_un {t : z_M} {key but b b' : Int} (h : z_tkOf t key but b) (h' : z_tkOf t key but b') : b = b' := by
  rcases h with ⟨h1, h2⟩ | ⟨h1, h2, h3, h4, h5⟩ <;> rcases h' with ⟨k1, k2⟩ | ⟨k1, k2, k3, k4, k5⟩
  · omega
  · exact absurd k4 (h2 b' k1 k2 k3)
  · exact absurd h4 (k2 b h1 h2 h3)
  · rcases Int.lt_trichotomy b b' with q | q | q
    · exact absurd h4 (k5 b h1 q h3)
    · exact q
    · exact absurd k4 (h5 b' k1 q k3)
def mf_wal (t : z_M) (whom : Int) : Nat → Int → Bool
  | 0, _ => false
  | n + 1, one => decide (t 719 one = 2) && (decide (t 723 one = whom) || mf_wal t whom n (t 723 one))
theorem mf_wal_iff {t : z_M} {whom : Int} : ∀ (n : Nat) (one : Int), mf_wal t whom n one = true ↔ z_wal t whom n one
  | 0, one => by simp [mf_wal, z_wal]
  | n + 1, one => by
    simp only [mf_wal, z_wal, Bool.and_eq_true, decide_eq_true_eq, Bool.or_eq_true, mf_wal_iff n]
    constructor
    · rintro ⟨h1, h2⟩
      refine ⟨h1, ?_⟩
      by_cases hw : t 723 one = whom
      · exact Or.inl hw
      · exact Or.inr ⟨hw, h2.resolve_left hw⟩
    · rintro ⟨h1, h2 | h2⟩
      · exact ⟨h1, Or.inl h2⟩
      · exact ⟨h1, Or.inr h2.2⟩
def mf_lw (t : z_M) : Nat → Int
  | 0 => -1
  | n + 1 => if t 707 (n : Int) = 0 then mf_lw t n else if mf_lw t n = -1 then (n : Int) else if mf_worth (n : Int) t < mf_worth (mf_lw t n) t then (n : Int) else mf_lw t n
theorem z_lw_un {t : z_M} {n b b' : Int} (h : z_lw t n b) (h' : z_lw t n b') : b = b' := by
  rcases h with ⟨h1, h2⟩ | ⟨h1, h2, h3, h4⟩ <;> rcases h' with ⟨k1, k2⟩ | ⟨k1, k2, k3, k4⟩
  · omega
  · exact absurd (h2 b' k1 k2) k3
  · exact absurd (k2 b h1 h2) h3
  · have q1 := h4 b' k1 k2 k3
    have q2 := k4 b h1 h2 h3
    omega
theorem mf_lw_sp (t : z_M) : ∀ n : Nat, z_lw t (n : Int) (mf_lw t n)
  | 0 => Or.inl ⟨rfl, fun k a b => by omega⟩
  | n + 1 => by
    have hb := mf_lw_sp t n
    unfold mf_lw
    generalize mf_lw t n = b at hb ⊢
    by_cases w2 : t 707 (n : Int) = 0
    · rw [if_pos w2]
      rcases hb with ⟨rfl, hb⟩ | ⟨b0, b1, b2, b3⟩
      · refine Or.inl ⟨rfl, fun k k0 k1 => ?_⟩
        by_cases hk : k = (n : Int)
        · rw [hk]; exact w2
        · exact hb k k0 (by omega)
      · refine Or.inr ⟨b0, by omega, b2, fun k k0 k1 k2 => ?_⟩
        by_cases hk : k = (n : Int)
        · rw [hk] at k2; exact absurd w2 k2
        · exact b3 k k0 (by omega) k2
    rw [if_neg w2]
    by_cases w3 : b = -1
    · rw [if_pos w3]
      rcases hb with ⟨-, hb⟩ | ⟨b0, b1, b2, b3⟩
      · refine Or.inr ⟨by omega, by omega, w2, fun k k0 k1 k2 => ?_⟩
        by_cases hk : k = (n : Int)
        · exact Or.inr ⟨by rw [hk], by omega⟩
        · exact absurd (hb k k0 (by omega)) k2
      · omega
    rw [if_neg w3]
    rcases hb with ⟨rfl, hb⟩ | ⟨b0, b1, b2, b3⟩
    · exact absurd rfl w3
    by_cases w4 : mf_worth (n : Int) t < mf_worth b t
    · rw [if_pos w4]
      refine Or.inr ⟨by omega, by omega, w2, fun k k0 k1 k2 => ?_⟩
      by_cases hk : k = (n : Int)
      · exact Or.inr ⟨by rw [hk], by omega⟩
      · rcases b3 k k0 (by omega) k2 with q | q
        · exact Or.inl (by omega)
        · exact Or.inl (by omega)
    · rw [if_neg w4]
      refine Or.inr ⟨b0, by omega, b2, fun k k0 k1 k2 => ?_⟩
      by_cases hk : k = (n : Int)
      · subst hk
        by_cases q : mf_worth b t = mf_worth (n : Int) t
        · exact Or.inr ⟨q, by omega⟩
        · exact Or.inl (by omega)
      · exact b3 k k0 (by omega) k2
section MFL
variable {e : z_E} {d : Nat} {σ c t : z_M} {Q : Int → z_M → Prop}
theorem s_M_leastF (h : Q (mf_lw t 1212) (z_gl c t)) : z_C e (d + 2) m_M_leastWorth [z_R 701] (z_gl c t) Q := s_M_leastWorth fun b hb => by
  rw [z_lw_un hb (mf_lw_sp t 1212)]; exact h
theorem s_M_taskF {key but : Int} (h3 : ∀ r, 0 ≤ r → r < 4 → t 722 r ≤ 30) (h : Q (mf_tk t key but) (z_gl c t)) : z_C e (d + 2) m_M_taskOf [z_R 701, z_I key, z_I but] (z_gl c t) Q := s_M_taskOf h3 fun b hb => by
  rw [z_tkOf_un hb (mf_tk_sp t key but)]; exact h
end MFL
