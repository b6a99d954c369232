/-! the reference reads what the function says -/
section EQS
variable {g : Int → Int} {N : Int} {n : Nat} {o b p : Int}
theorem z_ps_E : z_ps g N (n + 1) 0 o b p = z_bd (z_ps g N n 1 o b p) fun p1 c1 =>
      if z_pk g N p1 = 63 then (if 5 ≤ o then some (.inl p1) else z_bd (z_ps g N n 0 (o + 1) (b + c1.length + 1) (p1 + 1)) fun p2 c2 =>
        if z_pk g N p2 = 58 then z_bd (z_ps g N n 0 o (b + c1.length + 1 + c2.length + 1) (p2 + 1)) fun p3 c3 => some (.inr (p3, c1 ++ (12, 2 * (b + c1.length + 1 + c2.length + 1)) :: (c2 ++ (13, 2 * (b + c1.length + 1 + c2.length + 1 + c3.length)) :: c3)))
        else some (.inl p2))
      else some (.inr (p1, c1)) := rfl
theorem z_ps_C : z_ps g N (n + 1) 1 o b p = z_bd (z_ps g N n 2 o b p) fun p1 c1 =>
      if z_pk g N p1 = 60 ∨ z_pk g N p1 = 61 then z_bd (z_ps g N n 2 o (b + c1.length) (p1 + 1)) fun p2 c2 => some (.inr (p2, c1 ++ (c2 ++ [(if z_pk g N p1 = 60 then 9 else 10, 0)])))
      else some (.inr (p1, c1)) := rfl
theorem z_ps_S : z_ps g N (n + 1) 2 o b p = z_bd (z_ps g N n 3 o b p) fun p1 c1 => z_bd (z_ps g N n 5 o (b + c1.length) p1) fun p2 c2 => some (.inr (p2, c1 ++ c2)) := rfl
theorem z_ps_P : z_ps g N (n + 1) 3 o b p = z_bd (z_ps g N n 4 o b p) fun p1 c1 => z_bd (z_ps g N n 6 o (b + c1.length) p1) fun p2 c2 => some (.inr (p2, c1 ++ c2)) := rfl
theorem z_ps_R : z_ps g N (n + 1) 5 o b p = (if z_pk g N p = 43 ∨ z_pk g N p = 45 then z_bd (z_ps g N n 3 o b (p + 1)) fun p1 c1 => z_bd (z_ps g N n 5 o (b + c1.length + 1) p1) fun p2 c2 => some (.inr (p2, c1 ++ (if z_pk g N p = 43 then 5 else 6, 0) :: c2)) else some (.inr (p, []))) := rfl
theorem z_ps_T : z_ps g N (n + 1) 6 o b p = (if z_pk g N p = 42 ∨ z_pk g N p = 47 then z_bd (z_ps g N n 4 o b (p + 1)) fun p1 c1 => z_bd (z_ps g N n 6 o (b + c1.length + 1) p1) fun p2 c2 => some (.inr (p2, c1 ++ (if z_pk g N p = 42 then 7 else 8, 0) :: c2)) else some (.inr (p, []))) := rfl
theorem z_ps_B : z_ps g N (n + 1) 7 o b p = (if z_pk g N p = 40 then (if 5 ≤ o then some (.inl p) else z_bd (z_ps g N n 0 (o + 1) b (p + 1)) fun p1 c1 => if z_pk g N p1 = 41 then some (.inr (p1 + 1, c1)) else some (.inl p1)) else some (.inl p)) := rfl
theorem z_ps_U : z_ps g N (n + 1) 4 o b p = (if z_pk g N p = 40 then z_ps g N n 7 o b p
    else if z_pk g N p = 45 then (if 5 ≤ o then some (.inl p) else z_bd (z_ps g N n 4 (o + 1) b (p + 1)) fun p1 c1 => some (.inr (p1, c1 ++ [(11, 0)])))
    else if z_pk g N p = 99 then (if z_dg (z_pk g N (p + 1)) then (if (z_nm g N (p + 1)).2 < 12 then some (.inr ((z_nm g N (p + 1)).1, [(3, (z_nm g N (p + 1)).2)])) else some (.inl (p + 1))) else some (.inl (p + 1)))
    else if z_pk g N p = 102 then (if z_dg (z_pk g N (p + 1)) then (if (z_nm g N (p + 1)).2 < 12 then z_bd (z_ps g N n 7 o b (z_nm g N (p + 1)).1) fun p1 c1 => some (.inr (p1, c1 ++ [(4, (z_nm g N (p + 1)).2)])) else some (.inl (p + 1))) else some (.inl (p + 1)))
    else if z_pk g N p = 120 then some (.inr (p + 1, [(2, 0)]))
    else if z_dg (z_pk g N p) then some (.inr ((z_nm g N p).1, [(1, (z_nm g N p).2)])) else some (.inl p)) := rfl
end EQS
/-- the letters are used up: what comes out of the function -/
def z_mu (k : Nat) : Int := if k = 0 then 7 else if k = 1 then 6 else if k = 2 then 5 else if k = 3 then 4 else if k = 4 then 3 else if k = 7 then 2 else 1
theorem z_nm_rng {g : Int → Int} {N p : Int} (h : z_dg (z_pk g N p)) : p + 1 ≤ (z_nm g N p).1 ∧ (z_nm g N p).1 ≤ N ∧ 0 ≤ (z_nm g N p).2 ∧ (z_nm g N p).2 ≤ 99 := by
  have h1 := z_pk_lt (g := g) (N := N) (p := p) rfl (by have := h.1; omega)
  unfold z_nm
  by_cases q : z_dg (z_pk g N (p + 1))
  · have h2 := z_pk_lt (g := g) (N := N) (p := p + 1) rfl (by have := q.1; omega)
    rw [if_pos q]
    have := h.1; have := h.2; have := q.1; have := q.2
    exact ⟨by show p + 1 ≤ p + 2; omega, by show p + 2 ≤ N; omega, by show 0 ≤ 10 * (z_pk g N p - 48) + (z_pk g N (p + 1) - 48); omega, by show 10 * (z_pk g N p - 48) + (z_pk g N (p + 1) - 48) ≤ 99; omega⟩
  · rw [if_neg q]
    have := h.1; have := h.2
    exact ⟨by show p + 1 ≤ p + 1; omega, by show p + 1 ≤ N; omega, by show 0 ≤ z_pk g N p - 48; omega, by show z_pk g N p - 48 ≤ 99; omega⟩
/-- a result that is well in its bounds -/
def z_ok2 (N p : Int) (k : Nat) (w : Sum Int (Int × z_Cd)) : Prop := match w with
  | .inl f => p ≤ f ∧ f ≤ N
  | .inr (q, c) => p ≤ q ∧ q ≤ N ∧ (c.length : Int) ≤ q - p ∧ (k = 5 ∨ k = 6 ∨ p < q)
theorem z_bd_ok {x : z_Pr} {f : Int → z_Cd → z_Pr} {P : Sum Int (Int × z_Cd) → Prop} {k' : Nat} {N p' : Int} (hx : ∃ w, x = some w ∧ z_ok2 N p' k' w) (hl : ∀ q, p' ≤ q → q ≤ N → P (.inl q)) (hr : ∀ q c, x = some (.inr (q, c)) → p' ≤ q → q ≤ N → (c.length : Int) ≤ q - p' → (k' = 5 ∨ k' = 6 ∨ p' < q) → ∃ w, f q c = some w ∧ P w) : ∃ w, z_bd x f = some w ∧ P w := by
  obtain ⟨w, rfl, hw⟩ := hx
  match w, hw with
  | .inl q, hw => exact ⟨_, rfl, hl q hw.1 hw.2⟩
  | .inr (q, c), hw => exact hr q c rfl hw.1 hw.2.1 hw.2.2.1 hw.2.2.2
theorem z_ps_ok {g : Int → Int} {N : Int} : ∀ (n : Nat) (k : Nat) (o b p : Int), k < 8 → 0 ≤ p → p ≤ N → 8 * (N - p) + z_mu k ≤ (n : Int) → ∃ w, z_ps g N n k o b p = some w ∧ z_ok2 N p k w
  | 0, k, o, b, p, hk, h0, h1, hm => by
    unfold z_mu at hm
    exfalso
    repeat' split at hm
    all_goals omega
  | n + 1, k, o, b, p, hk, h0, h1, hm => by
    have lt : ∀ {q x : Int}, z_pk g N q = x → ¬ x = -1 → q < N := fun h hx => z_pk_lt h hx
    rcases (show k = 0 ∨ k = 1 ∨ k = 2 ∨ k = 3 ∨ k = 4 ∨ k = 5 ∨ k = 6 ∨ k = 7 by omega) with rfl | rfl | rfl | rfl | rfl | rfl | rfl | rfl
    · rw [z_ps_E]
      have hm : 8 * (N - p) + 7 ≤ ((n + 1 : Nat) : Int) := hm
      refine z_bd_ok (z_ps_ok n 1 o b p (by omega) h0 h1 (by show 8 * (N - p) + 6 ≤ (n : Int); omega)) (fun q a c => ⟨a, c⟩) (fun p1 c1 _ a1 a2 a3 a4 => ?_)
      by_cases q1 : z_pk g N p1 = 63
      · rw [if_pos q1]
        have l1 := lt q1 (by decide)
        by_cases q2 : 5 ≤ o
        · rw [if_pos q2]; exact ⟨_, rfl, a1, a2⟩
        · rw [if_neg q2]
          refine z_bd_ok (z_ps_ok n 0 (o + 1) _ (p1 + 1) (by omega) (by omega) (by omega) (by show 8 * (N - (p1 + 1)) + 7 ≤ (n : Int); omega)) (fun q a c => ⟨by omega, c⟩) (fun p2 c2 _ b1 b2 b3 b4 => ?_)
          by_cases q3 : z_pk g N p2 = 58
          · rw [if_pos q3]
            have l2 := lt q3 (by decide)
            refine z_bd_ok (z_ps_ok n 0 o _ (p2 + 1) (by omega) (by omega) (by omega) (by show 8 * (N - (p2 + 1)) + 7 ≤ (n : Int); omega)) (fun q a c => ⟨by omega, c⟩) (fun p3 c3 _ d1 d2 d3 d4 => ⟨_, rfl, by omega, by omega, ?_, by omega⟩)
            simp only [List.length_append, List.length_cons]
            omega
          · rw [if_neg q3]; exact ⟨_, rfl, by omega, by omega⟩
      · rw [if_neg q1]; exact ⟨_, rfl, a1, a2, a3, by omega⟩
    · rw [z_ps_C]
      have hm : 8 * (N - p) + 6 ≤ ((n + 1 : Nat) : Int) := hm
      refine z_bd_ok (z_ps_ok n 2 o b p (by omega) h0 h1 (by show 8 * (N - p) + 5 ≤ (n : Int); omega)) (fun q a c => ⟨a, c⟩) (fun p1 c1 _ a1 a2 a3 a4 => ?_)
      by_cases q1 : z_pk g N p1 = 60 ∨ z_pk g N p1 = 61
      · rw [if_pos q1]
        have l1 : p1 < N := by rcases q1 with q | q <;> exact lt q (by decide)
        refine z_bd_ok (z_ps_ok n 2 o _ (p1 + 1) (by omega) (by omega) (by omega) (by show 8 * (N - (p1 + 1)) + 5 ≤ (n : Int); omega)) (fun q a c => ⟨by omega, c⟩) (fun p2 c2 _ b1 b2 b3 b4 => ⟨_, rfl, by omega, by omega, ?_, by omega⟩)
        simp only [List.length_append, List.length_cons, List.length_nil]
        omega
      · rw [if_neg q1]; exact ⟨_, rfl, a1, a2, a3, by omega⟩
    · rw [z_ps_S]
      have hm : 8 * (N - p) + 5 ≤ ((n + 1 : Nat) : Int) := hm
      refine z_bd_ok (z_ps_ok n 3 o b p (by omega) h0 h1 (by show 8 * (N - p) + 4 ≤ (n : Int); omega)) (fun q a c => ⟨a, c⟩) (fun p1 c1 _ a1 a2 a3 a4 => ?_)
      refine z_bd_ok (z_ps_ok n 5 o _ p1 (by omega) (by omega) (by omega) (by show 8 * (N - p1) + 1 ≤ (n : Int); omega)) (fun q a c => ⟨by omega, c⟩) (fun p2 c2 _ b1 b2 b3 b4 => ⟨_, rfl, by omega, by omega, ?_, by omega⟩)
      simp only [List.length_append]
      omega
    · rw [z_ps_P]
      have hm : 8 * (N - p) + 4 ≤ ((n + 1 : Nat) : Int) := hm
      refine z_bd_ok (z_ps_ok n 4 o b p (by omega) h0 h1 (by show 8 * (N - p) + 3 ≤ (n : Int); omega)) (fun q a c => ⟨a, c⟩) (fun p1 c1 _ a1 a2 a3 a4 => ?_)
      refine z_bd_ok (z_ps_ok n 6 o _ p1 (by omega) (by omega) (by omega) (by show 8 * (N - p1) + 1 ≤ (n : Int); omega)) (fun q a c => ⟨by omega, c⟩) (fun p2 c2 _ b1 b2 b3 b4 => ⟨_, rfl, by omega, by omega, ?_, by omega⟩)
      simp only [List.length_append]
      omega
    · rw [z_ps_U]
      have hm : 8 * (N - p) + 3 ≤ ((n + 1 : Nat) : Int) := hm
      by_cases q1 : z_pk g N p = 40
      · rw [if_pos q1]
        obtain ⟨w, e, hw⟩ := z_ps_ok n 7 o b p (by omega) h0 h1 (by show 8 * (N - p) + 2 ≤ (n : Int); omega)
        refine ⟨w, e, ?_⟩
        match w, hw with
        | .inl f, hw => exact hw
        | .inr (q, c), hw => exact ⟨hw.1, hw.2.1, hw.2.2.1, by have := hw.2.2.2; omega⟩
      rw [if_neg q1]
      by_cases q2 : z_pk g N p = 45
      · rw [if_pos q2]
        have l1 := lt q2 (by decide)
        by_cases q3 : 5 ≤ o
        · rw [if_pos q3]; exact ⟨_, rfl, by omega, by omega⟩
        · rw [if_neg q3]
          refine z_bd_ok (z_ps_ok n 4 (o + 1) b (p + 1) (by omega) (by omega) (by omega) (by show 8 * (N - (p + 1)) + 3 ≤ (n : Int); omega)) (fun q a c => ⟨by omega, c⟩) (fun p1 c1 _ b1 b2 b3 b4 => ⟨_, rfl, by omega, by omega, ?_, by omega⟩)
          simp only [List.length_append, List.length_cons, List.length_nil]
          omega
      rw [if_neg q2]
      by_cases q3 : z_pk g N p = 99
      · rw [if_pos q3]
        have l1 := lt q3 (by decide)
        by_cases q4 : z_dg (z_pk g N (p + 1))
        · obtain ⟨r1, r2, r3, r4⟩ := z_nm_rng q4
          rw [if_pos q4]
          by_cases q5 : (z_nm g N (p + 1)).2 < 12
          · rw [if_pos q5]
            exact ⟨_, rfl, by omega, by omega, by show ((1 : Nat) : Int) ≤ _; omega, by omega⟩
          · rw [if_neg q5]; exact ⟨_, rfl, by omega, by omega⟩
        · rw [if_neg q4]; exact ⟨_, rfl, by omega, by omega⟩
      rw [if_neg q3]
      by_cases q3b : z_pk g N p = 102
      · rw [if_pos q3b]
        have l1 := lt q3b (by decide)
        by_cases q4 : z_dg (z_pk g N (p + 1))
        · obtain ⟨r1, r2, r3, r4⟩ := z_nm_rng q4
          rw [if_pos q4]
          by_cases q5 : (z_nm g N (p + 1)).2 < 12
          · rw [if_pos q5]
            refine z_bd_ok (z_ps_ok n 7 o b (z_nm g N (p + 1)).1 (by omega) (by omega) (by omega) (by show 8 * (N - (z_nm g N (p + 1)).1) + 2 ≤ (n : Int); omega)) (fun q a c => ⟨by omega, c⟩) (fun p1 c1 _ b1 b2 b3 b4 => ⟨_, rfl, by omega, by omega, ?_, by omega⟩)
            simp only [List.length_append, List.length_cons, List.length_nil]
            omega
          · rw [if_neg q5]; exact ⟨_, rfl, by omega, by omega⟩
        · rw [if_neg q4]; exact ⟨_, rfl, by omega, by omega⟩
      rw [if_neg q3b]
      by_cases q6 : z_pk g N p = 120
      · rw [if_pos q6]
        have l1 := lt q6 (by decide)
        exact ⟨_, rfl, by omega, by omega, by show ((1 : Nat) : Int) ≤ _; omega, by omega⟩
      rw [if_neg q6]
      by_cases q7 : z_dg (z_pk g N p)
      · obtain ⟨r1, r2, r3, r4⟩ := z_nm_rng q7
        rw [if_pos q7]
        exact ⟨_, rfl, by omega, by omega, by show ((1 : Nat) : Int) ≤ _; omega, by omega⟩
      · rw [if_neg q7]; exact ⟨_, rfl, by omega, by omega⟩
    · rw [z_ps_R]
      have hm : 8 * (N - p) + 1 ≤ ((n + 1 : Nat) : Int) := hm
      by_cases q1 : z_pk g N p = 43 ∨ z_pk g N p = 45
      · rw [if_pos q1]
        have l1 : p < N := by rcases q1 with q | q <;> exact lt q (by decide)
        refine z_bd_ok (z_ps_ok n 3 o b (p + 1) (by omega) (by omega) (by omega) (by show 8 * (N - (p + 1)) + 4 ≤ (n : Int); omega)) (fun q a c => ⟨by omega, c⟩) (fun p1 c1 _ b1 b2 b3 b4 => ?_)
        refine z_bd_ok (z_ps_ok n 5 o _ p1 (by omega) (by omega) (by omega) (by show 8 * (N - p1) + 1 ≤ (n : Int); omega)) (fun q a c => ⟨by omega, c⟩) (fun p2 c2 _ d1 d2 d3 d4 => ⟨_, rfl, by omega, by omega, ?_, by omega⟩)
        simp only [List.length_append, List.length_cons]
        omega
      · rw [if_neg q1]; exact ⟨_, rfl, by omega, by omega, by show ((0 : Nat) : Int) ≤ _; omega, by omega⟩
    · rw [z_ps_T]
      have hm : 8 * (N - p) + 1 ≤ ((n + 1 : Nat) : Int) := hm
      by_cases q1 : z_pk g N p = 42 ∨ z_pk g N p = 47
      · rw [if_pos q1]
        have l1 : p < N := by rcases q1 with q | q <;> exact lt q (by decide)
        refine z_bd_ok (z_ps_ok n 4 o b (p + 1) (by omega) (by omega) (by omega) (by show 8 * (N - (p + 1)) + 3 ≤ (n : Int); omega)) (fun q a c => ⟨by omega, c⟩) (fun p1 c1 _ b1 b2 b3 b4 => ?_)
        refine z_bd_ok (z_ps_ok n 6 o _ p1 (by omega) (by omega) (by omega) (by show 8 * (N - p1) + 1 ≤ (n : Int); omega)) (fun q a c => ⟨by omega, c⟩) (fun p2 c2 _ d1 d2 d3 d4 => ⟨_, rfl, by omega, by omega, ?_, by omega⟩)
        simp only [List.length_append, List.length_cons]
        omega
      · rw [if_neg q1]; exact ⟨_, rfl, by omega, by omega, by show ((0 : Nat) : Int) ≤ _; omega, by omega⟩
    · rw [z_ps_B]
      have hm : 8 * (N - p) + 2 ≤ ((n + 1 : Nat) : Int) := hm
      by_cases q1 : z_pk g N p = 40
      · rw [if_pos q1]
        have l1 := lt q1 (by decide)
        by_cases q2 : 5 ≤ o
        · rw [if_pos q2]; exact ⟨_, rfl, by omega, by omega⟩
        · rw [if_neg q2]
          refine z_bd_ok (z_ps_ok n 0 (o + 1) b (p + 1) (by omega) (by omega) (by omega) (by show 8 * (N - (p + 1)) + 7 ≤ (n : Int); omega)) (fun q a c => ⟨by omega, c⟩) (fun p1 c1 _ b1 b2 b3 b4 => ?_)
          by_cases q3 : z_pk g N p1 = 41
          · rw [if_pos q3]
            have l2 := lt q3 (by decide)
            exact ⟨_, rfl, by omega, by omega, by omega, by omega⟩
          · rw [if_neg q3]; exact ⟨_, rfl, by omega, by omega⟩
      · rw [if_neg q1]; exact ⟨_, rfl, by omega, by omega⟩
