/-! counting calls -/
def z_ct (g : Int → Bool) : Nat → Int
  | 0 => 0
  | n + 1 => z_ct g n + (if g (n : Int) = true then 1 else 0)
theorem z_ct_rng (g : Int → Bool) : ∀ n : Nat, 0 ≤ z_ct g n ∧ z_ct g n ≤ (n : Int)
  | 0 => by unfold z_ct; omega
  | n + 1 => by
    have := z_ct_rng g n
    unfold z_ct
    split <;> omega
theorem z_bool2 {P : Prop} [Decidable P] : (decide P = true) ↔ P := decide_eq_true_iff
/-- keys of the first rows -/
def z_tv (s t : z_M) : Nat → z_M
  | 0 => fun a k => if a = 707 then 0 else t a k
  | i + 1 => z_up (z_tv s t i) 707 (s (s 8 (i : Int)) 1) 1
theorem z_tv_0 {s t : z_M} {k : Int} : z_tv s t 0 707 k = 0 := by
  show (if (707 : Int) = 707 then (0 : Int) else t 707 k) = 0
  exact if_pos rfl
theorem z_tv_ne {s t : z_M} {a k : Int} (h : ¬ a = 707) : ∀ i, z_tv s t i a k = t a k
  | 0 => if_neg h
  | i + 1 => by unfold z_tv; rw [z_up_ne (Or.inl h)]; exact z_tv_ne h i
theorem z_tv_iff {s t : z_M} {k : Int} : ∀ i : Nat, ¬ z_tv s t i 707 k = 0 ↔ ∃ j : Int, 0 ≤ j ∧ j < (i : Int) ∧ s (s 8 j) 1 = k
  | 0 => ⟨fun h => absurd z_tv_0 h, fun ⟨j, a, b, _⟩ => by omega⟩
  | i + 1 => by
    unfold z_tv
    rw [z_upd]
    by_cases hk : k = s (s 8 (i : Int)) 1
    · rw [if_pos ⟨rfl, hk⟩]
      exact ⟨fun _ => ⟨i, by omega, by omega, hk.symm⟩, fun _ => by decide⟩
    · rw [if_neg (fun q => hk q.2), z_tv_iff i]
      constructor
      · rintro ⟨j, a, b, q⟩; exact ⟨j, a, by omega, q⟩
      · rintro ⟨j, a, b, q⟩
        refine ⟨j, a, ?_, q⟩
        by_cases hj : j = (i : Int)
        · rw [hj] at q; exact absurd q.symm hk
        · omega
/-- rows have keys of their own -/
theorem z_cS_inj {s t : z_M} (hS : z_cS s t) {i j : Int} (i0 : 0 ≤ i) (i1 : i < s 7 2) (j0 : 0 ≤ j) (j1 : j < s 7 2) (q : s (s 8 i) 1 = s (s 8 j) 1) : i = j := by
  obtain ⟨-, a5, ⟨a6, a7⟩, a8, a9, a10⟩ := hS
  have e1 := (a8 i i0 i1).2.2.1
  have e2 := (a8 j j0 j1).2.2.1
  rw [q, e2] at e1
  rcases Int.lt_trichotomy i j with h | h | h
  · exact absurd e1.symm (a7 i j i0 h (by omega))
  · exact h
  · exact absurd e1 (a7 j i j0 h (by omega))
/-- a sum over rows is a sum over keys -/
theorem z_tv_sum {s t : z_M} (hS : z_cS s t) (g : Int → Int) : ∀ i : Nat, (i : Int) < s 7 2 → z_sum (z_tv s t (i + 1)) g 1212 = z_sum (z_tv s t i) g 1212 + g (s (s 8 (i : Int)) 1) := fun i hi => by
  have hk := (hS.2.2.2.1 i (by omega) hi).1
  have h0 : z_tv s t i 707 (s (s 8 (i : Int)) 1) = 0 := by
    by_cases h : z_tv s t i 707 (s (s 8 (i : Int)) 1) = 0
    · exact h
    · obtain ⟨j, j0, j1, j2⟩ := (z_tv_iff i).mp h
      have := z_cS_inj hS j0 (by omega) (show (0 : Int) ≤ (i : Int) by omega) hi j2
      omega
  have := z_sum_add (t := z_tv s t i) (t' := z_tv s t (i + 1)) (g := g) (g' := g) h0 (by unfold z_tv; rw [z_up_eq]; decide) (fun k hk => ⟨by show z_up _ _ _ _ _ _ = _; rw [z_up_ne (Or.inr hk)], rfl⟩) hk.1 1212
  rw [this, if_pos (show s (s 8 (i : Int)) 1 < ((1212 : Nat) : Int) from hk.2)]
theorem z_tv_all {s t : z_M} (hS : z_cS s t) (g : Int → Int) : z_sum (z_tv s t (s 7 2).toNat) g 1212 = z_sum t g 1212 := by
  refine z_sum_congr 1212 (fun k k0 k1 => ?_) (fun k _ _ _ => rfl)
  have h1 := z_tv_iff (s := s) (t := t) (k := k) (s 7 2).toNat
  have hn := hS.2.1.1
  constructor
  · intro h
    by_cases q : t 707 k = 0
    · exact q
    · obtain ⟨i, i0, i1, i2⟩ := (hS.2.2.2.2.1 k k0 k1).2 q
      exact absurd h (h1.mpr ⟨i, i0, by omega, i2⟩)
  · intro h
    by_cases q : z_tv s t (s 7 2).toNat 707 k = 0
    · exact q
    · obtain ⟨j, j0, j1, j2⟩ := h1.mp q
      have := (hS.2.2.2.1 j j0 (by omega)).2.1
      rw [j2] at this
      exact absurd h this
def z_ub (t : z_M) (w k : Int) : Int := if z_bb (t 713 k) w.toNat = true then 1 else 0
section CN
variable {e : z_E} {n : Nat} {s t : z_M}
theorem z_ub_rng (t : z_M) (w : Int) (m : z_M) : ∀ n : Nat, 0 ≤ z_sum m (z_ub t w) n ∧ z_sum m (z_ub t w) n ≤ (n : Int)
  | 0 => by unfold z_sum; omega
  | n + 1 => by
    have := z_ub_rng t w m n
    unfold z_sum
    have h1 : 0 ≤ z_ub t w (n : Int) ∧ z_ub t w (n : Int) ≤ 1 := by unfold z_ub; split <;> omega
    split <;> omega
theorem z2_would {w : Int} (h : z_RCs n s t) : z_two e n z_Inv m_C_would m_M_would [z_I w] (z_gl s t) := by
  have inv := z_RCs_gl (z_RCs_up h)
  have hS := h.1.2.1
  have hn := hS.2.1
  refine b_C_would_0 (d := 999) (s_C_within (d := 998) (fun w0 w1 => ⟨fun z => by omega, fun _ => ?_⟩) (fun q => ⟨fun _ => ?_, fun z => absurd rfl z⟩))
  · have M : z_C e 1000 m_M_would [z_R 701, z_I w] (z_gl s t) (fun r2 σ2 => z_sum t (z_ub t w) 1212 = r2 ∧ z_Inv (n + 1) σ2) := by
      refine b_M_would_0 (d := 999) (s_M_in (d := 998) (fun _ _ => ⟨fun _ => ?_, fun z => by omega⟩) (fun q => by omega))
      have loop : ∀ (m : Nat) (i : Nat), i + m = 1212 → z_T e 999 m_M_would 20 [some (z_R 701), some (z_I w), some (z_I (z_sum t (z_ub t w) i)), some (z_I (i : Int))] (z_gl s t) (fun r2 σ2 => z_sum t (z_ub t w) 1212 = r2 ∧ z_Inv (n + 1) σ2) := by
        intro m
        induction m with
        | zero =>
          intro i hi
          obtain rfl : i = 1212 := by omega
          exact b_M_would_20 ⟨fun _ => ⟨rfl, inv⟩, fun z => by omega⟩
        | succ m ih =>
          intro i hi
          have hr := z_ub_rng t w t i
          have nx := ih (i + 1) (by omega)
          have hs1 : z_sum t (z_ub t w) (i + 1) = z_sum t (z_ub t w) i + (if t 707 (i : Int) = 0 then 0 else z_ub t w (i : Int)) := rfl
          rw [hs1, show ((i + 1 : Nat) : Int) = (i : Int) + 1 by omega] at nx
          refine b_M_would_20 ⟨fun z => by omega, fun _ => ⟨by omega, ?_⟩⟩
          simp (disch := omega) only [z_gl_hi, z_wr_id]
          refine ⟨fun q => ?_, fun q => ⟨by omega, fun q2 => ?_, fun q2 => ?_⟩⟩
          · rw [if_pos q] at nx; exact nx
          · rw [if_neg q, show z_ub t w (i : Int) = 0 from if_neg (fun z => q2 ((z_bt_M w0 (by omega)).mpr z))] at nx; exact nx
          · rw [if_neg q, show z_ub t w (i : Int) = 1 from if_pos ((z_bt_M w0 (by omega)).mp q2)] at nx; exact nx
      exact loop 1212 0 (by omega)
    refine b_S_users_0 (d := 998) ?_
    have loop : ∀ (m : Nat) (i : Nat), (i : Int) + (m : Int) = s 7 2 → z_T e 998 m_S_users 4 [some (z_R 7), some (z_I (z_shl 1 w)), some (z_I (z_sum (z_tv s t i) (z_ub t w) 1212)), some (z_I (i : Int))] (z_gl s t) (fun r σ1 => z_C e 1000 m_M_would [z_R 701, z_I w] σ1 (fun r2 σ2 => r = r2 ∧ z_Inv (n + 1) σ2)) := by
      intro m
      induction m with
      | zero =>
        intro i hi
        refine b_S_users_4 ?_
        simp (disch := omega) only [z_gl_lo]
        refine ⟨fun _ => ?_, fun z => by omega⟩
        rw [show i = (s 7 2).toNat by omega, z_tv_all hS]
        exact M
      | succ m ih =>
        intro i hi
        have hr := z_ub_rng t w (z_tv s t i) 1212
        have nx := ih (i + 1) (by omega)
        rw [z_tv_sum hS _ i (by omega), show ((i + 1 : Nat) : Int) = (i : Int) + 1 by omega] at nx
        obtain ⟨x1, x2, x3, x4, x5⟩ := hS.2.2.1.1 i (by omega) (by omega)
        have hW := (hS.2.2.2.1 i (by omega) (by omega)).2.2.2
        have h7 : s (s 8 (i : Int)) 7 = t 713 (s (s 8 (i : Int)) 1) := hW.2.2.2.2.2.2.1
        refine b_S_users_4 ?_
        simp (disch := omega) only [z_gl_lo, x1, z_ckT, z_wr_id, h7]
        refine ⟨fun z => by omega, fun _ => ⟨by omega, fun q => ?_, fun q => ?_⟩⟩
        · refine b_S_users_29 ?_
          rw [z_wr_id (by omega) (by omega)]
          have hf := (z_bt_C w0 (show w < 32 by omega)).mp q
          rw [show z_ub t w (s (s 8 (i : Int)) 1) = 0 from if_neg (fun z => by rw [hf] at z; cases z), Int.add_zero] at nx
          exact nx
        · refine b_S_users_29 ?_
          rw [z_wr_id (by omega) (by omega)]
          have hf : z_bb (t 713 (s (s 8 (i : Int)) 1)) w.toNat = true := by
            cases hb : z_bb (t 713 (s (s 8 (i : Int)) 1)) w.toNat with
            | true => rfl
            | false => exact absurd ((z_bt_C w0 (show w < 32 by omega)).mpr hb) q
          rw [show z_ub t w (s (s 8 (i : Int)) 1) = 1 from if_pos hf] at nx
          exact nx
    have h0 : z_sum (z_tv s t 0) (z_ub t w) 1212 = 0 := z_sum_none 1212 (fun k _ _ => z_tv_0)
    have := loop (s 7 2).toNat 0 (by omega)
    rw [h0] at this
    exact this
  · exact b_M_would_0 (d := 999) (s_M_in (d := 998) (fun _ _ => by omega) (fun _ => ⟨fun z => absurd rfl z, fun _ => ⟨rfl, inv⟩⟩))
/-! count -/
theorem z2_count {w : Int} (h : z_RCs n s t) : z_two e n z_Inv m_C_count m_M_count [z_I w] (z_gl s t) := by
  have inv := z_RCs_gl (z_RCs_up h)
  obtain ⟨⟨hT, hS, hN, hB⟩, ho, hx, -⟩ := id h
  obtain ⟨n1, n2, n3, n4, n5, n6, n7, n8, n9⟩ := hN.1
  have good : ∀ x, (w = 0 → x = t 701 23) → (w = 1 → x = t 701 22) → (w = 2 → x = z_ct (fun R => decide (0 < t 705 R)) 12) → (w = 3 → x = t 701 2) → (w = 4 → x = t 701 26) → (w = 5 → x = z_ct (fun q => decide (t 719 q = 1 ∨ t 719 q = 2)) 4) → (¬ (0 ≤ w ∧ w ≤ 5) → x = -20001) → z_C e 1000 m_M_count [z_R 701, z_I w] (z_gl s t) (fun r2 σ2 => x = r2 ∧ z_Inv (n + 1) σ2) := fun x q0 q1 q2 q3 q4 q5 q6 => by
    refine b_M_count_0 (d := 999) ?_
    simp (disch := omega) only [z_gl_hi]
    refine ⟨fun y => ⟨q0 y, inv⟩, fun y0 => ⟨fun y => ⟨q1 y, inv⟩, fun y1 => ⟨fun y => ?_, fun y2 => ⟨fun y => ⟨q3 y, inv⟩, fun y3 => ⟨fun y => ⟨q4 y, inv⟩, fun y4 => ⟨fun y => ?_, fun y5 => ⟨q6 (by omega), inv⟩⟩⟩⟩⟩⟩⟩
    · have loop : ∀ (m i : Nat), i + m = 12 → z_T e 999 m_M_count 52 [some (z_R 701), none, some (z_I (z_ct (fun R => decide (0 < t 705 R)) i)), some (z_I (i : Int))] (z_gl s t) (fun r2 σ2 => x = r2 ∧ z_Inv (n + 1) σ2) := by
        intro m
        induction m with
        | zero =>
          intro i hi
          obtain rfl : i = 12 := by omega
          exact b_M_count_52 ⟨fun _ => ⟨q2 y, inv⟩, fun z => by omega⟩
        | succ m ih =>
          intro i hi
          have hr := z_ct_rng (fun R => decide (0 < t 705 R)) i
          have nx := ih (i + 1) (by omega)
          rw [show z_ct (fun R => decide (0 < t 705 R)) (i + 1) = z_ct (fun R => decide (0 < t 705 R)) i + (if decide (0 < t 705 (i : Int)) = true then 1 else 0) from rfl, show ((i + 1 : Nat) : Int) = (i : Int) + 1 by omega] at nx
          refine b_M_count_52 ⟨fun z => by omega, fun _ => ⟨by omega, ?_⟩⟩
          simp (disch := omega) only [z_gl_hi, z_wr_id]
          refine ⟨fun q => ?_, fun q => ?_⟩
          · rw [if_neg (fun z => by have := z_bool2.mp z; omega)] at nx; exact nx
          · rw [if_pos (z_bool2.mpr q)] at nx; exact nx
      exact loop 12 0 (by omega)
    · have loop : ∀ (m i : Nat), i + m = 4 → z_T e 999 m_M_count 95 [some (z_R 701), none, some (z_I (z_ct (fun q => decide (t 719 q = 1 ∨ t 719 q = 2)) i)), some (z_I (i : Int))] (z_gl s t) (fun r2 σ2 => x = r2 ∧ z_Inv (n + 1) σ2) := by
        intro m
        induction m with
        | zero =>
          intro i hi
          obtain rfl : i = 4 := by omega
          exact b_M_count_95 ⟨fun _ => ⟨q5 y, inv⟩, fun z => by omega⟩
        | succ m ih =>
          intro i hi
          have hr := z_ct_rng (fun q => decide (t 719 q = 1 ∨ t 719 q = 2)) i
          have nx := ih (i + 1) (by omega)
          rw [show z_ct (fun q => decide (t 719 q = 1 ∨ t 719 q = 2)) (i + 1) = z_ct (fun q => decide (t 719 q = 1 ∨ t 719 q = 2)) i + (if decide (t 719 (i : Int) = 1 ∨ t 719 (i : Int) = 2) = true then 1 else 0) from rfl, show ((i + 1 : Nat) : Int) = (i : Int) + 1 by omega] at nx
          refine b_M_count_95 ⟨fun z => by omega, fun _ => s_M_isBusy (d := 998) (by omega) (by omega) (fun q => ⟨fun z => by omega, fun _ => ?_⟩) (fun q => ⟨fun _ => ?_, fun z => absurd rfl z⟩)⟩
          all_goals simp (disch := omega) only [z_wr_id]
          · rw [if_pos (z_bool2.mpr q)] at nx; exact nx
          · rw [if_neg (fun z => q (z_bool2.mp z))] at nx; exact nx
      exact loop 4 0 (by omega)
  refine b_C_count_0 (d := 999) ?_
  simp (disch := omega) only [z_gl_lo]
  refine ⟨fun y => ?_, fun y0 => ⟨fun y => ?_, fun y1 => ⟨fun y => ?_, fun y2 => ⟨fun y => ?_, fun y3 => ⟨fun y => ?_, fun y4 => ⟨fun y => ?_, fun y5 => ?_⟩⟩⟩⟩⟩⟩
  · exact good _ (fun _ => hS.1.1) (fun z => by omega) (fun z => by omega) (fun z => by omega) (fun z => by omega) (fun z => by omega) (fun z => by omega)
  · exact good _ (fun z => by omega) (fun _ => hS.1.2.1) (fun z => by omega) (fun z => by omega) (fun z => by omega) (fun z => by omega) (fun z => by omega)
  · refine b_C_rulesWithText_0 (d := 998) ?_
    have loop : ∀ (m i : Nat), i + m = 12 → z_T e 998 m_C_rulesWithText 13 [none, some (z_I (z_ct (fun R => decide (0 < t 705 R)) i)), some (z_R 2), some (z_I 12), some (z_I (i : Int)), none] (z_gl s t) (fun r σ1 => z_C e 1000 m_M_count [z_R 701, z_I w] σ1 (fun r2 σ2 => r = r2 ∧ z_Inv (n + 1) σ2)) := by
      intro m
      induction m with
      | zero =>
        intro i hi
        obtain rfl : i = 12 := by omega
        refine b_C_rulesWithText_13 ⟨fun _ => good _ (fun z => by omega) (fun z => by omega) (fun _ => rfl) (fun z => by omega) (fun z => by omega) (fun z => by omega) (fun z => by omega), fun z => by omega⟩
      | succ m ih =>
        intro i hi
        have hr := z_ct_rng (fun R => decide (0 < t 705 R)) i
        have nx := ih (i + 1) (by omega)
        rw [show z_ct (fun R => decide (0 < t 705 R)) (i + 1) = z_ct (fun R => decide (0 < t 705 R)) i + (if decide (0 < t 705 (i : Int)) = true then 1 else 0) from rfl, show ((i + 1 : Nat) : Int) = (i : Int) + 1 by omega] at nx
        have hT6 := z_isT_of (R := (i : Int)) (by omega) (by omega)
        obtain ⟨x1, -⟩ := id hT6
        have hX := (hT.2 i (by omega) (by omega)).1
        refine b_C_rulesWithText_13 ⟨fun z => by omega, fun _ => ?_⟩
        rw [show z_ok z_NT 300012 2 = true by decide +kernel]
        simp only [x1, z_ckT]
        refine ⟨by omega, s_T_stands (d := 997) hT6 (fun q => ⟨fun z => by omega, fun _ => ?_⟩) (fun q => ⟨fun _ => ?_, fun z => absurd rfl z⟩)⟩
        all_goals
          refine b_C_rulesWithText_36 ?_
          simp (disch := omega) only [z_wr_id]
        · rw [if_pos (z_bool2.mpr (by omega))] at nx; exact nx
        · rw [if_neg (fun z => by have := z_bool2.mp z; omega), Int.add_zero] at nx; exact nx
    exact loop 12 0 (by omega)
  · exact good _ (fun z => by omega) (fun z => by omega) (fun z => by omega) (fun _ => hN.2.1.1) (fun z => by omega) (fun z => by omega) (fun z => by omega)
  · exact good _ (fun z => by omega) (fun z => by omega) (fun z => by omega) (fun z => by omega) (fun _ => n1) (fun z => by omega) (fun z => by omega)
  · refine b_C_busyTasks_0 (d := 998) ?_
    have loop : ∀ (m i : Nat), i + m = 4 → z_T e 998 m_C_busyTasks 13 [none, some (z_I (z_ct (fun q => decide (t 719 q = 1 ∨ t 719 q = 2)) i)), some (z_R 308), some (z_I 4), some (z_I (i : Int)), none] (z_gl s t) (fun r σ1 => z_C e 1000 m_M_count [z_R 701, z_I w] σ1 (fun r2 σ2 => r = r2 ∧ z_Inv (n + 1) σ2)) := by
      intro m
      induction m with
      | zero =>
        intro i hi
        obtain rfl : i = 4 := by omega
        refine b_C_busyTasks_13 ⟨fun _ => good _ (fun z => by omega) (fun z => by omega) (fun z => by omega) (fun z => by omega) (fun z => by omega) (fun _ => rfl) (fun z => by omega), fun z => by omega⟩
      | succ m ih =>
        intro i hi
        have hr := z_ct_rng (fun q => decide (t 719 q = 1 ∨ t 719 q = 2)) i
        have nx := ih (i + 1) (by omega)
        rw [show z_ct (fun q => decide (t 719 q = 1 ∨ t 719 q = 2)) (i + 1) = z_ct (fun q => decide (t 719 q = 1 ∨ t 719 q = 2)) i + (if decide (t 719 (i : Int) = 1 ∨ t 719 (i : Int) = 2) = true then 1 else 0) from rfl, show ((i + 1 : Nat) : Int) = (i : Int) + 1 by omega] at nx
        have hU := z_isU_ru (r := (i : Int)) (by omega) (by omega)
        have hV := (ho i (by omega) (by omega)).1.2.1
        rw [z_ru_lt (show (i : Int) < 4 by omega)] at hU hV
        obtain ⟨x1, -⟩ := id hU
        refine b_C_busyTasks_13 ⟨fun z => by omega, fun _ => ?_⟩
        rw [show z_ok z_NT 400004 308 = true by decide +kernel]
        simp only [x1, z_ckT]
        refine ⟨by omega, s_U_isBusy (d := 997) hU (fun q => ⟨fun z => by omega, fun _ => ?_⟩) (fun q => ⟨fun _ => ?_, fun z => absurd rfl z⟩)⟩
        all_goals
          rw [hV] at q
          refine b_C_busyTasks_36 ?_
          simp (disch := omega) only [z_wr_id]
        · rw [if_pos (z_bool2.mpr q)] at nx; exact nx
        · rw [if_neg (fun z => q (z_bool2.mp z)), Int.add_zero] at nx; exact nx
    exact loop 4 0 (by omega)
  · exact good _ (fun z => by omega) (fun z => by omega) (fun z => by omega) (fun z => by omega) (fun z => by omega) (fun z => by omega) (fun _ => rfl)
end CN
