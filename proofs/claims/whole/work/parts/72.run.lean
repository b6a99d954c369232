/-! calls that run -/
theorem mf_ask_first {r key w : Int} {t : z_M} (r0 : 0 ≤ r) (r1 : r < 5) (hx : z_MX t r) (hd : t 722 r = 0) (hs : 0 ≤ t 721 r ∧ t 721 r ≤ 2000) (hk : 0 ≤ key ∧ key < 1212) : z_RP t r key ∧ z_RW (mf_ask r key w t) r ∧ mf_set r (mf_ask r key w t) = mf_ask r key w t ∧ mf_ask r key w t 701 21 = t 701 21 ∧ mf_ask r key w t 722 r ≤ 1 ∧ mf_ask r key w t 721 r = t 721 r := by
  have hp : z_RP t r key := ⟨by omega, hs, fun i i0 i1 => by omega, hk, fun q => absurd hd q⟩
  have x0 : z_MX (mf_ask0 r t) r := z_ro_MX mf_ask0_ro hx
  have a2 : mf_ask0 r t 722 r = t 722 r := by unfold mf_ask0; rw [z_up_ne (by omega), z_up_ne (by omega)]
  have a3 : mf_ask0 r t 721 r = t 721 r := by unfold mf_ask0; rw [z_up_ne (by omega), z_up_ne (by omega)]
  have a4 : mf_ask0 r t 701 21 = t 701 21 := by unfold mf_ask0; rw [z_up_ne (by omega), z_up_ne (by omega)]
  have p0 : z_RP (mf_ask0 r t) r key := z_ro_RP mf_ask0_ro hx.1 a3 a2 hp
  have s0 : mf_ask0 r t 719 r = 1 := by unfold mf_ask0; rw [z_up_eq]
  obtain ⟨⟨g1, g2, g3, g4⟩, g5⟩ := mf_ask1_ok (w := w) r0 r1 x0 p0 s0
  have h21 := mf_ask_21 (r := r) (key := key) (w := w) (t := t)
  have hkp : mf_ask r key w t 719 r = 1 → mf_ask0 r t 707 key = 0 := fun q => by
    by_cases hk : mf_ask0 r t 707 key = 0
    · exact hk
    · have : mf_ask r key w t = z_up (z_up (mf_hit key (mf_ask0 r t)) 719 r 3) 720 r (mf_ask0 r t 708 key) := by
        unfold mf_ask mf_ask1
        rw [if_pos hk]
        unfold mf_gt
        rw [if_pos (show mf_hit key (mf_ask0 r t) 722 r = 0 by unfold mf_hit; rw [z_up_ne (by omega), z_up_ne (by omega), z_up_ne (by omega), a2]; exact hd)]
      rw [this, z_up_ne (by omega), z_up_eq] at q
      omega
  have hset : mf_set r (mf_ask r key w t) = mf_ask r key w t := by
    unfold mf_set
    split
    · next h1 =>
      rcases g2 with ⟨-, -, q3⟩ | ⟨q1, -⟩
      · exact mf_go_id q3 (g5 (hkp h1) h1)
      · exact absurd h1 q1
    · rfl
  refine ⟨hp, ⟨g1, ?_, fun h1 => ?_⟩, hset, by rw [← a4]; exact g3, by have g4 : mf_ask r key w t 722 r ≤ mf_ask0 r t 722 r + 1 := g4; omega, h21⟩
  · rcases g2 with ⟨q1, q2, q3⟩ | ⟨-, q2⟩
    · exact Or.inl ⟨q1, q2, g5 (hkp q1) q1⟩
    · exact q2
  · rcases g2 with ⟨-, -, q3⟩ | ⟨q1, -⟩
    · exact q3
    · exact absurd h1 q1
theorem mf_run_rw {r : Int} (r0 : 0 ≤ r) (r1 : r < 5) : ∀ (m : Nat) (t : z_M), z_RW t r → z_RW (mf_run m r t) r ∧ (t 701 21 ≤ mf_run m r t 701 21 ∧ mf_run m r t 701 21 + mf_run m r t 722 r ≤ t 701 21 + t 722 r + (m : Int))
  | 0, t, h => ⟨h, by show t 701 21 ≤ t 701 21 ∧ t 701 21 + t 722 r ≤ _; omega⟩
  | m + 1, t, h => by
    by_cases h1 : t 719 r = 1
    · rw [show mf_run (m + 1) r t = mf_run m r (mf_set r (mf_st r t)) from if_pos h1]
      obtain ⟨g1, g2, g3, g4⟩ := z_RW_step r0 r1 h h1
      obtain ⟨q1, q2⟩ := mf_run_rw r0 r1 m _ g1
      exact ⟨q1, by omega⟩
    · rw [show mf_run (m + 1) r t = t from if_neg h1]
      exact ⟨h, by omega⟩
/-- back to what holds between calls -/
theorem z_RCs_KC {n : Nat} {s s' t t' : z_M} {k : Int} (k0 : 0 ≤ k) (k1 : k < 4) (h : z_RCs n s t) (v : z_KC false k s' t') (hx : z_MX t' k) (hi : z_RI t' k) (hf : z_fz false s s') (hc : t' 701 21 ≤ t 701 21 + 3000) : z_RCs (n + 1) s' t' := by
  obtain ⟨-, ho, -, hc0, h1, h2, h3⟩ := h
  obtain ⟨hA, hO⟩ := v.1.2.1 rfl
  refine ⟨hA, fun q q0 q1 => ?_, ⟨hx.1, hx.2.1, hx.2.2.1, hx.2.2.2.1, hx.2.2.2.2.1, fun q q0 q1 _ => ?_⟩, by omega, by rw [hf.2 rfl _ _ (by omega) (by omega)]; exact h1, by rw [hf.2 rfl _ _ (by omega) (by omega)]; omega, fun p p0 p1 => by rw [hf.2 rfl _ _ (by omega) (by omega), hf.2 rfl _ _ (by omega) (by omega)]; exact h3 p p0 p1⟩
  · by_cases hq : q = k
    · subst hq
      refine ⟨v.2, ?_⟩
      rw [v.1.1]
      unfold z_kd
      simp only [Bool.false_eq_true, if_false]
      rw [if_neg (by omega)]
    · exact hO q q0 q1 hq
  · by_cases hq : q = k
    · rw [hq]; exact hi
    · exact hx.2.2.2.2.2 q q0 q1 hq
theorem z_MX_at {t : z_M} {k : Int} (k0 : 0 ≤ k) (k1 : k < 4) (h : z_MX t 4) : z_MX t k ∧ z_RI t k :=
  ⟨⟨h.1, h.2.1, h.2.2.1, h.2.2.2.1, h.2.2.2.2.1, fun q q0 q1 _ => h.2.2.2.2.2 q q0 q1 (by omega)⟩, h.2.2.2.2.2 k k0 k1 (by omega)⟩
theorem z_KC_at_rest {n : Nat} {s t : z_M} {k : Int} (k0 : 0 ≤ k) (k1 : k < 4) (h : z_RCs n s t) : z_KC false k s t := by
  obtain ⟨hA, ho, -⟩ := h
  refine ⟨⟨?_, fun _ => ⟨hA, fun q q0 q1 _ => ho q q0 q1⟩, fun q => (by cases q)⟩, (ho k k0 k1).1⟩
  rw [(ho k k0 k1).2]
  unfold z_kd
  simp only [Bool.false_eq_true, if_false]
  rw [if_neg (by omega)]
/-- a runner is made new -/
theorem z_K0_renew {s t : z_M} {r x : Int} {b : Bool} (r0 : 0 ≤ r) (r1 : r < 5) (h : z_cE b r s t) (hx : x = z_kd b r) : z_K0 b r (z_up (z_up (z_up (z_up s (z_ru r) 1 x) (z_ru r) 2 0) (z_ru r) 3 0) (z_ru r) 4 0) (z_up (z_up t 721 r 0) 722 r 0) ∧ z_fz b s (z_up (z_up (z_up (z_up s (z_ru r) 1 x) (z_ru r) 2 0) (z_ru r) 3 0) (z_ru r) 4 0) := by
  have hru := z_ru_rng r0 r1
  have us : ∀ a i, ¬ (a = z_ru r ∧ 1 ≤ i ∧ i ≤ 4) → z_up (z_up (z_up (z_up s (z_ru r) 1 x) (z_ru r) 2 0) (z_ru r) 3 0) (z_ru r) 4 0 a i = s a i := fun a i y => by rw [z_up_ne (by omega), z_up_ne (by omega), z_up_ne (by omega), z_up_ne (by omega)]
  have ut : ∀ a i, ¬ ((a = 721 ∨ a = 722) ∧ i = r) → z_up (z_up t 721 r 0) 722 r 0 a i = t a i := fun a i y => by rw [z_up_ne (by omega), z_up_ne (by omega)]
  have u1 : z_up (z_up (z_up (z_up s (z_ru r) 1 x) (z_ru r) 2 0) (z_ru r) 3 0) (z_ru r) 4 0 (z_ru r) 1 = s (z_ru r) 1 := by
    rw [z_up_ne (by omega), z_up_ne (by omega), z_up_ne (by omega), z_up_eq, hx, h.1]
  refine ⟨⟨z_cE_c r0 r1 (fun a i y z => us a i (by omega)) u1 (fun a i x1 x2 x3 x4 x5 x6 => ut a i (by omega)) (fun _ hN => z_cN_c (fun i _ _ => us _ _ (by omega)) (fun a i y => us _ _ (by omega)) (fun a i y => ut _ _ (by omega)) hN) h, ⟨?_, ?_⟩, ?_, fun i i0 i1 => ?_⟩, z_fz_U r0 h (fun a i y z => us a i (by omega))⟩
  · rw [z_up_ne (by omega), z_up_eq, z_up_eq]
  · rw [z_up_eq, z_up_ne (by omega), z_up_eq]
  · rw [z_up_eq]; omega
  · rw [z_up_eq] at i1; omega
theorem mf_first_ro {r : Int} {t : z_M} : z_ro t (z_up (z_up t 721 r 0) 722 r 0) r := fun a i h1 h2 _ _ _ => by rw [z_up_ne (by omega), z_up_ne (by omega)]
section RU
variable {e : z_E} {n : Nat} {s t : z_M}
theorem z2_stop {k : Int} (h : z_RCs n s t) : z_two e n z_Inv m_C_stop m_M_stop [z_I k] (z_gl s t) := by
  have inv := z_RCs_gl (z_RCs_up h)
  refine b_C_stop_0 (d := 999) (s_C_within (d := 998) (fun a b => ⟨fun _ => ⟨⟨a, b⟩, ?_⟩, fun z => by omega⟩) (fun q => ⟨fun z => absurd rfl z, fun _ => ?_⟩))
  · have hK := z_KC_at_rest a b h
    obtain ⟨hx, hi⟩ := z_MX_at a b h.2.2.1
    have hru := z_ru_lt b
    have hrr := z_ru_rng (r := k) a (by omega)
    have hU := z_isU_ru (r := k) a (by omega)
    rw [hru] at hU
    obtain ⟨u1, u2, u3, u4, u5⟩ := id hU
    have v1 := hK.2.2.1
    have g1 := hK.2.1.1.1
    rw [hru] at v1 g1
    simp only [u1, z_ckT]
    have M : ∀ (c : z_M) (Q : Int → z_M → Prop), (t 719 k = 1 ∨ t 719 k = 2 → Q (t 722 k) (z_gl c (z_up (z_up (z_up t 722 k 0) 721 k 0) 719 k 0))) → (¬ (t 719 k = 1 ∨ t 719 k = 2) → Q (-20003) (z_gl c t)) → z_C e 1000 m_M_stop [z_R 701, z_I k] (z_gl c t) Q := fun c Q q1 q2 => by
      refine b_M_stop_0 (d := 999) (s_M_isTask (d := 997) (fun _ _ => ⟨fun _ => s_M_isBusy (d := 998) a (by omega) (fun q => ⟨fun _ => ⟨by omega, by omega, by omega, by omega, ?_⟩, fun z => by omega⟩) (fun q => ⟨fun z => absurd rfl z, fun _ => q2 q⟩), fun z => by omega⟩) (fun z => absurd ⟨a, b⟩ z))
      rw [z_gl_hi (by omega), z_gl_up (by omega), z_gl_up (by omega), z_gl_up (by omega)]
      exact q1 q
    refine s_U_isBusy (d := 998) hU (fun q => ⟨fun _ => ?_, fun z => by omega⟩) (fun q => ⟨fun z => absurd rfl z, fun _ => ?_⟩)
    · rw [v1] at q
      refine s_U_renew (d := 998) hU ?_
      rw [z_gl_lo (by omega), g1]
      refine M _ _ (fun _ => ⟨rfl, ?_⟩) (fun z => absurd q z)
      obtain ⟨w1, w2⟩ := z_K0_renew (x := 0) a (by omega) hK.1 (by rw [← hK.1.1, (h.2.1 k a b).2])
      rw [hru] at w1 w2
      have hro : z_ro t (z_up (z_up (z_up t 722 k 0) 721 k 0) 719 k 0) k := fun x i h1 h2 _ _ _ => by rw [z_up_ne (by omega), z_up_ne (by omega), z_up_ne (by omega)]
      have e19 : z_up (z_up (z_up t 722 k 0) 721 k 0) 719 k 0 719 k = 0 := z_up_eq
      have e22 : z_up (z_up (z_up t 722 k 0) 721 k 0) 719 k 0 722 k = 0 := by rw [z_up_ne (by omega), z_up_ne (by omega), z_up_eq]
      have e21 : z_up (z_up (z_up t 722 k 0) 721 k 0) 719 k 0 721 k = 0 := by rw [z_up_ne (by omega), z_up_eq]
      have et : ∀ x i, ¬ ((x = 719 ∨ x = 721 ∨ x = 722) ∧ i = k) → z_up (z_up (z_up t 722 k 0) 721 k 0) 719 k 0 x i = z_up (z_up t 721 k 0) 722 k 0 x i := fun x i y => by rw [z_up_ne (by omega), z_up_ne (by omega), z_up_ne (by omega), z_up_ne (by omega), z_up_ne (by omega)]
      refine z_RCs_gl (z_RCs_KC a b h (k := k) ⟨z_cE_c a (by omega) (fun _ _ _ _ => rfl) rfl (fun x i x1 x2 x3 x4 x5 x6 => et x i (by omega)) (fun _ hN => z_cN_c (fun _ _ _ => rfl) (fun _ _ _ => rfl) (fun x i y => et x i (by omega)) hN) w1.1, ⟨⟨?_, ?_⟩, by omega, fun i i0 i1 => by omega⟩, ?_, fun z => by omega, fun z => by omega, fun z => by omega⟩ (z_ro_MX hro hx) (Or.inr (Or.inr ⟨Or.inl e19, e22, by omega, by omega⟩)) w2 (by rw [hro _ _ (by omega) (by omega) (by omega) (by omega) (by omega)]; omega))
      · rw [e22, hru, z_up_ne (by omega), z_up_eq]
      · rw [e21, hru, z_up_eq]
      · rw [e19, hru, z_up_ne (by omega), z_up_ne (by omega), z_up_eq]
    · rw [v1] at q
      exact M _ _ (fun z => absurd z q) (fun _ => ⟨rfl, inv⟩)
  · exact b_M_stop_0 (d := 999) (s_M_isTask (d := 997) (fun x y => absurd ⟨x, y⟩ q) (fun _ => ⟨fun z => absurd rfl z, fun _ => ⟨rfl, inv⟩⟩))
theorem z2_start {k rl ar : Int} (hn : n < 512) (h : z_RCs n s t) : z_two e n z_Inv m_C_start m_M_start [z_I k, z_I rl, z_I ar] (z_gl s t) := by
  have inv := z_RCs_gl (z_RCs_up h)
  have bad : ¬ ((0 ≤ k ∧ k < 4) ∧ (0 ≤ rl ∧ rl < 12) ∧ -50 ≤ ar ∧ ar ≤ 50) → z_C e 1000 m_M_start [z_R 701, z_I k, z_I rl, z_I ar] (z_gl s t) (fun r2 σ2 => -20001 = r2 ∧ z_Inv (n + 1) σ2) := fun q =>
    b_M_start_0 (d := 999) (s_M_isTask (d := 997) (fun _ _ => ⟨fun z => by omega, fun _ => s_M_mayAsk (d := 997) (fun _ _ _ _ => by omega) (fun _ => ⟨fun z => absurd rfl z, fun _ => ⟨rfl, inv⟩⟩)⟩) (fun _ => ⟨fun _ => ⟨rfl, inv⟩, fun z => absurd rfl z⟩))
  refine b_C_start_0 (d := 999) (s_C_within (d := 998) (fun a b => ⟨fun z => by omega, fun _ => s_C_isKey (d := 997) (fun r0 r1 a0 a1 => ⟨fun _ => ⟨⟨a, b⟩, ?_⟩, fun z => by omega⟩) (fun q => ⟨fun z => absurd rfl z, fun _ => bad (by omega)⟩)⟩) (fun q => ⟨fun _ => bad (by omega), fun z => absurd rfl z⟩))
  have hK := z_KC_at_rest a b h
  obtain ⟨hx, hi⟩ := z_MX_at a b h.2.2.1
  have hru := z_ru_lt b
  have hrr := z_ru_rng (r := k) a (by omega)
  have hU := z_isU_ru (r := k) a (by omega)
  obtain ⟨u1, u2, u3, u4, u5⟩ := id hU
  have v1 := hK.2.2.1
  have hc := h.2.2.2.1
  have key0 : 0 ≤ 101 * rl + ar + 50 ∧ 101 * rl + ar + 50 < 1212 := by omega
  have x1 : z_MX (z_up (z_up t 721 k 0) 722 k 0) k := z_ro_MX mf_first_ro hx
  have e22 : z_up (z_up t 721 k 0) 722 k 0 722 k = 0 := z_up_eq
  have e21 : z_up (z_up t 721 k 0) 722 k 0 721 k = 0 := by rw [z_up_ne (by omega), z_up_eq]
  have ec : z_up (z_up t 721 k 0) 722 k 0 701 21 = t 701 21 := by rw [z_up_ne (by omega), z_up_ne (by omega)]
  obtain ⟨hp, f1, f2, f3, f4, f5⟩ := mf_ask_first (w := 0) a (by omega) x1 e22 (by omega) key0
  have M : ∀ (c : z_M) (Q : Int → z_M → Prop), (¬ (t 719 k = 1 ∨ t 719 k = 2) → Q (mf_ask k (101 * rl + ar + 50) 0 (z_up (z_up t 721 k 0) 722 k 0) 719 k) (z_gl c (mf_ask k (101 * rl + ar + 50) 0 (z_up (z_up t 721 k 0) 722 k 0)))) → (t 719 k = 1 ∨ t 719 k = 2 → Q (-20003) (z_gl c t)) → z_C e 1000 m_M_start [z_R 701, z_I k, z_I rl, z_I ar] (z_gl c t) Q := fun c Q q1 q2 => by
    refine b_M_start_0 (d := 999) (s_M_isTask (d := 997) (fun _ _ => ⟨fun z => by omega, fun _ => s_M_mayAsk (d := 997) (fun _ _ _ _ => ⟨fun _ => s_M_isBusy (d := 998) a (by omega) (fun q => ⟨fun z => by omega, fun _ => q2 q⟩) (fun q => ⟨fun _ => ⟨by omega, by omega, ?_⟩, fun z => absurd rfl z⟩), fun z => by omega⟩) (fun z => by omega)⟩) (fun z => absurd ⟨a, b⟩ z))
    rw [z_gl_up (by omega), z_gl_up (by omega)]
    refine s_M_keyOf (d := 998) r0 r1 a0 a1 (s_M_asksFor (d := 929) a (by omega) x1 hp (fun q q0 q1 => ?_) (by omega) ?_)
    · by_cases hq : q = k
      · rw [hq, e22]; omega
      · rw [z_up_ne (by omega), z_up_ne (by omega)]; exact (z_RI_dep (hx.2.2.2.2.2 q q0 q1 hq)).2.1
    · rw [f2, z_gl_hi (by omega)]
      exact ⟨by omega, q1 q⟩
  rw [← hru]
  simp only [u1, z_ckT]
  refine s_U_isBusy (d := 998) hU (fun q => ⟨fun z => by omega, fun _ => ?_⟩) (fun q => ⟨fun _ => ?_, fun z => absurd rfl z⟩)
  · rw [v1] at q
    exact M _ _ (fun z => absurd q z) (fun _ => ⟨rfl, inv⟩)
  · rw [v1] at q
    obtain ⟨w1, w2⟩ := z_K0_renew (x := 0) a (by omega) hK.1 (by rw [← hK.1.1, (h.2.1 k a b).2])
    refine s_U_renew (d := 998) hU (s_C_keyOf (d := 998) r0 r1 a0 a1 ?_)
    refine s_C_askKey (d := 993) (b := false) (w := 0) a (by omega) w1 x1 hp (fun _ => rfl) (fun _ => ⟨fun _ => ?_, fun _ => rfl⟩) (fun s' g1 g2 => ?_)
    · rw [z_up_ne (by omega), z_up_ne (by omega), z_up_eq]; decide
    · rw [z_gl_lo (by omega), g1.2.2.1]
      exact M _ _ (fun _ => ⟨rfl, z_RCs_gl (z_RCs_KC a b h g1 f1.1 f1.2.1 (z_fz_tr w2 g2) (by omega))⟩) (fun z => absurd z q)
end RU
