/-! class and reference: asking -/
section AK
variable {e : z_E} {d : Nat} {c : z_M} {Q : Int → z_M → Prop}
theorem z_has_C {b : Bool} {s t : z_M} {r key : Int} (h : z_cG b s t r) : (∃ i, 0 ≤ i ∧ i < s (z_ru r) 3 ∧ s (z_ru r + 1 + 1 + 3 * i) 3 = key) ↔ z_has t r key := by
  obtain ⟨⟨a1, a2⟩, a3, a4⟩ := h
  unfold z_has
  constructor
  · rintro ⟨i, i0, i1, i2⟩
    exact ⟨i, i0, by omega, by rw [← (a4 i i0 (by omega)).1.1]; exact i2⟩
  · rintro ⟨i, i0, i1, i2⟩
    exact ⟨i, i0, by omega, by rw [← i2]; exact (a4 i i0 i1).1.1⟩
theorem s_U_has {b : Bool} {s t : z_M} {r key : Int} (r0 : 0 ≤ r) (r1 : r < 5) (h : z_cG b s t r) (hy : z_has t r key → Q 1 (z_gl s c)) (hn : ¬ z_has t r key → Q 0 (z_gl s c)) : z_C e (d + 1) m_U_hasFrameOf [z_R (z_ru r), z_I key] (z_gl s c) Q :=
  s_U_hasFrameOf (z_isU_ru r0 r1) (by have := h.1.1; have := h.2.1; omega) (fun q => hy ((z_has_C h).mp q)) (fun q => hn (fun z => q ((z_has_C h).mpr z))) (fun i i0 i1 => z_isF_fA r0 r1 i0 i1)
theorem s_C_beginFrame {b : Bool} {r key : Int} {s t : z_M} (r0 : 0 ≤ r) (r1 : r < 5) (h : z_K0 b r s t) (hx : z_MX t r) (h19 : t 719 r = 1) (hk : 0 ≤ key ∧ key < 1212) (hq : ∀ s', z_KC b r s' (if t 722 r = 30 then mf_fails r 4 t else if t 705 (key / 101) = 0 then mf_fails r 5 t else mf_beg r key t) → z_fz b s s' → Q 0 (z_gl s' c)) : z_C e (d + 3) m_C_beginFrame [z_R 0, z_R (z_ru r), z_I key] (z_gl s c) Q := by
  have hE := h.1
  have hG := h.2
  have hd := hG.2.1
  have e3 : s (z_ru r) 3 = t 722 r := hG.1.1
  have hru := z_ru_rng r0 r1
  have hU := z_isU_ru r0 r1
  obtain ⟨u1, u2, u3, u4, u5⟩ := id hU
  obtain ⟨R0, R1⟩ := z_kr hk.1 hk.2
  have hX := z_cX_of hE R0 R1
  have hTI := hx.1.2 _ R0 R1
  have hT6 := z_isT_of R0 R1
  obtain ⟨v1, v2, v3, v4⟩ := id hT6
  refine b_C_beginFrame_0 ?_
  simp (disch := omega) only [u1, z_ckT, z_gl_lo]
  rw [hG.1.1]
  refine ⟨fun w => s_C_within (fun _ _ => ⟨fun z => by omega, fun _ => ?_⟩) (fun z => absurd hk z), fun w => ?_⟩
  · rw [z_div hk.1 hk.2]
    simp only [v1, z_ckT]
    refine ⟨by omega, by omega, fun z => by omega, fun _ => s_T_stands hT6 (fun q => ⟨fun _ => ?_, fun z => by omega⟩) (fun q => ⟨fun z => absurd rfl z, fun _ => ?_⟩)⟩
    · have hz : ¬ t 705 (key / 101) = 0 := by have := hX.1; omega
      rw [if_neg (by omega), if_neg hz] at hq
      have hFd : z_ru r + 1 + 1 + 3 * s (z_ru r) 3 = z_fA r (t 722 r) := by unfold z_fA; rw [hG.1.1]
      refine s_U_begin (d := d) hU (by omega) (by omega) (by rw [hFd]; exact z_isF_fA r0 r1 (by omega) w) hk.1 hk.2 (by omega) ?_
      rw [z_gl_lo (by omega)]
      obtain ⟨a1, a2⟩ := z_KC_beg r0 r1 h (by omega) h19 hk
      have hq := hq _ a1 a2
      have h1 : cf_ubeg (z_ru r) key (309 + 2 * (key / 101)) (s 0 7) s (z_ru r) 1 = z_kd b r := by
        rw [(cf_ubeg_fr (F := z_ru r + 1 + 1 + 3 * s (z_ru r) 3) rfl (by omega)).1 _ _ (by omega) (by omega)]; exact hE.1
      have h10 : cf_ubeg (z_ru r) key (309 + 2 * (key / 101)) (s 0 7) s 0 10 = s 0 10 := (cf_ubeg_fr (F := z_ru r + 1 + 1 + 3 * s (z_ru r) 3) rfl (by omega)).1 _ _ (by omega) (by omega)
      rw [z_gl_lo (by omega), h1, z_gl_lo (by omega), h10, z_gl_ul (by omega)]
      unfold cf_beg at hq
      refine ⟨fun z => ?_, fun z => ?_⟩
      · rw [if_pos (z_kd_two.mp z)] at hq; exact hq
      · rw [if_neg (fun q => z (z_kd_two.mpr q))] at hq; exact hq
    · have hz : t 705 (key / 101) = 0 := by have := hX.1; have := hTI.1; omega
      rw [if_neg (by omega), if_pos hz] at hq
      obtain ⟨a1, a2⟩ := z_KC_fail (why := 5) r0 r1 (by omega) h
      exact s_C_fail (d := d) (b := b) (r := r) hU hE.1 (hq _ a1 a2)
  · rw [if_pos (by omega)] at hq
    obtain ⟨a1, a2⟩ := z_KC_fail (why := 4) r0 r1 (by omega) h
    exact s_C_fail (d := d) (b := b) (r := r) hU hE.1 (hq _ a1 a2)
theorem z_ru_lt {q : Int} (h : q < 4) : z_ru q = 333 + 92 * q := if_neg (by omega)
theorem s_C_waitsLeadTo {r : Int} {s t : z_M} (r0 : 0 ≤ r) (r1 : r < 4) (hE : z_cE false r s t) (hx : z_MX t r) : ∀ (n : Nat) (i o : Int), 0 ≤ i → i + (n : Int) = 4 → 0 ≤ o → o < 4 → ¬ o = r → (z_wal t r n o → Q 1 (z_gl s c)) → (¬ z_wal t r n o → Q 0 (z_gl s c)) → z_T e (d + 1) m_C_waitsLeadTo 5 [some (z_R 0), none, some (z_R (z_ru r)), some (z_I o), some (z_I i)] (z_gl s c) Q
  | 0, i, o, i0, i1, o0, o1, hor, hy, hn => by
    refine b_C_waitsLeadTo_5 ⟨fun _ => hn id, fun w => by omega⟩
  | n + 1, i, o, i0, i1, o0, o1, hor, hy, hn => by
    obtain ⟨⟨-, oV⟩, -⟩ := (hE.2.1 rfl).2 o o0 o1 hor
    have oI := hx.2.2.2.2.2 o o0 o1 hor
    have hUo := (z_isU_ru (r := o) o0 (by omega)).1
    rw [z_ru_lt o1] at hUo
    refine b_C_waitsLeadTo_5 ⟨fun w => by omega, fun _ => s_C_within (fun _ _ => ⟨fun z => by omega, fun _ => ⟨⟨o0, o1⟩, ?_⟩⟩) (fun z => absurd ⟨o0, o1⟩ z)⟩
    simp (disch := omega) only [hUo, z_ckT, z_gl_lo]
    have oV1 := oV.1
    have oV2 := oV.2.1
    rw [z_ru_lt o1] at oV1 oV2
    rw [oV1]
    refine ⟨fun w => ⟨⟨o0, o1⟩, ?_⟩, fun w => hn (fun z => w z.1)⟩
    obtain ⟨w5, -⟩ := oV2 w
    have hrg : 0 ≤ t 723 o ∧ t 723 o < 4 := by
      rcases oI with ⟨z, -⟩ | ⟨-, z, -⟩ | ⟨z, -⟩
      · omega
      · exact z
      · omega
    rw [w5]
    refine s_C_within (fun _ _ => ⟨fun z => by omega, fun _ => ⟨hrg, ⟨by omega, by have := z_ru_rng r0 (show r < 5 by omega); omega⟩, fun w2 => ?_, fun w2 => ?_⟩⟩) (fun z => absurd hrg z)
    · have hne : ¬ t 723 o = r := fun z => w2 (by rw [z, z_ru_lt r1])
      refine b_C_waitsLeadTo_64 ?_
      rw [z_wr_id (by omega) (by omega)]
      exact s_C_waitsLeadTo r0 r1 hE hx n (i + 1) _ (by omega) (by omega) hrg.1 hrg.2 hne (fun q => hy ⟨w, Or.inr ⟨hne, q⟩⟩) (fun q => hn (fun z => q (z.2.resolve_left hne).2))
    · rw [z_ru_lt r1] at w2
      exact hy ⟨w, Or.inl (by omega)⟩
theorem s_C_meetsOther {r key w : Int} {s t : z_M} (r0 : 0 ≤ r) (r1 : r < 4) (h : z_K0 false r s t) (hx : z_MX t r) (hw : w = 0 ↔ ¬ s (z_ru r) 2 = 2) (hno : mf_tk t key r = -1 → Q 0 (z_gl s c)) (hq : ∀ s', ¬ mf_tk t key r = -1 → z_KC false r s' (if mf_wal t r 4 (mf_tk t key r) = true then mf_fails r 1 t else mf_wait r (mf_tk t key r) key w t) → z_fz false s s' → Q 1 (z_gl s' c)) : z_C e (d + 3) m_C_meetsOther [z_R 0, z_R (z_ru r), z_I key] (z_gl s c) Q := by
  have hE := h.1
  have hru := z_ru_rng r0 (show r < 5 by omega)
  have hU := z_isU_ru r0 (show r < 5 by omega)
  obtain ⟨u1, u2, u3, u4, u5⟩ := id hU
  refine b_C_meetsOther_0 ?_
  have loop : ∀ (n : Nat) (i : Int), 0 ≤ i → i + (n : Int) = 4 → (∀ q, 0 ≤ q → q < i → ¬ q = r → ¬ z_has t q key) → z_T e (d + 2) m_C_meetsOther 2 [some (z_R 0), some (z_R (z_ru r)), some (z_I key), some (z_I i)] (z_gl s c) Q := by
    intro n
    induction n with
    | zero =>
      intro i i0 i1 hi
      refine b_C_meetsOther_2 ⟨fun _ => hno ?_, fun z => by omega⟩
      exact (z_tkOf_un (Or.inl ⟨rfl, fun q q0 q1 q2 => hi q q0 (by omega) q2⟩) (mf_tk_sp t key r)).symm
    | succ n ih =>
      intro i i0 i1 hi
      have nxt : (i = r ∨ ¬ z_has t i key) → z_T e (d + 2) m_C_meetsOther 78 [some (z_R 0), some (z_R (z_ru r)), some (z_I key), some (z_I i)] (z_gl s c) Q := fun hh => by
        refine b_C_meetsOther_78 ?_
        rw [z_wr_id (by omega) (by omega)]
        refine ih (i + 1) (by omega) (by omega) (fun q q0 q1 q2 => ?_)
        by_cases hqi : q = i
        · subst hqi; exact hh.resolve_left q2
        · exact hi q q0 (by omega) q2
      refine b_C_meetsOther_2 ⟨fun z => by omega, fun _ => ⟨by omega, ⟨by omega, by omega⟩, fun z => nxt (Or.inl ?_), fun z => ⟨by omega, ?_⟩⟩⟩
      · rw [z_ru_lt r1] at z; omega
      have hir : ¬ i = r := fun q => z (by rw [q, z_ru_lt r1])
      obtain ⟨⟨oG, oV⟩, -⟩ := (hE.2.1 rfl).2 i i0 (by omega) hir
      have hUo := (z_isU_ru (r := i) i0 (by omega)).1
      have hri := z_ru_lt (q := i) (by omega)
      rw [← hri]
      simp only [hUo, z_ckT]
      refine s_U_has (d := d + 1) i0 (by omega) oG (fun q => ⟨fun z => by omega, fun _ => ?_⟩) (fun q => ⟨fun _ => nxt (Or.inr q), fun z => absurd rfl z⟩)
      have htk : mf_tk t key r = i := (z_tkOf_un (Or.inr ⟨i0, by omega, hir, q, hi⟩) (mf_tk_sp t key r)).symm
      have hne : ¬ mf_tk t key r = -1 := by omega
      rw [htk] at hq
      refine b_C_waitsLeadTo_0 (s_C_waitsLeadTo (d := d) r0 r1 hE hx 4 0 i (by omega) (by omega) i0 (by omega) hir (fun hwl => ⟨fun z => by omega, fun _ => ?_⟩) (fun hwl => ⟨fun _ => ?_, fun z => absurd rfl z⟩))
      · rw [if_pos ((mf_wal_iff 4 i).mpr hwl)] at hq
        obtain ⟨a1, a2⟩ := z_KC_fail (why := 1) r0 (by omega) (by omega) h
        exact s_C_fail (d := d) (b := false) (r := r) hU hE.1 (hq _ (by omega) a1 a2)
      · rw [if_neg (fun z => hwl ((mf_wal_iff 4 i).mp z))] at hq
        have hwt := hq _ (by omega) (z_KC_wait (o := i) (key := key) (w := w) r0 (by omega) h) ⟨fun z => (by cases z), fun _ a j x y => by unfold cf_wait; rw [z_up_ne (by omega), z_up_ne (by omega), z_up_ne (by omega), z_up_ne (by omega)]⟩
        simp (disch := omega) only [u1, z_ckT, z_gl_lo, z_gl_ul]
        unfold cf_wait at hwt
        refine ⟨fun z => ?_, fun z => ?_⟩
        · rw [if_pos (hw.mpr z)] at hwt
          refine b_U_waitFor_0 ?_
          simp (disch := omega) only [u1, z_ckT, z_gl_lo, z_gl_ul]
          exact hwt
        · rw [if_neg (fun q => absurd z (hw.mp q))] at hwt
          refine b_U_waitFor_0 ?_
          simp (disch := omega) only [u1, z_ckT, z_gl_lo, z_gl_ul]
          exact hwt
  exact loop 4 0 (by omega) (by omega) (fun q q0 q1 => by omega)
end AK
