/-! fresh -/
section FC
variable {e : z_E} {n : Nat} {s t : z_M}
theorem z2_fresh {rl ar : Int} (hn : n < 512) (h : z_RCs n s t) : z_two e n z_Inv m_C_fresh m_M_fresh [z_I rl, z_I ar] (z_gl s t) := by
  have inv := z_RCs_gl (z_RCs_up h)
  have hru : z_ru 4 = 216 := rfl
  refine b_C_fresh_0 (d := 999) (s_C_isKey (d := 997) (fun r0 r1 a0 a1 => ⟨fun _ => ?_, fun z => by omega⟩) (fun q => ⟨fun z => absurd rfl z, fun _ => ?_⟩))
  · have hx := h.2.2.1
    have hc := h.2.2.2.1
    have hB := h.1.2.2.2
    obtain ⟨th1, th2, th3⟩ := h.2.2.2.2
    have hU := z_isU_ru (r := 4) (by omega) (by omega)
    have x0 := mf_f0_MX hx (show ¬ t 701 30 = 0 by omega)
    have x1 : z_MX (z_up (z_up (mf_f0 t) 721 4 0) 722 4 0) 4 := z_ro_MX mf_first_ro x0
    have e22 : z_up (z_up (mf_f0 t) 721 4 0) 722 4 0 722 4 = 0 := z_up_eq
    have e21 : z_up (z_up (mf_f0 t) 721 4 0) 722 4 0 721 4 = 0 := by rw [z_up_ne (by omega), z_up_eq]
    have hm0 : z_me t (mf_f0 t) := by refine ⟨?_, ?_, ?_⟩ <;> (funext i; exact mf_f0_ne (by omega) (by omega) (by omega))
    have hE : z_cE true 4 (z_up (z_up s 213 2 (s 213 2 + 1)) (z_ru 4) 1 2) (mf_f0 t) := by
      have us : ∀ a i, ¬ a = z_ru 4 → ¬ a = 213 → z_up (z_up s 213 2 (s 213 2 + 1)) (z_ru 4) 1 2 a i = s a i := fun a i y z => by rw [z_up_ne (by omega), z_up_ne (by omega)]
      refine ⟨by rw [z_up_eq]; rfl, fun q => (by cases q), fun _ => ⟨rfl, z_cT_c (fun a i y => us a i (by omega) (by omega)) hm0 h.1.1, fun k k0 k1 => ?_, mf_f0_30⟩⟩
      have h3 := th3 k k0 k1
      rw [us 215 _ (by omega) (by omega), us 214 _ (by omega) (by omega), mf_f0_707 k0 k1, z_up_ne (by omega), z_up_eq]
      exact ⟨⟨fun q => by omega, fun q => absurd rfl q⟩, fun q => absurd rfl q, by omega⟩
    obtain ⟨w1, w2⟩ := z_K0_renew (x := 2) (by omega) (by omega) hE rfl
    rw [z_up_up] at w1 w2
    rw [hru] at w1 w2 hU
    obtain ⟨hp, f1, f2, f3, f4, f5⟩ := mf_ask_first (r := 4) (w := 0) (by omega) (by omega) x1 e22 (by omega) (show 0 ≤ 101 * rl + ar + 50 ∧ 101 * rl + ar + 50 < 1212 by omega)
    obtain ⟨g1, g2, g3, g4, g5⟩ := mf_whole_run x0 r0 r1 a0 a1
    have hr5 := mf_f2_r5 (k := 101 * rl + ar + 50) hx hB.1 (by omega)
    have h720 := mf_f2_720 (t := t) (k := 101 * rl + ar + 50)
    refine b_H_forget_0 (d := 998) ?_
    rw [z_gl_lo (by omega), z_wr_id (by omega) (by omega), z_gl_ul (by omega)]
    refine s_U_renew (d := 998) hU (s_C_keyOf (d := 998) r0 r1 a0 a1 (b_C_workOut_0 (d := 998) ?_))
    refine s_C_askKey (d := 992) (r := 4) (b := true) (w := 0) (by omega) (by omega) w1 x1 hp (fun z => by omega) (fun z => by omega) (fun s1 v1 v2 => ?_)
    refine s_C_workOut_loop (d := 990) (r := 4) (by omega) (by omega) (fun z => by omega) 2001 0 s1 _ _ v1 f1 (fun _ => by omega) (by omega) (by omega) (fun s2 v3 v4 => ?_)
    have hV := v3.2.2
    unfold z_cV at hV
    rw [hru] at hV
    have hfz := z_fz_tr w2 (z_fz_tr v2 v4)
    have fs : ∀ a i, ¬ (213 ≤ a ∧ a < 308) → s2 a i = s a i := fun a i y => by rw [hfz.1 rfl a i (by omega) (by omega) (by omega), z_up_ne (by omega), z_up_ne (by omega)]
    have fr : s2 213 2 = s 213 2 + 1 := by rw [hfz.1 rfl _ _ (by omega) (by omega) (by omega), z_up_ne (by omega), z_up_eq]
    have hH := (v3.1.2.2 rfl).2.2.1
    rw [show mf_run 2001 4 (mf_ask 4 (101 * rl + ar + 50) 0 (z_up (z_up (mf_f0 t) 721 4 0) 722 4 0)) = mf_f1 (101 * rl + ar + 50) t from rfl] at hV g2
    have M : ∀ x, x = mf_f1 (101 * rl + ar + 50) t 720 4 → z_C e 1000 m_M_fresh [z_R 701, z_I rl, z_I ar] (z_gl s2 t) (fun r2 σ2 => x = r2 ∧ z_Inv (n + 1) σ2) := fun x hxq => by
      refine s_M_fresh x0 (by omega) (fun i i0 i1 => ?_) r0 r1 a0 a1 ⟨by rw [h720]; exact hxq, z_RCs_gl (z_RCs_r5 h fs fr (fun k k0 k1 => (hH k k0 k1).2.2) hr5)⟩
      by_cases q : t 707 i = 0
      · exact Or.inl q
      · exact Or.inr (hx.2.2.2.2.1.1 i i0 i1 q).1
    refine s_U_outcome (d := 998) hU (fun q => ?_) (fun q => ?_)
    · rw [hV.1] at q
      exact M _ (hV.2.2.1 (by omega))
    · rw [hV.1] at q
      obtain ⟨o1, o2, o3⟩ := hV.2.2.2 q
      exact ⟨o2, o3, M _ o1.symm⟩
  · exact b_M_fresh_0 (d := 999) (s_M_mayAsk (d := 997) (fun _ _ _ _ => by omega) (fun _ => ⟨fun z => absurd rfl z, fun _ => ⟨rfl, inv⟩⟩))
end FC
