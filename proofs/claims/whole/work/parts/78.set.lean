/-! set and drop -/
theorem z_TI_c {t t' : z_M} {R : Int} (h4 : t' 704 = t 704) (h5 : t' 705 R = t 705 R) (h : z_TI t R) : z_TI t' R := by
  unfold z_TI z_TD z_TO at h ⊢
  rw [h4, h5]
  exact h
section ST
variable {e : z_E} {n : Nat} {s t : z_M}
theorem z2_set {x v : Int} (h : z_RCs n s t) : z_two e n z_Inv m_C_set m_M_set [z_I x, z_I v] (z_gl s t) := by
  have inv := z_RCs_gl (z_RCs_up h)
  obtain ⟨⟨hT, hS, hN, hB⟩, ho, hx, hc, -⟩ := id h
  have bad : ¬ ((0 ≤ x ∧ x ≤ 11) ∧ -99 ≤ v ∧ v ≤ 99) → z_C e 1000 m_M_set [z_R 701, z_I x, z_I v] (z_gl s t) (fun r2 σ2 => -20001 = r2 ∧ z_Inv (n + 1) σ2) := fun q =>
    b_M_set_0 (d := 999) (s_M_in (d := 998) (fun a b => ⟨fun z => by omega, fun _ => s_M_in (d := 998) (fun a2 b2 => absurd ⟨⟨a, b⟩, a2, b2⟩ q) (fun _ => ⟨fun z => absurd rfl z, fun _ => ⟨rfl, inv⟩⟩)⟩) (fun _ => ⟨fun _ => ⟨rfl, inv⟩, fun z => absurd rfl z⟩))
  have good : 0 ≤ x → x ≤ 11 → -99 ≤ v → v ≤ 99 → ∀ (c s' t1 : z_M) (Q : Int → z_M → Prop), (t 702 x = v → Q 0 (z_gl s' t)) → (¬ t 702 x = v → z_C e 999 m_M_changed [z_R 701, z_I x] (z_gl s' (z_up t 702 x v)) Q) → z_C e 1000 m_M_set [z_R 701, z_I x, z_I v] (z_gl s' t) Q := fun x0 x1 v0 v1 c s' t1 Q h1 h2 => by
    refine b_M_set_0 (d := 999) (s_M_in (d := 998) (fun _ _ => ⟨fun z => by omega, fun _ => s_M_in (d := 998) (fun _ _ => ⟨fun _ => ⟨by omega, ?_⟩, fun z => by omega⟩) (fun q => by omega)⟩) (fun q => by omega))
    rw [z_gl_hi (by omega)]
    refine ⟨fun q => ⟨by omega, ?_⟩, fun q => h1 q⟩
    rw [z_gl_up (by omega)]
    exact h2 q
  refine b_C_set_0 (d := 999) (s_C_within (d := 998) (fun x0 x1 => ⟨fun z => by omega, fun _ => ⟨fun q => bad (by omega), fun v0 => ⟨fun v1 => ⟨by omega, ?_⟩, fun q => bad (by omega)⟩⟩⟩) (fun q => ⟨fun _ => bad (by omega), fun z => absurd rfl z⟩))
  have hc1 := hT.1 x x0 x1
  rw [z_gl_lo (by omega), hc1]
  refine ⟨fun q => ⟨by omega, ?_⟩, fun q => good x0 (by omega) v0 v1 s s s _ (fun _ => ⟨rfl, inv⟩) (fun z => absurd q z)⟩
  refine z_C_rM fun hrM => ?_
  have hir : z_ir (t 717 3) := by
    have z := hrM 717 3
    rw [z_up_ne (by omega), z_gl_hi (by omega)] at z; exact z
  rw [z_gl_ul (by omega)]
  have us : ∀ a i, ¬ (a = 1 ∧ i = x) → z_up s 1 x v a i = s a i := fun a i y => z_up_ne (by omega)
  have ut : ∀ a i, ¬ (a = 702 ∧ i = x) → z_up t 702 x v a i = t a i := fun a i y => z_up_ne (by omega)
  have e4 : z_up t 702 x v 704 = t 704 := funext fun i => ut _ _ (by omega)
  have e5 : z_up t 702 x v 705 = t 705 := funext fun i => ut _ _ (by omega)
  refine z2_changed (d := 994) (t := t) (t1 := z_up t 702 x v) (w := x) x0 (by omega) h (fun a i y1 y2 => us _ _ (by omega)) (fun a i y1 y2 y3 => ut _ _ (by omega)) ⟨fun c c0 c1 y => ut _ _ (by omega), fun R R0 R1 y => ⟨by rw [e5], fun p p0 p1 => by rw [e4]⟩⟩ ⟨fun c c0 c1 => ?_, fun R R0 R1 => z_TI_c e4 (by rw [e5]) (hx.1.2 R R0 R1)⟩ ⟨fun k k0 k1 => ?_, fun R R0 R1 => ?_⟩ hir (fun s' t' hR _ _ hM => ?_)
  · by_cases y : c = x
    · rw [y, z_up_eq]; exact ⟨v0, v1⟩
    · rw [ut _ _ (by omega)]; exact hx.1.1 c c0 c1
  · by_cases y : k = x
    · rw [y, z_up_eq, z_up_eq]
    · rw [us _ _ (by omega), ut _ _ (by omega)]; exact hT.1 k k0 k1
  · have hX := hT.2 R R0 R1
    unfold z_cX at hX ⊢
    rw [e4, e5, us _ _ (by omega)]
    exact ⟨hX.1, fun p p0 p1 => by rw [us _ _ (by omega)]; exact hX.2 p p0 p1⟩
  · exact good x0 (by omega) v0 v1 s s' t _ (fun z => absurd z q) (fun _ => hM s' 994 _ ⟨rfl, z_RCs_gl hR⟩)
theorem z2_drop {x : Int} (h : z_RCs n s t) : z_two e n z_Inv m_C_drop m_M_drop [z_I x] (z_gl s t) := by
  have inv := z_RCs_gl (z_RCs_up h)
  obtain ⟨⟨hT, hS, hN, hB⟩, ho, hx, hc, -⟩ := id h
  have bad : ¬ (0 ≤ x ∧ x ≤ 11) → z_C e 1000 m_M_drop [z_R 701, z_I x] (z_gl s t) (fun r2 σ2 => -20001 = r2 ∧ z_Inv (n + 1) σ2) := fun q =>
    b_M_drop_0 (d := 999) (s_M_in (d := 998) (fun a b => absurd ⟨a, b⟩ q) (fun _ => ⟨fun z => absurd rfl z, fun _ => ⟨rfl, inv⟩⟩))
  have good : 0 ≤ x → x ≤ 11 → ∀ (s' : z_M) (Q : Int → z_M → Prop), (t 705 x = 0 → Q (-20003) (z_gl s' t)) → (¬ t 705 x = 0 → z_C e 999 m_M_changed [z_R 701, z_I (12 + x)] (z_gl s' (z_up t 705 x 0)) Q) → z_C e 1000 m_M_drop [z_R 701, z_I x] (z_gl s' t) Q := fun x0 x1 s' Q h1 h2 => by
    refine b_M_drop_0 (d := 999) (s_M_in (d := 998) (fun _ _ => ⟨fun _ => ⟨by omega, ?_⟩, fun z => by omega⟩) (fun q => by omega))
    rw [z_gl_hi (by omega)]
    refine ⟨fun q => ⟨by omega, ?_⟩, fun q => h1 q⟩
    rw [z_gl_up (by omega), z_wr_id (by omega) (by omega)]
    exact h2 q
  refine b_C_drop_0 (d := 999) (s_C_within (d := 998) (fun x0 x1 => ⟨fun _ => ⟨by omega, ?_⟩, fun z => by omega⟩) (fun q => ⟨fun z => absurd rfl z, fun _ => bad (by omega)⟩))
  have hI := z_isT_of x0 x1
  have hI1 := hI.1
  have hX := hT.2 x x0 x1
  have hTI := hx.1.2 x x0 x1
  have hX1 := hX.1
  have hT0 := hTI.1
  simp only [hI1, z_ckT]
  refine s_T_stands (d := 998) hI (fun q => ⟨fun _ => ⟨by omega, ?_⟩, fun z => by omega⟩) (fun q => ⟨fun z => absurd rfl z, fun _ => good x0 (by omega) s _ (fun _ => ⟨rfl, inv⟩) (fun z => by omega)⟩)
  refine b_T_empty_0 (d := 998) ?_
  simp only [hI1, z_ckT]
  refine z_C_rM fun hrM => ?_
  have hir : z_ir (t 717 3) := by
    have z := hrM 717 3
    rw [z_up_ne (by omega), z_up_ne (by omega), z_gl_hi (by omega)] at z; exact z
  rw [z_gl_ul (by omega), z_gl_ul (by omega), z_wr_id (by omega) (by omega)]
  have us : ∀ a i, ¬ (a = 309 + 2 * x ∧ (i = 1 ∨ i = 2)) → z_up (z_up s (309 + 2 * x) 1 0) (309 + 2 * x) 2 0 a i = s a i := fun a i y => by rw [z_up_ne (by omega), z_up_ne (by omega)]
  have ut : ∀ a i, ¬ (a = 705 ∧ i = x) → z_up t 705 x 0 a i = t a i := fun a i y => z_up_ne (by omega)
  have e4 : z_up t 705 x 0 704 = t 704 := funext fun i => ut _ _ (by omega)
  refine z2_changed (d := 994) (t := t) (t1 := z_up t 705 x 0) (w := 12 + x) (by omega) (by omega) h (fun a i y1 y2 => us _ _ (by omega)) (fun a i y1 y2 y3 => ut _ _ (by omega)) ⟨fun c c0 c1 y => ut _ _ (by omega), fun R R0 R1 y => ⟨ut _ _ (by omega), fun p p0 p1 => by rw [e4]⟩⟩ ⟨fun c c0 c1 => by rw [ut _ _ (by omega)]; exact hx.1.1 c c0 c1, fun R R0 R1 => ?_⟩ ⟨fun k k0 k1 => by rw [us _ _ (by omega), ut _ _ (by omega)]; exact hT.1 k k0 k1, fun R R0 R1 => ?_⟩ hir (fun s' t' hR _ _ hM => ?_)
  · by_cases y : R = x
    · rw [y]
      unfold z_TI
      rw [z_up_eq]
      exact ⟨by omega, by omega, by omega, fun z => absurd rfl z⟩
    · exact z_TI_c e4 (ut _ _ (by omega)) (hx.1.2 R R0 R1)
  · by_cases y : R = x
    · rw [y]
      unfold z_cX
      rw [z_up_eq, z_up_ne (by omega), z_up_eq]
      exact ⟨by omega, fun p p0 p1 => by omega⟩
    · have hX := hT.2 R R0 R1
      unfold z_cX at hX ⊢
      rw [e4, ut _ _ (by omega), us _ _ (by omega)]
      exact ⟨hX.1, fun p p0 p1 => by rw [us _ _ (by omega)]; exact hX.2 p p0 p1⟩
  · exact good x0 (by omega) s' _ (fun z => by omega) (fun _ => hM s' 994 _ ⟨rfl, z_RCs_gl hR⟩)
end ST
