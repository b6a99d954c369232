/-! the class's reader: figures, codes one behind the other -/
section RD
variable {e : z_E} {d : Nat} {c s s1 s2 : z_M} {Q : Int → z_M → Prop} {g : Int → Int} {N b p q q1 q2 : Int} {c1 c2 : z_Cd}
theorem s_R_readNumber (h : z_CG g N s s1 b p c1) (h1 : z_dg (z_pk g N p) → ∀ s2, z_CG g N s s2 b (z_nm g N p).1 c1 → s2 3 5 = (z_nm g N p).2 → Q 1 (z_gl s2 c)) (h0 : ¬ z_dg (z_pk g N p) → Q 0 (z_gl (z_up s1 3 3 p) c)) : z_C e (d + 3) m_R_readNumber [z_R 3] (z_gl s1 c) Q := by
  have hs := h.1
  have h4 := hs.2.2.1
  have h3 := hs.2.1
  refine b_R_readNumber_0 (s_R_isDigit (d := d) hs (fun dg => ⟨fun _ => s_R_ahead (d := d + 1) hs ?_, fun z => by omega⟩) (fun dg => ⟨fun z => absurd rfl z, fun _ => ?_⟩))
  · have dg1 := dg.1
    have dg2 := dg.2
    have hlt := z_pk_lt (g := g) (N := N) (p := p) rfl (by omega)
    have h1 := h1 dg
    unfold z_nm at h1
    generalize z_pk g N p = v at dg1 dg2 h1 ⊢
    rw [z_wr_id (x := v - 48) (by omega) (by omega), z_gl_ul (by omega), z_gl_lo (by omega), z_up_ne (by omega), h4.1, z_wr_id (x := p + 1) (by omega) (by omega), z_gl_ul (by omega)]
    have m2 := z_CG_mv (q := p + 1) (z_CG_nu (v := v - 48) h) (by omega) (by omega)
    have e5 : z_up (z_up s1 3 5 (v - 48)) 3 4 (p + 1) 3 5 = v - 48 := by rw [z_up_ne (by omega), z_up_eq]
    generalize z_up (z_up s1 3 5 (v - 48)) 3 4 (p + 1) = s2 at m2 e5 ⊢
    have e4 := m2.1.2.2.1.1
    refine s_R_isDigit (d := d) m2.1 (fun dg3 => ⟨fun z => by omega, fun _ => s_R_ahead (d := d + 1) m2.1 ?_⟩) (fun dg3 => ⟨fun _ => ?_, fun z => absurd rfl z⟩)
    · have dg4 := dg3.1
      have dg5 := dg3.2
      have hlt2 := z_pk_lt (g := g) (N := N) (p := p + 1) rfl (by omega)
      rw [if_pos dg3] at h1
      generalize z_pk g N (p + 1) = w at dg4 dg5 h1 ⊢
      rw [z_gl_lo (by omega), e5, z_wr_id (x := 10 * (v - 48)) (by omega) (by omega), z_wr_id (x := 10 * (v - 48) + w) (by omega) (by omega), z_wr_id (x := 10 * (v - 48) + w - 48) (by omega) (by omega), z_gl_ul (by omega), z_gl_lo (by omega), z_up_ne (by omega), e4, z_wr_id (x := p + 1 + 1) (by omega) (by omega), z_gl_ul (by omega)]
      refine h1 _ (by rw [show p + 1 + 1 = p + 2 by omega]; exact z_CG_mv (z_CG_nu m2) (by omega) (by omega)) ?_
      rw [z_up_ne (by omega), z_up_eq]
      show 10 * (v - 48) + w - 48 = 10 * (v - 48) + (w - 48)
      omega
    · rw [if_neg dg3] at h1
      exact h1 s2 m2 e5
  · rw [z_gl_lo (by omega), h4.1]
    exact s_R_wrong (d := d + 1) (z_ckI rfl (h0 dg))
theorem s_R_readIndex (h : z_CG g N s s1 b p c1) (hlt : p < N) (h1 : z_dg (z_pk g N (p + 1)) → (z_nm g N (p + 1)).2 < 12 → ∀ s2, z_CG g N s s2 b (z_nm g N (p + 1)).1 c1 → s2 3 5 = (z_nm g N (p + 1)).2 → Q 1 (z_gl s2 c)) (h2 : z_dg (z_pk g N (p + 1)) → 12 ≤ (z_nm g N (p + 1)).2 → ∀ s2, z_CFr s s2 → s2 3 3 = p + 1 → Q 0 (z_gl s2 c)) (h0 : ¬ z_dg (z_pk g N (p + 1)) → ∀ s2, z_CFr s s2 → s2 3 3 = p + 1 → Q 0 (z_gl s2 c)) : z_C e (d + 4) m_R_readIndex [z_R 3, z_I 12] (z_gl s1 c) Q := by
  have hs := h.1
  have h4 := hs.2.2.1
  have h3 := hs.2.1
  refine b_R_readIndex_0 ?_
  rw [z_gl_lo (by omega), h4.1, z_wr_id (by omega) (by omega), z_gl_ul (by omega), z_gl_lo (by omega), z_up_eq]
  have m2 := z_CG_mv (q := p + 1) h (by omega) (by omega)
  refine s_R_readNumber (d := d) m2 (fun dg s2 m3 e5 => ⟨fun _ => ?_, fun z => by omega⟩) (fun dg => ⟨fun z => absurd rfl z, fun _ => h0 dg _ (z_CFr_tr m2.2.1 (z_CFr_up (by omega))) z_up_eq⟩)
  rw [z_gl_lo (by omega), e5]
  exact ⟨fun q => h1 dg q s2 m3 e5, fun q => s_R_wrong (d := d + 2) ⟨fun _ => h2 dg q _ (z_CFr_tr m3.2.1 (z_CFr_up (by omega))) z_up_eq, fun z => absurd rfl z⟩⟩
theorem cf_put_CG {op x op' x' : Int} (h : z_CG g N s s1 b p c1) (h1 : b + c1.length + 1 ≤ p) (hcc : 16 * x + op = z_cc op' x') (h6 : op = 6 ↔ op' = 13) : z_CG g N s (cf_put op x s1) b p (c1 ++ [(op', x')]) := by
  refine z_CG_tr h ?_
  obtain ⟨⟨a1, a2⟩, a3, a4, a6, a7⟩ := h.1
  have u : ∀ a i, ¬ a = 6 → ¬ (a = 5 ∧ (i = 1 ∨ i = 2)) → cf_put op x s1 a i = s1 a i := fun a i y z => by unfold cf_put; rw [z_up_ne (by omega), z_up_ne (by omega), z_up_ne (by omega)]
  have u1 : cf_put op x s1 5 1 = s1 5 1 + 1 := by unfold cf_put; rw [z_up_ne (by omega), z_up_eq]
  have u2 : cf_put op x s1 5 2 = s1 5 2 + (if op = 6 then 0 else 1) := by unfold cf_put; rw [z_up_eq]
  have u6 : ∀ i, ¬ i = s1 5 1 → cf_put op x s1 6 i = s1 6 i := fun i y => by unfold cf_put; rw [z_up_ne (by omega), z_up_ne (by omega), z_up_ne (by omega)]
  have e6 : (if op = 6 then (0 : Int) else 1) = if op' = 13 then 0 else 1 := by simp only [h6]
  refine ⟨?_, fun a i x1 x2 x3 => u a i x3 x2, by rw [u2, e6]; show _ = s1 5 2 + ((if op' = 13 then 0 else 1) + 0); omega, fun i hi => u6 i (by omega), ?_, trivial⟩
  · show z_CS g N _ (b + c1.length + ((1 : Nat) : Int)) p
    unfold z_CS
    rw [u 3 2 (by omega) (by omega), u 3 4 (by omega) (by omega), u1, u2]
    exact ⟨⟨a1, fun i => by rw [u _ _ (by omega) (by omega)]; exact a2 i⟩, a3, a4, by omega, by split <;> omega⟩
  · rw [← hcc, ← a6.1]
    unfold cf_put
    rw [z_up_ne (by omega), z_up_ne (by omega), z_up_eq]
theorem s_T_pu {op x op' x' : Int} (h : z_CG g N s s1 b p c1) (h1 : b + c1.length + 1 ≤ p) (ho : 0 ≤ op ∧ op < 16) (hx : 0 ≤ x ∧ x < 128) (hcc : 16 * x + op = z_cc op' x') (h6 : op = 6 ↔ op' = 13) (hq : z_CG g N s (cf_put op x s1) b p (c1 ++ [(op', x')]) → Q 0 (z_gl (cf_put op x s1) c)) : z_C e (d + 1) m_T_put [z_R 5, z_I op, z_I x] (z_gl s1 c) Q :=
  s_T_put h.1 h1 ho hx (hq (cf_put_CG h h1 hcc h6))
/-- what the class does with a part -/
def z_CK (e : z_E) (d : Nat) (c : z_M) (k : Nat) (o i : Int) (s : z_M) (Q : Int → z_M → Prop) : Prop :=
  match k with
  | 0 => z_C e d m_R_readChoice [z_R 3, z_I o] (z_gl s c) Q
  | 1 => z_C e d m_R_readComparison [z_R 3, z_I o] (z_gl s c) Q
  | 2 => z_C e d m_R_readSum [z_R 3, z_I o] (z_gl s c) Q
  | 3 => z_C e d m_R_readProduct [z_R 3, z_I o] (z_gl s c) Q
  | 4 => z_C e d m_R_readUnit [z_R 3, z_I o] (z_gl s c) Q
  | 5 => z_T e d m_R_readSum 12 [some (z_R 3), some (z_I o), some (z_I i), none] (z_gl s c) Q
  | 6 => z_T e d m_R_readProduct 12 [some (z_R 3), some (z_I o), some (z_I i), none] (z_gl s c) Q
  | _ => z_C e d m_R_readBracket [z_R 3, z_I o] (z_gl s c) Q
/-- all parts at a fuel -/
def z_CI (e : z_E) (c : z_M) (g : Int → Int) (N : Int) (n : Nat) : Prop := ∀ (k : Nat) (o i b p : Int) (s : z_M) (d : Nat) (Q : Int → z_M → Prop), k < 8 → 8 * (N - p) + z_mu k ≤ (n : Int) → 8 * (N - p) + z_mu k + 20 ≤ (d : Int) → (0 ≤ o ∧ o ≤ 5) → (0 ≤ i ∧ i ≤ p) → z_CS g N s b p → (∀ f s', z_ps g N n k o b p = some (.inl f) → z_CFr s s' → s' 3 3 = f → Q 0 (z_gl s' c)) → (∀ q cs s', z_ps g N n k o b p = some (.inr (q, cs)) → p ≤ q → q ≤ N → (cs.length : Int) ≤ q - p → (k = 5 ∨ k = 6 ∨ p < q) → z_CG g N s s' b q cs → Q 1 (z_gl s' c)) → z_CK e d c k o i s Q
end RD
