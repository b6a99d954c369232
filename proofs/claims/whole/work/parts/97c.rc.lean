/-! the class's reader: small methods -/
def z_CS (g : Int → Int) (N : Int) (s : z_M) (b p : Int) : Prop := (s 3 2 = N ∧ ∀ i, s 4 i = g i) ∧ (0 ≤ N ∧ N ≤ 100) ∧ (s 3 4 = p ∧ 0 ≤ p ∧ p ≤ N) ∧ (s 5 1 = b ∧ 0 ≤ b ∧ b ≤ p) ∧ 0 ≤ s 5 2 ∧ s 5 2 ≤ b
/-- the code words of codes -/
def z_aw (g : Int → Int) : Int → z_Cd → Prop
  | _, [] => True
  | b, (x, y) :: r => g b = z_cc x y ∧ z_aw g (b + 1) r
theorem z_aw_app {g : Int → Int} : ∀ (c1 c2 : z_Cd) (b : Int), z_aw g b (c1 ++ c2) ↔ z_aw g b c1 ∧ z_aw g (b + c1.length) c2
  | [], c2, b => by
    rw [List.nil_append]
    show z_aw g b c2 ↔ True ∧ z_aw g (b + ((0 : Nat) : Int)) c2
    rw [show b + ((0 : Nat) : Int) = b by omega]
    exact ⟨fun h => ⟨trivial, h⟩, fun h => h.2⟩
  | (x, y) :: r, c2, b => by
    show (_ ∧ z_aw g (b + 1) (r ++ c2)) ↔ (_ ∧ z_aw g (b + 1) r) ∧ _
    rw [z_aw_app r c2 (b + 1), List.length_cons, show b + ((r.length + 1 : Nat) : Int) = b + 1 + (r.length : Int) by omega]
    exact ⟨fun h => ⟨⟨h.1, h.2.1⟩, h.2.2⟩, fun h => ⟨h.1.1, h.1.2, h.2⟩⟩
theorem z_aw_congr {g g' : Int → Int} : ∀ (c : z_Cd) (b : Int), (∀ i, b ≤ i → i < b + c.length → g' i = g i) → z_aw g b c → z_aw g' b c
  | [], b, _, _ => trivial
  | (x, y) :: r, b, h, ⟨h1, h3⟩ => by
    rw [List.length_cons] at h
    exact ⟨by rw [h _ (by omega) (by omega)]; exact h1, z_aw_congr r (b + 1) (fun i a b => h i (by omega) (by omega)) h3⟩
/-- nothing but the reader's own changes -/
def z_CFr (s s' : z_M) : Prop := ∀ a i, ¬ (a = 3 ∧ 3 ≤ i ∧ i ≤ 5) → ¬ (a = 5 ∧ (i = 1 ∨ i = 2)) → ¬ a = 6 → s' a i = s a i
theorem z_CFr_rf {s : z_M} : z_CFr s s := fun _ _ _ _ _ => rfl
theorem z_CFr_tr {s s1 s2 : z_M} (h : z_CFr s s1) (h2 : z_CFr s1 s2) : z_CFr s s2 := fun a i x y z => by rw [h2 a i x y z, h a i x y z]
theorem z_CFr_up {s : z_M} {i v : Int} (h : 3 ≤ i ∧ i ≤ 5) : z_CFr s (z_up s 3 i v) := fun a j x y z => z_up_ne (by omega)
theorem z_CFr_u6 {s : z_M} {i v : Int} : z_CFr s (z_up s 6 i v) := fun a j x y z => z_up_ne (by omega)
/-- a part is read -/
def z_CG (g : Int → Int) (N : Int) (s s' : z_M) (b q : Int) (cs : z_Cd) : Prop := z_CS g N s' (b + cs.length) q ∧ z_CFr s s' ∧ s' 5 2 = s 5 2 + z_cz cs ∧ (∀ i, i < b → s' 6 i = s 6 i) ∧ z_aw (s' 6) b cs
def cf_put (op x : Int) (s : z_M) : z_M := z_up (z_up (z_up s 6 (s 5 1) (16 * x + op)) 5 1 (s 5 1 + 1)) 5 2 (s 5 2 + (if op = 6 then 0 else 1))
section RC2
variable {e : z_E} {d : Nat} {c s s1 s2 : z_M} {Q : Int → z_M → Prop} {g : Int → Int} {N b p q q1 q2 : Int} {c1 c2 : z_Cd}
theorem s_R_ahead (h : z_CS g N s b p) (hq : Q (z_pk g N p) (z_gl s c)) : z_C e (d + 1) m_R_ahead [z_R 3] (z_gl s c) Q := by
  obtain ⟨⟨h1, h2⟩, h3, h4, -⟩ := h
  unfold z_pk at hq
  refine b_R_ahead_0 ?_
  simp (disch := omega) only [z_gl_lo, h1, h4.1, h2]
  refine ⟨fun z => ?_, fun z => ⟨fun z2 => by omega, fun _ => ⟨by omega, ?_⟩⟩⟩
  · rw [if_neg (by omega)] at hq; exact hq
  · rw [if_pos z] at hq; exact hq
theorem s_R_wrong {x : Int} (hq : Q 0 (z_gl (z_up s 3 3 x) c)) : z_C e (d + 1) m_R_wrong [z_R 3, z_I x] (z_gl s c) Q := by
  refine b_R_wrong_0 ?_
  rw [z_gl_ul (by omega)]
  exact hq
theorem s_R_pass {x : Int} (h : z_CS g N s b p) (hx : ¬ x = -1) (h1 : z_pk g N p = x → p < N → Q 1 (z_gl (z_up s 3 4 (p + 1)) c)) (h0 : ¬ z_pk g N p = x → Q 0 (z_gl (z_up s 3 3 p) c)) : z_C e (d + 2) m_R_pass [z_R 3, z_I x] (z_gl s c) Q := by
  have h4 := h.2.2.1
  have h3 := h.2.1
  refine b_R_pass_0 (s_R_ahead (d := d) h ⟨fun q => ?_, fun q => ?_⟩)
  · have hlt := z_pk_lt q hx
    rw [z_gl_lo (by omega), h4.1, z_gl_ul (by omega), z_wr_id (by omega) (by omega)]
    exact h1 q hlt
  · rw [z_gl_lo (by omega), h4.1]
    exact s_R_wrong (d := d) (z_ckI rfl (h0 q))
theorem s_R_passOpening {x o : Int} (h : z_CS g N s b p) (hx : ¬ x = -1) (h1 : z_pk g N p = x → p < N → o < 5 → Q 1 (z_gl (z_up s 3 4 (p + 1)) c)) (h0 : ¬ (z_pk g N p = x ∧ o < 5) → Q 0 (z_gl (z_up s 3 3 p) c)) : z_C e (d + 2) m_R_passOpening [z_R 3, z_I x, z_I o] (z_gl s c) Q := by
  have h4 := h.2.2.1
  have h3 := h.2.1
  refine b_R_passOpening_0 (s_R_ahead (d := d) h ⟨fun q => ?_, fun q => ⟨fun q2 => ?_, fun q2 => ?_⟩⟩)
  · rw [z_gl_lo (by omega), h4.1]
    exact s_R_wrong (d := d) (z_ckI rfl (h0 (fun z => q z.1)))
  · have hlt := z_pk_lt q hx
    rw [z_gl_lo (by omega), h4.1, z_gl_ul (by omega), z_wr_id (by omega) (by omega)]
    exact h1 q hlt q2
  · rw [z_gl_lo (by omega), h4.1]
    exact s_R_wrong (d := d) (z_ckI rfl (h0 (fun z => by omega)))
theorem s_R_isDigit (h : z_CS g N s b p) (h1 : z_dg (z_pk g N p) → Q 1 (z_gl s c)) (h0 : ¬ z_dg (z_pk g N p) → Q 0 (z_gl s c)) : z_C e (d + 2) m_R_isDigit [z_R 3] (z_gl s c) Q :=
  b_R_isDigit_0 (s_R_ahead (d := d) h ⟨fun q => h0 (fun z => by have := z.1; omega), fun q => s_R_ahead (d := d) h ⟨fun q2 => h0 (fun z => by have := z.2; omega), fun q2 => h1 ⟨q, q2⟩⟩⟩)
theorem z_CG_0 (h : z_CS g N s b p) : z_CG g N s s b p [] := ⟨by show z_CS g N s (b + ((0 : Nat) : Int)) p; rw [show b + ((0 : Nat) : Int) = b by omega]; exact h, z_CFr_rf, by show s 5 2 = s 5 2 + 0; omega, fun _ _ => rfl, trivial⟩
theorem z_CG_tr (h : z_CG g N s s1 b q1 c1) (h2 : z_CG g N s1 s2 (b + c1.length) q2 c2) : z_CG g N s s2 b q2 (c1 ++ c2) := by
  obtain ⟨a1, a2, a3, a4, a5⟩ := h
  obtain ⟨b1, b2, b3, b4, b5⟩ := h2
  refine ⟨?_, z_CFr_tr a2 b2, by rw [z_cz_app]; omega, fun i hi => by rw [b4 i (by omega)]; exact a4 i hi, (z_aw_app _ _ _).mpr ⟨z_aw_congr c1 b (fun i _ hi => b4 i hi) a5, b5⟩⟩
  rw [List.length_append, show b + ((c1.length + c2.length : Nat) : Int) = b + (c1.length : Int) + (c2.length : Int) by omega]
  exact b1
theorem z_CG_mv (h : z_CG g N s s1 b p c1) (h1 : p ≤ q) (h2 : q ≤ N) : z_CG g N s (z_up s1 3 4 q) b q c1 := by
  obtain ⟨⟨⟨a1, a2⟩, a3, a4, a6, a7⟩, b2, b3, b4, b5⟩ := h
  have u : ∀ a i, ¬ (a = 3 ∧ i = 4) → z_up s1 3 4 q a i = s1 a i := fun a i x => z_up_ne (by omega)
  refine ⟨?_, z_CFr_tr b2 (z_CFr_up (by omega)), by rw [u _ _ (by omega)]; exact b3, fun i hi => by rw [u _ _ (by omega)]; exact b4 i hi, z_aw_congr c1 b (fun i _ _ => u _ _ (by omega)) b5⟩
  unfold z_CS
  rw [u 3 2 (by omega), z_up_eq, u 5 1 (by omega), u 5 2 (by omega)]
  exact ⟨⟨a1, fun i => by rw [u _ _ (by omega)]; exact a2 i⟩, a3, ⟨rfl, by omega, h2⟩, by omega, a7⟩
theorem z_CG_nu {v : Int} (h : z_CG g N s s1 b p c1) : z_CG g N s (z_up s1 3 5 v) b p c1 := by
  obtain ⟨⟨⟨a1, a2⟩, a3, a4, a6, a7⟩, b2, b3, b4, b5⟩ := h
  have u : ∀ a i, ¬ (a = 3 ∧ i = 5) → z_up s1 3 5 v a i = s1 a i := fun a i x => z_up_ne (by omega)
  refine ⟨?_, z_CFr_tr b2 (z_CFr_up (by omega)), by rw [u _ _ (by omega)]; exact b3, fun i hi => by rw [u _ _ (by omega)]; exact b4 i hi, z_aw_congr c1 b (fun i _ _ => u _ _ (by omega)) b5⟩
  unfold z_CS
  rw [u 3 2 (by omega), u 3 4 (by omega), u 5 1 (by omega), u 5 2 (by omega)]
  exact ⟨⟨a1, fun i => by rw [u _ _ (by omega)]; exact a2 i⟩, a3, a4, a6, a7⟩
theorem s_T_put {op x : Int} (h : z_CS g N s b p) (h1 : b + 1 ≤ p) (ho : 0 ≤ op ∧ op < 16) (hx : 0 ≤ x ∧ x < 128) (hq : Q 0 (z_gl (cf_put op x s) c)) : z_C e (d + 1) m_T_put [z_R 5, z_I op, z_I x] (z_gl s c) Q := by
  obtain ⟨⟨a1, a2⟩, a3, a4, a6, a7⟩ := h
  have k5 : z_ok z_NT 6 5 = true := by decide +kernel
  have k6 : z_ok z_NT 100100 (5 + 1) = true := by decide +kernel
  refine b_T_put_0 ?_
  simp only [k5, k6, z_ckT]
  simp (disch := omega) only [z_gl_lo, z_gl_ul, z_up_ne, z_up_eq, z_wr_id, show (5 : Int) + 1 = 6 from rfl, z_co]
  unfold cf_put at hq
  refine ⟨fun z => by omega, fun _ => ⟨by omega, fun q => ?_, fun q => ?_⟩⟩
  · rw [if_neg q] at hq; exact hq
  · rw [if_pos q] at hq; exact hq
end RC2
