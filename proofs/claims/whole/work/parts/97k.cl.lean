/-! the class's reader against the function: a choice -/
section CLL
variable {e : z_E} {c s s1 s3 s7 s8 s9 : z_M} {Q : Int → z_M → Prop} {g : Int → Int} {N o b p p1 q l T E : Int} {c1 c2 cs : z_Cd} {r : List Int} {n d : Nat}
theorem s_R_ahead3 (h : (s 3 2 = N ∧ ∀ i, s 4 i = g i) ∧ (0 ≤ N ∧ N ≤ 100) ∧ (s 3 4 = p ∧ 0 ≤ p ∧ p ≤ N)) (hq : Q (z_pk g N p) (z_gl s c)) : z_C e (d + 1) m_R_ahead [z_R 3] (z_gl s c) Q := by
  obtain ⟨⟨h1, h2⟩, h3, h4⟩ := h
  unfold z_pk at hq
  refine b_R_ahead_0 ?_
  simp (disch := omega) only [z_gl_lo, h1, h4.1, h2]
  refine ⟨fun z => ?_, fun z => ⟨fun z2 => by omega, fun _ => ⟨by omega, ?_⟩⟩⟩
  · rw [if_neg (by omega)] at hq; exact hq
  · rw [if_pos z] at hq; exact hq
theorem s_R_passOpening3 {x o : Int} (h : (s 3 2 = N ∧ ∀ i, s 4 i = g i) ∧ (0 ≤ N ∧ N ≤ 100) ∧ (s 3 4 = p ∧ 0 ≤ p ∧ p ≤ N)) (hx : ¬ x = -1) (h1 : z_pk g N p = x → p < N → o < 5 → Q 1 (z_gl (z_up s 3 4 (p + 1)) c)) (h0 : ¬ (z_pk g N p = x ∧ o < 5) → Q 0 (z_gl (z_up s 3 3 p) c)) : z_C e (d + 2) m_R_passOpening [z_R 3, z_I x, z_I o] (z_gl s c) Q := by
  have h4 := h.2.2
  have h3 := h.2.1
  refine b_R_passOpening_0 (s_R_ahead3 (d := d) h ⟨fun q => ?_, fun q => ⟨fun q2 => ?_, fun q2 => ?_⟩⟩)
  · rw [z_gl_lo (by omega), h4.1]
    exact s_R_wrong (d := d) (z_ckI rfl (h0 (fun z => q z.1)))
  · have hlt := z_pk_lt q hx
    rw [z_gl_lo (by omega), h4.1, z_gl_ul (by omega), z_wr_id (by omega) (by omega)]
    exact h1 q hlt q2
  · rw [z_gl_lo (by omega), h4.1]
    exact s_R_wrong (d := d) (z_ckI rfl (h0 (fun z => by omega)))
theorem s_T_put3 {op x : Int} (h1 : 0 ≤ s 5 1 ∧ s 5 1 < 100) (h2 : 0 ≤ s 5 2 ∧ s 5 2 ≤ 100) (ho : 0 ≤ op ∧ op < 16) (hx : 0 ≤ x ∧ x < 128) (hq : Q 0 (z_gl (cf_put op x s) c)) : z_C e (d + 1) m_T_put [z_R 5, z_I op, z_I x] (z_gl s c) Q := by
  have k5 : z_ok z_NT 6 5 = true := by decide +kernel
  have k6 : z_ok z_NT 100100 (5 + 1) = true := by decide +kernel
  refine b_T_put_0 ?_
  simp only [k5, k6, z_ckT]
  simp (disch := omega) only [z_gl_lo, z_gl_ul, z_up_ne, z_up_eq, z_wr_id, show (5 : Int) + 1 = 6 from rfl, z_co]
  unfold cf_put at hq
  refine ⟨fun z => by omega, fun _ => ⟨by omega, fun q => ?_, fun q => ?_⟩⟩
  · rw [if_neg q] at hq; exact hq
  · rw [if_pos q] at hq; exact hq
theorem z_up_cm {a i v a' i' v' : Int} (h : ¬ (a = a' ∧ i = i')) : z_up (z_up s a i v) a' i' v' = z_up (z_up s a' i' v') a i v := by
  funext x y
  by_cases q : x = a ∧ y = i
  · obtain ⟨rfl, rfl⟩ := q
    rw [z_up_eq, z_up_ne (by omega), z_up_eq]
  · by_cases q2 : x = a' ∧ y = i'
    · obtain ⟨rfl, rfl⟩ := q2
      rw [z_up_eq, z_up_ne (by omega), z_up_eq]
    · rw [z_up_ne (by omega), z_up_ne (by omega), z_up_ne (by omega), z_up_ne (by omega)]
theorem cf_put_up3 {op x i v : Int} : z_up (cf_put op x s) 3 i v = cf_put op x (z_up s 3 i v) := by
  have e1 : z_up s 3 i v 5 1 = s 5 1 := z_up_ne (by omega)
  have e2 : z_up s 3 i v 5 2 = s 5 2 := z_up_ne (by omega)
  unfold cf_put
  rw [e1, e2]
  exact (z_up_cm (by omega)).trans (congrArg (fun m => z_up m 5 2 (s 5 2 + (if op = 6 then 0 else 1))) ((z_up_cm (by omega)).trans (congrArg (fun m => z_up m 5 1 (s 5 1 + 1)) (z_up_cm (by omega)))))
/-- a choice is written: what the loop goes on with -/
theorem z_CLa (hl0 : 0 ≤ l ∧ l ≤ b) (hch : z_ch (s 6) b l r) (hT : T = b + c1.length + 1 + c2.length + 1) (g7 : z_CG g N s s7 b p (((c1 ++ [(12, 0)]) ++ c2) ++ [(13, 2 * l)])) (h8 : s8 = z_up s7 6 (b + c1.length) (16 * T + 5)) : z_CS g N s8 T p ∧ z_CFr s s8 ∧ z_ch (s8 6) T T ((T - 1) :: r) := by
  obtain ⟨⟨⟨a1, a2⟩, a3, a4, a6, a7⟩, b2, b3, b4, b5⟩ := g7
  have hl : (((c1 ++ [((12 : Int), (0 : Int))]) ++ c2) ++ [((13 : Int), 2 * l)]).length = c1.length + 1 + c2.length + 1 := by simp only [List.length_append, List.length_cons, List.length_nil]
  rw [hl, show b + ((c1.length + 1 + c2.length + 1 : Nat) : Int) = T by omega] at a6 a7
  have u : ∀ a i, ¬ (a = 6 ∧ i = b + c1.length) → s8 a i = s7 a i := fun a i x => by rw [h8]; exact z_up_ne (by omega)
  have b0 : 0 ≤ b := by omega
  refine ⟨?_, fun a i x y z => by rw [u a i (by omega)]; exact b2 a i x y z, by omega, by omega, l, ?_, by omega, z_ch_up r l (z_ch_n (by omega) r l hch) (fun j hj => by rw [u _ _ (by omega)]; exact b4 j (by omega))⟩
  · unfold z_CS
    rw [u 3 2 (by omega), u 3 4 (by omega), u 5 1 (by omega), u 5 2 (by omega)]
    exact ⟨⟨a1, fun i => by rw [u _ _ (by omega)]; exact a2 i⟩, a3, a4, a6, a7⟩
  · have w := ((z_aw_app _ _ _).mp b5).2.1
    rw [show ((c1 ++ [((12 : Int), (0 : Int))]) ++ c2).length = c1.length + 1 + c2.length by simp only [List.length_append, List.length_cons, List.length_nil], show b + ((c1.length + 1 + c2.length : Nat) : Int) = T - 1 by omega] at w
    rw [u _ _ (by omega), w]
    unfold z_cc
    rw [if_neg (by omega), if_neg (by omega), if_neg (by omega), if_neg (by omega), if_neg (by omega), if_neg (by omega), if_pos rfl]
    omega
theorem z_CLb (hl0 : 0 ≤ l ∧ l ≤ b) (hch : z_ch (s 6) b l r) (hT : T = b + c1.length + 1 + c2.length + 1) (g7 : z_CG g N s s7 b p (((c1 ++ [(12, 0)]) ++ c2) ++ [(13, 2 * l)])) (h8 : s8 = z_up s7 6 (b + c1.length) (16 * T + 5)) (hE : E = T + cs.length) (f1 : z_CS g N s9 (T + cs.length) q) (f2 : z_CFr s8 s9) (f3 : s9 5 2 = s8 5 2 + z_cz cs) (f4 : z_aw (s9 6) T cs) (f5 : ∀ j, j < T → s9 6 j = cf_la (T + cs.length) ((T - 1) :: r) s8 6 j) : z_CS g N s9 (b + (c1 ++ (12, 2 * T) :: (c2 ++ (13, 2 * E) :: cs)).length) q ∧ z_CFr s s9 ∧ s9 5 2 = s 5 2 + z_cz (c1 ++ (12, 2 * T) :: (c2 ++ (13, 2 * E) :: cs)) ∧ z_aw (s9 6) b (c1 ++ (12, 2 * T) :: (c2 ++ (13, 2 * E) :: cs)) ∧ (∀ j, j < b → s9 6 j = cf_la (b + (c1 ++ (12, 2 * T) :: (c2 ++ (13, 2 * E) :: cs)).length) r s 6 j) := by
  obtain ⟨-, k2, k3⟩ := z_CLa hl0 hch hT g7 h8
  obtain ⟨⟨⟨a1, a2⟩, a3, a4, a6, a7⟩, b2, b3, b4, b5⟩ := g7
  have hl : (((c1 ++ [((12 : Int), (0 : Int))]) ++ c2) ++ [((13 : Int), 2 * l)]).length = c1.length + 1 + c2.length + 1 := by simp only [List.length_append, List.length_cons, List.length_nil]
  have hl2 : b + ((c1 ++ ((12 : Int), 2 * T) :: (c2 ++ ((13 : Int), 2 * E) :: cs)).length : Int) = E := by simp only [List.length_append, List.length_cons]; omega
  rw [hl] at a6 a7
  have b0 : 0 ≤ b := by omega
  have u : ∀ a i, ¬ (a = 6 ∧ i = b + c1.length) → s8 a i = s7 a i := fun a i x => by rw [h8]; exact z_up_ne (by omega)
  have u0 : s8 6 (b + c1.length) = 16 * T + 5 := by rw [h8]; exact z_up_eq
  have hch7 : z_ch (s7 6) b l r := z_ch_up r l hch (fun j hj => b4 j (by omega))
  have e1 : ∀ j, j < b → s9 6 j = cf_la E r s 6 j := fun j hj => by
    rw [f5 j (by omega), ← hE]
    show cf_la E r (z_up s8 6 (T - 1) (16 * E + 6)) 6 j = _
    exact cf_la_congr r _ _ j (by rw [z_up_ne (by omega), u _ _ (by omega)]; exact b4 j hj)
  have v : ∀ j, b ≤ j → j < T → s9 6 j = z_up s8 6 (T - 1) (16 * E + 6) 6 j := fun j x y => by
    rw [f5 j y, ← hE]
    exact cf_la_ge r l _ j hch (by omega)
  have v7 : ∀ j, b ≤ j → j < T → ¬ j = T - 1 → ¬ j = b + c1.length → s9 6 j = s7 6 j := fun j x y z w => by rw [v j x y, z_up_ne (by omega), u _ _ (by omega)]
  have w12 : s9 6 (b + c1.length) = 16 * T + 5 := by rw [v _ (by omega) (by omega), z_up_ne (by omega), u0]
  have w13 : s9 6 (T - 1) = 16 * E + 6 := by rw [v _ (by omega) (by omega), z_up_eq]
  have x0 := ((z_aw_app _ _ _).mp b5).1
  have x1 := (z_aw_app _ _ _).mp x0
  have x2 := ((z_aw_app _ _ _).mp x1.1).1
  have x3 := x1.2
  have c12 : ∀ (y : Int) (r : z_Cd), z_cz ((12, y) :: r) = 1 + z_cz r := fun _ _ => rfl
  have c13 : ∀ (y : Int) (r : z_Cd), z_cz ((13, y) :: r) = 0 + z_cz r := fun _ _ => rfl
  have c0 : z_cz [] = 0 := rfl
  have hl3 : ((c1 ++ [((12 : Int), (0 : Int))]).length : Int) = c1.length + 1 := by simp only [List.length_append, List.length_cons, List.length_nil]; omega
  rw [hl3] at x3
  refine ⟨by rw [hl2, hE]; exact f1, z_CFr_tr k2 f2, ?_, ?_, fun j hj => by rw [hl2]; exact e1 j hj⟩
  · rw [f3, u _ _ (by omega), b3]
    simp only [z_cz_app, c12, c13, c0]
    omega
  · refine (z_aw_app _ _ _).mpr ⟨z_aw_congr c1 b (fun i x y => v7 i (by omega) (by omega) (by omega) (by omega)) x2, ?_, (z_aw_app _ _ _).mpr ⟨z_aw_congr c2 _ (fun i x y => v7 i (by omega) (by omega) (by omega) (by omega)) (by rw [show b + (c1.length : Int) + 1 = b + (c1.length + 1) by omega]; exact x3), ?_, ?_⟩⟩
    · rw [w12]
      unfold z_cc
      rw [if_neg (by omega), if_neg (by omega), if_neg (by omega), if_neg (by omega), if_neg (by omega), if_pos rfl]
      omega
    · rw [show b + (c1.length : Int) + 1 + c2.length = T - 1 by omega, w13]
      unfold z_cc
      rw [if_neg (by omega), if_neg (by omega), if_neg (by omega), if_neg (by omega), if_neg (by omega), if_neg (by omega), if_pos rfl]
      omega
    · rw [show b + (c1.length : Int) + 1 + c2.length + 1 = T by omega]; exact f4
end CLL
