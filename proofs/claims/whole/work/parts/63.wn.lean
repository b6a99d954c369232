/-! class and reference: the pieces of a step -/
section WN
variable {b : Bool} {r : Int} {s t : z_M}
theorem z_KC_facts (r0 : 0 ≤ r) (r1 : r < 5) (h : z_KC b r s t) (hd : 1 ≤ t 722 r) : mf_top r t = 30 * r + (t 722 r - 1) ∧ z_cF b s t (z_fA r (t 722 r - 1)) (mf_top r t) ∧ (z_ru r + 2 ≤ z_fA r (t 722 r - 1) ∧ z_fA r (t 722 r - 1) + 2 < z_ru r + 92) := by
  have h3 := h.2.1.2.1
  have ht : mf_top r t = 30 * r + (t 722 r - 1) := by unfold mf_top; omega
  refine ⟨ht, ?_, by unfold z_fA; omega⟩
  rw [ht]
  exact h.2.1.2.2 _ (by omega) (by omega)
theorem z_KC_adv (r0 : 0 ≤ r) (r1 : r < 5) (h : z_KC b r s t) (hd : 1 ≤ t 722 r) : z_KC b r (z_up (z_up s (z_ru r) 4 (t 721 r + 1)) (z_fA r (t 722 r - 1)) 6 (s (z_fA r (t 722 r - 1)) 6 + 1)) (mf_adv r t) ∧ z_fz b s (z_up (z_up s (z_ru r) 4 (t 721 r + 1)) (z_fA r (t 722 r - 1)) 6 (s (z_fA r (t 722 r - 1)) 6 + 1)) := by
  obtain ⟨ht, hF, hb1, hb2⟩ := z_KC_facts r0 r1 h hd
  obtain ⟨a1, a2, a3⟩ := mf_adv_at (r := r) (t := t)
  have h3 := h.2.1.2.1
  obtain ⟨⟨f1, f2, f3, f4, f5, f6⟩, ⟨b1, b2, b3⟩, c1, c2, c3⟩ := hF
  have u : ∀ a i, ¬ (a = z_ru r ∧ i = 4) → ¬ (a = z_fA r (t 722 r - 1) ∧ i = 6) → z_up (z_up s (z_ru r) 4 (t 721 r + 1)) (z_fA r (t 722 r - 1)) 6 (s (z_fA r (t 722 r - 1)) 6 + 1) a i = s a i := fun a i x y => by rw [z_up_ne (by omega), z_up_ne (by omega)]
  have m : ∀ a i, ¬ (a = 721 ∧ i = r) → ¬ (a = 726 ∧ i = mf_top r t) → mf_adv r t a i = t a i := fun a i x y => by unfold mf_adv; rw [z_up_ne (by omega), z_up_ne (by omega)]
  refine z_KC_top (i := t 722 r - 1) r0 r1 h (by omega) (by omega) (fun a j x y => u a j (by omega) (by omega)) (by rw [z_up_ne (by omega), z_up_eq, a1]) (fun a i x1 x2 x3 x4 => m a i (by omega) (by omega)) ?_
  rw [← ht]
  unfold z_cF
  rw [z_up_eq, u _ 3 (by omega) (by omega), u _ 5 (by omega) (by omega), u _ 8 (by omega) (by omega), u _ 9 (by omega) (by omega), u _ 2 (by omega) (by omega), u _ 4 (by omega) (by omega), u _ 7 (by omega) (by omega), a2, m 725 _ (by omega) (by omega), m 727 _ (by omega) (by omega), m 728 _ (by omega) (by omega), m 729 _ (by omega) (by omega), m 730 _ (by omega) (by omega), m 732 _ (by omega) (by omega)]
  exact ⟨⟨f1, f2, by omega, f4, f5, f6⟩, ⟨b1, b2, b3⟩, fun i i0 i1 => by rw [u _ _ (by omega) (by omega), m _ _ (by omega) (by omega)]; exact c1 i i0 i1, fun i i0 i1 => by rw [u _ _ (by omega) (by omega), m _ _ (by omega) (by omega)]; exact c2 i i0 i1, c3⟩
theorem z_KC_pop (r0 : 0 ≤ r) (r1 : r < 5) (h : z_KC b r s t) (hd : 1 ≤ t 722 r) (h1 : 1 ≤ t 732 (mf_top r t)) : z_KC b r (z_up s (z_fA r (t 722 r - 1)) 9 (t 732 (mf_top r t) - 1)) (mf_taken (mf_top r t) t) ∧ z_fz b s (z_up s (z_fA r (t 722 r - 1)) 9 (t 732 (mf_top r t) - 1)) := by
  obtain ⟨ht, hF, hb1, hb2⟩ := z_KC_facts r0 r1 h hd
  have h3 := h.2.1.2.1
  obtain ⟨⟨f1, f2, f3, f4, f5, f6⟩, ⟨b1, b2, b3⟩, c1, c2, c3⟩ := hF
  have u : ∀ a i, ¬ (a = z_fA r (t 722 r - 1) ∧ i = 9) → z_up s (z_fA r (t 722 r - 1)) 9 (t 732 (mf_top r t) - 1) a i = s a i := fun a i x => z_up_ne (by omega)
  have m : ∀ a i, ¬ (a = 732 ∧ i = mf_top r t) → mf_taken (mf_top r t) t a i = t a i := fun a i x => mf_taken_ne (by omega)
  refine z_KC_top (i := t 722 r - 1) r0 r1 h (by omega) (by omega) (fun a j x y => u a j (by omega)) (by rw [u _ _ (by omega), m _ _ (by omega)]; exact h.2.1.1.2) (fun a i x1 x2 x3 x4 => m a i (by omega)) ?_
  rw [← ht]
  unfold z_cF
  rw [z_up_eq, u _ 3 (by omega), u _ 5 (by omega), u _ 6 (by omega), u _ 8 (by omega), u _ 2 (by omega), u _ 4 (by omega), u _ 7 (by omega), mf_taken_at, m 725 _ (by omega), m 726 _ (by omega), m 727 _ (by omega), m 728 _ (by omega), m 729 _ (by omega), m 730 _ (by omega)]
  exact ⟨⟨f1, f2, f3, f4, rfl, f6⟩, ⟨b1, b2, by omega⟩, fun i i0 i1 => by rw [u _ _ (by omega), m _ _ (by omega)]; exact c1 i i0 i1, fun i i0 i1 => by rw [u _ _ (by omega), m _ _ (by omega)]; exact c2 i i0 (by omega), c3⟩
theorem z_KC_push {v : Int} (r0 : 0 ≤ r) (r1 : r < 5) (h : z_KC b r s t) (hd : 1 ≤ t 722 r) (h1 : t 732 (mf_top r t) < 19) : z_KC b r (cf_push (z_fA r (t 722 r - 1)) v s) (mf_holds (mf_top r t) v t) ∧ z_fz b s (cf_push (z_fA r (t 722 r - 1)) v s) := by
  obtain ⟨ht, hF, hb1, hb2⟩ := z_KC_facts r0 r1 h hd
  have h3 := h.2.1.2.1
  obtain ⟨⟨f1, f2, f3, f4, f5, f6⟩, ⟨b1, b2, b3⟩, c1, c2, c3⟩ := hF
  have u : ∀ a i, ¬ (a = z_fA r (t 722 r - 1) ∧ i = 9) → ¬ (a = z_fA r (t 722 r - 1) + 2 ∧ i = t 732 (mf_top r t)) → cf_push (z_fA r (t 722 r - 1)) v s a i = s a i := fun a i x y => by unfold cf_push; rw [z_up_ne (by omega), z_up_ne (by omega)]
  have u9 : cf_push (z_fA r (t 722 r - 1)) v s (z_fA r (t 722 r - 1)) 9 = t 732 (mf_top r t) + 1 := by unfold cf_push; rw [z_up_eq, f5]
  have u2 : cf_push (z_fA r (t 722 r - 1)) v s (z_fA r (t 722 r - 1) + 2) (t 732 (mf_top r t)) = v := by unfold cf_push; rw [z_up_ne (by omega), f5, z_up_eq]
  have m : ∀ a i, ¬ (a = 732 ∧ i = mf_top r t) → ¬ (a = 733 ∧ i = 64 * mf_top r t + t 732 (mf_top r t)) → mf_holds (mf_top r t) v t a i = t a i := fun a i x y => by unfold mf_holds; rw [z_up_ne (by omega), z_up_ne (by omega)]
  have m32 : mf_holds (mf_top r t) v t 732 (mf_top r t) = t 732 (mf_top r t) + 1 := by unfold mf_holds; rw [z_up_eq]
  have m33 : mf_holds (mf_top r t) v t 733 (64 * mf_top r t + t 732 (mf_top r t)) = v := by unfold mf_holds; rw [z_up_ne (by omega), z_up_eq]
  refine z_KC_top (i := t 722 r - 1) r0 r1 h (by omega) (by omega) (fun a j x y => u a j (by omega) (by omega)) (by rw [u _ _ (by omega) (by omega), m _ _ (by omega) (by omega)]; exact h.2.1.1.2) (fun a i x1 x2 x3 x4 => m a i (by omega) (by omega)) ?_
  rw [← ht]
  unfold z_cF
  rw [u9, u _ 3 (by omega) (by omega), u _ 5 (by omega) (by omega), u _ 6 (by omega) (by omega), u _ 8 (by omega) (by omega), u _ 2 (by omega) (by omega), u _ 4 (by omega) (by omega), u _ 7 (by omega) (by omega), m32, m 725 _ (by omega) (by omega), m 726 _ (by omega) (by omega), m 727 _ (by omega) (by omega), m 728 _ (by omega) (by omega), m 729 _ (by omega) (by omega), m 730 _ (by omega) (by omega)]
  refine ⟨⟨f1, f2, f3, f4, rfl, f6⟩, ⟨b1, b2, by omega⟩, fun i i0 i1 => by rw [u _ _ (by omega) (by omega), m _ _ (by omega) (by omega)]; exact c1 i i0 i1, fun i i0 i1 => ?_, c3⟩
  by_cases hi : i = t 732 (mf_top r t)
  · rw [hi, u2, m33]
  · rw [u _ _ (by omega) (by omega), m _ _ (by omega) (by omega)]; exact c2 i i0 (by omega)
theorem z_KC_used {x : Int} (r0 : 0 ≤ r) (r1 : r < 5) (h : z_KC b r s t) (hd : 1 ≤ t 722 r) : z_KC b r (z_up s (z_fA r (t 722 r - 1)) 7 (z_or (s (z_fA r (t 722 r - 1)) 7) x)) (z_up t 729 (mf_top r t) (z_or (t 729 (mf_top r t)) x)) ∧ z_fz b s (z_up s (z_fA r (t 722 r - 1)) 7 (z_or (s (z_fA r (t 722 r - 1)) 7) x)) := by
  obtain ⟨ht, hF, hb1, hb2⟩ := z_KC_facts r0 r1 h hd
  have h3 := h.2.1.2.1
  obtain ⟨⟨f1, f2, f3, f4, f5, f6⟩, ⟨b1, b2, b3⟩, c1, c2, c3⟩ := hF
  have u : ∀ a i, ¬ (a = z_fA r (t 722 r - 1) ∧ i = 7) → z_up s (z_fA r (t 722 r - 1)) 7 (z_or (s (z_fA r (t 722 r - 1)) 7) x) a i = s a i := fun a i x => z_up_ne (by omega)
  have m : ∀ a i, ¬ (a = 729 ∧ i = mf_top r t) → z_up t 729 (mf_top r t) (z_or (t 729 (mf_top r t)) x) a i = t a i := fun a i x => z_up_ne (by omega)
  refine z_KC_top (i := t 722 r - 1) r0 r1 h (by omega) (by omega) (fun a j x y => u a j (by omega)) (by rw [u _ _ (by omega), m _ _ (by omega)]; exact h.2.1.1.2) (fun a i x1 x2 x3 x4 => m a i (by omega)) ?_
  rw [← ht]
  unfold z_cF
  rw [z_up_eq, u _ 3 (by omega), u _ 5 (by omega), u _ 6 (by omega), u _ 8 (by omega), u _ 9 (by omega), u _ 2 (by omega), u _ 4 (by omega), z_up_eq, m 725 _ (by omega), m 726 _ (by omega), m 727 _ (by omega), m 728 _ (by omega), m 730 _ (by omega), m 732 _ (by omega)]
  exact ⟨⟨f1, f2, f3, f4, f5, f6⟩, ⟨b1, b2, b3⟩, fun i i0 i1 => by rw [u _ _ (by omega), m _ _ (by omega)]; exact c1 i i0 i1, fun i i0 i1 => by rw [u _ _ (by omega), m _ _ (by omega)]; exact c2 i i0 i1, fun hb => ⟨(c3 hb).1, by rw [(c3 hb).2]⟩⟩
theorem z_KC_at {q : Int} (r0 : 0 ≤ r) (r1 : r < 5) (h : z_KC b r s t) (hd : 1 ≤ t 722 r) : z_KC b r (z_up s (z_fA r (t 722 r - 1)) 6 q) (z_up t 726 (mf_top r t) (2 * q)) ∧ z_fz b s (z_up s (z_fA r (t 722 r - 1)) 6 q) := by
  obtain ⟨ht, hF, hb1, hb2⟩ := z_KC_facts r0 r1 h hd
  have h3 := h.2.1.2.1
  obtain ⟨⟨f1, f2, f3, f4, f5, f6⟩, ⟨b1, b2, b3⟩, c1, c2, c3⟩ := hF
  have u : ∀ a i, ¬ (a = z_fA r (t 722 r - 1) ∧ i = 6) → z_up s (z_fA r (t 722 r - 1)) 6 q a i = s a i := fun a i x => z_up_ne (by omega)
  have m : ∀ a i, ¬ (a = 726 ∧ i = mf_top r t) → z_up t 726 (mf_top r t) (2 * q) a i = t a i := fun a i x => z_up_ne (by omega)
  refine z_KC_top (i := t 722 r - 1) r0 r1 h (by omega) (by omega) (fun a j x y => u a j (by omega)) (by rw [u _ _ (by omega), m _ _ (by omega)]; exact h.2.1.1.2) (fun a i x1 x2 x3 x4 => m a i (by omega)) ?_
  rw [← ht]
  unfold z_cF
  rw [z_up_eq, u _ 3 (by omega), u _ 5 (by omega), u _ 7 (by omega), u _ 8 (by omega), u _ 9 (by omega), u _ 2 (by omega), u _ 4 (by omega), z_up_eq, m 725 _ (by omega), m 729 _ (by omega), m 727 _ (by omega), m 728 _ (by omega), m 730 _ (by omega), m 732 _ (by omega)]
  exact ⟨⟨f1, f2, rfl, f4, f5, f6⟩, ⟨b1, b2, b3⟩, fun i i0 i1 => by rw [u _ _ (by omega), m _ _ (by omega)]; exact c1 i i0 i1, fun i i0 i1 => by rw [u _ _ (by omega), m _ _ (by omega)]; exact c2 i i0 i1, c3⟩
end WN
section WJ
variable {e : z_E} {d : Nat} {c σ : z_M} {Q : Int → z_M → Prop}
theorem s_C_isArgument {a : Int} (h1 : -50 ≤ a → a ≤ 50 → Q 1 σ) (h0 : ¬ (-50 ≤ a ∧ a ≤ 50) → Q 0 σ) : z_C e (d + 1) m_C_isArgument [z_I a] σ Q :=
  b_C_isArgument_0 ⟨fun w => h0 (by omega), fun w => ⟨fun w2 => h0 (by omega), fun w2 => h1 w w2⟩⟩
theorem s_C_keyOf {r a : Int} (h0 : 0 ≤ r) (h1 : r < 12) (h2 : -50 ≤ a) (h3 : a ≤ 50) (h : Q (101 * r + a + 50) σ) : z_C e (d + 1) m_C_keyOf [z_I r, z_I a] σ Q := by
  refine b_C_keyOf_0 ?_
  simp (disch := omega) only [z_wr_id]
  exact h
theorem s_C_join {op l r : Int} (ho : 5 ≤ op ∧ op ≤ 10) (hl : -9999 ≤ l ∧ l ≤ 9999) (hr : -9999 ≤ r ∧ r ≤ 9999) (h8 : op = 8 → ¬ r = 0) (h : Q (z_jn op l r) σ) : z_C e (d + 1) m_C_join [z_I (op + 2), z_I l, z_I r] σ Q := by
  have hm := z_mul_rng hl hr
  have hd := z_tdiv_rng (b := r) hl
  unfold z_jn at h
  refine b_C_join_0 ⟨fun q => ?_, fun q5 => ⟨fun q => ?_, fun q6 => ⟨fun q => ?_, fun q7 => ⟨fun q => ⟨fun q2 => ⟨q2, ?_⟩, fun q2 => absurd q2 (h8 (by omega))⟩, fun q8 => ⟨fun q => ⟨fun q2 => ?_, fun q2 => ?_⟩, fun q9 => ⟨fun q2 => ?_, fun q2 => ?_⟩⟩⟩⟩⟩⟩
  · rw [if_pos (by omega)] at h; rw [z_wr_id (by omega) (by omega)]; exact h
  · rw [if_neg (by omega), if_pos (by omega)] at h; rw [z_wr_id (by omega) (by omega)]; exact h
  · rw [if_neg (by omega), if_neg (by omega), if_pos (by omega)] at h; rw [z_wr_id (by omega) (by omega)]; exact h
  · rw [if_neg (by omega), if_neg (by omega), if_neg (by omega), if_pos (by omega)] at h; rw [z_wr_id (by omega) (by omega)]; exact h
  · rw [if_neg (by omega), if_neg (by omega), if_neg (by omega), if_neg (by omega), if_pos (by omega), if_neg (by omega)] at h; exact h
  · rw [if_neg (by omega), if_neg (by omega), if_neg (by omega), if_neg (by omega), if_pos (by omega), if_pos q2] at h; exact h
  · rw [if_neg (by omega), if_neg (by omega), if_neg (by omega), if_neg (by omega), if_neg (by omega), if_neg q2] at h; exact h
  · rw [if_neg (by omega), if_neg (by omega), if_neg (by omega), if_neg (by omega), if_neg (by omega), if_pos q2] at h; exact h
end WJ
