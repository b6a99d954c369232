/-! marks of kept keys -/
def z_cn (t : z_M) (g : Int → Int) : Nat → Int
  | 0 => 0
  | n + 1 => z_cn t g n + (if ¬ t 707 (n : Int) = 0 ∧ ¬ g (n : Int) = 0 then 1 else 0)
theorem z_cn_congr {t t' : z_M} {g g' : Int → Int} (h7 : ∀ k, t' 707 k = t 707 k) : ∀ n : Nat, (∀ k : Int, 0 ≤ k → k < (n : Int) → ¬ t 707 k = 0 → (g' k = 0 ↔ g k = 0)) → z_cn t' g' n = z_cn t g n
  | 0, _ => rfl
  | n + 1, h => by
    unfold z_cn
    rw [z_cn_congr h7 n (fun k a b => h k a (by omega)), h7]
    by_cases hk : t 707 (n : Int) = 0
    · rw [if_neg (fun q => q.1 hk), if_neg (fun q => q.1 hk)]
    · have := h n (by omega) (by omega) hk
      by_cases hg : g (n : Int) = 0
      · rw [if_neg (fun q => q.2 (this.mpr hg)), if_neg (fun q => q.2 hg)]
      · rw [if_pos ⟨hk, fun q => hg (this.mp q)⟩, if_pos ⟨hk, hg⟩]
theorem z_cn_sub {t : z_M} {g g' : Int → Int} : ∀ n : Nat, (∀ k : Int, 0 ≤ k → k < (n : Int) → ¬ t 707 k = 0 → ¬ g k = 0 → ¬ g' k = 0) → z_cn t g n ≤ z_cn t g' n
  | 0, _ => Int.le_refl _
  | n + 1, h => by
    unfold z_cn
    have ih := z_cn_sub n (fun k a b => h k a (by omega))
    by_cases hk : ¬ t 707 (n : Int) = 0 ∧ ¬ g (n : Int) = 0
    · rw [if_pos hk, if_pos ⟨hk.1, h n (by omega) (by omega) hk.1 hk.2⟩]; omega
    · rw [if_neg hk]; split <;> omega
theorem z_cn_add {t : z_M} {g g' : Int → Int} {x : Int} (x0 : 0 ≤ x) (hk : ¬ t 707 x = 0) (h0 : g x = 0) (h1 : ¬ g' x = 0) (hs : ∀ k, ¬ k = x → (g' k = 0 ↔ g k = 0)) : ∀ n : Nat, z_cn t g' n = z_cn t g n + (if x < (n : Int) then 1 else 0)
  | 0 => by unfold z_cn; rw [if_neg (by omega)]; rfl
  | n + 1 => by
    unfold z_cn
    rw [z_cn_add x0 hk h0 h1 hs n]
    by_cases hx : x = (n : Int)
    · rw [← hx, if_neg (by omega), if_pos ⟨hk, h1⟩, if_neg (fun q => q.2 h0), if_pos (by omega)]
    · have hh := hs n (fun q => hx q.symm)
      have eg : (if ¬ t 707 (n : Int) = 0 ∧ ¬ g' (n : Int) = 0 then (1 : Int) else 0) = if ¬ t 707 (n : Int) = 0 ∧ ¬ g (n : Int) = 0 then 1 else 0 := by simp only [hh]
      have el : (if x < (n : Int) then (1 : Int) else 0) = if x < ((n + 1 : Nat) : Int) then 1 else 0 := by
        by_cases hlt : x < (n : Int)
        · rw [if_pos hlt, if_pos (by omega)]
        · rw [if_neg hlt, if_neg (by omega)]
      rw [eg, el]; omega
theorem z_cn_le {t : z_M} {g : Int → Int} : ∀ n : Nat, 0 ≤ z_cn t g n ∧ z_cn t g n ≤ z_sum t (fun _ => 1) n
  | 0 => ⟨Int.le_refl _, Int.le_refl _⟩
  | n + 1 => by
    have ih := z_cn_le (t := t) (g := g) n
    unfold z_cn z_sum
    by_cases hk : t 707 (n : Int) = 0
    · rw [if_neg (fun q => q.1 hk), if_pos hk]; omega
    · rw [if_neg hk]; split <;> omega
theorem z_cn_rng {t : z_M} {g : Int → Int} (n : Nat) : z_cn t g n ≤ (n : Int) := by
  induction n with
  | zero => exact Int.le_refl _
  | succ n ih => unfold z_cn; split <;> omega
theorem z_cn_none {t : z_M} {g : Int → Int} : ∀ n : Nat, (∀ k : Int, 0 ≤ k → k < (n : Int) → g k = 0) → z_cn t g n = 0
  | 0, _ => rfl
  | n + 1, h => by
    unfold z_cn
    rw [z_cn_none n (fun k a b => h k a (by omega)), if_neg (fun q => q.2 (h n (by omega) (by omega)))]; rfl
/-- the greatest mark that a kept key asked -/
def z_mm (t : z_M) (g : Int → Int) (k : Int) : Nat → Int
  | 0 => 0
  | n + 1 => if ¬ t 707 (t 716 (32 * k + (n : Int))) = 0 ∧ z_mm t g k n < g (t 716 (32 * k + (n : Int))) then g (t 716 (32 * k + (n : Int))) else z_mm t g k n
theorem z_mm_nn {t : z_M} {g : Int → Int} {k : Int} : ∀ n : Nat, 0 ≤ z_mm t g k n
  | 0 => Int.le_refl _
  | n + 1 => by
    have := z_mm_nn (t := t) (g := g) (k := k) n
    unfold z_mm; split <;> omega
theorem z_mm_ge {t : z_M} {g : Int → Int} {k i : Int} : ∀ n : Nat, 0 ≤ i → i < (n : Int) → ¬ t 707 (t 716 (32 * k + i)) = 0 → g (t 716 (32 * k + i)) ≤ z_mm t g k n
  | 0, h0, h1, _ => by omega
  | n + 1, h0, h1, h2 => by
    unfold z_mm
    by_cases hi : i = (n : Int)
    · rw [← hi]; split <;> omega
    · have := z_mm_ge (g := g) n h0 (by omega) h2
      split <;> omega
theorem z_mm_at {t : z_M} {g : Int → Int} {k : Int} : ∀ n : Nat, z_mm t g k n = 0 ∨ ∃ i : Int, 0 ≤ i ∧ i < (n : Int) ∧ ¬ t 707 (t 716 (32 * k + i)) = 0 ∧ z_mm t g k n = g (t 716 (32 * k + i))
  | 0 => Or.inl rfl
  | n + 1 => by
    unfold z_mm
    split
    · rename_i q
      exact Or.inr ⟨n, by omega, by omega, q.1, rfl⟩
    · rcases z_mm_at (t := t) (g := g) (k := k) n with h | ⟨i, h0, h1, h2, h3⟩
      · exact Or.inl h
      · exact Or.inr ⟨i, h0, by omega, h2, h3⟩
/-- the class's marks -/
def z_mkd (s s' t : z_M) (g : Int → Int) : Prop := (∀ a i, ¬ (i = 9 ∧ 11 ≤ a ∧ a ≤ 211 ∧ a % 2 = 1) → s' a i = s a i) ∧ ∀ k, 0 ≤ k → k < 1212 → ¬ t 707 k = 0 → s' (s 10 k) 9 = g k
theorem z_cS_row {s t : z_M} (hS : z_cS s t) {k : Int} (k0 : 0 ≤ k) (k1 : k < 1212) (hk : ¬ t 707 k = 0) : ∃ i, (0 ≤ i ∧ i < s 7 2) ∧ s 8 i = s 10 k ∧ s (s 10 k) 1 = k ∧ z_isK (s 10 k) ∧ z_cW s t (s 10 k) k := by
  obtain ⟨-, a5, ⟨a6, a7⟩, a8, a9, a10⟩ := hS
  obtain ⟨i, i0, i1, e⟩ := (a9 k k0 k1).2 hk
  obtain ⟨b1, b2, b3, b4⟩ := a8 i i0 i1
  have hK := a6 i i0 (by omega)
  rw [e] at b3 b4
  rw [b3]
  exact ⟨i, ⟨i0, i1⟩, rfl, e, hK, b4⟩
theorem z_mkd_up {s s' t : z_M} {g : Int → Int} {k v : Int} (hS : z_cS s t) (h : z_mkd s s' t g) (k0 : 0 ≤ k) (k1 : k < 1212) (hk : ¬ t 707 k = 0) : z_mkd s (z_up s' (s 10 k) 9 v) t (fun j => if j = k then v else g j) := by
  obtain ⟨i, -, -, e, hK, -⟩ := z_cS_row hS k0 k1 hk
  obtain ⟨-, -, x1, x2, x3⟩ := hK
  refine ⟨fun a j q => by rw [z_up_ne (by omega)]; exact h.1 a j q, fun j j0 j1 j2 => ?_⟩
  obtain ⟨i', -, -, e', -⟩ := z_cS_row hS j0 j1 j2
  by_cases hj : j = k
  · subst hj; rw [z_up_eq]; exact (if_pos rfl).symm
  · rw [z_up_ne (Or.inl (fun q => hj (by rw [← e', ← e, q]))), show (fun j => if j = k then v else g j) j = g j from if_neg hj]
    exact h.2 j j0 j1 j2
theorem z_mkd_S {s s' t : z_M} {g : Int → Int} (h : z_mkd s s' t g) (hS : z_cS s t) : z_cS s' t := by
  have h1 := h.1
  have hS' := hS
  obtain ⟨⟨a1, a2, a3, a4⟩, a5, ⟨a6, a7⟩, a8, a9, a10⟩ := hS
  have e7 : ∀ i, s' 7 i = s 7 i := fun i => h1 _ _ (by omega)
  have e8 : ∀ i, s' 8 i = s 8 i := fun i => h1 _ _ (by omega)
  have e10 : ∀ i, s' 10 i = s 10 i := fun i => h1 _ _ (by omega)
  have eK : ∀ i j, ¬ j = 9 → s' (s 8 i) j = s (s 8 i) j := fun i j x => h1 _ _ (by omega)
  unfold z_cS
  simp only [e7, e8, e10]
  simp only [eK _ 1 (by decide)]
  refine ⟨⟨a1, a2, a3, a4⟩, a5, ⟨a6, a7⟩, fun i i0 i1 => ?_, a9, a10⟩
  obtain ⟨b1, b2, b3, b4⟩ := a8 i i0 i1
  obtain ⟨-, -, x1, x2, x3⟩ := a6 i i0 (by omega)
  refine ⟨b1, b2, b3, ?_⟩
  unfold z_cW at b4 ⊢
  rw [h1 _ 1 (by omega), h1 _ 2 (by omega), h1 _ 3 (by omega), h1 _ 4 (by omega), h1 _ 5 (by omega), h1 _ 6 (by omega), h1 _ 7 (by omega), h1 _ 8 (by omega)]
  obtain ⟨w1, w2, w3, w4, w5, w6, w7, w8, w9⟩ := b4
  exact ⟨w1, w2, w3, w4, w5, w6, w7, w8, fun j j0 j1 => by rw [h1 _ _ (by omega)]; exact w9 j j0 j1⟩
/-- what marks do to class and reference -/
theorem z_RCs_mkd {n : Nat} {s s' t t' : z_M} {g : Int → Int} (h : z_RCs n s t) (hm : z_mkd s s' t g) (ht : ∀ a i, ¬ (738 ≤ a ∧ a ≤ 739) → t' a i = t a i) : z_RCs (n + 1) s' t' := by
  have h' := z_RCs_up h
  obtain ⟨⟨hT, hS, hN, hB⟩, ho, hx, hc, -⟩ := id h'
  have hS2 := z_mkd_S hm hS
  have h1 := hm.1
  have g1 : ∀ i, t' 701 i = t 701 i := fun i => ht _ _ (by omega)
  have me : z_me t t' := by refine ⟨?_, ?_, ?_⟩ <;> (funext i; exact ht _ _ (by omega))
  exact z_RCs_mk h' (fun a i x => h1 a i (by omega)) (fun a i x => ht a i (by omega)) (z_cS_c (fun _ _ _ _ _ => rfl) (fun _ _ _ _ => rfl) (fun a i x y => ht a i (by omega)) (fun i _ _ => g1 i) hS2) (z_cN_c (fun i _ _ => h1 _ _ (by omega)) (fun a i x => h1 a i (by omega)) (fun a i x => ht a i (by omega)) hN) (by rw [g1, g1, g1]; exact hB) (z_sumx_congr hx.2.1 (fun k => ht _ _ (by omega)) (fun k => ht _ _ (by omega)) (g1 _) (g1 _) (g1 _)) (by rw [g1]; exact hx.2.2.1) (z_KK_same me hx.2.2.2.2.1 (fun a k _ _ => ht a k (by omega)) (g1 _)) (by rw [g1]; exact ⟨hx.2.2.2.1, hc⟩)
section MK
variable {e : z_E} {d : Nat} {c s t : z_M} {Q : Int → z_M → Prop}
theorem s_S_markAll {v : Int} (hS : z_cS s t) (h : ∀ s', z_mkd s s' t (fun _ => v) → Q 0 (z_gl s' c)) : z_C e (d + 1) m_S_markAll [z_R 7, z_I v] (z_gl s c) Q := by
  refine b_S_markAll_0 ?_
  obtain ⟨-, a5, ⟨a6, a7⟩, -⟩ := id hS
  have loop : ∀ (m : Nat) (i : Int) (sx : z_M), 0 ≤ i → i + (m : Int) = s 7 2 → (∀ a j, ¬ (j = 9 ∧ 11 ≤ a ∧ a ≤ 211 ∧ a % 2 = 1) → sx a j = s a j) → (∀ j, 0 ≤ j → j < i → sx (s 8 j) 9 = v) → z_T e d m_S_markAll 2 [some (z_R 7), some (z_I v), some (z_I i)] (z_gl sx c) Q := by
    intro m
    induction m with
    | zero =>
      intro i sx i0 i1 g1 g2
      refine b_S_markAll_2 ?_
      rw [z_gl_lo (by omega), g1 7 2 (by omega)]
      refine ⟨fun _ => h sx ⟨g1, fun k k0 k1 k2 => ?_⟩, fun z => by omega⟩
      obtain ⟨j, j1, j2, -⟩ := z_cS_row hS k0 k1 k2
      rw [← j2]
      exact g2 j j1.1 (by omega)
    | succ m ih =>
      intro i sx i0 i1 g1 g2
      obtain ⟨x1, x2, x3, x4, x5⟩ := a6 i i0 (by omega)
      refine b_S_markAll_2 ?_
      rw [z_gl_lo (by omega), z_gl_lo (by omega), g1 7 2 (by omega), g1 8 i (by omega)]
      refine ⟨fun z => by omega, fun _ => ⟨by omega, ?_⟩⟩
      simp only [x1, z_ckT]
      rw [z_wr_id (by omega) (by omega), z_gl_ul (by omega)]
      refine ih (i + 1) _ (by omega) (by omega) (fun a j q => by rw [z_up_ne (by omega)]; exact g1 a j q) (fun j j0 j1 => ?_)
      by_cases hj : j = i
      · rw [hj, z_up_eq]
      · rw [z_up_ne (Or.inl ?_)]
        · exact g2 j j0 (by omega)
        · rcases (show j < i ∨ i < j by omega) with q | q
          · exact a7 j i j0 q (by omega)
          · omega
  exact loop (s 7 2).toNat 0 s (by omega) (by omega) (fun _ _ _ => rfl) (fun j j0 j1 => by omega)
theorem s_S_mostMark {s' : z_M} {g : Int → Int} {k : Int} (hS : z_cS s t) (hT : z_TT t) (hKK : z_KK t) (hm : z_mkd s s' t g) (k0 : 0 ≤ k) (k1 : k < 1212) (hk : ¬ t 707 k = 0) (h : Q (z_mm t g k (t 715 k).toNat) (z_gl s' c)) : z_C e (d + 2) m_S_mostMarkAsked [z_R 7, z_R (s 10 k)] (z_gl s' c) Q := by
  refine b_S_mostMarkAsked_0 ?_
  obtain ⟨i, -, -, e1, hK, hW⟩ := z_cS_row hS k0 k1 hk
  obtain ⟨x1, x2, x3, x4, x5⟩ := hK
  obtain ⟨w1, w2, w3, w4, w5, w6, w7, w8, w9⟩ := hW
  have hkr := hKK.1 k k0 k1 hk
  obtain ⟨z1, -, z3⟩ := z_KR_sz hT k0 k1 hkr
  have h15 := hkr.2.1
  have e8 : s' (s 10 k) 8 = t 715 k := by rw [hm.1 _ _ (by omega)]; exact w8
  have loop : ∀ (m : Nat) (i : Nat), (i : Int) + (m : Int) = t 715 k → z_T e (d + 1) m_S_mostMarkAsked 4 [some (z_R 7), some (z_R (s 10 k)), some (z_I (z_mm t g k i)), some (z_I (i : Int)), none] (z_gl s' c) Q := by
    intro m
    induction m with
    | zero =>
      intro i i1
      refine b_S_mostMarkAsked_4 ?_
      simp only [x1, z_ckT]
      rw [z_gl_lo (by omega), e8]
      refine ⟨fun _ => ?_, fun z => by omega⟩
      rw [show (t 715 k).toNat = i by omega] at h
      exact h
    | succ m ih =>
      intro i i1
      have nx := ih (i + 1) (by omega)
      rw [show ((i + 1 : Nat) : Int) = (i : Int) + 1 by omega] at nx
      obtain ⟨j0, j1⟩ := z3 i (by omega) (by omega)
      have e9 : s' (s 10 k + 1) (i : Int) = t 716 (32 * k + (i : Int)) := by rw [hm.1 _ _ (by omega)]; exact w9 i (by omega) (by omega)
      have e10 : s' 10 (t 716 (32 * k + (i : Int))) = s 10 (t 716 (32 * k + (i : Int))) := hm.1 _ _ (by omega)
      refine b_S_mostMarkAsked_4 ?_
      simp only [x1, x2, z_ckT]
      rw [z_gl_lo (by omega), e8, z_gl_lo (by omega), e9]
      refine ⟨fun z => by omega, fun _ => ⟨by omega, s_S_find (d := d) j0 j1 ?_⟩⟩
      rw [e10]
      by_cases hj : t 707 (t 716 (32 * k + (i : Int))) = 0
      · rw [(hS.2.2.2.2.1 _ j0 j1).1 hj]
        refine ⟨fun _ => b_S_mostMarkAsked_44 ?_, fun z => by omega⟩
        rw [z_wr_id (by omega) (by omega)]
        rw [show z_mm t g k (i + 1) = z_mm t g k i from if_neg (fun q => q.1 hj)] at nx
        exact nx
      · obtain ⟨i', -, -, -, hK', -⟩ := z_cS_row hS j0 j1 hj
        obtain ⟨y1, y2, y3, y4, y5⟩ := hK'
        have e9' := hm.2 _ j0 j1 hj
        refine ⟨fun z => by omega, fun _ => ?_⟩
        simp only [y1, z_ckT]
        rw [z_gl_lo (by omega), e9']
        refine ⟨fun q => b_S_mostMarkAsked_44 ?_, fun q => b_S_mostMarkAsked_44 ?_⟩
        · rw [z_wr_id (by omega) (by omega)]
          rw [show z_mm t g k (i + 1) = z_mm t g k i from if_neg (fun z => by omega)] at nx
          exact nx
        · rw [z_wr_id (by omega) (by omega)]
          rw [show z_mm t g k (i + 1) = g (t 716 (32 * k + (i : Int))) from if_pos ⟨hj, q⟩] at nx
          exact nx
  exact loop (t 715 k).toNat 0 (by omega)
end MK
