/-! the class: addresses, frames -/
theorem z_gl_ul {s c : z_M} {a i v : Int} (h : a < 701) : z_up (z_gl s c) a i v = z_gl (z_up s a i v) c := by
  funext b j
  unfold z_up z_gl
  by_cases hb : b < 701
  · rw [if_pos hb, if_pos hb]
  · rw [if_neg hb, if_neg hb, if_neg (by omega)]
theorem z_gl_cl {s c : z_M} {a sp d dp n : Int} (ha : a < 701) (h : d < 701) : z_cp (z_gl s c) a sp d dp n = z_gl (z_cp s a sp d dp n) c := by
  funext b j
  unfold z_cp z_gl
  by_cases hb : b < 701
  · rw [if_pos hb, if_pos hb, if_pos ha]
  · rw [if_neg hb, if_neg hb, if_neg (by omega)]
def z_ru (r : Int) : Int := if r = 4 then 216 else 333 + 92 * r
def z_fA (r i : Int) : Int := z_ru r + 1 + 1 + 3 * i
def z_isU (x : Int) : Prop := z_ok z_NT 4 x = true ∧ z_ok z_NT 500030 (x + 1) = true ∧ 216 ≤ x ∧ x + 92 ≤ 701 ∧ (x = 216 ∨ 333 ≤ x)
def z_isF (F : Int) : Prop := z_ok z_NT 1 F = true ∧ z_ok z_NT 100025 (F + 1) = true ∧ z_ok z_NT 100019 (F + 2) = true ∧ 218 ≤ F ∧ F + 3 ≤ 701 ∧ (F + 3 ≤ 308 ∨ 335 ≤ F)
def z_isT (T : Int) : Prop := z_ok z_NT 6 T = true ∧ z_ok z_NT 100100 (T + 1) = true ∧ 309 ≤ T ∧ T ≤ 331
def z_isK (A : Int) : Prop := z_ok z_NT 2 A = true ∧ z_ok z_NT 100025 (A + 1) = true ∧ 11 ≤ A ∧ A ≤ 211 ∧ A % 2 = 1
theorem z_isU_ru {r : Int} (h0 : 0 ≤ r) (h1 : r < 5) : z_isU (z_ru r) := by
  rcases (show r = 0 ∨ r = 1 ∨ r = 2 ∨ r = 3 ∨ r = 4 by omega) with rfl | rfl | rfl | rfl | rfl <;> exact ⟨by decide +kernel, by decide +kernel, by decide +kernel, by decide +kernel, by decide +kernel⟩
theorem z_isF_all : ((List.range 5).all fun r => (List.range 30).all fun i => z_ok z_NT 1 (z_fA (r : Nat) (i : Nat)) && z_ok z_NT 100025 (z_fA (r : Nat) (i : Nat) + 1) && z_ok z_NT 100019 (z_fA (r : Nat) (i : Nat) + 2) && decide (218 ≤ z_fA (r : Nat) (i : Nat)) && decide (z_fA (r : Nat) (i : Nat) + 3 ≤ 701 ∧ (z_fA (r : Nat) (i : Nat) + 3 ≤ 308 ∨ 335 ≤ z_fA (r : Nat) (i : Nat)))) = true := by decide +kernel
theorem z_isF_fA {r i : Int} (h0 : 0 ≤ r) (h1 : r < 5) (i0 : 0 ≤ i) (i1 : i < 30) : z_isF (z_fA r i) := by
  obtain ⟨a, rfl⟩ : ∃ n : Nat, r = (n : Int) := ⟨r.toNat, by omega⟩
  obtain ⟨b, rfl⟩ : ∃ n : Nat, i = (n : Int) := ⟨i.toNat, by omega⟩
  have h := List.all_eq_true.mp (List.all_eq_true.mp z_isF_all a (List.mem_range.mpr (by omega))) b (List.mem_range.mpr (by omega))
  simp only [Bool.and_eq_true, decide_eq_true_eq] at h
  obtain ⟨⟨⟨⟨q1, q2⟩, q3⟩, q4⟩, q5⟩ := h
  exact ⟨q1, q2, q3, q4, q5⟩
theorem z_isT_all : ((List.range 12).all fun r => z_ok z_NT 6 (309 + 2 * ((r : Nat) : Int)) && z_ok z_NT 100100 (309 + 2 * ((r : Nat) : Int) + 1)) = true := by decide +kernel
theorem z_isT_of {R : Int} (h0 : 0 ≤ R) (h1 : R < 12) : z_isT (309 + 2 * R) := by
  obtain ⟨a, rfl⟩ : ∃ n : Nat, R = (n : Int) := ⟨R.toNat, by omega⟩
  have h := List.all_eq_true.mp z_isT_all a (List.mem_range.mpr (by omega))
  simp only [Bool.and_eq_true] at h
  exact ⟨h.1, h.2, by omega, by omega⟩
theorem z_isK_all : ((List.range 101).all fun r => z_ok z_NT 2 (11 + 2 * ((r : Nat) : Int)) && z_ok z_NT 100025 (11 + 2 * ((r : Nat) : Int) + 1)) = true := by decide +kernel
theorem z_isK_of {A : Int} (h0 : 11 ≤ A) (h1 : A ≤ 211) (h2 : A % 2 = 1) : z_isK A := by
  obtain ⟨a, rfl⟩ : ∃ n : Nat, A = 11 + 2 * (n : Int) := ⟨((A - 11) / 2).toNat, by omega⟩
  have h := List.all_eq_true.mp z_isK_all a (List.mem_range.mpr (by omega))
  simp only [Bool.and_eq_true] at h
  exact ⟨h.1, h.2, h0, h1, h2⟩
section CF
variable {e : z_E} {d : Nat} {s c : z_M} {Q : Int → z_M → Prop} {F : Int}
def cf_begin (F steps : Int) (s : z_M) : z_M := z_up (z_up (z_up (z_up (z_up s F 5 steps) F 6 0) F 7 (z_shl 1 (12 + s F 3 / 101))) F 8 0) F 9 0
theorem s_F_begin {n : Int} (hF : z_isF F) (h0 : 0 ≤ s F 3) (h1 : s F 3 < 1212) (h : Q 0 (z_gl (cf_begin F n s) c)) : z_C e (d + 1) m_F_begin [z_R F, z_I n] (z_gl s c) Q := by
  obtain ⟨k1, k2, k3, k4, k5⟩ := hF
  refine b_F_begin_0 ?_
  simp (disch := omega) only [k1, z_ckT, z_gl_ul, z_gl_lo, z_up_ne]
  rw [z_div h0 h1, z_wr_id (by omega) (by omega)]
  exact ⟨by omega, h⟩
theorem s_T_stands {T : Int} (hT : z_isT T) (h1 : 0 < s T 1 → Q 1 (z_gl s c)) (h0 : s T 1 ≤ 0 → Q 0 (z_gl s c)) : z_C e (d + 1) m_T_stands [z_R T] (z_gl s c) Q := by
  obtain ⟨k1, k2, k3, k4⟩ := hT
  refine b_T_stands_0 ?_
  simp (disch := omega) only [k1, z_ckT, z_gl_lo]
  exact ⟨h0, h1⟩
theorem s_F_hasText {T : Int} (hF : z_isF F) (hT : z_isT T) (h2 : s F 2 = T) (h1 : 0 < s T 1 → Q 1 (z_gl s c)) (h0 : s T 1 ≤ 0 → Q 0 (z_gl s c)) : z_C e (d + 2) m_F_hasText [z_R F] (z_gl s c) Q := by
  obtain ⟨k1, k2, k3, k4, k5⟩ := hF
  have hT' := hT
  obtain ⟨t1, t2, t3, t4⟩ := hT
  refine b_F_hasText_0 ?_
  simp (disch := omega) only [k1, z_ckT, z_gl_lo, h2, t1]
  exact ⟨fun w => by omega, fun _ => s_T_stands hT' (fun q => ⟨fun z => by omega, fun _ => h1 q⟩) (fun q => ⟨fun _ => h0 q, fun z => absurd rfl z⟩)⟩
theorem s_F_argument (hF : z_isF F) (h0 : 0 ≤ s F 3) (h1 : s F 3 < 1212) (h : Q (s F 3 % 101 - 50) (z_gl s c)) : z_C e (d + 1) m_F_argument [z_R F] (z_gl s c) Q := by
  obtain ⟨k1, k2, k3, k4, k5⟩ := hF
  refine b_F_argument_0 ?_
  simp (disch := omega) only [k1, z_ckT, z_gl_lo]
  rw [Int.tdiv_eq_ediv_of_nonneg h0, z_wr_id (x := s F 3 - s F 3 / 101 * 101) (by omega) (by omega), z_wr_id (by omega) (by omega), show s F 3 - s F 3 / 101 * 101 - 50 = s F 3 % 101 - 50 by omega]
  exact ⟨by omega, h⟩
theorem s_F_fetch {T : Int} (hF : z_isF F) (hT : z_isT T) (h2 : s F 2 = T) (h0 : 0 ≤ s F 6) (h1 : s F 6 < s T 1) (h3 : s T 1 ≤ 100) (h : Q (s (T + 1) (s F 6)) (z_gl (z_up s F 6 (s F 6 + 1)) c)) : z_C e (d + 1) m_F_fetch [z_R F] (z_gl s c) Q := by
  obtain ⟨k1, k2, k3, k4, k5⟩ := hF
  obtain ⟨t1, t2, t3, t4⟩ := hT
  refine b_F_fetch_0 ?_
  simp (disch := omega) only [k1, z_ckT, z_gl_lo, h2, t1, t2, z_gl_ul, z_wr_id]
  exact ⟨fun w => by omega, fun _ => ⟨fun w => by omega, fun _ => ⟨fun _ => ⟨by omega, h⟩, fun w => by omega⟩⟩⟩
def cf_push (F v : Int) (s : z_M) : z_M := z_up (z_up s (F + 2) (s F 9) v) F 9 (s F 9 + 1)
theorem s_F_push {v : Int} (hF : z_isF F) (h0 : 0 ≤ s F 9) (h1 : s F 9 < 19) (h : Q 0 (z_gl (cf_push F v s) c)) : z_C e (d + 1) m_F_push [z_R F, z_I v] (z_gl s c) Q := by
  obtain ⟨k1, k2, k3, k4, k5⟩ := hF
  refine b_F_push_0 ?_
  simp (disch := omega) only [k1, k3, z_ckT, z_gl_lo, z_gl_ul, z_up_ne, z_wr_id]
  exact ⟨fun w => by omega, fun _ => ⟨⟨h0, h1⟩, h⟩⟩
theorem s_F_pop (hF : z_isF F) (h0 : 0 < s F 9) (h1 : s F 9 ≤ 19) (h : Q (s (F + 2) (s F 9 - 1)) (z_gl (z_up s F 9 (s F 9 - 1)) c)) : z_C e (d + 1) m_F_pop [z_R F] (z_gl s c) Q := by
  obtain ⟨k1, k2, k3, k4, k5⟩ := hF
  refine b_F_pop_0 ?_
  simp (disch := omega) only [k1, k3, z_ckT, z_gl_lo, z_gl_ul, z_up_ne, z_up_eq, z_wr_id]
  exact ⟨fun _ => ⟨by omega, h⟩, fun w => by omega⟩
theorem s_F_value (hF : z_isF F) (h0 : 0 < s F 9) (h1 : s F 9 ≤ 19) (h : Q (s (F + 2) (s F 9 - 1)) (z_gl s c)) : z_C e (d + 1) m_F_value [z_R F] (z_gl s c) Q := by
  obtain ⟨k1, k2, k3, k4, k5⟩ := hF
  refine b_F_value_0 ?_
  simp (disch := omega) only [k1, k3, z_ckT, z_gl_lo, z_wr_id]
  exact ⟨fun w => by omega, fun _ => ⟨by omega, h⟩⟩
def z_fas (F key : Int) (s : z_M) : Prop := ∃ i, 0 ≤ i ∧ i < s F 8 ∧ s (F + 1) i = key
def cf_take0 (F v u : Int) (s : z_M) : z_M := z_up (cf_push F v s) F 7 (z_or (s F 7) u)
def cf_take1 (F key : Int) (s : z_M) : z_M := z_up (z_up s (F + 1) (s F 8) key) F 8 (s F 8 + 1)
theorem s_F_noteAsked {key u : Int} (hF : z_isF F) (h2 : 0 ≤ s F 8) (h3 : s F 8 < 25) (hy : z_fas F key s → Q 0 (z_gl (z_up s F 7 (z_or (s F 7) u)) c)) (hn : ¬ z_fas F key s → Q 0 (z_gl (cf_take1 F key (z_up s F 7 (z_or (s F 7) u))) c)) : z_C e (d + 1) m_F_noteAsked [z_R F, z_I key, z_I u] (z_gl s c) Q := by
  obtain ⟨k1, k2, k3, k4, k5⟩ := hF
  refine b_F_noteAsked_0 ?_
  simp (disch := omega) only [k1, z_ckT]
  rw [z_gl_lo (by omega), z_gl_ul (by omega)]
  have e8 : z_up s F 7 (z_or (s F 7) u) F 8 = s F 8 := z_up_ne (by omega)
  have ea : ∀ i, z_up s F 7 (z_or (s F 7) u) (F + 1) i = s (F + 1) i := fun i => z_up_ne (by omega)
  unfold cf_take1 at hn
  rw [e8] at hn
  generalize z_up s F 7 (z_or (s F 7) u) = s1 at *
  have loop : ∀ (n : Nat) (i : Int), 0 ≤ i → i + (n : Int) = s F 8 → (∀ j, 0 ≤ j → j < i → ¬ s (F + 1) j = key) → z_T e d m_F_noteAsked 12 [some (z_R F), some (z_I key), none, some (z_I i)] (z_gl s1 c) Q := by
    intro n
    induction n with
    | zero =>
      intro i hi hm hj
      refine b_F_noteAsked_12 ?_
      simp (disch := omega) only [k1, k2, z_ckT, z_gl_lo, z_gl_ul, z_up_ne, z_wr_id, e8]
      refine ⟨fun _ => ⟨fun w => by omega, fun _ => ⟨⟨h2, h3⟩, hn ?_⟩⟩, fun w => by omega⟩
      rintro ⟨j, j0, j1, j2⟩
      exact hj j j0 (by omega) j2
    | succ n ih =>
      intro i hi hm hj
      refine b_F_noteAsked_12 ?_
      simp (disch := omega) only [k1, k2, z_ckT, z_gl_lo, z_wr_id, e8, ea]
      refine ⟨fun w => by omega, fun w => ⟨by omega, fun w2 => ih (i + 1) (by omega) (by omega) (fun j j0 j1 => ?_), fun w2 => hy ⟨i, hi, w, w2⟩⟩⟩
      by_cases hji : j = i
      · rw [hji]; exact w2
      · exact hj j j0 (by omega)
  exact loop (s F 8).toNat 0 (by omega) (by omega) (fun j a b => by omega)
/-- a value is pushed, then it is noted who was asked -/
theorem s_F_take {key v u : Int} (hF : z_isF F) (h0 : 0 ≤ s F 9) (h1 : s F 9 < 19) (h2 : 0 ≤ s F 8) (h3 : s F 8 < 25) (hy : z_fas F key s → Q 0 (z_gl (cf_take0 F v u s) c)) (hn : ¬ z_fas F key s → Q 0 (z_gl (cf_take1 F key (cf_take0 F v u s)) c)) : z_C e (d + 1) m_F_push [z_R F, z_I v] (z_gl s c) (fun _ σ => z_C e (d + 1) m_F_noteAsked [z_R F, z_I key, z_I u] σ Q) := by
  refine s_F_push hF h0 h1 ?_
  have e7 : cf_push F v s F 7 = s F 7 := by unfold cf_push; rw [z_up_ne (by omega), z_up_ne (by omega)]
  have e8 : cf_push F v s F 8 = s F 8 := by unfold cf_push; rw [z_up_ne (by omega), z_up_ne (by omega)]
  have ea : ∀ i, cf_push F v s (F + 1) i = s (F + 1) i := fun i => by unfold cf_push; rw [z_up_ne (by omega), z_up_ne (by omega)]
  have hfa : z_fas F key (cf_push F v s) ↔ z_fas F key s := by unfold z_fas; simp only [e8, ea]
  unfold cf_take0 at hy hn
  rw [← e7] at hy hn
  exact s_F_noteAsked hF (by rw [e8]; exact h2) (by rw [e8]; exact h3) (fun q => hy (hfa.mp q)) (fun q => hn (fun z => q (hfa.mpr z)))
end CF
/-! texts in the class -/
def z_cc (op ar : Int) : Int := if op = 1 then 16 * ar else if op = 2 then 1 else if op = 3 then 16 * ar + 2 else if op = 4 then 16 * ar + 3 else if op = 11 then 4 else if op = 12 then 16 * (ar / 2) + 5 else if op = 13 then 16 * (ar / 2) + 6 else op + 2
def z_cX (s t : z_M) (R : Int) : Prop := 2 * s (309 + 2 * R) 1 = t 705 R ∧ ∀ q, 0 ≤ q → 2 * q < t 705 R → s (309 + 2 * R + 1) q = z_cc (t 704 (400 * R + 2 * q)) (t 704 (400 * R + 2 * q + 1))
def z_nO (op : Int) : Int := if op = 1 then 0 else if op = 2 then 1 else if op = 3 then 2 else if op = 4 then 3 else if op = 11 then 4 else if op = 12 then 5 else if op = 13 then 6 else op + 2
/-- the code of a node -/
theorem z_cc_of {t : z_M} {R : Int} {D : Int → Int} {p op ar : Int} (hs : t 705 R ≤ 200) (h : z_TO t R D p op ar) (hp : 0 ≤ p) (hp2 : p < t 705 R) : (0 ≤ z_cc op ar ∧ z_cc op ar < 2048) ∧ z_and (z_cc op ar) 15 = z_nO op ∧ z_shr (z_cc op ar) 4 = (if op = 1 ∨ op = 3 ∨ op = 4 then ar else if op = 12 ∨ op = 13 then ar / 2 else 0) := by
  have hr : 0 ≤ z_cc op ar ∧ z_cc op ar < 2048 ∧ z_cc op ar % 16 = z_nO op ∧ z_cc op ar / 16 = (if op = 1 ∨ op = 3 ∨ op = 4 then ar else if op = 12 ∨ op = 13 then ar / 2 else 0) := by
    unfold z_TO at h
    unfold z_cc z_nO
    by_cases o1 : op = 1
    · simp only [if_pos o1, if_pos (Or.inl o1 : op = 1 ∨ op = 3 ∨ op = 4)]; omega
    by_cases o2 : op = 2
    · simp only [if_neg o1, if_pos o2]; rw [if_neg (by omega), if_neg (by omega)]; omega
    by_cases o3 : op = 3
    · simp only [if_neg o1, if_neg o2, if_pos o3]; rw [if_pos (by omega)]; omega
    by_cases o4 : op = 4
    · simp only [if_neg o1, if_neg o2, if_neg o3, if_pos o4]; rw [if_pos (by omega)]; omega
    by_cases o11 : op = 11
    · simp only [if_neg o1, if_neg o2, if_neg o3, if_neg o4, if_pos o11]; rw [if_neg (by omega), if_neg (by omega)]; omega
    by_cases o12 : op = 12
    · simp only [if_neg o1, if_neg o2, if_neg o3, if_neg o4, if_neg o11, if_pos o12]; rw [if_neg (by omega), if_pos (by omega)]; omega
    by_cases o13 : op = 13
    · simp only [if_neg o1, if_neg o2, if_neg o3, if_neg o4, if_neg o11, if_neg o12, if_pos o13]; rw [if_neg (by omega), if_pos (by omega)]; omega
    simp only [if_neg o1, if_neg o2, if_neg o3, if_neg o4, if_neg o11, if_neg o12, if_neg o13]; rw [if_neg (by omega), if_neg (by omega)]; omega
  obtain ⟨h1, h2⟩ := z_cd hr.1 hr.2.1
  exact ⟨⟨hr.1, hr.2.1⟩, by rw [h2]; exact hr.2.2.1, by rw [h1]; exact hr.2.2.2⟩
section CX
variable {e : z_E} {d : Nat} {s c t : z_M} {Q : Int → z_M → Prop} {F : Int}
theorem s_F_isWorkedOut {R p : Int} (hF : z_isF F) (R0 : 0 ≤ R) (R1 : R < 12) (h2 : s F 2 = 309 + 2 * R) (hX : z_cX s t R) (hT : z_TI t R) (hp : 2 * s F 6 = p) (p0 : 0 ≤ p) (p1 : p ≤ t 705 R) (hz : t 705 R = 0 → Q 0 (z_gl s c)) (h : ¬ t 705 R = 0 → Q (if t 705 R ≤ mf_jp t R 101 p then 1 else 0) (z_gl (z_up s F 6 (mf_jp t R 101 p / 2)) c)) : z_C e (d + 3) m_F_isWorkedOut [z_R F] (z_gl s c) Q := by
  have hF' := hF
  obtain ⟨k1, k2, k3, k4, k5⟩ := hF
  have hT6 := z_isT_of R0 R1
  have hT6' := hT6
  obtain ⟨t1, t2, t3, t4⟩ := hT6
  obtain ⟨a1, a2, a3, a4⟩ := hT
  obtain ⟨x1, x2⟩ := hX
  refine b_F_isWorkedOut_0 ?_
  simp only [k1, z_ckT]
  refine s_F_hasText hF' hT6' h2 (fun q => ⟨fun _ => ?_, fun z => by omega⟩) (fun q => ⟨fun z => absurd rfl z, fun _ => hz (by omega)⟩)
  have hnz : ¬ t 705 R = 0 := by omega
  have h := h hnz
  obtain ⟨-, -, D, hD⟩ := a4 hnz
  have loop : ∀ (n : Nat) (i p : Int), 0 ≤ i → i + (n : Int) = 101 → 2 * i ≤ p → p ≤ t 705 R → p % 2 = 0 → Q (if t 705 R ≤ mf_jp t R n p then 1 else 0) (z_gl (z_up s F 6 (mf_jp t R n p / 2)) c) → z_T e (d + 2) m_F_isWorkedOut 11 [some (z_R F), some (z_I i)] (z_gl (z_up s F 6 (p / 2)) c) Q := by
    intro n
    induction n with
    | zero => intro i p i0 i1 i2 i3 i4 h; omega
    | succ n ih =>
      intro i p i0 i1 i2 i3 i4 h
      have hjn : ¬ (p < t 705 R ∧ t 704 (400 * R + p) = 13) → mf_jp t R (n + 1) p = p := fun q => by unfold mf_jp; exact if_neg q
      have hjp : p < t 705 R ∧ t 704 (400 * R + p) = 13 → mf_jp t R (n + 1) p = mf_jp t R n (t 704 (400 * R + p + 1)) := fun q => by
        show (if p < t 705 R ∧ t 704 (400 * R + p) = 13 then mf_jp t R n (t 704 (400 * R + p + 1)) else p) = _
        exact if_pos q
      refine b_F_isWorkedOut_11 ⟨fun w => ?_, fun w => ?_⟩
      · rw [hjn (by omega), if_pos (by omega)] at h; exact h
      simp (disch := omega) only [k1, z_ckT, z_gl_lo, z_up_ne, z_up_eq, h2, t1, t2, z_gl_ul, z_up_up]
      refine ⟨fun w2 => by omega, fun w2 => ⟨fun w3 => ?_, fun w3 => ⟨by omega, fun w4 => ⟨by omega, ?_⟩, fun w4 => ?_⟩⟩⟩
      · rw [hjn (by omega), if_pos (by omega)] at h; exact h
      all_goals
        have hTO := hD.2.2.2 p (by omega) (by omega) i4
        have hc := x2 (p / 2) (by omega) (by omega)
        rw [show 400 * R + 2 * (p / 2) = 400 * R + p by omega] at hc
        obtain ⟨c1, c2, c3⟩ := z_cc_of a2 hTO (by omega) (by omega)
        rw [hc, c2] at w4
      · have ho : t 704 (400 * R + p) = 13 := by
          unfold z_TO at hTO
          unfold z_nO at w4
          generalize t 704 (400 * R + p) = op at *
          repeat' (split at w4)
          all_goals omega
        rw [hjp ⟨by omega, ho⟩] at h
        rw [ho] at hTO
        unfold z_TO at hTO
        rw [hc, c3, if_neg (by omega), if_pos (by omega), z_wr_id (by omega) (by omega)]
        exact ih (i + 1) _ (by omega) (by omega) (by omega) (by omega) (by omega) h
      · have ho : ¬ t 704 (400 * R + p) = 13 := fun q => w4 (by rw [q]; rfl)
        rw [hjn (fun q => ho q.2), if_neg (by omega)] at h; exact h
  have := loop 101 0 p (by omega) (by omega) (by omega) p1 (by omega) h
  rw [show p / 2 = s F 6 by omega, z_up_self] at this
  exact this
end CX
