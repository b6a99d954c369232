/-! the locals -/
theorem z_en_mem (e : z_E) : ∀ (l : List (Option z_V)) (i j : Nat) (w : Value), (j, w) ∈ z_en e i l ↔ ∃ k v, j = i + k ∧ l[k]? = some (some v) ∧ w = z_vv e v
  | [], i, j, w => by simp [z_en]
  | none :: l, i, j, w => by
    rw [z_en, z_en_mem e l]
    constructor
    · rintro ⟨k, v, h1, h2, h3⟩
      exact ⟨k + 1, v, by omega, by simpa using h2, h3⟩
    · rintro ⟨k, v, h1, h2, h3⟩
      cases k with
      | zero => simp at h2
      | succ k => exact ⟨k, v, by omega, by simpa using h2, h3⟩
  | some u :: l, i, j, w => by
    rw [z_en, List.mem_cons, z_en_mem e l]
    constructor
    · rintro (h | ⟨k, v, h1, h2, h3⟩)
      · cases h; exact ⟨0, u, rfl, rfl, rfl⟩
      · exact ⟨k + 1, v, by omega, by simpa using h2, h3⟩
    · rintro ⟨k, v, h1, h2, h3⟩
      cases k with
      | zero =>
        left
        have : u = v := by simpa using h2
        subst this; subst h3; rw [h1]; rfl
      | succ k => exact Or.inr ⟨k, v, by omega, by simpa using h2, h3⟩
theorem z_nth_get : ∀ (l : List (Option z_V)) (i : Nat) (v : z_V), z_nth l i = some v → l[i]? = some (some v)
  | [], i, v, h => by cases i <;> simp [z_nth] at h
  | a :: l, 0, v, h => by simp only [z_nth] at h; simp [h]
  | a :: l, i + 1, v, h => by simp only [z_nth] at h; simpa using z_nth_get l i v h
theorem z_la {e : z_E} {la : Array Slot} {n : Nat} {ls : List (Option z_V)} (h : lv_has la n (z_en e 0 ls)) {i : Nat} {v : z_V} (hi : z_nth ls i = some v) : la[i]? = some (.val (z_vv e v)) :=
  h.2.2 (i, z_vv e v) ((z_en_mem e ls 0 i _).mpr ⟨i, v, by omega, z_nth_get ls i v hi, rfl⟩)
theorem z_nth_mem {ls : List (Option z_V)} {i : Nat} {v : z_V} (hi : z_nth ls i = some v) : some v ∈ ls := List.mem_of_getElem? (z_nth_get ls i v hi)
theorem z_has_sub {la : Array Slot} {n : Nat} {l l' : List (Nat × Value)} (h : lv_has la n l) (hs : ∀ q ∈ l', q ∈ l) : lv_has la n l' := ⟨h.1, h.2.1, fun q hq => h.2.2 q (hs q hq)⟩
theorem z_set_get : ∀ (ls : List (Option z_V)) (i : Nat) (v : z_V) (k : Nat) (u : z_V), (z_set ls i v)[k]? = some (some u) → (k = i ∧ u = v) ∨ (k ≠ i ∧ ls[k]? = some (some u) ∧ (k + 1 = i → ∀ x, u ≠ z_J x))
  | [], i, v, k, u, h => by simp [z_set] at h
  | a :: l, 0, v, k, u, h => by
    cases k with
    | zero => left; simp [z_set] at h; exact ⟨rfl, h.symm⟩
    | succ k => right; simp [z_set] at h; exact ⟨by omega, by simpa using h, by omega⟩
  | a :: l, 1, v, k, u, h => by
    cases k with
    | zero =>
      right
      simp only [z_set, List.getElem?_cons_zero, Option.some.injEq] at h
      refine ⟨by omega, ?_, fun _ x hx => ?_⟩
      · simp only [List.getElem?_cons_zero, Option.some.injEq]
        unfold z_kill at h
        split at h
        · cases h
        · exact h
      · subst hx
        unfold z_kill at h
        split at h
        · cases h
        · next hne => exact hne x h
    | succ k =>
      simp only [z_set, List.getElem?_cons_succ] at h
      rcases z_set_get l 0 v k u h with ⟨h1, h2⟩ | ⟨h1, h2, h3⟩
      · left; exact ⟨by omega, h2⟩
      · right; exact ⟨by omega, by simpa using h2, by omega⟩
  | a :: l, i + 2, v, k, u, h => by
    cases k with
    | zero => right; simp [z_set] at h; exact ⟨by omega, by simp [h], by omega⟩
    | succ k =>
      simp only [z_set, List.getElem?_cons_succ] at h
      rcases z_set_get l (i + 1) v k u h with ⟨h1, h2⟩ | ⟨h1, h2, h3⟩
      · left; exact ⟨by omega, h2⟩
      · right; exact ⟨by omega, by simpa using h2, fun hk => h3 (by omega)⟩
theorem z_clr_get : ∀ (ls : List (Option z_V)) (i : Nat) (k : Nat) (u : z_V), (z_clr ls i)[k]? = some (some u) → k ≠ i ∧ ls[k]? = some (some u)
  | [], i, k, u, h => by simp [z_clr] at h
  | a :: l, 0, k, u, h => by
    cases k with
    | zero => simp [z_clr] at h
    | succ k => simp [z_clr] at h; exact ⟨by omega, by simpa using h⟩
  | a :: l, i + 1, k, u, h => by
    cases k with
    | zero => simp [z_clr] at h; exact ⟨by omega, by simp [h]⟩
    | succ k =>
      simp only [z_clr, List.getElem?_cons_succ] at h
      obtain ⟨h1, h2⟩ := z_clr_get l i k u h
      exact ⟨by omega, by simpa using h2⟩
theorem z_cat2 {e : z_E} {u : z_V} (h : ∀ x, u ≠ z_J x) : (z_vv e u).category = 1 := by
  rcases u with x | x | x
  · rfl
  · exact absurd rfl (h x)
  · show (va_rf (z_ad e x)).category = 1
    unfold va_rf; split <;> rfl
theorem z_set_in {e : z_E} {ls : List (Option z_V)} {i : Nat} {v : z_V} : ∀ q ∈ z_en e 0 (z_set ls i v), q ∈ (i, z_vv e v) :: (z_en e 0 ls).filter (fun q => !(q.1 == i) && !(q.1 + 1 == i && q.2.category == 2)) := by
  rintro ⟨j, w⟩ hq
  obtain ⟨k, u, h1, h2, h3⟩ := (z_en_mem e _ 0 j w).mp hq
  have hj : j = k := by omega
  subst hj; subst h3
  rcases z_set_get ls i v j u h2 with ⟨h4, h5⟩ | ⟨h4, h5, h6⟩
  · subst h4; subst h5; exact List.mem_cons_self
  · refine List.mem_cons_of_mem _ (List.mem_filter.mpr ⟨(z_en_mem e ls 0 j _).mpr ⟨j, u, by omega, h5, rfl⟩, ?_⟩)
    simp only [Bool.and_eq_true, Bool.not_eq_true', beq_eq_false_iff_ne, Bool.and_eq_false_iff]
    refine ⟨h4, ?_⟩
    by_cases hk : j + 1 = i
    · right; rw [z_cat2 (h6 hk)]; decide
    · left; exact hk
theorem z_set2_in {e : z_E} {ls : List (Option z_V)} {i : Nat} {v : z_V} : ∀ q ∈ z_en e 0 (z_clr (z_set ls i v) (i + 1)), q ∈ (i, z_vv e v) :: (z_en e 0 ls).filter (fun q => !(q.1 == i) && (!(q.1 == i + 1) && !(q.1 + 1 == i && q.2.category == 2))) := by
  rintro ⟨j, w⟩ hq
  obtain ⟨k, u, h1, h2, h3⟩ := (z_en_mem e _ 0 j w).mp hq
  have hj : j = k := by omega
  subst hj; subst h3
  obtain ⟨h0, h2⟩ := z_clr_get _ _ _ _ h2
  rcases z_set_get ls i v j u h2 with ⟨h4, h5⟩ | ⟨h4, h5, h6⟩
  · subst h4; subst h5; exact List.mem_cons_self
  · refine List.mem_cons_of_mem _ (List.mem_filter.mpr ⟨(z_en_mem e ls 0 j _).mpr ⟨j, u, by omega, h5, rfl⟩, ?_⟩)
    simp only [Bool.and_eq_true, Bool.not_eq_true', beq_eq_false_iff_ne, Bool.and_eq_false_iff]
    refine ⟨h4, h0, ?_⟩
    by_cases hk : j + 1 = i
    · right; rw [z_cat2 (h6 hk)]; decide
    · left; exact hk
theorem z_rL_set {ls : List (Option z_V)} {i : Nat} {v : z_V} (h : z_rL ls) (hv : z_rg v) : z_rL (z_set ls i v) := by
  intro u hu
  obtain ⟨k, hk⟩ := List.getElem?_of_mem hu
  rcases z_set_get ls i v k u hk with ⟨-, h5⟩ | ⟨-, h5, -⟩
  · subst h5; exact hv
  · exact h u (List.mem_of_getElem? h5)
theorem z_rL_clr {ls : List (Option z_V)} {i : Nat} (h : z_rL ls) : z_rL (z_clr ls i) := by
  intro u hu
  obtain ⟨k, hk⟩ := List.getElem?_of_mem hu
  exact h u (List.mem_of_getElem? (z_clr_get ls i k u hk).2)
/-! instructions: locals, constants, arithmetic -/
section ZI
variable {e : z_E} {ph : Bool} {d y Ni No pc N : Nat} {ls : List (Option z_V)} {st : List z_V} {σ : z_M} {Q : Int → z_M → Prop}
theorem z_s_iconst {n : Int} (hn : z_ir n) (hd : decode (z_hd y).2.1 pc = .ok (.iconst n, 1)) (h : z_X e ph d y Ni No (pc + 1) ls (z_I n :: st) N σ Q) : z_X e ph d y Ni No pc ls st N σ Q := by
  intro r1 r2 r3 p env s m args below meth c H locs la C R h1 h2 hl
  obtain ⟨hx, hb, -⟩ := id C
  exact lv_iconst hx hb hd rfl (h r1 (List.forall_mem_cons.mpr ⟨hn, r2⟩) r3 p env s m args below meth c H locs la C R h1 h2 hl)
theorem z_s_bipush {n : Int} (hn : (Int8.ofInt n).toInt32 = Int32.ofInt n) (hn2 : z_ir n) (hd : decode (z_hd y).2.1 pc = .ok (.bipush n, 2)) (h : z_X e ph d y Ni No (pc + 2) ls (z_I n :: st) N σ Q) : z_X e ph d y Ni No pc ls st N σ Q := by
  intro r1 r2 r3 p env s m args below meth c H locs la C R h1 h2 hl
  obtain ⟨hx, hb, -⟩ := id C
  exact lv_bipush hx hb hd hn (h r1 (List.forall_mem_cons.mpr ⟨hn2, r2⟩) r3 p env s m args below meth c H locs la C R h1 h2 hl)
theorem z_s_sipush {n : Int} (hn : (Int16.ofInt n).toInt32 = Int32.ofInt n) (hn2 : z_ir n) (hd : decode (z_hd y).2.1 pc = .ok (.sipush n, 3)) (h : z_X e ph d y Ni No (pc + 3) ls (z_I n :: st) N σ Q) : z_X e ph d y Ni No pc ls st N σ Q := by
  intro r1 r2 r3 p env s m args below meth c H locs la C R h1 h2 hl
  obtain ⟨hx, hb, -⟩ := id C
  exact lv_sipush hx hb hd hn (h r1 (List.forall_mem_cons.mpr ⟨hn2, r2⟩) r3 p env s m args below meth c H locs la C R h1 h2 hl)
theorem z_s_ldc {n : Int} {ix : Nat} (hw : Cond.constant (z_hd y).1.cls ix (Int32.ofInt n) ∈ z_gw) (hn : z_ir n) (hd : decode (z_hd y).2.1 pc = .ok (.ldc ix, 2)) (h : z_X e ph d y Ni No (pc + 2) ls (z_I n :: st) N σ Q) : z_X e ph d y Ni No pc ls st N σ Q := by
  intro r1 r2 r3 p env s m args below meth c H locs la C R h1 h2 hl
  obtain ⟨hx, hb, -, -, hown, hts, -⟩ := id C
  exact lv_ldc hx hb hown (hts _ hw) hd (h r1 (List.forall_mem_cons.mpr ⟨hn, r2⟩) r3 p env s m args below meth c H locs la C R h1 h2 hl)
theorem z_s_ldc2 {n : Int} {ix : Nat} (hw : Cond.constantLong (z_hd y).1.cls ix (Int64.ofInt n) ∈ z_gw) (hn : z_lr n) (hd : decode (z_hd y).2.1 pc = .ok (.ldc2_w ix, 3)) (h : z_X e ph d y Ni No (pc + 3) ls (z_J n :: st) N σ Q) : z_X e ph d y Ni No pc ls st N σ Q := by
  intro r1 r2 r3 p env s m args below meth c H locs la C R h1 h2 hl
  obtain ⟨hx, hb, -, -, hown, hts, -⟩ := id C
  exact lv_ldc2 hx hb hown (hts _ hw) hd (h r1 (List.forall_mem_cons.mpr ⟨hn, r2⟩) r3 p env s m args below meth c H locs la C R h1 h2 hl)
theorem z_s_lconst {k : Fin 2} {n : Int} (hk : Int64.ofNat (k : Nat) = Int64.ofInt n) (hn : z_lr n) (hd : decode (z_hd y).2.1 pc = .ok (.lconst k, 1)) (h : z_X e ph d y Ni No (pc + 1) ls (z_J n :: st) N σ Q) : z_X e ph d y Ni No pc ls st N σ Q := by
  intro r1 r2 r3 p env s m args below meth c H locs la C R h1 h2 hl
  obtain ⟨hx, hb, -⟩ := id C
  exact lv_lconst hx hb hd hk (h r1 (List.forall_mem_cons.mpr ⟨hn, r2⟩) r3 p env s m args below meth c H locs la C R h1 h2 hl)
theorem z_s_null (hd : decode (z_hd y).2.1 pc = .ok (.aconst_null, 1)) (h : z_X e ph d y Ni No (pc + 1) ls (z_R (-1) :: st) N σ Q) : z_X e ph d y Ni No pc ls st N σ Q := by
  intro r1 r2 r3 p env s m args below meth c H locs la C R h1 h2 hl
  obtain ⟨hx, hb, -⟩ := id C
  exact lv_null hx hb hd (h r1 (List.forall_mem_cons.mpr ⟨trivial, r2⟩) r3 p env s m args below meth c H locs la C R h1 h2 hl)
theorem z_s_iload_n {k : Fin 4} {x : Int} (hi : z_nth ls (k : Nat) = some (z_I x)) (hd : decode (z_hd y).2.1 pc = .ok (.iload_n k, 1)) (h : z_X e ph d y Ni No (pc + 1) ls (z_I x :: st) N σ Q) : z_X e ph d y Ni No pc ls st N σ Q := by
  intro r1 r2 r3 p env s m args below meth c H locs la C R h1 h2 hl
  obtain ⟨hx, hb, -⟩ := id C
  exact lv_iload_n hx hb hd rfl (z_la hl hi) (h r1 (List.forall_mem_cons.mpr ⟨r1 _ (z_nth_mem hi), r2⟩) r3 p env s m args below meth c H locs la C R h1 h2 hl)
theorem z_s_iload {k : Nat} {x : Int} (hi : z_nth ls k = some (z_I x)) (hd : decode (z_hd y).2.1 pc = .ok (.iload k, 2)) (h : z_X e ph d y Ni No (pc + 2) ls (z_I x :: st) N σ Q) : z_X e ph d y Ni No pc ls st N σ Q := by
  intro r1 r2 r3 p env s m args below meth c H locs la C R h1 h2 hl
  obtain ⟨hx, hb, -⟩ := id C
  exact lv_iload hx hb hd (z_la hl hi) (h r1 (List.forall_mem_cons.mpr ⟨r1 _ (z_nth_mem hi), r2⟩) r3 p env s m args below meth c H locs la C R h1 h2 hl)
theorem z_s_lload_n {k : Fin 4} {x : Int} (hi : z_nth ls (k : Nat) = some (z_J x)) (hd : decode (z_hd y).2.1 pc = .ok (.lload_n k, 1)) (h : z_X e ph d y Ni No (pc + 1) ls (z_J x :: st) N σ Q) : z_X e ph d y Ni No pc ls st N σ Q := by
  intro r1 r2 r3 p env s m args below meth c H locs la C R h1 h2 hl
  obtain ⟨hx, hb, -⟩ := id C
  exact lv_lload_n hx hb hd rfl (z_la hl hi) (h r1 (List.forall_mem_cons.mpr ⟨r1 _ (z_nth_mem hi), r2⟩) r3 p env s m args below meth c H locs la C R h1 h2 hl)
theorem z_s_lload {k : Nat} {x : Int} (hi : z_nth ls k = some (z_J x)) (hd : decode (z_hd y).2.1 pc = .ok (.lload k, 2)) (h : z_X e ph d y Ni No (pc + 2) ls (z_J x :: st) N σ Q) : z_X e ph d y Ni No pc ls st N σ Q := by
  intro r1 r2 r3 p env s m args below meth c H locs la C R h1 h2 hl
  obtain ⟨hx, hb, -⟩ := id C
  exact lv_lload hx hb hd (z_la hl hi) (h r1 (List.forall_mem_cons.mpr ⟨r1 _ (z_nth_mem hi), r2⟩) r3 p env s m args below meth c H locs la C R h1 h2 hl)
theorem z_ad_neg {x : Int} (h : x < 0) : z_ad e x = none := by unfold z_ad; rw [if_pos h]
theorem z_ad_pos {x : Int} (h : ¬ x < 0) : z_ad e x = some (e.2.1.size + x.toNat) := by unfold z_ad; rw [if_neg h]
theorem z_vv_neg {x : Int} (h : x < 0) : z_vv e (z_R x) = .null := by show va_rf (z_ad e x) = _; rw [z_ad_neg h]; rfl
theorem z_vv_pos {x : Int} (h : ¬ x < 0) : z_vv e (z_R x) = .ref (e.2.1.size + x.toNat) := by show va_rf (z_ad e x) = _; rw [z_ad_pos h]; rfl
theorem z_s_aload_n {k : Fin 4} {x : Int} (hi : z_nth ls (k : Nat) = some (z_R x)) (hd : decode (z_hd y).2.1 pc = .ok (.aload_n k, 1)) (h : z_X e ph d y Ni No (pc + 1) ls (z_R x :: st) N σ Q) : z_X e ph d y Ni No pc ls st N σ Q := by
  intro r1 r2 r3 p env s m args below meth c H locs la C R h1 h2 hl
  obtain ⟨hx, hb, -⟩ := id C
  have hv := z_la hl hi
  have hk := h r1 (List.forall_mem_cons.mpr ⟨r1 _ (z_nth_mem hi), r2⟩) r3 p env s m args below meth c H locs la C R h1 h2 hl
  rw [List.map_cons] at hk
  by_cases hx0 : x < 0
  · rw [z_vv_neg hx0] at hv hk
    exact lv_aload_nN hx hb hd rfl hv hk
  · rw [z_vv_pos hx0] at hv hk
    exact lv_aload_n hx hb hd rfl hv hk
theorem z_s_aload {k : Nat} {x : Int} (hi : z_nth ls k = some (z_R x)) (hd : decode (z_hd y).2.1 pc = .ok (.aload k, 2)) (h : z_X e ph d y Ni No (pc + 2) ls (z_R x :: st) N σ Q) : z_X e ph d y Ni No pc ls st N σ Q := by
  intro r1 r2 r3 p env s m args below meth c H locs la C R h1 h2 hl
  obtain ⟨hx, hb, -⟩ := id C
  have hv := z_la hl hi
  have hk := h r1 (List.forall_mem_cons.mpr ⟨r1 _ (z_nth_mem hi), r2⟩) r3 p env s m args below meth c H locs la C R h1 h2 hl
  rw [List.map_cons] at hk
  by_cases hx0 : x < 0
  · rw [z_vv_neg hx0] at hv hk
    exact lv_aloadN hx hb hd hv hk
  · rw [z_vv_pos hx0] at hv hk
    exact lv_aload hx hb hd hv hk
theorem z_s_istore_n {k : Fin 4} {x : Int} (hm : (k : Nat) < (z_hd y).2.2.1) (hd : decode (z_hd y).2.1 pc = .ok (.istore_n k, 1)) (h : z_X e ph d y Ni No (pc + 1) (z_set ls k (z_I x)) st N σ Q) : z_X e ph d y Ni No pc ls (z_I x :: st) N σ Q := by
  intro r1 r2 r3 p env s m args below meth c H locs la C R h1 h2 hl
  obtain ⟨hx, hb, -⟩ := id C
  obtain ⟨r4, r2⟩ := List.forall_mem_cons.mp r2
  exact lv_istore_n hx hb hd rfl hl hm rfl fun la' hl' => h (z_rL_set r1 r4) r2 r3 p env s m args below meth c H locs la' C R h1 h2 (z_has_sub hl' z_set_in)
theorem z_s_istore {k : Nat} {x : Int} (hm : k < (z_hd y).2.2.1) (hd : decode (z_hd y).2.1 pc = .ok (.istore k, 2)) (h : z_X e ph d y Ni No (pc + 2) (z_set ls k (z_I x)) st N σ Q) : z_X e ph d y Ni No pc ls (z_I x :: st) N σ Q := by
  intro r1 r2 r3 p env s m args below meth c H locs la C R h1 h2 hl
  obtain ⟨hx, hb, -⟩ := id C
  obtain ⟨r4, r2⟩ := List.forall_mem_cons.mp r2
  exact lv_istore hx hb hd hl hm rfl fun la' hl' => h (z_rL_set r1 r4) r2 r3 p env s m args below meth c H locs la' C R h1 h2 (z_has_sub hl' z_set_in)
theorem z_s_lstore {k : Nat} {x : Int} (hm : k + 1 < (z_hd y).2.2.1) (hd : decode (z_hd y).2.1 pc = .ok (.lstore k, 2)) (h : z_X e ph d y Ni No (pc + 2) (z_clr (z_set ls k (z_J x)) (k + 1)) st N σ Q) : z_X e ph d y Ni No pc ls (z_J x :: st) N σ Q := by
  intro r1 r2 r3 p env s m args below meth c H locs la C R h1 h2 hl
  obtain ⟨hx, hb, -⟩ := id C
  obtain ⟨r4, r2⟩ := List.forall_mem_cons.mp r2
  exact lv_lstore hx hb hd hl hm rfl fun la' hl' => h (z_rL_clr (z_rL_set r1 r4)) r2 r3 p env s m args below meth c H locs la' C R h1 h2 (z_has_sub hl' z_set2_in)
theorem z_s_astore_n {k : Fin 4} {x : Int} (hm : (k : Nat) < (z_hd y).2.2.1) (hd : decode (z_hd y).2.1 pc = .ok (.astore_n k, 1)) (h : z_X e ph d y Ni No (pc + 1) (z_set ls k (z_R x)) st N σ Q) : z_X e ph d y Ni No pc ls (z_R x :: st) N σ Q := by
  intro r1 r2 r3 p env s m args below meth c H locs la C R h1 h2 hl
  obtain ⟨hx, hb, -⟩ := id C
  obtain ⟨r4, r2⟩ := List.forall_mem_cons.mp r2
  have hin := z_set_in (e := e) (ls := ls) (i := k) (v := z_R x)
  rw [List.map_cons]
  by_cases hx0 : x < 0
  · rw [z_vv_neg hx0] at hin ⊢
    exact lv_astore_nN hx hb hd rfl hl hm rfl fun la' hl' => h (z_rL_set r1 r4) r2 r3 p env s m args below meth c H locs la' C R h1 h2 (z_has_sub hl' hin)
  · rw [z_vv_pos hx0] at hin ⊢
    exact lv_astore_n hx hb hd rfl hl hm rfl fun la' hl' => h (z_rL_set r1 r4) r2 r3 p env s m args below meth c H locs la' C R h1 h2 (z_has_sub hl' hin)
theorem z_s_astore {k : Nat} {x : Int} (hm : k < (z_hd y).2.2.1) (hd : decode (z_hd y).2.1 pc = .ok (.astore k, 2)) (h : z_X e ph d y Ni No (pc + 2) (z_set ls k (z_R x)) st N σ Q) : z_X e ph d y Ni No pc ls (z_R x :: st) N σ Q := by
  intro r1 r2 r3 p env s m args below meth c H locs la C R h1 h2 hl
  obtain ⟨hx, hb, -⟩ := id C
  obtain ⟨r4, r2⟩ := List.forall_mem_cons.mp r2
  have hin := z_set_in (e := e) (ls := ls) (i := k) (v := z_R x)
  rw [List.map_cons]
  by_cases hx0 : x < 0
  · rw [z_vv_neg hx0] at hin ⊢
    exact lv_astoreN hx hb hd hl hm rfl fun la' hl' => h (z_rL_set r1 r4) r2 r3 p env s m args below meth c H locs la' C R h1 h2 (z_has_sub hl' hin)
  · rw [z_vv_pos hx0] at hin ⊢
    exact lv_astore hx hb hd hl hm rfl fun la' hl' => h (z_rL_set r1 r4) r2 r3 p env s m args below meth c H locs la' C R h1 h2 (z_has_sub hl' hin)
theorem z_s_iinc {k : Nat} {n x : Int} (hm : k < (z_hd y).2.2.1) (hi : z_nth ls k = some (z_I x)) (hd : decode (z_hd y).2.1 pc = .ok (.iinc k n, 3)) (h : z_X e ph d y Ni No (pc + 3) (z_set ls k (z_I (z_wr (x + n)))) st N σ Q) : z_X e ph d y Ni No pc ls st N σ Q := by
  intro r1 r2 r3 p env s m args below meth c H locs la C R h1 h2 hl
  obtain ⟨hx, hb, -⟩ := id C
  have hmem : (k, Value.int (Int32.ofInt x)) ∈ z_en e 0 ls := (z_en_mem e ls 0 k _).mpr ⟨k, _, by omega, z_nth_get ls k _ hi, rfl⟩
  obtain ⟨j, hj⟩ := List.getElem?_of_mem hmem
  have hin := z_set_in (e := e) (ls := ls) (i := k) (v := z_I (z_wr (x + n)))
  refine lv_iinc (v := Int32.ofInt (z_wr (x + n))) hx hb hd hl hj ?_ hm rfl fun la' hl' => h (z_rL_set r1 (z_wr_ir _)) r2 r3 p env s m args below meth c H locs la' C R h1 h2 (z_has_sub hl' hin)
  rw [z_of_wr, Int32.ofInt_add]
theorem z_s_goto {t : Nat} {off : Int} (ht : (pc : Int) + off = (t : Int)) (hd : decode (z_hd y).2.1 pc = .ok (.goto off, 3)) (h : z_X e ph d y Ni No t ls st N σ Q) : z_X e ph d y Ni No pc ls st N σ Q := by
  intro r1 r2 r3 p env s m args below meth c H locs la C R h1 h2 hl
  obtain ⟨hx, hb, -⟩ := id C
  exact lv_goto hx hb hd ht (h r1 r2 r3 p env s m args below meth c H locs la C R h1 h2 hl)
end ZI
