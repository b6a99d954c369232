/-! the meaning of texts: a place, what is held, what was used, who was asked -/
abbrev z_St : Type := Int × List Int × Int × List Int
abbrev z_Or : Type := Int → Option (Int × Int × List Int)
def z_jn (op l r : Int) : Int := if op = 5 then l + r else if op = 6 then l - r else if op = 7 then l * r else if op = 8 then Int.tdiv l r else if op = 9 then (if l < r then 1 else 0) else (if l = r then 1 else 0)
def z_wk (t : z_M) (k op ar : Int) (h : List Int) : Option (Int × List Int) :=
  if op = 1 then some (ar, h) else if op = 2 then some (k % 101 - 50, h) else if op = 3 then some (t 702 ar, h) else
  match h with
  | [] => none
  | r :: h1 => if op = 11 then some (-r, h1) else match h1 with
    | [] => none
    | l :: h2 => if op = 8 ∧ r = 0 then none else some (z_jn op l r, h2)
def z_aj (a : List Int) (k : Int) : List Int := if k ∈ a then a else k :: a
def z_sq (t : z_M) (O : z_Or) (k op ar p : Int) (h : List Int) (u : Int) (a : List Int) : Option z_St :=
  if op = 13 then some (ar, h, u, a)
  else if op = 12 then (match h with
    | [] => none
    | v :: h1 => some (if v = 0 then ar else p + 2, h1, u, a))
  else if op = 4 then (match h with
    | [] => none
    | v :: h1 => if -50 ≤ v ∧ v ≤ 50 then (match O (101 * ar + v + 50) with
      | none => none
      | some w => some (p + 2, w.1 :: h1, z_or u w.2.1, z_aj a (101 * ar + v + 50))) else none)
  else match z_wk t k op ar h with
    | none => none
    | some w => if -9999 ≤ w.1 ∧ w.1 ≤ 9999 then some (p + 2, w.1 :: w.2, if op = 3 then z_or u (z_shl 1 ar) else u, a) else none
def z_sp (t : z_M) (O : z_Or) (k : Int) (x : z_St) : Option z_St :=
  if t 705 (k / 101) ≤ x.1 then some x else z_sq t O k (t 704 (400 * (k / 101) + x.1)) (t 704 (400 * (k / 101) + x.1 + 1)) x.1 x.2.1 x.2.2.1 x.2.2.2
def z_it (t : z_M) (O : z_Or) (k : Int) : Nat → Option z_St
  | 0 => some (0, [], z_shl 1 (12 + k / 101), [])
  | j + 1 => (z_it t O k j).bind (z_sp t O k)
def z_rz (t : z_M) (k : Int) (x : Option z_St) : Option (Int × Int × List Int) := match x with
  | some (p, v :: _, u, a) => if (0 ≤ k ∧ k < 1212) ∧ t 705 (k / 101) ≤ p then some (v, u, a) else none
  | _ => none
def z_ev (t : z_M) : Nat → z_Or
  | 0 => fun _ => none
  | n + 1 => fun k => z_rz t k (z_it t (z_ev t n) k n)
def z_OL (O O' : z_Or) : Prop := ∀ k w, O k = some w → O' k = some w
theorem z_sq_mono {t : z_M} {O O' : z_Or} {k op ar p u : Int} {h a : List Int} {y : z_St} (hO : z_OL O O') (e : z_sq t O k op ar p h u a = some y) : z_sq t O' k op ar p h u a = some y := by
  unfold z_sq at e ⊢
  by_cases h1 : op = 13
  · rw [if_pos h1] at e ⊢; exact e
  rw [if_neg h1] at e ⊢
  by_cases h2 : op = 12
  · rw [if_pos h2] at e ⊢; exact e
  rw [if_neg h2] at e ⊢
  by_cases h3 : op = 4
  · rw [if_pos h3] at e ⊢
    cases h with
    | nil => cases e
    | cons v hh =>
      dsimp only at e ⊢
      by_cases h4 : -50 ≤ v ∧ v ≤ 50
      · rw [if_pos h4] at e ⊢
        cases hw : O (101 * ar + v + 50) with
        | none => rw [hw] at e; cases e
        | some w => rw [hw] at e; rw [hO _ _ hw]; exact e
      · rw [if_neg h4] at e; cases e
  · rw [if_neg h3] at e ⊢; exact e
theorem z_sp_mono {t : z_M} {O O' : z_Or} {k : Int} {x y : z_St} (hO : z_OL O O') (e : z_sp t O k x = some y) : z_sp t O' k x = some y := by
  unfold z_sp at e ⊢
  by_cases hf : t 705 (k / 101) ≤ x.1
  · rw [if_pos hf] at e ⊢; exact e
  · rw [if_neg hf] at e ⊢; exact z_sq_mono hO e
theorem z_it_mono {t : z_M} {O O' : z_Or} {k : Int} (hO : z_OL O O') : ∀ (j : Nat) {x : z_St}, z_it t O k j = some x → z_it t O' k j = some x
  | 0, x, e => e
  | j + 1, x, e => by
    unfold z_it at e ⊢
    obtain ⟨y, h1, h2⟩ := Option.bind_eq_some_iff.mp e
    rw [z_it_mono hO j h1]
    exact z_sp_mono hO h2
theorem z_sp_fin {t : z_M} {O : z_Or} {k : Int} {x : z_St} (hf : t 705 (k / 101) ≤ x.1) : z_sp t O k x = some x := by
  unfold z_sp; rw [if_pos hf]
theorem z_it_fin {t : z_M} {O : z_Or} {k : Int} {j : Nat} {x : z_St} (e : z_it t O k j = some x) (hf : t 705 (k / 101) ≤ x.1) : ∀ i, z_it t O k (j + i) = some x
  | 0 => e
  | i + 1 => by
    show (z_it t O k (j + i)).bind _ = _
    rw [z_it_fin e hf i]
    exact z_sp_fin hf
theorem z_rz_sp {t : z_M} {k : Int} {x : Option z_St} {w : Int × Int × List Int} (e : z_rz t k x = some w) : (0 ≤ k ∧ k < 1212) ∧ ∃ p h, x = some (p, w.1 :: h, w.2.1, w.2.2) ∧ t 705 (k / 101) ≤ p := by
  unfold z_rz at e
  split at e
  · next p v h u a =>
    by_cases hf : (0 ≤ k ∧ k < 1212) ∧ t 705 (k / 101) ≤ p
    · rw [if_pos hf] at e; cases e; exact ⟨hf.1, p, h, rfl, hf.2⟩
    · rw [if_neg hf] at e; cases e
  · cases e
theorem z_rz_mk {t : z_M} {k p v u : Int} {h a : List Int} (hk : 0 ≤ k ∧ k < 1212) (hf : t 705 (k / 101) ≤ p) : z_rz t k (some (p, v :: h, u, a)) = some (v, u, a) := by
  unfold z_rz; exact if_pos ⟨hk, hf⟩
theorem z_ev_mono1 (t : z_M) : ∀ n, z_OL (z_ev t n) (z_ev t (n + 1))
  | 0, k, w, e => by cases e
  | n + 1, k, w, e => by
    obtain ⟨h0, p, h, h1, h2⟩ := z_rz_sp e
    have h3 := z_it_fin (z_it_mono (z_ev_mono1 t n) n h1) h2 1
    show z_rz t k (z_it t (z_ev t (n + 1)) k (n + 1)) = some w
    rw [h3]
    exact z_rz_mk h0 h2
theorem z_ev_mono (t : z_M) (n : Nat) : ∀ i, z_OL (z_ev t n) (z_ev t (n + i))
  | 0, k, w, e => e
  | i + 1, k, w, e => z_ev_mono1 t (n + i) k w (z_ev_mono t n i k w e)
theorem z_ev_le {t : z_M} {n m : Nat} (h : n ≤ m) : z_OL (z_ev t n) (z_ev t m) := by
  obtain ⟨i, rfl⟩ := Nat.exists_eq_add_of_le h
  exact z_ev_mono t n i
theorem z_ev_un {t : z_M} {n m : Nat} {k : Int} {w w' : Int × Int × List Int} (h : z_ev t n k = some w) (h' : z_ev t m k = some w') : w = w' := by
  have h1 := z_ev_le (t := t) (Nat.le_max_left n m) k w h
  have h2 := z_ev_le (t := t) (Nat.le_max_right n m) k w' h'
  rw [h1] at h2
  exact Option.some.inj h2
theorem z_ev_of {t : z_M} {n j : Nat} {k p v u : Int} {h a : List Int} (hk : 0 ≤ k ∧ k < 1212) (e : z_it t (z_ev t n) k j = some (p, v :: h, u, a)) (hf : t 705 (k / 101) ≤ p) : z_ev t (n + j + 1) k = some (v, u, a) := by
  show z_rz t k (z_it t (z_ev t (n + j)) k (n + j)) = _
  have h1 := z_it_fin (z_it_mono (z_ev_mono t n j) j e) hf n
  rw [Nat.add_comm n j] at h1 ⊢
  rw [h1]
  exact z_rz_mk hk hf
/-! texts that stand well -/
def z_nc (g : Int → Int) (b : Int) : Nat → Int
  | 0 => 0
  | n + 1 => z_nc g b n + (if g (b + 2 * (n : Int)) = 4 then 1 else 0)
theorem z_nc_mono {g : Int → Int} {b : Int} (n : Nat) : ∀ i, z_nc g b n ≤ z_nc g b (n + i)
  | 0 => Int.le_refl _
  | i + 1 => by
    have h := z_nc_mono (g := g) (b := b) n i
    show z_nc g b n ≤ z_nc g b (n + i) + (if g (b + 2 * ((n + i : Nat) : Int)) = 4 then 1 else 0)
    split <;> omega
theorem z_nc_le {g : Int → Int} {b : Int} {n m : Nat} (h : n ≤ m) : z_nc g b n ≤ z_nc g b m := by
  obtain ⟨i, rfl⟩ := Nat.exists_eq_add_of_le h
  exact z_nc_mono n i
def z_TO (t : z_M) (R : Int) (D : Int → Int) (p op ar : Int) : Prop :=
  (op = 1 ∧ 0 ≤ ar ∧ ar ≤ 99 ∧ D (p + 2) = D p + 1 ∧ D p ≤ 18) ∨ (op = 2 ∧ D (p + 2) = D p + 1 ∧ D p ≤ 18) ∨ (op = 3 ∧ 0 ≤ ar ∧ ar ≤ 11 ∧ D (p + 2) = D p + 1 ∧ D p ≤ 18) ∨
  (op = 4 ∧ 0 ≤ ar ∧ ar ≤ 11 ∧ 1 ≤ D p ∧ D (p + 2) = D p) ∨ (5 ≤ op ∧ op ≤ 10 ∧ 2 ≤ D p ∧ D (p + 2) = D p - 1) ∨ (op = 11 ∧ 1 ≤ D p ∧ D (p + 2) = D p) ∨
  (op = 12 ∧ 1 ≤ D p ∧ ar % 2 = 0 ∧ p + 2 < ar ∧ ar < t 705 R ∧ D (p + 2) = D p - 1 ∧ D ar = D p - 1 ∧ ¬ t 704 (400 * R + (p + 2)) = 13 ∧ ¬ t 704 (400 * R + ar) = 13) ∨
  (op = 13 ∧ ar % 2 = 0 ∧ p < ar ∧ ar ≤ t 705 R ∧ D ar = D p)
def z_TD (t : z_M) (R : Int) (D : Int → Int) : Prop := D 0 = 0 ∧ D (t 705 R) = 1 ∧ (∀ p, 0 ≤ p → p ≤ t 705 R → 0 ≤ D p ∧ D p ≤ 19) ∧ ∀ p, 0 ≤ p → p < t 705 R → p % 2 = 0 → z_TO t R D p (t 704 (400 * R + p)) (t 704 (400 * R + p + 1))
def z_TI (t : z_M) (R : Int) : Prop := 0 ≤ t 705 R ∧ t 705 R ≤ 200 ∧ t 705 R % 2 = 0 ∧ (¬ t 705 R = 0 → ¬ t 704 (400 * R) = 13 ∧ z_nc (t 704) (400 * R) (t 705 R / 2).toNat ≤ 25 ∧ ∃ D, z_TD t R D)
/-- all cells and texts stand well -/
def z_TT (t : z_M) : Prop := (∀ c, 0 ≤ c → c < 12 → -99 ≤ t 702 c ∧ t 702 c ≤ 99) ∧ ∀ R, 0 ≤ R → R < 12 → z_TI t R
def z_gd (t : z_M) (k : Int) (D : Int → Int) (x : z_St) : Prop := 0 ≤ x.1 ∧ x.1 ≤ t 705 (k / 101) ∧ x.1 % 2 = 0 ∧ (x.2.1.length : Int) = D x.1 ∧ (∀ v ∈ x.2.1, -9999 ≤ v ∧ v ≤ 9999) ∧ (x.2.2.2.length : Int) ≤ z_nc (t 704) (400 * (k / 101)) (x.1 / 2).toNat ∧ ∀ b ∈ x.2.2.2, 0 ≤ b ∧ b < 1212
def z_Og (O : z_Or) : Prop := ∀ k w, O k = some w → -9999 ≤ w.1 ∧ w.1 ≤ 9999
theorem z_wk_sp {t : z_M} {k op ar : Int} {h : List Int} {w : Int × List Int} (e : z_wk t k op ar h = some w) : ((op = 1 ∨ op = 2 ∨ op = 3) ∧ w.2 = h) ∨ (op = 11 ∧ ∃ r, h = r :: w.2) ∨ ((¬ op = 1 ∧ ¬ op = 2 ∧ ¬ op = 3 ∧ ¬ op = 11) ∧ ∃ r l, h = r :: l :: w.2) := by
  unfold z_wk at e
  by_cases h1 : op = 1
  · rw [if_pos h1] at e; cases e; exact Or.inl ⟨Or.inl h1, rfl⟩
  rw [if_neg h1] at e
  by_cases h2 : op = 2
  · rw [if_pos h2] at e; cases e; exact Or.inl ⟨Or.inr (Or.inl h2), rfl⟩
  rw [if_neg h2] at e
  by_cases h3 : op = 3
  · rw [if_pos h3] at e; cases e; exact Or.inl ⟨Or.inr (Or.inr h3), rfl⟩
  rw [if_neg h3] at e
  cases h with
  | nil => cases e
  | cons r h =>
    dsimp only at e
    by_cases h4 : op = 11
    · rw [if_pos h4] at e; cases e; exact Or.inr (Or.inl ⟨h4, r, rfl⟩)
    rw [if_neg h4] at e
    cases h with
    | nil => cases e
    | cons l h =>
      dsimp only at e
      split at e
      · cases e
      · cases e; exact Or.inr (Or.inr ⟨⟨h1, h2, h3, h4⟩, r, l, rfl⟩)
theorem z_aj_len (a : List Int) (k : Int) : (z_aj a k).length ≤ a.length + 1 := by
  unfold z_aj; split <;> simp
theorem z_aj_mem {a : List Int} {k b : Int} (h : b ∈ z_aj a k) : b = k ∨ b ∈ a := by
  unfold z_aj at h
  split at h
  · exact Or.inr h
  · exact List.mem_cons.mp h
/-- what a step does, case by case -/
theorem z_sq_cs {t : z_M} {O : z_Or} {k op ar p u : Int} {h a : List Int} {y : z_St} (e : z_sq t O k op ar p h u a = some y) :
    (op = 13 ∧ y = (ar, h, u, a)) ∨ (op = 12 ∧ ∃ v h1, h = v :: h1 ∧ y = (if v = 0 then ar else p + 2, h1, u, a)) ∨
    (op = 4 ∧ ∃ v h1 w, h = v :: h1 ∧ (-50 ≤ v ∧ v ≤ 50) ∧ O (101 * ar + v + 50) = some w ∧ y = (p + 2, w.1 :: h1, z_or u w.2.1, z_aj a (101 * ar + v + 50))) ∨
    ((¬ op = 13 ∧ ¬ op = 12 ∧ ¬ op = 4) ∧ ∃ w, z_wk t k op ar h = some w ∧ (-9999 ≤ w.1 ∧ w.1 ≤ 9999) ∧ y = (p + 2, w.1 :: w.2, if op = 3 then z_or u (z_shl 1 ar) else u, a)) := by
  unfold z_sq at e
  by_cases h1 : op = 13
  · rw [if_pos h1] at e; exact Or.inl ⟨h1, (Option.some.inj e).symm⟩
  rw [if_neg h1] at e
  by_cases h2 : op = 12
  · rw [if_pos h2] at e
    cases h with
    | nil => cases e
    | cons v h => exact Or.inr (Or.inl ⟨h2, v, h, rfl, (Option.some.inj e).symm⟩)
  rw [if_neg h2] at e
  by_cases h3 : op = 4
  · rw [if_pos h3] at e
    cases h with
    | nil => cases e
    | cons v h =>
      dsimp only at e
      by_cases h4 : -50 ≤ v ∧ v ≤ 50
      · rw [if_pos h4] at e
        cases hw : O (101 * ar + v + 50) with
        | none => rw [hw] at e; cases e
        | some w => rw [hw] at e; exact Or.inr (Or.inr (Or.inl ⟨h3, v, h, w, rfl, h4, hw, (Option.some.inj e).symm⟩))
      · rw [if_neg h4] at e; cases e
  rw [if_neg h3] at e
  refine Or.inr (Or.inr (Or.inr ⟨⟨h1, h2, h3⟩, ?_⟩))
  cases hw : z_wk t k op ar h with
  | none => rw [hw] at e; cases e
  | some w =>
    rw [hw] at e
    dsimp only at e
    split at e
    · next h5 => exact ⟨w, rfl, h5, (Option.some.inj e).symm⟩
    · cases e
theorem z_gd_sp {t : z_M} {O : z_Or} {k : Int} {D : Int → Int} {x y : z_St} (hE : t 705 (k / 101) % 2 = 0) (hD : z_TD t (k / 101) D) (hO : z_Og O) (g : z_gd t k D x) (e : z_sp t O k x = some y) : z_gd t k D y := by
  unfold z_sp at e
  by_cases hf : t 705 (k / 101) ≤ x.1
  · rw [if_pos hf] at e; cases e; exact g
  rw [if_neg hf] at e
  obtain ⟨p, h, u, a⟩ := x
  obtain ⟨g1, g2, g3, g4, g5, g6, g7⟩ := g
  dsimp only at g1 g2 g3 g4 g5 g6 g7 hf e
  have hT := hD.2.2.2 p g1 (by omega) g3
  have hp2 : ((p + 2) / 2).toNat = (p / 2).toNat + 1 := by omega
  have hn2 : z_nc (t 704) (400 * (k / 101)) (p / 2).toNat ≤ z_nc (t 704) (400 * (k / 101)) ((p + 2) / 2).toNat := z_nc_le (by omega)
  have hn4 : t 704 (400 * (k / 101) + p) = 4 → z_nc (t 704) (400 * (k / 101)) ((p + 2) / 2).toNat = z_nc (t 704) (400 * (k / 101)) (p / 2).toNat + 1 := fun q => by
    rw [hp2]
    show _ + (if t 704 (400 * (k / 101) + 2 * (((p / 2).toNat : Nat) : Int)) = 4 then (1 : Int) else 0) = _
    rw [show 400 * (k / 101) + 2 * (((p / 2).toNat : Nat) : Int) = 400 * (k / 101) + p by omega, if_pos q]
  have hnl : ∀ q : Int, p ≤ q → z_nc (t 704) (400 * (k / 101)) (p / 2).toNat ≤ z_nc (t 704) (400 * (k / 101)) (q / 2).toNat := fun q hq => z_nc_le (by omega)
  generalize t 704 (400 * (k / 101) + p) = op at e hT hn4
  generalize t 704 (400 * (k / 101) + p + 1) = ar at e hT
  unfold z_TO at hT
  rcases z_sq_cs e with ⟨q, rfl⟩ | ⟨q, v, h1, rfl, rfl⟩ | ⟨q, v, h1, w, rfl, q2, q3, rfl⟩ | ⟨q, w, q1, q2, rfl⟩
  · have har : ar % 2 = 0 ∧ p < ar ∧ ar ≤ t 705 (k / 101) ∧ D ar = D p := by omega
    refine ⟨by dsimp only; omega, by dsimp only; omega, har.1, by dsimp only; omega, g5, ?_, g7⟩
    exact Int.le_trans g6 (hnl ar (by omega))
  · have hq : (D p ≥ 1) ∧ ar % 2 = 0 ∧ p + 2 < ar ∧ ar < t 705 (k / 101) ∧ D (p + 2) = D p - 1 ∧ D ar = D p - 1 := by omega
    rw [List.length_cons] at g4
    have hl : ∀ z : Int, (z = ar ∨ z = p + 2) → z_gd t k D (z, h1, u, a) := fun z hz => by
      refine ⟨by dsimp only; omega, by dsimp only; omega, by dsimp only; omega, ?_, fun v hv => g5 v (List.mem_cons_of_mem _ hv), Int.le_trans g6 (hnl z (by omega)), g7⟩
      dsimp only
      rcases hz with rfl | rfl <;> omega
    by_cases hv : v = 0
    · rw [if_pos hv]; exact hl ar (Or.inl rfl)
    · rw [if_neg hv]; exact hl _ (Or.inr rfl)
  · have hq : 0 ≤ ar ∧ ar ≤ 11 ∧ 1 ≤ D p ∧ D (p + 2) = D p := by omega
    rw [List.length_cons] at g4
    have hw := hO _ _ q3
    have hal := z_aj_len a (101 * ar + v + 50)
    have hn5 := hn4 q
    refine ⟨by dsimp only; omega, by dsimp only; omega, by dsimp only; omega, by dsimp only; rw [List.length_cons]; omega, fun z hz => ?_, by dsimp only; omega, fun z hz => ?_⟩
    · rcases List.mem_cons.mp hz with rfl | hz
      · exact hw
      · exact g5 z (List.mem_cons_of_mem _ hz)
    · rcases z_aj_mem hz with rfl | hz
      · omega
      · exact g7 z hz
  · refine ⟨by dsimp only; omega, by dsimp only; omega, by dsimp only; omega, ?_, ?_, by dsimp only; omega, g7⟩
    · rcases z_wk_sp q1 with ⟨k1, k2⟩ | ⟨k1, r, k2⟩ | ⟨k1, r, l, k2⟩
      · rw [k2]; dsimp only; rw [List.length_cons]; omega
      · rw [k2, List.length_cons] at g4; dsimp only; rw [List.length_cons]; omega
      · rw [k2, List.length_cons, List.length_cons] at g4; dsimp only; rw [List.length_cons]; omega
    · intro z hz
      rcases List.mem_cons.mp hz with rfl | hz
      · exact q2
      · rcases z_wk_sp q1 with ⟨k1, k2⟩ | ⟨k1, r, k2⟩ | ⟨k1, r, l, k2⟩
        · rw [k2] at hz; exact g5 z hz
        · rw [k2] at g5; exact g5 z (List.mem_cons_of_mem _ hz)
        · rw [k2] at g5; exact g5 z (List.mem_cons_of_mem _ (List.mem_cons_of_mem _ hz))
theorem z_gd_it {t : z_M} {O : z_Or} {k : Int} {D : Int → Int} (hT : 0 ≤ t 705 (k / 101)) (hE : t 705 (k / 101) % 2 = 0) (hD : z_TD t (k / 101) D) (hO : z_Og O) : ∀ (j : Nat) {x : z_St}, z_it t O k j = some x → z_gd t k D x
  | 0, x, e => by
    cases e
    exact ⟨Int.le_refl _, hT, rfl, (by show (0 : Int) = D 0; rw [hD.1]), fun v hv => (by cases hv), (by show (0 : Int) ≤ z_nc _ _ 0; exact Int.le_refl _), fun v hv => (by cases hv)⟩
  | j + 1, x, e => by
    obtain ⟨y, h1, h2⟩ := Option.bind_eq_some_iff.mp e
    exact z_gd_sp hE hD hO (z_gd_it hT hE hD hO j h1) h2
/-- a text that isn't there gives nothing -/
theorem z_it_no {t : z_M} {O : z_Or} {k : Int} (h : t 705 (k / 101) = 0) : ∀ (j : Nat), z_it t O k j = some (0, [], z_shl 1 (12 + k / 101), [])
  | 0 => rfl
  | j + 1 => by
    show (z_it t O k j).bind _ = _
    rw [z_it_no h j]
    exact z_sp_fin (by rw [h]; exact Int.le_refl _)
theorem z_kr {k : Int} (h0 : 0 ≤ k) (h1 : k < 1212) : 0 ≤ k / 101 ∧ k / 101 < 12 := by omega
/-- an answer of the meaning is in range -/
theorem z_ev_gd {t : z_M} (hT : z_TT t) : ∀ n, z_Og (z_ev t n)
  | 0, k, w, e => by cases e
  | n + 1, k, w, e => by
    obtain ⟨h0, p, h, h1, h2⟩ := z_rz_sp e
    obtain ⟨k0, k1⟩ := z_kr h0.1 h0.2
    obtain ⟨a1, a2, a3, a4⟩ := hT.2 _ k0 k1
    by_cases hz : t 705 (k / 101) = 0
    · rw [z_it_no hz] at h1; cases h1
    · obtain ⟨-, -, D, hD⟩ := a4 hz
      exact (z_gd_it a1 a3 hD (z_ev_gd hT n) n h1).2.2.2.2.1 _ List.mem_cons_self
/-! a change leaves what didn't use it -/
theorem z_sp_used {t : z_M} {O : z_Or} {k : Int} {x y : z_St} {i : Nat} (e : z_sp t O k x = some y) (h : z_bb x.2.2.1 i = true) : z_bb y.2.2.1 i = true := by
  unfold z_sp at e
  by_cases hf : t 705 (k / 101) ≤ x.1
  · rw [if_pos hf] at e; cases e; exact h
  rw [if_neg hf] at e
  rcases z_sq_cs e with ⟨q, rfl⟩ | ⟨q, v, h1, q1, rfl⟩ | ⟨q, v, h1, w, q1, q2, q3, rfl⟩ | ⟨q, w, q1, q2, rfl⟩
  · exact h
  · exact h
  · dsimp only; rw [z_bb_or, h]; rfl
  · dsimp only
    split
    · rw [z_bb_or, h]; rfl
    · exact h
theorem z_it_own {t : z_M} {O : z_Or} {k : Int} (h0 : 0 ≤ k) (h1 : k < 1212) : ∀ (j : Nat) {x : z_St}, z_it t O k j = some x → z_bb x.2.2.1 (12 + k / 101).toNat = true
  | 0, x, e => by
    cases e
    show z_bb (z_shl 1 (12 + k / 101)) _ = true
    rw [z_bb_sh (by omega) (by omega) (by omega)]
    exact decide_eq_true rfl
  | j + 1, x, e => by
    obtain ⟨y, e1, e2⟩ := Option.bind_eq_some_iff.mp e
    exact z_sp_used e2 (z_it_own h0 h1 j e1)
/-- two memories agree on cells and texts, but for the one of a bit -/
def z_ag (t t' : z_M) (b : Int) : Prop := (∀ c, 0 ≤ c → c < 12 → ¬ c = b → t' 702 c = t 702 c) ∧ ∀ R, 0 ≤ R → R < 12 → ¬ 12 + R = b → t' 705 R = t 705 R ∧ ∀ p, 0 ≤ p → p < 400 → t' 704 (400 * R + p) = t 704 (400 * R + p)
theorem z_wk_ag {t t' : z_M} {k op ar : Int} {h : List Int} (hc : op = 3 → t' 702 ar = t 702 ar) : z_wk t' k op ar h = z_wk t k op ar h := by
  unfold z_wk
  by_cases h3 : op = 3
  · rw [hc h3]
  · simp only [if_neg h3]
theorem z_sp_ag {t t' : z_M} {O O' : z_Or} {k b : Int} {x y : z_St} (hT : z_TT t) (ha : z_ag t t' b) (hb : 0 ≤ b) (hb1 : b < 24) (h0 : 0 ≤ k) (h1 : k < 1212) (hO : ∀ k w, 0 ≤ k → k < 1212 → O k = some w → z_bb w.2.1 b.toNat = false → O' k = some w) (hx : 0 ≤ x.1) (hx2 : x.1 % 2 = 0) (hown : z_bb x.2.2.1 (12 + k / 101).toNat = true) (e : z_sp t O k x = some y) (hy : z_bb y.2.2.1 b.toNat = false) : z_sp t' O' k x = some y := by
  have hR : ¬ 12 + k / 101 = b := fun q => by
    rw [q] at hown
    rw [z_sp_used e hown] at hy; cases hy
  obtain ⟨e1, e2⟩ := ha.2 (k / 101) (by omega) (by omega) hR
  obtain ⟨t1, t2, t3, t4⟩ := hT.2 (k / 101) (by omega) (by omega)
  unfold z_sp at e ⊢
  rw [e1]
  by_cases hf : t 705 (k / 101) ≤ x.1
  · rw [if_pos hf] at e ⊢; exact e
  rw [if_neg hf] at e ⊢
  obtain ⟨-, -, D, hD⟩ := t4 (by omega)
  have hTO := hD.2.2.2 x.1 hx (by omega) hx2
  rw [e2 _ hx (by omega), show 400 * (k / 101) + x.1 + 1 = 400 * (k / 101) + (x.1 + 1) by omega, e2 (x.1 + 1) (by omega) (by omega), show 400 * (k / 101) + (x.1 + 1) = 400 * (k / 101) + x.1 + 1 by omega]
  generalize t 704 (400 * (k / 101) + x.1) = op at e hTO ⊢
  generalize t 704 (400 * (k / 101) + x.1 + 1) = ar at e hTO ⊢
  unfold z_TO at hTO
  have e' := e
  rcases z_sq_cs e with ⟨q, rfl⟩ | ⟨q, v, h1, q1, rfl⟩ | ⟨q, v, h1, w, q1, q2, q3, rfl⟩ | ⟨q, w, q1, q2, rfl⟩
  · unfold z_sq; rw [if_pos q]
  · unfold z_sq; rw [if_neg (by omega), if_pos q, q1]
  · dsimp only at hy
    rw [z_bb_or, Bool.or_eq_false_iff] at hy
    have := hO (101 * ar + v + 50) w (by omega) (by omega) q3 hy.2
    unfold z_sq
    rw [if_neg (by omega), if_neg (by omega), if_pos q, q1]
    dsimp only
    rw [if_pos q2, this]
  · unfold z_sq
    rw [if_neg q.1, if_neg q.2.1, if_neg q.2.2, z_wk_ag (t := t) (t' := t') (fun h3 => ?_), q1]
    · dsimp only
      rw [if_pos q2]
    · dsimp only at hy
      rw [if_pos h3, z_bb_or, Bool.or_eq_false_iff] at hy
      refine ha.1 ar (by omega) (by omega) (fun q => ?_)
      rw [q, z_bb_sh hb (by omega) (by omega)] at hy
      simp at hy
theorem z_bb_back {t : z_M} {O : z_Or} {k : Int} {x y : z_St} {i : Nat} (e : z_sp t O k x = some y) (h : z_bb y.2.2.1 i = false) : z_bb x.2.2.1 i = false := by
  cases hb : z_bb x.2.2.1 i with
  | false => rfl
  | true => rw [z_sp_used e hb] at h; cases h
theorem z_it_0 (t : z_M) (O : z_Or) (k : Int) : z_it t O k 0 = some (0, [], z_shl 1 (12 + k / 101), []) := rfl
theorem z_it_pl {t : z_M} (hT : z_TT t) {n j : Nat} {k : Int} {y : z_St} (h0 : 0 ≤ k) (h1 : k < 1212) (e1 : z_it t (z_ev t n) k j = some y) : 0 ≤ y.1 ∧ y.1 % 2 = 0 := by
  obtain ⟨k0, k1⟩ := z_kr h0 h1
  obtain ⟨a1, a2, a3, a4⟩ := hT.2 _ k0 k1
  by_cases hz : t 705 (k / 101) = 0
  · rw [z_it_no hz] at e1
    have e2 := Option.some.inj e1
    rw [← e2]
    exact ⟨Int.le_refl _, rfl⟩
  · obtain ⟨-, -, D, hD⟩ := a4 hz
    have := z_gd_it a1 a3 hD (z_ev_gd hT n) j e1
    exact ⟨this.1, this.2.2.1⟩
theorem z_it_ag {t t' : z_M} {b : Int} (hT : z_TT t) (ha : z_ag t t' b) (hb : 0 ≤ b) (hb1 : b < 24) (n : Nat) (hO : ∀ k w, 0 ≤ k → k < 1212 → z_ev t n k = some w → z_bb w.2.1 b.toNat = false → z_ev t' n k = some w) {k : Int} (h0 : 0 ≤ k) (h1 : k < 1212) (j : Nat) : ∀ {x : z_St}, z_it t (z_ev t n) k j = some x → z_bb x.2.2.1 b.toNat = false → z_it t' (z_ev t' n) k j = some x := by
  induction j with
  | zero =>
    intro x e _
    rw [z_it_0] at e ⊢
    exact e
  | succ j ih =>
    intro x e h
    obtain ⟨y, e1, e2⟩ := Option.bind_eq_some_iff.mp e
    show (z_it t' (z_ev t' n) k j).bind _ = _
    rw [ih e1 (z_bb_back e2 h)]
    have hown := z_it_own h0 h1 j e1
    have hg := z_it_pl hT h0 h1 e1
    exact z_sp_ag hT ha hb hb1 h0 h1 hO hg.1 hg.2 hown e2 h
theorem z_ev_ag {t t' : z_M} {b : Int} (hT : z_TT t) (ha : z_ag t t' b) (hb : 0 ≤ b) (hb1 : b < 24) (n : Nat) : ∀ (k : Int) (w : Int × Int × List Int), 0 ≤ k → k < 1212 → z_ev t n k = some w → z_bb w.2.1 b.toNat = false → z_ev t' n k = some w := by
  induction n with
  | zero => intro k w h0 h1 e; cases e
  | succ n ih =>
    intro k w h0 h1 e h
    obtain ⟨-, p, hh, e1, e2⟩ := z_rz_sp e
    have hi := z_it_ag hT ha hb hb1 n ih h0 h1 n e1 h
    have hown := z_it_own h0 h1 n e1
    have hR : ¬ 12 + k / 101 = b := fun q => by
      rw [q] at hown
      rw [show z_bb w.2.1 b.toNat = true from hown] at h; cases h
    show z_rz t' k (z_it t' (z_ev t' n) k n) = some w
    rw [hi]
    exact z_rz_mk ⟨h0, h1⟩ (by rw [(ha.2 _ (by omega) (by omega) hR).1]; exact e2)
/-- whom a key asks lies below it -/
theorem z_it_asks {t : z_M} {O : z_Or} {k : Int} : ∀ (j : Nat) {x : z_St}, z_it t O k j = some x → ∀ b ∈ x.2.2.2, ∃ w, O b = some w
  | 0, x, e => by cases e; intro b hb; cases hb
  | j + 1, x, e => by
    obtain ⟨y, e1, e2⟩ := Option.bind_eq_some_iff.mp e
    have ih := z_it_asks j e1
    unfold z_sp at e2
    by_cases hf : t 705 (k / 101) ≤ y.1
    · rw [if_pos hf] at e2; cases e2; exact ih
    rw [if_neg hf] at e2
    rcases z_sq_cs e2 with ⟨q, rfl⟩ | ⟨q, v, h1, q1, rfl⟩ | ⟨q, v, h1, w, q1, q2, q3, rfl⟩ | ⟨q, w, q1, q2, rfl⟩
    · exact ih
    · exact ih
    · intro b hb
      rcases z_aj_mem hb with rfl | hb
      · exact ⟨w, q3⟩
      · exact ih b hb
    · exact ih
theorem z_ev_asks {t : z_M} {n : Nat} {k : Int} {w : Int × Int × List Int} (e : z_ev t (n + 1) k = some w) : ∀ b ∈ w.2.2, ∃ w', z_ev t n b = some w' := by
  obtain ⟨-, p, h, h1, h2⟩ := z_rz_sp e
  exact z_it_asks n h1
/-- memories that agree on cells and texts mean the same -/
theorem z_it_eq {t t' : z_M} (hc : t' 702 = t 702) (h4 : t' 704 = t 704) (h5 : t' 705 = t 705) (O : z_Or) (k : Int) : ∀ j, z_it t' O k j = z_it t O k j
  | 0 => rfl
  | j + 1 => by
    show (z_it t' O k j).bind _ = (z_it t O k j).bind _
    rw [z_it_eq hc h4 h5 O k j]
    congr 1
    funext x
    unfold z_sp z_sq z_wk
    rw [hc, h4, h5]
theorem z_ev_eq {t t' : z_M} (hc : t' 702 = t 702) (h4 : t' 704 = t 704) (h5 : t' 705 = t 705) : ∀ n, z_ev t' n = z_ev t n
  | 0 => rfl
  | n + 1 => by
    funext k
    show z_rz t' k (z_it t' (z_ev t' n) k n) = z_rz t k (z_it t (z_ev t n) k n)
    rw [z_ev_eq hc h4 h5 n, z_it_eq hc h4 h5]
    unfold z_rz
    rw [h5]
