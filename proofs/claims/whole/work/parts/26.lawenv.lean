/-! the law: the environment at its entry, the step behind the constructors, calls -/
theorem z_gw_tbl {w : Cond} (h : w ∈ z_gw) : w ∈ lw_tbl := (List.mem_filter.mp h).1
theorem z_inst_w : ∀ (c : Nat) (q : vw_C), z_cl[c]? = some q → Cond.instantiable q.1 q.2.2 ∈ lw_tbl
  | 0, q, h => by cases h; exact z_gw_tbl (z_in_gw (p := 268) (by decide +kernel))
  | 1, q, h => by cases h; exact z_gw_tbl (z_in_gw (p := 152) (by decide +kernel))
  | 2, q, h => by cases h; exact z_gw_tbl (z_in_gw (p := 96) (by decide +kernel))
  | 3, q, h => by cases h; exact z_gw_tbl (z_in_gw (p := 261) (by decide +kernel))
  | 4, q, h => by cases h; exact z_gw_tbl (z_in_gw (p := 145) (by decide +kernel))
  | 5, q, h => by cases h; exact z_gw_tbl (z_in_gw (p := 102) (by decide +kernel))
  | 6, q, h => by cases h; exact z_gw_tbl (z_in_gw (p := 245) (by decide +kernel))
  | 7, q, h => by cases h; exact z_gw_tbl (z_in_gw (p := 86) (by decide +kernel))
  | 8, q, h => by cases h; exact z_gw_tbl (z_in_gw (p := 846) (by decide +kernel))
  | n + 9, q, h => by simp [z_cl] at h
theorem z_nw_tbl : ∀ w ∈ z_nw, w ∈ lw_tbl := by
  have h : ∀ (p : Nat) (w : Cond), decide (lw_tbl[p]? = some w) = true → w ∈ lw_tbl := fun p w h => List.mem_of_getElem? (of_decide_eq_true h)
  unfold z_nw
  exact List.forall_mem_cons.mpr ⟨h 97 _ (by decide +kernel), List.forall_mem_cons.mpr ⟨h 103 _ (by decide +kernel), List.forall_mem_cons.mpr ⟨h 153 _ (by decide +kernel), List.forall_mem_cons.mpr ⟨h 246 _ (by decide +kernel), List.forall_mem_cons.mpr ⟨h 269 _ (by decide +kernel), List.forall_mem_cons.mpr ⟨h 353 _ (by decide +kernel), List.forall_mem_cons.mpr ⟨h 686 _ (by decide +kernel), fun _ h => absurd h List.not_mem_nil⟩⟩⟩⟩⟩⟩⟩
theorem z_ao_tbl : ∀ C ∈ z_ao, Cond.arrayOver (.object C) ∈ lw_tbl := by
  have h : ∀ (p : Nat) (w : Cond), decide (lw_tbl[p]? = some w) = true → w ∈ lw_tbl := fun p w h => List.mem_of_getElem? (of_decide_eq_true h)
  unfold z_ao
  exact List.forall_mem_cons.mpr ⟨h 94 _ (by decide +kernel), List.forall_mem_cons.mpr ⟨h 352 _ (by decide +kernel), List.forall_mem_cons.mpr ⟨h 267 _ (by decide +kernel), List.forall_mem_cons.mpr ⟨h 151 _ (by decide +kernel), fun _ h => absurd h List.not_mem_nil⟩⟩⟩⟩
/-- the tables at the law's entry give an environment -/
theorem z_env (l : Launch) {s : State} {args : Array Value} (hts : ∀ w ∈ lw_tbl, w.before args s = true) : ∃ e : z_E, e.1 = l ∧ e.2.1 = s.heap ∧ z_KS e s := by
  have h1 : ∀ c : Nat, ∃ x : ClassId × (Nat → Nat), ∀ q, z_cl[c]? = some q → u_Kn s q.1 q.2.1 q.2.2 x.1 x.2 := by
    intro c
    cases hq : z_cl[c]? with
    | none => exact ⟨(0, fun _ => 0), fun q h => by cases h⟩
    | some q =>
      obtain ⟨cC, iS, hk⟩ := u_known (C := q.1) (T := q.2.1) (N := q.2.2) (n := q.2.2) (fun w hw => hts w (z_gw_tbl hw)) (z_cls c q hq).1 (hts _ (z_inst_w c q hq))
      exact ⟨(cC, iS), fun q' h => by cases h; exact hk⟩
  have hao : ∀ C ∈ z_ao, va_AO C s := fun C hC => va_AO.of (hts _ (z_ao_tbl C hC))
  have h2 : ∀ tag : Nat, ∃ cA : ClassId, ∀ ty, (match tag with | 1 => ty = FieldType.int | 2 => ty = .boolean | 3 => ty = .object "MemoByWeight$Text" | 4 => ty = .object "MemoByWeight$Run" | 5 => ty = .object "MemoByWeight$Frame" | 6 => ty = .object "MemoByWeight$Kept" | _ => False) → ArrOfT s cA ty ∧ va_RA s cA ty := by
    have ha : ∀ ty : FieldType, (∀ C, ty ≠ .object C) → Cond.arrayClass ty ∈ lw_tbl → ∃ cA : ClassId, ArrOfT s cA ty ∧ va_RA s cA ty := by
      intro ty hne hw
      obtain ⟨c, k, comp, f1, f2, f3⟩ := Cond.arrayClass_spec (hts _ hw)
      refine ⟨c, fun N z => ⟨(fun k h => by cases h), k, f2, comp, f3⟩, ?_⟩
      cases ty with
      | object C => exact absurd rfl (hne C)
      | _ => exact f1
    have ho : ∀ C ∈ z_ao, ∃ cA : ClassId, ArrOfT s cA (.object C) ∧ va_RA s cA (.object C) := by
      intro C hC
      obtain ⟨comp, c, k, f1, f2, f3, f4, f5⟩ := Cond.arrayOver_spec (va_AO.use (A := args) (hao C hC))
      exact ⟨c, fun N z => ⟨(fun k h => by cases h), k, f3, comp, f4⟩, k, comp, f3, f4, f1, f5⟩
    intro tag
    match tag with
    | 0 => exact ⟨0, fun ty h => h.elim⟩
    | 1 => obtain ⟨c, h⟩ := ha .int (fun C h => by cases h) (z_gw_tbl (z_in_gw (p := 121) (by decide +kernel))); exact ⟨c, fun ty q => by subst q; exact h⟩
    | 2 => obtain ⟨c, h⟩ := ha .boolean (fun C h => by cases h) (z_gw_tbl (z_in_gw (p := 1012) (by decide +kernel))); exact ⟨c, fun ty q => by subst q; exact h⟩
    | 3 => obtain ⟨c, h⟩ := ho "MemoByWeight$Text" (by decide +kernel); exact ⟨c, fun ty q => by subst q; exact h⟩
    | 4 => obtain ⟨c, h⟩ := ho "MemoByWeight$Run" (by decide +kernel); exact ⟨c, fun ty q => by subst q; exact h⟩
    | 5 => obtain ⟨c, h⟩ := ho "MemoByWeight$Frame" (by decide +kernel); exact ⟨c, fun ty q => by subst q; exact h⟩
    | 6 => obtain ⟨c, h⟩ := ho "MemoByWeight$Kept" (by decide +kernel); exact ⟨c, fun ty q => by subst q; exact h⟩
    | n + 7 => exact ⟨0, fun ty h => h.elim⟩
  refine ⟨(l, s.heap, (fun c => (Classical.choose (h1 c)).1, fun c => (Classical.choose (h1 c)).2), fun t => Classical.choose (h2 t)), rfl, rfl, ⟨fun c q hq => Classical.choose_spec (h1 c) q hq, fun k q hq => ?_⟩, fun w hw => va_tabs (A := args) (u := s) ?_ rfl (hts w (z_nw_tbl w hw)), hao⟩
  · match k, hq with
    | 0, hq => cases hq; exact Classical.choose_spec (h2 1) _ rfl
    | 1, hq => cases hq; exact Classical.choose_spec (h2 2) _ rfl
    | 2, hq => cases hq; exact Classical.choose_spec (h2 3) _ rfl
    | 3, hq => cases hq; exact Classical.choose_spec (h2 4) _ rfl
    | 4, hq => cases hq; exact Classical.choose_spec (h2 5) _ rfl
    | 5, hq => cases hq; exact Classical.choose_spec (h2 6) _ rfl
    | n + 6, hq => simp [z_tys] at hq
  · obtain ⟨a, i, x, hh, rfl⟩ := z_nw_form w hw
    rfl
theorem z_arrV_congr {c : ClassId} {n : Nat} {f g : Nat → Value} (h : ∀ j, j < n → f j = g j) : arrV c n f = arrV c n g := by
  have : (fun j : Fin n => f j.val) = fun j : Fin n => g j.val := funext fun j => h j.val j.isLt
  unfold arrV
  rw [this]
/-- behind the constructors -/
theorem z_phase {e : z_E} {σ : z_M} {H : Heap} {locs : List Loc} (hq : z_q 740 σ (fun _ _ => False)) (R : z_Rep e false 740 σ H locs) : z_Rep e true 740 σ H locs := by
  refine ⟨fun h => absurd h (by decide), fun k q hk => ?_, R.2.2⟩
  obtain ⟨hk1, rfl⟩ := z_wd_get' hk
  have hat := R.2.1 k _ (z_wd_get hk1)
  have hv : ∀ j : Nat, (j : Int) < z_nsl (z_knd (k : Int)) → σ (k : Int) (j : Int) = z_m0 (k : Int) (j : Int) := fun j hj => (hq k j (by omega) (by omega) (by omega) hj).2 id
  by_cases h1 : z_knd (k : Int) < 100000
  · have hce := fun ph => z_ce_obj (e := e) (ph := ph) (σ := σ) (k := k) rfl h1
    rw [hce] at hat ⊢
    rw [show (List.range (z_nf (z_knd (k : Int)))).map (fun j : Nat => z_fv e true (z_knd (k : Int)) j (k : Int) (σ (k : Int) (j : Int))) = (List.range (z_nf (z_knd (k : Int)))).map (fun j : Nat => z_fv e false (z_knd (k : Int)) j (k : Int) (σ (k : Int) (j : Int))) from ?_]
    · exact hat
    · refine List.map_congr_left fun j hj => ?_
      have hj := List.mem_range.mp hj
      have hs := hv j (by unfold z_nsl; rw [if_pos h1]; omega)
      unfold z_m0 z_m0k at hs
      rw [if_pos h1] at hs
      unfold z_fv
      by_cases h2 : z_ft (z_knd (k : Int)) j = 2
      · rw [show ((j : Int)).toNat = j by omega] at hs
        rw [h2]
        show va_rf (z_ad e (z_sr _ _ _)) = va_rf (z_ad e (σ _ _))
        rw [hs]
        have n1 : ¬ (z_knd (k : Int) = 5 ∧ (j : Int) = 5) := by
          rintro ⟨a, b⟩
          rw [a, show j = 5 by omega] at h2; revert h2; decide
        have n2 : ¬ (z_knd (k : Int) = 9 ∧ (j : Int) = 24) := by
          rintro ⟨a, b⟩
          rw [a, show j = 24 by omega] at h2; revert h2; decide
        have n3 : ¬ (z_knd (k : Int) = 9 ∧ (j : Int) = 30) := by
          rintro ⟨a, b⟩
          rw [a, show j = 30 by omega] at h2; revert h2; decide
        rw [if_neg n1, if_neg n2, if_neg n3, if_pos h2]
      · generalize z_ft (z_knd (k : Int)) j = t at h2
        match t, h2 with
        | 0, _ => rfl
        | 1, _ => rfl
        | 2, h2 => exact absurd rfl h2
        | n + 3, _ => rfl
  · by_cases h3 : z_knd (k : Int) < 300000
    · have hce : z_ce e true σ k = z_ce e false σ k := by
        unfold z_ce; rw [if_neg h1, if_pos h3, if_neg h1, if_pos h3]
      rw [hce]; exact hat
    · by_cases h6 : z_knd (k : Int) / 100000 = 6
      · have hce : z_ce e true σ k = z_ce e false σ k := by
          unfold z_ce; rw [if_neg h1, if_neg h3, if_neg h1, if_neg h3, h6]; rfl
        rw [hce]; exact hat
      · have hce := fun ph => z_ce_ref (e := e) (ph := ph) (σ := σ) (k := k) rfl (tag := z_knd (k : Int) / 100000) (n := z_knd (k : Int) % 100000) rfl rfl (by omega)
        rw [hce] at hat ⊢
        have hb : (z_knd (k : Int) / 100000 == 6) = false := by simp [h6]
        rw [hb] at hat ⊢
        refine Eq.trans hat (congrArg some ?_)
        rw [vp_cell_q, vp_cell_q]
        refine z_arrV_congr fun j hj => ?_
        have hs := hv j (by unfold z_nsl; rw [if_neg h1]; omega)
        unfold z_m0 z_m0k at hs
        rw [if_neg h1, if_neg h3, if_neg h6] at hs
        show va_rf (z_ad e (σ _ _)) = va_rf (z_ad e (z_sa _ _ _))
        rw [hs]
