/-! arrays, new cells -/
section ZR
variable {e : z_E} {ph : Bool} {d y Ni No pc N : Nat} {ls : List (Option z_V)} {st : List z_V} {σ : z_M} {Q : Int → z_M → Prop}
theorem z_P_set {σ' : z_M} {k : Nat} {H H1 : Heap} (hP : va_P e.2.2.1 z_cl (z_wd e ph σ N) H) (hat : k < N → va_at e.2.2.1 z_cl (e.2.1.size + k, z_ce e ph σ' k) H1) (oq : ∀ q, q ≠ e.2.1.size + k → H1[q]? = H[q]?) (ho : ∀ k', k' < N → k' ≠ k → z_ce e ph σ' k' = z_ce e ph σ k') : va_P e.2.2.1 z_cl (z_wd e ph σ' N) H1 := by
  intro k' q hq
  obtain ⟨h1, rfl⟩ := z_wd_get' hq
  by_cases hk : k' = k
  · subst hk; exact hat h1
  · rw [ho k' h1 hk]
    exact (hP k' _ (z_wd_get h1)).kept (oq _ (by show e.2.1.size + k' ≠ _; omega))
theorem z_vpin {i : Int} {n : Nat} (hi : z_ir i) (h0 : 0 ≤ i) (h1 : i < (n : Int)) : vp_in (Int32.ofInt i) n := by
  unfold vp_in
  rw [z_nat hi, z_zero, z_lt hi z_ir0]
  omega
theorem z_s_iald {kd n : Nat} {x i : Int} (ht : kd / 100000 = 1) (hn : kd % 100000 = n) (hok : z_ok N kd x = true) (hi0 : 0 ≤ i) (hi1 : i < (n : Int)) (hd : decode (z_hd y).2.1 pc = .ok (.iaload, 1))
    (h : z_X e ph d y Ni No (pc + 1) ls (z_I (σ x i) :: st) N σ Q) : z_X e ph d y Ni No pc ls (z_I i :: z_R x :: st) N σ Q := by
  intro r1 r2 r3 p env s m args below meth c H locs la C R h1 h2 hl
  obtain ⟨hx, hb, -, -, hown, hts, -, -, hKS⟩ := id C
  obtain ⟨ri, r2⟩ := List.forall_mem_cons.mp r2
  obtain ⟨-, r2⟩ := List.forall_mem_cons.mp r2
  obtain ⟨g0, g1, g2, g3⟩ := z_ok_sp hok
  have hk := h r1 (List.forall_mem_cons.mpr ⟨r3 x i, r2⟩) r3 p env s m args below meth c H locs la C R h1 h2 hl
  rw [List.map_cons] at hk
  rw [List.map_cons, List.map_cons, z_vv_pos (by omega)]
  have he := z_wd_get (e := e) (ph := ph) (σ := σ) g1
  rw [z_ce_arr (kd := kd) (by rw [g2]; exact g3) ht hn (Or.inl rfl), g2] at he
  refine va_iald hx hb hKS.1 R.2.1 x.toNat 0 he rfl (z_vpin ri hi0 hi1) hd ?_
  rw [z_nat ri, show ((i.toNat : Nat) : Int) = i by omega]
  exact hk
theorem z_s_zald {kd n : Nat} {x i : Int} (ht : kd / 100000 = 2) (hn : kd % 100000 = n) (hok : z_ok N kd x = true) (hi0 : 0 ≤ i) (hi1 : i < (n : Int)) (hd : decode (z_hd y).2.1 pc = .ok (.baload, 1))
    (h : z_X e ph d y Ni No (pc + 1) ls (z_I (σ x i) :: st) N σ Q) : z_X e ph d y Ni No pc ls (z_I i :: z_R x :: st) N σ Q := by
  intro r1 r2 r3 p env s m args below meth c H locs la C R h1 h2 hl
  obtain ⟨hx, hb, -, -, hown, hts, -, -, hKS⟩ := id C
  obtain ⟨ri, r2⟩ := List.forall_mem_cons.mp r2
  obtain ⟨-, r2⟩ := List.forall_mem_cons.mp r2
  obtain ⟨g0, g1, g2, g3⟩ := z_ok_sp hok
  have hk := h r1 (List.forall_mem_cons.mpr ⟨r3 x i, r2⟩) r3 p env s m args below meth c H locs la C R h1 h2 hl
  rw [List.map_cons] at hk
  rw [List.map_cons, List.map_cons, z_vv_pos (by omega)]
  have he := z_wd_get (e := e) (ph := ph) (σ := σ) g1
  rw [z_ce_arr (kd := kd) (by rw [g2]; exact g3) ht hn (Or.inr rfl), g2] at he
  refine va_zald hx hb hKS.1 R.2.1 x.toNat 1 he rfl (z_vpin ri hi0 hi1) hd ?_
  rw [z_nat ri, show ((i.toNat : Nat) : Int) = i by omega]
  exact hk
/-- what an array of references holds -/
def z_ar (ph : Bool) (tag : Nat) (x i : Int) (σ : z_M) : Int := cond (ph && !(tag == 6)) (z_sa tag x i) (σ x i)
def z_aty (tag : Nat) : String := match tag with
  | 3 => "MemoByWeight$Text"
  | 4 => "MemoByWeight$Run"
  | 5 => "MemoByWeight$Frame"
  | _ => "MemoByWeight$Kept"
theorem z_s_aald {kd n tag : Nat} {x i : Int} (ht : kd / 100000 = tag) (h3 : 3 ≤ tag ∧ tag ≤ 6) (hn : kd % 100000 = n) (hok : z_ok N kd x = true) (hi0 : 0 ≤ i) (hi1 : i < (n : Int)) (hd : decode (z_hd y).2.1 pc = .ok (.aaload, 1))
    (h : z_X e ph d y Ni No (pc + 1) ls (z_R (z_ar ph tag x i σ) :: st) N σ Q) : z_X e ph d y Ni No pc ls (z_I i :: z_R x :: st) N σ Q := by
  intro r1 r2 r3 p env s m args below meth c H locs la C R h1 h2 hl
  obtain ⟨hx, hb, -, -, hown, hts, -, -, hKS⟩ := id C
  obtain ⟨ri, r2⟩ := List.forall_mem_cons.mp r2
  obtain ⟨-, r2⟩ := List.forall_mem_cons.mp r2
  obtain ⟨g0, g1, g2, g3⟩ := z_ok_sp hok
  have hk := h r1 (List.forall_mem_cons.mpr ⟨trivial, r2⟩) r3 p env s m args below meth c H locs la C R h1 h2 hl
  rw [List.map_cons] at hk
  rw [List.map_cons, List.map_cons, z_vv_pos (by omega)]
  have he := z_wd_get (e := e) (ph := ph) (σ := σ) g1
  rw [z_ce_ref (kd := kd) (by rw [g2]; exact g3) ht hn h3.1, g2] at he
  have hty : ∃ C, (z_tys e)[tag - 1]? = some (e.2.2.2 tag, .object C) := by
    obtain ⟨a, b⟩ := h3
    rcases (show tag = 3 ∨ tag = 4 ∨ tag = 5 ∨ tag = 6 by omega) with rfl | rfl | rfl | rfl <;> exact ⟨_, rfl⟩
  obtain ⟨C0, hty⟩ := hty
  refine va_aldq hx hb hKS.1 R.2.1 x.toNat (tag - 1) he hty (z_vpin ri hi0 hi1) hd ?_
  rw [z_nat ri, show ((i.toNat : Nat) : Int) = i by omega]
  exact hk
theorem z_s_alen {kd n tag : Nat} {x : Int} (ht : kd / 100000 = tag) (h3 : 1 ≤ tag ∧ tag ≤ 6) (hn : kd % 100000 = n) (hok : z_ok N kd x = true) (hd : decode (z_hd y).2.1 pc = .ok (.arraylength, 1))
    (h : z_X e ph d y Ni No (pc + 1) ls (z_I (n : Int) :: st) N σ Q) : z_X e ph d y Ni No pc ls (z_R x :: st) N σ Q := by
  intro r1 r2 r3 p env s m args below meth c H locs la C R h1 h2 hl
  obtain ⟨hx, hb, -, -, hown, hts, -, -, hKS⟩ := id C
  obtain ⟨-, r2⟩ := List.forall_mem_cons.mp r2
  obtain ⟨g0, g1, g2, g3⟩ := z_ok_sp hok
  have hk := h r1 (List.forall_mem_cons.mpr ⟨by show z_ir _; unfold z_ir; omega, r2⟩) r3 p env s m args below meth c H locs la C R h1 h2 hl
  rw [List.map_cons] at hk
  rw [List.map_cons, z_vv_pos (by omega)]
  have he := z_wd_get (e := e) (ph := ph) (σ := σ) g1
  have hty : ∃ C, (z_tys e)[tag - 1]? = some (e.2.2.2 tag, C) := by
    obtain ⟨a, b⟩ := h3
    rcases (show tag = 1 ∨ tag = 2 ∨ tag = 3 ∨ tag = 4 ∨ tag = 5 ∨ tag = 6 by omega) with rfl | rfl | rfl | rfl | rfl | rfl <;> exact ⟨_, rfl⟩
  obtain ⟨C0, hty⟩ := hty
  by_cases h2' : tag ≤ 2
  · rw [z_ce_arr (kd := kd) (by rw [g2]; exact g3) ht hn (by omega), g2] at he
    exact va_alen hx hb hKS.1 R.2.1 x.toNat (tag - 1) he hty (v := Int32.ofInt (n : Int)) rfl hd hk
  · rw [z_ce_ref (kd := kd) (by rw [g2]; exact g3) ht hn (by omega), g2] at he
    exact va_alen hx hb hKS.1 R.2.1 x.toNat (tag - 1) he hty (v := Int32.ofInt (n : Int)) rfl hd hk
theorem z_s_iast {kd n : Nat} {x i v : Int} (ht : kd / 100000 = 1) (hn : kd % 100000 = n) (hok : z_ok N kd x = true) (hi0 : 0 ≤ i) (hi1 : i < (n : Int)) (hd : decode (z_hd y).2.1 pc = .ok (.iastore, 1))
    (h : z_X e ph d y Ni No (pc + 1) ls st N (z_up σ x i v) Q) : z_X e ph d y Ni No pc ls (z_I v :: z_I i :: z_R x :: st) N σ Q := by
  intro r1 r2 r3 p env s m args below meth c H locs la C R h1 h2 hl
  obtain ⟨hx, hb, -, -, hown, hts, -, -, hKS⟩ := id C
  obtain ⟨rv, r2⟩ := List.forall_mem_cons.mp r2
  obtain ⟨ri, r2⟩ := List.forall_mem_cons.mp r2
  obtain ⟨-, r2⟩ := List.forall_mem_cons.mp r2
  obtain ⟨g0, g1, g2, g3⟩ := z_ok_sp hok
  rw [List.map_cons, List.map_cons, List.map_cons, z_vv_pos (by omega)]
  have hce := fun σ0 => z_ce_arr (e := e) (ph := ph) (σ := σ0) (k := x.toNat) (kd := kd) (by rw [g2]; exact g3) ht hn (Or.inl rfl)
  have hat := R.2.1 x.toNat _ (z_wd_get g1)
  rw [hce, g2] at hat
  refine W.iast hx hb hat ((hKS.1.2 0 _ rfl).1 n (fun j => .int (Int32.ofInt (σ x (j : Int))))) (fun q => by cases q) (by show ¬ (Int32.ofInt i < 0 ∨ (arrV _ _ _).slots.size ≤ _); rw [arrV_size]; exact z_vpin ri hi0 hi1) rfl rfl hd fun H1 e1 z1 oq => ?_
  refine h r1 r2 (z_rM_up r3 rv) p env s m args below meth c H1 _ la C ⟨fun w => z1.trans (R.1 w), z_P_set R.2.1 (k := x.toNat) (fun _ => ?_) oq (fun k' _ hk => z_up_o g2 hk), R.2.2.put z1 oq (Nat.le_add_right _ _)⟩ h1 h2 hl
  rw [hce, g2]
  show H1[_]? = some (vp_cell _ _)
  rw [e1]
  rw [vp_cell_i, vp_cell_i, arrV_store]
  congr 2
  funext q
  rw [z_nat ri]
  by_cases hq : q = i.toNat
  · subst hq
    simp only [updV, if_pos, z_up]
    rw [if_pos ⟨trivial, by omega⟩]
  · simp only [updV, if_neg hq, z_up]
    rw [if_neg (by omega)]
theorem z_s_zast {kd n : Nat} {x i v : Int} (ht : kd / 100000 = 2) (hn : kd % 100000 = n) (hok : z_ok N kd x = true) (hi0 : 0 ≤ i) (hi1 : i < (n : Int)) (h01 : v = 0 ∨ v = 1) (hd : decode (z_hd y).2.1 pc = .ok (.bastore, 1))
    (h : z_X e ph d y Ni No (pc + 1) ls st N (z_up σ x i v) Q) : z_X e ph d y Ni No pc ls (z_I v :: z_I i :: z_R x :: st) N σ Q := by
  intro r1 r2 r3 p env s m args below meth c H locs la C R h1 h2 hl
  obtain ⟨hx, hb, -, -, hown, hts, -, -, hKS⟩ := id C
  obtain ⟨rv, r2⟩ := List.forall_mem_cons.mp r2
  obtain ⟨ri, r2⟩ := List.forall_mem_cons.mp r2
  obtain ⟨-, r2⟩ := List.forall_mem_cons.mp r2
  obtain ⟨g0, g1, g2, g3⟩ := z_ok_sp hok
  rw [List.map_cons, List.map_cons, List.map_cons, z_vv_pos (by omega)]
  have hce := fun σ0 => z_ce_arr (e := e) (ph := ph) (σ := σ0) (k := x.toNat) (kd := kd) (by rw [g2]; exact g3) ht hn (Or.inr rfl)
  have hat := R.2.1 x.toNat _ (z_wd_get g1)
  rw [hce, g2] at hat
  have hnw : narrow .boolean (.int (Int32.ofInt v)) = .int (Int32.ofInt v) := by rcases h01 with rfl | rfl <;> rfl
  refine W.zast hx hb hat ((hKS.1.2 1 _ rfl).1 n (fun j => .int (Int32.ofInt (σ x (j : Int))))) (fun q => by cases q) (by show ¬ (Int32.ofInt i < 0 ∨ (arrV _ _ _).slots.size ≤ _); rw [arrV_size]; exact z_vpin ri hi0 hi1) rfl rfl hd fun H1 e1 z1 oq => ?_
  refine h r1 r2 (z_rM_up r3 rv) p env s m args below meth c H1 _ la C ⟨fun w => z1.trans (R.1 w), z_P_set R.2.1 (k := x.toNat) (fun _ => ?_) oq (fun k' _ hk => z_up_o g2 hk), R.2.2.put z1 oq (Nat.le_add_right _ _)⟩ h1 h2 hl
  rw [hce, g2]
  show H1[_]? = some (vp_cell _ _)
  rw [e1, hnw]
  rw [vp_cell_i, vp_cell_i, arrV_store]
  congr 2
  funext q
  rw [z_nat ri]
  by_cases hq : q = i.toNat
  · subst hq
    simp only [updV, if_pos, z_up]
    rw [if_pos ⟨trivial, by omega⟩]
  · simp only [updV, if_neg hq, z_up]
    rw [if_neg (by omega)]
theorem z_s_aast {kd n tag ci : Nat} {q : vw_C} {x i v : Int} (ht : kd / 100000 = tag) (h3 : 3 ≤ tag ∧ tag ≤ 6) (hph : ph = false ∨ tag = 6) (hn : kd % 100000 = n) (hok : z_ok N kd x = true) (hi0 : 0 ≤ i) (hi1 : i < (n : Int)) (hc : z_cl[ci]? = some q) (hqn : q.1 = z_aty tag) (hv : v < 0 ∨ z_ok N (ci + 1) v = true) (hvi : z_ir v) (hd : decode (z_hd y).2.1 pc = .ok (.aastore, 1))
    (h : z_X e ph d y Ni No (pc + 1) ls st N (z_up σ x i v) Q) : z_X e ph d y Ni No pc ls (z_R v :: z_I i :: z_R x :: st) N σ Q := by
  intro r1 r2 r3 p env s m args below meth c H locs la C R h1 h2 hl
  obtain ⟨hx, hb, -, -, hown, hts, -, -, hKS⟩ := id C
  obtain ⟨-, r2⟩ := List.forall_mem_cons.mp r2
  obtain ⟨ri, r2⟩ := List.forall_mem_cons.mp r2
  obtain ⟨-, r2⟩ := List.forall_mem_cons.mp r2
  obtain ⟨g0, g1, g2, g3⟩ := z_ok_sp hok
  rw [List.map_cons, List.map_cons, List.map_cons, z_vv_pos (x := x) (by omega)]
  have hce := fun σ0 => z_ce_ref (e := e) (ph := ph) (σ := σ0) (k := x.toNat) (kd := kd) (by rw [g2]; exact g3) ht hn h3.1
  have hph' : (ph && !(tag == 6)) = false := by rcases hph with rfl | rfl <;> simp
  have hat := R.2.1 x.toNat _ (z_wd_get g1)
  rw [hce, g2] at hat
  simp only [hph', cond_false] at hce hat
  have hty : (z_tys e)[tag - 1]? = some (e.2.2.2 tag, .object q.1) := by
    rw [hqn]
    rcases (show tag = 3 ∨ tag = 4 ∨ tag = 5 ∨ tag = 6 by omega) with rfl | rfl | rfl | rfl <;> rfl
  have fin : ∀ (H1 : Heap), H1[e.2.1.size + x.toNat]? = some ((vp_cell (e.2.2.2 tag) (n, .inr (.inr (.inr (.inr (fun j : Nat => z_ad e (σ x (j : Int)))))))).setSlot (Int32.ofInt i).toNatClampNeg (va_rf (z_ad e v))) → H1.size = H.size → (∀ q, q ≠ e.2.1.size + x.toNat → H1[q]? = H[q]?) → W p e.1 env (z_rm d Ni No) s m args below meth c H1 (locs ++ [⟨e.2.1.size + x.toNat, (Int32.ofInt i).toNatClampNeg⟩]) (N - Ni) (z_sl N - z_sl Ni) (MQ below (z_Qc e ph (z_hd y).2.2.2.1 No Q) args s (No - Ni) (z_sl No - z_sl Ni) (z_A e)) (F0 m (pc + 1) la (st.map (z_vv e))) := by
    intro H1 e1 z1 oq
    refine h r1 r2 (z_rM_up r3 hvi) p env s m args below meth c H1 _ la C ⟨fun w => z1.trans (R.1 w), z_P_set R.2.1 (k := x.toNat) (fun _ => ?_) oq (fun k' _ hk => z_up_o g2 hk), R.2.2.put z1 oq (Nat.le_add_right _ _)⟩ h1 h2 hl
    rw [hce, g2]
    show H1[_]? = some (vp_cell _ _)
    rw [e1]
    rw [vp_cell_q, vp_cell_q, arrV_store]
    congr 2
    funext q
    rw [z_nat ri]
    by_cases hq : q = i.toNat
    · subst hq
      simp only [updV, if_pos, z_up]
      rw [if_pos ⟨trivial, by omega⟩]
    · simp only [updV, if_neg hq, z_up]
      rw [if_neg (by omega)]
  by_cases hv0 : v < 0
  · rw [z_vv_neg hv0]
    rw [z_ad_neg hv0] at fin
    exact va_WaastN (C := q.1) hx hb hat ((hKS.1.2 (tag - 1) _ hty).1 n (fun j => va_rf (z_ad e (σ x (j : Int))))) (fun q => by cases q) (by show ¬ (Int32.ofInt i < 0 ∨ (arrV _ _ _).slots.size ≤ _); rw [arrV_size]; exact z_vpin ri hi0 hi1) rfl rfl hd fun H1 e1 z1 oq => fin H1 e1 z1 oq
  · rw [z_vv_pos hv0]
    rw [z_ad_pos hv0] at fin
    obtain ⟨w0, w1, w2, w3⟩ := z_ok_sp (hv.resolve_left hv0)
    have hci : ci < 9 := (List.getElem?_eq_some_iff.mp hc).1
    have hatv := R.2.1 v.toNat _ (z_wd_get w1)
    rw [z_ce_obj (kd := ci + 1) (by rw [w2]; exact w3) (by omega)] at hatv
    obtain ⟨r', hr', cellV, y1, y2, y3, -⟩ := hatv
    have hcls := (hKS.1.1 ci q hc).2
    obtain ⟨kA, comp, k1, k2, k3, -⟩ := (hKS.1.2 (tag - 1) _ hty).2
    have hcomp : comp = e.2.2.1.1 ci := Option.some.inj (k3.symm.trans hcls.1)
    subst hcomp
    obtain ⟨kC, hkC, -⟩ := hcls.2
    have hvp := z_vpin (n := n) ri hi0 hi1
    refine W.aast hx hb hat (fun q h => by cases h) (fun h => by cases h) k1 k2 rfl hkC ⟨fun w => hvp (Or.inl w), by show _ < (arrV _ _ _).slots.size; rw [arrV_size]; exact Nat.not_le.mp fun w => hvp (Or.inr w)⟩ y1 (fun q h => by rw [y3] at h; cases h) (by rw [y2]; exact hkC) (by rw [y2]; exact va_assign hcls) rfl rfl hd fun H1 e1 z1 oq => fin H1 e1 z1 oq
/-! new cells -/
theorem z_sl_mono {a b : Nat} (h : a ≤ b) : z_sl a ≤ z_sl b := by
  induction h with
  | refl => exact Nat.le_refl _
  | step _ ih => exact Nat.le_trans ih (Nat.le_add_right _ _)
theorem z_P_push {σ' : z_M} {H H1 : Heap} (hP : va_P e.2.2.1 z_cl (z_wd e ph σ N) H) (hat : va_at e.2.2.1 z_cl (e.2.1.size + N, z_ce e ph σ' N) H1) (oq : ∀ q, q < e.2.1.size + N → H1[q]? = H[q]?) (ho : ∀ k', k' < N → z_ce e ph σ' k' = z_ce e ph σ k') : va_P e.2.2.1 z_cl (z_wd e ph σ' (N + 1)) H1 := by
  intro k' q hq
  obtain ⟨h1, rfl⟩ := z_wd_get' hq
  by_cases hk : k' = N
  · subst hk; exact hat
  · rw [ho k' (by omega)]
    exact (hP k' _ (z_wd_get (by omega))).kept (oq _ (by show e.2.1.size + k' < _; omega))
theorem z_nu_o {a : Int} {kd k k' : Nat} (ha : ((k : Nat) : Int) = a) (hk : k' ≠ k) : z_ce e ph (z_nu σ a kd) k' = z_ce e ph σ k' :=
  z_ce_congr fun j => by unfold z_nu; rw [if_neg (by omega)]
theorem z_df_ir (kd : Nat) (i : Int) : z_ir (z_df kd i) := by
  unfold z_df z_ir
  split
  · split <;> omega
  · split <;> omega
theorem z_rM_nu {a : Int} {kd : Nat} (h : z_rM σ) : z_rM (z_nu σ a kd) := fun a' i' => by
  unfold z_nu; split
  · exact z_df_ir _ _
  · exact h a' i'
/-- the end of each making -/
theorem z_made {kd : Nat} (hph : ph = false) {s : State} {p : Program} {env : Env} {m : MethodId} {args : Array Value} {below : List Frame} {meth : Method} {c : Code} {H H1 : Heap} {locs : List Loc} {la : Array Slot} {pc' sl : Nat} (h : z_X e ph d y Ni No pc' ls (z_R (N : Int) :: st) (N + 1) (z_nu σ (N : Int) kd) Q) (r1 : z_rL ls) (r2 : z_rS st) (r3 : z_rM σ) (C : z_Cx e y p s m args meth c) (R : z_Rep e ph N σ H locs) (h1 : Ni ≤ N) (hN : N < No) (hl : lv_has la (z_hd y).2.2.1 (z_en e 0 ls)) (hsl : z_slot N = sl)
    (hat : va_at e.2.2.1 z_cl (e.2.1.size + N, z_ce e ph (z_nu σ (N : Int) kd) N) H1) (z1 : H1.size = e.2.1.size + N + 1) (oq : ∀ q, q < e.2.1.size + N → H1[q]? = H[q]?) :
    W p e.1 env (z_rm d Ni No) s m args below meth c H1 locs (N - Ni + 1) (z_sl N - z_sl Ni + sl) (MQ below (z_Qc e ph (z_hd y).2.2.2.1 No Q) args s (No - Ni) (z_sl No - z_sl Ni) (z_A e)) (F0 m pc' la (Value.ref (e.2.1.size + N) :: st.map (z_vv e))) := by
  have hk := h r1 (List.forall_mem_cons.mpr ⟨trivial, r2⟩) (z_rM_nu r3) p env s m args below meth c H1 locs la C ⟨fun _ => by omega, z_P_push R.2.1 hat oq (fun k' hk => z_nu_o rfl (by omega)), ⟨by have := R.2.2.1; have := R.1 hph; omega, fun q g1 g2 => by rw [oq q (by omega)]; exact R.2.2.2.1 q g1 g2, R.2.2.2.2⟩⟩ (by omega) (by omega) hl
  have hm := z_sl_mono h1
  rw [show N + 1 - Ni = N - Ni + 1 by omega, show z_sl (N + 1) - z_sl Ni = z_sl N - z_sl Ni + sl by rw [show z_sl (N + 1) = z_sl N + z_slot N from rfl, hsl]; omega, List.map_cons, z_vv_pos (by omega), show ((N : Int)).toNat = N by omega] at hk
  exact hk
theorem z_room {sl : Nat} (h1 : Ni ≤ N) (hN : N < No) (hsl : z_slot N = sl) : N - Ni + 1 ≤ (z_rm d Ni No).cells ∧ z_sl N - z_sl Ni + sl ≤ (z_rm d Ni No).slots := by
  have := z_sl_mono h1
  have := z_sl_mono (show N + 1 ≤ No from hN)
  have : z_sl (N + 1) = z_sl N + z_slot N := rfl
  show N - Ni + 1 ≤ No - Ni ∧ z_sl N - z_sl Ni + sl ≤ z_sl No - z_sl Ni
  omega
theorem z_s_newi {n : Nat} (hph : ph = false) (hn : n < 100000) (hk : z_knd (N : Int) = 100000 + n) (hN : N < No) (hw : Cond.arrayClass .int ∈ z_gw) (hd : decode (z_hd y).2.1 pc = .ok (.newarray .int, 2))
    (h : z_X e ph d y Ni No (pc + 2) ls (z_R (N : Int) :: st) (N + 1) (z_nu σ (N : Int) (100000 + n)) Q) : z_X e ph d y Ni No pc ls (z_I (n : Int) :: st) N σ Q := by
  intro r1 r2 r3 p env s m args below meth c H locs la C R h1 h2 hl
  obtain ⟨hx, hb, -, -, hown, hts, -, -, hKS⟩ := id C
  obtain ⟨-, r2⟩ := List.forall_mem_cons.mp r2
  subst hph
  have hir : z_ir (n : Int) := by unfold z_ir; omega
  have hsl : z_slot N = n := by unfold z_slot; rw [hk, if_neg (by omega)]; omega
  obtain ⟨q1, q2⟩ := z_room (d := d) h1 hN hsl
  refine va_newaK (N := n) (atype := .int) hx hb (hts _ hw) rfl hd rfl (by rw [z_zero, z_lt hir z_ir0]; omega) (by rw [z_nat hir]; omega) (by show n * 4 ≤ _; omega) q1 q2 (R.1 rfl) fun H1 cA e1 z1 oq hA hf => ?_
  have hcA : cA = e.2.2.2 1 := Option.some.inj (hf.symm.trans (hKS.1.2 0 _ rfl).2)
  subst hcA
  refine z_made rfl h r1 r2 r3 C R h1 hN hl hsl ?_ z1 oq
  rw [z_ce_arr (kd := 100000 + n) hk (by omega) (n := n) (by omega) (Or.inl rfl)]
  refine e1.trans ?_
  show _ = some (vp_cell _ _)
  rw [vp_cell_i]
  congr 2
  funext q
  show Value.int 0 = Value.int (Int32.ofInt (if (N : Int) = N then z_df (100000 + n) q else _))
  rw [if_pos rfl, show z_df (100000 + n) q = 0 by unfold z_df; rw [if_neg (by omega), if_pos (by omega)]]
  rfl
theorem z_s_newz {n : Nat} (hph : ph = false) (hn : n < 100000) (hk : z_knd (N : Int) = 200000 + n) (hN : N < No) (hw : Cond.arrayClass .boolean ∈ z_gw) (hd : decode (z_hd y).2.1 pc = .ok (.newarray .boolean, 2))
    (h : z_X e ph d y Ni No (pc + 2) ls (z_R (N : Int) :: st) (N + 1) (z_nu σ (N : Int) (200000 + n)) Q) : z_X e ph d y Ni No pc ls (z_I (n : Int) :: st) N σ Q := by
  intro r1 r2 r3 p env s m args below meth c H locs la C R h1 h2 hl
  obtain ⟨hx, hb, -, -, hown, hts, -, -, hKS⟩ := id C
  obtain ⟨-, r2⟩ := List.forall_mem_cons.mp r2
  subst hph
  have hir : z_ir (n : Int) := by unfold z_ir; omega
  have hsl : z_slot N = n := by unfold z_slot; rw [hk, if_neg (by omega)]; omega
  obtain ⟨q1, q2⟩ := z_room (d := d) h1 hN hsl
  refine va_newaK (N := n) (atype := .boolean) hx hb (hts _ hw) rfl hd rfl (by rw [z_zero, z_lt hir z_ir0]; omega) (by rw [z_nat hir]; omega) (by show n * 1 ≤ _; omega) q1 q2 (R.1 rfl) fun H1 cA e1 z1 oq hA hf => ?_
  have hcA : cA = e.2.2.2 2 := Option.some.inj (hf.symm.trans (hKS.1.2 1 _ rfl).2)
  subst hcA
  refine z_made rfl h r1 r2 r3 C R h1 hN hl hsl ?_ z1 oq
  rw [z_ce_arr (kd := 200000 + n) hk (by omega) (n := n) (by omega) (Or.inr rfl)]
  refine e1.trans ?_
  show _ = some (vp_cell _ _)
  rw [vp_cell_i]
  congr 2
  funext q
  show Value.int 0 = Value.int (Int32.ofInt (if (N : Int) = N then z_df (200000 + n) q else _))
  rw [if_pos rfl, show z_df (200000 + n) q = 0 by unfold z_df; rw [if_neg (by omega), if_pos (by omega)]]
  rfl
theorem z_s_newq {n ix tag : Nat} (h3 : 3 ≤ tag ∧ tag ≤ 6) (hn : n < 100000) (hk : z_knd (N : Int) = tag * 100000 + n) (hph : ph = false) (hN : N < No) (hw : Cond.classLink (z_hd y).1.cls ix (z_aty tag) ∈ z_gw) (hd : decode (z_hd y).2.1 pc = .ok (.anewarray ix, 3))
    (h : z_X e ph d y Ni No (pc + 3) ls (z_R (N : Int) :: st) (N + 1) (z_nu σ (N : Int) (tag * 100000 + n)) Q) : z_X e ph d y Ni No pc ls (z_I (n : Int) :: st) N σ Q := by
  intro r1 r2 r3 p env s m args below meth c H locs la C R h1 h2 hl
  obtain ⟨hx, hb, -, -, hown, hts, -, -, hKS⟩ := id C
  obtain ⟨-, r2⟩ := List.forall_mem_cons.mp r2
  subst hph
  have hir : z_ir (n : Int) := by unfold z_ir; omega
  have hsl : z_slot N = n := by unfold z_slot; rw [hk, if_neg (by omega)]; omega
  obtain ⟨q1, q2⟩ := z_room (d := d) h1 hN hsl
  have hty : (z_tys e)[tag - 1]? = some (e.2.2.2 tag, .object (z_aty tag)) ∧ z_aty tag ∈ z_ao := by
    rcases (show tag = 3 ∨ tag = 4 ∨ tag = 5 ∨ tag = 6 by omega) with rfl | rfl | rfl | rfl <;> exact ⟨rfl, by decide +kernel⟩
  have hnat : (Int32.ofInt (n : Int)).toNatClampNeg = n := by rw [z_nat hir]; omega
  refine W.anew hx hb hown (hts _ hw) (va_AO.use (hKS.2.2 _ hty.2)) rfl hd rfl (by rw [z_zero, z_lt hir z_ir0]; omega) (by rw [hnat]; omega) q1 (by rw [hnat]; exact q2) fun cA kA comp f1 f2 f3 f4 => ?_
  obtain ⟨kA', comp', k1, k2, k3, k4⟩ := (hKS.1.2 (tag - 1) _ hty.1).2
  have hcA : cA = e.2.2.2 tag := Option.some.inj (f1.symm.trans k4)
  subst hcA
  have hsz := R.1 rfl
  rw [hnat]
  generalize hH1 : H.push ({ cls := e.2.2.2 tag, slots := Array.replicate n .null, vm := .none } : Cell) = H1
  have z1 : H1.size = H.size + 1 := by rw [← hH1, Array.size_push]
  have e1 : H1[H.size]? = some (arrV (e.2.2.2 tag) n (fun _ => .null)) := by rw [← hH1, Array.getElem?_push_size, ← arrV_new]
  have o1 : ∀ q : Nat, q < H.size → H1[q]? = H[q]? := fun q hq => by rw [← hH1, Array.getElem?_push, if_neg (Nat.ne_of_lt hq)]
  rw [hsz] at z1 e1 o1 ⊢
  refine z_made rfl h r1 r2 r3 C R h1 hN hl hsl ?_ z1 o1
  rw [z_ce_ref (kd := tag * 100000 + n) hk (by omega) (n := n) (by omega) h3.1]
  refine e1.trans ?_
  show _ = some (vp_cell _ _)
  rw [vp_cell_q]
  congr 2
  funext q
  show Value.null = va_rf (z_ad e (if (N : Int) = N then z_df (tag * 100000 + n) q else _))
  rw [if_pos rfl, show z_df (tag * 100000 + n) q = -1 by unfold z_df; rw [if_neg (by omega), if_neg (by omega)]]
  rfl
theorem z_s_new {ci ix : Nat} {q : vw_C} (hc : z_cl[ci]? = some q) (hk : z_knd (N : Int) = ci + 1) (hph : ph = false) (hN : N < No) (hw : Cond.classLink (z_hd y).1.cls ix q.1 ∈ z_gw) (hw2 : Cond.instantiable q.1 q.2.2 ∈ z_gw) (hw3 : Cond.initialized q.1 ∈ z_gw) (hd : decode (z_hd y).2.1 pc = .ok (.new ix, 3))
    (h : z_X e ph d y Ni No (pc + 3) ls (z_R (N : Int) :: st) (N + 1) (z_nu σ (N : Int) (ci + 1)) Q) : z_X e ph d y Ni No pc ls st N σ Q := by
  intro r1 r2 r3 p env s m args below meth c H locs la C R h1 h2 hl
  obtain ⟨hx, hb, -, -, hown, hts, -, -, hKS⟩ := id C
  subst hph
  obtain ⟨f1, f2, f3, f4⟩ := z_cls ci q hc
  have hci : ci < 9 := (List.getElem?_eq_some_iff.mp hc).1
  have hsl : z_slot N = q.2.2 := by unfold z_slot; rw [hk, if_pos (by omega)]; exact f2
  obtain ⟨q1, q2⟩ := z_room (d := d) h1 hN hsl
  have hKn := hKS.1.1 ci q hc
  refine W.newcK hx hb hown (hts _ hw) (hts _ hw2) (hts _ hw3) rfl hd q1 q2 hKn.2.1 (R.1 rfl) fun H1 kC hkC e1 z1 o1 => ?_
  refine z_made rfl h r1 r2 r3 C R h1 hN hl hsl ?_ z1 o1
  rw [z_ce_obj (kd := ci + 1) hk (by omega)]
  refine ⟨q, hc, (u_born (z_ty ci) hts f1 hKn hkC e1 f3).to (fun j hj => ?_)⟩
  show defaultValue (z_ty ci j) = vp_V _ j
  have hg := z_fs_get (e := e) (ph := false) (σ := z_nu σ (N : Int) (ci + 1)) (x := (N : Int)) f2 hj
  unfold vp_V
  rw [List.getD_eq_getElem?_getD]
  refine Eq.trans ?_ (congrArg (fun o : Option Value => o.getD .null) hg).symm
  show _ = z_fv e false (ci + 1) j _ (if (N : Int) = N then z_df (ci + 1) (j : Int) else _)
  rw [if_pos rfl]
  have ht := z_tc_sp (z_tyk ci q hc j hj)
  unfold z_fv z_df
  rw [if_pos (by omega), show ((j : Int)).toNat = j by omega]
  revert ht
  generalize z_ft (ci + 1) j = t
  intro ht
  match t, ht with
  | 0, ht => rw [show z_ty ci j = .int from ht]; rfl
  | 1, ht => obtain ⟨n, hn⟩ := ht; rw [hn]; rfl
  | 2, ht => rcases ht with ⟨n, hn⟩ | ⟨n, hn⟩ <;> rw [hn] <;> rfl
  | 3, ht => rw [show z_ty ci j = .boolean from ht]; rfl
end ZR
