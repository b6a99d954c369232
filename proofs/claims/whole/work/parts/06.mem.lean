/-! the world: reading and writing cells -/
def z_ok (N kd : Nat) (x : Int) : Bool := decide (0 ≤ x ∧ x < (N : Int)) && (z_knd x == kd)
section ZM
variable {e : z_E} {ph : Bool} {d y Ni No pc N : Nat} {ls : List (Option z_V)} {st : List z_V} {σ : z_M} {Q : Int → z_M → Prop}
theorem z_ok_sp {kd : Nat} {x : Int} (h : z_ok N kd x = true) : 0 ≤ x ∧ x.toNat < N ∧ ((x.toNat : Nat) : Int) = x ∧ z_knd x = kd := by
  simp only [z_ok, Bool.and_eq_true, decide_eq_true_eq, beq_iff_eq] at h
  obtain ⟨⟨h1, h2⟩, h3⟩ := h
  exact ⟨h1, by omega, by omega, h3⟩
theorem z_wd_len : (z_wd e ph σ N).length = N := by simp [z_wd]
theorem z_wd_get {k : Nat} (h : k < N) : (z_wd e ph σ N)[k]? = some (e.2.1.size + k, z_ce e ph σ k) := by simp [z_wd, h]
theorem z_wd_get' {k : Nat} {q : Nat × va_E} (h : (z_wd e ph σ N)[k]? = some q) : k < N ∧ q = (e.2.1.size + k, z_ce e ph σ k) := by
  have hk : k < N := by
    have := (List.getElem?_eq_some_iff.mp h).1
    rwa [z_wd_len] at this
  exact ⟨hk, Option.some.inj (h.symm.trans (z_wd_get hk))⟩
theorem z_wd_D : va_D (z_A e) (z_wd e ph σ N) := by
  refine ⟨fun i j p q hi hj h => ?_, fun k q hk => ?_⟩
  · obtain ⟨-, rfl⟩ := z_wd_get' hi
    obtain ⟨-, rfl⟩ := z_wd_get' hj
    simp only at h; omega
  · obtain ⟨-, rfl⟩ := z_wd_get' hk
    exact Nat.le_add_right _ _
theorem z_ce_congr {σ' : z_M} {k : Nat} (h : ∀ j : Nat, σ' (k : Int) (j : Int) = σ (k : Int) (j : Int)) : z_ce e ph σ' k = z_ce e ph σ k := by
  simp only [z_ce, h]
theorem z_wd_set {σ' : z_M} {k : Nat} {c : va_E} (hc : z_ce e ph σ' k = c) (ho : ∀ k', k' < N → k' ≠ k → z_ce e ph σ' k' = z_ce e ph σ k') : (z_wd e ph σ N).set k (e.2.1.size + k, c) = z_wd e ph σ' N := by
  apply List.ext_getElem?
  intro j
  by_cases hj : j < N
  · rw [z_wd_get hj, List.getElem?_set, z_wd_len]
    by_cases hk : k = j
    · subst hk
      rw [if_pos rfl, if_pos hj, hc]
    · rw [if_neg hk, z_wd_get hj, ho j hj (Ne.symm hk)]
  · rw [List.getElem?_eq_none (by rw [List.length_set, z_wd_len]; omega), List.getElem?_eq_none (by rw [z_wd_len]; omega)]
theorem z_wd_push : z_wd e ph σ N ++ [(e.2.1.size + N, z_ce e ph σ N)] = z_wd e ph σ (N + 1) := by
  simp [z_wd, List.range_succ]
theorem z_up_o {a i v : Int} {k k' : Nat} (ha : ((k : Nat) : Int) = a) (hk : k' ≠ k) : z_ce e ph (z_up σ a i v) k' = z_ce e ph σ k' :=
  z_ce_congr fun j => by unfold z_up; rw [if_neg (by omega)]
theorem z_rM_up {a i v : Int} (h : z_rM σ) (hv : z_ir v) : z_rM (z_up σ a i v) := fun a' i' => by
  unfold z_up; split
  · exact hv
  · exact h a' i'
theorem z_ce_obj {k kd : Nat} (hk : z_knd (k : Int) = kd) (hkd : kd < 100000) : z_ce e ph σ k = .inr (kd - 1, (List.range (z_nf kd)).map (fun j : Nat => z_fv e ph kd j (k : Int) (σ (k : Int) (j : Int)))) := by
  unfold z_ce; rw [hk, if_pos hkd]
theorem z_ce_arr {k kd n tag : Nat} (hk : z_knd (k : Int) = kd) (ht : kd / 100000 = tag) (hn : kd % 100000 = n) (h1 : tag = 1 ∨ tag = 2) : z_ce e ph σ k = .inl (e.2.2.2 tag, n, .inl (fun j : Nat => Int32.ofInt (σ (k : Int) (j : Int)))) := by
  unfold z_ce; rw [hk, if_neg (by omega), if_pos (by omega), ht, hn]
theorem z_ce_ref {k kd n tag : Nat} (hk : z_knd (k : Int) = kd) (ht : kd / 100000 = tag) (hn : kd % 100000 = n) (h1 : 3 ≤ tag) : z_ce e ph σ k = .inl (e.2.2.2 tag, n, .inr (.inr (.inr (.inr (fun j : Nat => z_ad e (cond (ph && !(tag == 6)) (z_sa tag (k : Int) (j : Int)) (σ (k : Int) (j : Int)))))))) := by
  unfold z_ce; rw [hk, if_neg (by omega), if_neg (by omega), ht, hn]
theorem z_cls : ∀ (c : Nat) (q : vw_C), z_cl[c]? = some q → (∀ w ∈ u_ws q.1 q.2.1 q.2.2, w ∈ z_gw) ∧ z_nf (c + 1) = q.2.2 ∧ (∀ k, k < q.2.2 → parseFieldDescriptor (q.2.1 k).2.2.1 = some (z_ty c k)) ∧ (∀ a, a < q.2.2 → ∀ b, b < q.2.2 → a ≠ b → (q.2.1 a).2.1 ≠ (q.2.1 b).2.1)
  | 0, q, h => by cases h; exact ⟨inX0, rfl, tyX0_ok, nmX0⟩
  | 1, q, h => by cases h; exact ⟨inX1, rfl, tyX1_ok, nmX1⟩
  | 2, q, h => by cases h; exact ⟨inX2, rfl, tyX2_ok, nmX2⟩
  | 3, q, h => by cases h; exact ⟨inX3, rfl, tyX3_ok, nmX3⟩
  | 4, q, h => by cases h; exact ⟨inX4, rfl, tyX4_ok, nmX4⟩
  | 5, q, h => by cases h; exact ⟨inX5, rfl, tyX5_ok, nmX5⟩
  | 6, q, h => by cases h; exact ⟨inX6, rfl, tyX6_ok, nmX6⟩
  | 7, q, h => by cases h; exact ⟨inX7, rfl, tyX7_ok, nmX7⟩
  | 8, q, h => by cases h; exact ⟨inX8, rfl, tyX8_ok, nmX8⟩
  | n + 9, q, h => by simp [z_cl] at h
theorem z_fs_get {kd j n : Nat} {x : Int} (hn : z_nf kd = n) (hj : j < n) : ((List.range (z_nf kd)).map (fun j : Nat => z_fv e ph kd j x (σ x (j : Int))))[j]? = some (z_fv e ph kd j x (σ x (j : Int))) := by
  rw [hn]; simp [hj]
/-- what a field holds, as a value of the abstract machine -/
def z_fr (ph : Bool) (kd j : Nat) (x : Int) (σ : z_M) : z_V := match z_ft kd j with
  | 1 => z_R (σ x j)
  | 2 => z_R (cond ph (z_sr kd j x) (σ x j))
  | _ => z_I (σ x j)
theorem z_fr_vv (kd j : Nat) (x : Int) : z_vv e (z_fr ph kd j x σ) = z_fv e ph kd j x (σ x j) := by
  unfold z_fr z_fv
  generalize z_ft kd j = t
  match t with
  | 0 => rfl
  | 1 => rfl
  | 2 => rfl
  | n + 3 => rfl
theorem z_fr_rg (kd j : Nat) (x : Int) (h : z_rM σ) : z_rg (z_fr ph kd j x σ) := by
  unfold z_fr
  split
  · trivial
  · trivial
  · exact h x j
theorem z_s_getf {ci j ix : Nat} {q : vw_C} {x : Int} (hc : z_cl[ci]? = some q) (hj : j < q.2.2) (hw : Cond.fieldLink (z_hd y).1.cls ix (q.2.1 j).1 (q.2.1 j).2.1 (q.2.1 j).2.2.1 ∈ z_gw) (hok : z_ok N (ci + 1) x = true) (hd : decode (z_hd y).2.1 pc = .ok (.getfield ix, 3))
    (h : z_X e ph d y Ni No (pc + 3) ls (z_fr ph (ci + 1) j x σ :: st) N σ Q) : z_X e ph d y Ni No pc ls (z_R x :: st) N σ Q := by
  intro r1 r2 r3 p env s m args below meth c H locs la C R h1 h2 hl
  obtain ⟨hx, hb, -, -, hown, hts, -, -, hKS⟩ := id C
  obtain ⟨-, r2⟩ := List.forall_mem_cons.mp r2
  obtain ⟨g0, g1, g2, g3⟩ := z_ok_sp hok
  obtain ⟨f1, f2, f3, f4⟩ := z_cls ci q hc
  have hk := h r1 (List.forall_mem_cons.mpr ⟨z_fr_rg _ _ _ r3, r2⟩) r3 p env s m args below meth c H locs la C R h1 h2 hl
  rw [List.map_cons, z_fr_vv] at hk
  rw [List.map_cons, z_vv_pos (by omega)]
  have hci : ci < 9 := (List.getElem?_eq_some_iff.mp hc).1
  have he := z_wd_get (e := e) (ph := ph) (σ := σ) g1
  rw [z_ce_obj (kd := ci + 1) (by rw [g2]; exact g3) (by omega), g2] at he
  exact va_get hx hb hts f1 hown hKS.1 R.2.1 x.toNat he hc j hj (hts _ hw) (fun _ h => h) (z_fs_get f2 hj) hd hk
/-- what may be written into a field -/
def z_fw (ph : Bool) (kd j : Nat) (v : z_V) : Prop := match z_ft kd j, v with
  | 1, .inr (.inr _) => True
  | 2, .inr (.inr _) => ph = false
  | 3, .inl x => x = 0 ∨ x = 1
  | 0, .inl _ => True
  | _, _ => False
def z_un (v : z_V) : Int := match v with
  | .inl x => x
  | .inr (.inl x) => x
  | .inr (.inr x) => x
theorem z_ce_up {k kd j : Nat} {x v : Int} (hk : ((k : Nat) : Int) = x) (hkd : z_knd x = kd) (hs : kd < 100000) : z_ce e ph (z_up σ x j v) k = .inr (kd - 1, ((List.range (z_nf kd)).map (fun j : Nat => z_fv e ph kd j x (σ x (j : Int)))).set j (z_fv e ph kd j x v)) := by
  rw [z_ce_obj (by rw [hk]; exact hkd) hs, hk]
  congr 2
  apply List.ext_getElem?
  intro i
  rw [List.getElem?_set, List.length_map, List.length_range]
  by_cases hi : i < z_nf kd
  · by_cases hj : j = i
    · subst hj
      simp [hi, z_up]
    · rw [if_neg hj]
      simp only [List.getElem?_map, List.getElem?_range hi, Option.map_some, z_up]
      rw [if_neg (by omega)]
  · rw [List.getElem?_eq_none (by simp; omega)]
    by_cases hj : j = i
    · subst hj; simp [hi]
    · rw [if_neg hj, List.getElem?_eq_none (by simp; omega)]
theorem z_fin : ∀ (c : Nat) (q : vw_C), z_cl[c]? = some q → ∀ j, j < q.2.2 → (q.2.1 j).2.2.2 = decide (z_ft (c + 1) j = 2)
  | 0, q, h => by cases h; decide +kernel
  | 1, q, h => by cases h; decide +kernel
  | 2, q, h => by cases h; decide +kernel
  | 3, q, h => by cases h; decide +kernel
  | 4, q, h => by cases h; decide +kernel
  | 5, q, h => by cases h; decide +kernel
  | 6, q, h => by cases h; decide +kernel
  | 7, q, h => by cases h; decide +kernel
  | 8, q, h => by cases h; decide +kernel
  | n + 9, q, h => by simp [z_cl] at h
def z_tc (t : Nat) (ty : FieldType) : Bool := match t, ty with
  | 0, .int => true
  | 1, .object _ => true
  | 2, .object _ => true
  | 2, .array _ => true
  | 3, .boolean => true
  | _, _ => false
def z_tp (t : Nat) (ty : FieldType) : Prop := match t with
  | 1 => ∃ n, ty = .object n
  | 2 => (∃ n, ty = .object n) ∨ ∃ n, ty = .array n
  | 3 => ty = .boolean
  | 0 => ty = .int
  | _ => False
theorem z_tc_sp {t : Nat} {ty : FieldType} (h : z_tc t ty = true) : z_tp t ty := by
  unfold z_tc at h
  split at h
  · rfl
  · exact ⟨_, rfl⟩
  · exact Or.inl ⟨_, rfl⟩
  · exact Or.inr ⟨_, rfl⟩
  · rfl
  · cases h
theorem z_tyk : ∀ (c : Nat) (q : vw_C), z_cl[c]? = some q → ∀ j, j < q.2.2 → z_tc (z_ft (c + 1) j) (z_ty c j) = true
  | 0, q, h => by cases h; decide +kernel
  | 1, q, h => by cases h; decide +kernel
  | 2, q, h => by cases h; decide +kernel
  | 3, q, h => by cases h; decide +kernel
  | 4, q, h => by cases h; decide +kernel
  | 5, q, h => by cases h; decide +kernel
  | 6, q, h => by cases h; decide +kernel
  | 7, q, h => by cases h; decide +kernel
  | 8, q, h => by cases h; decide +kernel
  | n + 9, q, h => by simp [z_cl] at h
theorem z_fit {ci j : Nat} {q : vw_C} {v : z_V} {x : Int} (hc : z_cl[ci]? = some q) (hj : j < q.2.2) (hf : z_fw ph (ci + 1) j v) : narrow (z_ty ci j) (z_vv e v) = z_vv e v ∧ fits (z_ty ci j) (z_vv e v) = true ∧ z_vv e v = z_fv e ph (ci + 1) j x (z_un v) := by
  have ht := z_tc_sp (z_tyk ci q hc j hj)
  unfold z_fw at hf
  unfold z_fv
  revert ht hf
  generalize z_ft (ci + 1) j = t
  intro hf ht
  match t, v, ht, hf with
  | 0, .inl w, ht, _ => rw [show z_ty ci j = .int from ht]; exact ⟨rfl, rfl, rfl⟩
  | 1, .inr (.inr w), ht, _ =>
    obtain ⟨n, hn⟩ := ht
    rw [hn]
    by_cases hw : w < 0
    · rw [z_vv_neg hw]; exact ⟨rfl, rfl, by show _ = va_rf (z_ad e w); rw [z_ad_neg hw]; rfl⟩
    · rw [z_vv_pos hw]; exact ⟨rfl, rfl, by show _ = va_rf (z_ad e w); rw [z_ad_pos hw]; rfl⟩
  | 2, .inr (.inr w), ht, hf =>
    have hf : ph = false := hf
    subst hf
    rcases ht with ⟨n, hn⟩ | ⟨n, hn⟩ <;> rw [hn] <;> by_cases hw : w < 0
    · rw [z_vv_neg hw]; exact ⟨rfl, rfl, by show _ = va_rf (z_ad e w); rw [z_ad_neg hw]; rfl⟩
    · rw [z_vv_pos hw]; exact ⟨rfl, rfl, by show _ = va_rf (z_ad e w); rw [z_ad_pos hw]; rfl⟩
    · rw [z_vv_neg hw]; exact ⟨rfl, rfl, by show _ = va_rf (z_ad e w); rw [z_ad_neg hw]; rfl⟩
    · rw [z_vv_pos hw]; exact ⟨rfl, rfl, by show _ = va_rf (z_ad e w); rw [z_ad_pos hw]; rfl⟩
  | 3, .inl w, ht, hf =>
    rw [show z_ty ci j = .boolean from ht]
    rcases hf with rfl | rfl <;> exact ⟨rfl, rfl, rfl⟩
  | 0, .inr (.inl w), _, hf => exact absurd hf id
  | 0, .inr (.inr w), _, hf => exact absurd hf id
  | 1, .inl w, _, hf => exact absurd hf id
  | 1, .inr (.inl w), _, hf => exact absurd hf id
  | 2, .inl w, _, hf => exact absurd hf id
  | 2, .inr (.inl w), _, hf => exact absurd hf id
  | 3, .inr (.inl w), _, hf => exact absurd hf id
  | 3, .inr (.inr w), _, hf => exact absurd hf id
  | n + 4, .inl w, _, hf => exact absurd hf id
  | n + 4, .inr (.inl w), _, hf => exact absurd hf id
  | n + 4, .inr (.inr w), _, hf => exact absurd hf id
end ZM
section ZP
variable {p : Program} {l : Launch} {e : Env} {R : Room} {s : State} {m : MethodId} {args : Array Value} {below : List Frame} {meth : Method} {c : Code} {H : Heap} {locs : List Loc} {cells slots : Nat} {Q : State → Prop}
variable {cc : ByteArray} {pc : Nat} {ls : Array Slot} {rest : List Value} {D : va_G} {cl : List vw_C} {A : Nat → Prop} {a : Nat} {tys : List (ClassId × FieldType)} {ws : va_W} {H0 : Heap}
/-- a field is written; the heap keeps its size -/
theorem z_vput (hexec : p.tables.exec = Jvm.exec) (hb : c.code = cc) {own C : String} {T : u_T} {N ci index : Nat} {Ts : List Cond} (hts : ∀ w ∈ Ts, w.before args s = true) (hin : ∀ w ∈ u_ws C T N, w ∈ Ts) (ty0 : Nat → FieldType) (hty : ∀ k, k < N → parseFieldDescriptor (T k).2.2.1 = some (ty0 k)) (hnm : ∀ a, a < N → ∀ b, b < N → a ≠ b → (T a).2.1 ≠ (T b).2.1) (hown : s.vm.findClass own = some m.cls) (hK : va_K D cl tys s) (hP : va_P D cl ws H) (hD : va_D A ws) (hS0 : va_S A H0 H locs) (q0 : Nat) {fs : List Value} (he : ws[q0]? = some (a, .inr (ci, fs))) (hc : cl[ci]? = some (C, T, N)) (k : Nat) (hk : k < N) (hlink : (Cond.fieldLink own index (T k).1 (T k).2.1 (T k).2.2.1).before args s = true)
    (hfin : (T k).2.2.2 = false ∨ ((T k).2.2.2 = true ∧ meth.name = "<init>" ∧ (T k).1 = own)) {ty : FieldType} {v : Value} (hd : parseFieldDescriptor (T k).2.2.1 = some ty) (hn : narrow ty v = v) (hfit : fits ty v = true) (hl : k < fs.length)
    (hdg : decode cc pc = .ok (.putfield index, 3)) (kk : ∀ (H1 : Heap) (locs1 : List Loc), H1.size = H.size → va_P D cl (ws.set q0 (a, .inr (ci, fs.set k v))) H1 → va_S A H0 H1 locs1 → W p l e R s m args below meth c H1 locs1 cells slots Q (F0 m (pc + 3) ls rest)) : W p l e R s m args below meth c H locs cells slots Q (F0 m pc ls (v :: .ref a :: rest)) := by
  have hap := va_apart (own := own) hts hin ty0 hty hnm hK hc
  obtain ⟨r, h1, cell, q1, q2, q3, q4⟩ := hP q0 _ he
  obtain rfl : r = (C, T, N) := Option.some.inj (h1.symm.trans hc)
  obtain ⟨hS, hfc, kC, hkC, hkind⟩ := hK.1 ci _ hc
  obtain ⟨cf, kf, fi, f, hi, hsl⟩ := hS k hk
  have hlay := hts _ (hin _ (u_in_lay hk))
  have hst := (u_facts hfc hkC (u_lays hts hin hk) hi).1
  have fin : ∀ (H' : Heap) (locs1 : List Loc), H'[a]? = some (cell.setSlot (D.2 ci k) v) → H'.size = H.size → (∀ q : Nat, q ≠ a → H'[q]? = H[q]?) → va_S A H0 H' locs1 → W p l e R s m args below meth c H' locs1 cells slots Q (F0 m (pc + 3) ls rest) := fun H' locs1 e1 e2 e3 e4 =>
    kk H' locs1 e2 (hP.set hD he ⟨_, hc, t_OB.to (V := updV (vp_V fs) k v) ⟨_, e1, q2, q3, t_set q4 hap hk v⟩ (fun j _ => vp_updV_set hl v j)⟩ e3) e4
  unfold u_lay at hlay
  rcases hfin with hfin | ⟨hfin, hin2, hdecl⟩
  · rw [if_neg (by rw [hfin]; decide)] at hlay
    have h6 := u_store hfc hkC hkind hlay hi hd hn hfit
    refine W.putK hexec hb (f := f) ⟨hown, hlink, ⟨_, _, _, hi⟩, hst⟩ (by rw [q2]; exact h6) q1 q3 (by rw [hsl]; exact k2_hasslot (q4 k hk)) rfl rfl hdg fun H' e1 e2 e3 => ?_
    rw [hsl] at e1 ⊢
    exact fin H' _ e1 e2 e3 (hS0.put e2 e3 (hD.2 q0 _ he))
  · rw [if_pos hfin] at hlay
    have hcf : m.cls = cf := by
      obtain ⟨_, _, c', _, _, _, -, -, hf', -, -, -, hown2, -⟩ := Cond.laysFinal_spec hlay
      have e1 : c' = cf := by have := hi.symm.trans hf'; simp at this; exact this.1.symm
      rw [hdecl] at hown2
      rw [← e1]; exact Option.some.inj (hown.symm.trans hown2)
    have h6 := u_fits hfc hkC hkind (Or.inr hlay) hi hd hn hfit
    refine W.putFinK hexec hb hown hlink hi hst hcf hin2 (by rw [q2]; exact h6) q1 q3 (by rw [hsl]; exact k2_hasslot (q4 k hk)) rfl rfl hdg fun H' e1 e2 e3 => ?_
    rw [hsl] at e1 ⊢
    exact fin H' _ e1 e2 e3 (hS0.put e2 e3 (hD.2 q0 _ he))
end ZP
section ZM2
variable {e : z_E} {ph : Bool} {d y Ni No pc N : Nat} {ls : List (Option z_V)} {st : List z_V} {σ : z_M} {Q : Int → z_M → Prop}
theorem z_s_putf {ci j ix : Nat} {q : vw_C} {x : Int} {v : z_V} (hc : z_cl[ci]? = some q) (hj : j < q.2.2) (hw : Cond.fieldLink (z_hd y).1.cls ix (q.2.1 j).1 (q.2.1 j).2.1 (q.2.1 j).2.2.1 ∈ z_gw) (hok : z_ok N (ci + 1) x = true) (hf : z_fw ph (ci + 1) j v) (hi : z_ir (z_un v)) (hini : z_ft (ci + 1) j = 2 → (z_hd y).1.name = "<init>" ∧ (q.2.1 j).1 = (z_hd y).1.cls) (hd : decode (z_hd y).2.1 pc = .ok (.putfield ix, 3))
    (h : z_X e ph d y Ni No (pc + 3) ls st N (z_up σ x j (z_un v)) Q) : z_X e ph d y Ni No pc ls (v :: z_R x :: st) N σ Q := by
  intro r1 r2 r3 p env s m args below meth c H locs la C R h1 h2 hl
  obtain ⟨hx, hb, -, -, hown, hts, -, hnm, hKS⟩ := id C
  obtain ⟨-, r2⟩ := List.forall_mem_cons.mp r2
  obtain ⟨-, r2⟩ := List.forall_mem_cons.mp r2
  obtain ⟨g0, g1, g2, g3⟩ := z_ok_sp hok
  obtain ⟨f1, f2, f3, f4⟩ := z_cls ci q hc
  obtain ⟨n1, n2, n3⟩ := z_fit (e := e) (x := x) hc hj hf
  rw [List.map_cons, List.map_cons, z_vv_pos (by omega)]
  have hci : ci < 9 := (List.getElem?_eq_some_iff.mp hc).1
  have he := z_wd_get (e := e) (ph := ph) (σ := σ) g1
  rw [z_ce_obj (kd := ci + 1) (by rw [g2]; exact g3) (by omega), g2] at he
  have hset : (z_wd e ph σ N).set x.toNat (e.2.1.size + x.toNat, .inr (ci, ((List.range (z_nf (ci + 1))).map (fun j : Nat => z_fv e ph (ci + 1) j x (σ x (j : Int)))).set j (z_vv e v))) = z_wd e ph (z_up σ x j (z_un v)) N :=
    z_wd_set (by rw [z_ce_up (kd := ci + 1) g2 g3 (by omega), ← n3]; rfl) (fun k' _ hk => z_up_o g2 hk)
  have hlen : j < ((List.range (z_nf (ci + 1))).map (fun j : Nat => z_fv e ph (ci + 1) j x (σ x (j : Int)))).length := by simp [f2, hj]
  have hfin := z_fin ci q hc j hj
  have key : ∀ (H1 : Heap) (locs1 : List Loc), H1.size = H.size → va_P e.2.2.1 z_cl (z_wd e ph (z_up σ x j (z_un v)) N) H1 → va_S (z_A e) e.2.1 H1 locs1 →
      W p e.1 env (z_rm d Ni No) s m args below meth c H1 locs1 (N - Ni) (z_sl N - z_sl Ni) (MQ below (z_Qc e ph (z_hd y).2.2.2.1 No Q) args s (No - Ni) (z_sl No - z_sl Ni) (z_A e)) (F0 m (pc + 3) la (st.map (z_vv e))) :=
    fun H1 locs1 hz hp hs => h r1 r2 (z_rM_up r3 hi) p env s m args below meth c H1 locs1 la C ⟨fun w => hz.trans (R.1 w), hp, hs⟩ h1 h2 hl
  obtain ⟨vv', hvv⟩ : ∃ w, z_vv e v = w := ⟨_, rfl⟩
  rw [hvv] at hset n1 n2 ⊢
  by_cases hff : z_ft (ci + 1) j = 2
  · obtain ⟨i1, i2⟩ := hini hff
    refine z_vput hx hb hts f1 (z_ty ci) f3 f4 hown hKS.1 R.2.1 z_wd_D R.2.2 x.toNat he hc j hj (hts _ hw) (Or.inr ⟨by rw [hfin]; simp [hff], hnm.trans i1, i2⟩) (f3 j hj) n1 n2 hlen hd (fun H1 locs1 hz hp hs => ?_)
    exact key H1 locs1 hz (by rw [← hset]; exact hp) hs
  · refine z_vput hx hb hts f1 (z_ty ci) f3 f4 hown hKS.1 R.2.1 z_wd_D R.2.2 x.toNat he hc j hj (hts _ hw) (Or.inl (by rw [hfin]; simp [hff])) (f3 j hj) n1 n2 hlen hd (fun H1 locs1 hz hp hs => ?_)
    exact key H1 locs1 hz (by rw [← hset]; exact hp) hs
end ZM2
