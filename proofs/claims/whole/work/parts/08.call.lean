/-! copies, calls, returns -/
section ZC
variable {e : z_E} {ph : Bool} {d y Ni No pc N : Nat} {ls : List (Option z_V)} {st : List z_V} {σ : z_M} {Q : Int → z_M → Prop}
theorem z_cat_sum : ∀ (st : List z_V), ((st.map (z_vv e)).map fun v => v.category).sum = z_cat st
  | [] => rfl
  | .inl x :: l => by
    simp only [List.map_cons, List.sum_cons, z_cat]
    rw [z_cat_sum l, z_cat2 (by intro x h; cases h)]; omega
  | .inr (.inl x) :: l => by
    simp only [List.map_cons, List.sum_cons, z_cat]
    rw [z_cat_sum l, show (z_vv e (.inr (.inl x))).category = 2 from rfl]; omega
  | .inr (.inr x) :: l => by
    simp only [List.map_cons, List.sum_cons, z_cat]
    rw [z_cat_sum l, z_cat2 (by intro x h; cases h)]; omega
theorem z_rM_cp {a sp dd dp n : Int} (h : z_rM σ) : z_rM (z_cp σ a sp dd dp n) := fun a' i' => by
  unfold z_cp; split
  · exact h _ _
  · exact h a' i'
theorem z_s_copy {k0 k1 n0 n1 ix : Nat} {src dst sp dp n : Int} (hph : ph = true) (ht0 : k0 / 100000 = 1) (hn0 : k0 % 100000 = n0) (ht1 : k1 / 100000 = 1) (hn1 : k1 % 100000 = n1) (hok0 : z_ok N k0 src = true) (hok1 : z_ok N k1 dst = true) (h0 : 0 ≤ sp) (h1' : 0 ≤ dp) (h2' : 0 ≤ n) (h3 : sp + n ≤ (n0 : Int)) (h4 : dp + n ≤ (n1 : Int)) (hcat : z_cat st ≤ 8)
    (hw1 : Cond.methodLink (z_hd y).1.cls ix arraycopyName ∈ z_gw) (hw2 : Cond.native arraycopyName ∈ z_gw) (hw3 : Cond.static arraycopyName ∈ z_gw) (hw4 : Cond.initialized "java/lang/System" ∈ z_gw) (hd1 : 1 ≤ d) (hd : decode (z_hd y).2.1 pc = .ok (.invokestatic ix, 3))
    (h : z_X e ph d y Ni No (pc + 3) ls st N (z_cp σ src sp dst dp n) Q) : z_X e ph d y Ni No pc ls (z_I n :: z_I dp :: z_R dst :: z_I sp :: z_R src :: st) N σ Q := by
  intro r1 r2 r3 p env s m args below meth c H locs la C R h1 h2 hl
  obtain ⟨hx, hb, -, hml, hown, hts, -, -, hKS⟩ := id C
  obtain ⟨rn, r2⟩ := List.forall_mem_cons.mp r2
  obtain ⟨rdp, r2⟩ := List.forall_mem_cons.mp r2
  obtain ⟨-, r2⟩ := List.forall_mem_cons.mp r2
  obtain ⟨rsp, r2⟩ := List.forall_mem_cons.mp r2
  obtain ⟨-, r2⟩ := List.forall_mem_cons.mp r2
  obtain ⟨a0, a1, a2, a3⟩ := z_ok_sp hok0
  obtain ⟨b0, b1, b2, b3⟩ := z_ok_sp hok1
  simp only [List.map_cons]
  rw [z_vv_pos (x := src) (by omega), z_vv_pos (x := dst) (by omega)]
  have he0 := z_wd_get (e := e) (ph := ph) (σ := σ) a1
  rw [z_ce_arr (kd := k0) (by rw [a2]; exact a3) ht0 hn0 (Or.inl rfl), a2] at he0
  have he1 := z_wd_get (e := e) (ph := ph) (σ := σ) b1
  have hce := fun σ0 => z_ce_arr (e := e) (ph := ph) (σ := σ0) (k := dst.toNat) (kd := k1) (by rw [b2]; exact b3) ht1 hn1 (Or.inl rfl)
  rw [hce, b2] at he1
  have hset : (z_wd e ph σ N).set dst.toNat (e.2.1.size + dst.toNat, .inl (e.2.2.2 1, n1, .inl (va_cpy (fun j : Nat => Int32.ofInt (σ src (j : Int))) (fun j : Nat => Int32.ofInt (σ dst (j : Int))) sp.toNat dp.toNat n.toNat))) = z_wd e ph (z_cp σ src sp dst dp n) N := by
    refine z_wd_set ?_ (fun k' _ hk => z_ce_congr fun j => by unfold z_cp; rw [if_neg (by omega)])
    rw [hce, b2]
    congr 4
    funext q
    unfold va_cpy z_cp
    by_cases hq : dp.toNat ≤ q ∧ q < dp.toNat + n.toNat
    · rw [if_pos hq, if_pos ⟨rfl, by omega, by omega⟩]
      congr 2
      omega
    · rw [if_neg hq, if_neg (by omega)]
  refine va_copyi (H0 := e.2.1) hx hb (hml.trans hl.1.symm) hown (hts _ hw1) (hts _ hw2) (hts _ hw3) (hts _ hw4) hKS.1 R.2.1 z_wd_D R.2.2 src.toNat dst.toNat 0 0 he0 he1 rfl rfl rfl
    (by rw [z_zero, z_lt rsp z_ir0]; omega) (by rw [z_zero, z_lt rdp z_ir0]; omega) (by rw [z_zero, z_lt rn z_ir0]; omega) (by rw [z_nat rsp, z_nat rn]; omega) (by rw [z_nat rdp, z_nat rn]; omega) (fun _ _ => rfl) hd1 ?_ hd (fun H1 locs1 hp hdd hs => ?_)
  · rw [z_cat_sum]
    show z_cat st + (nativeFrameWords "java/lang/System" "arraycopy" 5 + 11) ≤ 40 * d + 60
    have : nativeFrameWords "java/lang/System" "arraycopy" 5 ≤ 7 := by decide +kernel
    omega
  · rw [z_nat rsp, z_nat rdp, z_nat rn] at hp
    exact h r1 r2 (z_rM_cp r3) p env s m args below meth c H1 locs1 la C ⟨fun w => absurd (hph.symm.trans w) (by decide), (by rw [← hset]; exact hp), hs⟩ h1 h2 hl
theorem z_s_copyz {k0 k1 n0 n1 ix : Nat} {src dst sp dp n : Int} (hph : ph = true) (ht0 : k0 / 100000 = 2) (hn0 : k0 % 100000 = n0) (ht1 : k1 / 100000 = 2) (hn1 : k1 % 100000 = n1) (hok0 : z_ok N k0 src = true) (hok1 : z_ok N k1 dst = true) (h0 : 0 ≤ sp) (h1' : 0 ≤ dp) (h2' : 0 ≤ n) (h3 : sp + n ≤ (n0 : Int)) (h4 : dp + n ≤ (n1 : Int)) (hcat : z_cat st ≤ 8)
    (hw1 : Cond.methodLink (z_hd y).1.cls ix arraycopyName ∈ z_gw) (hw2 : Cond.native arraycopyName ∈ z_gw) (hw3 : Cond.static arraycopyName ∈ z_gw) (hw4 : Cond.initialized "java/lang/System" ∈ z_gw) (hd1 : 1 ≤ d) (hd : decode (z_hd y).2.1 pc = .ok (.invokestatic ix, 3)) (h01 : ∀ i : Int, 0 ≤ i → i < (n0 : Int) → σ src i = 0 ∨ σ src i = 1)
    (h : z_X e ph d y Ni No (pc + 3) ls st N (z_cp σ src sp dst dp n) Q) : z_X e ph d y Ni No pc ls (z_I n :: z_I dp :: z_R dst :: z_I sp :: z_R src :: st) N σ Q := by
  intro r1 r2 r3 p env s m args below meth c H locs la C R h1 h2 hl
  obtain ⟨hx, hb, -, hml, hown, hts, -, -, hKS⟩ := id C
  obtain ⟨rn, r2⟩ := List.forall_mem_cons.mp r2
  obtain ⟨rdp, r2⟩ := List.forall_mem_cons.mp r2
  obtain ⟨-, r2⟩ := List.forall_mem_cons.mp r2
  obtain ⟨rsp, r2⟩ := List.forall_mem_cons.mp r2
  obtain ⟨-, r2⟩ := List.forall_mem_cons.mp r2
  obtain ⟨a0, a1, a2, a3⟩ := z_ok_sp hok0
  obtain ⟨b0, b1, b2, b3⟩ := z_ok_sp hok1
  simp only [List.map_cons]
  rw [z_vv_pos (x := src) (by omega), z_vv_pos (x := dst) (by omega)]
  have he0 := z_wd_get (e := e) (ph := ph) (σ := σ) a1
  rw [z_ce_arr (kd := k0) (by rw [a2]; exact a3) ht0 hn0 (Or.inr rfl), a2] at he0
  have he1 := z_wd_get (e := e) (ph := ph) (σ := σ) b1
  have hce := fun σ0 => z_ce_arr (e := e) (ph := ph) (σ := σ0) (k := dst.toNat) (kd := k1) (by rw [b2]; exact b3) ht1 hn1 (Or.inr rfl)
  rw [hce, b2] at he1
  have hset : (z_wd e ph σ N).set dst.toNat (e.2.1.size + dst.toNat, .inl (e.2.2.2 2, n1, .inl (va_cpy (fun j : Nat => Int32.ofInt (σ src (j : Int))) (fun j : Nat => Int32.ofInt (σ dst (j : Int))) sp.toNat dp.toNat n.toNat))) = z_wd e ph (z_cp σ src sp dst dp n) N := by
    refine z_wd_set ?_ (fun k' _ hk => z_ce_congr fun j => by unfold z_cp; rw [if_neg (by omega)])
    rw [hce, b2]
    congr 4
    funext q
    unfold va_cpy z_cp
    by_cases hq : dp.toNat ≤ q ∧ q < dp.toNat + n.toNat
    · rw [if_pos hq, if_pos ⟨rfl, by omega, by omega⟩]
      congr 2
      omega
    · rw [if_neg hq, if_neg (by omega)]
  refine va_copyi (H0 := e.2.1) (ty := .boolean) hx hb (hml.trans hl.1.symm) hown (hts _ hw1) (hts _ hw2) (hts _ hw3) (hts _ hw4) hKS.1 R.2.1 z_wd_D R.2.2 src.toNat dst.toNat 1 1 he0 he1 rfl rfl rfl
    (by rw [z_zero, z_lt rsp z_ir0]; omega) (by rw [z_zero, z_lt rdp z_ir0]; omega) (by rw [z_zero, z_lt rn z_ir0]; omega) (by rw [z_nat rsp, z_nat rn]; omega) (by rw [z_nat rdp, z_nat rn]; omega) (fun i hi => ?_) hd1 ?_ hd (fun H1 locs1 hp hdd hs => ?_)
  · rw [z_nat rn] at hi
    rw [z_nat rsp]
    rcases h01 ((sp.toNat + i : Nat) : Int) (by omega) (by omega) with q | q <;> rw [q] <;> rfl
  · rw [z_cat_sum]
    show z_cat st + (nativeFrameWords "java/lang/System" "arraycopy" 5 + 11) ≤ 40 * d + 60
    have : nativeFrameWords "java/lang/System" "arraycopy" 5 ≤ 7 := by decide +kernel
    omega
  · rw [z_nat rsp, z_nat rdp, z_nat rn] at hp
    exact h r1 r2 (z_rM_cp r3) p env s m args below meth c H1 locs1 la C ⟨fun w => absurd (hph.symm.trans w) (by decide), (by rw [← hset]; exact hp), hs⟩ h1 h2 hl
def z_abs (x : Int) : Int := if 0 ≤ x then x else z_wr (0 - x)
theorem z_s_abs {x : Int} {ix : Nat} (hcat : z_cat st ≤ 8) (hw1 : Cond.methodLink (z_hd y).1.cls ix Lib.Math.abs.name ∈ z_gw) (hw2 : Cond.static Lib.Math.abs.name ∈ z_gw) (hw3 : Cond.initialized "java/lang/Math" ∈ z_gw) (hw4 : Cond.code Lib.Math.abs.name Lib.Math.abs.code 1 (some .int) ∈ z_gw) (hd1 : 1 ≤ d) (hd : decode (z_hd y).2.1 pc = .ok (.invokestatic ix, 3))
    (h : z_X e ph d y Ni No (pc + 3) ls (z_I (z_abs x) :: st) N σ Q) : z_X e ph d y Ni No pc ls (z_I x :: st) N σ Q := by
  intro r1 r2 r3 p env s m args below meth c H locs la C R h1 h2 hl
  obtain ⟨hx, hb, -, hml, hown, hts, -, -, hKS⟩ := id C
  obtain ⟨rx, r2⟩ := List.forall_mem_cons.mp r2
  have hir : z_ir (z_abs x) := by
    unfold z_abs
    split
    · exact rx
    · exact z_wr_ir _
  have hk := h r1 (List.forall_mem_cons.mpr ⟨hir, r2⟩) r3 p env s m args below meth c H locs la C R h1 h2 hl
  refine va_mabs hx hb (hml.trans hl.1.symm) hown (hts _ hw1) (hts _ hw2) (hts _ hw3) (hts _ hw4) hd1 ?_ ?_ ?_ hd ?_
  · rw [z_cat_sum]; show z_cat st + 13 ≤ 40 * d + 60; omega
  · show N - Ni ≤ No - Ni; omega
  · have := z_sl_mono h2; show z_sl N - z_sl Ni ≤ z_sl No - z_sl Ni; omega
  · rw [List.map_cons, show z_vv e (z_I (z_abs x)) = Value.int (if 0 ≤ Int32.ofInt x then Int32.ofInt x else 0 - Int32.ofInt x) from congrArg Value.int ?_] at hk
    · exact hk
    · unfold z_abs
      rw [z_zero]
      by_cases hq : 0 ≤ x
      · rw [if_pos hq, if_pos ((z_le z_ir0 rx).mpr hq)]
      · rw [if_neg hq, if_neg (fun w => hq ((z_le z_ir0 rx).mp w)), z_of_wr, Int32.ofInt_sub]
theorem z_s_obj {x : Int} {ix : Nat} (hx0 : 0 ≤ x) (hcat : z_cat st ≤ 8) (hw1 : Cond.methodLink (z_hd y).1.cls ix Lib.objectInit ∈ z_gw) (hw2 : Cond.instanceMethod Lib.objectInit ∈ z_gw) (hw3 : Cond.code Lib.objectInit ⟨#[0xb1]⟩ 1 none ∈ z_gw) (hd1 : 1 ≤ d) (hd : decode (z_hd y).2.1 pc = .ok (.invokespecial ix, 3))
    (h : z_X e ph d y Ni No (pc + 3) ls st N σ Q) : z_X e ph d y Ni No pc ls (z_R x :: st) N σ Q := by
  intro r1 r2 r3 p env s m args below meth c H locs la C R h1 h2 hl
  obtain ⟨hx, hb, -, hml, hown, hts, -, -, hKS⟩ := id C
  obtain ⟨-, r2⟩ := List.forall_mem_cons.mp r2
  have hk := h r1 r2 r3 p env s m args below meth c H locs la C R h1 h2 hl
  rw [List.map_cons, z_vv_pos (by omega)]
  refine W.objInit hx hb hown (hts _ hw1) (hts _ hw2) (hts _ hw3) rfl (hl.1.trans hml.symm) rfl hd hd1 ?_ hk
  rw [z_cat_sum]
  show 2 * 0 + z_cat st + 12 ≤ 40 * d + 60
  omega
/-! returns -/
theorem z_end {H : Heap} {locs : List Loc} {args : Array Value} {s : State} {r : Int} (hN : N = No) (R : z_Rep e ph N σ H locs) (hq : Q r σ) (r3 : z_rM σ) (hr : z_rr (z_hd y).2.2.2.1 r) {v : Option Value} (hv : v = z_rv e (z_hd y).2.2.2.1 r) : (∀ t : State, t.heap = H → s.WarmedH t.vm → z_Qc e ph (z_hd y).2.2.2.1 No Q args s (.returned v) t) ∧ ∀ q ∈ locs, z_A e q.base := by
  refine ⟨fun t ht _ => ?_, R.2.2.2.2⟩
  subst hN; subst ht
  exact ⟨r, σ, hq, r3, hr, by rw [hv], R.1, R.2.1, R.2.2.1, R.2.2.2.1, fun l h => by cases h⟩
theorem z_s_ret (hN : N = No) (hr : (z_hd y).2.2.2.1 = none) (hd : decode (z_hd y).2.1 pc = .ok (.return_, 1)) (hq : Q 0 σ) : z_X e ph d y Ni No pc ls [] N σ Q := by
  intro r1 r2 r3 p env s m args below meth c H locs la C R h1 h2 hl
  obtain ⟨hx, hb, hrt, hml, hown, hts, hlk, -, hKS⟩ := id C
  obtain ⟨k1, k2⟩ := z_end (args := args) (s := s) (v := none) hN R hq r3 (by rw [hr]; trivial) (by rw [hr]; rfl)
  subst hN
  exact W.vret hx hb (hrt.trans hr) k1 k2 hd hlk
theorem z_s_iret {x : Int} (hN : N = No) (hr : (z_hd y).2.2.2.1 = some .int) (hd : decode (z_hd y).2.1 pc = .ok (.ireturn, 1)) (hq : Q x σ) : z_X e ph d y Ni No pc ls [z_I x] N σ Q := by
  intro r1 r2 r3 p env s m args below meth c H locs la C R h1 h2 hl
  obtain ⟨hx, hb, hrt, hml, hown, hts, hlk, -, hKS⟩ := id C
  obtain ⟨rx, -⟩ := List.forall_mem_cons.mp r2
  obtain ⟨k1, k2⟩ := z_end (args := args) (s := s) (v := some (.int (Int32.ofInt x))) hN R hq r3 (by rw [hr]; exact rx) (by rw [hr]; rfl)
  subst hN
  exact W.iret hx hb (hrt.trans hr) k1 k2 hd hlk
theorem z_s_zret {x : Int} (hN : N = No) (h01 : x = 0 ∨ x = 1) (hr : (z_hd y).2.2.2.1 = some .boolean) (hd : decode (z_hd y).2.1 pc = .ok (.ireturn, 1)) (hq : Q x σ) : z_X e ph d y Ni No pc ls [z_I x] N σ Q := by
  intro r1 r2 r3 p env s m args below meth c H locs la C R h1 h2 hl
  obtain ⟨hx, hb, hrt, hml, hown, hts, hlk, -, hKS⟩ := id C
  obtain ⟨rx, -⟩ := List.forall_mem_cons.mp r2
  obtain ⟨k1, k2⟩ := z_end (args := args) (s := s) (v := some (.int (Int32.ofInt x))) hN R hq r3 (by rw [hr]; exact rx) (by rw [hr]; rfl)
  subst hN
  exact W.zret hx hb (hrt.trans hr) (by rcases h01 with rfl | rfl <;> rfl) k1 k2 hd hlk
theorem z_s_lret {x : Int} (hN : N = No) (hr : (z_hd y).2.2.2.1 = some .long) (hd : decode (z_hd y).2.1 pc = .ok (.lreturn, 1)) (hq : Q x σ) : z_X e ph d y Ni No pc ls [z_J x] N σ Q := by
  intro r1 r2 r3 p env s m args below meth c H locs la C R h1 h2 hl
  obtain ⟨hx, hb, hrt, hml, hown, hts, hlk, -, hKS⟩ := id C
  obtain ⟨rx, -⟩ := List.forall_mem_cons.mp r2
  obtain ⟨k1, k2⟩ := z_end (args := args) (s := s) (v := some (.long (Int64.ofInt x))) hN R hq r3 (by rw [hr]; exact rx) (by rw [hr]; rfl)
  subst hN
  exact W.lret hx hb (hrt.trans hr) k1 k2 hd hlk
theorem z_s_aret {x : Int} {n : String} (hN : N = No) (hr : (z_hd y).2.2.2.1 = some (.object n)) (hd : decode (z_hd y).2.1 pc = .ok (.areturn, 1)) (hq : Q x σ) : z_X e ph d y Ni No pc ls [z_R x] N σ Q := by
  intro r1 r2 r3 p env s m args below meth c H locs la C R h1 h2 hl
  obtain ⟨hx, hb, hrt, hml, hown, hts, hlk, -, hKS⟩ := id C
  obtain ⟨k1, k2⟩ := z_end (args := args) (s := s) (v := some (z_vv e (z_R x))) hN R hq r3 (by rw [hr]; trivial) (by rw [hr]; rfl)
  subst hN
  exact W.aret hx hb (hrt.trans hr) (Or.inl ⟨n, rfl⟩) (va_rf_or _) k1 k2 hd hlk
/-! calls -/
def z_hok0 (y : Nat) : Bool := z_hasW (z_hd y).2.2.2.2.2.2.2.1.2.2.1 (.initialized (z_hd y).1.cls) &&
  z_hasW (z_hd y).2.2.2.2.2.2.2.1.2.1 (cond (z_hd y).2.2.2.2.2.2.2.2 (.static (z_hd y).1) (.instanceMethod (z_hd y).1)) && decide ((z_hd y).1.cls ≠ "java/lang/invoke/MethodHandle" ∧ (z_hd y).1.cls ≠ "java/lang/invoke/VarHandle") &&
  decide ((parseMethodDescriptor (z_hd y).1.desc).map (fun d => d.parameters.length) = some (z_hd y).2.2.2.2.2.1) && decide ((z_cl[(z_hd y).2.2.2.2.1]?).map (fun q => q.1) = some (z_hd y).1.cls) && decide ((z_hd y).2.2.1 ≤ 21)
def z_hok (y : Nat) : Prop := Cond.code (z_hd y).1 (z_hd y).2.1 (z_hd y).2.2.1 (z_hd y).2.2.2.1 ∈ z_gw ∧ z_hok0 y = true
theorem z_nw_form : ∀ w ∈ z_nw, ∃ (a : String) (i : Nat) (x : MethodName) (h : String), w = .methodLinkNest a i x h := by
  unfold z_nw
  repeat' (refine List.forall_mem_cons.mpr ⟨⟨_, _, _, _, rfl⟩, ?_⟩)
  intro w h; cases h
theorem z_KS_warm {s U : State} (hW : s.WarmedH U.vm) (h : z_KS e s) : z_KS e U := by
  refine ⟨va_K.moved hW.alike h.1, fun w hw => ?_, fun C hC => va_AO.moved hW.alike (h.2.2 C hC)⟩
  obtain ⟨a, i, x, hh, rfl⟩ := z_nw_form w hw
  exact va_Nw.warmM hW (h.2.1 _ hw)
theorem z_KS_calling {U : State} {g : JFrame} {mk : MethodId} {a : Array Value} (h : z_KS e U) : z_KS e (U.calling g mk a) := by
  refine ⟨va_K.moved (u := U) (U := U.calling g mk a) (Vm.Alike.refl U.vm) h.1, fun w hw => ?_, fun C hC => va_AO.moved (u := U) (U := U.calling g mk a) (Vm.Alike.refl U.vm) (h.2.2 C hC)⟩
  have h2 := h.2.1 w hw
  obtain ⟨a, i, x, hh, rfl⟩ := z_nw_form w hw
  exact va_tabs (A := #[]) (u := U) rfl rfl h2
theorem z_blind {args : List z_V} : FrameBlind (z_Pc e ph args N σ) := fun a U g mk h => ⟨h.1, z_KS_calling h.2.1, h.2.2⟩
theorem z_pre {args : List z_V} {s U : State} {H : Heap} {locs : List Loc} (hKS : z_KS e s) (R : z_Rep e ph N σ H locs) (hU : U.heap = H) (hW : s.WarmedH U.vm) : z_Pc e ph args N σ (args.map (z_vv e)).toArray U :=
  ⟨rfl, z_KS_warm hW hKS, by rw [hU]; exact ⟨R.1, R.2.1, R.2.2.1, R.2.2.2.1, fun l h => by cases h⟩⟩
/-- the stack behind a call -/
def z_rs (rt : Option FieldType) (r : Int) (st : List z_V) : List z_V := match rt with
  | none => st
  | some .long => z_J r :: st
  | some (.object _) => z_R r :: st
  | some _ => z_I r :: st
theorem z_rs_vv (rt : Option FieldType) (r : Int) (st : List z_V) : (z_rs rt r st).map (z_vv e) = (z_rv e rt r).toList ++ st.map (z_vv e) := by
  cases rt with
  | none => rfl
  | some t => cases t <;> rfl
theorem z_rs_rg (rt : Option FieldType) (r : Int) (st : List z_V) (h : z_rS st) (hr : z_rr rt r) : z_rS (z_rs rt r st) := by
  cases rt with
  | none => exact h
  | some t => cases t <;> exact List.forall_mem_cons.mpr ⟨hr, h⟩
theorem z_run {N' pc : Nat} (y' : Nat) {args0 : List z_V} {p : Program} {env : Env} {s : State} {m : MethodId} {args : Array Value} {below : List Frame} {meth : Method} {c : Code} {H : Heap} {locs : List Loc} {la : Array Slot} {st0 : List Value} (r1 : z_rL ls) (r2 : z_rS st) (C : z_Cx e y p s m args meth c) (h1 : Ni ≤ N) (hN1 : N ≤ N') (hN2 : N' ≤ No) (hl : lv_has la (z_hd y).2.2.1 (z_en e 0 ls)) (R : z_Rep e ph N σ H locs)
    (hr : va_Run p e.1 env (z_rm d Ni No) s m args below meth c H locs (N - Ni) (z_sl N - z_sl Ni) (N' - N) (z_sl N' - z_sl N) (F0 m pc la st0) (st.map (z_vv e)) (z_Qc e ph (z_hd y').2.2.2.1 N' (fun r σ' => z_X e ph d y Ni No (pc + 3) ls (z_rs (z_hd y').2.2.2.1 r st) N' σ' Q) (args0.map (z_vv e)).toArray) (z_A e)) :
    W p e.1 env (z_rm d Ni No) s m args below meth c H locs (N - Ni) (z_sl N - z_sl Ni) (MQ below (z_Qc e ph (z_hd y).2.2.2.1 No Q) args s (No - Ni) (z_sl No - z_sl Ni) (z_A e)) (F0 m pc la st0) := by
  intro T hT X
  obtain ⟨v, st₀, t, T', L, h0, X', hL, e1, e2, ⟨r, σ', hX, hM, hrr, hv, R'⟩, stp⟩ := hr T hT X
  have hv' : v = z_rv e (z_hd y').2.2.2.1 r := by cases hv; rfl
  subst hv'
  have m1 := z_sl_mono h1
  have m2 := z_sl_mono hN1
  rw [show N - Ni + (N' - N) = N' - Ni by omega, show z_sl N - z_sl Ni + (z_sl N' - z_sl N) = z_sl N' - z_sl Ni by omega] at X'
  obtain ⟨t2, a1, b1⟩ := hX r1 (z_rs_rg _ _ _ r2 hrr) hM p env s m args below meth c T'.heap (locs ++ L) la C ⟨by rw [e1]; exact R'.1, by rw [e1]; exact R'.2.1, by rw [e1]; exact R'.2.2.1, by rw [e1]; exact R'.2.2.2.1, fun q hq => by
    rcases List.mem_append.mp hq with h | h
    · exact R.2.2.2.2 q h
    · exact hL q h⟩ (by omega) hN2 hl T' rfl X'
  rw [z_rs_vv] at a1
  exact ⟨t2, stp t2 a1, b1⟩
theorem z_hok_sp {y' : Nat} (h : z_hok y') : Cond.code (z_hd y').1 (z_hd y').2.1 (z_hd y').2.2.1 (z_hd y').2.2.2.1 ∈ z_gw ∧ Cond.initialized (z_hd y').1.cls ∈ z_gw ∧ (cond (z_hd y').2.2.2.2.2.2.2.2 (Cond.static (z_hd y').1) (.instanceMethod (z_hd y').1)) ∈ z_gw ∧ ((z_hd y').1.cls ≠ "java/lang/invoke/MethodHandle" ∧ (z_hd y').1.cls ≠ "java/lang/invoke/VarHandle") ∧ (parseMethodDescriptor (z_hd y').1.desc).map (fun d => d.parameters.length) = some (z_hd y').2.2.2.2.2.1 ∧ (z_cl[(z_hd y').2.2.2.2.1]?).map (fun q => q.1) = some (z_hd y').1.cls ∧ (z_hd y').2.2.1 ≤ 21 := by
  obtain ⟨a, h⟩ := h
  simp only [z_hok0, Bool.and_eq_true, decide_eq_true_eq] at h
  obtain ⟨⟨⟨⟨⟨b, c⟩, d⟩, e⟩, f⟩, g⟩ := h
  exact ⟨a, z_in_gw b, z_in_gw c, d, e, f, g⟩
theorem z_good {ws : List Cond} (h : ∀ w ∈ ws, w ∈ z_gw) : GoodIn z_gw ws := fun w hw => ⟨h w hw, good_of_word (List.mem_filter.mp (h w hw)).2⟩
theorem z_cr {d' N' : Nat} (y' : Nat) (h : (z_hd y').2.2.1 ≤ 21) : (z_rm d' N N').frames + 1 ≤ (z_rm (d' + 1) Ni No).frames ∧ 8 + ((z_hd y').2.2.1 + 11) + (z_rm d' N N').locals ≤ (z_rm (d' + 1) Ni No).locals := by
  show d' + 1 ≤ d' + 1 ∧ 8 + ((z_hd y').2.2.1 + 11) + (40 * d' + 60) ≤ 40 * (d' + 1) + 60
  omega
theorem z_wsin {y' : Nat} (h : z_hok y') : ∀ w ∈ z_ws y', w ∈ z_gw := fun w hw => by
  rcases List.mem_cons.mp hw with rfl | hw
  · exact (z_hok_sp h).1
  · exact hw
theorem z_cf {N' : Nat} (h1 : Ni ≤ N) (hN1 : N ≤ N') (hN2 : N' ≤ No) : N - Ni + (N' - N) ≤ (z_rm d Ni No).cells ∧ z_sl N - z_sl Ni + (z_sl N' - z_sl N) ≤ (z_rm d Ni No).slots := by
  have m1 := z_sl_mono h1
  have m2 := z_sl_mono hN1
  have m3 := z_sl_mono hN2
  show N - Ni + (N' - N) ≤ No - Ni ∧ z_sl N - z_sl Ni + (z_sl N' - z_sl N) ≤ z_sl No - z_sl Ni
  omega
theorem z_s_callV {y' N' ix : Nat} {b : Int} {As : List z_V} (hh : z_hok y') (hst : (z_hd y').2.2.2.2.2.2.2.2 = false) (hn : As.length = (z_hd y').2.2.2.2.2.1) (hcat : z_cat st ≤ 8) (hok : z_ok N ((z_hd y').2.2.2.2.1 + 1) b = true) (hw1 : Cond.methodLink (z_hd y).1.cls ix (z_hd y').1 ∈ z_gw) (hw2 : Cond.selects (z_hd y').1.cls (z_hd y').1 (z_hd y').1 ∈ z_gw) (hN2 : N' ≤ No) (hd : decode (z_hd y).2.1 pc = .ok (.invokevirtual ix, 3))
    (h : z_Y e ph d y' (z_R b :: As) N N' σ (fun r σ' => z_X e ph d y Ni No (pc + 3) ls (z_rs (z_hd y').2.2.2.1 r st) N' σ' Q)) : z_X e ph d y Ni No pc ls (As.reverse ++ z_R b :: st) N σ Q := by
  intro r1 r2 r3 p env s m args below meth c H locs la C R h1 h2 hl
  obtain ⟨hx, hb, -, hml, hown, hts, -, -, hKS⟩ := id C
  obtain ⟨k1, k2, k3, k4, k5, k6, k7⟩ := z_hok_sp hh
  rw [hst, cond_false] at k3
  have rA : z_rS As := fun v hv => r2 v (List.mem_append_left _ (List.mem_reverse.mpr hv))
  have rst : z_rS st := fun v hv => r2 v (List.mem_append_right _ (List.mem_cons_of_mem _ hv))
  obtain ⟨d', rfl, hN1, hM⟩ := h (List.forall_mem_cons.mpr ⟨trivial, rA⟩) r3
  obtain ⟨g0, g1, g2, g3⟩ := z_ok_sp hok
  obtain ⟨q, hc, hq⟩ := Option.map_eq_some_iff.mp k6
  have hci : (z_hd y').2.2.2.2.1 < 9 := (List.getElem?_eq_some_iff.mp hc).1
  have he := z_wd_get (e := e) (ph := ph) (σ := σ) g1
  rw [z_ce_obj (kd := (z_hd y').2.2.2.2.1 + 1) (by rw [g2]; exact g3) (by omega), g2] at he
  have hvb : z_vv e (z_R b) = .ref (e.2.1.size + b.toNat) := z_vv_pos (by omega)
  rw [List.map_append, List.map_cons, List.map_reverse, hvb]
  refine z_run y' (args0 := z_R b :: As) r1 rst C h1 hN1 hN2 hl R ?_
  rw [List.map_cons, hvb]
  refine va_runV (C := (z_hd y').1.cls) ⟨hx, hb, hml, hown, hts⟩ hM (cwV _ hts (z_good ?_) rfl rfl rfl ⟨rfl, k4.1, k4.2, k5⟩ (z_cr y' k7)) ⟨z_blind, ?_, fun U hU hW => ?_⟩ rfl (by rw [List.length_map]; exact hn) hl.1 rfl (lv_room (by rw [z_cat_sum]; exact hcat)) hd (z_cf h1 hN1 hN2)
  · intro w hw
    rcases List.mem_append.mp hw with hw | hw
    · simp only [List.mem_cons, List.not_mem_nil, or_false] at hw
      rcases hw with rfl | rfl | rfl | rfl
      · exact hw1
      · exact k3
      · exact hw2
      · exact k2
    · exact z_wsin hh w hw
  · rw [← hq]
    exact va_recv hKS.1 R.2.1 hc he
  · have := z_pre (args := z_R b :: As) hKS R hU hW
    rw [List.map_cons, hvb] at this
    exact this
theorem z_s_callS {y' N' ix : Nat} {As : List z_V} (hh : z_hok y') (hst : (z_hd y').2.2.2.2.2.2.2.2 = true) (hn : As.length = (z_hd y').2.2.2.2.2.1) (hcat : z_cat st ≤ 8) (hown' : (z_hd y').1.cls = (z_hd y).1.cls) (hw1 : Cond.methodLink (z_hd y).1.cls ix (z_hd y').1 ∈ z_gw) (hN2 : N' ≤ No) (hd : decode (z_hd y).2.1 pc = .ok (.invokestatic ix, 3))
    (h : z_Y e ph d y' As N N' σ (fun r σ' => z_X e ph d y Ni No (pc + 3) ls (z_rs (z_hd y').2.2.2.1 r st) N' σ' Q)) : z_X e ph d y Ni No pc ls (As.reverse ++ st) N σ Q := by
  intro r1 r2 r3 p env s m args below meth c H locs la C R h1 h2 hl
  obtain ⟨hx, hb, -, hml, hown, hts, -, -, hKS⟩ := id C
  obtain ⟨k1, k2, k3, k4, k5, k6, k7⟩ := z_hok_sp hh
  rw [hst, cond_true] at k3
  have rA : z_rS As := fun v hv => r2 v (List.mem_append_left _ (List.mem_reverse.mpr hv))
  have rst : z_rS st := fun v hv => r2 v (List.mem_append_right _ hv)
  obtain ⟨d', rfl, hN1, hM⟩ := h rA r3
  rw [List.map_append, List.map_reverse]
  refine z_run y' (args0 := As) r1 rst C h1 hN1 hN2 hl R ?_
  refine va_runS ⟨hx, hb, hml, hown, hts⟩ hM (cwS _ hts (z_good ?_) rfl rfl rfl ⟨hown', k4.1, k4.2, k5⟩ (z_cr y' k7)) ⟨z_blind, fun U hU hW => ?_⟩ rfl (by rw [List.length_map]; exact hn) hl.1 rfl (lv_room (by rw [z_cat_sum]; exact hcat)) hd (z_cf h1 hN1 hN2)
  · intro w hw
    rcases List.mem_append.mp hw with hw | hw
    · simp only [List.mem_cons, List.not_mem_nil, or_false] at hw
      rcases hw with rfl | rfl | rfl
      · exact hw1
      · exact k3
      · rw [← hown']; exact k2
    · exact z_wsin hh w hw
  · exact z_pre (args := As) hKS R hU hW
theorem z_s_callSN {y' N' ix : Nat} {host : String} {As : List z_V} (hh : z_hok y') (hst : (z_hd y').2.2.2.2.2.2.2.2 = true) (hn : As.length = (z_hd y').2.2.2.2.2.1) (hcat : z_cat st ≤ 8) (hw1 : Cond.methodLinkNest (z_hd y).1.cls ix (z_hd y').1 host ∈ z_nw) (hN2 : N' ≤ No) (hd : decode (z_hd y).2.1 pc = .ok (.invokestatic ix, 3))
    (h : z_Y e ph d y' As N N' σ (fun r σ' => z_X e ph d y Ni No (pc + 3) ls (z_rs (z_hd y').2.2.2.1 r st) N' σ' Q)) : z_X e ph d y Ni No pc ls (As.reverse ++ st) N σ Q := by
  intro r1 r2 r3 p env s m args below meth c H locs la C R h1 h2 hl
  obtain ⟨hx, hb, -, hml, hown, hts, -, -, hKS⟩ := id C
  obtain ⟨k1, k2, k3, k4, k5, k6, k7⟩ := z_hok_sp hh
  rw [hst, cond_true] at k3
  have rA : z_rS As := fun v hv => r2 v (List.mem_append_left _ (List.mem_reverse.mpr hv))
  have rst : z_rS st := fun v hv => r2 v (List.mem_append_right _ hv)
  obtain ⟨d', rfl, hN1, hM⟩ := h rA r3
  rw [List.map_append, List.map_reverse]
  refine z_run y' (args0 := As) r1 rst C h1 hN1 hN2 hl R ?_
  exact va_runSN ⟨hx, hb, hml, hown, hts⟩ hM ⟨va_cnB _ hts (z_good (z_wsin hh)) rfl rfl rfl (hKS.2.1 _ hw1) (hts _ k2) ⟨k4.1, k4.2, k5⟩ (z_cr y' k7), hts _ k3, trivial⟩ ⟨z_blind, fun U hU hW => z_pre (args := As) hKS R hU hW⟩ rfl (by rw [List.length_map]; exact hn) hl.1 rfl (lv_room (by rw [z_cat_sum]; exact hcat)) hd (z_cf h1 hN1 hN2)
theorem z_s_callI {y' N' ix : Nat} {b : Int} {As : List z_V} (hh : z_hok y') (hst : (z_hd y').2.2.2.2.2.2.2.2 = false) (hini : (z_hd y').1.name = "<init>") (hvoid : (z_hd y').2.2.2.1 = none) (hn : As.length = (z_hd y').2.2.2.2.2.1) (hcat : z_cat st ≤ 8) (hb0 : 0 ≤ b) (hw1 : Cond.methodLink (z_hd y).1.cls ix (z_hd y').1 ∈ z_gw) (hN2 : N' ≤ No) (hd : decode (z_hd y).2.1 pc = .ok (.invokespecial ix, 3))
    (h : z_Y e ph d y' (z_R b :: As) N N' σ (fun r σ' => z_X e ph d y Ni No (pc + 3) ls (z_rs (z_hd y').2.2.2.1 r st) N' σ' Q)) : z_X e ph d y Ni No pc ls (As.reverse ++ z_R b :: st) N σ Q := by
  intro r1 r2 r3 p env s m args below meth c H locs la C R h1 h2 hl
  obtain ⟨hx, hb, -, hml, hown, hts, -, -, hKS⟩ := id C
  obtain ⟨k1, k2, k3, k4, k5, k6, k7⟩ := z_hok_sp hh
  rw [hst, cond_false] at k3
  have rA : z_rS As := fun v hv => r2 v (List.mem_append_left _ (List.mem_reverse.mpr hv))
  have rst : z_rS st := fun v hv => r2 v (List.mem_append_right _ (List.mem_cons_of_mem _ hv))
  obtain ⟨d', rfl, hN1, hM⟩ := h (List.forall_mem_cons.mpr ⟨trivial, rA⟩) r3
  have hvb : z_vv e (z_R b) = .ref (e.2.1.size + b.toNat) := z_vv_pos (by omega)
  rw [List.map_append, List.map_cons, List.map_reverse, hvb]
  refine z_run y' (args0 := z_R b :: As) r1 rst C h1 hN1 hN2 hl R ?_
  rw [List.map_cons, hvb]
  refine va_runI ⟨hx, hb, hml, hown, hts⟩ hM (cwI (bytes := (z_hd y').2.1) (maxL := (z_hd y').2.2.1) (ws' := z_gw) _ hts (z_good (z_wsin hh)) (by show z_ws y' = _; rw [z_ws, hvoid]) rfl rfl (hts _ k2) (hts _ hw1) (hts _ k3) hini ⟨k4.1, k4.2, k5⟩ (z_cr y' k7)) ⟨z_blind, fun U hU hW => ?_⟩ rfl (by rw [List.length_map]; exact hn) hl.1 rfl (lv_room (by rw [z_cat_sum]; exact hcat)) hd (z_cf h1 hN1 hN2)
  have := z_pre (args := z_R b :: As) hKS R hU hW
  rw [List.map_cons, hvb] at this
  exact this
theorem z_s_callIN {y' N' ix : Nat} {b : Int} {host : String} {As : List z_V} (hh : z_hok y') (hst : (z_hd y').2.2.2.2.2.2.2.2 = false) (hini : (z_hd y').1.name = "<init>") (hvoid : (z_hd y').2.2.2.1 = none) (hn : As.length = (z_hd y').2.2.2.2.2.1) (hcat : z_cat st ≤ 8) (hb0 : 0 ≤ b) (hw1 : Cond.methodLinkNest (z_hd y).1.cls ix (z_hd y').1 host ∈ z_nw) (hN2 : N' ≤ No) (hd : decode (z_hd y).2.1 pc = .ok (.invokespecial ix, 3))
    (h : z_Y e ph d y' (z_R b :: As) N N' σ (fun r σ' => z_X e ph d y Ni No (pc + 3) ls (z_rs (z_hd y').2.2.2.1 r st) N' σ' Q)) : z_X e ph d y Ni No pc ls (As.reverse ++ z_R b :: st) N σ Q := by
  intro r1 r2 r3 p env s m args below meth c H locs la C R h1 h2 hl
  obtain ⟨hx, hb, -, hml, hown, hts, -, -, hKS⟩ := id C
  obtain ⟨k1, k2, k3, k4, k5, k6, k7⟩ := z_hok_sp hh
  rw [hst, cond_false] at k3
  have rA : z_rS As := fun v hv => r2 v (List.mem_append_left _ (List.mem_reverse.mpr hv))
  have rst : z_rS st := fun v hv => r2 v (List.mem_append_right _ (List.mem_cons_of_mem _ hv))
  obtain ⟨d', rfl, hN1, hM⟩ := h (List.forall_mem_cons.mpr ⟨trivial, rA⟩) r3
  have hvb : z_vv e (z_R b) = .ref (e.2.1.size + b.toNat) := z_vv_pos (by omega)
  rw [List.map_append, List.map_cons, List.map_reverse, hvb]
  refine z_run y' (args0 := z_R b :: As) r1 rst C h1 hN1 hN2 hl R ?_
  rw [List.map_cons, hvb]
  refine va_runIN ⟨hx, hb, hml, hown, hts⟩ hM ⟨va_cnB (bytes := (z_hd y').2.1) (maxL := (z_hd y').2.2.1) (ws' := z_gw) _ hts (z_good (z_wsin hh)) (by show z_ws y' = _; rw [z_ws, hvoid]) rfl rfl (hKS.2.1 _ hw1) (hts _ k2) ⟨k4.1, k4.2, k5⟩ (z_cr y' k7), hini, hts _ k3⟩ ⟨z_blind, fun U hU hW => ?_⟩ rfl (by rw [List.length_map]; exact hn) hl.1 rfl (lv_room (by rw [z_cat_sum]; exact hcat)) hd (z_cf h1 hN1 hN2)
  have := z_pre (args := z_R b :: As) hKS R hU hW
  rw [List.map_cons, hvb] at this
  exact this
end ZC
