/-! instructions: arithmetic, branches -/
theorem z_i_div {x y : Int} (hx : z_ir x) (hy : z_ir y) : Int32.ofInt (z_wr (x.tdiv y)) = Int32.ofInt x / Int32.ofInt y := by
  apply Int32.toInt_inj.mp
  rw [Int32.toInt_div, z_to hx, z_to hy, z_to (z_wr_ir _)]
  exact (z_bm _).symm
theorem z_l_div {x y : Int} (hx : z_lr x) (hy : z_lr y) : Int64.ofInt (z_wl (x.tdiv y)) = Int64.ofInt x / Int64.ofInt y := by
  apply Int64.toInt_inj.mp
  rw [Int64.toInt_div, z_tol hx, z_tol hy, z_tol (z_wl_lr _)]
  exact (z_bml _).symm
theorem z_i_rem {x y : Int} (hx : z_ir x) (hy : z_ir y) : Int32.ofInt (z_wr (x - x.tdiv y * y)) = Int32.ofInt x - Int32.ofInt x / Int32.ofInt y * Int32.ofInt y := by
  rw [← z_i_div hx hy, z_of_wr, z_of_wr, Int32.ofInt_sub, Int32.ofInt_mul]
theorem z_i_i2l {x : Int} (hx : z_ir x) : (Int32.ofInt x).toInt64 = Int64.ofInt x := by
  apply Int64.toInt_inj.mp
  rw [Int32.toInt_toInt64, z_to hx, z_tol (by unfold z_ir at hx; unfold z_lr; omega)]
theorem z_l_l2i {x : Int} (hx : z_lr x) : (Int64.ofInt x).toInt32 = Int32.ofInt (z_wr x) := by
  apply Int32.toInt_inj.mp
  rw [Int64.toInt_toInt32, z_tol hx, z_to (z_wr_ir _)]
  exact z_bm _
theorem z_l_lt {x y : Int} (hx : z_lr x) (hy : z_lr y) : Int64.ofInt x < Int64.ofInt y ↔ x < y := by
  rw [Int64.lt_iff_toInt_lt, z_tol hx, z_tol hy]
theorem z_l_eq {x y : Int} (hx : z_lr x) (hy : z_lr y) : Int64.ofInt x = Int64.ofInt y ↔ x = y :=
  ⟨fun h => by rw [← z_tol hx, ← z_tol hy, h], fun h => by rw [h]⟩
def z_lcmp (x y : Int) : Int := if y < x then 1 else if x = y then 0 else -1
theorem z_l_cmp {x y : Int} (hx : z_lr x) (hy : z_lr y) : lg_cmp (Int64.ofInt x) (Int64.ofInt y) = Int32.ofInt (z_lcmp x y) := by
  unfold lg_cmp z_lcmp
  simp only [gt_iff_lt, z_l_lt hy hx, z_l_eq hx hy]
  split
  · rfl
  · split <;> rfl
theorem z_lcmp_ir (x y : Int) : z_ir (z_lcmp x y) := by unfold z_lcmp z_ir; split; omega; split <;> omega
section ZA
variable {e : z_E} {ph : Bool} {d y Ni No pc N : Nat} {ls : List (Option z_V)} {st : List z_V} {σ : z_M} {Q : Int → z_M → Prop}
theorem z_s_iadd {x y0 : Int} (hd : decode (z_hd y).2.1 pc = .ok (.iadd, 1)) (h : z_X e ph d y Ni No (pc + 1) ls (z_I (z_wr (x + y0)) :: st) N σ Q) : z_X e ph d y Ni No pc ls (z_I y0 :: z_I x :: st) N σ Q := by
  intro r1 r2 r3 p env s m args below meth c H locs la C R h1 h2 hl
  obtain ⟨hx, hb, -⟩ := id C
  obtain ⟨ry, r2⟩ := List.forall_mem_cons.mp r2
  obtain ⟨rx, r2⟩ := List.forall_mem_cons.mp r2
  have hk := h r1 (List.forall_mem_cons.mpr ⟨z_wr_ir _, r2⟩) r3 p env s m args below meth c H locs la C R h1 h2 hl
  rw [List.map_cons, show z_vv e (z_I (z_wr (x + y0))) = Value.int (Int32.ofInt x + Int32.ofInt y0) from congrArg Value.int (by rw [z_of_wr, Int32.ofInt_add])] at hk
  exact lv_iadd hx hb hd hk
theorem z_s_isub {x y0 : Int} (hd : decode (z_hd y).2.1 pc = .ok (.isub, 1)) (h : z_X e ph d y Ni No (pc + 1) ls (z_I (z_wr (x - y0)) :: st) N σ Q) : z_X e ph d y Ni No pc ls (z_I y0 :: z_I x :: st) N σ Q := by
  intro r1 r2 r3 p env s m args below meth c H locs la C R h1 h2 hl
  obtain ⟨hx, hb, -⟩ := id C
  obtain ⟨ry, r2⟩ := List.forall_mem_cons.mp r2
  obtain ⟨rx, r2⟩ := List.forall_mem_cons.mp r2
  have hk := h r1 (List.forall_mem_cons.mpr ⟨z_wr_ir _, r2⟩) r3 p env s m args below meth c H locs la C R h1 h2 hl
  rw [List.map_cons, show z_vv e (z_I (z_wr (x - y0))) = Value.int (Int32.ofInt x - Int32.ofInt y0) from congrArg Value.int (by rw [z_of_wr, Int32.ofInt_sub])] at hk
  exact lv_isub hx hb hd hk
theorem z_s_imul {x y0 : Int} (hd : decode (z_hd y).2.1 pc = .ok (.imul, 1)) (h : z_X e ph d y Ni No (pc + 1) ls (z_I (z_wr (x * y0)) :: st) N σ Q) : z_X e ph d y Ni No pc ls (z_I y0 :: z_I x :: st) N σ Q := by
  intro r1 r2 r3 p env s m args below meth c H locs la C R h1 h2 hl
  obtain ⟨hx, hb, -⟩ := id C
  obtain ⟨ry, r2⟩ := List.forall_mem_cons.mp r2
  obtain ⟨rx, r2⟩ := List.forall_mem_cons.mp r2
  have hk := h r1 (List.forall_mem_cons.mpr ⟨z_wr_ir _, r2⟩) r3 p env s m args below meth c H locs la C R h1 h2 hl
  rw [List.map_cons, show z_vv e (z_I (z_wr (x * y0))) = Value.int (Int32.ofInt x * Int32.ofInt y0) from congrArg Value.int (by rw [z_of_wr, Int32.ofInt_mul])] at hk
  exact lv_imul hx hb hd hk
theorem z_s_iand {x y0 : Int} (hd : decode (z_hd y).2.1 pc = .ok (.iand, 1)) (h : z_X e ph d y Ni No (pc + 1) ls (z_I (z_and x y0) :: st) N σ Q) : z_X e ph d y Ni No pc ls (z_I y0 :: z_I x :: st) N σ Q := by
  intro r1 r2 r3 p env s m args below meth c H locs la C R h1 h2 hl
  obtain ⟨hx, hb, -⟩ := id C
  obtain ⟨ry, r2⟩ := List.forall_mem_cons.mp r2
  obtain ⟨rx, r2⟩ := List.forall_mem_cons.mp r2
  have hk := h r1 (List.forall_mem_cons.mpr ⟨z_toir _, r2⟩) r3 p env s m args below meth c H locs la C R h1 h2 hl
  rw [List.map_cons, show z_vv e (z_I (z_and x y0)) = Value.int (Int32.ofInt x &&& Int32.ofInt y0) from congrArg Value.int (Int32.ofInt_toInt _)] at hk
  exact lv_iand hx hb hd hk
theorem z_s_ior {x y0 : Int} (hd : decode (z_hd y).2.1 pc = .ok (.ior, 1)) (h : z_X e ph d y Ni No (pc + 1) ls (z_I (z_or x y0) :: st) N σ Q) : z_X e ph d y Ni No pc ls (z_I y0 :: z_I x :: st) N σ Q := by
  intro r1 r2 r3 p env s m args below meth c H locs la C R h1 h2 hl
  obtain ⟨hx, hb, -⟩ := id C
  obtain ⟨ry, r2⟩ := List.forall_mem_cons.mp r2
  obtain ⟨rx, r2⟩ := List.forall_mem_cons.mp r2
  have hk := h r1 (List.forall_mem_cons.mpr ⟨z_toir _, r2⟩) r3 p env s m args below meth c H locs la C R h1 h2 hl
  rw [List.map_cons, show z_vv e (z_I (z_or x y0)) = Value.int (Int32.ofInt x ||| Int32.ofInt y0) from congrArg Value.int (Int32.ofInt_toInt _)] at hk
  exact lv_ior hx hb hd hk
theorem z_s_ishl {x y0 : Int} (hd : decode (z_hd y).2.1 pc = .ok (.ishl, 1)) (h : z_X e ph d y Ni No (pc + 1) ls (z_I (z_shl x y0) :: st) N σ Q) : z_X e ph d y Ni No pc ls (z_I y0 :: z_I x :: st) N σ Q := by
  intro r1 r2 r3 p env s m args below meth c H locs la C R h1 h2 hl
  obtain ⟨hx, hb, -⟩ := id C
  obtain ⟨ry, r2⟩ := List.forall_mem_cons.mp r2
  obtain ⟨rx, r2⟩ := List.forall_mem_cons.mp r2
  have hk := h r1 (List.forall_mem_cons.mpr ⟨z_toir _, r2⟩) r3 p env s m args below meth c H locs la C R h1 h2 hl
  rw [List.map_cons, show z_vv e (z_I (z_shl x y0)) = Value.int (Int32.ofInt x <<< (Int32.ofInt y0 &&& 31)) from congrArg Value.int (Int32.ofInt_toInt _)] at hk
  exact lv_ishl hx hb hd hk
theorem z_s_ishr {x y0 : Int} (hd : decode (z_hd y).2.1 pc = .ok (.ishr, 1)) (h : z_X e ph d y Ni No (pc + 1) ls (z_I (z_shr x y0) :: st) N σ Q) : z_X e ph d y Ni No pc ls (z_I y0 :: z_I x :: st) N σ Q := by
  intro r1 r2 r3 p env s m args below meth c H locs la C R h1 h2 hl
  obtain ⟨hx, hb, -⟩ := id C
  obtain ⟨ry, r2⟩ := List.forall_mem_cons.mp r2
  obtain ⟨rx, r2⟩ := List.forall_mem_cons.mp r2
  have hk := h r1 (List.forall_mem_cons.mpr ⟨z_toir _, r2⟩) r3 p env s m args below meth c H locs la C R h1 h2 hl
  rw [List.map_cons, show z_vv e (z_I (z_shr x y0)) = Value.int (Int32.ofInt x >>> (Int32.ofInt y0 &&& 31)) from congrArg Value.int (Int32.ofInt_toInt _)] at hk
  exact lv_ishr hx hb hd hk
theorem z_s_idiv {x y0 : Int} (hne : ¬ y0 = 0) (hd : decode (z_hd y).2.1 pc = .ok (.idiv, 1)) (h : z_X e ph d y Ni No (pc + 1) ls (z_I (z_wr (x.tdiv y0)) :: st) N σ Q) : z_X e ph d y Ni No pc ls (z_I y0 :: z_I x :: st) N σ Q := by
  intro r1 r2 r3 p env s m args below meth c H locs la C R h1 h2 hl
  obtain ⟨hx, hb, -⟩ := id C
  obtain ⟨ry, r2⟩ := List.forall_mem_cons.mp r2
  obtain ⟨rx, r2⟩ := List.forall_mem_cons.mp r2
  have hk := h r1 (List.forall_mem_cons.mpr ⟨z_wr_ir _, r2⟩) r3 p env s m args below meth c H locs la C R h1 h2 hl
  rw [List.map_cons, show z_vv e (z_I (z_wr (x.tdiv y0))) = Value.int (Int32.ofInt x / Int32.ofInt y0) from congrArg Value.int (z_i_div rx ry)] at hk
  exact lv_idiv hx hb hd (fun q => hne ((z_eq ry z_ir0).mp q)) hk
theorem z_s_irem {x y0 : Int} (hne : ¬ y0 = 0) (hd : decode (z_hd y).2.1 pc = .ok (.irem, 1)) (h : z_X e ph d y Ni No (pc + 1) ls (z_I (z_wr (x - x.tdiv y0 * y0)) :: st) N σ Q) : z_X e ph d y Ni No pc ls (z_I y0 :: z_I x :: st) N σ Q := by
  intro r1 r2 r3 p env s m args below meth c H locs la C R h1 h2 hl
  obtain ⟨hx, hb, -⟩ := id C
  obtain ⟨ry, r2⟩ := List.forall_mem_cons.mp r2
  obtain ⟨rx, r2⟩ := List.forall_mem_cons.mp r2
  have hk := h r1 (List.forall_mem_cons.mpr ⟨z_wr_ir _, r2⟩) r3 p env s m args below meth c H locs la C R h1 h2 hl
  rw [List.map_cons, show z_vv e (z_I (z_wr (x - x.tdiv y0 * y0))) = Value.int (Int32.ofInt x - Int32.ofInt x / Int32.ofInt y0 * Int32.ofInt y0) from congrArg Value.int (z_i_rem rx ry)] at hk
  exact lv_irem hx hb hd (fun q => hne ((z_eq ry z_ir0).mp q)) hk
theorem z_s_ladd {x y0 : Int} (hd : decode (z_hd y).2.1 pc = .ok (.ladd, 1)) (h : z_X e ph d y Ni No (pc + 1) ls (z_J (z_wl (x + y0)) :: st) N σ Q) : z_X e ph d y Ni No pc ls (z_J y0 :: z_J x :: st) N σ Q := by
  intro r1 r2 r3 p env s m args below meth c H locs la C R h1 h2 hl
  obtain ⟨hx, hb, -⟩ := id C
  obtain ⟨ry, r2⟩ := List.forall_mem_cons.mp r2
  obtain ⟨rx, r2⟩ := List.forall_mem_cons.mp r2
  have hk := h r1 (List.forall_mem_cons.mpr ⟨z_wl_lr _, r2⟩) r3 p env s m args below meth c H locs la C R h1 h2 hl
  rw [List.map_cons, show z_vv e (z_J (z_wl (x + y0))) = Value.long (Int64.ofInt x + Int64.ofInt y0) from congrArg Value.long (by rw [z_of_wl, Int64.ofInt_add])] at hk
  exact lv_ladd hx hb hd hk
theorem z_s_lsub {x y0 : Int} (hd : decode (z_hd y).2.1 pc = .ok (.lsub, 1)) (h : z_X e ph d y Ni No (pc + 1) ls (z_J (z_wl (x - y0)) :: st) N σ Q) : z_X e ph d y Ni No pc ls (z_J y0 :: z_J x :: st) N σ Q := by
  intro r1 r2 r3 p env s m args below meth c H locs la C R h1 h2 hl
  obtain ⟨hx, hb, -⟩ := id C
  obtain ⟨ry, r2⟩ := List.forall_mem_cons.mp r2
  obtain ⟨rx, r2⟩ := List.forall_mem_cons.mp r2
  have hk := h r1 (List.forall_mem_cons.mpr ⟨z_wl_lr _, r2⟩) r3 p env s m args below meth c H locs la C R h1 h2 hl
  rw [List.map_cons, show z_vv e (z_J (z_wl (x - y0))) = Value.long (Int64.ofInt x - Int64.ofInt y0) from congrArg Value.long (by rw [z_of_wl, Int64.ofInt_sub])] at hk
  exact lv_lsub hx hb hd hk
theorem z_s_lmul {x y0 : Int} (hd : decode (z_hd y).2.1 pc = .ok (.lmul, 1)) (h : z_X e ph d y Ni No (pc + 1) ls (z_J (z_wl (x * y0)) :: st) N σ Q) : z_X e ph d y Ni No pc ls (z_J y0 :: z_J x :: st) N σ Q := by
  intro r1 r2 r3 p env s m args below meth c H locs la C R h1 h2 hl
  obtain ⟨hx, hb, -⟩ := id C
  obtain ⟨ry, r2⟩ := List.forall_mem_cons.mp r2
  obtain ⟨rx, r2⟩ := List.forall_mem_cons.mp r2
  have hk := h r1 (List.forall_mem_cons.mpr ⟨z_wl_lr _, r2⟩) r3 p env s m args below meth c H locs la C R h1 h2 hl
  rw [List.map_cons, show z_vv e (z_J (z_wl (x * y0))) = Value.long (Int64.ofInt x * Int64.ofInt y0) from congrArg Value.long (by rw [z_of_wl, Int64.ofInt_mul])] at hk
  exact lv_lmul hx hb hd hk
theorem z_s_ldiv {x y0 : Int} (hne : ¬ y0 = 0) (hd : decode (z_hd y).2.1 pc = .ok (.ldiv, 1)) (h : z_X e ph d y Ni No (pc + 1) ls (z_J (z_wl (x.tdiv y0)) :: st) N σ Q) : z_X e ph d y Ni No pc ls (z_J y0 :: z_J x :: st) N σ Q := by
  intro r1 r2 r3 p env s m args below meth c H locs la C R h1 h2 hl
  obtain ⟨hx, hb, -⟩ := id C
  obtain ⟨ry, r2⟩ := List.forall_mem_cons.mp r2
  obtain ⟨rx, r2⟩ := List.forall_mem_cons.mp r2
  have hk := h r1 (List.forall_mem_cons.mpr ⟨z_wl_lr _, r2⟩) r3 p env s m args below meth c H locs la C R h1 h2 hl
  rw [List.map_cons, show z_vv e (z_J (z_wl (x.tdiv y0))) = Value.long (Int64.ofInt x / Int64.ofInt y0) from congrArg Value.long (z_l_div rx ry)] at hk
  exact lv_ldiv hx hb hd (fun q => hne ((z_l_eq ry (by show z_lr 0; unfold z_lr; omega)).mp q)) hk
theorem z_s_lcmp {x y0 : Int} (hd : decode (z_hd y).2.1 pc = .ok (.lcmp, 1)) (h : z_X e ph d y Ni No (pc + 1) ls (z_I (z_lcmp x y0) :: st) N σ Q) : z_X e ph d y Ni No pc ls (z_J y0 :: z_J x :: st) N σ Q := by
  intro r1 r2 r3 p env s m args below meth c H locs la C R h1 h2 hl
  obtain ⟨hx, hb, -⟩ := id C
  obtain ⟨ry, r2⟩ := List.forall_mem_cons.mp r2
  obtain ⟨rx, r2⟩ := List.forall_mem_cons.mp r2
  have hk := h r1 (List.forall_mem_cons.mpr ⟨z_lcmp_ir _ _, r2⟩) r3 p env s m args below meth c H locs la C R h1 h2 hl
  rw [List.map_cons, show z_vv e (z_I (z_lcmp x y0)) = Value.int (lg_cmp (Int64.ofInt x) (Int64.ofInt y0)) from congrArg Value.int (z_l_cmp rx ry).symm] at hk
  exact W.lcmp hx hb hd hk
theorem z_s_ineg {x : Int} (hd : decode (z_hd y).2.1 pc = .ok (.ineg, 1)) (h : z_X e ph d y Ni No (pc + 1) ls (z_I (z_wr (-x)) :: st) N σ Q) : z_X e ph d y Ni No pc ls (z_I x :: st) N σ Q := by
  intro r1 r2 r3 p env s m args below meth c H locs la C R h1 h2 hl
  obtain ⟨hx, hb, -⟩ := id C
  obtain ⟨rx, r2⟩ := List.forall_mem_cons.mp r2
  have hk := h r1 (List.forall_mem_cons.mpr ⟨z_wr_ir _, r2⟩) r3 p env s m args below meth c H locs la C R h1 h2 hl
  rw [List.map_cons, show z_vv e (z_I (z_wr (-x))) = Value.int (-Int32.ofInt x) from congrArg Value.int (by rw [z_of_wr, Int32.ofInt_neg])] at hk
  exact lv_ineg hx hb hd hk
theorem z_s_i2l {x : Int} (hd : decode (z_hd y).2.1 pc = .ok (.i2l, 1)) (h : z_X e ph d y Ni No (pc + 1) ls (z_J (x) :: st) N σ Q) : z_X e ph d y Ni No pc ls (z_I x :: st) N σ Q := by
  intro r1 r2 r3 p env s m args below meth c H locs la C R h1 h2 hl
  obtain ⟨hx, hb, -⟩ := id C
  obtain ⟨rx, r2⟩ := List.forall_mem_cons.mp r2
  have hk := h r1 (List.forall_mem_cons.mpr ⟨by unfold z_rg z_ir at rx; unfold z_rg z_lr; simp only at rx ⊢; omega, r2⟩) r3 p env s m args below meth c H locs la C R h1 h2 hl
  rw [List.map_cons, show z_vv e (z_J (x)) = Value.long (Int32.ofInt x).toInt64 from congrArg Value.long (z_i_i2l rx).symm] at hk
  exact lv_i2l hx hb hd rfl hk
theorem z_s_l2i {x : Int} (hd : decode (z_hd y).2.1 pc = .ok (.l2i, 1)) (h : z_X e ph d y Ni No (pc + 1) ls (z_I (z_wr x) :: st) N σ Q) : z_X e ph d y Ni No pc ls (z_J x :: st) N σ Q := by
  intro r1 r2 r3 p env s m args below meth c H locs la C R h1 h2 hl
  obtain ⟨hx, hb, -⟩ := id C
  obtain ⟨rx, r2⟩ := List.forall_mem_cons.mp r2
  have hk := h r1 (List.forall_mem_cons.mpr ⟨z_wr_ir _, r2⟩) r3 p env s m args below meth c H locs la C R h1 h2 hl
  rw [List.map_cons, show z_vv e (z_I (z_wr x)) = Value.int (Int64.ofInt x).toInt32 from congrArg Value.int (z_l_l2i rx).symm] at hk
  exact lv_l2i hx hb hd rfl hk
theorem z_s_dup {v : z_V} (hv : ∀ x, v ≠ z_J x) (hd : decode (z_hd y).2.1 pc = .ok (.dup, 1)) (h : z_X e ph d y Ni No (pc + 1) ls (v :: v :: st) N σ Q) : z_X e ph d y Ni No pc ls (v :: st) N σ Q := by
  intro r1 r2 r3 p env s m args below meth c H locs la C R h1 h2 hl
  obtain ⟨hx, hb, -⟩ := id C
  obtain ⟨rv, r2'⟩ := List.forall_mem_cons.mp r2
  exact lv_dup hx hb hd (z_cat2 hv) (h r1 (List.forall_mem_cons.mpr ⟨rv, r2⟩) r3 p env s m args below meth c H locs la C R h1 h2 hl)
theorem z_s_dup2 {v u : z_V} (hv : ∀ x, v ≠ z_J x) (hu : ∀ x, u ≠ z_J x) (hd : decode (z_hd y).2.1 pc = .ok (.dup2, 1)) (h : z_X e ph d y Ni No (pc + 1) ls (v :: u :: v :: u :: st) N σ Q) : z_X e ph d y Ni No pc ls (v :: u :: st) N σ Q := by
  intro r1 r2 r3 p env s m args below meth c H locs la C R h1 h2 hl
  obtain ⟨hx, hb, -⟩ := id C
  obtain ⟨rv, r4⟩ := List.forall_mem_cons.mp r2
  obtain ⟨ru, r5⟩ := List.forall_mem_cons.mp r4
  exact lv_dup2_11 hx hb hd (z_cat2 hv) (z_cat2 hu) (h r1 (List.forall_mem_cons.mpr ⟨rv, List.forall_mem_cons.mpr ⟨ru, r2⟩⟩) r3 p env s m args below meth c H locs la C R h1 h2 hl)
theorem z_s_pop {v : z_V} (hv : ∀ x, v ≠ z_J x) (hd : decode (z_hd y).2.1 pc = .ok (.pop, 1)) (h : z_X e ph d y Ni No (pc + 1) ls st N σ Q) : z_X e ph d y Ni No pc ls (v :: st) N σ Q := by
  intro r1 r2 r3 p env s m args below meth c H locs la C R h1 h2 hl
  obtain ⟨hx, hb, -⟩ := id C
  obtain ⟨rv, r2⟩ := List.forall_mem_cons.mp r2
  exact lv_pop hx hb hd (z_cat2 hv) (h r1 r2 r3 p env s m args below meth c H locs la C R h1 h2 hl)
theorem z_s_icmp_eq {x y0 : Int} {t : Nat} {off : Int} (ht : (pc : Int) + off = (t : Int)) (hd : decode (z_hd y).2.1 pc = .ok (.if_icmp .eq off, 3)) (ht2 : x = y0 → z_X e ph d y Ni No t ls st N σ Q) (hf2 : ¬ x = y0 → z_X e ph d y Ni No (pc + 3) ls st N σ Q) : z_X e ph d y Ni No pc ls (z_I y0 :: z_I x :: st) N σ Q := by
  intro r1 r2 r3 p env s m args below meth c H locs la C R h1 h2 hl
  obtain ⟨hx, hb, -⟩ := id C
  obtain ⟨ry, r2⟩ := List.forall_mem_cons.mp r2
  obtain ⟨rx, r2⟩ := List.forall_mem_cons.mp r2
  exact lv_icmp_eq hx hb hd ht (fun q => (ht2 ((z_eq rx ry).mp q)) r1 r2 r3 p env s m args below meth c H locs la C R h1 h2 hl) (fun q => (hf2 (fun w => q ((z_eq rx ry).mpr w))) r1 r2 r3 p env s m args below meth c H locs la C R h1 h2 hl)
theorem z_s_if_eq {x : Int} {t : Nat} {off : Int} (ht : (pc : Int) + off = (t : Int)) (hd : decode (z_hd y).2.1 pc = .ok (.ifCond .eq off, 3)) (ht2 : x = 0 → z_X e ph d y Ni No t ls st N σ Q) (hf2 : ¬ x = 0 → z_X e ph d y Ni No (pc + 3) ls st N σ Q) : z_X e ph d y Ni No pc ls (z_I x :: st) N σ Q := by
  intro r1 r2 r3 p env s m args below meth c H locs la C R h1 h2 hl
  obtain ⟨hx, hb, -⟩ := id C
  obtain ⟨rx, r2⟩ := List.forall_mem_cons.mp r2
  have ry := z_ir0
  exact lv_if_eq hx hb hd ht (fun q => (ht2 ((z_eq rx ry).mp q)) r1 r2 r3 p env s m args below meth c H locs la C R h1 h2 hl) (fun q => (hf2 (fun w => q ((z_eq rx ry).mpr w))) r1 r2 r3 p env s m args below meth c H locs la C R h1 h2 hl)
theorem z_s_icmp_ne {x y0 : Int} {t : Nat} {off : Int} (ht : (pc : Int) + off = (t : Int)) (hd : decode (z_hd y).2.1 pc = .ok (.if_icmp .ne off, 3)) (ht2 : ¬ x = y0 → z_X e ph d y Ni No t ls st N σ Q) (hf2 : x = y0 → z_X e ph d y Ni No (pc + 3) ls st N σ Q) : z_X e ph d y Ni No pc ls (z_I y0 :: z_I x :: st) N σ Q := by
  intro r1 r2 r3 p env s m args below meth c H locs la C R h1 h2 hl
  obtain ⟨hx, hb, -⟩ := id C
  obtain ⟨ry, r2⟩ := List.forall_mem_cons.mp r2
  obtain ⟨rx, r2⟩ := List.forall_mem_cons.mp r2
  exact lv_icmp_ne hx hb hd ht (fun q => (ht2 (fun w => q ((z_eq rx ry).mpr w))) r1 r2 r3 p env s m args below meth c H locs la C R h1 h2 hl) (fun q => (hf2 ((z_eq rx ry).mp q)) r1 r2 r3 p env s m args below meth c H locs la C R h1 h2 hl)
theorem z_s_if_ne {x : Int} {t : Nat} {off : Int} (ht : (pc : Int) + off = (t : Int)) (hd : decode (z_hd y).2.1 pc = .ok (.ifCond .ne off, 3)) (ht2 : ¬ x = 0 → z_X e ph d y Ni No t ls st N σ Q) (hf2 : x = 0 → z_X e ph d y Ni No (pc + 3) ls st N σ Q) : z_X e ph d y Ni No pc ls (z_I x :: st) N σ Q := by
  intro r1 r2 r3 p env s m args below meth c H locs la C R h1 h2 hl
  obtain ⟨hx, hb, -⟩ := id C
  obtain ⟨rx, r2⟩ := List.forall_mem_cons.mp r2
  have ry := z_ir0
  exact lv_if_ne hx hb hd ht (fun q => (ht2 (fun w => q ((z_eq rx ry).mpr w))) r1 r2 r3 p env s m args below meth c H locs la C R h1 h2 hl) (fun q => (hf2 ((z_eq rx ry).mp q)) r1 r2 r3 p env s m args below meth c H locs la C R h1 h2 hl)
theorem z_s_icmp_lt {x y0 : Int} {t : Nat} {off : Int} (ht : (pc : Int) + off = (t : Int)) (hd : decode (z_hd y).2.1 pc = .ok (.if_icmp .lt off, 3)) (ht2 : x < y0 → z_X e ph d y Ni No t ls st N σ Q) (hf2 : y0 ≤ x → z_X e ph d y Ni No (pc + 3) ls st N σ Q) : z_X e ph d y Ni No pc ls (z_I y0 :: z_I x :: st) N σ Q := by
  intro r1 r2 r3 p env s m args below meth c H locs la C R h1 h2 hl
  obtain ⟨hx, hb, -⟩ := id C
  obtain ⟨ry, r2⟩ := List.forall_mem_cons.mp r2
  obtain ⟨rx, r2⟩ := List.forall_mem_cons.mp r2
  exact lv_icmp_lt hx hb hd ht (fun q => (ht2 ((z_lt rx ry).mp q)) r1 r2 r3 p env s m args below meth c H locs la C R h1 h2 hl) (fun q => (hf2 (by have q2 := mt (z_lt rx ry).mpr q; omega)) r1 r2 r3 p env s m args below meth c H locs la C R h1 h2 hl)
theorem z_s_if_lt {x : Int} {t : Nat} {off : Int} (ht : (pc : Int) + off = (t : Int)) (hd : decode (z_hd y).2.1 pc = .ok (.ifCond .lt off, 3)) (ht2 : x < 0 → z_X e ph d y Ni No t ls st N σ Q) (hf2 : 0 ≤ x → z_X e ph d y Ni No (pc + 3) ls st N σ Q) : z_X e ph d y Ni No pc ls (z_I x :: st) N σ Q := by
  intro r1 r2 r3 p env s m args below meth c H locs la C R h1 h2 hl
  obtain ⟨hx, hb, -⟩ := id C
  obtain ⟨rx, r2⟩ := List.forall_mem_cons.mp r2
  have ry := z_ir0
  exact lv_if_lt hx hb hd ht (fun q => (ht2 ((z_lt rx ry).mp q)) r1 r2 r3 p env s m args below meth c H locs la C R h1 h2 hl) (fun q => (hf2 (by have q2 := mt (z_lt rx ry).mpr q; omega)) r1 r2 r3 p env s m args below meth c H locs la C R h1 h2 hl)
theorem z_s_icmp_ge {x y0 : Int} {t : Nat} {off : Int} (ht : (pc : Int) + off = (t : Int)) (hd : decode (z_hd y).2.1 pc = .ok (.if_icmp .ge off, 3)) (ht2 : y0 ≤ x → z_X e ph d y Ni No t ls st N σ Q) (hf2 : x < y0 → z_X e ph d y Ni No (pc + 3) ls st N σ Q) : z_X e ph d y Ni No pc ls (z_I y0 :: z_I x :: st) N σ Q := by
  intro r1 r2 r3 p env s m args below meth c H locs la C R h1 h2 hl
  obtain ⟨hx, hb, -⟩ := id C
  obtain ⟨ry, r2⟩ := List.forall_mem_cons.mp r2
  obtain ⟨rx, r2⟩ := List.forall_mem_cons.mp r2
  exact lv_icmp_ge hx hb hd ht (fun q => (ht2 ((z_le ry rx).mp q)) r1 r2 r3 p env s m args below meth c H locs la C R h1 h2 hl) (fun q => (hf2 (by have q2 := mt (z_le ry rx).mpr q; omega)) r1 r2 r3 p env s m args below meth c H locs la C R h1 h2 hl)
theorem z_s_if_ge {x : Int} {t : Nat} {off : Int} (ht : (pc : Int) + off = (t : Int)) (hd : decode (z_hd y).2.1 pc = .ok (.ifCond .ge off, 3)) (ht2 : 0 ≤ x → z_X e ph d y Ni No t ls st N σ Q) (hf2 : x < 0 → z_X e ph d y Ni No (pc + 3) ls st N σ Q) : z_X e ph d y Ni No pc ls (z_I x :: st) N σ Q := by
  intro r1 r2 r3 p env s m args below meth c H locs la C R h1 h2 hl
  obtain ⟨hx, hb, -⟩ := id C
  obtain ⟨rx, r2⟩ := List.forall_mem_cons.mp r2
  have ry := z_ir0
  exact lv_if_ge hx hb hd ht (fun q => (ht2 ((z_le ry rx).mp q)) r1 r2 r3 p env s m args below meth c H locs la C R h1 h2 hl) (fun q => (hf2 (by have q2 := mt (z_le ry rx).mpr q; omega)) r1 r2 r3 p env s m args below meth c H locs la C R h1 h2 hl)
theorem z_s_icmp_gt {x y0 : Int} {t : Nat} {off : Int} (ht : (pc : Int) + off = (t : Int)) (hd : decode (z_hd y).2.1 pc = .ok (.if_icmp .gt off, 3)) (ht2 : y0 < x → z_X e ph d y Ni No t ls st N σ Q) (hf2 : x ≤ y0 → z_X e ph d y Ni No (pc + 3) ls st N σ Q) : z_X e ph d y Ni No pc ls (z_I y0 :: z_I x :: st) N σ Q := by
  intro r1 r2 r3 p env s m args below meth c H locs la C R h1 h2 hl
  obtain ⟨hx, hb, -⟩ := id C
  obtain ⟨ry, r2⟩ := List.forall_mem_cons.mp r2
  obtain ⟨rx, r2⟩ := List.forall_mem_cons.mp r2
  exact lv_icmp_gt hx hb hd ht (fun q => (ht2 ((z_lt ry rx).mp q)) r1 r2 r3 p env s m args below meth c H locs la C R h1 h2 hl) (fun q => (hf2 (by have q2 := mt (z_lt ry rx).mpr q; omega)) r1 r2 r3 p env s m args below meth c H locs la C R h1 h2 hl)
theorem z_s_if_gt {x : Int} {t : Nat} {off : Int} (ht : (pc : Int) + off = (t : Int)) (hd : decode (z_hd y).2.1 pc = .ok (.ifCond .gt off, 3)) (ht2 : 0 < x → z_X e ph d y Ni No t ls st N σ Q) (hf2 : x ≤ 0 → z_X e ph d y Ni No (pc + 3) ls st N σ Q) : z_X e ph d y Ni No pc ls (z_I x :: st) N σ Q := by
  intro r1 r2 r3 p env s m args below meth c H locs la C R h1 h2 hl
  obtain ⟨hx, hb, -⟩ := id C
  obtain ⟨rx, r2⟩ := List.forall_mem_cons.mp r2
  have ry := z_ir0
  exact lv_if_gt hx hb hd ht (fun q => (ht2 ((z_lt ry rx).mp q)) r1 r2 r3 p env s m args below meth c H locs la C R h1 h2 hl) (fun q => (hf2 (by have q2 := mt (z_lt ry rx).mpr q; omega)) r1 r2 r3 p env s m args below meth c H locs la C R h1 h2 hl)
theorem z_s_icmp_le {x y0 : Int} {t : Nat} {off : Int} (ht : (pc : Int) + off = (t : Int)) (hd : decode (z_hd y).2.1 pc = .ok (.if_icmp .le off, 3)) (ht2 : x ≤ y0 → z_X e ph d y Ni No t ls st N σ Q) (hf2 : y0 < x → z_X e ph d y Ni No (pc + 3) ls st N σ Q) : z_X e ph d y Ni No pc ls (z_I y0 :: z_I x :: st) N σ Q := by
  intro r1 r2 r3 p env s m args below meth c H locs la C R h1 h2 hl
  obtain ⟨hx, hb, -⟩ := id C
  obtain ⟨ry, r2⟩ := List.forall_mem_cons.mp r2
  obtain ⟨rx, r2⟩ := List.forall_mem_cons.mp r2
  exact lv_icmp_le hx hb hd ht (fun q => (ht2 ((z_le rx ry).mp q)) r1 r2 r3 p env s m args below meth c H locs la C R h1 h2 hl) (fun q => (hf2 (by have q2 := mt (z_le rx ry).mpr q; omega)) r1 r2 r3 p env s m args below meth c H locs la C R h1 h2 hl)
theorem z_s_if_le {x : Int} {t : Nat} {off : Int} (ht : (pc : Int) + off = (t : Int)) (hd : decode (z_hd y).2.1 pc = .ok (.ifCond .le off, 3)) (ht2 : x ≤ 0 → z_X e ph d y Ni No t ls st N σ Q) (hf2 : 0 < x → z_X e ph d y Ni No (pc + 3) ls st N σ Q) : z_X e ph d y Ni No pc ls (z_I x :: st) N σ Q := by
  intro r1 r2 r3 p env s m args below meth c H locs la C R h1 h2 hl
  obtain ⟨hx, hb, -⟩ := id C
  obtain ⟨rx, r2⟩ := List.forall_mem_cons.mp r2
  have ry := z_ir0
  exact lv_if_le hx hb hd ht (fun q => (ht2 ((z_le rx ry).mp q)) r1 r2 r3 p env s m args below meth c H locs la C R h1 h2 hl) (fun q => (hf2 (by have q2 := mt (z_le rx ry).mpr q; omega)) r1 r2 r3 p env s m args below meth c H locs la C R h1 h2 hl)
theorem z_s_ifnull {x : Int} {t : Nat} {off : Int} (ht : (pc : Int) + off = (t : Int)) (hd : decode (z_hd y).2.1 pc = .ok (.ifnull off, 3)) (ht2 : x < 0 → z_X e ph d y Ni No t ls st N σ Q) (hf2 : 0 ≤ x → z_X e ph d y Ni No (pc + 3) ls st N σ Q) : z_X e ph d y Ni No pc ls (z_R x :: st) N σ Q := by
  intro r1 r2 r3 p env s m args below meth c H locs la C R h1 h2 hl
  obtain ⟨hx, hb, -⟩ := id C
  obtain ⟨rx, r2⟩ := List.forall_mem_cons.mp r2
  rw [List.map_cons]
  by_cases q : x < 0
  · rw [z_vv_neg q]
    exact lv_ifnullN hx hb hd ht (ht2 q r1 r2 r3 p env s m args below meth c H locs la C R h1 h2 hl)
  · rw [z_vv_pos q]
    exact lv_ifnull hx hb hd (hf2 (by omega) r1 r2 r3 p env s m args below meth c H locs la C R h1 h2 hl)
theorem z_s_ifnonnull {x : Int} {t : Nat} {off : Int} (ht : (pc : Int) + off = (t : Int)) (hd : decode (z_hd y).2.1 pc = .ok (.ifnonnull off, 3)) (ht2 : 0 ≤ x → z_X e ph d y Ni No t ls st N σ Q) (hf2 : x < 0 → z_X e ph d y Ni No (pc + 3) ls st N σ Q) : z_X e ph d y Ni No pc ls (z_R x :: st) N σ Q := by
  intro r1 r2 r3 p env s m args below meth c H locs la C R h1 h2 hl
  obtain ⟨hx, hb, -⟩ := id C
  obtain ⟨rx, r2⟩ := List.forall_mem_cons.mp r2
  rw [List.map_cons]
  by_cases q : x < 0
  · rw [z_vv_neg q]
    exact lv_ifnonnullN hx hb hd (hf2 q r1 r2 r3 p env s m args below meth c H locs la C R h1 h2 hl)
  · rw [z_vv_pos q]
    exact lv_ifnonnull hx hb hd ht (ht2 (by omega) r1 r2 r3 p env s m args below meth c H locs la C R h1 h2 hl)
theorem z_ad_inj {x y : Int} (hx : 0 ≤ x) (hy : 0 ≤ y) : z_ad e x = z_ad e y ↔ x = y := by
  constructor
  · intro h
    by_cases q : x < 0
    · by_cases q2 : y < 0
      · omega
      · rw [z_ad_neg q, z_ad_pos q2] at h; cases h
    · by_cases q2 : y < 0
      · rw [z_ad_pos q, z_ad_neg q2] at h; cases h
      · rw [z_ad_pos q, z_ad_pos q2] at h
        have := Option.some.inj h
        omega
  · intro h; rw [h]
theorem z_s_acmp_eq {x y0 : Int} (rx : 0 ≤ x) (ry : 0 ≤ y0) {t : Nat} {off : Int} (ht : (pc : Int) + off = (t : Int)) (hd : decode (z_hd y).2.1 pc = .ok (.if_acmp .eq off, 3)) (ht2 : x = y0 → z_X e ph d y Ni No t ls st N σ Q) (hf2 : ¬ x = y0 → z_X e ph d y Ni No (pc + 3) ls st N σ Q) : z_X e ph d y Ni No pc ls (z_R y0 :: z_R x :: st) N σ Q := by
  intro r1 r2 r3 p env s m args below meth c H locs la C R h1 h2 hl
  obtain ⟨hx, hb, -⟩ := id C
  obtain ⟨-, r2⟩ := List.forall_mem_cons.mp r2
  obtain ⟨-, r2⟩ := List.forall_mem_cons.mp r2
  exact lv_acmp_eq (rx := z_ad e x) (ry := z_ad e y0) hx hb hd ht (fun q => ht2 ((z_ad_inj rx ry).mp q) r1 r2 r3 p env s m args below meth c H locs la C R h1 h2 hl) (fun q => hf2 (fun w => q ((z_ad_inj rx ry).mpr w)) r1 r2 r3 p env s m args below meth c H locs la C R h1 h2 hl)
theorem z_s_acmp_ne {x y0 : Int} (rx : 0 ≤ x) (ry : 0 ≤ y0) {t : Nat} {off : Int} (ht : (pc : Int) + off = (t : Int)) (hd : decode (z_hd y).2.1 pc = .ok (.if_acmp .ne off, 3)) (ht2 : ¬ x = y0 → z_X e ph d y Ni No t ls st N σ Q) (hf2 : x = y0 → z_X e ph d y Ni No (pc + 3) ls st N σ Q) : z_X e ph d y Ni No pc ls (z_R y0 :: z_R x :: st) N σ Q := by
  intro r1 r2 r3 p env s m args below meth c H locs la C R h1 h2 hl
  obtain ⟨hx, hb, -⟩ := id C
  obtain ⟨-, r2⟩ := List.forall_mem_cons.mp r2
  obtain ⟨-, r2⟩ := List.forall_mem_cons.mp r2
  exact lv_acmp_ne (rx := z_ad e x) (ry := z_ad e y0) hx hb hd ht (fun q => ht2 (fun w => q ((z_ad_inj rx ry).mpr w)) r1 r2 r3 p env s m args below meth c H locs la C R h1 h2 hl) (fun q => hf2 ((z_ad_inj rx ry).mp q) r1 r2 r3 p env s m args below meth c H locs la C R h1 h2 hl)
theorem z_s_tabIn {x lo hi dflt off : Int} {offs : Array Int} {len t : Nat} (h1' : lo ≤ x) (h2' : x ≤ hi) (ho : offs[(x - lo).toNat]? = some off) (ht : (pc : Int) + off = (t : Int)) (hd : decode (z_hd y).2.1 pc = .ok (.tableswitch dflt lo hi offs, len)) (h : z_X e ph d y Ni No t ls st N σ Q) : z_X e ph d y Ni No pc ls (z_I x :: st) N σ Q := by
  intro r1 r2 r3 p env s m args below meth c H locs la C R h1 h2 hl
  obtain ⟨hx, hb, -⟩ := id C
  obtain ⟨rx, r2⟩ := List.forall_mem_cons.mp r2
  exact lv_tableIn hx hb hd (by rw [z_to rx]; omega) (by rw [z_to rx]; omega) (by rw [z_to rx]; exact ho) ht (h r1 r2 r3 p env s m args below meth c H locs la C R h1 h2 hl)
theorem z_s_tabOut {x lo hi dflt : Int} {offs : Array Int} {len t : Nat} (h1' : x < lo ∨ hi < x) (ht : (pc : Int) + dflt = (t : Int)) (hd : decode (z_hd y).2.1 pc = .ok (.tableswitch dflt lo hi offs, len)) (h : z_X e ph d y Ni No t ls st N σ Q) : z_X e ph d y Ni No pc ls (z_I x :: st) N σ Q := by
  intro r1 r2 r3 p env s m args below meth c H locs la C R h1 h2 hl
  obtain ⟨hx, hb, -⟩ := id C
  obtain ⟨rx, r2⟩ := List.forall_mem_cons.mp r2
  exact lv_tableOut hx hb hd (by rw [z_to rx]; exact h1') ht (h r1 r2 r3 p env s m args below meth c H locs la C R h1 h2 hl)
theorem z_s_look {x dflt off : Int} {ps : Array (Int × Int)} {len t : Nat} (hp : (ps.toList.zip (ps.toList.drop 1)).all (fun (a, next) => a.1 < next.1) = true) (ho : Op.lookupswitch.offset ps.toList dflt x = off) (ht : (pc : Int) + off = (t : Int)) (hd : decode (z_hd y).2.1 pc = .ok (.lookupswitch dflt ps, len)) (h : z_X e ph d y Ni No t ls st N σ Q) : z_X e ph d y Ni No pc ls (z_I x :: st) N σ Q := by
  intro r1 r2 r3 p env s m args below meth c H locs la C R h1 h2 hl
  obtain ⟨hx, hb, -⟩ := id C
  obtain ⟨rx, r2⟩ := List.forall_mem_cons.mp r2
  exact lv_lookup hx hb hd hp (by rw [z_to rx]; exact ho) ht (h r1 r2 r3 p env s m args below meth c H locs la C R h1 h2 hl)
end ZA
