/-! the abstract machine: numbers, memory, the world that it stands for -/
abbrev z_V : Type := Int ⊕ Int ⊕ Int
abbrev z_I (x : Int) : z_V := .inl x
abbrev z_J (x : Int) : z_V := .inr (.inl x)
abbrev z_R (x : Int) : z_V := .inr (.inr x)
abbrev z_M : Type := Int → Int → Int
def z_wr (x : Int) : Int := (x + 2147483648) % 4294967296 - 2147483648
def z_wl (x : Int) : Int := (x + 9223372036854775808) % 18446744073709551616 - 9223372036854775808
def z_ir (x : Int) : Prop := -2147483648 ≤ x ∧ x < 2147483648
def z_lr (x : Int) : Prop := -9223372036854775808 ≤ x ∧ x < 9223372036854775808
def z_up (σ : z_M) (a i v : Int) : z_M := fun a' i' => if a' = a ∧ i' = i then v else σ a' i'
def z_cp (σ : z_M) (a sp d dp n : Int) : z_M := fun a' i' => if a' = d ∧ dp ≤ i' ∧ i' < dp + n then σ a (sp + (i' - dp)) else σ a' i'
/-- what a new cell of a kind holds -/
def z_df (kd : Nat) (i : Int) : Int := if kd < 100000 then (if z_ft kd i.toNat = 0 ∨ z_ft kd i.toNat = 3 then 0 else -1) else if kd < 300000 then 0 else -1
def z_nu (σ : z_M) (a : Int) (kd : Nat) : z_M := fun a' i' => if a' = a then z_df kd i' else σ a' i'
def z_and (x y : Int) : Int := (Int32.ofInt x &&& Int32.ofInt y).toInt
def z_or (x y : Int) : Int := (Int32.ofInt x ||| Int32.ofInt y).toInt
def z_shl (x y : Int) : Int := (Int32.ofInt x <<< (Int32.ofInt y &&& 31)).toInt
def z_shr (x y : Int) : Int := (Int32.ofInt x >>> (Int32.ofInt y &&& 31)).toInt
/-- the environment: the launch, the heap at the law's entry, the classes, the classes of arrays by kind -/
abbrev z_E : Type := Launch × Heap × va_G × (Nat → ClassId)
def z_ad (e : z_E) (x : Int) : Option Nat := if x < 0 then none else some (e.2.1.size + x.toNat)
def z_vv (e : z_E) (v : z_V) : Value := match v with
  | .inl x => .int (Int32.ofInt x)
  | .inr (.inl x) => .long (Int64.ofInt x)
  | .inr (.inr x) => va_rf (z_ad e x)
def z_rg (v : z_V) : Prop := match v with
  | .inl x => z_ir x
  | .inr (.inl x) => z_lr x
  | .inr (.inr _) => True
def z_fv (e : z_E) (ph : Bool) (kd j : Nat) (x v : Int) : Value := match z_ft kd j with
  | 1 => va_rf (z_ad e v)
  | 2 => va_rf (z_ad e (cond ph (z_sr kd j x) v))
  | _ => .int (Int32.ofInt v)
def z_ce (e : z_E) (ph : Bool) (σ : z_M) (k : Nat) : va_E :=
  if z_knd (k : Int) < 100000 then .inr (z_knd (k : Int) - 1, (List.range (z_nf (z_knd (k : Int)))).map (fun j : Nat => z_fv e ph (z_knd (k : Int)) j (k : Int) (σ (k : Int) (j : Int))))
  else if z_knd (k : Int) < 300000 then .inl (e.2.2.2 (z_knd (k : Int) / 100000), z_knd (k : Int) % 100000, .inl (fun j : Nat => Int32.ofInt (σ (k : Int) (j : Int))))
  else .inl (e.2.2.2 (z_knd (k : Int) / 100000), z_knd (k : Int) % 100000, .inr (.inr (.inr (.inr (fun j : Nat => z_ad e (cond (ph && !(z_knd (k : Int) / 100000 == 6)) (z_sa (z_knd (k : Int) / 100000) (k : Int) (j : Int)) (σ (k : Int) (j : Int))))))))
def z_wd (e : z_E) (ph : Bool) (σ : z_M) (N : Nat) : va_W := (List.range N).map fun k => (e.2.1.size + k, z_ce e ph σ k)
def z_tys (e : z_E) : List (ClassId × FieldType) := [(e.2.2.2 1, .int), (e.2.2.2 2, .boolean), (e.2.2.2 3, .object "MemoByWeight$Text"), (e.2.2.2 4, .object "MemoByWeight$Run"), (e.2.2.2 5, .object "MemoByWeight$Frame"), (e.2.2.2 6, .object "MemoByWeight$Kept")]
def z_A (e : z_E) : Nat → Prop := fun q => e.2.1.size ≤ q
/-- the heap is the world of the memory -/
def z_Rep (e : z_E) (ph : Bool) (N : Nat) (σ : z_M) (H : Heap) (locs : List Loc) : Prop := (ph = false → H.size = e.2.1.size + N) ∧ va_P e.2.2.1 z_cl (z_wd e ph σ N) H ∧ va_S (z_A e) e.2.1 H locs
/-- what is known of the machine's tables at a state -/
def z_KS (e : z_E) (s : State) : Prop := va_K e.2.2.1 z_cl (z_tys e) s ∧ (∀ w ∈ z_nw, va_Nw w s) ∧ ∀ C ∈ z_ao, va_AO C s
def z_rM (σ : z_M) : Prop := ∀ a i : Int, z_ir (σ a i)
def z_rS (st : List z_V) : Prop := ∀ v ∈ st, z_rg v
def z_rL (ls : List (Option z_V)) : Prop := ∀ v : z_V, some v ∈ ls → z_rg v
def z_en (e : z_E) : Nat → List (Option z_V) → List (Nat × Value)
  | _, [] => []
  | i, none :: l => z_en e (i + 1) l
  | i, some v :: l => (i, z_vv e v) :: z_en e (i + 1) l
def z_nth : List (Option z_V) → Nat → Option z_V
  | [], _ => none
  | a :: _, 0 => a
  | _ :: l, n + 1 => z_nth l n
def z_kill (a : Option z_V) : Option z_V := match a with
  | some (.inr (.inl _)) => none
  | a => a
def z_set : List (Option z_V) → Nat → z_V → List (Option z_V)
  | [], _, _ => []
  | _ :: l, 0, v => some v :: l
  | a :: l, 1, v => z_kill a :: z_set l 0 v
  | a :: l, n + 2, v => a :: z_set l (n + 1) v
def z_clr : List (Option z_V) → Nat → List (Option z_V)
  | [], _ => []
  | _ :: l, 0 => none :: l
  | a :: l, n + 1 => a :: z_clr l n
def z_cat (st : List z_V) : Nat := match st with
  | [] => 0
  | .inr (.inl _) :: l => z_cat l + 2
  | _ :: l => z_cat l + 1
def z_slot (k : Nat) : Nat := if z_knd (k : Int) < 100000 then z_nf (z_knd (k : Int)) else z_knd (k : Int) % 100000
def z_sl : Nat → Nat
  | 0 => 0
  | n + 1 => z_sl n + z_slot n
def z_rm (d N N' : Nat) : Room := { frames := d, cells := N' - N, slots := z_sl N' - z_sl N, locals := 40 * d + 60 }
abbrev z_ws (y : Nat) : List Cond := .code (z_hd y).1 (z_hd y).2.1 (z_hd y).2.2.1 (z_hd y).2.2.2.1 :: z_gw
def z_rv (e : z_E) (rt : Option FieldType) (r : Int) : Option Value := match rt with
  | none => none
  | some .long => some (z_vv e (z_J r))
  | some (.object _) => some (z_vv e (z_R r))
  | some _ => some (z_vv e (z_I r))
def z_rr (rt : Option FieldType) (r : Int) : Prop := match rt with
  | none => True
  | some .long => z_lr r
  | some (.object _) => True
  | some _ => z_ir r
def z_Pc (e : z_E) (ph : Bool) (args : List z_V) (N : Nat) (σ : z_M) : Array Value → State → Prop := va_Pc (args.map (z_vv e)) (fun U => z_KS e U ∧ z_Rep e ph N σ U.heap [])
def z_Qc (e : z_E) (ph : Bool) (rt : Option FieldType) (N : Nat) (Q : Int → z_M → Prop) : Array Value → State → Outcome → State → Prop := fun _ _ o t => ∃ (r : Int) (σ : z_M), Q r σ ∧ z_rM σ ∧ z_rr rt r ∧ o = .returned (z_rv e rt r) ∧ z_Rep e ph N σ t.heap []
/-- a call of method y within a depth d: it returns, and Q holds of the answer and the memory -/
def z_Y (e : z_E) (ph : Bool) (d y : Nat) (args : List z_V) (N N' : Nat) (σ : z_M) (Q : Int → z_M → Prop) : Prop :=
  z_rS args → z_rM σ → ∃ d', d = d' + 1 ∧ N ≤ N' ∧ Met e.1 (z_hd y).1 (z_ws y) (z_rm d' N N') (z_Pc e ph args N σ) (z_Qc e ph (z_hd y).2.2.2.1 N' Q) (N' - N) (z_sl N' - z_sl N) (z_A e)
/-- the machine within the method -/
def z_Cx (e : z_E) (y : Nat) (p : Program) (s : State) (m : MethodId) (args : Array Value) (meth : Method) (c : Code) : Prop :=
  p.tables.exec = Jvm.exec ∧ c.code = (z_hd y).2.1 ∧ meth.sig.returnType = (z_hd y).2.2.2.1 ∧ c.maxLocals = (z_hd y).2.2.1 ∧ s.vm.findClass (z_hd y).1.cls = some m.cls ∧ (∀ w ∈ z_gw, w.before args s = true) ∧ meth.locks = false ∧ meth.name = (z_hd y).1.name ∧ z_KS e s
def z_X (e : z_E) (ph : Bool) (d y Ni No pc : Nat) (ls : List (Option z_V)) (st : List z_V) (N : Nat) (σ : z_M) (Q : Int → z_M → Prop) : Prop :=
  z_rL ls → z_rS st → z_rM σ → ∀ (p : Program) (env : Env) (s : State) (m : MethodId) (args : Array Value) (below : List Frame) (meth : Method) (c : Code) (H : Heap) (locs : List Loc) (la : Array Slot),
    z_Cx e y p s m args meth c → z_Rep e ph N σ H locs → Ni ≤ N → N ≤ No → lv_has la (z_hd y).2.2.1 (z_en e 0 ls) →
    W p e.1 env (z_rm d Ni No) s m args below meth c H locs (N - Ni) (z_sl N - z_sl Ni) (MQ below (z_Qc e ph (z_hd y).2.2.2.1 No Q) args s (No - Ni) (z_sl No - z_sl Ni) (z_A e)) (F0 m pc la (st.map (z_vv e)))
/-! numbers -/
theorem z_wr_ir (x : Int) : z_ir (z_wr x) := by unfold z_ir z_wr; omega
theorem z_wl_lr (x : Int) : z_lr (z_wl x) := by unfold z_lr z_wl; omega
theorem z_wr_id {x : Int} (h1 : -2147483648 ≤ x) (h2 : x < 2147483648) : z_wr x = x := by unfold z_wr; omega
theorem z_wl_id {x : Int} (h1 : -9223372036854775808 ≤ x) (h2 : x < 9223372036854775808) : z_wl x = x := by unfold z_wl; omega
theorem z_bm (x : Int) : x.bmod Int32.size = z_wr x := by
  have h : ((Int32.size : Nat) : Int) = 4294967296 := rfl
  simp only [Int.bmod, h, z_wr]
  split <;> omega
theorem z_bml (x : Int) : x.bmod Int64.size = z_wl x := by
  have h : ((Int64.size : Nat) : Int) = 18446744073709551616 := rfl
  simp only [Int.bmod, h, z_wl]
  split <;> omega
theorem z_of_wr (x : Int) : Int32.ofInt (z_wr x) = Int32.ofInt x := by
  apply Int32.toInt_inj.mp
  rw [Int32.toInt_ofInt, Int32.toInt_ofInt, z_bm, z_bm]
  unfold z_wr; omega
theorem z_of_wl (x : Int) : Int64.ofInt (z_wl x) = Int64.ofInt x := by
  apply Int64.toInt_inj.mp
  rw [Int64.toInt_ofInt, Int64.toInt_ofInt, z_bml, z_bml]
  unfold z_wl; omega
theorem z_to {x : Int} (h : z_ir x) : (Int32.ofInt x).toInt = x := by
  rw [Int32.toInt_ofInt, z_bm]; exact z_wr_id h.1 h.2
theorem z_tol {x : Int} (h : z_lr x) : (Int64.ofInt x).toInt = x := by
  rw [Int64.toInt_ofInt, z_bml]; exact z_wl_id h.1 h.2
theorem z_toir (x : Int32) : z_ir x.toInt := by
  have h1 := Int32.le_toInt x
  have h2 := Int32.toInt_lt x
  unfold z_ir; omega
theorem z_eq {x y : Int} (hx : z_ir x) (hy : z_ir y) : Int32.ofInt x = Int32.ofInt y ↔ x = y :=
  ⟨fun h => by rw [← z_to hx, ← z_to hy, h], fun h => by rw [h]⟩
theorem z_le {x y : Int} (hx : z_ir x) (hy : z_ir y) : Int32.ofInt x ≤ Int32.ofInt y ↔ x ≤ y := by
  rw [Int32.le_iff_toInt_le, z_to hx, z_to hy]
theorem z_lt {x y : Int} (hx : z_ir x) (hy : z_ir y) : Int32.ofInt x < Int32.ofInt y ↔ x < y := by
  rw [Int32.lt_iff_toInt_lt, z_to hx, z_to hy]
theorem z_nat {x : Int} (hx : z_ir x) : (Int32.ofInt x).toNatClampNeg = x.toNat := by
  show (Int32.ofInt x).toInt.toNat = x.toNat
  rw [z_to hx]
theorem z_zero : (0 : Int32) = Int32.ofInt 0 := rfl
theorem z_ir0 : z_ir 0 := by unfold z_ir; omega
