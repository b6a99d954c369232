/-! the code tables, and what they must keep to -/
def z_pcAt (full : List z_In) (t : Nat) : Option Nat := match full.drop t with
  | i :: _ => some i.2.1
  | [] => none
def z_at (full : List z_In) (t : Nat) (p : Int) : Bool := match z_pcAt full t with
  | some q => decide ((q : Int) = p)
  | none => false
def z_lk (full : List z_In) (pc : Int) : List (Int × Int) → List Nat → Bool
  | [], [] => true
  | p :: ps, t :: ts => z_at full t (pc + p.2) && z_lk full pc ps ts
  | _, _ => false
def z_tk (full : List z_In) (pc : Int) : List Int → List Nat → Bool
  | [], [] => true
  | o :: os, t :: ts => z_at full t (pc + o) && z_tk full pc os ts
  | _, _ => false
def z_irB (n : Int) : Bool := decide (-2147483648 ≤ n ∧ n < 2147483648)
def z_cw (ci : Nat) (f : vw_C → Bool) : Bool := match z_cl[ci]? with
  | some q => f q
  | none => false
def z_rc (rt : Option FieldType) : Nat := match rt with
  | none => 0
  | some .long => 2
  | some (.object _) => 3
  | some _ => 1
def z_cl4 (y' na rc gr : Nat) : Bool := Nat.blt y' 193 && (z_hd y').2.2.2.2.2.1 == na && z_rc (z_hd y').2.2.2.1 == rc && (z_hd y').2.2.2.2.2.2.1 == gr
def z_nx (full : List z_In) (ix pc len k : Nat) : Bool := len == k && z_at full (ix + 1) ((pc : Int) + (k : Int))
def z_isO (rt : Option FieldType) : Bool := match rt with
  | some (.object _) => true
  | _ => false
def z_okS (y : Nat) (full : List z_In) (ix pc len : Nat) (ins : Instr) (args pl : List Nat) : Bool :=
  match ins, args with
  | .iconst n, _ => z_nx full ix pc len 1 && z_irB n
  | .bipush n, _ => z_nx full ix pc len 2 && z_irB n && decide ((Int8.ofInt n).toInt32 = Int32.ofInt n)
  | .sipush n, _ => z_nx full ix pc len 3 && z_irB n && decide ((Int16.ofInt n).toInt32 = Int32.ofInt n)
  | .ldc i, [n] => z_nx full ix pc len 2 && z_irB (n : Int) && z_hasW (pl.getD 0 0) (.constant (z_hd y).1.cls i (Int32.ofInt (n : Int)))
  | .ldc2_w i, [n, s] => z_nx full ix pc len 3 && z_irB (cond (s == 0) (n : Int) (-(n : Int))) && z_hasW (pl.getD 0 0) (.constantLong (z_hd y).1.cls i (Int64.ofInt (cond (s == 0) (n : Int) (-(n : Int)))))
  | .lconst k, [n] => z_nx full ix pc len 1 && (k : Nat) == n
  | .aconst_null, _ => z_nx full ix pc len 1
  | .iload_n _, _ => z_nx full ix pc len 1
  | .iload _, _ => z_nx full ix pc len 2
  | .lload_n _, _ => z_nx full ix pc len 1
  | .lload _, _ => z_nx full ix pc len 2
  | .aload_n _, _ => z_nx full ix pc len 1
  | .aload _, _ => z_nx full ix pc len 2
  | .istore_n k, _ => z_nx full ix pc len 1 && decide ((k : Nat) < (z_hd y).2.2.1)
  | .istore k, _ => z_nx full ix pc len 2 && decide (k < (z_hd y).2.2.1)
  | .lstore k, _ => z_nx full ix pc len 2 && decide (k + 1 < (z_hd y).2.2.1)
  | .astore_n k, _ => z_nx full ix pc len 1 && decide ((k : Nat) < (z_hd y).2.2.1)
  | .astore k, _ => z_nx full ix pc len 2 && decide (k < (z_hd y).2.2.1)
  | .iinc k _, _ => z_nx full ix pc len 3 && decide (k < (z_hd y).2.2.1)
  | .iadd, _ | .isub, _ | .imul, _ | .idiv, _ | .irem, _ | .iand, _ | .ior, _ | .ishl, _ | .ishr, _ | .ineg, _ | .ladd, _ | .lsub, _ | .lmul, _ | .ldiv, _ | .lcmp, _ | .i2l, _ | .l2i, _ | .dup, _ | .dup2, _ | .pop, _ => z_nx full ix pc len 1
  | .goto off, [t] => len == 3 && z_at full t ((pc : Int) + off)
  | .ifCond _ off, [t] => z_nx full ix pc len 3 && z_at full t ((pc : Int) + off)
  | .if_icmp _ off, [t] => z_nx full ix pc len 3 && z_at full t ((pc : Int) + off)
  | .if_acmp _ off, [t] => z_nx full ix pc len 3 && z_at full t ((pc : Int) + off)
  | .ifnull off, [t] => z_nx full ix pc len 3 && z_at full t ((pc : Int) + off)
  | .ifnonnull off, [t] => z_nx full ix pc len 3 && z_at full t ((pc : Int) + off)
  | .tableswitch dflt lo hi offs, td :: ts => z_tk full pc offs.toList ts && z_at full td ((pc : Int) + dflt) && decide (hi + 1 = lo + (ts.length : Int))
  | .lookupswitch dflt ps, td :: ts => z_lk full pc ps.toList ts && z_at full td ((pc : Int) + dflt) && (ps.toList.zip (ps.toList.drop 1)).all (fun (a, next) => a.1 < next.1)
  | .getfield i, [ci, j] => z_nx full ix pc len 3 && z_cw ci (fun q => decide (j < q.2.2) && z_hasW (pl.getD 0 0) (.fieldLink (z_hd y).1.cls i (q.2.1 j).1 (q.2.1 j).2.1 (q.2.1 j).2.2.1))
  | .putfield i, [ci, j] => z_nx full ix pc len 3 && z_cw ci (fun q => decide (j < q.2.2) && z_hasW (pl.getD 0 0) (.fieldLink (z_hd y).1.cls i (q.2.1 j).1 (q.2.1 j).2.1 (q.2.1 j).2.2.1) && decide (z_ft (ci + 1) j = 2 → (z_hd y).1.name = "<init>" ∧ (q.2.1 j).1 = (z_hd y).1.cls))
  | .iaload, [kd] => z_nx full ix pc len 1 && kd / 100000 == 1
  | .iastore, [kd] => z_nx full ix pc len 1 && kd / 100000 == 1
  | .baload, [kd] => z_nx full ix pc len 1 && kd / 100000 == 2
  | .bastore, [kd] => z_nx full ix pc len 1 && kd / 100000 == 2
  | .aaload, [kd] => z_nx full ix pc len 1 && decide (3 ≤ kd / 100000 ∧ kd / 100000 ≤ 6)
  | .aastore, [kd, ci] => z_nx full ix pc len 1 && decide (3 ≤ kd / 100000 ∧ kd / 100000 ≤ 6) && z_cw ci (fun q => decide (q.1 = z_aty (kd / 100000)))
  | .arraylength, [kd] => z_nx full ix pc len 1 && decide (1 ≤ kd / 100000 ∧ kd / 100000 ≤ 6)
  | .newarray .int, [_] => z_nx full ix pc len 2 && z_hasW (pl.getD 0 0) (.arrayClass .int)
  | .newarray .boolean, [_] => z_nx full ix pc len 2 && z_hasW (pl.getD 0 0) (.arrayClass .boolean)
  | .anewarray i, [_, tag] => z_nx full ix pc len 3 && decide (3 ≤ tag ∧ tag ≤ 6) && z_hasW (pl.getD 0 0) (.classLink (z_hd y).1.cls i (z_aty tag))
  | .new i, [ci] => z_nx full ix pc len 3 && z_cw ci (fun q => z_hasW (pl.getD 0 0) (.classLink (z_hd y).1.cls i q.1) && z_hasW (pl.getD 1 0) (.instantiable q.1 q.2.2) && z_hasW (pl.getD 2 0) (.initialized q.1))
  | .invokevirtual i, [y', na, rc, gr, kd] => z_nx full ix pc len 3 && (z_cl4 y' na rc gr && kd == (z_hd y').2.2.2.2.1 + 1) && !(z_hd y').2.2.2.2.2.2.2.2 && z_hasW (pl.getD 0 0) (.methodLink (z_hd y).1.cls i (z_hd y').1) && z_hasW (pl.getD 1 0) (.selects (z_hd y').1.cls (z_hd y').1 (z_hd y').1)
  | .invokestatic i, [k0, k1] => z_nx full ix pc len 3 && k0 / 100000 == k1 / 100000 && (k0 / 100000 == 1 || k0 / 100000 == 2) && z_hasW (pl.getD 0 0) (.methodLink (z_hd y).1.cls i arraycopyName) && z_hasW (pl.getD 1 0) (.native arraycopyName) && z_hasW (pl.getD 2 0) (.static arraycopyName) && z_hasW (pl.getD 3 0) (.initialized "java/lang/System")
  | .invokestatic i, [] => z_nx full ix pc len 3 && z_hasW (pl.getD 0 0) (.methodLink (z_hd y).1.cls i Lib.Math.abs.name) && z_hasW (pl.getD 1 0) (.static Lib.Math.abs.name) && z_hasW (pl.getD 2 0) (.initialized "java/lang/Math") && z_hasW (pl.getD 3 0) (.code Lib.Math.abs.name Lib.Math.abs.code 1 (some .int))
  | .invokestatic i, [y', na, rc, gr, _] => z_nx full ix pc len 3 && z_cl4 y' na rc gr && (z_hd y').2.2.2.2.2.2.2.2 && decide (Cond.methodLinkNest (z_hd y).1.cls i (z_hd y').1 "MemoByWeight" ∈ z_nw)
  | .invokestatic i, [y', na, rc, gr] => z_nx full ix pc len 3 && z_cl4 y' na rc gr && (z_hd y').2.2.2.2.2.2.2.2 && decide ((z_hd y').1.cls = (z_hd y).1.cls) && z_hasW (pl.getD 0 0) (.methodLink (z_hd y).1.cls i (z_hd y').1)
  | .invokespecial i, [] => z_nx full ix pc len 3 && z_hasW (pl.getD 0 0) (.methodLink (z_hd y).1.cls i Lib.objectInit) && z_hasW (pl.getD 1 0) (.instanceMethod Lib.objectInit) && z_hasW (pl.getD 2 0) (.code Lib.objectInit ⟨#[0xb1]⟩ 1 none)
  | .invokespecial i, [y', na, rc, gr, _] => z_nx full ix pc len 3 && z_cl4 y' na rc gr && !(z_hd y').2.2.2.2.2.2.2.2 && decide ((z_hd y').1.name = "<init>") && decide ((z_hd y').2.2.2.1 = none) && decide (Cond.methodLinkNest (z_hd y).1.cls i (z_hd y').1 "MemoByWeight" ∈ z_nw)
  | .invokespecial i, [y', na, rc, gr] => z_nx full ix pc len 3 && z_cl4 y' na rc gr && !(z_hd y').2.2.2.2.2.2.2.2 && decide ((z_hd y').1.name = "<init>") && decide ((z_hd y').2.2.2.1 = none) && z_hasW (pl.getD 0 0) (.methodLink (z_hd y).1.cls i (z_hd y').1)
  | .return_, _ => len == 1 && decide ((z_hd y).2.2.2.1 = none)
  | .ireturn, [0] => len == 1 && decide ((z_hd y).2.2.2.1 = some .int)
  | .ireturn, [1] => len == 1 && decide ((z_hd y).2.2.2.1 = some .boolean)
  | .lreturn, _ => len == 1 && decide ((z_hd y).2.2.2.1 = some .long)
  | .areturn, _ => len == 1 && z_isO (z_hd y).2.2.2.1
  | _, _ => false
def z_okI (y : Nat) (full : List z_In) (i : z_In) : Bool := decide (decode (z_hd y).2.1 i.2.1 = .ok (i.2.2.2.2.1, i.2.2.2.2.2.1)) && z_okS y full i.1 i.2.1 i.2.2.2.2.2.1 i.2.2.2.2.1 i.2.2.2.2.2.2.1 i.2.2.2.2.2.2.2
def z_okL (y : Nat) (full : List z_In) : Nat → List z_In → Bool
  | _, [] => true
  | n, i :: l => i.1 == n && z_okI y full i && z_okL y full (n + 1) l
def z_okM (y : Nat) (full : List z_In) : Bool := z_okL y full 0 full && plainName (z_hd y).1.cls
theorem z_okL_get {y : Nat} {full : List z_In} : ∀ (l : List z_In) (n k : Nat) (i : z_In) (r : List z_In), z_okL y full n l = true → l.drop k = i :: r → i.1 = n + k ∧ z_okI y full i = true
  | [], n, k, i, r, h, hd => by simp at hd
  | a :: l, n, 0, i, r, h, hd => by
    simp only [z_okL, Bool.and_eq_true, beq_iff_eq] at h
    cases hd
    exact ⟨h.1.1, h.1.2⟩
  | a :: l, n, k + 1, i, r, h, hd => by
    simp only [z_okL, Bool.and_eq_true, beq_iff_eq] at h
    obtain ⟨h1, h2⟩ := z_okL_get l (n + 1) k i r h.2 (by simpa using hd)
    exact ⟨by omega, h2⟩
theorem z_in_gw2 (p : Nat) {w : Cond} (h : lw_tbl[p]? = some w) (hg : goodWord w = true) : w ∈ z_gw := List.mem_filter.mpr ⟨List.mem_of_getElem? h, hg⟩
theorem z_hA0 : ([0, 1, 2, 3, 4, 5, 6, 7, 8, 9, 10, 11, 12, 13, 14, 15] : List Nat).all z_hok0 = true := by decide +kernel
theorem z_hB0 : ∀ y ∈ ([0, 1, 2, 3, 4, 5, 6, 7, 8, 9, 10, 11, 12, 13, 14, 15] : List Nat), Cond.code (z_hd y).1 (z_hd y).2.1 (z_hd y).2.2.1 (z_hd y).2.2.2.1 ∈ z_gw := List.forall_mem_cons.mpr ⟨z_in_gw (p := 271) (by decide +kernel), List.forall_mem_cons.mpr ⟨z_in_gw (p := 508) (by decide +kernel), List.forall_mem_cons.mpr ⟨z_in_gw (p := 671) (by decide +kernel), List.forall_mem_cons.mpr ⟨z_in_gw (p := 640) (by decide +kernel), List.forall_mem_cons.mpr ⟨z_in_gw (p := 635) (by decide +kernel), List.forall_mem_cons.mpr ⟨z_in_gw (p := 582) (by decide +kernel), List.forall_mem_cons.mpr ⟨z_in_gw (p := 652) (by decide +kernel), List.forall_mem_cons.mpr ⟨z_in_gw (p := 676) (by decide +kernel), List.forall_mem_cons.mpr ⟨z_in_gw (p := 586) (by decide +kernel), List.forall_mem_cons.mpr ⟨z_in_gw (p := 667) (by decide +kernel), List.forall_mem_cons.mpr ⟨z_in_gw (p := 155) (by decide +kernel), List.forall_mem_cons.mpr ⟨z_in_gw (p := 690) (by decide +kernel), List.forall_mem_cons.mpr ⟨z_in_gw (p := 698) (by decide +kernel), List.forall_mem_cons.mpr ⟨z_in_gw (p := 742) (by decide +kernel), List.forall_mem_cons.mpr ⟨z_in_gw (p := 710) (by decide +kernel), List.forall_mem_cons.mpr ⟨z_in_gw (p := 99) (by decide +kernel), fun _ h => absurd h List.not_mem_nil⟩⟩⟩⟩⟩⟩⟩⟩⟩⟩⟩⟩⟩⟩⟩⟩
theorem z_hA1 : ([16, 17, 18, 19, 20, 21, 22, 23, 24, 25, 26, 27, 28, 29, 30, 31] : List Nat).all z_hok0 = true := by decide +kernel
theorem z_hB1 : ∀ y ∈ ([16, 17, 18, 19, 20, 21, 22, 23, 24, 25, 26, 27, 28, 29, 30, 31] : List Nat), Cond.code (z_hd y).1 (z_hd y).2.1 (z_hd y).2.2.1 (z_hd y).2.2.2.1 ∈ z_gw := List.forall_mem_cons.mpr ⟨z_in_gw (p := 401) (by decide +kernel), List.forall_mem_cons.mpr ⟨z_in_gw (p := 412) (by decide +kernel), List.forall_mem_cons.mpr ⟨z_in_gw (p := 460) (by decide +kernel), List.forall_mem_cons.mpr ⟨z_in_gw (p := 440) (by decide +kernel), List.forall_mem_cons.mpr ⟨z_in_gw (p := 456) (by decide +kernel), List.forall_mem_cons.mpr ⟨z_in_gw (p := 476) (by decide +kernel), List.forall_mem_cons.mpr ⟨z_in_gw (p := 472) (by decide +kernel), List.forall_mem_cons.mpr ⟨z_in_gw (p := 420) (by decide +kernel), List.forall_mem_cons.mpr ⟨z_in_gw (p := 424) (by decide +kernel), List.forall_mem_cons.mpr ⟨z_in_gw (p := 428) (by decide +kernel), List.forall_mem_cons.mpr ⟨z_in_gw (p := 432) (by decide +kernel), List.forall_mem_cons.mpr ⟨z_in_gw (p := 436) (by decide +kernel), List.forall_mem_cons.mpr ⟨z_in_gw (p := 464) (by decide +kernel), List.forall_mem_cons.mpr ⟨z_in_gw (p := 468) (by decide +kernel), List.forall_mem_cons.mpr ⟨z_in_gw (p := 448) (by decide +kernel), List.forall_mem_cons.mpr ⟨z_in_gw (p := 452) (by decide +kernel), fun _ h => absurd h List.not_mem_nil⟩⟩⟩⟩⟩⟩⟩⟩⟩⟩⟩⟩⟩⟩⟩⟩
theorem z_hA2 : ([32, 33, 34, 35, 36, 37, 38, 39, 40, 41, 42, 43, 44, 45, 46, 47] : List Nat).all z_hok0 = true := by decide +kernel
theorem z_hB2 : ∀ y ∈ ([32, 33, 34, 35, 36, 37, 38, 39, 40, 41, 42, 43, 44, 45, 46, 47] : List Nat), Cond.code (z_hd y).1 (z_hd y).2.1 (z_hd y).2.2.1 (z_hd y).2.2.2.1 ∈ z_gw := List.forall_mem_cons.mpr ⟨z_in_gw (p := 264) (by decide +kernel), List.forall_mem_cons.mpr ⟨z_in_gw (p := 547) (by decide +kernel), List.forall_mem_cons.mpr ⟨z_in_gw (p := 500) (by decide +kernel), List.forall_mem_cons.mpr ⟨z_in_gw (p := 578) (by decide +kernel), List.forall_mem_cons.mpr ⟨z_in_gw (p := 594) (by decide +kernel), List.forall_mem_cons.mpr ⟨z_in_gw (p := 622) (by decide +kernel), List.forall_mem_cons.mpr ⟨z_in_gw (p := 504) (by decide +kernel), List.forall_mem_cons.mpr ⟨z_in_gw (p := 574) (by decide +kernel), List.forall_mem_cons.mpr ⟨z_in_gw (p := 614) (by decide +kernel), List.forall_mem_cons.mpr ⟨z_in_gw (p := 602) (by decide +kernel), List.forall_mem_cons.mpr ⟨z_in_gw (p := 714) (by decide +kernel), List.forall_mem_cons.mpr ⟨z_in_gw (p := 148) (by decide +kernel), List.forall_mem_cons.mpr ⟨z_in_gw (p := 590) (by decide +kernel), List.forall_mem_cons.mpr ⟨z_in_gw (p := 754) (by decide +kernel), List.forall_mem_cons.mpr ⟨z_in_gw (p := 684) (by decide +kernel), List.forall_mem_cons.mpr ⟨z_in_gw (p := 702) (by decide +kernel), fun _ h => absurd h List.not_mem_nil⟩⟩⟩⟩⟩⟩⟩⟩⟩⟩⟩⟩⟩⟩⟩⟩
theorem z_hA3 : ([48, 49, 50, 51, 52, 53, 54, 55, 56, 57, 58, 59, 60, 61, 62, 63] : List Nat).all z_hok0 = true := by decide +kernel
theorem z_hB3 : ∀ y ∈ ([48, 49, 50, 51, 52, 53, 54, 55, 56, 57, 58, 59, 60, 61, 62, 63] : List Nat), Cond.code (z_hd y).1 (z_hd y).2.1 (z_hd y).2.2.1 (z_hd y).2.2.2.1 ∈ z_gw := List.forall_mem_cons.mpr ⟨z_in_gw (p := 706) (by decide +kernel), List.forall_mem_cons.mpr ⟨z_in_gw (p := 516) (by decide +kernel), List.forall_mem_cons.mpr ⟨z_in_gw (p := 512) (by decide +kernel), List.forall_mem_cons.mpr ⟨z_in_gw (p := 803) (by decide +kernel), List.forall_mem_cons.mpr ⟨z_in_gw (p := 766) (by decide +kernel), List.forall_mem_cons.mpr ⟨z_in_gw (p := 774) (by decide +kernel), List.forall_mem_cons.mpr ⟨z_in_gw (p := 790) (by decide +kernel), List.forall_mem_cons.mpr ⟨z_in_gw (p := 778) (by decide +kernel), List.forall_mem_cons.mpr ⟨z_in_gw (p := 782) (by decide +kernel), List.forall_mem_cons.mpr ⟨z_in_gw (p := 105) (by decide +kernel), List.forall_mem_cons.mpr ⟨z_in_gw (p := 524) (by decide +kernel), List.forall_mem_cons.mpr ⟨z_in_gw (p := 416) (by decide +kernel), List.forall_mem_cons.mpr ⟨z_in_gw (p := 489) (by decide +kernel), List.forall_mem_cons.mpr ⟨z_in_gw (p := 444) (by decide +kernel), List.forall_mem_cons.mpr ⟨z_in_gw (p := 484) (by decide +kernel), List.forall_mem_cons.mpr ⟨z_in_gw (p := 480) (by decide +kernel), fun _ h => absurd h List.not_mem_nil⟩⟩⟩⟩⟩⟩⟩⟩⟩⟩⟩⟩⟩⟩⟩⟩
theorem z_hA4 : ([64, 65, 66, 67, 68, 69, 70, 71, 72, 73, 74, 75, 76, 77, 78, 79] : List Nat).all z_hok0 = true := by decide +kernel
theorem z_hB4 : ∀ y ∈ ([64, 65, 66, 67, 68, 69, 70, 71, 72, 73, 74, 75, 76, 77, 78, 79] : List Nat), Cond.code (z_hd y).1 (z_hd y).2.1 (z_hd y).2.2.1 (z_hd y).2.2.2.1 ∈ z_gw := List.forall_mem_cons.mpr ⟨z_in_gw (p := 248) (by decide +kernel), List.forall_mem_cons.mpr ⟨z_in_gw (p := 722) (by decide +kernel), List.forall_mem_cons.mpr ⟨z_in_gw (p := 566) (by decide +kernel), List.forall_mem_cons.mpr ⟨z_in_gw (p := 570) (by decide +kernel), List.forall_mem_cons.mpr ⟨z_in_gw (p := 680) (by decide +kernel), List.forall_mem_cons.mpr ⟨z_in_gw (p := 89) (by decide +kernel), List.forall_mem_cons.mpr ⟨z_in_gw (p := 397) (by decide +kernel), List.forall_mem_cons.mpr ⟨z_in_gw (p := 405) (by decide +kernel), List.forall_mem_cons.mpr ⟨z_in_gw (p := 520) (by decide +kernel), List.forall_mem_cons.mpr ⟨z_in_gw (p := 529) (by decide +kernel), List.forall_mem_cons.mpr ⟨z_in_gw (p := 533) (by decide +kernel), List.forall_mem_cons.mpr ⟨z_in_gw (p := 537) (by decide +kernel), List.forall_mem_cons.mpr ⟨z_in_gw (p := 718) (by decide +kernel), List.forall_mem_cons.mpr ⟨z_in_gw (p := 726) (by decide +kernel), List.forall_mem_cons.mpr ⟨z_in_gw (p := 730) (by decide +kernel), List.forall_mem_cons.mpr ⟨z_in_gw (p := 734) (by decide +kernel), fun _ h => absurd h List.not_mem_nil⟩⟩⟩⟩⟩⟩⟩⟩⟩⟩⟩⟩⟩⟩⟩⟩
theorem z_hA5 : ([80, 81, 82, 83, 84, 85, 86, 87, 88, 89, 90, 91, 92, 93, 94, 95] : List Nat).all z_hok0 = true := by decide +kernel
theorem z_hB5 : ∀ y ∈ ([80, 81, 82, 83, 84, 85, 86, 87, 88, 89, 90, 91, 92, 93, 94, 95] : List Nat), Cond.code (z_hd y).1 (z_hd y).2.1 (z_hd y).2.2.1 (z_hd y).2.2.2.1 ∈ z_gw := List.forall_mem_cons.mpr ⟨z_in_gw (p := 738) (by decide +kernel), List.forall_mem_cons.mpr ⟨z_in_gw (p := 746) (by decide +kernel), List.forall_mem_cons.mpr ⟨z_in_gw (p := 750) (by decide +kernel), List.forall_mem_cons.mpr ⟨z_in_gw (p := 758) (by decide +kernel), List.forall_mem_cons.mpr ⟨z_in_gw (p := 762) (by decide +kernel), List.forall_mem_cons.mpr ⟨z_in_gw (p := 770) (by decide +kernel), List.forall_mem_cons.mpr ⟨z_in_gw (p := 786) (by decide +kernel), List.forall_mem_cons.mpr ⟨z_in_gw (p := 794) (by decide +kernel), List.forall_mem_cons.mpr ⟨z_in_gw (p := 799) (by decide +kernel), List.forall_mem_cons.mpr ⟨z_in_gw (p := 807) (by decide +kernel), List.forall_mem_cons.mpr ⟨z_in_gw (p := 811) (by decide +kernel), List.forall_mem_cons.mpr ⟨z_in_gw (p := 820) (by decide +kernel), List.forall_mem_cons.mpr ⟨z_in_gw (p := 824) (by decide +kernel), List.forall_mem_cons.mpr ⟨z_in_gw (p := 828) (by decide +kernel), List.forall_mem_cons.mpr ⟨z_in_gw (p := 832) (by decide +kernel), List.forall_mem_cons.mpr ⟨z_in_gw (p := 836) (by decide +kernel), fun _ h => absurd h List.not_mem_nil⟩⟩⟩⟩⟩⟩⟩⟩⟩⟩⟩⟩⟩⟩⟩⟩
theorem z_hA6 : ([96, 97, 98, 99, 100, 101, 102, 103, 104, 105, 106, 107, 108, 109, 110, 111] : List Nat).all z_hok0 = true := by decide +kernel
theorem z_hB6 : ∀ y ∈ ([96, 97, 98, 99, 100, 101, 102, 103, 104, 105, 106, 107, 108, 109, 110, 111] : List Nat), Cond.code (z_hd y).1 (z_hd y).2.1 (z_hd y).2.2.1 (z_hd y).2.2.2.1 ∈ z_gw := List.forall_mem_cons.mpr ⟨z_in_gw (p := 408) (by decide +kernel), List.forall_mem_cons.mpr ⟨z_in_gw (p := 543) (by decide +kernel), List.forall_mem_cons.mpr ⟨z_in_gw (p := 540) (by decide +kernel), List.forall_mem_cons.mpr ⟨z_in_gw (p := 550) (by decide +kernel), List.forall_mem_cons.mpr ⟨z_in_gw (p := 840) (by decide +kernel), List.forall_mem_cons.mpr ⟨z_in_gw (p := 844) (by decide +kernel), List.forall_mem_cons.mpr ⟨z_in_gw (p := 554) (by decide +kernel), List.forall_mem_cons.mpr ⟨z_in_gw (p := 815) (by decide +kernel), List.forall_mem_cons.mpr ⟨z_in_gw (p := 626) (by decide +kernel), List.forall_mem_cons.mpr ⟨z_in_gw (p := 631) (by decide +kernel), List.forall_mem_cons.mpr ⟨z_in_gw (p := 644) (by decide +kernel), List.forall_mem_cons.mpr ⟨z_in_gw (p := 648) (by decide +kernel), List.forall_mem_cons.mpr ⟨z_in_gw (p := 656) (by decide +kernel), List.forall_mem_cons.mpr ⟨z_in_gw (p := 659) (by decide +kernel), List.forall_mem_cons.mpr ⟨z_in_gw (p := 558) (by decide +kernel), List.forall_mem_cons.mpr ⟨z_in_gw (p := 562) (by decide +kernel), fun _ h => absurd h List.not_mem_nil⟩⟩⟩⟩⟩⟩⟩⟩⟩⟩⟩⟩⟩⟩⟩⟩
theorem z_hA7 : ([112, 113, 114, 115, 116, 117, 118, 119, 120, 121, 122, 123, 124, 125, 126, 127] : List Nat).all z_hok0 = true := by decide +kernel
theorem z_hB7 : ∀ y ∈ ([112, 113, 114, 115, 116, 117, 118, 119, 120, 121, 122, 123, 124, 125, 126, 127] : List Nat), Cond.code (z_hd y).1 (z_hd y).2.1 (z_hd y).2.2.1 (z_hd y).2.2.2.1 ∈ z_gw := List.forall_mem_cons.mpr ⟨z_in_gw (p := 606) (by decide +kernel), List.forall_mem_cons.mpr ⟨z_in_gw (p := 610) (by decide +kernel), List.forall_mem_cons.mpr ⟨z_in_gw (p := 618) (by decide +kernel), List.forall_mem_cons.mpr ⟨z_in_gw (p := 663) (by decide +kernel), List.forall_mem_cons.mpr ⟨z_in_gw (p := 598) (by decide +kernel), List.forall_mem_cons.mpr ⟨z_in_gw (p := 496) (by decide +kernel), List.forall_mem_cons.mpr ⟨z_in_gw (p := 849) (by decide +kernel), List.forall_mem_cons.mpr ⟨z_in_gw (p := 1020) (by decide +kernel), List.forall_mem_cons.mpr ⟨z_in_gw (p := 1016) (by decide +kernel), List.forall_mem_cons.mpr ⟨z_in_gw (p := 1053) (by decide +kernel), List.forall_mem_cons.mpr ⟨z_in_gw (p := 1061) (by decide +kernel), List.forall_mem_cons.mpr ⟨z_in_gw (p := 1049) (by decide +kernel), List.forall_mem_cons.mpr ⟨z_in_gw (p := 1073) (by decide +kernel), List.forall_mem_cons.mpr ⟨z_in_gw (p := 1065) (by decide +kernel), List.forall_mem_cons.mpr ⟨z_in_gw (p := 1057) (by decide +kernel), List.forall_mem_cons.mpr ⟨z_in_gw (p := 1029) (by decide +kernel), fun _ h => absurd h List.not_mem_nil⟩⟩⟩⟩⟩⟩⟩⟩⟩⟩⟩⟩⟩⟩⟩⟩
theorem z_hA8 : ([128, 129, 130, 131, 132, 133, 134, 135, 136, 137, 138, 139, 140, 141, 142, 143] : List Nat).all z_hok0 = true := by decide +kernel
theorem z_hB8 : ∀ y ∈ ([128, 129, 130, 131, 132, 133, 134, 135, 136, 137, 138, 139, 140, 141, 142, 143] : List Nat), Cond.code (z_hd y).1 (z_hd y).2.1 (z_hd y).2.2.1 (z_hd y).2.2.2.1 ∈ z_gw := List.forall_mem_cons.mpr ⟨z_in_gw (p := 1033) (by decide +kernel), List.forall_mem_cons.mpr ⟨z_in_gw (p := 1037) (by decide +kernel), List.forall_mem_cons.mpr ⟨z_in_gw (p := 1041) (by decide +kernel), List.forall_mem_cons.mpr ⟨z_in_gw (p := 1081) (by decide +kernel), List.forall_mem_cons.mpr ⟨z_in_gw (p := 1077) (by decide +kernel), List.forall_mem_cons.mpr ⟨z_in_gw (p := 1045) (by decide +kernel), List.forall_mem_cons.mpr ⟨z_in_gw (p := 1069) (by decide +kernel), List.forall_mem_cons.mpr ⟨z_in_gw (p := 1024) (by decide +kernel), List.forall_mem_cons.mpr ⟨z_in_gw (p := 1111) (by decide +kernel), List.forall_mem_cons.mpr ⟨z_in_gw (p := 1115) (by decide +kernel), List.forall_mem_cons.mpr ⟨z_in_gw (p := 1121) (by decide +kernel), List.forall_mem_cons.mpr ⟨z_in_gw (p := 1137) (by decide +kernel), List.forall_mem_cons.mpr ⟨z_in_gw (p := 1107) (by decide +kernel), List.forall_mem_cons.mpr ⟨z_in_gw (p := 1204) (by decide +kernel), List.forall_mem_cons.mpr ⟨z_in_gw (p := 1242) (by decide +kernel), List.forall_mem_cons.mpr ⟨z_in_gw (p := 1096) (by decide +kernel), fun _ h => absurd h List.not_mem_nil⟩⟩⟩⟩⟩⟩⟩⟩⟩⟩⟩⟩⟩⟩⟩⟩
theorem z_hA9 : ([144, 145, 146, 147, 148, 149, 150, 151, 152, 153, 154, 155, 156, 157, 158, 159] : List Nat).all z_hok0 = true := by decide +kernel
theorem z_hB9 : ∀ y ∈ ([144, 145, 146, 147, 148, 149, 150, 151, 152, 153, 154, 155, 156, 157, 158, 159] : List Nat), Cond.code (z_hd y).1 (z_hd y).2.1 (z_hd y).2.2.1 (z_hd y).2.2.2.1 ∈ z_gw := List.forall_mem_cons.mpr ⟨z_in_gw (p := 1181) (by decide +kernel), List.forall_mem_cons.mpr ⟨z_in_gw (p := 1177) (by decide +kernel), List.forall_mem_cons.mpr ⟨z_in_gw (p := 1173) (by decide +kernel), List.forall_mem_cons.mpr ⟨z_in_gw (p := 1168) (by decide +kernel), List.forall_mem_cons.mpr ⟨z_in_gw (p := 1092) (by decide +kernel), List.forall_mem_cons.mpr ⟨z_in_gw (p := 1088) (by decide +kernel), List.forall_mem_cons.mpr ⟨z_in_gw (p := 1149) (by decide +kernel), List.forall_mem_cons.mpr ⟨z_in_gw (p := 1104) (by decide +kernel), List.forall_mem_cons.mpr ⟨z_in_gw (p := 1189) (by decide +kernel), List.forall_mem_cons.mpr ⟨z_in_gw (p := 1185) (by decide +kernel), List.forall_mem_cons.mpr ⟨z_in_gw (p := 1193) (by decide +kernel), List.forall_mem_cons.mpr ⟨z_in_gw (p := 1197) (by decide +kernel), List.forall_mem_cons.mpr ⟨z_in_gw (p := 1141) (by decide +kernel), List.forall_mem_cons.mpr ⟨z_in_gw (p := 1153) (by decide +kernel), List.forall_mem_cons.mpr ⟨z_in_gw (p := 1161) (by decide +kernel), List.forall_mem_cons.mpr ⟨z_in_gw (p := 1145) (by decide +kernel), fun _ h => absurd h List.not_mem_nil⟩⟩⟩⟩⟩⟩⟩⟩⟩⟩⟩⟩⟩⟩⟩⟩
theorem z_hA10 : ([160, 161, 162, 163, 164, 165, 166, 167, 168, 169, 170, 171, 172, 173, 174, 175] : List Nat).all z_hok0 = true := by decide +kernel
theorem z_hB10 : ∀ y ∈ ([160, 161, 162, 163, 164, 165, 166, 167, 168, 169, 170, 171, 172, 173, 174, 175] : List Nat), Cond.code (z_hd y).1 (z_hd y).2.1 (z_hd y).2.2.1 (z_hd y).2.2.2.1 ∈ z_gw := List.forall_mem_cons.mpr ⟨z_in_gw (p := 1157) (by decide +kernel), List.forall_mem_cons.mpr ⟨z_in_gw (p := 1165) (by decide +kernel), List.forall_mem_cons.mpr ⟨z_in_gw (p := 1207) (by decide +kernel), List.forall_mem_cons.mpr ⟨z_in_gw (p := 1201) (by decide +kernel), List.forall_mem_cons.mpr ⟨z_in_gw (p := 1100) (by decide +kernel), List.forall_mem_cons.mpr ⟨z_in_gw (p := 1134) (by decide +kernel), List.forall_mem_cons.mpr ⟨z_in_gw (p := 1128) (by decide +kernel), List.forall_mem_cons.mpr ⟨z_in_gw (p := 1125) (by decide +kernel), List.forall_mem_cons.mpr ⟨z_in_gw (p := 1213) (by decide +kernel), List.forall_mem_cons.mpr ⟨z_in_gw (p := 1221) (by decide +kernel), List.forall_mem_cons.mpr ⟨z_in_gw (p := 1225) (by decide +kernel), List.forall_mem_cons.mpr ⟨z_in_gw (p := 1217) (by decide +kernel), List.forall_mem_cons.mpr ⟨z_in_gw (p := 1229) (by decide +kernel), List.forall_mem_cons.mpr ⟨z_in_gw (p := 1234) (by decide +kernel), List.forall_mem_cons.mpr ⟨z_in_gw (p := 1239) (by decide +kernel), List.forall_mem_cons.mpr ⟨z_in_gw (p := 1248) (by decide +kernel), fun _ h => absurd h List.not_mem_nil⟩⟩⟩⟩⟩⟩⟩⟩⟩⟩⟩⟩⟩⟩⟩⟩
theorem z_hA11 : ([176, 177, 178, 179, 180, 181, 182, 183, 184, 185, 186, 187, 188, 189, 190, 191] : List Nat).all z_hok0 = true := by decide +kernel
theorem z_hB11 : ∀ y ∈ ([176, 177, 178, 179, 180, 181, 182, 183, 184, 185, 186, 187, 188, 189, 190, 191] : List Nat), Cond.code (z_hd y).1 (z_hd y).2.1 (z_hd y).2.2.1 (z_hd y).2.2.2.1 ∈ z_gw := List.forall_mem_cons.mpr ⟨z_in_gw (p := 1252) (by decide +kernel), List.forall_mem_cons.mpr ⟨z_in_gw (p := 1256) (by decide +kernel), List.forall_mem_cons.mpr ⟨z_in_gw (p := 1260) (by decide +kernel), List.forall_mem_cons.mpr ⟨z_in_gw (p := 1265) (by decide +kernel), List.forall_mem_cons.mpr ⟨z_in_gw (p := 1269) (by decide +kernel), List.forall_mem_cons.mpr ⟨z_in_gw (p := 1273) (by decide +kernel), List.forall_mem_cons.mpr ⟨z_in_gw (p := 1277) (by decide +kernel), List.forall_mem_cons.mpr ⟨z_in_gw (p := 1281) (by decide +kernel), List.forall_mem_cons.mpr ⟨z_in_gw (p := 1288) (by decide +kernel), List.forall_mem_cons.mpr ⟨z_in_gw (p := 1292) (by decide +kernel), List.forall_mem_cons.mpr ⟨z_in_gw (p := 1285) (by decide +kernel), List.forall_mem_cons.mpr ⟨z_in_gw (p := 1296) (by decide +kernel), List.forall_mem_cons.mpr ⟨z_in_gw (p := 1301) (by decide +kernel), List.forall_mem_cons.mpr ⟨z_in_gw (p := 1305) (by decide +kernel), List.forall_mem_cons.mpr ⟨z_in_gw (p := 1310) (by decide +kernel), List.forall_mem_cons.mpr ⟨z_in_gw (p := 1314) (by decide +kernel), fun _ h => absurd h List.not_mem_nil⟩⟩⟩⟩⟩⟩⟩⟩⟩⟩⟩⟩⟩⟩⟩⟩
theorem z_hA12 : ([192] : List Nat).all z_hok0 = true := by decide +kernel
theorem z_hB12 : ∀ y ∈ ([192] : List Nat), Cond.code (z_hd y).1 (z_hd y).2.1 (z_hd y).2.2.1 (z_hd y).2.2.2.1 ∈ z_gw := List.forall_mem_cons.mpr ⟨z_in_gw (p := 1318) (by decide +kernel), fun _ h => absurd h List.not_mem_nil⟩
theorem z_hmem {y : Nat} {l : List Nat} (h1 : l.all z_hok0 = true) (h2 : ∀ y ∈ l, Cond.code (z_hd y).1 (z_hd y).2.1 (z_hd y).2.2.1 (z_hd y).2.2.2.1 ∈ z_gw) (h : y ∈ l) : z_hok y := ⟨h2 y h, List.all_eq_true.mp h1 y h⟩
theorem z_hget {y : Nat} (h : Nat.blt y 193 = true) : z_hok y := by
  have h := Nat.blt_eq.mp h
  by_cases g0 : y < 16
  · exact z_hmem z_hA0 z_hB0 (by simp only [List.mem_cons, List.not_mem_nil, or_false]; omega)
  by_cases g1 : y < 32
  · exact z_hmem z_hA1 z_hB1 (by simp only [List.mem_cons, List.not_mem_nil, or_false]; omega)
  by_cases g2 : y < 48
  · exact z_hmem z_hA2 z_hB2 (by simp only [List.mem_cons, List.not_mem_nil, or_false]; omega)
  by_cases g3 : y < 64
  · exact z_hmem z_hA3 z_hB3 (by simp only [List.mem_cons, List.not_mem_nil, or_false]; omega)
  by_cases g4 : y < 80
  · exact z_hmem z_hA4 z_hB4 (by simp only [List.mem_cons, List.not_mem_nil, or_false]; omega)
  by_cases g5 : y < 96
  · exact z_hmem z_hA5 z_hB5 (by simp only [List.mem_cons, List.not_mem_nil, or_false]; omega)
  by_cases g6 : y < 112
  · exact z_hmem z_hA6 z_hB6 (by simp only [List.mem_cons, List.not_mem_nil, or_false]; omega)
  by_cases g7 : y < 128
  · exact z_hmem z_hA7 z_hB7 (by simp only [List.mem_cons, List.not_mem_nil, or_false]; omega)
  by_cases g8 : y < 144
  · exact z_hmem z_hA8 z_hB8 (by simp only [List.mem_cons, List.not_mem_nil, or_false]; omega)
  by_cases g9 : y < 160
  · exact z_hmem z_hA9 z_hB9 (by simp only [List.mem_cons, List.not_mem_nil, or_false]; omega)
  by_cases g10 : y < 176
  · exact z_hmem z_hA10 z_hB10 (by simp only [List.mem_cons, List.not_mem_nil, or_false]; omega)
  by_cases g11 : y < 192
  · exact z_hmem z_hA11 z_hB11 (by simp only [List.mem_cons, List.not_mem_nil, or_false]; omega)
  by_cases g12 : y < 193
  · exact z_hmem z_hA12 z_hB12 (by simp only [List.mem_cons, List.not_mem_nil, or_false]; omega)
  omega
section ZS
variable {e : z_E} {ph : Bool} {d y Ni No : Nat} {Q : Int → z_M → Prop} {full : List z_In}
/-- a place of the code, from which the machine comes to the end -/
def z_Xr (e : z_E) (ph : Bool) (d y Ni No : Nat) (Q : Int → z_M → Prop) (full : List z_In) (c : z_K) : Prop := ∀ (j : Nat) (r : List z_In) ls st N σ, r = full.drop j → c r ls st N σ → ∀ p : Nat, z_pcAt full j = some p → z_X e ph d y Ni No p ls st N σ Q
theorem z_at_sp {t : Nat} {p : Int} (h : z_at full t p = true) : ∃ q, z_pcAt full t = some q ∧ p = (q : Int) := by
  unfold z_at at h
  split at h
  · next q hq => exact ⟨q, hq, (of_decide_eq_true h).symm⟩
  · cases h
theorem z_sw_tab {c : Nat → Prop} {x : Int} {td : Nat} : ∀ (ts : List Nat) (lo : Int), z_sw c x (z_tpl lo ts) td → (∃ (k t : Nat), ts[k]? = some t ∧ x = lo + (k : Int) ∧ c t) ∨ ((x < lo ∨ lo + (ts.length : Int) ≤ x) ∧ c td)
  | [], lo, h => Or.inr ⟨by simp; omega, h⟩
  | t :: ts, lo, h => by
    obtain ⟨h1, h2⟩ := h
    by_cases hx : x = lo
    · exact Or.inl ⟨0, t, rfl, by omega, h1 hx⟩
    · rcases z_sw_tab ts (lo + 1) (h2 hx) with ⟨k, t', q1, q2, q3⟩ | ⟨q1, q2⟩
      · exact Or.inl ⟨k + 1, t', by simpa using q1, by omega, q3⟩
      · exact Or.inr ⟨by simp only [List.length_cons]; omega, q2⟩
theorem z_tk_get {pc : Int} : ∀ (os : List Int) (ts : List Nat), z_tk full pc os ts = true → os.length = ts.length ∧ ∀ (k t : Nat), ts[k]? = some t → ∃ o, os[k]? = some o ∧ z_at full t (pc + o) = true
  | [], [], _ => ⟨rfl, fun k t h => by simp at h⟩
  | o :: os, t :: ts, h => by
    simp only [z_tk, Bool.and_eq_true] at h
    obtain ⟨h1, h2⟩ := z_tk_get os ts h.2
    refine ⟨by simp [h1], fun k t' hk => ?_⟩
    cases k with
    | zero => simp at hk; subst hk; exact ⟨o, rfl, h.1⟩
    | succ k => exact h2 k t' (by simpa using hk)
  | [], _ :: _, h => by simp [z_tk] at h
  | _ :: _, [], h => by simp [z_tk] at h
theorem z_sw_lk {c : Nat → Prop} {x pc dflt : Int} {td : Nat} : ∀ (ps : List (Int × Int)) (ts : List Nat), z_lk full pc ps ts = true → z_at full td (pc + dflt) = true → z_sw c x (z_lpl ps ts) td → ∃ t, z_at full t (pc + Op.lookupswitch.offset ps dflt x) = true ∧ c t
  | [], [], _, h, hc => ⟨td, h, hc⟩
  | (v, o) :: ps, t :: ts, h, h2, hc => by
    simp only [z_lk, Bool.and_eq_true] at h
    obtain ⟨h3, h4⟩ := hc
    rw [Op.lookupswitch.offset_cons]
    by_cases hx : v = x
    · rw [if_pos hx]; exact ⟨t, h.1, h3 hx.symm⟩
    · rw [if_neg hx]; exact z_sw_lk ps ts h.2 h2 (h4 (fun w => hx w.symm))
  | [], _ :: _, h, _, _ => by simp [z_lk] at h
  | _ :: _, [], h, _, _ => by simp [z_lk] at h
theorem z_ck_sp {b : Bool} {P : Prop} (h : z_ck b P) : b = true ∧ P := by
  cases b
  · exact absurd h id
  · exact ⟨rfl, h⟩
theorem z_fwk_sp {ci j : Nat} {v : z_V} {P : Prop} (hr : z_rg v) (h : z_fwk ph (z_ft (ci + 1) j) v P) : z_fw ph (ci + 1) j v ∧ z_ir (z_un v) ∧ P := by
  unfold z_fw
  unfold z_fwk at h
  revert h
  generalize z_ft (ci + 1) j = t
  intro h
  match t, v, hr, h with
  | 0, .inl x, hr, h => exact ⟨trivial, hr, h⟩
  | 1, .inr (.inr x), hr, h => exact ⟨trivial, h.1, h.2⟩
  | 2, .inr (.inr x), hr, h => exact ⟨h.1, h.2.1, h.2.2⟩
  | 3, .inl x, hr, h => exact ⟨h.1, hr, h.2⟩
  | 0, .inr (.inl x), hr, h => exact absurd h id
  | 0, .inr (.inr x), hr, h => exact absurd h id
  | 1, .inl x, hr, h => exact absurd h id
  | 1, .inr (.inl x), hr, h => exact absurd h id
  | 2, .inl x, hr, h => exact absurd h id
  | 2, .inr (.inl x), hr, h => exact absurd h id
  | 3, .inr (.inl x), hr, h => exact absurd h id
  | 3, .inr (.inr x), hr, h => exact absurd h id
  | n + 4, .inl x, hr, h => exact absurd h id
  | n + 4, .inr (.inl x), hr, h => exact absurd h id
  | n + 4, .inr (.inr x), hr, h => exact absurd h id
theorem z_cw_sp {ci : Nat} {f : vw_C → Bool} (h : z_cw ci f = true) : ∃ q, z_cl[ci]? = some q ∧ f q = true := by
  unfold z_cw at h
  split at h
  · next q hq => exact ⟨q, hq, h⟩
  · cases h
theorem z_r2_rs (rt : Option FieldType) (r : Int) (st : List z_V) : z_r2 (z_rc rt) r st = z_rs rt r st := by
  cases rt with
  | none => rfl
  | some t => cases t <;> rfl
theorem z_cl4_sp {y' na rc gr : Nat} (h : z_cl4 y' na rc gr = true) : z_hok y' ∧ (z_hd y').2.2.2.2.2.1 = na ∧ z_rc (z_hd y').2.2.2.1 = rc ∧ (z_hd y').2.2.2.2.2.2.1 = gr := by
  simp only [z_cl4, Bool.and_eq_true, beq_iff_eq] at h
  exact ⟨z_hget h.1.1.1, h.1.1.2, h.1.2, h.2⟩
theorem z_pop_sp : ∀ (n : Nat) (as st as' st' : List z_V), z_pop n as st = some (as', st') → ∃ l, as' = l.reverse ++ as ∧ st = l ++ st' ∧ l.length = n
  | 0, as, st, as', st', h => by cases h; exact ⟨[], rfl, rfl, rfl⟩
  | n + 1, as, [], as', st', h => by cases h
  | n + 1, as, v :: st, as', st', h => by
    obtain ⟨l, h1, h2, h3⟩ := z_pop_sp n (v :: as) st as' st' h
    exact ⟨v :: l, by rw [h1]; simp, by rw [h2]; rfl, by simp [h3]⟩
end ZS
