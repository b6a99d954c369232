/-! the code tables, and what they must keep to -/
def z_pcAt (full : List z_In) (t : Nat) : Option Nat := match full.drop t with
  | i :: _ => some i.2.1
  | [] => none
def z_at (full : List z_In) (t : Nat) (p : Int) : Bool := match z_pcAt full t with
  | some q => decide ((q : Int) = p)
  | none => false
def z_lk (full : List z_In) (pc : Int) : List (Int × Int) → List Nat → Bool
  | [], [] => true
  | p :: ps, t :: ts => z_at full t (pc + p.2) && z_lk full pc ps ts
  | _, _ => false
def z_tk (full : List z_In) (pc : Int) : List Int → List Nat → Bool
  | [], [] => true
  | o :: os, t :: ts => z_at full t (pc + o) && z_tk full pc os ts
  | _, _ => false
def z_irB (n : Int) : Bool := decide (-2147483648 ≤ n ∧ n < 2147483648)
def z_cw (ci : Nat) (f : vw_C → Bool) : Bool := match z_cl[ci]? with
  | some q => f q
  | none => false
def z_nx (full : List z_In) (ix pc len k : Nat) : Bool := len == k && z_at full (ix + 1) ((pc : Int) + (k : Int))
def z_isO (rt : Option FieldType) : Bool := match rt with
  | some (.object _) => true
  | _ => false
def z_okS (y : Nat) (full : List z_In) (ix pc len : Nat) (ins : Instr) (args pl : List Nat) : Bool :=
  match ins, args with
  | .iconst n, _ => z_nx full ix pc len 1 && z_irB n
  | .bipush n, _ => z_nx full ix pc len 2 && z_irB n && decide ((Int8.ofInt n).toInt32 = Int32.ofInt n)
  | .sipush n, _ => z_nx full ix pc len 3 && z_irB n && decide ((Int16.ofInt n).toInt32 = Int32.ofInt n)
  | .ldc i, [n] => z_nx full ix pc len 2 && z_irB (n : Int) && z_hasW (pl.getD 0 0) (.constant (z_hd y).1.cls i (Int32.ofInt (n : Int)))
  | .ldc2_w i, [n, s] => z_nx full ix pc len 3 && z_irB (cond (s == 0) (n : Int) (-(n : Int))) && z_hasW (pl.getD 0 0) (.constantLong (z_hd y).1.cls i (Int64.ofInt (cond (s == 0) (n : Int) (-(n : Int)))))
  | .lconst k, [n] => z_nx full ix pc len 1 && (k : Nat) == n
  | .aconst_null, _ => z_nx full ix pc len 1
  | .iload_n _, _ => z_nx full ix pc len 1
  | .iload _, _ => z_nx full ix pc len 2
  | .lload_n _, _ => z_nx full ix pc len 1
  | .lload _, _ => z_nx full ix pc len 2
  | .aload_n _, _ => z_nx full ix pc len 1
  | .aload _, _ => z_nx full ix pc len 2
  | .istore_n k, _ => z_nx full ix pc len 1 && decide ((k : Nat) < (z_hd y).2.2.1)
  | .istore k, _ => z_nx full ix pc len 2 && decide (k < (z_hd y).2.2.1)
  | .lstore k, _ => z_nx full ix pc len 2 && decide (k + 1 < (z_hd y).2.2.1)
  | .astore_n k, _ => z_nx full ix pc len 1 && decide ((k : Nat) < (z_hd y).2.2.1)
  | .astore k, _ => z_nx full ix pc len 2 && decide (k < (z_hd y).2.2.1)
  | .iinc k _, _ => z_nx full ix pc len 3 && decide (k < (z_hd y).2.2.1)
  | .iadd, _ | .isub, _ | .imul, _ | .idiv, _ | .irem, _ | .iand, _ | .ior, _ | .ishl, _ | .ishr, _ | .ineg, _ | .ladd, _ | .lsub, _ | .lmul, _ | .ldiv, _ | .lcmp, _ | .i2l, _ | .l2i, _ | .dup, _ | .dup2, _ | .pop, _ => z_nx full ix pc len 1
  | .goto off, [t] => len == 3 && z_at full t ((pc : Int) + off)
  | .ifCond _ off, [t] => z_nx full ix pc len 3 && z_at full t ((pc : Int) + off)
  | .if_icmp _ off, [t] => z_nx full ix pc len 3 && z_at full t ((pc : Int) + off)
  | .if_acmp _ off, [t] => z_nx full ix pc len 3 && z_at full t ((pc : Int) + off)
  | .ifnull off, [t] => z_nx full ix pc len 3 && z_at full t ((pc : Int) + off)
  | .ifnonnull off, [t] => z_nx full ix pc len 3 && z_at full t ((pc : Int) + off)
  | .tableswitch dflt lo hi offs, td :: ts => z_tk full pc offs.toList ts && z_at full td ((pc : Int) + dflt) && decide (hi + 1 = lo + (ts.length : Int))
  | .lookupswitch dflt ps, td :: ts => z_lk full pc ps.toList ts && z_at full td ((pc : Int) + dflt) && (ps.toList.zip (ps.toList.drop 1)).all (fun (a, next) => a.1 < next.1)
  | .getfield i, [ci, j] => z_nx full ix pc len 3 && z_cw ci (fun q => decide (j < q.2.2) && z_hasW (pl.getD 0 0) (.fieldLink (z_hd y).1.cls i (q.2.1 j).1 (q.2.1 j).2.1 (q.2.1 j).2.2.1))
  | .putfield i, [ci, j] => z_nx full ix pc len 3 && z_cw ci (fun q => decide (j < q.2.2) && z_hasW (pl.getD 0 0) (.fieldLink (z_hd y).1.cls i (q.2.1 j).1 (q.2.1 j).2.1 (q.2.1 j).2.2.1) && decide (z_ft (ci + 1) j = 2 → (z_hd y).1.name = "<init>" ∧ (q.2.1 j).1 = (z_hd y).1.cls))
  | .iaload, [kd] => z_nx full ix pc len 1 && kd / 100000 == 1
  | .iastore, [kd] => z_nx full ix pc len 1 && kd / 100000 == 1
  | .baload, [kd] => z_nx full ix pc len 1 && kd / 100000 == 2
  | .bastore, [kd] => z_nx full ix pc len 1 && kd / 100000 == 2
  | .aaload, [kd] => z_nx full ix pc len 1 && decide (3 ≤ kd / 100000 ∧ kd / 100000 ≤ 6)
  | .aastore, [kd, ci] => z_nx full ix pc len 1 && decide (3 ≤ kd / 100000 ∧ kd / 100000 ≤ 6) && z_cw ci (fun q => decide (q.1 = z_aty (kd / 100000)))
  | .arraylength, [kd] => z_nx full ix pc len 1 && decide (1 ≤ kd / 100000 ∧ kd / 100000 ≤ 6)
  | .newarray .int, [_] => z_nx full ix pc len 2 && z_hasW (pl.getD 0 0) (.arrayClass .int)
  | .newarray .boolean, [_] => z_nx full ix pc len 2 && z_hasW (pl.getD 0 0) (.arrayClass .boolean)
  | .anewarray i, [_, tag] => z_nx full ix pc len 3 && decide (3 ≤ tag ∧ tag ≤ 6) && z_hasW (pl.getD 0 0) (.classLink (z_hd y).1.cls i (z_aty tag))
  | .new i, [ci] => z_nx full ix pc len 3 && z_cw ci (fun q => z_hasW (pl.getD 0 0) (.classLink (z_hd y).1.cls i q.1) && z_hasW (pl.getD 1 0) (.instantiable q.1 q.2.2) && z_hasW (pl.getD 2 0) (.initialized q.1))
  | .invokevirtual i, [y'] => z_nx full ix pc len 3 && z_hok y' && !(z_hd y').2.2.2.2.2.2.2.2 && z_hasW (pl.getD 0 0) (.methodLink (z_hd y).1.cls i (z_hd y').1) && z_hasW (pl.getD 1 0) (.selects (z_hd y').1.cls (z_hd y').1 (z_hd y').1)
  | .invokestatic i, [k0, k1, _] => z_nx full ix pc len 3 && k0 / 100000 == k1 / 100000 && (k0 / 100000 == 1 || k0 / 100000 == 2) && z_hasW (pl.getD 0 0) (.methodLink (z_hd y).1.cls i arraycopyName) && z_hasW (pl.getD 1 0) (.native arraycopyName) && z_hasW (pl.getD 2 0) (.static arraycopyName) && z_hasW (pl.getD 3 0) (.initialized "java/lang/System")
  | .invokestatic i, [] => z_nx full ix pc len 3 && z_hasW (pl.getD 0 0) (.methodLink (z_hd y).1.cls i Lib.Math.abs.name) && z_hasW (pl.getD 1 0) (.static Lib.Math.abs.name) && z_hasW (pl.getD 2 0) (.initialized "java/lang/Math") && z_hasW (pl.getD 3 0) (.code Lib.Math.abs.name Lib.Math.abs.code 1 (some .int))
  | .invokestatic i, [y', _] => z_nx full ix pc len 3 && z_hok y' && (z_hd y').2.2.2.2.2.2.2.2 && decide (Cond.methodLinkNest (z_hd y).1.cls i (z_hd y').1 "MemoByWeight" ∈ z_nw)
  | .invokestatic i, [y'] => z_nx full ix pc len 3 && z_hok y' && (z_hd y').2.2.2.2.2.2.2.2 && decide ((z_hd y').1.cls = (z_hd y).1.cls) && z_hasW (pl.getD 0 0) (.methodLink (z_hd y).1.cls i (z_hd y').1)
  | .invokespecial i, [] => z_nx full ix pc len 3 && z_hasW (pl.getD 0 0) (.methodLink (z_hd y).1.cls i Lib.objectInit) && z_hasW (pl.getD 1 0) (.instanceMethod Lib.objectInit) && z_hasW (pl.getD 2 0) (.code Lib.objectInit ⟨#[0xb1]⟩ 1 none)
  | .invokespecial i, [y', _] => z_nx full ix pc len 3 && z_hok y' && !(z_hd y').2.2.2.2.2.2.2.2 && decide ((z_hd y').1.name = "<init>") && decide ((z_hd y').2.2.2.1 = none) && decide (Cond.methodLinkNest (z_hd y).1.cls i (z_hd y').1 "MemoByWeight" ∈ z_nw)
  | .invokespecial i, [y'] => z_nx full ix pc len 3 && z_hok y' && !(z_hd y').2.2.2.2.2.2.2.2 && decide ((z_hd y').1.name = "<init>") && decide ((z_hd y').2.2.2.1 = none) && z_hasW (pl.getD 0 0) (.methodLink (z_hd y).1.cls i (z_hd y').1)
  | .return_, _ => len == 1 && decide ((z_hd y).2.2.2.1 = none)
  | .ireturn, [0] => len == 1 && decide ((z_hd y).2.2.2.1 = some .int)
  | .ireturn, [1] => len == 1 && decide ((z_hd y).2.2.2.1 = some .boolean)
  | .lreturn, _ => len == 1 && decide ((z_hd y).2.2.2.1 = some .long)
  | .areturn, _ => len == 1 && z_isO (z_hd y).2.2.2.1
  | _, _ => false
def z_okI (y : Nat) (full : List z_In) (i : z_In) : Bool := decide (decode (z_hd y).2.1 i.2.1 = .ok (i.2.2.2.2.1, i.2.2.2.2.2.1)) && z_okS y full i.1 i.2.1 i.2.2.2.2.2.1 i.2.2.2.2.1 i.2.2.2.2.2.2.1 i.2.2.2.2.2.2.2
def z_okL (y : Nat) (full : List z_In) : Nat → List z_In → Bool
  | _, [] => true
  | n, i :: l => i.1 == n && z_okI y full i && z_okL y full (n + 1) l
def z_okM (y : Nat) (full : List z_In) : Bool := z_okL y full 0 full && plainName (z_hd y).1.cls && z_hok y
theorem z_okL_get {y : Nat} {full : List z_In} : ∀ (l : List z_In) (n k : Nat) (i : z_In) (r : List z_In), z_okL y full n l = true → l.drop k = i :: r → i.1 = n + k ∧ z_okI y full i = true
  | [], n, k, i, r, h, hd => by simp at hd
  | a :: l, n, 0, i, r, h, hd => by
    simp only [z_okL, Bool.and_eq_true, beq_iff_eq] at h
    cases hd
    exact ⟨h.1.1, h.1.2⟩
  | a :: l, n, k + 1, i, r, h, hd => by
    simp only [z_okL, Bool.and_eq_true, beq_iff_eq] at h
    obtain ⟨h1, h2⟩ := z_okL_get l (n + 1) k i r h.2 (by simpa using hd)
    exact ⟨by omega, h2⟩
section ZS
variable {e : z_E} {ph : Bool} {d y Ni No : Nat} {Q : Int → z_M → Prop} {full : List z_In}
/-- a place of the code, from which the machine comes to the end -/
def z_Xr (e : z_E) (ph : Bool) (d y Ni No : Nat) (Q : Int → z_M → Prop) (full : List z_In) (c : z_K) : Prop := ∀ (j : Nat) (r : List z_In) ls st N σ, r = full.drop j → c r ls st N σ → ∀ p : Nat, z_pcAt full j = some p → z_X e ph d y Ni No p ls st N σ Q
theorem z_at_sp {t : Nat} {p : Int} (h : z_at full t p = true) : ∃ q, z_pcAt full t = some q ∧ p = (q : Int) := by
  unfold z_at at h
  split at h
  · next q hq => exact ⟨q, hq, (of_decide_eq_true h).symm⟩
  · cases h
theorem z_sw_tab {c : Nat → Prop} {x : Int} {td : Nat} : ∀ (ts : List Nat) (lo : Int), z_sw c x (z_tpl lo ts) td → (∃ (k t : Nat), ts[k]? = some t ∧ x = lo + (k : Int) ∧ c t) ∨ ((x < lo ∨ lo + (ts.length : Int) ≤ x) ∧ c td)
  | [], lo, h => Or.inr ⟨by simp; omega, h⟩
  | t :: ts, lo, h => by
    obtain ⟨h1, h2⟩ := h
    by_cases hx : x = lo
    · exact Or.inl ⟨0, t, rfl, by omega, h1 hx⟩
    · rcases z_sw_tab ts (lo + 1) (h2 hx) with ⟨k, t', q1, q2, q3⟩ | ⟨q1, q2⟩
      · exact Or.inl ⟨k + 1, t', by simpa using q1, by omega, q3⟩
      · exact Or.inr ⟨by simp only [List.length_cons]; omega, q2⟩
theorem z_tk_get {pc : Int} : ∀ (os : List Int) (ts : List Nat), z_tk full pc os ts = true → os.length = ts.length ∧ ∀ (k t : Nat), ts[k]? = some t → ∃ o, os[k]? = some o ∧ z_at full t (pc + o) = true
  | [], [], _ => ⟨rfl, fun k t h => by simp at h⟩
  | o :: os, t :: ts, h => by
    simp only [z_tk, Bool.and_eq_true] at h
    obtain ⟨h1, h2⟩ := z_tk_get os ts h.2
    refine ⟨by simp [h1], fun k t' hk => ?_⟩
    cases k with
    | zero => simp at hk; subst hk; exact ⟨o, rfl, h.1⟩
    | succ k => exact h2 k t' (by simpa using hk)
  | [], _ :: _, h => by simp [z_tk] at h
  | _ :: _, [], h => by simp [z_tk] at h
theorem z_sw_lk {c : Nat → Prop} {x pc dflt : Int} {td : Nat} : ∀ (ps : List (Int × Int)) (ts : List Nat), z_lk full pc ps ts = true → z_at full td (pc + dflt) = true → z_sw c x (z_lpl ps ts) td → ∃ t, z_at full t (pc + Op.lookupswitch.offset ps dflt x) = true ∧ c t
  | [], [], _, h, hc => ⟨td, h, hc⟩
  | (v, o) :: ps, t :: ts, h, h2, hc => by
    simp only [z_lk, Bool.and_eq_true] at h
    obtain ⟨h3, h4⟩ := hc
    rw [Op.lookupswitch.offset_cons]
    by_cases hx : v = x
    · rw [if_pos hx]; exact ⟨t, h.1, h3 hx.symm⟩
    · rw [if_neg hx]; exact z_sw_lk ps ts h.2 h2 (h4 (fun w => hx w.symm))
  | [], _ :: _, h, _, _ => by simp [z_lk] at h
  | _ :: _, [], h, _, _ => by simp [z_lk] at h
theorem z_ck_sp {b : Bool} {P : Prop} (h : z_ck b P) : b = true ∧ P := by
  cases b
  · exact absurd h id
  · exact ⟨rfl, h⟩
theorem z_cw_sp {ci : Nat} {f : vw_C → Bool} (h : z_cw ci f = true) : ∃ q, z_cl[ci]? = some q ∧ f q = true := by
  unfold z_cw at h
  split at h
  · next q hq => exact ⟨q, hq, h⟩
  · cases h
theorem z_pop_sp : ∀ (n : Nat) (as st as' st' : List z_V), z_pop n as st = some (as', st') → ∃ l, as' = l.reverse ++ as ∧ st = l ++ st' ∧ l.length = n
  | 0, as, st, as', st', h => by cases h; exact ⟨[], rfl, rfl, rfl⟩
  | n + 1, as, [], as', st', h => by cases h
  | n + 1, as, v :: st, as', st', h => by
    obtain ⟨l, h1, h2, h3⟩ := z_pop_sp n (v :: as) st as' st' h
    exact ⟨v :: l, by rw [h1]; simp, by rw [h2]; rfl, by simp [h3]⟩
end ZS
